section
-- ===== PART A: goes FIRST, ahead of the names: the tables' words, and 'selects' of the private methods out of them =====
/-- a private method of a class that the tables say can be made, by its rows of tables_1 -/
def lw_okq (q : MethodName × Nat) : Prop := (q.1.cls ≠ "java/lang/invoke/MethodHandle" ∧ q.1.cls ≠ "java/lang/invoke/VarHandle") ∧ Cond.instantiable q.1.cls q.2 ∈ tables_1 ∧ Cond.privateMethod q.1 ∈ tables_1 ∧ Cond.instanceMethod q.1 ∈ tables_1
theorem lw_p0 : lw_okq (⟨"java/lang/Throwable", "fillInStackTrace", "(I)Ljava/lang/Throwable;"⟩, 6) := ⟨⟨by decide +kernel, by decide +kernel⟩, List.mem_of_getElem? (i := 402) (by decide +kernel), List.mem_of_getElem? (i := 400) (by decide +kernel), List.mem_of_getElem? (i := 401) (by decide +kernel)⟩
theorem lw_p1 : lw_okq (⟨"SwitchGraphs$Reader", "advance", "()V"⟩, 13) := ⟨⟨by decide +kernel, by decide +kernel⟩, List.mem_of_getElem? (i := 37) (by decide +kernel), List.mem_of_getElem? (i := 438) (by decide +kernel), List.mem_of_getElem? (i := 439) (by decide +kernel)⟩
theorem lw_p2 : lw_okq (⟨"SwitchGraphs$Reader", "byteAt", "(I)I"⟩, 13) := ⟨⟨by decide +kernel, by decide +kernel⟩, List.mem_of_getElem? (i := 37) (by decide +kernel), List.mem_of_getElem? (i := 442) (by decide +kernel), List.mem_of_getElem? (i := 443) (by decide +kernel)⟩
theorem lw_p3 : lw_okq (⟨"SwitchGraphs$Reader", "takeWord", "()V"⟩, 13) := ⟨⟨by decide +kernel, by decide +kernel⟩, List.mem_of_getElem? (i := 37) (by decide +kernel), List.mem_of_getElem? (i := 452) (by decide +kernel), List.mem_of_getElem? (i := 453) (by decide +kernel)⟩
theorem lw_p4 : lw_okq (⟨"SwitchGraphs$Reader", "takeNumber", "()V"⟩, 13) := ⟨⟨by decide +kernel, by decide +kernel⟩, List.mem_of_getElem? (i := 37) (by decide +kernel), List.mem_of_getElem? (i := 459) (by decide +kernel), List.mem_of_getElem? (i := 460) (by decide +kernel)⟩
theorem lw_p5 : lw_okq (⟨"SwitchGraphs$Reader", "readFirst", "()Z"⟩, 13) := ⟨⟨by decide +kernel, by decide +kernel⟩, List.mem_of_getElem? (i := 37) (by decide +kernel), List.mem_of_getElem? (i := 463) (by decide +kernel), List.mem_of_getElem? (i := 464) (by decide +kernel)⟩
theorem lw_p6 : lw_okq (⟨"SwitchGraphs$Reader", "begin", "(I)V"⟩, 13) := ⟨⟨by decide +kernel, by decide +kernel⟩, List.mem_of_getElem? (i := 37) (by decide +kernel), List.mem_of_getElem? (i := 467) (by decide +kernel), List.mem_of_getElem? (i := 468) (by decide +kernel)⟩
theorem lw_p7 : lw_okq (⟨"SwitchGraphs$Reader", "isWord", "(Ljava/lang/String;)Z"⟩, 13) := ⟨⟨by decide +kernel, by decide +kernel⟩, List.mem_of_getElem? (i := 37) (by decide +kernel), List.mem_of_getElem? (i := 476) (by decide +kernel), List.mem_of_getElem? (i := 477) (by decide +kernel)⟩
theorem lw_p8 : lw_okq (⟨"SwitchGraphs$Reader", "readVertices", "()Z"⟩, 13) := ⟨⟨by decide +kernel, by decide +kernel⟩, List.mem_of_getElem? (i := 37) (by decide +kernel), List.mem_of_getElem? (i := 482) (by decide +kernel), List.mem_of_getElem? (i := 483) (by decide +kernel)⟩
theorem lw_p9 : lw_okq (⟨"SwitchGraphs$Reader", "expectNumber", "(II)Z"⟩, 13) := ⟨⟨by decide +kernel, by decide +kernel⟩, List.mem_of_getElem? (i := 37) (by decide +kernel), List.mem_of_getElem? (i := 486) (by decide +kernel), List.mem_of_getElem? (i := 487) (by decide +kernel)⟩
theorem lw_p10 : lw_okq (⟨"SwitchGraphs$Reader", "fail", "(I)Z"⟩, 13) := ⟨⟨by decide +kernel, by decide +kernel⟩, List.mem_of_getElem? (i := 37) (by decide +kernel), List.mem_of_getElem? (i := 490) (by decide +kernel), List.mem_of_getElem? (i := 491) (by decide +kernel)⟩
theorem lw_p11 : lw_okq (⟨"SwitchGraphs$Reader", "expectSemicolon", "()Z"⟩, 13) := ⟨⟨by decide +kernel, by decide +kernel⟩, List.mem_of_getElem? (i := 37) (by decide +kernel), List.mem_of_getElem? (i := 494) (by decide +kernel), List.mem_of_getElem? (i := 495) (by decide +kernel)⟩
theorem lw_p12 : lw_okq (⟨"SwitchGraphs$Reader", "readDegrees", "()Z"⟩, 13) := ⟨⟨by decide +kernel, by decide +kernel⟩, List.mem_of_getElem? (i := 37) (by decide +kernel), List.mem_of_getElem? (i := 499) (by decide +kernel), List.mem_of_getElem? (i := 500) (by decide +kernel)⟩
theorem lw_p13 : lw_okq (⟨"SwitchGraphs$Sequence", "insertFalling", "(I)V"⟩, 5) := ⟨⟨by decide +kernel, by decide +kernel⟩, List.mem_of_getElem? (i := 61) (by decide +kernel), List.mem_of_getElem? (i := 516) (by decide +kernel), List.mem_of_getElem? (i := 517) (by decide +kernel)⟩
theorem lw_p14 : lw_okq (⟨"SwitchGraphs$Sequence", "buildWithLoops", "(LSwitchGraphs$Graph;)V"⟩, 5) := ⟨⟨by decide +kernel, by decide +kernel⟩, List.mem_of_getElem? (i := 61) (by decide +kernel), List.mem_of_getElem? (i := 533) (by decide +kernel), List.mem_of_getElem? (i := 534) (by decide +kernel)⟩
theorem lw_p15 : lw_okq (⟨"SwitchGraphs$Sequence", "buildWithoutLoops", "(LSwitchGraphs$Graph;)V"⟩, 5) := ⟨⟨by decide +kernel, by decide +kernel⟩, List.mem_of_getElem? (i := 61) (by decide +kernel), List.mem_of_getElem? (i := 541) (by decide +kernel), List.mem_of_getElem? (i := 542) (by decide +kernel)⟩
def lw_privs_1 : List (MethodName × Nat) := [(⟨"java/lang/Throwable", "fillInStackTrace", "(I)Ljava/lang/Throwable;"⟩, 6), (⟨"SwitchGraphs$Reader", "advance", "()V"⟩, 13), (⟨"SwitchGraphs$Reader", "byteAt", "(I)I"⟩, 13), (⟨"SwitchGraphs$Reader", "takeWord", "()V"⟩, 13), (⟨"SwitchGraphs$Reader", "takeNumber", "()V"⟩, 13), (⟨"SwitchGraphs$Reader", "readFirst", "()Z"⟩, 13), (⟨"SwitchGraphs$Reader", "begin", "(I)V"⟩, 13), (⟨"SwitchGraphs$Reader", "isWord", "(Ljava/lang/String;)Z"⟩, 13), (⟨"SwitchGraphs$Reader", "readVertices", "()Z"⟩, 13), (⟨"SwitchGraphs$Reader", "expectNumber", "(II)Z"⟩, 13), (⟨"SwitchGraphs$Reader", "fail", "(I)Z"⟩, 13), (⟨"SwitchGraphs$Reader", "expectSemicolon", "()Z"⟩, 13), (⟨"SwitchGraphs$Reader", "readDegrees", "()Z"⟩, 13), (⟨"SwitchGraphs$Sequence", "insertFalling", "(I)V"⟩, 5), (⟨"SwitchGraphs$Sequence", "buildWithLoops", "(LSwitchGraphs$Graph;)V"⟩, 5), (⟨"SwitchGraphs$Sequence", "buildWithoutLoops", "(LSwitchGraphs$Graph;)V"⟩, 5)]
theorem lw_r1 : ∀ q ∈ lw_privs_1, lw_okq q := List.forall_mem_cons.mpr ⟨lw_p0, List.forall_mem_cons.mpr ⟨lw_p1, List.forall_mem_cons.mpr ⟨lw_p2, List.forall_mem_cons.mpr ⟨lw_p3, List.forall_mem_cons.mpr ⟨lw_p4, List.forall_mem_cons.mpr ⟨lw_p5, List.forall_mem_cons.mpr ⟨lw_p6, List.forall_mem_cons.mpr ⟨lw_p7, List.forall_mem_cons.mpr ⟨lw_p8, List.forall_mem_cons.mpr ⟨lw_p9, List.forall_mem_cons.mpr ⟨lw_p10, List.forall_mem_cons.mpr ⟨lw_p11, List.forall_mem_cons.mpr ⟨lw_p12, List.forall_mem_cons.mpr ⟨lw_p13, List.forall_mem_cons.mpr ⟨lw_p14, List.forall_mem_cons.mpr ⟨lw_p15, fun _ h => absurd h List.not_mem_nil⟩⟩⟩⟩⟩⟩⟩⟩⟩⟩⟩⟩⟩⟩⟩⟩
theorem lw_p16 : lw_okq (⟨"SwitchGraphs$Sequence", "neediestBut", "(I)I"⟩, 5) := ⟨⟨by decide +kernel, by decide +kernel⟩, List.mem_of_getElem? (i := 61) (by decide +kernel), List.mem_of_getElem? (i := 545) (by decide +kernel), List.mem_of_getElem? (i := 546) (by decide +kernel)⟩
theorem lw_p17 : lw_okq (⟨"SwitchGraphs$Sequence", "join", "(LSwitchGraphs$Graph;II)V"⟩, 5) := ⟨⟨by decide +kernel, by decide +kernel⟩, List.mem_of_getElem? (i := 61) (by decide +kernel), List.mem_of_getElem? (i := 549) (by decide +kernel), List.mem_of_getElem? (i := 550) (by decide +kernel)⟩
theorem lw_p18 : lw_okq (⟨"SwitchGraphs$Sequence", "buildSimple", "(LSwitchGraphs$Graph;)V"⟩, 5) := ⟨⟨by decide +kernel, by decide +kernel⟩, List.mem_of_getElem? (i := 61) (by decide +kernel), List.mem_of_getElem? (i := 553) (by decide +kernel), List.mem_of_getElem? (i := 554) (by decide +kernel)⟩
theorem lw_p19 : lw_okq (⟨"SwitchGraphs$Reader", "readOther", "()Z"⟩, 13) := ⟨⟨by decide +kernel, by decide +kernel⟩, List.mem_of_getElem? (i := 37) (by decide +kernel), List.mem_of_getElem? (i := 558) (by decide +kernel), List.mem_of_getElem? (i := 559) (by decide +kernel)⟩
theorem lw_p20 : lw_okq (⟨"SwitchGraphs$Reader", "readEdge", "(LSwitchGraphs$Graph;)Z"⟩, 13) := ⟨⟨by decide +kernel, by decide +kernel⟩, List.mem_of_getElem? (i := 37) (by decide +kernel), List.mem_of_getElem? (i := 563) (by decide +kernel), List.mem_of_getElem? (i := 564) (by decide +kernel)⟩
theorem lw_p21 : lw_okq (⟨"SwitchGraphs$Reader", "readModeNumber", "()Z"⟩, 13) := ⟨⟨by decide +kernel, by decide +kernel⟩, List.mem_of_getElem? (i := 37) (by decide +kernel), List.mem_of_getElem? (i := 575) (by decide +kernel), List.mem_of_getElem? (i := 576) (by decide +kernel)⟩
theorem lw_p22 : lw_okq (⟨"SwitchGraphsLaw", "told", "()Ljava/lang/String;"⟩, 5) := ⟨⟨by decide +kernel, by decide +kernel⟩, List.mem_of_getElem? (i := 266) (by decide +kernel), List.mem_of_getElem? (i := 600) (by decide +kernel), List.mem_of_getElem? (i := 601) (by decide +kernel)⟩
theorem lw_p23 : lw_okq (⟨"SwitchGraphsLaw", "from", "(II)I"⟩, 5) := ⟨⟨by decide +kernel, by decide +kernel⟩, List.mem_of_getElem? (i := 266) (by decide +kernel), List.mem_of_getElem? (i := 604) (by decide +kernel), List.mem_of_getElem? (i := 605) (by decide +kernel)⟩
theorem lw_p24 : lw_okq (⟨"SwitchGraphsLaw", "chosen", "(I)I"⟩, 5) := ⟨⟨by decide +kernel, by decide +kernel⟩, List.mem_of_getElem? (i := 266) (by decide +kernel), List.mem_of_getElem? (i := 608) (by decide +kernel), List.mem_of_getElem? (i := 609) (by decide +kernel)⟩
theorem lw_p25 : lw_okq (⟨"SwitchGraphsLaw", "edges", "()I"⟩, 5) := ⟨⟨by decide +kernel, by decide +kernel⟩, List.mem_of_getElem? (i := 266) (by decide +kernel), List.mem_of_getElem? (i := 844) (by decide +kernel), List.mem_of_getElem? (i := 845) (by decide +kernel)⟩
theorem lw_p26 : lw_okq (⟨"SwitchGraphsLaw", "isGraph", "(LSwitchGraphs;)Z"⟩, 5) := ⟨⟨by decide +kernel, by decide +kernel⟩, List.mem_of_getElem? (i := 266) (by decide +kernel), List.mem_of_getElem? (i := 848) (by decide +kernel), List.mem_of_getElem? (i := 849) (by decide +kernel)⟩
theorem lw_p27 : lw_okq (⟨"SwitchGraphs", "checkVertex", "(I)V"⟩, 12) := ⟨⟨by decide +kernel, by decide +kernel⟩, List.mem_of_getElem? (i := 29) (by decide +kernel), List.mem_of_getElem? (i := 856) (by decide +kernel), List.mem_of_getElem? (i := 857) (by decide +kernel)⟩
theorem lw_p28 : lw_okq (⟨"SwitchGraphs", "choose", "(Z)LSwitchGraphs$Graph;"⟩, 12) := ⟨⟨by decide +kernel, by decide +kernel⟩, List.mem_of_getElem? (i := 29) (by decide +kernel), List.mem_of_getElem? (i := 876) (by decide +kernel), List.mem_of_getElem? (i := 877) (by decide +kernel)⟩
theorem lw_p29 : lw_okq (⟨"SwitchGraphsLaw", "degree", "(I)I"⟩, 5) := ⟨⟨by decide +kernel, by decide +kernel⟩, List.mem_of_getElem? (i := 266) (by decide +kernel), List.mem_of_getElem? (i := 888) (by decide +kernel), List.mem_of_getElem? (i := 889) (by decide +kernel)⟩
theorem lw_p30 : lw_okq (⟨"SwitchGraphsLaw", "many", "(II)I"⟩, 5) := ⟨⟨by decide +kernel, by decide +kernel⟩, List.mem_of_getElem? (i := 266) (by decide +kernel), List.mem_of_getElem? (i := 892) (by decide +kernel), List.mem_of_getElem? (i := 893) (by decide +kernel)⟩
theorem lw_p31 : lw_okq (⟨"SwitchGraphs$Graph", "commonNeighboursBehind", "(II)I"⟩, 3) := ⟨⟨by decide +kernel, by decide +kernel⟩, List.mem_of_getElem? (i := 43) (by decide +kernel), List.mem_of_getElem? (i := 931) (by decide +kernel), List.mem_of_getElem? (i := 932) (by decide +kernel)⟩
def lw_privs_2 : List (MethodName × Nat) := [(⟨"SwitchGraphs$Sequence", "neediestBut", "(I)I"⟩, 5), (⟨"SwitchGraphs$Sequence", "join", "(LSwitchGraphs$Graph;II)V"⟩, 5), (⟨"SwitchGraphs$Sequence", "buildSimple", "(LSwitchGraphs$Graph;)V"⟩, 5), (⟨"SwitchGraphs$Reader", "readOther", "()Z"⟩, 13), (⟨"SwitchGraphs$Reader", "readEdge", "(LSwitchGraphs$Graph;)Z"⟩, 13), (⟨"SwitchGraphs$Reader", "readModeNumber", "()Z"⟩, 13), (⟨"SwitchGraphsLaw", "told", "()Ljava/lang/String;"⟩, 5), (⟨"SwitchGraphsLaw", "from", "(II)I"⟩, 5), (⟨"SwitchGraphsLaw", "chosen", "(I)I"⟩, 5), (⟨"SwitchGraphsLaw", "edges", "()I"⟩, 5), (⟨"SwitchGraphsLaw", "isGraph", "(LSwitchGraphs;)Z"⟩, 5), (⟨"SwitchGraphs", "checkVertex", "(I)V"⟩, 12), (⟨"SwitchGraphs", "choose", "(Z)LSwitchGraphs$Graph;"⟩, 12), (⟨"SwitchGraphsLaw", "degree", "(I)I"⟩, 5), (⟨"SwitchGraphsLaw", "many", "(II)I"⟩, 5), (⟨"SwitchGraphs$Graph", "commonNeighboursBehind", "(II)I"⟩, 3)]
theorem lw_r2 : ∀ q ∈ lw_privs_2, lw_okq q := List.forall_mem_cons.mpr ⟨lw_p16, List.forall_mem_cons.mpr ⟨lw_p17, List.forall_mem_cons.mpr ⟨lw_p18, List.forall_mem_cons.mpr ⟨lw_p19, List.forall_mem_cons.mpr ⟨lw_p20, List.forall_mem_cons.mpr ⟨lw_p21, List.forall_mem_cons.mpr ⟨lw_p22, List.forall_mem_cons.mpr ⟨lw_p23, List.forall_mem_cons.mpr ⟨lw_p24, List.forall_mem_cons.mpr ⟨lw_p25, List.forall_mem_cons.mpr ⟨lw_p26, List.forall_mem_cons.mpr ⟨lw_p27, List.forall_mem_cons.mpr ⟨lw_p28, List.forall_mem_cons.mpr ⟨lw_p29, List.forall_mem_cons.mpr ⟨lw_p30, List.forall_mem_cons.mpr ⟨lw_p31, fun _ h => absurd h List.not_mem_nil⟩⟩⟩⟩⟩⟩⟩⟩⟩⟩⟩⟩⟩⟩⟩⟩
theorem lw_p32 : lw_okq (⟨"SwitchGraphs$Parts", "merge", "(II)V"⟩, 3) := ⟨⟨by decide +kernel, by decide +kernel⟩, List.mem_of_getElem? (i := 125) (by decide +kernel), List.mem_of_getElem? (i := 945) (by decide +kernel), List.mem_of_getElem? (i := 946) (by decide +kernel)⟩
theorem lw_p33 : lw_okq (⟨"SwitchGraphs$Parts", "countBefore", "(I)I"⟩, 3) := ⟨⟨by decide +kernel, by decide +kernel⟩, List.mem_of_getElem? (i := 125) (by decide +kernel), List.mem_of_getElem? (i := 955) (by decide +kernel), List.mem_of_getElem? (i := 956) (by decide +kernel)⟩
theorem lw_p34 : lw_okq (⟨"SwitchGraphsLaw", "isSequence", "(LSwitchGraphs;)Z"⟩, 5) := ⟨⟨by decide +kernel, by decide +kernel⟩, List.mem_of_getElem? (i := 266) (by decide +kernel), List.mem_of_getElem? (i := 964) (by decide +kernel), List.mem_of_getElem? (i := 965) (by decide +kernel)⟩
theorem lw_p35 : lw_okq (⟨"SwitchGraphs", "checkMode", "(I)V"⟩, 12) := ⟨⟨by decide +kernel, by decide +kernel⟩, List.mem_of_getElem? (i := 29) (by decide +kernel), List.mem_of_getElem? (i := 997) (by decide +kernel), List.mem_of_getElem? (i := 998) (by decide +kernel)⟩
theorem lw_p36 : lw_okq (⟨"SwitchGraphs$Sequence", "hasNoNegativeSlack", "()Z"⟩, 5) := ⟨⟨by decide +kernel, by decide +kernel⟩, List.mem_of_getElem? (i := 61) (by decide +kernel), List.mem_of_getElem? (i := 1006) (by decide +kernel), List.mem_of_getElem? (i := 1007) (by decide +kernel)⟩
theorem lw_p37 : lw_okq (⟨"SwitchGraphsLaw", "isReason", "(LSwitchGraphs;)Z"⟩, 5) := ⟨⟨by decide +kernel, by decide +kernel⟩, List.mem_of_getElem? (i := 266) (by decide +kernel), List.mem_of_getElem? (i := 1011) (by decide +kernel), List.mem_of_getElem? (i := 1012) (by decide +kernel)⟩
theorem lw_p38 : lw_okq (⟨"SwitchGraphs", "checkVertices", "(IIII)V"⟩, 12) := ⟨⟨by decide +kernel, by decide +kernel⟩, List.mem_of_getElem? (i := 29) (by decide +kernel), List.mem_of_getElem? (i := 1022) (by decide +kernel), List.mem_of_getElem? (i := 1023) (by decide +kernel)⟩
theorem lw_p39 : lw_okq (⟨"SwitchGraphs", "remember", "()V"⟩, 12) := ⟨⟨by decide +kernel, by decide +kernel⟩, List.mem_of_getElem? (i := 29) (by decide +kernel), List.mem_of_getElem? (i := 1042) (by decide +kernel), List.mem_of_getElem? (i := 1043) (by decide +kernel)⟩
theorem lw_p40 : lw_okq (⟨"SwitchGraphsLaw", "isNoEdge", "(LSwitchGraphs;)Z"⟩, 5) := ⟨⟨by decide +kernel, by decide +kernel⟩, List.mem_of_getElem? (i := 266) (by decide +kernel), List.mem_of_getElem? (i := 1052) (by decide +kernel), List.mem_of_getElem? (i := 1053) (by decide +kernel)⟩
theorem lw_p41 : lw_okq (⟨"SwitchGraphs", "checkEdge", "(II)V"⟩, 12) := ⟨⟨by decide +kernel, by decide +kernel⟩, List.mem_of_getElem? (i := 29) (by decide +kernel), List.mem_of_getElem? (i := 1061) (by decide +kernel), List.mem_of_getElem? (i := 1062) (by decide +kernel)⟩
def lw_privs_3 : List (MethodName × Nat) := [(⟨"SwitchGraphs$Parts", "merge", "(II)V"⟩, 3), (⟨"SwitchGraphs$Parts", "countBefore", "(I)I"⟩, 3), (⟨"SwitchGraphsLaw", "isSequence", "(LSwitchGraphs;)Z"⟩, 5), (⟨"SwitchGraphs", "checkMode", "(I)V"⟩, 12), (⟨"SwitchGraphs$Sequence", "hasNoNegativeSlack", "()Z"⟩, 5), (⟨"SwitchGraphsLaw", "isReason", "(LSwitchGraphs;)Z"⟩, 5), (⟨"SwitchGraphs", "checkVertices", "(IIII)V"⟩, 12), (⟨"SwitchGraphs", "remember", "()V"⟩, 12), (⟨"SwitchGraphsLaw", "isNoEdge", "(LSwitchGraphs;)Z"⟩, 5), (⟨"SwitchGraphs", "checkEdge", "(II)V"⟩, 12)]
theorem lw_r3 : ∀ q ∈ lw_privs_3, lw_okq q := List.forall_mem_cons.mpr ⟨lw_p32, List.forall_mem_cons.mpr ⟨lw_p33, List.forall_mem_cons.mpr ⟨lw_p34, List.forall_mem_cons.mpr ⟨lw_p35, List.forall_mem_cons.mpr ⟨lw_p36, List.forall_mem_cons.mpr ⟨lw_p37, List.forall_mem_cons.mpr ⟨lw_p38, List.forall_mem_cons.mpr ⟨lw_p39, List.forall_mem_cons.mpr ⟨lw_p40, List.forall_mem_cons.mpr ⟨lw_p41, fun _ h => absurd h List.not_mem_nil⟩⟩⟩⟩⟩⟩⟩⟩⟩⟩
def lw_privs : List (MethodName × Nat) := lw_privs_1 ++ (lw_privs_2 ++ (lw_privs_3))
def lw_tbl : List Cond := k2_sels lw_privs ++ tables_1
theorem lw_privs_ok : ∀ q ∈ lw_privs, lw_okq q := by
  show ∀ q ∈ lw_privs_1 ++ (lw_privs_2 ++ (lw_privs_3)), lw_okq q
  exact List.forall_mem_append.mpr ⟨lw_r1, List.forall_mem_append.mpr ⟨lw_r2, lw_r3⟩⟩
/-- the streams that the claim lets the run draw from -/
abbrev lw_cs : List Choice := [Jvm.Choice.named "NaN.bits"]
theorem lw_bits : nanBits ∈ lw_cs := by first | decide | exact List.mem_cons_self | simp [lw_cs, nanBits]
-- ===== end of PART A; then your names; then what follows =====
end
section
/-! arrays of arrays: the word that the printed row va_mna asks for -/
def va_AOA (t : FieldType) (U : State) : Prop := (Cond.arrayOver (.array t)).before #[] U = true
theorem va_AOA.of {t : FieldType} {A : Array Value} {U : State} (h : (Cond.arrayOver (.array t)).before A U = true) : va_AOA t U := h
theorem va_AOA.use {t : FieldType} {A : Array Value} {U : State} (h : va_AOA t U) : (Cond.arrayOver (.array t)).before A U = true := h
theorem va_AOA.moved {t : FieldType} {u U : State} (hal : u.vm.Alike U.vm) (h : va_AOA t u) : va_AOA t U := over_moved hal h
end
section
/-! ===== BEGIN words of one list among another's, by their places ===== -/
theorem goodIn_r {big : List Cond} (ws : List Cond) (ps : List Nat) (hp : ws = ps.filterMap (fun i => big[i]?)) (h : ws.all goodWord = true) : GoodIn big ws := by
  intro w hw
  have h1 := List.all_eq_true.mp h w hw
  rw [hp] at hw
  obtain ⟨i, -, hi⟩ := List.mem_filterMap.mp hw
  have hm : w ∈ big := by first | exact List.mem_of_getElem? hi | exact List.getElem?_mem hi
  exact ⟨hm, good_of_word h1⟩
theorem goodIn_app {big a b : List Cond} (ha : GoodIn big a) (hb : GoodIn big b) : GoodIn big (a ++ b) := fun w h => (List.mem_append.mp h).elim (ha w) (hb w)
theorem goodIn_ca {big a b : List Cond} {c : Cond} (ha : GoodIn big (c :: a)) (hb : GoodIn big b) : GoodIn big (c :: (a ++ b)) := fun w h => (List.mem_cons.mp h).elim (fun e => ha w (List.mem_cons.mpr (Or.inl e))) (fun h => (List.mem_append.mp h).elim (fun h => ha w (List.mem_cons.mpr (Or.inr h))) (hb w))
theorem goodIn_sub {big ws : List Cond} (hm : ∀ w ∈ ws, w ∈ big) (h : ws.all goodWord = true) : GoodIn big ws := fun w hw => ⟨hm w hw, good_of_word (List.all_eq_true.mp h w hw)⟩
/-! ===== END ===== -/

/-! ===== BEGIN new T[n][m]: the outer array a place, the inner ones among the pooled ===== -/
/-- f, but v at every address of l -/
def vr_up {α : Type} (f : Nat → α) (l : List Nat) (v : α) : Nat → α := fun a => if a ∈ l then v else f a
theorem vr_up_in {α : Type} {f : Nat → α} {l : List Nat} {v : α} {a : Nat} (h : a ∈ l) : vr_up f l v a = v := if_pos h
theorem vr_up_ne {α : Type} {f : Nat → α} {l : List Nat} {v : α} {a : Nat} (h : a ∉ l) : vr_up f l v a = f a := if_neg h
theorem vr_rows {L l : List Nat} {f : Nat → va_E} {e : va_E} (h : ∀ a, a ∈ l → a ∉ L) : va_pl L f ++ l.map (fun a => (a, e)) = va_pl (L ++ l) (vr_up f l e) := by
  unfold va_pl
  rw [List.map_append]
  congr 1
  · apply List.map_congr_left
    intro a ha
    rw [vr_up_ne (fun q => h a q ha)]
  · apply List.map_congr_left
    intro a ha
    rw [vr_up_in ha]
theorem vr_lay {X rows : va_W} {x : Nat × va_E} {pl : va_W} {D : va_G} {cl : List vw_C} {H : Heap} (hP : va_P D cl (((X ++ pl) ++ [x]) ++ rows) H) : va_P D cl ((X ++ [x]) ++ (pl ++ rows)) H := by
  rw [List.append_assoc (X ++ pl)] at hP
  have h := va_P.swap hP
  rw [← List.append_assoc X] at h
  have h2 := va_P.swap h
  rw [List.append_assoc (X ++ [x])] at h2
  exact h2
theorem vr_layD {X rows : va_W} {x : Nat × va_E} {pl : va_W} {A : Nat → Prop} (hD : va_D A (((X ++ pl) ++ [x]) ++ rows)) : va_D A ((X ++ [x]) ++ (pl ++ rows)) := by
  rw [List.append_assoc (X ++ pl)] at hD
  have h := va_D.swap hD
  rw [← List.append_assoc X] at h
  have h2 := va_D.swap h
  rw [List.append_assoc (X ++ [x])] at h2
  exact h2
theorem vr_outer (c : ClassId) (N h0 : Nat) : ∀ i : Nat, Jvm.Free.Multi.outerC c N h0 i = arrV c N (fun j => va_rf (if j < i then some (h0 + 1 + j) else none))
  | 0 => by
    show ({ cls := c, slots := Array.replicate N .null, vm := .none } : Cell) = _
    rw [arrV_new]
    refine congrArg (arrV c N) (funext fun j => ?_)
    simp [va_rf]
  | i + 1 => by
    show (Jvm.Free.Multi.outerC c N h0 i).setSlot i (.ref (h0 + 1 + i)) = _
    rw [vr_outer c N h0 i, arrV_store]
    refine congrArg (arrV c N) (funext fun j => ?_)
    by_cases e : j = i
    · subst e
      simp [updV, va_rf]
    · by_cases h : j < i
      · simp [updV, e, h, Nat.lt_succ_of_lt h]
      · simp [updV, e, h, show ¬ j < i + 1 by omega]
section VGM
variable {p : Program} {l : Launch} {e : Env} {R : Room} {s : State} {m : MethodId} {args : Array Value} {below : List Frame} {meth : Method} {c : Code} {H : Heap} {locs : List Loc} {cells slots : Nat} {Q : State → Prop}
variable {cc : ByteArray} {pc : Nat} {ls : Array Slot} {rest : List Value} {D : va_G} {cl : List vw_C} {A : Nat → Prop} {a : Nat} {tys : List (ClassId × FieldType)} {ws : va_W} {H0 : Heap}
theorem va_mna {X : va_W} {L : List Nat} {f : Nat → va_E} {cc : ByteArray} (hexec : p.tables.exec = Jvm.exec) (hb : c.code = cc) {own : String} {index : Nat} {ty : FieldType} {cy : ClassId} (hown : s.vm.findClass own = some m.cls) (hclink : (Cond.classLink own index ("[" ++ (FieldType.array ty).toString)).before args s = true) (hover : va_AOA ty s) (harr : (Cond.arrayClass ty).before args s = true) (hcy : s.vm.findClass (FieldType.array ty).toString = some cy)
    (hK : va_K D cl tys s) (hP : va_P D cl (X ++ va_pl L f) H) (hD : va_D A (X ++ va_pl L f)) (hS : va_S A H0 H locs) (hA : ∀ q, H0.size ≤ q → A q) {n k : Int32} {N' K' : Nat} {z : vp_A} (hn : ¬ n < 0) (hk : ¬ k < 0) (hN : n.toNatClampNeg = N') (hM : k.toNatClampNeg = K')
    (hb1 : N' * 4 ≤ 536870912) (hb2 : K' * componentBytes ty ≤ 536870912) (hb3 : K' ≤ 536870912) (hdf : fits ty (defaultValue ty) = true) (hdd : (defaultValue ty).isDefault = true) (hcells : cells + (1 + N') ≤ R.cells) (hslots : slots + (N' + N' * K') ≤ R.slots) (hz : ∀ c : ClassId, Jvm.Free.Multi.innerC c K' (defaultValue ty) = vp_cell c z) (hdg : decode cc pc = .ok (.multianewarray index 2, 4))
    (kk : ∀ (q : Nat) (r : Nat → Nat) (cA : ClassId) (H1 : Heap), (∀ i j : Nat, i < N' → j < N' → r i = r j → i = j) → (∀ i : Nat, i < N' → r i ∉ L) → va_K D cl (tys ++ [(cA, .array ty)]) s →
      va_P D cl ((X ++ [(q, .inl (cA, N', .inr (.inr (.inr (.inr (fun i => if i < N' then some (r i) else none))))))]) ++ va_pl (L ++ (List.range N').map r) (vr_up f ((List.range N').map r) (.inl (cy, z)))) H1 → va_D A ((X ++ [(q, .inl (cA, N', .inr (.inr (.inr (.inr (fun i => if i < N' then some (r i) else none))))))]) ++ va_pl (L ++ (List.range N').map r) (vr_up f ((List.range N').map r) (.inl (cy, z)))) → va_S A H0 H1 locs →
      W p l e R s m args below meth c H1 locs (cells + 1 + N') (slots + N' + N' * K') Q (F0 m (pc + 4) ls (.ref q :: rest))) : W p l e R s m args below meth c H locs cells slots Q (F0 m pc ls (.int k :: .int n :: rest)) := by
  subst hN
  subst hM
  intro T hT Xs
  obtain ⟨vm₁, cA, comp, -, fA, fC, hO, -, X', step⟩ := Xs.multianewarray2F hexec hown hclink (va_AOA.use hover) harr (g := F0 m pc ls (.int k :: .int n :: rest)) rfl (by rw [hb]; exact hdg) rfl hn hk hb1 hb2 hb3 hdf hdd hcells hslots
  have ec : some cy = some comp := hcy.symm.trans fC
  cases ec
  generalize hF : Jvm.Free.Multi.fill (T.setVm vm₁) cA cy n.toNatClampNeg k.toNatClampNeg (defaultValue ty) n.toNatClampNeg = F at X' step
  have hTh : (T.setVm vm₁).heap = H := hT
  obtain ⟨f1, f2, -, -⟩ := Jvm.Free.Multi.fill_facts (T.setVm vm₁) cA cy n.toNatClampNeg k.toNatClampNeg (defaultValue ty) n.toNatClampNeg
  rw [hF, hTh] at f1 f2
  have hold : ∀ x : Nat, x < H.size → F.heap[x]? = H[x]? := fun x hx => by
    have := Jvm.Free.Multi.fill_old (T.setVm vm₁) cA cy n.toNatClampNeg k.toNatClampNeg (defaultValue ty) (a := x) (by rw [hTh]; exact hx) n.toNatClampNeg
    rw [hF, hTh] at this
    exact this
  have hrow : ∀ j : Nat, j < n.toNatClampNeg → F.heap[H.size + 1 + j]? = some (vp_cell cy z) := fun j hj => by
    have := Jvm.Free.Multi.fill_inner (T.setVm vm₁) cA cy n.toNatClampNeg k.toNatClampNeg (defaultValue ty) n.toNatClampNeg j hj
    rw [hF, hTh, hz] at this
    exact this
  have hout : Jvm.Free.Multi.outerC cA n.toNatClampNeg H.size n.toNatClampNeg = vp_cell cA (n.toNatClampNeg, .inr (.inr (.inr (.inr (fun i => if i < n.toNatClampNeg then some (H.size + 1 + i) else none))))) := by
    rw [vp_cell_q]
    exact vr_outer cA n.toNatClampNeg H.size n.toNatClampNeg
  rw [hout] at f2
  have hlt : ∀ a, a ∈ L → a < H.size := fun a ha => by
    obtain ⟨k9, hk9⟩ := va_pl_get (X := X) (f := f) ha
    exact (hP k9 _ hk9).lt
  have hnl : ∀ i : Nat, i < n.toNatClampNeg → H.size + 1 + i ∉ L := fun i _ h => by
    have := hlt _ h
    omega
  have hnm : ∀ a, a ∈ (List.range n.toNatClampNeg).map (fun i => H.size + 1 + i) → a ∉ L := fun a ha h => by
    obtain ⟨i, -, rfl⟩ := List.mem_map.mp ha
    have := hlt _ h
    omega
  have hP0 : va_P D cl (X ++ va_pl L f) F.heap := hP.kept (fun k9 x hx => hold x.1 ((hP k9 x hx).lt))
  have hP1 : va_P D cl ((X ++ va_pl L f) ++ [(H.size, .inl (cA, n.toNatClampNeg, .inr (.inr (.inr (.inr (fun i => if i < n.toNatClampNeg then some (H.size + 1 + i) else none))))))]) F.heap := hP0.app (fun k9 x hx => by
    have h0 : k9 < 1 := (List.getElem?_eq_some_iff.mp hx).1
    rw [show k9 = 0 by omega] at hx
    cases hx
    exact f2)
  have hP2 : va_P D cl (((X ++ va_pl L f) ++ [(H.size, .inl (cA, n.toNatClampNeg, .inr (.inr (.inr (.inr (fun i => if i < n.toNatClampNeg then some (H.size + 1 + i) else none))))))]) ++ ((List.range n.toNatClampNeg).map (fun i => H.size + 1 + i)).map (fun a => (a, .inl (cy, z)))) F.heap := hP1.app (fun k9 x hx => by
    obtain ⟨a, ha, rfl⟩ := List.mem_map.mp (List.mem_of_getElem? hx)
    obtain ⟨i, hi, rfl⟩ := List.mem_map.mp ha
    exact hrow i (List.mem_range.mp hi))
  have hD2 : va_D A (((X ++ va_pl L f) ++ [(H.size, .inl (cA, n.toNatClampNeg, .inr (.inr (.inr (.inr (fun i => if i < n.toNatClampNeg then some (H.size + 1 + i) else none))))))]) ++ ((List.range n.toNatClampNeg).map (fun i => H.size + 1 + i)).map (fun a => (a, .inl (cy, z)))) := by
    have hD1 := hD.push (e := .inl (cA, n.toNatClampNeg, .inr (.inr (.inr (.inr (fun i => if i < n.toNatClampNeg then some (H.size + 1 + i) else none)))))) hP rfl (hA _ hS.1)
    generalize hW1 : (X ++ va_pl L f) ++ [(H.size, .inl (cA, n.toNatClampNeg, .inr (.inr (.inr (.inr (fun i => if i < n.toNatClampNeg then some (H.size + 1 + i) else none))))))] = W1 at hD1 hP1 ⊢
    have hle : ∀ (k9 : Nat) (x : Nat × va_E), W1[k9]? = some x → x.1 ≤ H.size := fun k9 x hx => by
      rw [← hW1] at hx
      by_cases hl : k9 < (X ++ va_pl L f).length
      · rw [List.getElem?_append_left hl] at hx
        exact Nat.le_of_lt ((hP k9 x hx).lt)
      · rw [List.getElem?_append_right (by omega)] at hx
        have h0 : k9 - (X ++ va_pl L f).length < 1 := (List.getElem?_eq_some_iff.mp hx).1
        rw [show k9 - (X ++ va_pl L f).length = 0 by omega] at hx
        cases hx
        exact Nat.le_refl _
    have hr : ∀ (k9 : Nat) (x : Nat × va_E), (((List.range n.toNatClampNeg).map (fun i => H.size + 1 + i)).map (fun a => ((a, .inl (cy, z)) : Nat × va_E)))[k9]? = some x → x.1 = H.size + 1 + k9 := fun k9 x hx => by
      rw [List.getElem?_map, List.getElem?_map] at hx
      by_cases h9 : k9 < n.toNatClampNeg
      · rw [List.getElem?_range h9] at hx
        cases hx
        rfl
      · have hn0 : (List.range n.toNatClampNeg)[k9]? = none := List.getElem?_eq_none (by rw [List.length_range]; omega)
        rw [hn0] at hx
        cases hx
    refine ⟨fun i j x y hi hj hxy => ?_, fun k9 x hx => ?_⟩
    · by_cases h1 : i < W1.length <;> by_cases h2 : j < W1.length
      · rw [List.getElem?_append_left h1] at hi
        rw [List.getElem?_append_left h2] at hj
        exact hD1.1 i j x y hi hj hxy
      · rw [List.getElem?_append_left h1] at hi
        rw [List.getElem?_append_right (by omega)] at hj
        have := hle _ _ hi
        have := hr _ _ hj
        omega
      · rw [List.getElem?_append_right (by omega)] at hi
        rw [List.getElem?_append_left h2] at hj
        have := hle _ _ hj
        have := hr _ _ hi
        omega
      · rw [List.getElem?_append_right (by omega)] at hi hj
        have := hr _ _ hi
        have := hr _ _ hj
        omega
    · by_cases h1 : k9 < W1.length
      · rw [List.getElem?_append_left h1] at hx
        exact hD1.2 k9 x hx
      · rw [List.getElem?_append_right (by omega)] at hx
        have := hr _ _ hx
        exact hA _ (by have := hS.1; omega)
  have hAr : ArrOfT s cA (.array ty) := fun N9 z9 => by
    obtain ⟨-, k9, hk9, cm9, hkk9⟩ := (hO 0 0 0).1
    exact ⟨(fun q hq => by cases hq), k9, hk9, cm9, hkk9⟩
  have hK2 : va_K D cl (tys ++ [(cA, .array ty)]) s := ⟨hK.1, fun k9 x hx => by
    by_cases hl : k9 < tys.length
    · rw [List.getElem?_append_left hl] at hx
      exact hK.2 k9 x hx
    · rw [List.getElem?_append_right (by omega)] at hx
      have h0 : k9 - tys.length < 1 := (List.getElem?_eq_some_iff.mp hx).1
      rw [show k9 - tys.length = 0 by omega] at hx
      cases hx
      exact ⟨hAr, fA⟩⟩
  obtain ⟨t, a1, b1⟩ := kk H.size (fun i => H.size + 1 + i) cA F.heap (fun i j _ _ h => by have h9 : H.size + 1 + i = H.size + 1 + j := h; omega) hnl hK2 (by rw [← vr_rows hnm]; exact vr_lay hP2) (by rw [← vr_rows hnm]; exact vr_layD hD2) ⟨by rw [f1]; have := hS.1; omega, fun x h1 h2 => (hold x (Nat.lt_of_lt_of_le h1 hS.1)).trans (hS.2.1 x h1 h2), hS.2.2⟩ F rfl X'
  refine ⟨t, step t ?_, b1⟩
  have e : T.heap.size = H.size := by rw [hT]
  rw [e]
  exact a1
end VGM
/-! ===== END ===== -/

/-! ===== BEGIN exceptions that leave a method, and their catching by the caller (launches without stack traces) ===== -/
section VXA
/-! The laws vx_back, vx_callV, vx_callS, vx_callSW, vx_throw0, vx_throwS follow proofs of the library, with one case more: JvmDerived/Free/Laws.lean (Back.of_free), Shelf42/LK1.lean (callV, callS), Shelf/KitTraced.lean (throwNew0V, throwNewS). -/
/-- where a method has thrown q: the class by its name, the cell, what was written, the world -/
def vx_T (XC : String → State → State → Prop) (st : State) (q : Addr) (t : State) (mc ms : Nat) (free : Addr → Prop) : Prop :=
  ∃ (E : String) (ce : Cell) (L : List Loc), XC E st t ∧ t.heap[q]? = some ce ∧ ce.vm = .none ∧ st.vm.findClass E = some ce.cls ∧ st.WarmedH t.vm ∧ st.sameButNew ({ t with vm := st.vm } : State) L mc ms ∧ ∀ z ∈ L, free z.base
def vx_Q (Qc : Array Value → State → Outcome → State → Prop) (XC : String → State → State → Prop) (mc ms : Nat) (free : Addr → Prop) : Array Value → State → Outcome → State → Prop := fun a st o t =>
  (Qc a st o t ∧ ∃ L, FrameEnd st o t L mc ms ∧ ∀ q ∈ L, free q.base) ∨ ∃ q, o = .threw q ∧ vx_T XC st q t mc ms free
/-- a callee that returns or throws -/
def vx_Met (l : Launch) (y : MethodName) (ws : List Cond) (rm : Room) (Pc : Array Value → State → Prop) (Qc : Array Value → State → Outcome → State → Prop) (XC : String → State → State → Prop) (mc ms : Nat) (free : Addr → Prop) : Prop :=
  MetFree l y (headSpec ws rm) Pc (fun _ _ _ _ _ => True) (vx_Q Qc XC mc ms free)
def vx_Post (XC : String → State → State → Prop) (mc ms : Nat) (free : Addr → Prop) : Pt → Array Value → Addr → Pt → Prop := fun A a q B =>
  ∃ (g : JFrame) (mk : MethodId) (t : State) (L : List Loc) (E : String) (ce : Cell), B.U.heap = t.heap ∧ B.U.vm = t.vm ∧ XC E (A.U.calling g mk a) t ∧ t.heap[q]? = some ce ∧ ce.vm = .none ∧ A.U.vm.findClass E = some ce.cls ∧ B.locs = A.locs ++ L ∧ (∀ z ∈ L, free z.base) ∧ B.cells = A.cells + mc ∧ B.slots = A.slots + ms
def vx_Back (l : Launch) (R : Room) (p : Program) (e : Env) (below : List Frame) (s : State) (sargs : Array Value) (y : MethodName) (len W9 : Nat)
    (Pre : Pt → Array Value → Prop) (Post : Pt → Array Value → Option Value → Pt → Prop) (PostX : Pt → Array Value → Addr → Pt → Prop) : Prop :=
  ∀ (m : MethodId) (meth : Method) (c : Code) (A : Pt) (g : JFrame) (ig : Instr) (mk : MethodId) (a : Array Value),
    Stand p l e R s m sargs below meth c A.U A.locs A.cells A.slots → g.method = m → g.locals.size = c.maxLocals → decode c.code g.pc = .ok (ig, len) →
    2 * g.monitorRoom + (g.stack.map fun v => v.category).sum ≤ W9 → A.U.methodNamed? y = some mk → Pre A a →
    (∃ (v : Option Value) (B : Pt), Stand p l e R s m sargs below meth c B.U B.locs B.cells B.slots ∧ Post A a v B ∧
      Steps p.tables e below (doInvoke e (A.U.setTop g) [] mk a).1 (B.U.setTop { g with pc := g.pc + len, stack := v.toList ++ g.stack })) ∨
    (∃ (q : Addr) (B : Pt), Stand p l e R s m sargs below meth c B.U B.locs B.cells B.slots ∧ PostX A a q B ∧
      Steps p.tables e below (doInvoke e (A.U.setTop g) [] mk a).1 ((B.U.setTop g).pushFrame (.throwing q)))
section Payer
variable {l : Launch} {R : Room} {p : Program} {e : Env} {below : List Frame} {s : State} {sargs : Array Value} {y : MethodName} {len W9 : Nat}
theorem vx_back {ws : List Cond} {rm : Room} {Pc : Array Value → State → Prop} {Qc : Array Value → State → Outcome → State → Prop} {XC : String → State → State → Prop} {mc ms : Nat} {free : Addr → Prop} {bytes : ByteArray} {maxL : Nat} {ret : Option FieldType}
    (hM : vx_Met l y ws rm Pc Qc XC mc ms free) (hblind : FrameBlind Pc) (hrc : rm.cells = mc) (hrs : rm.slots = ms)
    (hframes : rm.frames + 1 ≤ R.frames) (hlocals : W9 + (maxL + 11) + rm.locals ≤ R.locals)
    (hws : ∀ w ∈ ws, ∀ a' U, s.WarmedH U.vm → w.before a' U = true) (hcode : Cond.code y bytes maxL ret ∈ ws) (hinit : ∀ a' U, s.WarmedH U.vm → (Cond.initialized y.cls).before a' U = true) :
    vx_Back l R p e below s sargs y len W9 (PreOf R mc ms Pc) (PostOf Qc mc ms free) (vx_Post XC mc ms free) := by
  intro m meth c A g ig mk a X hg hsize hdg hW hn hp
  have h1 : (headSpec ws rm).pre.before a A.U = true := atoms_intro fun w hw => hws w hw _ _ X.warmed
  have h2 : (Cond.code y bytes maxL ret).before a A.U = true := hws _ hcode _ _ X.warmed
  have h3 : (Cond.initialized y.cls).before a A.U = true := hinit _ _ X.warmed
  have h4 : A.cells + (headSpec ws rm).room.cells ≤ R.cells := by rw [show (headSpec ws rm).room.cells = mc from hrc]; exact hp.1
  have h5 : A.slots + (headSpec ws rm).room.slots ≤ R.slots := by rw [show (headSpec ws rm).room.slots = ms from hrs]; exact hp.2.1
  have hPc : Pc a (A.U.calling g mk a) := hblind _ _ _ _ hp.2.2
  obtain ⟨U, Ls, c0, s0⟩ := A
  dsimp only [Pt.U, Pt.locs, Pt.cells, Pt.slots] at h1 h2 h3 h4 h5 X hn hPc ⊢
  obtain ⟨methY, cY, hmY, hcY, -, hlY, -, -, -, -⟩ := Cond.code_spec hn h2
  obtain ⟨kY, hkY, -⟩ := className_of_methodNamed hn
  have hinitY : kY.init = .initialized := Cond.initialized_spec (findClass_of_methodNamed hn) hkY h3
  have h : At U g.method c below := by rw [hg]; exact X.here
  have hlocals9 : W9 + (maxL + 11) + (headSpec ws rm).room.locals ≤ R.locals := hlocals
  have happ : (headSpec ws rm).appliesLoose y e.platform (U.calling g mk a) = true :=
    Spec.appliesLoose_calling (g := g) h hdg hn hkY hinitY
      (X.room_calling (g := g) (R' := (headSpec ws rm).room) hsize hmY hcY hframes (by rw [hlY]; omega) h4 h5) h1
  obtain ⟨mid, hmid⟩ := h.above
  have hfr : (U.setTop g).frames = (.java g :: mid) ++ below := by rw [State.frames_setTop' g h.top, hmid]; rfl
  obtain ⟨o, s₂, hsteps, -, hend, hq⟩ := Steps.callFree hM p X.admits X.cas X.clock (acts := []) hfr happ hPc trivial
  have hq' : vx_Q Qc XC mc ms free a (U.calling g mk a) o s₂ := hq
  rw [State.frames_setTop' g h.top] at hend
  obtain ⟨g₀, hg0⟩ := Option.isSome_iff_exists.mp h.top
  obtain ⟨r, hr⟩ := State.topJava?_eq_some.mp hg0
  have hr' : (({ U with heap := s₂.heap, slotsUsed := s₂.slotsUsed } : State).setVm s₂.vm).frames = .java g₀ :: r := hr
  rcases hq' with ⟨hqc, L, hfe, hL⟩ | ⟨q, rfl, E, ce, L, hx, hce, hcv, hcl, hW₂, hsm, hL⟩
  · obtain ⟨⟨v, rfl⟩, hW₂, e2, q2, q3, q4, q5, q6⟩ := id hfe
    have e3 : s₂ = ({ (U.calling g mk a).setFrames s₂.frames with heap := s₂.heap, slotsUsed := s₂.slotsUsed } : State).setVm s₂.vm := by
      have : s₂ = ({ s₂ with vm := (U.calling g mk a).vm } : State).setVm s₂.vm := rfl
      rw [e2] at this
      exact this
    obtain ⟨c₂, i₂, len₂, hc₂, hd₂, hf₂⟩ := hend
    have hW' : U.WarmedH s₂.vm := hW₂
    have hcc : c₂ = c := by
      have h1 : s₂.code? g.method = U.code? g.method := by
        rw [State.code?_eq, State.code?_eq, hW'.alike.method?]
      exact Option.some.inj (hc₂.symm.trans (h1.trans h.code))
    subst hcc
    have hlen : len₂ = len := by rw [hdg] at hd₂; cases hd₂; rfl
    subst hlen
    have hs₂ : s₂ = (({ U with heap := s₂.heap, slotsUsed := s₂.slotsUsed } : State).setVm s₂.vm).setTop { g with pc := g.pc + len₂, stack := v.toList ++ g.stack } := by
      refine e3.trans ?_
      rw [hf₂, State.calling_eq h.top, State.setFrames_setFrames, State.setTop_of_frames _ hr', hr]
      rfl
    have hsame : U.sameButNew ({ U with heap := s₂.heap, slotsUsed := s₂.slotsUsed } : State) L mc ms := by
      refine ⟨?_, q2, q3, q4, q5, q6⟩
      obtain ⟨t, ht, -⟩ := State.frames_cons hr
      show ({ U with heap := s₂.heap, slotsUsed := s₂.slotsUsed } : State) = { U.setFrames U.frames with heap := s₂.heap, slotsUsed := s₂.slotsUsed }
      rw [State.setFrames_self ht]
    subst hg
    refine Or.inl ⟨v, ⟨(({ U with heap := s₂.heap, slotsUsed := s₂.slotsUsed } : State).setVm s₂.vm), Ls ++ L, c0 + mc, s0 + ms⟩,
      ⟨X.admits, X.cas, X.clock, X.frames, X.room, X.hears, X.method, X.code, (X.here.setHeapUsed s₂.heap s₂.slotsUsed).setVm hW'.alike, X.tail, State.WarmedH.trans X.warmed hW', X.limits, X.bytes, X.same.trans (hsame.setVm s.vm)⟩,
      ⟨g, mk, s₂, L, rfl, rfl, hqc, rfl, hL, rfl, rfl⟩, ?_⟩
    show Steps p.tables e below _ ((({ U with heap := s₂.heap, slotsUsed := s₂.slotsUsed } : State).setVm s₂.vm).setTop { g with pc := g.pc + len₂, stack := v.toList ++ g.stack })
    rw [← hs₂]
    exact hsteps
  · obtain ⟨e2, q2, q3, q4, q5, q6⟩ := id hsm
    have e3 : s₂ = ({ (U.calling g mk a).setFrames s₂.frames with heap := s₂.heap, slotsUsed := s₂.slotsUsed } : State).setVm s₂.vm := by
      have : s₂ = ({ s₂ with vm := (U.calling g mk a).vm } : State).setVm s₂.vm := rfl
      rw [e2] at this
      exact this
    have hf₂ : s₂.frames = .throwing q :: .java g :: U.frames.tail := hend
    have hW' : U.WarmedH s₂.vm := hW₂
    have hs₂ : s₂ = ((({ U with heap := s₂.heap, slotsUsed := s₂.slotsUsed } : State).setVm s₂.vm).setTop g).pushFrame (.throwing q) := by
      refine e3.trans ?_
      rw [hf₂, State.calling_eq h.top, State.setFrames_setFrames, State.pushFrame, State.frames_setTop _ hr', State.setTop_of_frames _ hr', State.setFrames_setFrames, hr]
      rfl
    have hsame : U.sameButNew ({ U with heap := s₂.heap, slotsUsed := s₂.slotsUsed } : State) L mc ms := by
      refine ⟨?_, q2, q3, q4, q5, q6⟩
      obtain ⟨t, ht, -⟩ := State.frames_cons hr
      show ({ U with heap := s₂.heap, slotsUsed := s₂.slotsUsed } : State) = { U.setFrames U.frames with heap := s₂.heap, slotsUsed := s₂.slotsUsed }
      rw [State.setFrames_self ht]
    subst hg
    refine Or.inr ⟨q, ⟨(({ U with heap := s₂.heap, slotsUsed := s₂.slotsUsed } : State).setVm s₂.vm), Ls ++ L, c0 + mc, s0 + ms⟩,
      ⟨X.admits, X.cas, X.clock, X.frames, X.room, X.hears, X.method, X.code, (X.here.setHeapUsed s₂.heap s₂.slotsUsed).setVm hW'.alike, X.tail, State.WarmedH.trans X.warmed hW', X.limits, X.bytes, X.same.trans (hsame.setVm s.vm)⟩,
      ⟨g, mk, s₂, L, E, ce, rfl, rfl, hx, hce, hcv, hcl, rfl, hL, rfl, rfl⟩, ?_⟩
    show Steps p.tables e below _ (((({ U with heap := s₂.heap, slotsUsed := s₂.slotsUsed } : State).setVm s₂.vm).setTop g).pushFrame (.throwing q))
    rw [← hs₂]
    exact hsteps
end Payer
section Calls
variable {p : Program} {l : Launch} {e : Env} {R : Room} {s : State} {m : MethodId} {args : Array Value} {below : List Frame} {meth : Method} {c : Code} {T : State} {locs : List Loc} {cells slots : Nat}
theorem vx_callV (X : Stand p l e R s m args below meth c T locs cells slots) (hexec : p.tables.exec = Jvm.exec) {own C : String} {index : Nat} {y : MethodName} {bytes : ByteArray} {maxL : Nat} {ret : Option FieldType}
    (hown : s.vm.findClass own = some m.cls) (hlink : (Cond.methodLink own index y).before args s = true) (hinst : (Cond.instanceMethod y).before args s = true) (hsel : (Cond.selects C y y).before args s = true)
    (hcode : (Cond.code y bytes maxL ret).before args s = true) (hy : y.cls ≠ "java/lang/invoke/MethodHandle" ∧ y.cls ≠ "java/lang/invoke/VarHandle")
    {W9 : Nat} {Pre : Pt → Array Value → Prop} {Post : Pt → Array Value → Option Value → Pt → Prop} {PostX : Pt → Array Value → Addr → Pt → Prop} (hK : vx_Back l R p e below s args y 3 W9 Pre Post PostX)
    {b : Addr} {cellB : Cell} (hcell : T.heap[b]? = some cellB) (hobj : cellB.vm.isStatics = false) (hcls : s.vm.findClass C = some cellB.cls)
    {g : JFrame} (hg : g.method = m) (hsize : g.locals.size = c.maxLocals) {argsL rest : List Value} (hlen : ∀ sig, parseMethodDescriptor y.desc = some sig → argsL.length = sig.parameters.length)
    (hstack : g.stack = argsL.reverse ++ .ref b :: rest) (hW : 2 * g.monitorRoom + (rest.map fun v => v.category).sum ≤ W9) (hdg : decode c.code g.pc = .ok (.invokevirtual index, 3))
    (hpre : ∀ vm₁, s.WarmedH vm₁ → Pre ⟨T.setVm vm₁, locs, cells, slots⟩ (Value.ref b :: argsL).toArray) :
    (∃ (v : Option Value) (vm₁ : Vm) (B : Pt), s.WarmedH vm₁ ∧ Stand p l e R s m args below meth c B.U B.locs B.cells B.slots ∧ Post ⟨T.setVm vm₁, locs, cells, slots⟩ (Value.ref b :: argsL).toArray v B ∧
      ∀ target, Steps p.tables e below (B.U.setTop { g with pc := g.pc + 3, stack := v.toList ++ rest }) target → Steps p.tables e below (T.setTop g) target) ∨
    (∃ (q : Addr) (vm₁ : Vm) (B : Pt), s.WarmedH vm₁ ∧ Stand p l e R s m args below meth c B.U B.locs B.cells B.slots ∧ PostX ⟨T.setVm vm₁, locs, cells, slots⟩ (Value.ref b :: argsL).toArray q B ∧
      Steps p.tables e below (T.setTop g) ((B.U.setTop { g with stack := rest }).pushFrame (.throwing q))) := by
  obtain ⟨mk, methM, hnamed, hmethM, hstM, habM⟩ := Cond.instanceMethod_spec hinst
  obtain ⟨methM', cM, hmethM', -, -, -, -, -, -, hsigM⟩ := Cond.code_spec hnamed hcode
  cases hmethM.symm.trans hmethM'
  obtain ⟨c2, r2, m2, q1, q2, q3, q4, kP, hkP, hkPi⟩ := Cond.selects_spec hsel
  cases hcls.symm.trans q1
  cases (State.methodFound?_of_named hnamed hy).symm.trans q2
  cases hnamed.symm.trans q3
  have hselP : selectMethod e.platform s.vm cellB.cls mk = .method mk := by rw [Launch.admits_selectMethod X.admits]; exact q4
  obtain ⟨vm₁, X₁, hstep₁⟩ := X.invokevirtual hexec hown hlink hnamed hmethM hstM hkP hkPi hy (a := b) (cell := cellB) hcell
    (fun z h => by rw [h] at hobj; cases hobj) hselP hmethM habM hkP hkPi (g := g) hg (argsL := argsL) (rest := rest) (hlen _ hsigM) hstack hdg
  rcases hK m meth c ⟨T.setVm vm₁, locs, cells, slots⟩ { g with stack := rest } (.invokevirtual index) mk (Value.ref b :: argsL).toArray X₁ hg hsize hdg hW (X₁.named hnamed) (hpre vm₁ X₁.warmed) with ⟨v, B, X', hpost, hsteps⟩ | ⟨q, B, X', hpost, hsteps⟩
  · exact Or.inl ⟨v, vm₁, B, X₁.warmed, X', hpost, fun target h => hstep₁ _ fun acts => by rw [doInvoke_state]; exact hsteps.trans h⟩
  · exact Or.inr ⟨q, vm₁, B, X₁.warmed, X', hpost, hstep₁ _ fun acts => by rw [doInvoke_state]; exact hsteps⟩
theorem vx_callS (X : Stand p l e R s m args below meth c T locs cells slots) (hexec : p.tables.exec = Jvm.exec) {own : String} {index : Nat} {y : MethodName} {bytes : ByteArray} {maxL : Nat} {ret : Option FieldType}
    (hown : s.vm.findClass own = some m.cls) (hlink : (Cond.methodLink own index y).before args s = true) (hstat : (Cond.static y).before args s = true) (hinit : (Cond.initialized y.cls).before args s = true)
    (hcode : (Cond.code y bytes maxL ret).before args s = true) (hy : y.cls ≠ "java/lang/invoke/MethodHandle" ∧ y.cls ≠ "java/lang/invoke/VarHandle")
    {W9 : Nat} {Pre : Pt → Array Value → Prop} {Post : Pt → Array Value → Option Value → Pt → Prop} {PostX : Pt → Array Value → Addr → Pt → Prop} (hK : vx_Back l R p e below s args y 3 W9 Pre Post PostX)
    {g : JFrame} (hg : g.method = m) (hsize : g.locals.size = c.maxLocals) {argsL rest : List Value} (hlen : ∀ sig, parseMethodDescriptor y.desc = some sig → argsL.length = sig.parameters.length)
    (hstack : g.stack = argsL.reverse ++ rest) (hW : 2 * g.monitorRoom + (rest.map fun v => v.category).sum ≤ W9) (hdg : decode c.code g.pc = .ok (.invokestatic index, 3))
    (hpre : ∀ vm₁, s.WarmedH vm₁ → Pre ⟨T.setVm vm₁, locs, cells, slots⟩ argsL.toArray) :
    (∃ (v : Option Value) (vm₁ : Vm) (B : Pt), s.WarmedH vm₁ ∧ Stand p l e R s m args below meth c B.U B.locs B.cells B.slots ∧ Post ⟨T.setVm vm₁, locs, cells, slots⟩ argsL.toArray v B ∧
      ∀ target, Steps p.tables e below (B.U.setTop { g with pc := g.pc + 3, stack := v.toList ++ rest }) target → Steps p.tables e below (T.setTop g) target) ∨
    (∃ (q : Addr) (vm₁ : Vm) (B : Pt), s.WarmedH vm₁ ∧ Stand p l e R s m args below meth c B.U B.locs B.cells B.slots ∧ PostX ⟨T.setVm vm₁, locs, cells, slots⟩ argsL.toArray q B ∧
      Steps p.tables e below (T.setTop g) ((B.U.setTop { g with stack := rest }).pushFrame (.throwing q))) := by
  obtain ⟨mk, hnamed⟩ := Cond.code_named hcode
  obtain ⟨methM, cM, hmethM, -, -, -, -, -, -, hsigM⟩ := Cond.code_spec hnamed hcode
  have hstatic : methM.isStatic = true := Cond.static_spec hnamed hmethM hstat
  obtain ⟨kP, hkP, -⟩ := className_of_methodNamed hnamed
  have hinitP : kP.init = .initialized := Cond.initialized_spec (findClass_of_methodNamed hnamed) hkP hinit
  obtain ⟨vm₁, X₁, hstep₁⟩ := X.invokestatic hexec hown hlink hnamed hmethM hstatic hkP hinitP hy (g := g) hg (argsL := argsL) (rest := rest) (hlen _ hsigM) hstack hdg
  rcases hK m meth c ⟨T.setVm vm₁, locs, cells, slots⟩ { g with stack := rest } (.invokestatic index) mk argsL.toArray X₁ hg hsize hdg hW (X₁.named hnamed) (hpre vm₁ X₁.warmed) with ⟨v, B, X', hpost, hsteps⟩ | ⟨q, B, X', hpost, hsteps⟩
  · exact Or.inl ⟨v, vm₁, B, X₁.warmed, X', hpost, fun target h => hstep₁ _ fun acts => by rw [doInvoke_state]; exact hsteps.trans h⟩
  · exact Or.inr ⟨q, vm₁, B, X₁.warmed, X', hpost, hstep₁ _ fun acts => by rw [doInvoke_state]; exact hsteps⟩
end Calls
theorem vx_cls {s : State} {T : State} {vm₁ : Vm} {E : String} {k : ClassId} (hW : s.WarmedH vm₁) (h : (T.setVm vm₁).vm.findClass E = some k) : s.vm.findClass E = some k := by
  have h1 : vm₁.findClass E = some k := h
  rw [hW.alike.findClass] at h1
  exact h1
/-- the method's frame g, with q thrown over it -/
def vx_W (p : Program) (l : Launch) (e : Env) (R : Room) (s : State) (m : MethodId) (args : Array Value) (below : List Frame) (meth : Method) (c : Code) (H : Heap) (locs : List Loc) (cells slots : Nat) (Q : State → Prop) (g : JFrame) (q : Addr) : Prop :=
  ∀ T : State, T.heap = H → Stand p l e R s m args below meth c T locs cells slots → ∃ t, Steps p.tables e below ((T.setTop g).pushFrame (.throwing q)) t ∧ Q t
def vx_Run (p : Program) (l : Launch) (e : Env) (R : Room) (s : State) (m : MethodId) (args : Array Value) (below : List Frame) (meth : Method) (c : Code) (H : Heap) (locs : List Loc) (cells slots mc ms : Nat) (g : JFrame) (rest : List Value) (Qa : State → Outcome → State → Prop) (XC : String → State → State → Prop) (free : Addr → Prop) : Prop :=
  ∀ T : State, T.heap = H → Stand p l e R s m args below meth c T locs cells slots →
    (∃ (v : Option Value) (st₀ t T' : State) (L : List Loc), st₀.heap = H ∧ Stand p l e R s m args below meth c T' (locs ++ L) (cells + mc) (slots + ms) ∧ (∀ q ∈ L, free q.base) ∧ T'.heap = t.heap ∧ T'.vm = t.vm ∧ Qa st₀ (.returned v) t ∧
      Goes p e below T g T' { g with pc := g.pc + 3, stack := v.toList ++ rest }) ∨
    (∃ (q : Addr) (st₀ t T' : State) (L : List Loc) (E : String) (ce : Cell), st₀.heap = H ∧ Stand p l e R s m args below meth c T' (locs ++ L) (cells + mc) (slots + ms) ∧ (∀ z ∈ L, free z.base) ∧ T'.heap = t.heap ∧ T'.vm = t.vm ∧ XC E st₀ t ∧ t.heap[q]? = some ce ∧ ce.vm = .none ∧ s.vm.findClass E = some ce.cls ∧
      Steps p.tables e below (T.setTop g) ((T'.setTop { g with stack := rest }).pushFrame (.throwing q)))
def vx_X {S : Type} (px : S → Prop) (B : String → S → State → Prop) (A : Nat → Prop) : String → State → State → Prop := fun E st t => ∃ u : S, px u ∧ B E u t ∧ va_F A st t
section Runs
variable {p : Program} {l : Launch} {e : Env} {R : Room} {s : State} {m : MethodId} {args : Array Value} {below : List Frame} {meth : Method} {c : Code} {H : Heap} {locs : List Loc} {cells slots : Nat}
variable {y : MethodName} {bytes cc : ByteArray} {maxL nL mc ms n index : Nat} {ret : Option FieldType} {ws : List Cond} {rm : Room} {Pc : Array Value → State → Prop} {Qc : Array Value → State → Outcome → State → Prop} {XC : String → State → State → Prop} {free : Addr → Prop} {Ts : List Cond} {own C : String} {b : Addr} {As rest : List Value} {g : JFrame}
theorem vx_callBack (cb : CallB R s args own index y bytes maxL ret ws rm mc ms n) (hM : vx_Met l y ws rm Pc Qc XC mc ms free) (hbl : FrameBlind Pc) : vx_Back l R p e below s args y 3 8 (PreOf R mc ms Pc) (PostOf Qc mc ms free) (vx_Post XC mc ms free) := by
  obtain ⟨hrc, hrs, hfr, hlo, hws, hcw, -, hini, -⟩ := cb
  exact vx_back (bytes := bytes) (maxL := maxL) (ret := ret) hM hbl hrc hrs hfr hlo hws hcw (fun a' U hW => word_at hW (Or.inl (by first | rfl | simp [Cond.onTables, Cond.keeps, Cond.steady])) hini)
theorem vx_runV (S : CallFix p m c cc nL s args Ts own) (hM : vx_Met l y ws rm Pc Qc XC mc ms free) (cw : CallW R s args own C index y bytes maxL ret ws rm mc ms n) (hp : PreV s H C b Pc As)
    (hg : g.method = m) (hn : As.length = n) (hsize : g.locals.size = nL) (hstack : g.stack = As.reverse ++ .ref b :: rest) (hW : 2 * g.monitorRoom + (rest.map fun v => v.category).sum ≤ 8) (hdg : decode cc g.pc = .ok (.invokevirtual index, 3)) (hf : cells + mc ≤ R.cells ∧ slots + ms ≤ R.slots) :
    vx_Run p l e R s m args below meth c H locs cells slots mc ms g rest (Qc (Value.ref b :: As).toArray) XC free := by
  have hK : vx_Back l R p e below s args y 3 8 (PreOf R mc ms Pc) (PostOf Qc mc ms free) (vx_Post XC mc ms free) := vx_callBack cw.1 hM hp.1
  obtain ⟨⟨-, -, -, -, -, -, hcode, -, hy, hlen, hl⟩, hin, hse⟩ := cw
  obtain ⟨hx, hb, hml, ho, -⟩ := S
  obtain ⟨-, ⟨cellB, hcB, hoB, hclB⟩, hPc⟩ := hp
  intro T hT X
  rcases vx_callV X hx (C := C) (bytes := bytes) (maxL := maxL) (ret := ret) ho hl hin hse hcode hy hK (by rw [hT]; exact hcB) hoB hclB hg (hsize.trans hml.symm) (argsL := As) (rest := rest) (fun sig h => hn.trans (hlen sig h)) hstack hW (by rw [hb]; exact hdg)
    (fun vm₁ hW₁ => ⟨hf.1, hf.2, hPc (T.setVm vm₁) hT hW₁⟩) with ⟨v, vm₁, ⟨U', l2, c2, s2⟩, hW₁, X', ⟨g', mk, t, L, e1, e2, hq, h1, hL, h2, h3⟩, st⟩ | ⟨q, vm₁, ⟨U', l2, c2, s2⟩, hW₁, X', ⟨g', mk, t, L, E, ce, e1, e2, hq, hce, hcv, hcl, h1, hL, h2, h3⟩, st⟩
  · dsimp only [Pt.U, Pt.locs, Pt.cells, Pt.slots] at X' e1 e2 h1 h2 h3 st
    subst h1; subst h2; subst h3
    exact Or.inl ⟨v, (T.setVm vm₁).calling g' mk (Value.ref b :: As).toArray, t, U', L, hT, X', hL, e1, e2, hq, st⟩
  · dsimp only [Pt.U, Pt.locs, Pt.cells, Pt.slots] at X' e1 e2 h1 h2 h3 st hcl
    subst h1; subst h2; subst h3
    exact Or.inr ⟨q, (T.setVm vm₁).calling g' mk (Value.ref b :: As).toArray, t, U', L, E, ce, hT, X', hL, e1, e2, hq, hce, hcv, vx_cls hW₁ hcl, st⟩
theorem vx_runS (S : CallFix p m c cc nL s args Ts own) (hM : vx_Met l y ws rm Pc Qc XC mc ms free) (cw : CallB R s args own index y bytes maxL ret ws rm mc ms n ∧ (Cond.static y).before args s = true) (hp : PreS s H Pc As)
    (hg : g.method = m) (hn : As.length = n) (hsize : g.locals.size = nL) (hstack : g.stack = As.reverse ++ rest) (hW : 2 * g.monitorRoom + (rest.map fun v => v.category).sum ≤ 8) (hdg : decode cc g.pc = .ok (.invokestatic index, 3)) (hf : cells + mc ≤ R.cells ∧ slots + ms ≤ R.slots) :
    vx_Run p l e R s m args below meth c H locs cells slots mc ms g rest (Qc As.toArray) XC free := by
  have hK : vx_Back l R p e below s args y 3 8 (PreOf R mc ms Pc) (PostOf Qc mc ms free) (vx_Post XC mc ms free) := vx_callBack cw.1 hM hp.1
  obtain ⟨⟨-, -, -, -, -, -, hcode, hini, hy, hlen, hl⟩, hstt⟩ := cw
  obtain ⟨hx, hb, hml, ho, -⟩ := S
  intro T hT X
  rcases vx_callS X hx (bytes := bytes) (maxL := maxL) (ret := ret) ho hl hstt hini hcode hy hK hg (hsize.trans hml.symm) (argsL := As) (rest := rest) (fun sig h => hn.trans (hlen sig h)) hstack hW (by rw [hb]; exact hdg)
    (fun vm₁ hW₁ => ⟨hf.1, hf.2, hp.2 (T.setVm vm₁) hT hW₁⟩) with ⟨v, vm₁, ⟨U', l2, c2, s2⟩, hW₁, X', ⟨g', mk, t, L, e1, e2, hq, h1, hL, h2, h3⟩, st⟩ | ⟨q, vm₁, ⟨U', l2, c2, s2⟩, hW₁, X', ⟨g', mk, t, L, E, ce, e1, e2, hq, hce, hcv, hcl, h1, hL, h2, h3⟩, st⟩
  · dsimp only [Pt.U, Pt.locs, Pt.cells, Pt.slots] at X' e1 e2 h1 h2 h3 st
    subst h1; subst h2; subst h3
    exact Or.inl ⟨v, (T.setVm vm₁).calling g' mk As.toArray, t, U', L, hT, X', hL, e1, e2, hq, st⟩
  · dsimp only [Pt.U, Pt.locs, Pt.cells, Pt.slots] at X' e1 e2 h1 h2 h3 st hcl
    subst h1; subst h2; subst h3
    exact Or.inr ⟨q, (T.setVm vm₁).calling g' mk As.toArray, t, U', L, E, ce, hT, X', hL, e1, e2, hq, hce, hcv, vx_cls hW₁ hcl, st⟩
end Runs
section Rows
variable {p : Program} {l : Launch} {e : Env} {R : Room} {s : State} {m : MethodId} {args : Array Value} {below : List Frame} {meth : Method} {c : Code} {H : Heap} {locs : List Loc} {cells slots : Nat} {Q : State → Prop}
variable {mc ms : Nat} {free : Addr → Prop} {A0 A1 : Nat → Prop} {H0 : Heap} {a : Array Value} {pc : Nat} {ls : Array Slot} {st0 rest : List Value}
theorem vx_keep {st₀ t T' : State} {L : List Loc} (h0 : st₀.heap = H) (e1 : T'.heap = t.heap) (hS : va_S A0 H0 H locs) (hA : ∀ q, q < H.size → A1 q → A0 q) (hf : ∀ q, free q → A0 q) (hL : ∀ q ∈ L, free q.base) (hF : va_F A1 st₀ t) :
    H.size ≤ T'.heap.size ∧ (∀ q : Nat, q < H.size → ¬ A1 q → T'.heap[q]? = H[q]?) ∧ va_S A0 H0 T'.heap (locs ++ L) := by
  obtain ⟨hz, hk⟩ := hF
  rw [h0] at hz hk
  exact ⟨by rw [e1]; exact hz, fun q h1 h2 => by rw [e1]; exact hk q h1 h2,
    ⟨Nat.le_trans hS.1 (by rw [e1]; exact hz), fun q h1 h2 => by rw [e1, hk q (Nat.lt_of_lt_of_le h1 hS.1) (fun z => h2 (hA q (Nat.lt_of_lt_of_le h1 hS.1) z))]; exact hS.2.1 q h1 h2, fun q hq => by
      rcases List.mem_append.mp hq with h | h
      · exact hS.2.2 q h
      · exact hf _ (hL q h)⟩⟩
theorem vx_calli {S SX : Type} {post : Int32 → S → Prop} {px : SX → Prop} {B : S → State → Prop} {BX : String → SX → State → Prop} {AX : Nat → Prop} (hr : vx_Run p l e R s m args below meth c H locs cells slots mc ms (F0 m pc ls st0) rest (va_Qi post B A1 a) (vx_X px BX AX) free) (hS : va_S A0 H0 H locs) (hA : ∀ q, q < H.size → A1 q → A0 q) (hf : ∀ q, free q → A0 q) (hAX : ∀ q, q < H.size → AX q → A0 q)
    (kx : ∀ (E : String) (ce : Cell) (q9 : Addr) (u : SX) (t : State) (H1 : Heap) (locs1 : List Loc), t.heap = H1 → s.vm.Alike t.vm → px u → BX E u t → H.size ≤ H1.size → (∀ q : Nat, q < H.size → ¬ AX q → H1[q]? = H[q]?) → va_S A0 H0 H1 locs1 → H1[q9]? = some ce → ce.vm = .none → s.vm.findClass E = some ce.cls → vx_W p l e R s m args below meth c H1 locs1 (cells + mc) (slots + ms) Q (F0 m pc ls rest) q9)
    (kk : ∀ (r : Int32) (u : S) (t : State) (H1 : Heap) (locs1 : List Loc), t.heap = H1 → s.vm.Alike t.vm → post r u → B u t → H.size ≤ H1.size → (∀ q : Nat, q < H.size → ¬ A1 q → H1[q]? = H[q]?) → va_S A0 H0 H1 locs1 → W p l e R s m args below meth c H1 locs1 (cells + mc) (slots + ms) Q (F0 m (pc + 3) ls (.int r :: rest))) : W p l e R s m args below meth c H locs cells slots Q (F0 m pc ls st0) := by
  intro T hT X
  rcases hr T hT X with ⟨v, st₀, t, T', L, h0, X', hL, e1, e2, ⟨⟨r, u, hv, hp, hb⟩, hF⟩, st⟩ | ⟨q, st₀, t, T', L, E, ce, h0, X', hL, e1, e2, ⟨u, hp, hb, hF⟩, hce, hcv, hcl, st⟩
  · cases hv
    obtain ⟨k1, k2, k3⟩ := vx_keep h0 e1 hS hA hf hL hF
    obtain ⟨t2, a1, b1⟩ := kk r u t T'.heap (locs ++ L) e1.symm (by rw [← e2]; exact X'.warmed.alike) hp hb k1 k2 k3 T' rfl X'
    exact ⟨t2, st t2 a1, b1⟩
  · obtain ⟨k1, k2, k3⟩ := vx_keep h0 e1 hS hAX hf hL hF
    obtain ⟨t2, a1, b1⟩ := kx E ce q u t T'.heap (locs ++ L) e1.symm (by rw [← e2]; exact X'.warmed.alike) hp hb k1 k2 k3 (by rw [e1]; exact hce) hcv hcl T' rfl X'
    exact ⟨t2, st.trans a1, b1⟩
theorem vx_calll {S SX : Type} {post : Int64 → S → Prop} {px : SX → Prop} {B : S → State → Prop} {BX : String → SX → State → Prop} {AX : Nat → Prop} (hr : vx_Run p l e R s m args below meth c H locs cells slots mc ms (F0 m pc ls st0) rest (va_Ql post B A1 a) (vx_X px BX AX) free) (hS : va_S A0 H0 H locs) (hA : ∀ q, q < H.size → A1 q → A0 q) (hf : ∀ q, free q → A0 q) (hAX : ∀ q, q < H.size → AX q → A0 q)
    (kx : ∀ (E : String) (ce : Cell) (q9 : Addr) (u : SX) (t : State) (H1 : Heap) (locs1 : List Loc), t.heap = H1 → s.vm.Alike t.vm → px u → BX E u t → H.size ≤ H1.size → (∀ q : Nat, q < H.size → ¬ AX q → H1[q]? = H[q]?) → va_S A0 H0 H1 locs1 → H1[q9]? = some ce → ce.vm = .none → s.vm.findClass E = some ce.cls → vx_W p l e R s m args below meth c H1 locs1 (cells + mc) (slots + ms) Q (F0 m pc ls rest) q9)
    (kk : ∀ (r : Int64) (u : S) (t : State) (H1 : Heap) (locs1 : List Loc), t.heap = H1 → s.vm.Alike t.vm → post r u → B u t → H.size ≤ H1.size → (∀ q : Nat, q < H.size → ¬ A1 q → H1[q]? = H[q]?) → va_S A0 H0 H1 locs1 → W p l e R s m args below meth c H1 locs1 (cells + mc) (slots + ms) Q (F0 m (pc + 3) ls (.long r :: rest))) : W p l e R s m args below meth c H locs cells slots Q (F0 m pc ls st0) := by
  intro T hT X
  rcases hr T hT X with ⟨v, st₀, t, T', L, h0, X', hL, e1, e2, ⟨⟨r, u, hv, hp, hb⟩, hF⟩, st⟩ | ⟨q, st₀, t, T', L, E, ce, h0, X', hL, e1, e2, ⟨u, hp, hb, hF⟩, hce, hcv, hcl, st⟩
  · cases hv
    obtain ⟨k1, k2, k3⟩ := vx_keep h0 e1 hS hA hf hL hF
    obtain ⟨t2, a1, b1⟩ := kk r u t T'.heap (locs ++ L) e1.symm (by rw [← e2]; exact X'.warmed.alike) hp hb k1 k2 k3 T' rfl X'
    exact ⟨t2, st t2 a1, b1⟩
  · obtain ⟨k1, k2, k3⟩ := vx_keep h0 e1 hS hAX hf hL hF
    obtain ⟨t2, a1, b1⟩ := kx E ce q u t T'.heap (locs ++ L) e1.symm (by rw [← e2]; exact X'.warmed.alike) hp hb k1 k2 k3 (by rw [e1]; exact hce) hcv hcl T' rfl X'
    exact ⟨t2, st.trans a1, b1⟩
theorem vx_callf {S SX : Type} {post : UInt32 → S → Prop} {px : SX → Prop} {B : S → State → Prop} {BX : String → SX → State → Prop} {AX : Nat → Prop} (hr : vx_Run p l e R s m args below meth c H locs cells slots mc ms (F0 m pc ls st0) rest (va_Qf post B A1 a) (vx_X px BX AX) free) (hS : va_S A0 H0 H locs) (hA : ∀ q, q < H.size → A1 q → A0 q) (hf : ∀ q, free q → A0 q) (hAX : ∀ q, q < H.size → AX q → A0 q)
    (kx : ∀ (E : String) (ce : Cell) (q9 : Addr) (u : SX) (t : State) (H1 : Heap) (locs1 : List Loc), t.heap = H1 → s.vm.Alike t.vm → px u → BX E u t → H.size ≤ H1.size → (∀ q : Nat, q < H.size → ¬ AX q → H1[q]? = H[q]?) → va_S A0 H0 H1 locs1 → H1[q9]? = some ce → ce.vm = .none → s.vm.findClass E = some ce.cls → vx_W p l e R s m args below meth c H1 locs1 (cells + mc) (slots + ms) Q (F0 m pc ls rest) q9)
    (kk : ∀ (r : UInt32) (u : S) (t : State) (H1 : Heap) (locs1 : List Loc), t.heap = H1 → s.vm.Alike t.vm → post r u → B u t → H.size ≤ H1.size → (∀ q : Nat, q < H.size → ¬ A1 q → H1[q]? = H[q]?) → va_S A0 H0 H1 locs1 → W p l e R s m args below meth c H1 locs1 (cells + mc) (slots + ms) Q (F0 m (pc + 3) ls (.float r :: rest))) : W p l e R s m args below meth c H locs cells slots Q (F0 m pc ls st0) := by
  intro T hT X
  rcases hr T hT X with ⟨v, st₀, t, T', L, h0, X', hL, e1, e2, ⟨⟨r, u, hv, hp, hb⟩, hF⟩, st⟩ | ⟨q, st₀, t, T', L, E, ce, h0, X', hL, e1, e2, ⟨u, hp, hb, hF⟩, hce, hcv, hcl, st⟩
  · cases hv
    obtain ⟨k1, k2, k3⟩ := vx_keep h0 e1 hS hA hf hL hF
    obtain ⟨t2, a1, b1⟩ := kk r u t T'.heap (locs ++ L) e1.symm (by rw [← e2]; exact X'.warmed.alike) hp hb k1 k2 k3 T' rfl X'
    exact ⟨t2, st t2 a1, b1⟩
  · obtain ⟨k1, k2, k3⟩ := vx_keep h0 e1 hS hAX hf hL hF
    obtain ⟨t2, a1, b1⟩ := kx E ce q u t T'.heap (locs ++ L) e1.symm (by rw [← e2]; exact X'.warmed.alike) hp hb k1 k2 k3 (by rw [e1]; exact hce) hcv hcl T' rfl X'
    exact ⟨t2, st.trans a1, b1⟩
theorem vx_calld {S SX : Type} {post : UInt64 → S → Prop} {px : SX → Prop} {B : S → State → Prop} {BX : String → SX → State → Prop} {AX : Nat → Prop} (hr : vx_Run p l e R s m args below meth c H locs cells slots mc ms (F0 m pc ls st0) rest (va_Qd post B A1 a) (vx_X px BX AX) free) (hS : va_S A0 H0 H locs) (hA : ∀ q, q < H.size → A1 q → A0 q) (hf : ∀ q, free q → A0 q) (hAX : ∀ q, q < H.size → AX q → A0 q)
    (kx : ∀ (E : String) (ce : Cell) (q9 : Addr) (u : SX) (t : State) (H1 : Heap) (locs1 : List Loc), t.heap = H1 → s.vm.Alike t.vm → px u → BX E u t → H.size ≤ H1.size → (∀ q : Nat, q < H.size → ¬ AX q → H1[q]? = H[q]?) → va_S A0 H0 H1 locs1 → H1[q9]? = some ce → ce.vm = .none → s.vm.findClass E = some ce.cls → vx_W p l e R s m args below meth c H1 locs1 (cells + mc) (slots + ms) Q (F0 m pc ls rest) q9)
    (kk : ∀ (r : UInt64) (u : S) (t : State) (H1 : Heap) (locs1 : List Loc), t.heap = H1 → s.vm.Alike t.vm → post r u → B u t → H.size ≤ H1.size → (∀ q : Nat, q < H.size → ¬ A1 q → H1[q]? = H[q]?) → va_S A0 H0 H1 locs1 → W p l e R s m args below meth c H1 locs1 (cells + mc) (slots + ms) Q (F0 m (pc + 3) ls (.double r :: rest))) : W p l e R s m args below meth c H locs cells slots Q (F0 m pc ls st0) := by
  intro T hT X
  rcases hr T hT X with ⟨v, st₀, t, T', L, h0, X', hL, e1, e2, ⟨⟨r, u, hv, hp, hb⟩, hF⟩, st⟩ | ⟨q, st₀, t, T', L, E, ce, h0, X', hL, e1, e2, ⟨u, hp, hb, hF⟩, hce, hcv, hcl, st⟩
  · cases hv
    obtain ⟨k1, k2, k3⟩ := vx_keep h0 e1 hS hA hf hL hF
    obtain ⟨t2, a1, b1⟩ := kk r u t T'.heap (locs ++ L) e1.symm (by rw [← e2]; exact X'.warmed.alike) hp hb k1 k2 k3 T' rfl X'
    exact ⟨t2, st t2 a1, b1⟩
  · obtain ⟨k1, k2, k3⟩ := vx_keep h0 e1 hS hAX hf hL hF
    obtain ⟨t2, a1, b1⟩ := kx E ce q u t T'.heap (locs ++ L) e1.symm (by rw [← e2]; exact X'.warmed.alike) hp hb k1 k2 k3 (by rw [e1]; exact hce) hcv hcl T' rfl X'
    exact ⟨t2, st.trans a1, b1⟩
theorem vx_callv {S SX : Type} {post : S → Prop} {px : SX → Prop} {B : S → State → Prop} {BX : String → SX → State → Prop} {AX : Nat → Prop} (hr : vx_Run p l e R s m args below meth c H locs cells slots mc ms (F0 m pc ls st0) rest (va_Qv post B A1 a) (vx_X px BX AX) free) (hS : va_S A0 H0 H locs) (hA : ∀ q, q < H.size → A1 q → A0 q) (hf : ∀ q, free q → A0 q) (hAX : ∀ q, q < H.size → AX q → A0 q)
    (kx : ∀ (E : String) (ce : Cell) (q9 : Addr) (u : SX) (t : State) (H1 : Heap) (locs1 : List Loc), t.heap = H1 → s.vm.Alike t.vm → px u → BX E u t → H.size ≤ H1.size → (∀ q : Nat, q < H.size → ¬ AX q → H1[q]? = H[q]?) → va_S A0 H0 H1 locs1 → H1[q9]? = some ce → ce.vm = .none → s.vm.findClass E = some ce.cls → vx_W p l e R s m args below meth c H1 locs1 (cells + mc) (slots + ms) Q (F0 m pc ls rest) q9)
    (kk : ∀ (u : S) (t : State) (H1 : Heap) (locs1 : List Loc), t.heap = H1 → s.vm.Alike t.vm → post u → B u t → H.size ≤ H1.size → (∀ q : Nat, q < H.size → ¬ A1 q → H1[q]? = H[q]?) → va_S A0 H0 H1 locs1 → W p l e R s m args below meth c H1 locs1 (cells + mc) (slots + ms) Q (F0 m (pc + 3) ls (rest))) : W p l e R s m args below meth c H locs cells slots Q (F0 m pc ls st0) := by
  intro T hT X
  rcases hr T hT X with ⟨v, st₀, t, T', L, h0, X', hL, e1, e2, ⟨⟨u, hv, hp, hb⟩, hF⟩, st⟩ | ⟨q, st₀, t, T', L, E, ce, h0, X', hL, e1, e2, ⟨u, hp, hb, hF⟩, hce, hcv, hcl, st⟩
  · cases hv
    obtain ⟨k1, k2, k3⟩ := vx_keep h0 e1 hS hA hf hL hF
    obtain ⟨t2, a1, b1⟩ := kk u t T'.heap (locs ++ L) e1.symm (by rw [← e2]; exact X'.warmed.alike) hp hb k1 k2 k3 T' rfl X'
    exact ⟨t2, st t2 a1, b1⟩
  · obtain ⟨k1, k2, k3⟩ := vx_keep h0 e1 hS hAX hf hL hF
    obtain ⟨t2, a1, b1⟩ := kx E ce q u t T'.heap (locs ++ L) e1.symm (by rw [← e2]; exact X'.warmed.alike) hp hb k1 k2 k3 (by rw [e1]; exact hce) hcv hcl T' rfl X'
    exact ⟨t2, st.trans a1, b1⟩
/-- caught by the row x of this method's table; the rows ahead don't take it -/
theorem vx_catch {own name : String} {E : String} {ce : Cell} {q : Addr} (hown : s.vm.findClass own = some m.cls) (pre : List ExceptionTableEntry) (x : ExceptionTableEntry) (suf : List ExceptionTableEntry) (hsplit : c.exceptionTable.toList = pre ++ x :: suf)
    (hpass : ∀ z ∈ pre, covers z pc = false ∨ (z.catchType ≠ 0 ∧ ∃ nm : String, (Cond.classLink own z.catchType nm).before args s = true ∧ va_Nc E nm s)) (hx : covers x pc = true) (h0 : x.catchType ≠ 0)
    (hlink : (Cond.classLink own x.catchType name).before args s = true) (hcast : (Cond.castable E name).before args s = true) (hcell : H[q]? = some ce) (hv : ce.vm = .none) (hcl : s.vm.findClass E = some ce.cls)
    (kk : W p l e R s m args below meth c H locs cells slots Q (F0 m x.handlerPc ls [.ref q])) : vx_W p l e R s m args below meth c H locs cells slots Q (F0 m pc ls rest) q := by
  intro T hT X
  have hpl : e.platform.magicAccessors = ({} : Platform).magicAccessors := by rw [X.admits.platform]
  obtain ⟨c3, c4, hc3, hc4, hasg⟩ := Cond.castable_spec hcast
  cases Option.some.inj (hc3.symm.trans hcl)
  obtain ⟨c5, hc5, hcl5⟩ := Cond.classLink_spec hown hlink e.platform hpl
  cases Option.some.inj (hc4.symm.trans hc5)
  obtain ⟨vm', X', st⟩ := X.thenCaughtThrough q (g := F0 m pc ls rest) rfl (Steps.refl _) (by rw [hT]; exact hcell) (by rw [hv]; rfl) (by obtain ⟨k9, h9, -⟩ := Vm.findClass_spec hcl; exact ⟨k9, h9⟩) pre x suf hsplit
    (fun z hz => by
      rcases hpass z hz with h | ⟨hz0, nm, hl1, hn1⟩
      · exact Or.inl h
      · obtain ⟨c6, hc6, hcl6⟩ := Cond.classLink_spec hown hl1 e.platform hpl
        obtain ⟨a8, b8, h1, h2, h3⟩ := hn1
        cases Option.some.inj (h1.symm.trans hcl)
        cases Option.some.inj (h2.symm.trans hc6)
        exact Or.inr ⟨hz0, _, hcl6, h3⟩) hx (Or.inr ⟨h0, c4, hcl5, hasg⟩)
  obtain ⟨t, a1, b1⟩ := kk (T.setVm vm') hT X'
  exact ⟨t, st.trans a1, b1⟩
end Rows
section Ends
variable {p : Program} {l : Launch} {e : Env} {R : Room} {s : State} {m : MethodId} {args : Array Value} {below : List Frame} {meth : Method} {c : Code} {H : Heap} {locs : List Loc} {cells slots : Nat} {Q : State → Prop}
variable {mc ms : Nat} {free : Addr → Prop} {A0 A1 : Nat → Prop} {H0 : Heap} {a : Array Value} {ls : Array Slot} {st0 rest : List Value}
variable {Qc : Array Value → State → Outcome → State → Prop} {XC : String → State → State → Prop}
/-- what a body that may throw owes at its end -/
def vx_MQ (below : List Frame) (Qc : Array Value → State → Outcome → State → Prop) (XC : String → State → State → Prop) (a : Array Value) (s : State) (mc ms : Nat) (free : Addr → Prop) : State → Prop := fun t =>
  ∃ o, t.status = .running ∧ Ended t below o ∧ vx_Q Qc XC mc ms free a s o t
theorem vx_ret {g : JFrame} {mc ms : Nat} (k : W p l e R s m args below meth c H locs cells slots (MQ below Qc args s mc ms free) g) : W p l e R s m args below meth c H locs cells slots (vx_MQ below Qc XC args s mc ms free) g := by
  intro T hT X
  obtain ⟨t, a1, o, b1, b2, b3, b4⟩ := k T hT X
  exact ⟨t, a1, o, b1, b2, Or.inl ⟨b3, b4⟩⟩
/-- not caught here: it goes on to the caller -/
theorem vx_widen {g : JFrame} {q : Addr} {k n : Nat} (h1 : cells ≤ k) (h2 : slots ≤ n) (kk : vx_W p l e R s m args below meth c H locs k n Q g q) : vx_W p l e R s m args below meth c H locs cells slots Q g q := fun T hT X => kk T hT (stand_widen X h1 h2)
theorem vx_out {pc : Nat} {E : String} {ce : Cell} {q : Addr} {mc ms : Nat} (hout : ∀ x ∈ c.exceptionTable.toList, covers x pc = false) (hlocks : meth.locks = false) (hcell : H[q]? = some ce) (hv : ce.vm = .none) (hcl : s.vm.findClass E = some ce.cls)
    (hx : ∀ t : State, t.heap = H → s.vm.Alike t.vm → XC E s t) (hf : ∀ z ∈ locs, free z.base) (hc : cells ≤ mc) (hs : slots ≤ ms) :
    vx_W p l e R s m args below meth c H locs cells slots (vx_MQ below Qc XC args s mc ms free) (F0 m pc ls rest) q := by
  intro T hT X
  obtain ⟨st1, hrun, hend, hW, hsm⟩ := X.leaveThrown q (g := F0 m pc ls rest) rfl rfl rfl hout hlocks
  have hcell9 : (T.setFrames (.throwing q :: below)).heap[q]? = some ce := by
    show T.heap[q]? = some ce
    rw [hT]; exact hcell
  exact ⟨_, st1, .threw q, hrun, hend, Or.inr ⟨q, rfl, E, ce, locs, hx _ hT hW.alike, hcell9, hv, hcl, hW, hsm.mono hc hs, hf⟩⟩
theorem vx_frame {U : State} {k n : Nat} (h : s.sameButNew ({ U with vm := s.vm } : State) locs k n) : s.heap.size ≤ U.heap.size ∧ ∀ q : Nat, q < s.heap.size → (∀ z ∈ locs, z.base ≠ q) → U.heap[q]? = s.heap[q]? := by
  obtain ⟨-, h2, -, -, -, h6⟩ := h
  refine ⟨h2, fun q hq hz => ?_⟩
  obtain ⟨c9, e1, e2, e3, e4⟩ := h6 q _ (Array.getElem?_eq_getElem hq)
  have hs : c9.slots = (s.heap[q]).slots := Array.ext_getElem? fun i => e4 i fun hm => hz _ hm rfl
  have h9 : c9 = s.heap[q] := by
    rw [hs] at e2
    exact e2
  have e5 : U.heap[q]? = some c9 := e1
  rw [e5, h9, Array.getElem?_eq_getElem hq]
/-- the words of a throw but the four that speak of the heap -/
def vx_no (w : Cond) : Bool := decide (w ≠ .isRef (.static Bundle.tN "UNASSIGNED_STACK" Bundle.steD)) && decide (w ≠ .isRef (.static Bundle.tN "SUPPRESSED_SENTINEL" Bundle.listD)) && decide (w ≠ .laysStatic Bundle.tN "UNASSIGNED_STACK" Bundle.steD) && decide (w ≠ .laysStatic Bundle.tN "SUPPRESSED_SENTINEL" Bundle.listD)
def vx_at0 (own : String) (ic : Nat) (X : String) (names : List String) : List Cond := (Bundle.ownAtoms0 own ic X names).filter vx_no
def vx_atS (own : String) (ic : Nat) (X : String) (names : List String) : List Cond := (Bundle.ownAtoms own ic X names).filter vx_no
/-- a word that the tables alone decide, or a good one -/
def vx_ot (w : Cond) : Bool := w.onTables || goodWord w
theorem vx_ot_at {args a' : Array Value} {s U : State} {w : Cond} (hW : s.WarmedH U.vm) (hvm : s.vm = U.vm) (hg : vx_ot w = true) (h : w.before args s = true) : w.before a' U = true := by
  simp only [vx_ot, Bool.or_eq_true] at hg
  rcases hg with hg | hg
  · exact va_tabs hg hvm h
  · exact word_at hW (good_of_word hg) h
/-- a list's words: the good ones out of the method's own list, the others by premises of their own -/
theorem vx_hat {args : Array Value} {s : State} {L B : List Cond} (h1 : ∀ w ∈ L.filter goodWord, w.before args s = true) (h2 : ∀ w ∈ L.filter (fun w => !goodWord w), w ∈ B) (h3 : ∀ w ∈ B, w.before args s = true) : ∀ w ∈ L, w.before args s = true := by
  intro w hw
  by_cases g : goodWord w = true
  · exact h1 w (List.mem_filter.mpr ⟨hw, g⟩)
  · refine h3 w (h2 w (List.mem_filter.mpr ⟨hw, ?_⟩))
    show (!goodWord w) = true
    cases hgw : goodWord w
    · rfl
    · exact absurd hgw g
theorem vx_c {args : Array Value} {s : State} {w : Cond} {B : List Cond} (h : w.before args s = true) (t : ∀ w ∈ B, w.before args s = true) : ∀ w' ∈ w :: B, w'.before args s = true := fun w' h' => (List.mem_cons.mp h').elim (fun e => by rw [e]; exact h) (t w')
theorem vx_n {args : Array Value} {s : State} : ∀ w ∈ ([] : List Cond), w.before args s = true := fun _ h => nomatch h
theorem vx_own {args : Array Value} {s : State} {L : List Cond} (h1 : ∀ w ∈ L.filter vx_no, w.before args s = true)
    (hU : (Cond.isRef (.static Bundle.tN "UNASSIGNED_STACK" Bundle.steD)).before args s = true) (hN : (Cond.isRef (.static Bundle.tN "SUPPRESSED_SENTINEL" Bundle.listD)).before args s = true)
    (lU : (Cond.laysStatic Bundle.tN "UNASSIGNED_STACK" Bundle.steD).before args s = true) (lN : (Cond.laysStatic Bundle.tN "SUPPRESSED_SENTINEL" Bundle.listD).before args s = true) : ∀ w ∈ L, w.before args s = true := by
  intro w hw
  by_cases e1 : w = .isRef (.static Bundle.tN "UNASSIGNED_STACK" Bundle.steD)
  · rw [e1]; exact hU
  · by_cases e2 : w = .isRef (.static Bundle.tN "SUPPRESSED_SENTINEL" Bundle.listD)
    · rw [e2]; exact hN
    · by_cases e3 : w = .laysStatic Bundle.tN "UNASSIGNED_STACK" Bundle.steD
      · rw [e3]; exact lU
      · by_cases e4 : w = .laysStatic Bundle.tN "SUPPRESSED_SENTINEL" Bundle.listD
        · rw [e4]; exact lN
        · exact h1 w (List.mem_filter.mpr ⟨hw, by unfold vx_no; rw [decide_eq_true e1, decide_eq_true e2, decide_eq_true e3, decide_eq_true e4]; rfl⟩)
/-- where a static field lies, its class's statics cell in H -/
def vx_L (C n d : String) (A : Nat → Prop) (U : State) (H : Heap) : Prop := ∃ (c : ClassId) (k : Class) (i : Nat) (f : Field) (a : Nat) (cell : Cell), U.vm.findClass C = some c ∧ U.fieldFound? C n d = some (c, k, i, f) ∧ f.isStatic = true ∧ k.statics = some a ∧ H[a]? = some cell ∧ cell.vm.isStatics = true ∧ cell.cls = c ∧ f.slot < cell.slots.size ∧ k.staticTypes[f.slot]? = some f.type ∧ ¬ A a
theorem vx_L.moved {C n d : String} {A : Nat → Prop} {u U : State} {H : Heap} (hvm : u.vm.Alike U.vm) (h : vx_L C n d A u H) : vx_L C n d A U H := by
  obtain ⟨c, k, i, f, a, cell, h1, h2, h3, h4, h5, h6, h7, h8, h9, h10⟩ := h
  obtain ⟨k', hi', he⟩ := State.fieldFound?_setVm hvm h2
  exact ⟨c, k', i, f, a, cell, by rw [hvm.findClass]; exact h1, hi', h3, by rw [he]; exact h4, h5, h6, h7, h8, by rw [he]; exact h9, h10⟩
theorem vx_L.kept {C n d : String} {A : Nat → Prop} {U : State} {H H1 : Heap} (h : vx_L C n d A U H) (hq : ∀ a : Nat, a < H.size → ¬ A a → H1[a]? = H[a]?) : vx_L C n d A U H1 := by
  obtain ⟨c, k, i, f, a, cell, h1, h2, h3, h4, h5, h6, h7, h8, h9, h10⟩ := h
  exact ⟨c, k, i, f, a, cell, h1, h2, h3, h4, by rw [hq a (Array.getElem?_eq_some_iff.mp h5).1 h10]; exact h5, h6, h7, h8, h9, h10⟩
theorem vx_L.narrow {C n d : String} {A B : Nat → Prop} {U : State} {H : Heap} (h : vx_L C n d A U H) (hAB : ∀ q, B q → A q) : vx_L C n d B U H := by
  obtain ⟨c, k, i, f, a, cell, h1, h2, h3, h4, h5, h6, h7, h8, h9, h10⟩ := h
  exact ⟨c, k, i, f, a, cell, h1, h2, h3, h4, h5, h6, h7, h8, h9, fun z => h10 (hAB _ z)⟩
theorem vx_L.word {C n d : String} {A : Nat → Prop} {s : State} {args : Array Value} (h : vx_L C n d A s s.heap) : (Cond.laysStatic C n d).before args s = true := by
  obtain ⟨c, k, i, f, a, cell, h1, h2, h3, h4, h5, h6, h7, h8, h9, -⟩ := h
  show (Cond.laysStatic C n d).holds args s none s [] = true
  exact Cond.laysStatic_of h1 h2 h3 h4 h5 h6 h7 h8 h9
/-- .. and what it holds: null or some reference -/
def vx_Zq (C n d : String) (A : Nat → Prop) (U : State) (H : Heap) : Prop := va_Zq C n d A U H ∧ vx_L C n d A U H
theorem vx_Zq.moved {C n d : String} {A : Nat → Prop} {u U : State} {H : Heap} (hvm : u.vm.Alike U.vm) (h : vx_Zq C n d A u H) : vx_Zq C n d A U H := ⟨va_Zq.moved hvm h.1, vx_L.moved hvm h.2⟩
theorem vx_Zq.kept {C n d : String} {A : Nat → Prop} {U : State} {H H1 : Heap} (h : vx_Zq C n d A U H) (hq : ∀ a : Nat, a < H.size → ¬ A a → H1[a]? = H[a]?) : vx_Zq C n d A U H1 := ⟨va_Zq.kept h.1 hq, vx_L.kept h.2 hq⟩
theorem vx_Zq.narrow {C n d : String} {A B : Nat → Prop} {U : State} {H : Heap} (h : vx_Zq C n d A U H) (hAB : ∀ q, B q → A q) : vx_Zq C n d B U H := ⟨va_Zq.narrow h.1 hAB, vx_L.narrow h.2 hAB⟩
theorem vx_Zqof {args : Array Value} {s : State} {C n d : String} {A : Nat → Prop} (hl : (Cond.laysStatic C n d).before args s = true) (hini : (Cond.initialized C).before args s = true) (h : (Cond.isRef (.static C n d)).before args s = true) (hA : ∀ a : Nat, a < s.heap.size → ¬ A a) : vx_Zq C n d A s s.heap := by
  refine ⟨va_Zqof hl hini h hA, ?_⟩
  obtain ⟨c, k, i, f, a, cell, h1, h2, h3, h4, h5, h6, h7, h8, h9⟩ := Cond.laysStatic_spec hl
  exact ⟨c, k, i, f, a, cell, h1, h2, h3, h4, h5, h6, h7, h8, h9, hA a (Array.getElem?_eq_some_iff.mp h5).1⟩
theorem vx_isRef {C n d : String} {v : Value} {A : Nat → Prop} {s : State} {args : Array Value} (h : va_Z C n d v A s s.heap) (hv : v.isRef = true) : (Cond.isRef (.static C n d)).before args s = true := by
  obtain ⟨cf, kf, fi, f, a, cell, h1, h2, h3, h4, h5, h6, h7, -⟩ := h
  have he : (Term.static C n d).eval args s none [] s = some v := by
    simp [Term.eval, State.fieldNamed?, h1, h2, h4, h5, h6, h7]
  simp only [Cond.before, Cond.holds, Cond.value, he]
  cases v <;> simp_all [Value.isRef]
theorem vx_isRefq {C n d : String} {A : Nat → Prop} {s : State} {args : Array Value} (h : va_Zq C n d A s s.heap) : (Cond.isRef (.static C n d)).before args s = true := by
  rcases h with h | ⟨t, h⟩
  · exact vx_isRef h rfl
  · exact vx_isRef h rfl
/-- the same frame, seen from here: as if the method were called anew in this heap -/
theorem vx_rebase {T : State} (X : Stand p l e R s m args below meth c T locs cells slots) {R' : Room} (hf : R'.frames ≤ R.frames) (hl : R'.locals ≤ R.locals) (hc : cells + R'.cells ≤ R.cells) (hs : slots + R'.slots ≤ R.slots) :
    Stand p l e R' ((T.setVm s.vm).setFrames (.invoking m args :: below)) m args below meth c T [] 0 0 := by
  have htop : (T.setVm s.vm).topJava?.isSome := X.here.top
  have hF : ((T.setVm s.vm).setFrames (.invoking m args :: below)).frames = .invoking m args :: below := State.frames_setFrames _ (State.cur_lt_of_top htop)
  obtain ⟨g₀, hg0⟩ := Option.isSome_iff_exists.mp htop
  obtain ⟨r, hr⟩ := State.topJava?_eq_some.mp hg0
  have hl9 : e.platform.stackLimits (T.setVm s.vm).me = e.platform.stackLimits s.me := X.limits
  have hb9 : (T.setVm s.vm).me.stackBytes = s.me.stackBytes := X.bytes
  refine ⟨X.admits, X.cas, X.clock, hF, ?_, X.hears, X.method, X.code, X.here, X.tail, X.warmed, ?_, ?_, ?_⟩
  · have h := X.room
    have hU : ((T.setVm s.vm).setFrames (.invoking m args :: below)).localsInUse = s.localsInUse := by
      rw [State.localsInUse_invoking hF (meth := meth) (c := c) X.method X.code, State.localsInUse_invoking X.frames X.method X.code]
    simp only [State.hasRoom, Bool.and_eq_true, decide_eq_true_eq] at h ⊢
    obtain ⟨⟨⟨⟨h1, h2, h3, h4, h5, h6⟩, h7⟩, h8⟩, h9⟩ := h
    rw [X.frames, List.length_cons] at h2 h3
    have q1 := X.heapSize
    have q2 := X.used
    simp only [hF, hU, List.length_cons, State.stackLimits_setFrames, State.stackBytes_setFrames, hl9, hb9]
    refine ⟨⟨⟨⟨by omega, by omega, by omega, by omega, by omega, h6⟩, ?_⟩, ?_⟩, X.book⟩
    · show T.heap.size + R'.cells ≤ e.platform.maxCells
      omega
    · show T.slotsUsed + R'.slots ≤ e.platform.maxSlots
      omega
  · rw [State.stackLimits_setFrames]; rfl
  · rw [State.stackBytes_setFrames]; rfl
  · refine ⟨?_, Nat.le_refl _, Nat.le_refl _, ?_, ?_, fun a c9 h9 => ⟨c9, h9, rfl, rfl, fun _ _ => rfl⟩⟩
    · obtain ⟨t, ht, -⟩ := State.frames_cons hr
      show T.setVm s.vm = { ((T.setVm s.vm).setFrames (.invoking m args :: below)).setFrames (T.setVm s.vm).frames with heap := T.heap, slotsUsed := T.slotsUsed }
      rw [State.setFrames_setFrames, State.setFrames_self ht]
      rfl
    · show T.slotsUsed = T.slotsUsed + ((T.heap.toList.drop T.heap.size).map (·.slots.size)).sum
      rw [List.drop_eq_nil_of_le (Nat.le_of_eq Array.length_toList)]
      rfl
    · show ((T.heap.toList.drop T.heap.size).map (·.slots.size)).sum ≤ 0
      rw [List.drop_eq_nil_of_le (Nat.le_of_eq Array.length_toList)]
      exact Nat.le_refl _
/-- 'throw new E()': new; dup; invokespecial; athrow -/
theorem vx_throw0 {cc : ByteArray} {pc : Nat} (hexec : p.tables.exec = Jvm.exec) (hb : c.code = cc) (hl : l.stackTraces = false) {own cls : String} {names : List String} {ik ic mc ms : Nat} {A : Nat → Prop}
    (hown : s.vm.findClass own = some m.cls) (hcls : Bundle.fit cls = true) (hnames : ∀ n ∈ names, Bundle.fit n = true)
    (hk : (Cond.classLink own ik cls).before args s = true) (hini : (Cond.initialized cls).before args s = true) (hat : ∀ w ∈ vx_at0 own ic cls names, w.before args s = true)
    (hgood : ∀ w ∈ Cond.classLink own ik cls :: Cond.initialized cls :: vx_at0 own ic cls names, vx_ot w = true)
    (hU : vx_Zq Bundle.tN "UNASSIGNED_STACK" Bundle.steD A s s.heap) (hN : vx_Zq Bundle.tN "SUPPRESSED_SENTINEL" Bundle.listD A s s.heap) (hS : va_S A s.heap H locs) (hsize : ls.size = c.maxLocals)
    (d0 : decode cc pc = .ok (.new ik, 3)) (d3 : decode cc (pc + 3) = .ok (.dup, 1)) (d4 : decode cc (pc + 4) = .ok (.invokespecial ic, 3)) (d7 : decode cc (pc + 7) = .ok (.athrow, 1))
    (hout : ∀ x ∈ c.exceptionTable.toList, covers x (pc + 7) = false)
    (hRframes : names.length + 3 < R.frames) (hRlocals : (rest.map fun v => v.category).sum + (13 * (names.length + 1) + 42) ≤ R.locals) (hRcells : cells + 1 ≤ R.cells) (hRslots : slots + 6 ≤ R.slots) (hlocks : meth.locks = false)
    (hx : ∀ t : State, s.vm.Alike t.vm → H.size ≤ t.heap.size → (∀ q : Nat, q < H.size → t.heap[q]? = H[q]?) → XC cls s t)
    (hf : ∀ z ∈ locs, free z.base) (hc : cells + 1 ≤ mc) (hs : slots + 6 ≤ ms) :
    W p l e R s m args below meth c H locs cells slots (vx_MQ below Qc XC args s mc ms free) (F0 m pc ls rest) := by
  intro T hT X
  have htr : e.platform.stackTraces = false := (show e.platform.stackTraces = l.stackTraces by rw [X.admits.platform]).trans hl
  have Y := vx_rebase X (R' := { frames := R.frames, locals := R.locals, cells := 1, slots := 6 }) (Nat.le_refl _) (Nat.le_refl _) hRcells hRslots
  obtain ⟨s', hA⟩ : ∃ z, z = (T.setVm s.vm).setFrames (.invoking m args :: below) := ⟨_, rfl⟩
  rw [← hA] at Y
  have hvm : s'.vm = s.vm := by rw [hA]; rfl
  have hhp : s'.heap = H := by rw [hA]; exact hT
  have hW0 : s.WarmedH s'.vm := by rw [hvm]; exact State.WarmedH.refl s
  have hat' : ∀ w ∈ vx_at0 own ic cls names, w.before args s' = true := fun w hw => vx_ot_at hW0 hvm.symm (hgood w (List.mem_cons_of_mem _ (List.mem_cons_of_mem _ hw))) (hat w hw)
  have hk' : (Cond.classLink own ik cls).before args s' = true := vx_ot_at hW0 hvm.symm (hgood _ List.mem_cons_self) hk
  have hini' : (Cond.initialized cls).before args s' = true := vx_ot_at hW0 hvm.symm (hgood _ (List.mem_cons_of_mem _ List.mem_cons_self)) hini
  have hU' : vx_Zq Bundle.tN "UNASSIGNED_STACK" Bundle.steD A s' s'.heap := by rw [hhp]; exact vx_Zq.moved hW0.alike (hU.kept hS.2.1)
  have hN' : vx_Zq Bundle.tN "SUPPRESSED_SENTINEL" Bundle.listD A s' s'.heap := by rw [hhp]; exact vx_Zq.moved hW0.alike (hN.kept hS.2.1)
  have h : ∀ w ∈ Bundle.ownAtoms0 own ic cls names, w.before args s' = true := vx_own hat' (vx_isRefq hU'.1) (vx_isRefq hN'.1) hU'.2.word hN'.2.word
  have hown' : s'.vm.findClass own = some m.cls := by rw [hvm]; exact hown
  have hins : (Cond.instantiable cls 6).before args s' = true := h _ (by simp [Bundle.ownAtoms0])
  obtain ⟨vm₁, cX, kX, hfX, hkX, -, -, X₁, st1⟩ := Y.newCold hexec (own := own) (C := cls) (index := ik) (n := 6) hown' hk' hins hini'
    (g := F0 m pc ls rest) rfl (by rw [hb]; exact d0) (Nat.le_refl _) (Nat.le_refl _)
  generalize hT1 : (T.setVm vm₁).pushCell { cls := cX, slots := kX.instanceTypes.map defaultValue, vm := .none } = T1 at X₁ st1
  have hcat : (Value.ref T.heap.size).category = 1 := rfl
  have hcellA : T1.heap[T.heap.size]? = some (freshCell cX kX) := by rw [← hT1]; exact State.heap_pushCell_size _ _
  have d3' : decode c.code (pc + 3) = .ok (.dup, 1) := by rw [hb]; exact d3
  obtain ⟨U, hsteps, hrun, hend, hW, hsame, ce, hce, hO⟩ := X₁.ctorThrow0 hexec htr (own := own) (cls := cls) (names := names) (ic := ic) hown' hcls hnames h (fun x hx => nomatch hx) hfX hkX hcellA (by rw [hhp, hT]; exact Nat.le_refl _)
    (g := { method := m, pc := pc + 4, locals := ls, stack := .ref T.heap.size :: .ref T.heap.size :: rest, locked := none }) rfl hsize rfl rfl (rest := rest) rfl
    (by rw [hb]; exact d4) (by rw [hb]; exact d7) hout hRframes (by simp only [List.map_cons, List.sum_cons, hcat]; omega) hlocks
  obtain ⟨f1, f2⟩ := vx_frame hsame
  rw [hhp] at f1 f2
  have hWs : s.WarmedH U.vm := State.WarmedH.trans hW0 hW
  have hcl : s.vm.findClass cls = some ce.cls := by
    have h9 := hO.cls
    rw [hvm] at h9
    exact h9
  have hall : s.sameButNew ({ U with vm := s.vm } : State) locs mc ms := by
    subst hA
    obtain ⟨e1, e2⟩ := hsame
    rw [State.setFrames_setFrames] at e1
    have h2 : (T.setVm s.vm).sameButNew ({ U with vm := s.vm } : State) [] (0 + 1) (0 + 6) := ⟨e1, e2⟩
    have h3 := X.same.trans h2
    rw [List.append_nil] at h3
    exact h3.mono hc hs
  refine ⟨U, ?_, .threw T.heap.size, hrun, hend, Or.inr ⟨T.heap.size, rfl, cls, ce, locs, hx U hWs.alike f1 (fun q hq => f2 q hq (fun z hz => nomatch hz)), hce, hO.vm, hcl, hWs, hall, hf⟩⟩
  refine st1 _ ?_
  show Steps p.tables e below (T1.setTop { method := m, pc := pc + 3, locals := ls, stack := .ref T.heap.size :: rest, locked := none }) _
  jvm_step X₁.here [X₁.here.top, hexec, d3', Value.category]
  exact hsteps
/-- 'throw new E("text")': new; dup; ldc; invokespecial; athrow -/
theorem vx_throwS {cc : ByteArray} {pc : Nat} (hexec : p.tables.exec = Jvm.exec) (hb : c.code = cc) (hl : l.stackTraces = false) {own cls text : String} {names : List String} {ik is ic mc ms sa : Nat} {A : Nat → Prop}
    (hown : s.vm.findClass own = some m.cls) (hcls : Bundle.fit cls = true) (hnames : ∀ n ∈ names, Bundle.fit n = true)
    (hk : (Cond.classLink own ik cls).before args s = true) (hini : (Cond.initialized cls).before args s = true) (hstr : vk_R own is text sa s) (hat : ∀ w ∈ vx_atS own ic cls names, w.before args s = true)
    (hgood : ∀ w ∈ Cond.classLink own ik cls :: Cond.initialized cls :: vx_atS own ic cls names, vx_ot w = true)
    (hU : vx_Zq Bundle.tN "UNASSIGNED_STACK" Bundle.steD A s s.heap) (hN : vx_Zq Bundle.tN "SUPPRESSED_SENTINEL" Bundle.listD A s s.heap) (hS : va_S A s.heap H locs) (hsize : ls.size = c.maxLocals)
    (d0 : decode cc pc = .ok (.new ik, 3)) (d3 : decode cc (pc + 3) = .ok (.dup, 1)) (d4 : decode cc (pc + 4) = .ok (.ldc is, 2)) (d6 : decode cc (pc + 6) = .ok (.invokespecial ic, 3)) (d9 : decode cc (pc + 9) = .ok (.athrow, 1))
    (hout : ∀ x ∈ c.exceptionTable.toList, covers x (pc + 9) = false)
    (hRframes : names.length + 3 < R.frames) (hRlocals : (rest.map fun v => v.category).sum + (13 * (names.length + 1) + 43) ≤ R.locals) (hRcells : cells + 1 ≤ R.cells) (hRslots : slots + 6 ≤ R.slots) (hlocks : meth.locks = false)
    (hx : ∀ t : State, s.vm.Alike t.vm → H.size ≤ t.heap.size → (∀ q : Nat, q < H.size → t.heap[q]? = H[q]?) → XC cls s t)
    (hf : ∀ z ∈ locs, free z.base) (hc : cells + 1 ≤ mc) (hs : slots + 6 ≤ ms) :
    W p l e R s m args below meth c H locs cells slots (vx_MQ below Qc XC args s mc ms free) (F0 m pc ls rest) := by
  intro T hT X
  have htr : e.platform.stackTraces = false := (show e.platform.stackTraces = l.stackTraces by rw [X.admits.platform]).trans hl
  have Y := vx_rebase X (R' := { frames := R.frames, locals := R.locals, cells := 1, slots := 6 }) (Nat.le_refl _) (Nat.le_refl _) hRcells hRslots
  obtain ⟨s', hA⟩ : ∃ z, z = (T.setVm s.vm).setFrames (.invoking m args :: below) := ⟨_, rfl⟩
  rw [← hA] at Y
  have hvm : s'.vm = s.vm := by rw [hA]; rfl
  have hhp : s'.heap = H := by rw [hA]; exact hT
  have hW0 : s.WarmedH s'.vm := by rw [hvm]; exact State.WarmedH.refl s
  have hat' : ∀ w ∈ vx_atS own ic cls names, w.before args s' = true := fun w hw => vx_ot_at hW0 hvm.symm (hgood w (List.mem_cons_of_mem _ (List.mem_cons_of_mem _ hw))) (hat w hw)
  have hk' : (Cond.classLink own ik cls).before args s' = true := vx_ot_at hW0 hvm.symm (hgood _ List.mem_cons_self) hk
  have hini' : (Cond.initialized cls).before args s' = true := vx_ot_at hW0 hvm.symm (hgood _ (List.mem_cons_of_mem _ List.mem_cons_self)) hini
  have hU' : vx_Zq Bundle.tN "UNASSIGNED_STACK" Bundle.steD A s' s'.heap := by rw [hhp]; exact vx_Zq.moved hW0.alike (hU.kept hS.2.1)
  have hN' : vx_Zq Bundle.tN "SUPPRESSED_SENTINEL" Bundle.listD A s' s'.heap := by rw [hhp]; exact vx_Zq.moved hW0.alike (hN.kept hS.2.1)
  have h : ∀ w ∈ Bundle.ownAtoms own ic cls names, w.before args s' = true := vx_own hat' (vx_isRefq hU'.1) (vx_isRefq hN'.1) hU'.2.word hN'.2.word
  have hown' : s'.vm.findClass own = some m.cls := by rw [hvm]; exact hown
  have hins : (Cond.instantiable cls 6).before args s' = true := h _ (by simp [Bundle.ownAtoms])
  obtain ⟨vm₁, cX, kX, hfX, hkX, -, -, X₁, st1⟩ := Y.newCold hexec (own := own) (C := cls) (index := ik) (n := 6) hown' hk' hins hini'
    (g := F0 m pc ls rest) rfl (by rw [hb]; exact d0) (Nat.le_refl _) (Nat.le_refl _)
  generalize hT1 : (T.setVm vm₁).pushCell { cls := cX, slots := kX.instanceTypes.map defaultValue, vm := .none } = T1 at X₁ st1
  have hcat : (Value.ref T.heap.size).category = 1 := rfl
  have hcellA : T1.heap[T.heap.size]? = some (freshCell cX kX) := by rw [← hT1]; exact State.heap_pushCell_size _ _
  have d3' : decode c.code (pc + 3) = .ok (.dup, 1) := by rw [hb]; exact d3
  have d4' : decode c.code (pc + 4) = .ok (.ldc is, 2) := by rw [hb]; exact d4
  have hstr' : vk_R own is text sa s' := vk_R.warm hW0 hstr
  obtain ⟨U, hsteps, hrun, hend, hW, hsame, ce, hce, hO⟩ := X₁.ctorThrowS hexec htr (own := own) (cls := cls) (names := names) (ic := ic) hown' hcls hnames h (fun x hx => nomatch hx) hfX hkX hcellA (by rw [hhp, hT]; exact Nat.le_refl _) (msg := .ref sa) rfl
    (g := { method := m, pc := pc + 6, locals := ls, stack := .ref sa :: .ref T.heap.size :: .ref T.heap.size :: rest, locked := none }) rfl hsize rfl rfl (rest := rest) rfl
    (by rw [hb]; exact d6) (by rw [hb]; exact d9) hout hRframes (by simp only [List.map_cons, List.sum_cons, hcat]; omega) hlocks
  obtain ⟨f1, f2⟩ := vx_frame hsame
  rw [hhp] at f1 f2
  have hWs : s.WarmedH U.vm := State.WarmedH.trans hW0 hW
  have hcl : s.vm.findClass cls = some ce.cls := by
    have h9 := hO.cls
    rw [hvm] at h9
    exact h9
  have hall : s.sameButNew ({ U with vm := s.vm } : State) locs mc ms := by
    subst hA
    obtain ⟨e1, e2⟩ := hsame
    rw [State.setFrames_setFrames] at e1
    have h2 : (T.setVm s.vm).sameButNew ({ U with vm := s.vm } : State) [] (0 + 1) (0 + 6) := ⟨e1, e2⟩
    have h3 := X.same.trans h2
    rw [List.append_nil] at h3
    exact h3.mono hc hs
  refine ⟨U, ?_, .threw T.heap.size, hrun, hend, Or.inr ⟨T.heap.size, rfl, cls, ce, locs, hx U hWs.alike f1 (fun q hq => f2 q hq (fun z hz => nomatch hz)), hce, hO.vm, hcl, hWs, hall, hf⟩⟩
  refine st1 _ ?_
  show Steps p.tables e below (T1.setTop { method := m, pc := pc + 3, locals := ls, stack := .ref T.heap.size :: rest, locked := none }) _
  jvm_step X₁.here [X₁.here.top, hexec, d3', Value.category]
  exact X₁.ldcString hexec (own := own) (text := text) (index := is) (a := sa) hown' hstr'.1 hstr'.2
    (g := { method := m, pc := pc + 4, locals := ls, stack := .ref T.heap.size :: .ref T.heap.size :: rest, locked := none }) rfl d4' _ hsteps
/-- 'throw new E("text")', the text by a wide index -/
theorem vx_throwSW {cc : ByteArray} {pc : Nat} (hexec : p.tables.exec = Jvm.exec) (hb : c.code = cc) (hl : l.stackTraces = false) {own cls text : String} {names : List String} {ik is ic mc ms sa : Nat} {A : Nat → Prop}
    (hown : s.vm.findClass own = some m.cls) (hcls : Bundle.fit cls = true) (hnames : ∀ n ∈ names, Bundle.fit n = true)
    (hk : (Cond.classLink own ik cls).before args s = true) (hini : (Cond.initialized cls).before args s = true) (hstr : vk_R own is text sa s) (hat : ∀ w ∈ vx_atS own ic cls names, w.before args s = true)
    (hgood : ∀ w ∈ Cond.classLink own ik cls :: Cond.initialized cls :: vx_atS own ic cls names, vx_ot w = true)
    (hU : vx_Zq Bundle.tN "UNASSIGNED_STACK" Bundle.steD A s s.heap) (hN : vx_Zq Bundle.tN "SUPPRESSED_SENTINEL" Bundle.listD A s s.heap) (hS : va_S A s.heap H locs) (hsize : ls.size = c.maxLocals)
    (d0 : decode cc pc = .ok (.new ik, 3)) (d3 : decode cc (pc + 3) = .ok (.dup, 1)) (d4 : decode cc (pc + 4) = .ok (.ldc_w is, 3)) (d7 : decode cc (pc + 7) = .ok (.invokespecial ic, 3)) (d10 : decode cc (pc + 10) = .ok (.athrow, 1))
    (hout : ∀ x ∈ c.exceptionTable.toList, covers x (pc + 10) = false)
    (hRframes : names.length + 3 < R.frames) (hRlocals : (rest.map fun v => v.category).sum + (13 * (names.length + 1) + 43) ≤ R.locals) (hRcells : cells + 1 ≤ R.cells) (hRslots : slots + 6 ≤ R.slots) (hlocks : meth.locks = false)
    (hx : ∀ t : State, s.vm.Alike t.vm → H.size ≤ t.heap.size → (∀ q : Nat, q < H.size → t.heap[q]? = H[q]?) → XC cls s t)
    (hf : ∀ z ∈ locs, free z.base) (hc : cells + 1 ≤ mc) (hs : slots + 6 ≤ ms) :
    W p l e R s m args below meth c H locs cells slots (vx_MQ below Qc XC args s mc ms free) (F0 m pc ls rest) := by
  intro T hT X
  have htr : e.platform.stackTraces = false := (show e.platform.stackTraces = l.stackTraces by rw [X.admits.platform]).trans hl
  have Y := vx_rebase X (R' := { frames := R.frames, locals := R.locals, cells := 1, slots := 6 }) (Nat.le_refl _) (Nat.le_refl _) hRcells hRslots
  obtain ⟨s', hA⟩ : ∃ z, z = (T.setVm s.vm).setFrames (.invoking m args :: below) := ⟨_, rfl⟩
  rw [← hA] at Y
  have hvm : s'.vm = s.vm := by rw [hA]; rfl
  have hhp : s'.heap = H := by rw [hA]; exact hT
  have hW0 : s.WarmedH s'.vm := by rw [hvm]; exact State.WarmedH.refl s
  have hat' : ∀ w ∈ vx_atS own ic cls names, w.before args s' = true := fun w hw => vx_ot_at hW0 hvm.symm (hgood w (List.mem_cons_of_mem _ (List.mem_cons_of_mem _ hw))) (hat w hw)
  have hk' : (Cond.classLink own ik cls).before args s' = true := vx_ot_at hW0 hvm.symm (hgood _ List.mem_cons_self) hk
  have hini' : (Cond.initialized cls).before args s' = true := vx_ot_at hW0 hvm.symm (hgood _ (List.mem_cons_of_mem _ List.mem_cons_self)) hini
  have hU' : vx_Zq Bundle.tN "UNASSIGNED_STACK" Bundle.steD A s' s'.heap := by rw [hhp]; exact vx_Zq.moved hW0.alike (hU.kept hS.2.1)
  have hN' : vx_Zq Bundle.tN "SUPPRESSED_SENTINEL" Bundle.listD A s' s'.heap := by rw [hhp]; exact vx_Zq.moved hW0.alike (hN.kept hS.2.1)
  have h : ∀ w ∈ Bundle.ownAtoms own ic cls names, w.before args s' = true := vx_own hat' (vx_isRefq hU'.1) (vx_isRefq hN'.1) hU'.2.word hN'.2.word
  have hown' : s'.vm.findClass own = some m.cls := by rw [hvm]; exact hown
  have hins : (Cond.instantiable cls 6).before args s' = true := h _ (by simp [Bundle.ownAtoms])
  obtain ⟨vm₁, cX, kX, hfX, hkX, -, -, X₁, st1⟩ := Y.newCold hexec (own := own) (C := cls) (index := ik) (n := 6) hown' hk' hins hini'
    (g := F0 m pc ls rest) rfl (by rw [hb]; exact d0) (Nat.le_refl _) (Nat.le_refl _)
  generalize hT1 : (T.setVm vm₁).pushCell { cls := cX, slots := kX.instanceTypes.map defaultValue, vm := .none } = T1 at X₁ st1
  have hcat : (Value.ref T.heap.size).category = 1 := rfl
  have hcellA : T1.heap[T.heap.size]? = some (freshCell cX kX) := by rw [← hT1]; exact State.heap_pushCell_size _ _
  have d3' : decode c.code (pc + 3) = .ok (.dup, 1) := by rw [hb]; exact d3
  have d4' : decode c.code (pc + 4) = .ok (.ldc_w is, 3) := by rw [hb]; exact d4
  have hstr' : vk_R own is text sa s' := vk_R.warm hW0 hstr
  obtain ⟨U, hsteps, hrun, hend, hW, hsame, ce, hce, hO⟩ := X₁.ctorThrowS hexec htr (own := own) (cls := cls) (names := names) (ic := ic) hown' hcls hnames h (fun x hx => nomatch hx) hfX hkX hcellA (by rw [hhp, hT]; exact Nat.le_refl _) (msg := .ref sa) rfl
    (g := { method := m, pc := pc + 7, locals := ls, stack := .ref sa :: .ref T.heap.size :: .ref T.heap.size :: rest, locked := none }) rfl hsize rfl rfl (rest := rest) rfl
    (by rw [hb]; exact d7) (by rw [hb]; exact d10) hout hRframes (by simp only [List.map_cons, List.sum_cons, hcat]; omega) hlocks
  obtain ⟨f1, f2⟩ := vx_frame hsame
  rw [hhp] at f1 f2
  have hWs : s.WarmedH U.vm := State.WarmedH.trans hW0 hW
  have hcl : s.vm.findClass cls = some ce.cls := by
    have h9 := hO.cls
    rw [hvm] at h9
    exact h9
  have hall : s.sameButNew ({ U with vm := s.vm } : State) locs mc ms := by
    subst hA
    obtain ⟨e1, e2⟩ := hsame
    rw [State.setFrames_setFrames] at e1
    have h2 : (T.setVm s.vm).sameButNew ({ U with vm := s.vm } : State) [] (0 + 1) (0 + 6) := ⟨e1, e2⟩
    have h3 := X.same.trans h2
    rw [List.append_nil] at h3
    exact h3.mono hc hs
  refine ⟨U, ?_, .threw T.heap.size, hrun, hend, Or.inr ⟨T.heap.size, rfl, cls, ce, locs, hx U hWs.alike f1 (fun q hq => f2 q hq (fun z hz => nomatch hz)), hce, hO.vm, hcl, hWs, hall, hf⟩⟩
  refine st1 _ ?_
  show Steps p.tables e below (T1.setTop { method := m, pc := pc + 3, locals := ls, stack := .ref T.heap.size :: rest, locked := none }) _
  jvm_step X₁.here [X₁.here.top, hexec, d3', Value.category]
  exact X₁.ldcStringW hexec (own := own) (text := text) (index := is) (a := sa) hown' hstr'.1 hstr'.2
    (g := { method := m, pc := pc + 4, locals := ls, stack := .ref T.heap.size :: .ref T.heap.size :: rest, locked := none }) rfl d4' _ hsteps
end Ends
section Bodies
variable {l : Launch}
theorem vx_ofW {y : MethodName} {ws ws' : List Cond} {rm : Room} {Pc : Array Value → State → Prop} {Qc : Array Value → State → Outcome → State → Prop} {XC : String → State → State → Prop} {mc ms : Nat} {free : Addr → Prop} {cc : ByteArray} {maxL : Nat} {ret : Option FieldType}
    (hy : plainName y.cls = true) (hw : ws = Cond.code y cc maxL ret :: ws')
    (body : ∀ p e s m args below meth c s₁, BodyLoose p l y (headSpec ws rm) cc maxL ret e s m args below meth c s₁ → c.maxLocals = maxL → (∀ x ∈ c.exceptionTable.toList, False) → Pc args s →
      W p l e (headSpec ws rm).room s m args below meth c s.heap [] 0 0 (vx_MQ below Qc XC args s mc ms free) (entryFrame m args maxL)) : vx_Met l y ws rm Pc Qc XC mc ms free := by
  refine MetFree.of_bodyS (code := cc) (maxLocals := maxL) (ret := ret) hy ?_ ?_
  · intro args s m h hn
    obtain ⟨meth, c, h1, h2, h3, h4, h5, h6, -, -⟩ := Cond.code_spec hn (atoms_spec (ws := ws) h _ (by rw [hw]; exact List.mem_cons_self))
    exact ⟨meth, c, h1, h2, h3, h4, h5, h6⟩
  · intro p e s m args below meth c s₁ B hml hP _
    have hh0 : s₁.heap = s.heap := by rw [B.state]; rfl
    have ht : ∀ x ∈ c.exceptionTable.toList, False := by
      obtain ⟨meth9, c9, h1, h2, -, -, -, -, h7, -⟩ := Cond.code_spec B.named (atoms_spec (ws := ws) B.pre _ (by rw [hw]; exact List.mem_cons_self))
      cases Option.some.inj (h1.symm.trans B.method)
      cases Option.some.inj (h2.symm.trans (Stand.of_body B).code)
      intro x hx
      rw [Array.isEmpty_iff.mp h7] at hx
      cases hx
    obtain ⟨t, a1, o, b1, b2, b3⟩ := body p e s m args below meth c s₁ B hml ht hP s₁ hh0 (Stand.of_body B)
    exact ⟨t, o, a1, b1, b2, b3⟩
/-- the table of a body with handlers -/
theorem vx_table {p : Program} {x y : MethodName} {S : Spec} {cc bytes : ByteArray} {maxL maxL' : Nat} {ret ret' : Option FieldType} {e : Env} {s s₁ : State} {m : MethodId} {args : Array Value} {below : List Frame} {meth : Method} {c : Code} {hh : List (Nat × Nat × Nat × Nat)}
    (B : BodyLoose p l y S cc maxL ret e s m args below meth c s₁) (h : (Cond.codeWith y bytes maxL' ret' hh).before args s = true) : c.exceptionTable.toList = tableOf hh := by
  obtain ⟨m9, meth9, c9, hn9, h1, h2, -, -, h6, -⟩ := Cond.codeWith_spec h
  cases Option.some.inj (hn9.symm.trans B.named)
  cases Option.some.inj (h1.symm.trans B.method)
  cases Option.some.inj (h2.symm.trans (Stand.of_body B).code)
  rw [← h6, table_eq]
end Bodies
end VXA
/-! ===== END ===== -/
/-! ===== BEGIN a static call of a method with an exception table ===== -/
section VXS
variable {p : Program} {l : Launch} {e : Env} {R : Room} {s : State} {m : MethodId} {args : Array Value} {below : List Frame} {meth : Method} {c : Code} {T : State} {H : Heap} {locs : List Loc} {cells slots : Nat}
abbrev vx_CSW (R : Room) (s : State) (args : Array Value) (own : String) (index : Nat) (y : MethodName) (bytes : ByteArray) (maxL : Nat) (ret : Option FieldType) (hh : List (Nat × Nat × Nat × Nat)) (ws : List Cond) (rm : Room) (mc ms n : Nat) : Prop :=
  (rm.cells = mc ∧ rm.slots = ms ∧ rm.frames + 1 ≤ R.frames ∧ 8 + (maxL + 11) + rm.locals ≤ R.locals ∧ (∀ w ∈ ws, ∀ (a' : Array Value) (U : State), s.WarmedH U.vm → w.before a' U = true) ∧ Cond.codeWith y bytes maxL ret hh ∈ ws) ∧
  (Cond.codeWith y bytes maxL ret hh).before args s = true ∧ (Cond.initialized y.cls).before args s = true ∧ (y.cls ≠ "java/lang/invoke/MethodHandle" ∧ y.cls ≠ "java/lang/invoke/VarHandle") ∧
  (∀ sig, parseMethodDescriptor y.desc = some sig → n = sig.parameters.length) ∧ (Cond.methodLink own index y).before args s = true ∧ (Cond.static y).before args s = true
theorem vx_cwSW {own : String} {index maxL mc ms : Nat} {y : MethodName} {bytes : ByteArray} {ret : Option FieldType} {hh : List (Nat × Nat × Nat × Nat)} {Ts ws ws' : List Cond} {rm : Room} (n : Nat) (ht : ∀ w ∈ Ts, w.before args s = true) (hT : GoodIn Ts (va_wsS own index y ws)) (hw : ws = Cond.codeWith y bytes maxL ret hh :: ws') (hrc : rm.cells = mc) (hrs : rm.slots = ms)
    (hd : y.cls ≠ "java/lang/invoke/MethodHandle" ∧ y.cls ≠ "java/lang/invoke/VarHandle" ∧ (parseMethodDescriptor y.desc).map (fun d => d.parameters.length) = some n) (hR : rm.frames + 1 ≤ R.frames ∧ 8 + (maxL + 11) + rm.locals ≤ R.locals) :
    vx_CSW R s args own index y bytes maxL ret hh ws rm mc ms n := by
  have ok : ∀ w ∈ va_wsS own index y ws, w.before args s = true := fun w h => ht w (hT w h).1
  have hG : GoodIn Ts ws := fun w h => hT w (by unfold va_wsS; exact List.mem_append_right _ h)
  have hc : Cond.codeWith y bytes maxL ret hh ∈ ws := by rw [hw]; exact List.mem_cons_self
  refine ⟨⟨hrc, hrs, hR.1, hR.2, pay_in ht hG, hc⟩, ht _ (hG _ hc).1, ok _ (by simp [va_wsS]), ⟨hd.1, hd.2.1⟩, fun sig h => ?_, ok _ (by simp [va_wsS]), ok _ (by simp [va_wsS])⟩
  have h2 := hd.2.2
  rw [h] at h2
  exact (Option.some.inj h2).symm
theorem vx_callSW (X : Stand p l e R s m args below meth c T locs cells slots) (hexec : p.tables.exec = Jvm.exec) {own : String} {index : Nat} {y : MethodName} {bytes : ByteArray} {maxL : Nat} {ret : Option FieldType} {hh : List (Nat × Nat × Nat × Nat)}
    (hown : s.vm.findClass own = some m.cls) (hlink : (Cond.methodLink own index y).before args s = true) (hstat : (Cond.static y).before args s = true) (hinit : (Cond.initialized y.cls).before args s = true)
    (hcode : (Cond.codeWith y bytes maxL ret hh).before args s = true) (hy : y.cls ≠ "java/lang/invoke/MethodHandle" ∧ y.cls ≠ "java/lang/invoke/VarHandle")
    {W9 : Nat} {Pre : Pt → Array Value → Prop} {Post : Pt → Array Value → Option Value → Pt → Prop} (hK : Back l R p e below s args y 3 W9 Pre Post)
    {g : JFrame} (hg : g.method = m) (hsize : g.locals.size = c.maxLocals) {argsL rest : List Value} (hlen : ∀ sig, parseMethodDescriptor y.desc = some sig → argsL.length = sig.parameters.length)
    (hstack : g.stack = argsL.reverse ++ rest) (hW : 2 * g.monitorRoom + (rest.map fun v => v.category).sum ≤ W9) (hdg : decode c.code g.pc = .ok (.invokestatic index, 3))
    (hpre : ∀ vm₁, s.WarmedH vm₁ → Pre ⟨T.setVm vm₁, locs, cells, slots⟩ argsL.toArray) :
    ∃ (v : Option Value) (vm₁ : Vm) (B : Pt), s.WarmedH vm₁ ∧ Stand p l e R s m args below meth c B.U B.locs B.cells B.slots ∧ Post ⟨T.setVm vm₁, locs, cells, slots⟩ argsL.toArray v B ∧
      ∀ target, Steps p.tables e below (B.U.setTop { g with pc := g.pc + 3, stack := v.toList ++ rest }) target → Steps p.tables e below (T.setTop g) target := by
  obtain ⟨mk, methM, cM, hnamed, hmethM, -, -, -, -, -, -, hsigM⟩ := Cond.codeWith_spec hcode
  have hstatic : methM.isStatic = true := Cond.static_spec hnamed hmethM hstat
  obtain ⟨kP, hkP, -⟩ := className_of_methodNamed hnamed
  have hinitP : kP.init = .initialized := Cond.initialized_spec (findClass_of_methodNamed hnamed) hkP hinit
  obtain ⟨vm₁, X₁, hstep₁⟩ := X.invokestatic hexec hown hlink hnamed hmethM hstatic hkP hinitP hy (g := g) hg (argsL := argsL) (rest := rest) (hlen _ hsigM) hstack hdg
  obtain ⟨v, B, X', hpost, hsteps⟩ := hK m meth c ⟨T.setVm vm₁, locs, cells, slots⟩ { g with stack := rest } (.invokestatic index) mk argsL.toArray X₁ hg hsize hdg hW (X₁.named hnamed) (hpre vm₁ X₁.warmed)
  exact ⟨v, vm₁, B, X₁.warmed, X', hpost, fun target h => hstep₁ _ fun acts => by rw [doInvoke_state]; exact hsteps.trans h⟩
theorem vx_runSW {y : MethodName} {bytes cc : ByteArray} {maxL nL mc ms n index : Nat} {ret : Option FieldType} {hh : List (Nat × Nat × Nat × Nat)} {ws : List Cond} {rm : Room} {Pc : Array Value → State → Prop} {Qc : Array Value → State → Outcome → State → Prop} {free : Addr → Prop} {Ts : List Cond} {own : String} {As rest : List Value} {g : JFrame}
    (S : CallFix p m c cc nL s args Ts own) (hM : Met l y ws rm Pc Qc mc ms free) (cw : vx_CSW R s args own index y bytes maxL ret hh ws rm mc ms n) (hp : PreS s H Pc As)
    (hg : g.method = m) (hn : As.length = n) (hsize : g.locals.size = nL) (hstack : g.stack = As.reverse ++ rest) (hW : 2 * g.monitorRoom + (rest.map fun v => v.category).sum ≤ 8) (hdg : decode cc g.pc = .ok (.invokestatic index, 3)) (hf : cells + mc ≤ R.cells ∧ slots + ms ≤ R.slots) :
    va_Run p l e R s m args below meth c H locs cells slots mc ms g rest (Qc As.toArray) (free) := by
  obtain ⟨⟨hrc, hrs, hfr, hlo, hws, hcw⟩, hcode, hini, hy, hlen, hl, hstt⟩ := cw
  have hK : Back l R p e below s args y 3 8 (PreOf R mc ms Pc) (PostOf Qc mc ms free) := va_backW (hh := hh) (bytes := bytes) (maxL := maxL) (ret := ret) hM hp.1 hrc hrs hfr hlo hws hcw (fun a' U hW => word_at hW (Or.inl (by first | rfl | simp [Cond.onTables, Cond.keeps, Cond.steady])) hini)
  obtain ⟨hx, hb, hml, ho, -⟩ := S
  intro T hT X
  obtain ⟨v, vm₁, ⟨U', l2, c2, s2⟩, hW₁, X', ⟨g', mk, t, L, e1, e2, hq, h1, hL, h2, h3⟩, st⟩ := vx_callSW X hx (hh := hh) (bytes := bytes) (maxL := maxL) (ret := ret) ho hl hstt hini hcode hy hK hg (hsize.trans hml.symm) (argsL := As) (rest := rest) (fun sig h => hn.trans (hlen sig h)) hstack hW (by rw [hb]; exact hdg)
    (fun vm₁ hW₁ => ⟨hf.1, hf.2, hp.2 (T.setVm vm₁) hT hW₁⟩)
  dsimp only [Pt.U, Pt.locs, Pt.cells, Pt.slots] at X' e1 e2 h1 h2 h3 st
  subst h1; subst h2; subst h3
  exact ⟨v, (T.setVm vm₁).calling g' mk As.toArray, t, U', L, hT, X', hL, e1, e2, hq, st⟩
/-- not caught here, past rows that name other classes: it goes on to the caller -/
theorem vx_outP {p : Program} {l : Launch} {e : Env} {R : Room} {s : State} {m : MethodId} {args : Array Value} {below : List Frame} {meth : Method} {c : Code} {H : Heap} {locs : List Loc} {cells slots : Nat} {free : Addr → Prop} {ls : Array Slot} {rest : List Value} {Qc : Array Value → State → Outcome → State → Prop} {XC : String → State → State → Prop}
    {pc : Nat} {own E : String} {ce : Cell} {q : Addr} {mc ms : Nat} (hown : s.vm.findClass own = some m.cls) (hlocks : meth.locks = false)
    (hpass : ∀ z ∈ c.exceptionTable.toList, covers z pc = false ∨ (z.catchType ≠ 0 ∧ ∃ nm : String, (Cond.classLink own z.catchType nm).before args s = true ∧ va_Nc E nm s)) (hcell : H[q]? = some ce) (hv : ce.vm = .none) (hcl : s.vm.findClass E = some ce.cls)
    (hx : ∀ t : State, t.heap = H → s.vm.Alike t.vm → XC E s t) (hf : ∀ z ∈ locs, free z.base) (hc : cells ≤ mc) (hs : slots ≤ ms) :
    vx_W p l e R s m args below meth c H locs cells slots (vx_MQ below Qc XC args s mc ms free) (F0 m pc ls rest) q := by
  intro T hT X
  have hpl : e.platform.magicAccessors = ({} : Platform).magicAccessors := by rw [X.admits.platform]
  obtain ⟨vm', hW', X', st⟩ := X.outThrough hlocks q (g := F0 m pc ls rest) rfl rfl rfl (cell := ce) (by rw [hT]; exact hcell) (by rw [hv]; rfl)
    (by obtain ⟨k9, h9, -⟩ := Vm.findClass_spec hcl; exact ⟨k9, h9⟩) (fun z hz => by
      rcases hpass z hz with h | ⟨hz0, nm, hl1, hn1⟩
      · exact Or.inl h
      · obtain ⟨c6, hc6, hcl6⟩ := Cond.classLink_spec hown hl1 e.platform hpl
        obtain ⟨a8, b8, h1, h2, h3⟩ := hn1
        cases Option.some.inj (h1.symm.trans hcl)
        cases Option.some.inj (h2.symm.trans hc6)
        exact Or.inr ⟨hz0, _, hcl6, h3⟩)
  obtain ⟨g₀, hfr⟩ := X'.frames_eq
  have hcell9 : ((T.setVm vm').setFrames (.throwing q :: below)).heap[q]? = some ce := by
    show T.heap[q]? = some ce
    rw [hT]; exact hcell
  have hend : Ended ((T.setVm vm').setFrames (.throwing q :: below)) below (.threw q) := State.frames_setFrames _ (State.cur_lt_of_frames hfr)
  refine ⟨(T.setVm vm').setFrames (.throwing q :: below), ?_, .threw q, X'.here.running, hend, Or.inr ⟨q, rfl, E, ce, locs, hx _ hT (X'.ends _).1.alike, hcell9, hv, hcl, (X'.ends _).1, (X'.ends _).2.mono hc hs, hf⟩⟩
  rw [X.pushThrowing_eq]
  exact st
/-- a thing of a world lies in the heap -/
theorem vx_lt {D : va_G} {cl : List vw_C} {ws : va_W} {H1 : Heap} (h : va_P D cl ws H1) {k : Nat} {q : Nat × va_E} (hk : ws[k]? = some q) : q.1 < H1.size := (h k q hk).lt
end VXS
/-! ===== END ===== -/
/-! ===== BEGIN methods with a table of their own: called by a name, returning or throwing ===== -/
section VXH
/-! vx_backW, vx_callVX, vx_callSX, vx_callVW, vx_runVW, vx_runVX, vx_runSX, vx_ofWH follow the same proofs as their sisters above (Free/Laws.lean, Shelf42/LK1.lean); vx_outP calls Shelf42/NT130.lean (outThrough). -/
section
variable {l : Launch} {R : Room} {p : Program} {e : Env} {below : List Frame} {s : State} {sargs : Array Value} {y : MethodName} {len W9 : Nat}
theorem vx_backW {ws : List Cond} {rm : Room} {Pc : Array Value → State → Prop} {Qc : Array Value → State → Outcome → State → Prop} {XC : String → State → State → Prop} {mc ms : Nat} {free : Addr → Prop} {bytes : ByteArray} {maxL : Nat} {ret : Option FieldType} {hh : List (Nat × Nat × Nat × Nat)}
    (hM : vx_Met l y ws rm Pc Qc XC mc ms free) (hblind : FrameBlind Pc) (hrc : rm.cells = mc) (hrs : rm.slots = ms)
    (hframes : rm.frames + 1 ≤ R.frames) (hlocals : W9 + (maxL + 11) + rm.locals ≤ R.locals)
    (hws : ∀ w ∈ ws, ∀ a' U, s.WarmedH U.vm → w.before a' U = true) (hcode : Cond.codeWith y bytes maxL ret hh ∈ ws) (hinit : ∀ a' U, s.WarmedH U.vm → (Cond.initialized y.cls).before a' U = true) :
    vx_Back l R p e below s sargs y len W9 (PreOf R mc ms Pc) (PostOf Qc mc ms free) (vx_Post XC mc ms free) := by
  intro m meth c A g ig mk a X hg hsize hdg hW hn hp
  have h1 : (headSpec ws rm).pre.before a A.U = true := atoms_intro fun w hw => hws w hw _ _ X.warmed
  have h2 : (Cond.codeWith y bytes maxL ret hh).before a A.U = true := hws _ hcode _ _ X.warmed
  have h3 : (Cond.initialized y.cls).before a A.U = true := hinit _ _ X.warmed
  have h4 : A.cells + (headSpec ws rm).room.cells ≤ R.cells := by rw [show (headSpec ws rm).room.cells = mc from hrc]; exact hp.1
  have h5 : A.slots + (headSpec ws rm).room.slots ≤ R.slots := by rw [show (headSpec ws rm).room.slots = ms from hrs]; exact hp.2.1
  have hPc : Pc a (A.U.calling g mk a) := hblind _ _ _ _ hp.2.2
  obtain ⟨U, Ls, c0, s0⟩ := A
  dsimp only [Pt.U, Pt.locs, Pt.cells, Pt.slots] at h1 h2 h3 h4 h5 X hn hPc ⊢
  obtain ⟨m9, methY, cY, hn9, hmY, hcY, -, hlY, -⟩ := Cond.codeWith_spec h2
  cases Option.some.inj (hn9.symm.trans hn)
  obtain ⟨kY, hkY, -⟩ := className_of_methodNamed hn
  have hinitY : kY.init = .initialized := Cond.initialized_spec (findClass_of_methodNamed hn) hkY h3
  have h : At U g.method c below := by rw [hg]; exact X.here
  have hlocals9 : W9 + (maxL + 11) + (headSpec ws rm).room.locals ≤ R.locals := hlocals
  have happ : (headSpec ws rm).appliesLoose y e.platform (U.calling g mk a) = true :=
    Spec.appliesLoose_calling (g := g) h hdg hn hkY hinitY
      (X.room_calling (g := g) (R' := (headSpec ws rm).room) hsize hmY hcY hframes (by rw [hlY]; omega) h4 h5) h1
  obtain ⟨mid, hmid⟩ := h.above
  have hfr : (U.setTop g).frames = (.java g :: mid) ++ below := by rw [State.frames_setTop' g h.top, hmid]; rfl
  obtain ⟨o, s₂, hsteps, -, hend, hq⟩ := Steps.callFree hM p X.admits X.cas X.clock (acts := []) hfr happ hPc trivial
  have hq' : vx_Q Qc XC mc ms free a (U.calling g mk a) o s₂ := hq
  rw [State.frames_setTop' g h.top] at hend
  obtain ⟨g₀, hg0⟩ := Option.isSome_iff_exists.mp h.top
  obtain ⟨r, hr⟩ := State.topJava?_eq_some.mp hg0
  have hr' : (({ U with heap := s₂.heap, slotsUsed := s₂.slotsUsed } : State).setVm s₂.vm).frames = .java g₀ :: r := hr
  rcases hq' with ⟨hqc, L, hfe, hL⟩ | ⟨q, rfl, E, ce, L, hx, hce, hcv, hcl, hW₂, hsm, hL⟩
  · obtain ⟨⟨v, rfl⟩, hW₂, e2, q2, q3, q4, q5, q6⟩ := id hfe
    have e3 : s₂ = ({ (U.calling g mk a).setFrames s₂.frames with heap := s₂.heap, slotsUsed := s₂.slotsUsed } : State).setVm s₂.vm := by
      have : s₂ = ({ s₂ with vm := (U.calling g mk a).vm } : State).setVm s₂.vm := rfl
      rw [e2] at this
      exact this
    obtain ⟨c₂, i₂, len₂, hc₂, hd₂, hf₂⟩ := hend
    have hW' : U.WarmedH s₂.vm := hW₂
    have hcc : c₂ = c := by
      have h1 : s₂.code? g.method = U.code? g.method := by
        rw [State.code?_eq, State.code?_eq, hW'.alike.method?]
      exact Option.some.inj (hc₂.symm.trans (h1.trans h.code))
    subst hcc
    have hlen : len₂ = len := by rw [hdg] at hd₂; cases hd₂; rfl
    subst hlen
    have hs₂ : s₂ = (({ U with heap := s₂.heap, slotsUsed := s₂.slotsUsed } : State).setVm s₂.vm).setTop { g with pc := g.pc + len₂, stack := v.toList ++ g.stack } := by
      refine e3.trans ?_
      rw [hf₂, State.calling_eq h.top, State.setFrames_setFrames, State.setTop_of_frames _ hr', hr]
      rfl
    have hsame : U.sameButNew ({ U with heap := s₂.heap, slotsUsed := s₂.slotsUsed } : State) L mc ms := by
      refine ⟨?_, q2, q3, q4, q5, q6⟩
      obtain ⟨t, ht, -⟩ := State.frames_cons hr
      show ({ U with heap := s₂.heap, slotsUsed := s₂.slotsUsed } : State) = { U.setFrames U.frames with heap := s₂.heap, slotsUsed := s₂.slotsUsed }
      rw [State.setFrames_self ht]
    subst hg
    refine Or.inl ⟨v, ⟨(({ U with heap := s₂.heap, slotsUsed := s₂.slotsUsed } : State).setVm s₂.vm), Ls ++ L, c0 + mc, s0 + ms⟩,
      ⟨X.admits, X.cas, X.clock, X.frames, X.room, X.hears, X.method, X.code, (X.here.setHeapUsed s₂.heap s₂.slotsUsed).setVm hW'.alike, X.tail, State.WarmedH.trans X.warmed hW', X.limits, X.bytes, X.same.trans (hsame.setVm s.vm)⟩,
      ⟨g, mk, s₂, L, rfl, rfl, hqc, rfl, hL, rfl, rfl⟩, ?_⟩
    show Steps p.tables e below _ ((({ U with heap := s₂.heap, slotsUsed := s₂.slotsUsed } : State).setVm s₂.vm).setTop { g with pc := g.pc + len₂, stack := v.toList ++ g.stack })
    rw [← hs₂]
    exact hsteps
  · obtain ⟨e2, q2, q3, q4, q5, q6⟩ := id hsm
    have e3 : s₂ = ({ (U.calling g mk a).setFrames s₂.frames with heap := s₂.heap, slotsUsed := s₂.slotsUsed } : State).setVm s₂.vm := by
      have : s₂ = ({ s₂ with vm := (U.calling g mk a).vm } : State).setVm s₂.vm := rfl
      rw [e2] at this
      exact this
    have hf₂ : s₂.frames = .throwing q :: .java g :: U.frames.tail := hend
    have hW' : U.WarmedH s₂.vm := hW₂
    have hs₂ : s₂ = ((({ U with heap := s₂.heap, slotsUsed := s₂.slotsUsed } : State).setVm s₂.vm).setTop g).pushFrame (.throwing q) := by
      refine e3.trans ?_
      rw [hf₂, State.calling_eq h.top, State.setFrames_setFrames, State.pushFrame, State.frames_setTop _ hr', State.setTop_of_frames _ hr', State.setFrames_setFrames, hr]
      rfl
    have hsame : U.sameButNew ({ U with heap := s₂.heap, slotsUsed := s₂.slotsUsed } : State) L mc ms := by
      refine ⟨?_, q2, q3, q4, q5, q6⟩
      obtain ⟨t, ht, -⟩ := State.frames_cons hr
      show ({ U with heap := s₂.heap, slotsUsed := s₂.slotsUsed } : State) = { U.setFrames U.frames with heap := s₂.heap, slotsUsed := s₂.slotsUsed }
      rw [State.setFrames_self ht]
    subst hg
    refine Or.inr ⟨q, ⟨(({ U with heap := s₂.heap, slotsUsed := s₂.slotsUsed } : State).setVm s₂.vm), Ls ++ L, c0 + mc, s0 + ms⟩,
      ⟨X.admits, X.cas, X.clock, X.frames, X.room, X.hears, X.method, X.code, (X.here.setHeapUsed s₂.heap s₂.slotsUsed).setVm hW'.alike, X.tail, State.WarmedH.trans X.warmed hW', X.limits, X.bytes, X.same.trans (hsame.setVm s.vm)⟩,
      ⟨g, mk, s₂, L, E, ce, rfl, rfl, hx, hce, hcv, hcl, rfl, hL, rfl, rfl⟩, ?_⟩
    show Steps p.tables e below _ (((({ U with heap := s₂.heap, slotsUsed := s₂.slotsUsed } : State).setVm s₂.vm).setTop g).pushFrame (.throwing q))
    rw [← hs₂]
    exact hsteps
end
variable {p : Program} {l : Launch} {e : Env} {R : Room} {s : State} {m : MethodId} {args : Array Value} {below : List Frame} {meth : Method} {c : Code} {T : State} {H : Heap} {locs : List Loc} {cells slots : Nat}
theorem vx_callVX (X : Stand p l e R s m args below meth c T locs cells slots) (hexec : p.tables.exec = Jvm.exec) {own C : String} {index : Nat} {y : MethodName} {bytes : ByteArray} {maxL : Nat} {ret : Option FieldType} {hh : List (Nat × Nat × Nat × Nat)}
    (hown : s.vm.findClass own = some m.cls) (hlink : (Cond.methodLink own index y).before args s = true) (hinst : (Cond.instanceMethod y).before args s = true) (hsel : (Cond.selects C y y).before args s = true)
    (hcode : (Cond.codeWith y bytes maxL ret hh).before args s = true) (hy : y.cls ≠ "java/lang/invoke/MethodHandle" ∧ y.cls ≠ "java/lang/invoke/VarHandle")
    {W9 : Nat} {Pre : Pt → Array Value → Prop} {Post : Pt → Array Value → Option Value → Pt → Prop} {PostX : Pt → Array Value → Addr → Pt → Prop} (hK : vx_Back l R p e below s args y 3 W9 Pre Post PostX)
    {b : Addr} {cellB : Cell} (hcell : T.heap[b]? = some cellB) (hobj : cellB.vm.isStatics = false) (hcls : s.vm.findClass C = some cellB.cls)
    {g : JFrame} (hg : g.method = m) (hsize : g.locals.size = c.maxLocals) {argsL rest : List Value} (hlen : ∀ sig, parseMethodDescriptor y.desc = some sig → argsL.length = sig.parameters.length)
    (hstack : g.stack = argsL.reverse ++ .ref b :: rest) (hW : 2 * g.monitorRoom + (rest.map fun v => v.category).sum ≤ W9) (hdg : decode c.code g.pc = .ok (.invokevirtual index, 3))
    (hpre : ∀ vm₁, s.WarmedH vm₁ → Pre ⟨T.setVm vm₁, locs, cells, slots⟩ (Value.ref b :: argsL).toArray) :
    (∃ (v : Option Value) (vm₁ : Vm) (B : Pt), s.WarmedH vm₁ ∧ Stand p l e R s m args below meth c B.U B.locs B.cells B.slots ∧ Post ⟨T.setVm vm₁, locs, cells, slots⟩ (Value.ref b :: argsL).toArray v B ∧
      ∀ target, Steps p.tables e below (B.U.setTop { g with pc := g.pc + 3, stack := v.toList ++ rest }) target → Steps p.tables e below (T.setTop g) target) ∨
    (∃ (q : Addr) (vm₁ : Vm) (B : Pt), s.WarmedH vm₁ ∧ Stand p l e R s m args below meth c B.U B.locs B.cells B.slots ∧ PostX ⟨T.setVm vm₁, locs, cells, slots⟩ (Value.ref b :: argsL).toArray q B ∧
      Steps p.tables e below (T.setTop g) ((B.U.setTop { g with stack := rest }).pushFrame (.throwing q))) := by
  obtain ⟨mk, methM, hnamed, hmethM, hstM, habM⟩ := Cond.instanceMethod_spec hinst
  obtain ⟨m8, methM', cM, hn8, hmethM', -, -, -, -, -, -, hsigM⟩ := Cond.codeWith_spec hcode
  cases Option.some.inj (hn8.symm.trans hnamed)
  cases hmethM.symm.trans hmethM'
  obtain ⟨c2, r2, m2, q1, q2, q3, q4, kP, hkP, hkPi⟩ := Cond.selects_spec hsel
  cases hcls.symm.trans q1
  cases (State.methodFound?_of_named hnamed hy).symm.trans q2
  cases hnamed.symm.trans q3
  have hselP : selectMethod e.platform s.vm cellB.cls mk = .method mk := by rw [Launch.admits_selectMethod X.admits]; exact q4
  obtain ⟨vm₁, X₁, hstep₁⟩ := X.invokevirtual hexec hown hlink hnamed hmethM hstM hkP hkPi hy (a := b) (cell := cellB) hcell
    (fun z h => by rw [h] at hobj; cases hobj) hselP hmethM habM hkP hkPi (g := g) hg (argsL := argsL) (rest := rest) (hlen _ hsigM) hstack hdg
  rcases hK m meth c ⟨T.setVm vm₁, locs, cells, slots⟩ { g with stack := rest } (.invokevirtual index) mk (Value.ref b :: argsL).toArray X₁ hg hsize hdg hW (X₁.named hnamed) (hpre vm₁ X₁.warmed) with ⟨v, B, X', hpost, hsteps⟩ | ⟨q, B, X', hpost, hsteps⟩
  · exact Or.inl ⟨v, vm₁, B, X₁.warmed, X', hpost, fun target h => hstep₁ _ fun acts => by rw [doInvoke_state]; exact hsteps.trans h⟩
  · exact Or.inr ⟨q, vm₁, B, X₁.warmed, X', hpost, hstep₁ _ fun acts => by rw [doInvoke_state]; exact hsteps⟩
theorem vx_callSX (X : Stand p l e R s m args below meth c T locs cells slots) (hexec : p.tables.exec = Jvm.exec) {own : String} {index : Nat} {y : MethodName} {bytes : ByteArray} {maxL : Nat} {ret : Option FieldType} {hh : List (Nat × Nat × Nat × Nat)}
    (hown : s.vm.findClass own = some m.cls) (hlink : (Cond.methodLink own index y).before args s = true) (hstat : (Cond.static y).before args s = true) (hinit : (Cond.initialized y.cls).before args s = true)
    (hcode : (Cond.codeWith y bytes maxL ret hh).before args s = true) (hy : y.cls ≠ "java/lang/invoke/MethodHandle" ∧ y.cls ≠ "java/lang/invoke/VarHandle")
    {W9 : Nat} {Pre : Pt → Array Value → Prop} {Post : Pt → Array Value → Option Value → Pt → Prop} {PostX : Pt → Array Value → Addr → Pt → Prop} (hK : vx_Back l R p e below s args y 3 W9 Pre Post PostX)
    {g : JFrame} (hg : g.method = m) (hsize : g.locals.size = c.maxLocals) {argsL rest : List Value} (hlen : ∀ sig, parseMethodDescriptor y.desc = some sig → argsL.length = sig.parameters.length)
    (hstack : g.stack = argsL.reverse ++ rest) (hW : 2 * g.monitorRoom + (rest.map fun v => v.category).sum ≤ W9) (hdg : decode c.code g.pc = .ok (.invokestatic index, 3))
    (hpre : ∀ vm₁, s.WarmedH vm₁ → Pre ⟨T.setVm vm₁, locs, cells, slots⟩ argsL.toArray) :
    (∃ (v : Option Value) (vm₁ : Vm) (B : Pt), s.WarmedH vm₁ ∧ Stand p l e R s m args below meth c B.U B.locs B.cells B.slots ∧ Post ⟨T.setVm vm₁, locs, cells, slots⟩ argsL.toArray v B ∧
      ∀ target, Steps p.tables e below (B.U.setTop { g with pc := g.pc + 3, stack := v.toList ++ rest }) target → Steps p.tables e below (T.setTop g) target) ∨
    (∃ (q : Addr) (vm₁ : Vm) (B : Pt), s.WarmedH vm₁ ∧ Stand p l e R s m args below meth c B.U B.locs B.cells B.slots ∧ PostX ⟨T.setVm vm₁, locs, cells, slots⟩ argsL.toArray q B ∧
      Steps p.tables e below (T.setTop g) ((B.U.setTop { g with stack := rest }).pushFrame (.throwing q))) := by
  obtain ⟨mk, methM, cM, hnamed, hmethM, -, -, -, -, -, -, hsigM⟩ := Cond.codeWith_spec hcode
  have hstatic : methM.isStatic = true := Cond.static_spec hnamed hmethM hstat
  obtain ⟨kP, hkP, -⟩ := className_of_methodNamed hnamed
  have hinitP : kP.init = .initialized := Cond.initialized_spec (findClass_of_methodNamed hnamed) hkP hinit
  obtain ⟨vm₁, X₁, hstep₁⟩ := X.invokestatic hexec hown hlink hnamed hmethM hstatic hkP hinitP hy (g := g) hg (argsL := argsL) (rest := rest) (hlen _ hsigM) hstack hdg
  rcases hK m meth c ⟨T.setVm vm₁, locs, cells, slots⟩ { g with stack := rest } (.invokestatic index) mk argsL.toArray X₁ hg hsize hdg hW (X₁.named hnamed) (hpre vm₁ X₁.warmed) with ⟨v, B, X', hpost, hsteps⟩ | ⟨q, B, X', hpost, hsteps⟩
  · exact Or.inl ⟨v, vm₁, B, X₁.warmed, X', hpost, fun target h => hstep₁ _ fun acts => by rw [doInvoke_state]; exact hsteps.trans h⟩
  · exact Or.inr ⟨q, vm₁, B, X₁.warmed, X', hpost, hstep₁ _ fun acts => by rw [doInvoke_state]; exact hsteps⟩
theorem vx_callVW (X : Stand p l e R s m args below meth c T locs cells slots) (hexec : p.tables.exec = Jvm.exec) {own C : String} {index : Nat} {y : MethodName} {bytes : ByteArray} {maxL : Nat} {ret : Option FieldType} {hh : List (Nat × Nat × Nat × Nat)}
    (hown : s.vm.findClass own = some m.cls) (hlink : (Cond.methodLink own index y).before args s = true) (hinst : (Cond.instanceMethod y).before args s = true) (hsel : (Cond.selects C y y).before args s = true)
    (hcode : (Cond.codeWith y bytes maxL ret hh).before args s = true) (hy : y.cls ≠ "java/lang/invoke/MethodHandle" ∧ y.cls ≠ "java/lang/invoke/VarHandle")
    {W9 : Nat} {Pre : Pt → Array Value → Prop} {Post : Pt → Array Value → Option Value → Pt → Prop} (hK : Back l R p e below s args y 3 W9 Pre Post)
    {b : Addr} {cellB : Cell} (hcell : T.heap[b]? = some cellB) (hobj : cellB.vm.isStatics = false) (hcls : s.vm.findClass C = some cellB.cls)
    {g : JFrame} (hg : g.method = m) (hsize : g.locals.size = c.maxLocals) {argsL rest : List Value} (hlen : ∀ sig, parseMethodDescriptor y.desc = some sig → argsL.length = sig.parameters.length)
    (hstack : g.stack = argsL.reverse ++ .ref b :: rest) (hW : 2 * g.monitorRoom + (rest.map fun v => v.category).sum ≤ W9) (hdg : decode c.code g.pc = .ok (.invokevirtual index, 3))
    (hpre : ∀ vm₁, s.WarmedH vm₁ → Pre ⟨T.setVm vm₁, locs, cells, slots⟩ (Value.ref b :: argsL).toArray) :
    ∃ (v : Option Value) (vm₁ : Vm) (B : Pt), s.WarmedH vm₁ ∧ Stand p l e R s m args below meth c B.U B.locs B.cells B.slots ∧ Post ⟨T.setVm vm₁, locs, cells, slots⟩ (Value.ref b :: argsL).toArray v B ∧
      ∀ target, Steps p.tables e below (B.U.setTop { g with pc := g.pc + 3, stack := v.toList ++ rest }) target → Steps p.tables e below (T.setTop g) target := by
  obtain ⟨mk, methM, hnamed, hmethM, hstM, habM⟩ := Cond.instanceMethod_spec hinst
  obtain ⟨m8, methM', cM, hn8, hmethM', -, -, -, -, -, -, hsigM⟩ := Cond.codeWith_spec hcode
  cases Option.some.inj (hn8.symm.trans hnamed)
  cases hmethM.symm.trans hmethM'
  obtain ⟨c2, r2, m2, q1, q2, q3, q4, kP, hkP, hkPi⟩ := Cond.selects_spec hsel
  cases hcls.symm.trans q1
  cases (State.methodFound?_of_named hnamed hy).symm.trans q2
  cases hnamed.symm.trans q3
  have hselP : selectMethod e.platform s.vm cellB.cls mk = .method mk := by rw [Launch.admits_selectMethod X.admits]; exact q4
  obtain ⟨vm₁, X₁, hstep₁⟩ := X.invokevirtual hexec hown hlink hnamed hmethM hstM hkP hkPi hy (a := b) (cell := cellB) hcell
    (fun z h => by rw [h] at hobj; cases hobj) hselP hmethM habM hkP hkPi (g := g) hg (argsL := argsL) (rest := rest) (hlen _ hsigM) hstack hdg
  obtain ⟨v, B, X', hpost, hsteps⟩ := hK m meth c ⟨T.setVm vm₁, locs, cells, slots⟩ { g with stack := rest } (.invokevirtual index) mk (Value.ref b :: argsL).toArray X₁ hg hsize hdg hW (X₁.named hnamed) (hpre vm₁ X₁.warmed)
  exact ⟨v, vm₁, B, X₁.warmed, X', hpost, fun target h => hstep₁ _ fun acts => by rw [doInvoke_state]; exact hsteps.trans h⟩
abbrev vx_CVW (R : Room) (s : State) (args : Array Value) (own C : String) (index : Nat) (y : MethodName) (bytes : ByteArray) (maxL : Nat) (ret : Option FieldType) (hh : List (Nat × Nat × Nat × Nat)) (ws : List Cond) (rm : Room) (mc ms n : Nat) : Prop :=
  (rm.cells = mc ∧ rm.slots = ms ∧ rm.frames + 1 ≤ R.frames ∧ 8 + (maxL + 11) + rm.locals ≤ R.locals ∧ (∀ w ∈ ws, ∀ (a' : Array Value) (U : State), s.WarmedH U.vm → w.before a' U = true) ∧ Cond.codeWith y bytes maxL ret hh ∈ ws) ∧
  (Cond.codeWith y bytes maxL ret hh).before args s = true ∧ (Cond.initialized y.cls).before args s = true ∧ (y.cls ≠ "java/lang/invoke/MethodHandle" ∧ y.cls ≠ "java/lang/invoke/VarHandle") ∧
  (∀ sig, parseMethodDescriptor y.desc = some sig → n = sig.parameters.length) ∧ (Cond.methodLink own index y).before args s = true ∧ (Cond.instanceMethod y).before args s = true ∧ (Cond.selects C y y).before args s = true
theorem vx_cwVW {own C : String} {index maxL mc ms : Nat} {y : MethodName} {bytes : ByteArray} {ret : Option FieldType} {hh : List (Nat × Nat × Nat × Nat)} {Ts ws ws' : List Cond} {rm : Room} (n : Nat) (ht : ∀ w ∈ Ts, w.before args s = true) (hT : GoodIn Ts (wsV own index C y ws)) (hw : ws = Cond.codeWith y bytes maxL ret hh :: ws') (hrc : rm.cells = mc) (hrs : rm.slots = ms)
    (hd : y.cls = C ∧ y.cls ≠ "java/lang/invoke/MethodHandle" ∧ y.cls ≠ "java/lang/invoke/VarHandle" ∧ (parseMethodDescriptor y.desc).map (fun d => d.parameters.length) = some n) (hR : rm.frames + 1 ≤ R.frames ∧ 8 + (maxL + 11) + rm.locals ≤ R.locals) :
    vx_CVW R s args own C index y bytes maxL ret hh ws rm mc ms n := by
  obtain ⟨hC, hd⟩ := hd
  subst hC
  have ok : ∀ w ∈ wsV own index y.cls y ws, w.before args s = true := fun w h => ht w (hT w h).1
  have hG : GoodIn Ts ws := fun w h => hT w (by unfold wsV; exact List.mem_append_right _ h)
  have hc : Cond.codeWith y bytes maxL ret hh ∈ ws := by rw [hw]; exact List.mem_cons_self
  refine ⟨⟨hrc, hrs, hR.1, hR.2, pay_in ht hG, hc⟩, ht _ (hG _ hc).1, ok _ (by simp [wsV]), ⟨hd.1, hd.2.1⟩, fun sig h => ?_, ok _ (by simp [wsV]), ok _ (by simp [wsV]), ok _ (by simp [wsV])⟩
  have h2 := hd.2.2
  rw [h] at h2
  exact (Option.some.inj h2).symm
theorem vx_runVW {y : MethodName} {bytes cc : ByteArray} {maxL nL mc ms n index : Nat} {ret : Option FieldType} {hh : List (Nat × Nat × Nat × Nat)} {ws : List Cond} {rm : Room} {Pc : Array Value → State → Prop} {Qc : Array Value → State → Outcome → State → Prop} {free : Addr → Prop} {Ts : List Cond} {own C : String} {b : Addr} {As rest : List Value} {g : JFrame}
    (S : CallFix p m c cc nL s args Ts own) (hM : Met l y ws rm Pc Qc mc ms free) (cw : vx_CVW R s args own C index y bytes maxL ret hh ws rm mc ms n) (hp : PreV s H C b Pc As)
    (hg : g.method = m) (hn : As.length = n) (hsize : g.locals.size = nL) (hstack : g.stack = As.reverse ++ .ref b :: rest) (hW : 2 * g.monitorRoom + (rest.map fun v => v.category).sum ≤ 8) (hdg : decode cc g.pc = .ok (.invokevirtual index, 3)) (hf : cells + mc ≤ R.cells ∧ slots + ms ≤ R.slots) :
    va_Run p l e R s m args below meth c H locs cells slots mc ms g rest (Qc (Value.ref b :: As).toArray) free := by
  obtain ⟨⟨hrc, hrs, hfr, hlo, hws, hcw⟩, hcode, hini, hy, hlen, hl, hin, hse⟩ := cw
  have hK : Back l R p e below s args y 3 8 (PreOf R mc ms Pc) (PostOf Qc mc ms free) := va_backW (hh := hh) (bytes := bytes) (maxL := maxL) (ret := ret) hM hp.1 hrc hrs hfr hlo hws hcw (fun a' U hW => word_at hW (Or.inl (by first | rfl | simp [Cond.onTables, Cond.keeps, Cond.steady])) hini)
  obtain ⟨hx, hb, hml, ho, -⟩ := S
  obtain ⟨-, ⟨cellB, hcB, hoB, hclB⟩, hPc⟩ := hp
  intro T hT X
  obtain ⟨v, vm₁, ⟨U', l2, c2, s2⟩, hW₁, X', ⟨g', mk, t, L, e1, e2, hq, h1, hL, h2, h3⟩, st⟩ := vx_callVW X hx (C := C) (hh := hh) (bytes := bytes) (maxL := maxL) (ret := ret) ho hl hin hse hcode hy hK (by rw [hT]; exact hcB) hoB hclB hg (hsize.trans hml.symm) (argsL := As) (rest := rest) (fun sig h => hn.trans (hlen sig h)) hstack hW (by rw [hb]; exact hdg)
    (fun vm₁ hW₁ => ⟨hf.1, hf.2, hPc (T.setVm vm₁) hT hW₁⟩)
  dsimp only [Pt.U, Pt.locs, Pt.cells, Pt.slots] at X' e1 e2 h1 h2 h3 st
  subst h1; subst h2; subst h3
  exact ⟨v, (T.setVm vm₁).calling g' mk (Value.ref b :: As).toArray, t, U', L, hT, X', hL, e1, e2, hq, st⟩
section
variable {y : MethodName} {bytes cc : ByteArray} {maxL nL mc ms n index : Nat} {ret : Option FieldType} {ws : List Cond} {rm : Room} {Pc : Array Value → State → Prop} {Qc : Array Value → State → Outcome → State → Prop} {XC : String → State → State → Prop} {free : Addr → Prop} {Ts : List Cond} {own C : String} {b : Addr} {As rest : List Value} {g : JFrame}
theorem vx_runVX {hh : List (Nat × Nat × Nat × Nat)} (S : CallFix p m c cc nL s args Ts own) (hM : vx_Met l y ws rm Pc Qc XC mc ms free) (cw : vx_CVW R s args own C index y bytes maxL ret hh ws rm mc ms n) (hp : PreV s H C b Pc As)
    (hg : g.method = m) (hn : As.length = n) (hsize : g.locals.size = nL) (hstack : g.stack = As.reverse ++ .ref b :: rest) (hW : 2 * g.monitorRoom + (rest.map fun v => v.category).sum ≤ 8) (hdg : decode cc g.pc = .ok (.invokevirtual index, 3)) (hf : cells + mc ≤ R.cells ∧ slots + ms ≤ R.slots) :
    vx_Run p l e R s m args below meth c H locs cells slots mc ms g rest (Qc (Value.ref b :: As).toArray) XC free := by
  obtain ⟨⟨hrc, hrs, hfr, hlo, hws, hcw⟩, hcode, hini, hy, hlen, hl, hin, hse⟩ := cw
  have hK : vx_Back l R p e below s args y 3 8 (PreOf R mc ms Pc) (PostOf Qc mc ms free) (vx_Post XC mc ms free) := vx_backW (hh := hh) (bytes := bytes) (maxL := maxL) (ret := ret) hM hp.1 hrc hrs hfr hlo hws hcw (fun a' U hW => word_at hW (Or.inl (by first | rfl | simp [Cond.onTables, Cond.keeps, Cond.steady])) hini)
  obtain ⟨hx, hb, hml, ho, -⟩ := S
  obtain ⟨-, ⟨cellB, hcB, hoB, hclB⟩, hPc⟩ := hp
  intro T hT X
  rcases vx_callVX X hx (C := C) (hh := hh) (bytes := bytes) (maxL := maxL) (ret := ret) ho hl hin hse hcode hy hK (by rw [hT]; exact hcB) hoB hclB hg (hsize.trans hml.symm) (argsL := As) (rest := rest) (fun sig h => hn.trans (hlen sig h)) hstack hW (by rw [hb]; exact hdg)
    (fun vm₁ hW₁ => ⟨hf.1, hf.2, hPc (T.setVm vm₁) hT hW₁⟩) with ⟨v, vm₁, ⟨U', l2, c2, s2⟩, hW₁, X', ⟨g', mk, t, L, e1, e2, hq, h1, hL, h2, h3⟩, st⟩ | ⟨q, vm₁, ⟨U', l2, c2, s2⟩, hW₁, X', ⟨g', mk, t, L, E, ce, e1, e2, hq, hce, hcv, hcl, h1, hL, h2, h3⟩, st⟩
  · dsimp only [Pt.U, Pt.locs, Pt.cells, Pt.slots] at X' e1 e2 h1 h2 h3 st
    subst h1; subst h2; subst h3
    exact Or.inl ⟨v, (T.setVm vm₁).calling g' mk (Value.ref b :: As).toArray, t, U', L, hT, X', hL, e1, e2, hq, st⟩
  · dsimp only [Pt.U, Pt.locs, Pt.cells, Pt.slots] at X' e1 e2 h1 h2 h3 st hcl
    subst h1; subst h2; subst h3
    exact Or.inr ⟨q, (T.setVm vm₁).calling g' mk (Value.ref b :: As).toArray, t, U', L, E, ce, hT, X', hL, e1, e2, hq, hce, hcv, vx_cls hW₁ hcl, st⟩
theorem vx_runSX {hh : List (Nat × Nat × Nat × Nat)} (S : CallFix p m c cc nL s args Ts own) (hM : vx_Met l y ws rm Pc Qc XC mc ms free) (cw : vx_CSW R s args own index y bytes maxL ret hh ws rm mc ms n) (hp : PreS s H Pc As)
    (hg : g.method = m) (hn : As.length = n) (hsize : g.locals.size = nL) (hstack : g.stack = As.reverse ++ rest) (hW : 2 * g.monitorRoom + (rest.map fun v => v.category).sum ≤ 8) (hdg : decode cc g.pc = .ok (.invokestatic index, 3)) (hf : cells + mc ≤ R.cells ∧ slots + ms ≤ R.slots) :
    vx_Run p l e R s m args below meth c H locs cells slots mc ms g rest (Qc As.toArray) XC free := by
  obtain ⟨⟨hrc, hrs, hfr, hlo, hws, hcw⟩, hcode, hini, hy, hlen, hl, hstt⟩ := cw
  have hK : vx_Back l R p e below s args y 3 8 (PreOf R mc ms Pc) (PostOf Qc mc ms free) (vx_Post XC mc ms free) := vx_backW (hh := hh) (bytes := bytes) (maxL := maxL) (ret := ret) hM hp.1 hrc hrs hfr hlo hws hcw (fun a' U hW => word_at hW (Or.inl (by first | rfl | simp [Cond.onTables, Cond.keeps, Cond.steady])) hini)
  obtain ⟨hx, hb, hml, ho, -⟩ := S
  intro T hT X
  rcases vx_callSX X hx (hh := hh) (bytes := bytes) (maxL := maxL) (ret := ret) ho hl hstt hini hcode hy hK hg (hsize.trans hml.symm) (argsL := As) (rest := rest) (fun sig h => hn.trans (hlen sig h)) hstack hW (by rw [hb]; exact hdg)
    (fun vm₁ hW₁ => ⟨hf.1, hf.2, hp.2 (T.setVm vm₁) hT hW₁⟩) with ⟨v, vm₁, ⟨U', l2, c2, s2⟩, hW₁, X', ⟨g', mk, t, L, e1, e2, hq, h1, hL, h2, h3⟩, st⟩ | ⟨q, vm₁, ⟨U', l2, c2, s2⟩, hW₁, X', ⟨g', mk, t, L, E, ce, e1, e2, hq, hce, hcv, hcl, h1, hL, h2, h3⟩, st⟩
  · dsimp only [Pt.U, Pt.locs, Pt.cells, Pt.slots] at X' e1 e2 h1 h2 h3 st
    subst h1; subst h2; subst h3
    exact Or.inl ⟨v, (T.setVm vm₁).calling g' mk As.toArray, t, U', L, hT, X', hL, e1, e2, hq, st⟩
  · dsimp only [Pt.U, Pt.locs, Pt.cells, Pt.slots] at X' e1 e2 h1 h2 h3 st hcl
    subst h1; subst h2; subst h3
    exact Or.inr ⟨q, (T.setVm vm₁).calling g' mk As.toArray, t, U', L, E, ce, hT, X', hL, e1, e2, hq, hce, hcv, vx_cls hW₁ hcl, st⟩
end
end VXH
theorem vx_ofWH {l : Launch} {y : MethodName} {ws ws' : List Cond} {rm : Room} {Pc : Array Value → State → Prop} {Qc : Array Value → State → Outcome → State → Prop} {XC : String → State → State → Prop} {mc ms : Nat} {free : Addr → Prop} {cc : ByteArray} {maxL : Nat} {ret : Option FieldType} {hh : List (Nat × Nat × Nat × Nat)}
    (hy : plainName y.cls = true) (hw : ws = Cond.codeWith y cc maxL ret hh :: ws')
    (body : ∀ p e s m args below meth c s₁, BodyLoose p l y (headSpec ws rm) cc maxL ret e s m args below meth c s₁ → c.maxLocals = maxL → Pc args s →
      W p l e (headSpec ws rm).room s m args below meth c s.heap [] 0 0 (vx_MQ below Qc XC args s mc ms free) (entryFrame m args maxL)) : vx_Met l y ws rm Pc Qc XC mc ms free := by
  refine MetFree.of_bodyS (code := cc) (maxLocals := maxL) (ret := ret) hy ?_ ?_
  · intro args s m h hn
    obtain ⟨m9, meth, c, hn9, h1, h2, h3, h4, -, h5, h6, -⟩ := Cond.codeWith_spec (atoms_spec (ws := ws) h _ (by rw [hw]; exact List.mem_cons_self))
    cases hn.symm.trans hn9
    exact ⟨meth, c, h1, h2, h3, h4, h5, h6⟩
  · intro p e s m args below meth c s₁ B hml hP _
    have hh0 : s₁.heap = s.heap := by rw [B.state]; rfl
    obtain ⟨t, a1, o, b1, b2, b3⟩ := body p e s m args below meth c s₁ B hml hP s₁ hh0 (Stand.of_body B)
    exact ⟨t, o, a1, b1, b2, b3⟩
/-! ===== END ===== -/
end
section
def RX0 : String := "SwitchGraphs$Code"
def TX0 : u_T := fun k => match k with
  | _ => ("", "", "", false)
def tyX0 : Nat → FieldType := fun k => match k with
  | _ => .int
abbrev wsX00 : List Cond := u_ws RX0 TX0 0
theorem nmX0 : ∀ a, a < 0 → ∀ b, b < 0 → a ≠ b → (TX0 a).2.1 ≠ (TX0 b).2.1 := by decide +kernel
theorem tyX0_ok : ∀ k, k < 0 → parseFieldDescriptor (TX0 k).2.2.1 = some (tyX0 k) := by decide +kernel
def RX1 : String := "SwitchGraphs$Graph"
def TX1 : u_T := fun k => match k with
  | 0 => ("SwitchGraphs$Graph", "counts", "[I", true)
  | 1 => ("SwitchGraphs$Graph", "size", "I", false)
  | _ => ("SwitchGraphs$Graph", "total", "I", false)
def tyX1 : Nat → FieldType := fun k => match k with
  | 0 => .array .int
  | 1 => .int
  | _ => .int
abbrev wsX10 : List Cond := u_ws RX1 TX1 3
theorem nmX1 : ∀ a, a < 3 → ∀ b, b < 3 → a ≠ b → (TX1 a).2.1 ≠ (TX1 b).2.1 := by decide +kernel
theorem tyX1_ok : ∀ k, k < 3 → parseFieldDescriptor (TX1 k).2.2.1 = some (tyX1 k) := by decide +kernel
abbrev cX1_init : ByteArray := prog_3_method_1_code
def yX1_init : MethodName := ⟨RX1, "<init>", "()V"⟩
abbrev cX1_clear : ByteArray := prog_3_method_2_code
def yX1_clear : MethodName := ⟨RX1, "clear", "(I)V"⟩
abbrev cX1_become : ByteArray := prog_3_method_3_code
def yX1_become : MethodName := ⟨RX1, "become", "(LSwitchGraphs$Graph;)V"⟩
abbrev cX1_vertexCount : ByteArray := prog_3_method_4_code
def yX1_vertexCount : MethodName := ⟨RX1, "vertexCount", "()I"⟩
abbrev cX1_edgeCount : ByteArray := prog_3_method_5_code
def yX1_edgeCount : MethodName := ⟨RX1, "edgeCount", "()I"⟩
abbrev cX1_between : ByteArray := prog_3_method_6_code
def yX1_between : MethodName := ⟨RX1, "between", "(II)I"⟩
abbrev cX1_put : ByteArray := prog_3_method_7_code
def yX1_put : MethodName := ⟨RX1, "put", "(III)V"⟩
abbrev cX1_reasonAgainst : ByteArray := prog_3_method_9_code
def yX1_reasonAgainst : MethodName := ⟨RX1, "reasonAgainst", "(IIIII)I"⟩
abbrev cX1_degreeOf : ByteArray := prog_3_method_10_code
def yX1_degreeOf : MethodName := ⟨RX1, "degreeOf", "(I)I"⟩
abbrev cX1_loopCount : ByteArray := prog_3_method_11_code
def yX1_loopCount : MethodName := ⟨RX1, "loopCount", "()I"⟩
abbrev cX1_defectCount : ByteArray := prog_3_method_12_code
def yX1_defectCount : MethodName := ⟨RX1, "defectCount", "()I"⟩
abbrev cX1_triangleCount : ByteArray := prog_3_method_14_code
def yX1_triangleCount : MethodName := ⟨RX1, "triangleCount", "()I"⟩
abbrev cX1_commonNeighboursBehind : ByteArray := prog_3_method_15_code
def yX1_commonNeighboursBehind : MethodName := ⟨RX1, "commonNeighboursBehind", "(II)I"⟩
def RX2 : String := "SwitchGraphs$History"
def TX2 : u_T := fun k => match k with
  | 0 => ("SwitchGraphs$History", "graphs", "[LSwitchGraphs$Graph;", true)
  | 1 => ("SwitchGraphs$History", "targets", "[LSwitchGraphs$Graph;", true)
  | 2 => ("SwitchGraphs$History", "modes", "[I", true)
  | 3 => ("SwitchGraphs$History", "size", "I", false)
  | _ => ("SwitchGraphs$History", "next", "I", false)
def tyX2 : Nat → FieldType := fun k => match k with
  | 0 => .array (.object "SwitchGraphs$Graph")
  | 1 => .array (.object "SwitchGraphs$Graph")
  | 2 => .array .int
  | 3 => .int
  | _ => .int
abbrev wsX20 : List Cond := u_ws RX2 TX2 5
theorem nmX2 : ∀ a, a < 5 → ∀ b, b < 5 → a ≠ b → (TX2 a).2.1 ≠ (TX2 b).2.1 := by decide +kernel
theorem tyX2_ok : ∀ k, k < 5 → parseFieldDescriptor (TX2 k).2.2.1 = some (tyX2 k) := by decide +kernel
abbrev cX2_init : ByteArray := prog_4_method_1_code
def yX2_init : MethodName := ⟨RX2, "<init>", "()V"⟩
abbrev cX2_forget : ByteArray := prog_4_method_2_code
def yX2_forget : MethodName := ⟨RX2, "forget", "()V"⟩
abbrev cX2_remember : ByteArray := prog_4_method_4_code
def yX2_remember : MethodName := ⟨RX2, "remember", "(LSwitchGraphs$Graph;LSwitchGraphs$Graph;I)V"⟩
def RX3 : String := "SwitchGraphs$Output"
def TX3 : u_T := fun k => match k with
  | 0 => ("SwitchGraphs$Output", "signs", "[C", true)
  | _ => ("SwitchGraphs$Output", "size", "I", false)
def tyX3 : Nat → FieldType := fun k => match k with
  | 0 => .array .char
  | _ => .int
abbrev wsX30 : List Cond := u_ws RX3 TX3 2
theorem nmX3 : ∀ a, a < 2 → ∀ b, b < 2 → a ≠ b → (TX3 a).2.1 ≠ (TX3 b).2.1 := by decide +kernel
theorem tyX3_ok : ∀ k, k < 2 → parseFieldDescriptor (TX3 k).2.2.1 = some (tyX3 k) := by decide +kernel
abbrev cX3_init : ByteArray := prog_5_method_1_code
def yX3_init : MethodName := ⟨RX3, "<init>", "()V"⟩
def RX4 : String := "SwitchGraphs$Parts"
def TX4 : u_T := fun k => match k with
  | 0 => ("SwitchGraphs$Parts", "smallest", "[I", true)
  | 1 => ("SwitchGraphs$Parts", "steps", "[I", true)
  | _ => ("SwitchGraphs$Parts", "size", "I", false)
def tyX4 : Nat → FieldType := fun k => match k with
  | 0 => .array .int
  | 1 => .array .int
  | _ => .int
abbrev wsX40 : List Cond := u_ws RX4 TX4 3
theorem nmX4 : ∀ a, a < 3 → ∀ b, b < 3 → a ≠ b → (TX4 a).2.1 ≠ (TX4 b).2.1 := by decide +kernel
theorem tyX4_ok : ∀ k, k < 3 → parseFieldDescriptor (TX4 k).2.2.1 = some (tyX4 k) := by decide +kernel
abbrev cX4_init : ByteArray := prog_6_method_1_code
def yX4_init : MethodName := ⟨RX4, "<init>", "()V"⟩
abbrev cX4_find : ByteArray := prog_6_method_2_code
def yX4_find : MethodName := ⟨RX4, "find", "(LSwitchGraphs$Graph;)V"⟩
abbrev cX4_merge : ByteArray := prog_6_method_3_code
def yX4_merge : MethodName := ⟨RX4, "merge", "(II)V"⟩
abbrev cX4_count : ByteArray := prog_6_method_4_code
def yX4_count : MethodName := ⟨RX4, "count", "()I"⟩
abbrev cX4_countBefore : ByteArray := prog_6_method_6_code
def yX4_countBefore : MethodName := ⟨RX4, "countBefore", "(I)I"⟩
def RX5 : String := "SwitchGraphs$Reader"
def TX5 : u_T := fun k => match k with
  | 0 => ("SwitchGraphs$Reader", "bytes", "[B", true)
  | 1 => ("SwitchGraphs$Reader", "graph", "LSwitchGraphs$Graph;", true)
  | 2 => ("SwitchGraphs$Reader", "target", "LSwitchGraphs$Graph;", true)
  | 3 => ("SwitchGraphs$Reader", "sequence", "LSwitchGraphs$Sequence;", true)
  | 4 => ("SwitchGraphs$Reader", "mode", "I", false)
  | 5 => ("SwitchGraphs$Reader", "fed", "I", false)
  | 6 => ("SwitchGraphs$Reader", "length", "I", false)
  | 7 => ("SwitchGraphs$Reader", "errorKind", "I", false)
  | 8 => ("SwitchGraphs$Reader", "errorPlace", "I", false)
  | 9 => ("SwitchGraphs$Reader", "token", "I", false)
  | 10 => ("SwitchGraphs$Reader", "start", "I", false)
  | 11 => ("SwitchGraphs$Reader", "end", "I", false)
  | _ => ("SwitchGraphs$Reader", "number", "I", false)
def tyX5 : Nat → FieldType := fun k => match k with
  | 0 => .array .byte
  | 1 => .object "SwitchGraphs$Graph"
  | 2 => .object "SwitchGraphs$Graph"
  | 3 => .object "SwitchGraphs$Sequence"
  | 4 => .int
  | 5 => .int
  | 6 => .int
  | 7 => .int
  | 8 => .int
  | 9 => .int
  | 10 => .int
  | 11 => .int
  | _ => .int
abbrev wsX50 : List Cond := u_ws RX5 TX5 13
theorem nmX5 : ∀ a, a < 13 → ∀ b, b < 13 → a ≠ b → (TX5 a).2.1 ≠ (TX5 b).2.1 := by decide +kernel
theorem tyX5_ok : ∀ k, k < 13 → parseFieldDescriptor (TX5 k).2.2.1 = some (tyX5 k) := by decide +kernel
abbrev cX5_init : ByteArray := prog_7_method_1_code
def yX5_init : MethodName := ⟨RX5, "<init>", "()V"⟩
abbrev cX5_hasRoom : ByteArray := prog_7_method_2_code
def yX5_hasRoom : MethodName := ⟨RX5, "hasRoom", "()Z"⟩
abbrev cX5_append : ByteArray := prog_7_method_3_code
def yX5_append : MethodName := ⟨RX5, "append", "(I)V"⟩
abbrev cX5_fedBytes : ByteArray := prog_7_method_4_code
def yX5_fedBytes : MethodName := ⟨RX5, "fedBytes", "()I"⟩
abbrev cX5_kindOfError : ByteArray := prog_7_method_5_code
def yX5_kindOfError : MethodName := ⟨RX5, "kindOfError", "()I"⟩
abbrev cX5_readGraph : ByteArray := prog_7_method_7_code
def yX5_readGraph : MethodName := ⟨RX5, "readGraph", "()LSwitchGraphs$Graph;"⟩
abbrev cX5_readTarget : ByteArray := prog_7_method_8_code
def yX5_readTarget : MethodName := ⟨RX5, "readTarget", "()LSwitchGraphs$Graph;"⟩
abbrev cX5_readMode : ByteArray := prog_7_method_9_code
def yX5_readMode : MethodName := ⟨RX5, "readMode", "()I"⟩
abbrev cX5_readText : ByteArray := prog_7_method_10_code
def yX5_readText : MethodName := ⟨RX5, "readText", "(I)Z"⟩
abbrev cX5_readFirst : ByteArray := prog_7_method_11_code
def yX5_readFirst : MethodName := ⟨RX5, "readFirst", "()Z"⟩
abbrev cX5_readOther : ByteArray := prog_7_method_12_code
def yX5_readOther : MethodName := ⟨RX5, "readOther", "()Z"⟩
abbrev cX5_readVertices : ByteArray := prog_7_method_13_code
def yX5_readVertices : MethodName := ⟨RX5, "readVertices", "()Z"⟩
abbrev cX5_readDegrees : ByteArray := prog_7_method_14_code
def yX5_readDegrees : MethodName := ⟨RX5, "readDegrees", "()Z"⟩
abbrev cX5_readEdge : ByteArray := prog_7_method_15_code
def yX5_readEdge : MethodName := ⟨RX5, "readEdge", "(LSwitchGraphs$Graph;)Z"⟩
abbrev cX5_readModeNumber : ByteArray := prog_7_method_16_code
def yX5_readModeNumber : MethodName := ⟨RX5, "readModeNumber", "()Z"⟩
abbrev cX5_begin : ByteArray := prog_7_method_17_code
def yX5_begin : MethodName := ⟨RX5, "begin", "(I)V"⟩
abbrev cX5_expectNumber : ByteArray := prog_7_method_18_code
def yX5_expectNumber : MethodName := ⟨RX5, "expectNumber", "(II)Z"⟩
abbrev cX5_expectSemicolon : ByteArray := prog_7_method_19_code
def yX5_expectSemicolon : MethodName := ⟨RX5, "expectSemicolon", "()Z"⟩
abbrev cX5_fail : ByteArray := prog_7_method_20_code
def yX5_fail : MethodName := ⟨RX5, "fail", "(I)Z"⟩
abbrev cX5_isWord : ByteArray := prog_7_method_21_code
def yX5_isWord : MethodName := ⟨RX5, "isWord", "(Ljava/lang/String;)Z"⟩
abbrev cX5_advance : ByteArray := prog_7_method_22_code
def yX5_advance : MethodName := ⟨RX5, "advance", "()V"⟩
abbrev cX5_takeWord : ByteArray := prog_7_method_23_code
def yX5_takeWord : MethodName := ⟨RX5, "takeWord", "()V"⟩
abbrev cX5_takeNumber : ByteArray := prog_7_method_24_code
def yX5_takeNumber : MethodName := ⟨RX5, "takeNumber", "()V"⟩
abbrev cX5_byteAt : ByteArray := prog_7_method_25_code
def yX5_byteAt : MethodName := ⟨RX5, "byteAt", "(I)I"⟩
abbrev cX5_isBlank : ByteArray := prog_7_method_26_code
def yX5_isBlank : MethodName := ⟨RX5, "isBlank", "(I)Z"⟩
abbrev cX5_isLetter : ByteArray := prog_7_method_27_code
def yX5_isLetter : MethodName := ⟨RX5, "isLetter", "(I)Z"⟩
abbrev cX5_isDigit : ByteArray := prog_7_method_28_code
def yX5_isDigit : MethodName := ⟨RX5, "isDigit", "(I)Z"⟩
def RX6 : String := "SwitchGraphs$Sequence"
def TX6 : u_T := fun k => match k with
  | 0 => ("SwitchGraphs$Sequence", "degrees", "[I", true)
  | 1 => ("SwitchGraphs$Sequence", "falling", "[I", true)
  | 2 => ("SwitchGraphs$Sequence", "lacks", "[I", true)
  | 3 => ("SwitchGraphs$Sequence", "size", "I", false)
  | _ => ("SwitchGraphs$Sequence", "sum", "I", false)
def tyX6 : Nat → FieldType := fun k => match k with
  | 0 => .array .int
  | 1 => .array .int
  | 2 => .array .int
  | 3 => .int
  | _ => .int
abbrev wsX60 : List Cond := u_ws RX6 TX6 5
theorem nmX6 : ∀ a, a < 5 → ∀ b, b < 5 → a ≠ b → (TX6 a).2.1 ≠ (TX6 b).2.1 := by decide +kernel
theorem tyX6_ok : ∀ k, k < 5 → parseFieldDescriptor (TX6 k).2.2.1 = some (tyX6 k) := by decide +kernel
abbrev cX6_init : ByteArray := prog_8_method_1_code
def yX6_init : MethodName := ⟨RX6, "<init>", "()V"⟩
abbrev cX6_clear : ByteArray := prog_8_method_2_code
def yX6_clear : MethodName := ⟨RX6, "clear", "()V"⟩
abbrev cX6_isFull : ByteArray := prog_8_method_3_code
def yX6_isFull : MethodName := ⟨RX6, "isFull", "()Z"⟩
abbrev cX6_length : ByteArray := prog_8_method_4_code
def yX6_length : MethodName := ⟨RX6, "length", "()I"⟩
abbrev cX6_total : ByteArray := prog_8_method_5_code
def yX6_total : MethodName := ⟨RX6, "total", "()I"⟩
abbrev cX6_append : ByteArray := prog_8_method_6_code
def yX6_append : MethodName := ⟨RX6, "append", "(I)V"⟩
abbrev cX6_insertFalling : ByteArray := prog_8_method_7_code
def yX6_insertFalling : MethodName := ⟨RX6, "insertFalling", "(I)V"⟩
abbrev cX6_take : ByteArray := prog_8_method_8_code
def yX6_take : MethodName := ⟨RX6, "take", "(LSwitchGraphs$Graph;)V"⟩
abbrev cX6_greatest : ByteArray := prog_8_method_9_code
def yX6_greatest : MethodName := ⟨RX6, "greatest", "(I)I"⟩
abbrev cX6_slackOf : ByteArray := prog_8_method_10_code
def yX6_slackOf : MethodName := ⟨RX6, "slackOf", "(I)I"⟩
abbrev cX6_allows : ByteArray := prog_8_method_11_code
def yX6_allows : MethodName := ⟨RX6, "allows", "(I)Z"⟩
abbrev cX6_hasNoNegativeSlack : ByteArray := prog_8_method_12_code
def yX6_hasNoNegativeSlack : MethodName := ⟨RX6, "hasNoNegativeSlack", "()Z"⟩
abbrev cX6_build : ByteArray := prog_8_method_13_code
def yX6_build : MethodName := ⟨RX6, "build", "(LSwitchGraphs$Graph;I)V"⟩
abbrev cX6_buildWithLoops : ByteArray := prog_8_method_14_code
def yX6_buildWithLoops : MethodName := ⟨RX6, "buildWithLoops", "(LSwitchGraphs$Graph;)V"⟩
abbrev cX6_buildWithoutLoops : ByteArray := prog_8_method_15_code
def yX6_buildWithoutLoops : MethodName := ⟨RX6, "buildWithoutLoops", "(LSwitchGraphs$Graph;)V"⟩
abbrev cX6_buildSimple : ByteArray := prog_8_method_16_code
def yX6_buildSimple : MethodName := ⟨RX6, "buildSimple", "(LSwitchGraphs$Graph;)V"⟩
abbrev cX6_join : ByteArray := prog_8_method_17_code
def yX6_join : MethodName := ⟨RX6, "join", "(LSwitchGraphs$Graph;II)V"⟩
abbrev cX6_neediestBut : ByteArray := prog_8_method_18_code
def yX6_neediestBut : MethodName := ⟨RX6, "neediestBut", "(I)I"⟩
def RX7 : String := "SwitchGraphs$SwitchList"
def TX7 : u_T := fun k => match k with
  | 0 => ("SwitchGraphs$SwitchList", "codes", "[I", true)
  | _ => ("SwitchGraphs$SwitchList", "size", "I", false)
def tyX7 : Nat → FieldType := fun k => match k with
  | 0 => .array .int
  | _ => .int
abbrev wsX70 : List Cond := u_ws RX7 TX7 2
theorem nmX7 : ∀ a, a < 2 → ∀ b, b < 2 → a ≠ b → (TX7 a).2.1 ≠ (TX7 b).2.1 := by decide +kernel
theorem tyX7_ok : ∀ k, k < 2 → parseFieldDescriptor (TX7 k).2.2.1 = some (tyX7 k) := by decide +kernel
abbrev cX7_init : ByteArray := prog_9_method_1_code
def yX7_init : MethodName := ⟨RX7, "<init>", "()V"⟩
def RX8 : String := "SwitchGraphs$Trail"
def TX8 : u_T := fun k => match k with
  | 0 => ("SwitchGraphs$Trail", "codes", "[I", true)
  | 1 => ("SwitchGraphs$Trail", "walker", "LSwitchGraphs$Graph;", true)
  | _ => ("SwitchGraphs$Trail", "size", "I", false)
def tyX8 : Nat → FieldType := fun k => match k with
  | 0 => .array .int
  | 1 => .object "SwitchGraphs$Graph"
  | _ => .int
abbrev wsX80 : List Cond := u_ws RX8 TX8 3
theorem nmX8 : ∀ a, a < 3 → ∀ b, b < 3 → a ≠ b → (TX8 a).2.1 ≠ (TX8 b).2.1 := by decide +kernel
theorem tyX8_ok : ∀ k, k < 3 → parseFieldDescriptor (TX8 k).2.2.1 = some (tyX8 k) := by decide +kernel
abbrev cX8_init : ByteArray := prog_10_method_1_code
def yX8_init : MethodName := ⟨RX8, "<init>", "()V"⟩
def RX9 : String := "SwitchGraphs"
def TX9 : u_T := fun k => match k with
  | 0 => ("SwitchGraphs", "reader", "LSwitchGraphs$Reader;", true)
  | 1 => ("SwitchGraphs", "graph", "LSwitchGraphs$Graph;", true)
  | 2 => ("SwitchGraphs", "target", "LSwitchGraphs$Graph;", true)
  | 3 => ("SwitchGraphs", "trial", "LSwitchGraphs$Graph;", true)
  | 4 => ("SwitchGraphs", "spare", "LSwitchGraphs$Graph;", true)
  | 5 => ("SwitchGraphs", "parts", "LSwitchGraphs$Parts;", true)
  | 6 => ("SwitchGraphs", "sequence", "LSwitchGraphs$Sequence;", true)
  | 7 => ("SwitchGraphs", "list", "LSwitchGraphs$SwitchList;", true)
  | 8 => ("SwitchGraphs", "trail", "LSwitchGraphs$Trail;", true)
  | 9 => ("SwitchGraphs", "history", "LSwitchGraphs$History;", true)
  | 10 => ("SwitchGraphs", "output", "LSwitchGraphs$Output;", true)
  | _ => ("SwitchGraphs", "mode", "I", false)
def tyX9 : Nat → FieldType := fun k => match k with
  | 0 => .object "SwitchGraphs$Reader"
  | 1 => .object "SwitchGraphs$Graph"
  | 2 => .object "SwitchGraphs$Graph"
  | 3 => .object "SwitchGraphs$Graph"
  | 4 => .object "SwitchGraphs$Graph"
  | 5 => .object "SwitchGraphs$Parts"
  | 6 => .object "SwitchGraphs$Sequence"
  | 7 => .object "SwitchGraphs$SwitchList"
  | 8 => .object "SwitchGraphs$Trail"
  | 9 => .object "SwitchGraphs$History"
  | 10 => .object "SwitchGraphs$Output"
  | _ => .int
abbrev wsX90 : List Cond := u_ws RX9 TX9 12
theorem nmX9 : ∀ a, a < 12 → ∀ b, b < 12 → a ≠ b → (TX9 a).2.1 ≠ (TX9 b).2.1 := by decide +kernel
theorem tyX9_ok : ∀ k, k < 12 → parseFieldDescriptor (TX9 k).2.2.1 = some (tyX9 k) := by decide +kernel
abbrev cX9_init : ByteArray := prog_1_method_1_code
def yX9_init : MethodName := ⟨RX9, "<init>", "()V"⟩
abbrev cX9_feed : ByteArray := prog_1_method_2_code
def yX9_feed : MethodName := ⟨RX9, "feed", "(IIIII)I"⟩
abbrev cX9_load : ByteArray := prog_1_method_3_code
def yX9_load : MethodName := ⟨RX9, "load", "(I)I"⟩
abbrev cX9_errorKind : ByteArray := prog_1_method_4_code
def yX9_errorKind : MethodName := ⟨RX9, "errorKind", "()I"⟩
abbrev cX9_vertices : ByteArray := prog_1_method_6_code
def yX9_vertices : MethodName := ⟨RX9, "vertices", "()I"⟩
abbrev cX9_times : ByteArray := prog_1_method_9_code
def yX9_times : MethodName := ⟨RX9, "times", "(IIZ)I"⟩
abbrev cX9_degree : ByteArray := prog_1_method_10_code
def yX9_degree : MethodName := ⟨RX9, "degree", "(IZ)I"⟩
abbrev cX9_loops : ByteArray := prog_1_method_11_code
def yX9_loops : MethodName := ⟨RX9, "loops", "()I"⟩
abbrev cX9_defects : ByteArray := prog_1_method_12_code
def yX9_defects : MethodName := ⟨RX9, "defects", "()I"⟩
abbrev cX9_isSimple : ByteArray := prog_1_method_13_code
def yX9_isSimple : MethodName := ⟨RX9, "isSimple", "()Z"⟩
abbrev cX9_triangles : ByteArray := prog_1_method_15_code
def yX9_triangles : MethodName := ⟨RX9, "triangles", "()I"⟩
abbrev cX9_components : ByteArray := prog_1_method_16_code
def yX9_components : MethodName := ⟨RX9, "components", "()I"⟩
abbrev cX9_sorted : ByteArray := prog_1_method_22_code
def yX9_sorted : MethodName := ⟨RX9, "sorted", "(I)I"⟩
abbrev cX9_slack : ByteArray := prog_1_method_23_code
def yX9_slack : MethodName := ⟨RX9, "slack", "(I)I"⟩
abbrev cX9_isPossible : ByteArray := prog_1_method_24_code
def yX9_isPossible : MethodName := ⟨RX9, "isPossible", "(I)Z"⟩
abbrev cX9_meanDegree : ByteArray := prog_1_method_25_code
def yX9_meanDegree : MethodName := ⟨RX9, "meanDegree", "()D"⟩
abbrev cX9_reason : ByteArray := prog_1_method_26_code
def yX9_reason : MethodName := ⟨RX9, "reason", "(IIII)I"⟩
abbrev cX9_removeEdge : ByteArray := prog_1_method_37_code
def yX9_removeEdge : MethodName := ⟨RX9, "removeEdge", "(II)I"⟩
abbrev cX9_setMode : ByteArray := prog_1_method_45_code
def yX9_setMode : MethodName := ⟨RX9, "setMode", "(I)I"⟩
abbrev cX9_checkVertex : ByteArray := prog_1_method_49_code
def yX9_checkVertex : MethodName := ⟨RX9, "checkVertex", "(I)V"⟩
abbrev cX9_checkVertices : ByteArray := prog_1_method_50_code
def yX9_checkVertices : MethodName := ⟨RX9, "checkVertices", "(IIII)V"⟩
abbrev cX9_checkEdge : ByteArray := prog_1_method_51_code
def yX9_checkEdge : MethodName := ⟨RX9, "checkEdge", "(II)V"⟩
abbrev cX9_checkMode : ByteArray := prog_1_method_52_code
def yX9_checkMode : MethodName := ⟨RX9, "checkMode", "(I)V"⟩
abbrev cX9_choose : ByteArray := prog_1_method_56_code
def yX9_choose : MethodName := ⟨RX9, "choose", "(Z)LSwitchGraphs$Graph;"⟩
abbrev cX9_remember : ByteArray := prog_1_method_57_code
def yX9_remember : MethodName := ⟨RX9, "remember", "()V"⟩
def RX10 : String := "SwitchGraphsModel"
def TX10 : u_T := fun k => match k with
  | _ => ("", "", "", false)
def tyX10 : Nat → FieldType := fun k => match k with
  | _ => .int
abbrev wsX100 : List Cond := u_ws RX10 TX10 0
theorem nmX10 : ∀ a, a < 0 → ∀ b, b < 0 → a ≠ b → (TX10 a).2.1 ≠ (TX10 b).2.1 := by decide +kernel
theorem tyX10_ok : ∀ k, k < 0 → parseFieldDescriptor (TX10 k).2.2.1 = some (tyX10 k) := by decide +kernel
def RJx145de : String := "java/io/Serializable"
def TJx145de : u_T := fun k => match k with
  | _ => ("", "", "", false)
def tyJx145de : Nat → FieldType := fun k => match k with
  | _ => .int
abbrev wsJx145de0 : List Cond := u_ws RJx145de TJx145de 0
theorem nmJx145de : ∀ a, a < 0 → ∀ b, b < 0 → a ≠ b → (TJx145de a).2.1 ≠ (TJx145de b).2.1 := by decide +kernel
theorem tyJx145de_ok : ∀ k, k < 0 → parseFieldDescriptor (TJx145de k).2.2.1 = some (tyJx145de k) := by decide +kernel
def RJ5 : String := "java/lang/AbstractStringBuilder"
def TJ5 : u_T := fun k => match k with
  | _ => ("", "", "", false)
def tyJ5 : Nat → FieldType := fun k => match k with
  | _ => .int
abbrev wsJ50 : List Cond := u_ws RJ5 TJ5 0
theorem nmJ5 : ∀ a, a < 0 → ∀ b, b < 0 → a ≠ b → (TJ5 a).2.1 ≠ (TJ5 b).2.1 := by decide +kernel
theorem tyJ5_ok : ∀ k, k < 0 → parseFieldDescriptor (TJ5 k).2.2.1 = some (tyJ5 k) := by decide +kernel
abbrev cJ5_init_d00df : ByteArray := prog_14_method_2_code
def yJ5_init_d00df : MethodName := ⟨RJ5, "<init>", "(I)V"⟩
abbrev cJ5_length_8abf5 : ByteArray := prog_14_method_6_code
def yJ5_length_8abf5 : MethodName := ⟨RJ5, "length", "()I"⟩
abbrev cJ5_ensureCapacityInternal_d00df : ByteArray := prog_14_method_9_code
def yJ5_ensureCapacityInternal_d00df : MethodName := ⟨RJ5, "ensureCapacityInternal", "(I)V"⟩
abbrev cJ5_newCapacity_0f7a4 : ByteArray := prog_14_method_10_code
def yJ5_newCapacity_0f7a4 : MethodName := ⟨RJ5, "newCapacity", "(I)I"⟩
abbrev cJ5_inflate_da8c8 : ByteArray := prog_14_method_11_code
def yJ5_inflate_da8c8 : MethodName := ⟨RJ5, "inflate", "()V"⟩
abbrev cJ5_append_cf1ce : ByteArray := prog_14_method_22_code
def yJ5_append_cf1ce : MethodName := ⟨RJ5, "append", "(Ljava/lang/String;)Ljava/lang/AbstractStringBuilder;"⟩
abbrev cJ5_appendNull_278bc : ByteArray := prog_14_method_26_code
def yJ5_appendNull_278bc : MethodName := ⟨RJ5, "appendNull", "()Ljava/lang/AbstractStringBuilder;"⟩
abbrev cJ5_append_c97b9 : ByteArray := prog_14_method_32_code
def yJ5_append_c97b9 : MethodName := ⟨RJ5, "append", "(I)Ljava/lang/AbstractStringBuilder;"⟩
abbrev cJ5_getValue_6d5f1 : ByteArray := prog_14_method_64_code
def yJ5_getValue_6d5f1 : MethodName := ⟨RJ5, "getValue", "()[B"⟩
abbrev cJ5_isLatin1_aae02 : ByteArray := prog_14_method_68_code
def yJ5_isLatin1_aae02 : MethodName := ⟨RJ5, "isLatin1", "()Z"⟩
abbrev cJ5_inflateIfNeededFor_a7421 : ByteArray := prog_14_method_71_code
def yJ5_inflateIfNeededFor_a7421 : MethodName := ⟨RJ5, "inflateIfNeededFor", "(Ljava/lang/String;)V"⟩
abbrev cJ5_putStringAt_47b60 : ByteArray := prog_14_method_73_code
def yJ5_putStringAt_47b60 : MethodName := ⟨RJ5, "putStringAt", "(ILjava/lang/String;)V"⟩
def RJx2cfe8 : String := "java/lang/Appendable"
def TJx2cfe8 : u_T := fun k => match k with
  | _ => ("", "", "", false)
def tyJx2cfe8 : Nat → FieldType := fun k => match k with
  | _ => .int
abbrev wsJx2cfe80 : List Cond := u_ws RJx2cfe8 TJx2cfe8 0
theorem nmJx2cfe8 : ∀ a, a < 0 → ∀ b, b < 0 → a ≠ b → (TJx2cfe8 a).2.1 ≠ (TJx2cfe8 b).2.1 := by decide +kernel
theorem tyJx2cfe8_ok : ∀ k, k < 0 → parseFieldDescriptor (TJx2cfe8 k).2.2.1 = some (tyJx2cfe8 k) := by decide +kernel
def RJx9f9b0 : String := "java/lang/CharSequence"
def TJx9f9b0 : u_T := fun k => match k with
  | _ => ("", "", "", false)
def tyJx9f9b0 : Nat → FieldType := fun k => match k with
  | _ => .int
abbrev wsJx9f9b00 : List Cond := u_ws RJx9f9b0 TJx9f9b0 0
theorem nmJx9f9b0 : ∀ a, a < 0 → ∀ b, b < 0 → a ≠ b → (TJx9f9b0 a).2.1 ≠ (TJx9f9b0 b).2.1 := by decide +kernel
theorem tyJx9f9b0_ok : ∀ k, k < 0 → parseFieldDescriptor (TJx9f9b0 k).2.2.1 = some (tyJx9f9b0 k) := by decide +kernel
def RJx8e188 : String := "java/lang/Cloneable"
def TJx8e188 : u_T := fun k => match k with
  | _ => ("", "", "", false)
def tyJx8e188 : Nat → FieldType := fun k => match k with
  | _ => .int
abbrev wsJx8e1880 : List Cond := u_ws RJx8e188 TJx8e188 0
theorem nmJx8e188 : ∀ a, a < 0 → ∀ b, b < 0 → a ≠ b → (TJx8e188 a).2.1 ≠ (TJx8e188 b).2.1 := by decide +kernel
theorem tyJx8e188_ok : ∀ k, k < 0 → parseFieldDescriptor (TJx8e188 k).2.2.1 = some (tyJx8e188 k) := by decide +kernel
def RJxb160c : String := "java/lang/Comparable"
def TJxb160c : u_T := fun k => match k with
  | _ => ("", "", "", false)
def tyJxb160c : Nat → FieldType := fun k => match k with
  | _ => .int
abbrev wsJxb160c0 : List Cond := u_ws RJxb160c TJxb160c 0
theorem nmJxb160c : ∀ a, a < 0 → ∀ b, b < 0 → a ≠ b → (TJxb160c a).2.1 ≠ (TJxb160c b).2.1 := by decide +kernel
theorem tyJxb160c_ok : ∀ k, k < 0 → parseFieldDescriptor (TJxb160c k).2.2.1 = some (tyJxb160c k) := by decide +kernel
def RJ6 : String := "java/lang/Integer"
def TJ6 : u_T := fun k => match k with
  | _ => ("", "", "", false)
def tyJ6 : Nat → FieldType := fun k => match k with
  | _ => .int
abbrev wsJ60 : List Cond := u_ws RJ6 TJ6 0
theorem nmJ6 : ∀ a, a < 0 → ∀ b, b < 0 → a ≠ b → (TJ6 a).2.1 ≠ (TJ6 b).2.1 := by decide +kernel
theorem tyJ6_ok : ∀ k, k < 0 → parseFieldDescriptor (TJ6 k).2.2.1 = some (tyJ6 k) := by decide +kernel
abbrev cJ6_getChars_ba4f3 : ByteArray := prog_22_method_12_code
def yJ6_getChars_ba4f3 : MethodName := ⟨RJ6, "getChars", "(II[B)I"⟩
abbrev cJ6_stringSize_0f7a4 : ByteArray := prog_22_method_13_code
def yJ6_stringSize_0f7a4 : MethodName := ⟨RJ6, "stringSize", "(I)I"⟩
def RJ9 : String := "java/lang/Math"
def TJ9 : u_T := fun k => match k with
  | _ => ("", "", "", false)
def tyJ9 : Nat → FieldType := fun k => match k with
  | _ => .int
abbrev wsJ90 : List Cond := u_ws RJ9 TJ9 0
theorem nmJ9 : ∀ a, a < 0 → ∀ b, b < 0 → a ≠ b → (TJ9 a).2.1 ≠ (TJ9 b).2.1 := by decide +kernel
theorem tyJ9_ok : ∀ k, k < 0 → parseFieldDescriptor (TJ9 k).2.2.1 = some (tyJ9 k) := by decide +kernel
abbrev cJ9_max_7cf53 : ByteArray := prog_23_method_65_code
def yJ9_max_7cf53 : MethodName := ⟨RJ9, "max", "(II)I"⟩
abbrev cJ9_min_7cf53 : ByteArray := prog_23_method_69_code
def yJ9_min_7cf53 : MethodName := ⟨RJ9, "min", "(II)I"⟩
def RJxd2413 : String := "java/lang/Number"
def TJxd2413 : u_T := fun k => match k with
  | _ => ("", "", "", false)
def tyJxd2413 : Nat → FieldType := fun k => match k with
  | _ => .int
abbrev wsJxd24130 : List Cond := u_ws RJxd2413 TJxd2413 0
theorem nmJxd2413 : ∀ a, a < 0 → ∀ b, b < 0 → a ≠ b → (TJxd2413 a).2.1 ≠ (TJxd2413 b).2.1 := by decide +kernel
theorem tyJxd2413_ok : ∀ k, k < 0 → parseFieldDescriptor (TJxd2413 k).2.2.1 = some (tyJxd2413 k) := by decide +kernel
def RJ0 : String := "java/lang/String"
def TJ0 : u_T := fun k => match k with
  | 0 => ("java/lang/String", "value", "[B", true)
  | 1 => ("java/lang/String", "coder", "B", true)
  | 2 => ("java/lang/String", "hash", "I", false)
  | _ => ("java/lang/String", "hashIsZero", "Z", false)
def tyJ0 : Nat → FieldType := fun k => match k with
  | 0 => .array .byte
  | 1 => .byte
  | 2 => .int
  | _ => .boolean
abbrev wsJ00 : List Cond := u_ws RJ0 TJ0 4
theorem nmJ0 : ∀ a, a < 4 → ∀ b, b < 4 → a ≠ b → (TJ0 a).2.1 ≠ (TJ0 b).2.1 := by decide +kernel
theorem tyJ0_ok : ∀ k, k < 4 → parseFieldDescriptor (TJ0 k).2.2.1 = some (tyJ0 k) := by decide +kernel
abbrev cJ0_init_81219 : ByteArray := prog_26_method_53_code
def yJ0_init_81219 : MethodName := ⟨RJ0, "<init>", "(Ljava/lang/StringBuilder;)V"⟩
abbrev cJ0_length_8abf5 : ByteArray := prog_26_method_54_code
def yJ0_length_8abf5 : MethodName := ⟨RJ0, "length", "()I"⟩
abbrev cJ0_charAt_5068e : ByteArray := prog_26_method_56_code
def yJ0_charAt_5068e : MethodName := ⟨RJ0, "charAt", "(I)C"⟩
abbrev cJ0_getBytes_840e7 : ByteArray := prog_26_method_147_code
def yJ0_getBytes_840e7 : MethodName := ⟨RJ0, "getBytes", "([BIB)V"⟩
abbrev cJ0_init_db425 : ByteArray := prog_26_method_150_code
def yJ0_init_db425 : MethodName := ⟨RJ0, "<init>", "(Ljava/lang/AbstractStringBuilder;Ljava/lang/Void;)V"⟩
abbrev cJ0_coder_7d493 : ByteArray := prog_26_method_152_code
def yJ0_coder_7d493 : MethodName := ⟨RJ0, "coder", "()B"⟩
abbrev cJ0_isLatin1_aae02 : ByteArray := prog_26_method_154_code
def yJ0_isLatin1_aae02 : MethodName := ⟨RJ0, "isLatin1", "()Z"⟩
abbrev cJ0_checkIndex_df160 : ByteArray := prog_26_method_155_code
def yJ0_checkIndex_df160 : MethodName := ⟨RJ0, "checkIndex", "(II)V"⟩
abbrev cJ0_checkBoundsOffCount_cabcc : ByteArray := prog_26_method_157_code
def yJ0_checkBoundsOffCount_cabcc : MethodName := ⟨RJ0, "checkBoundsOffCount", "(III)I"⟩
abbrev cJ0_checkBoundsBeginEnd_23922 : ByteArray := prog_26_method_158_code
def yJ0_checkBoundsBeginEnd_23922 : MethodName := ⟨RJ0, "checkBoundsBeginEnd", "(III)V"⟩
def RJ4 : String := "java/lang/StringBuilder"
def TJ4 : u_T := fun k => match k with
  | 0 => ("java/lang/AbstractStringBuilder", "value", "[B", false)
  | 1 => ("java/lang/AbstractStringBuilder", "coder", "B", false)
  | 2 => ("java/lang/AbstractStringBuilder", "maybeLatin1", "Z", false)
  | _ => ("java/lang/AbstractStringBuilder", "count", "I", false)
def tyJ4 : Nat → FieldType := fun k => match k with
  | 0 => .array .byte
  | 1 => .byte
  | 2 => .boolean
  | _ => .int
abbrev wsJ40 : List Cond := u_ws RJ4 TJ4 4
theorem nmJ4 : ∀ a, a < 4 → ∀ b, b < 4 → a ≠ b → (TJ4 a).2.1 ≠ (TJ4 b).2.1 := by decide +kernel
theorem tyJ4_ok : ∀ k, k < 4 → parseFieldDescriptor (TJ4 k).2.2.1 = some (tyJ4 k) := by decide +kernel
abbrev cJ4_init_da8c8 : ByteArray := prog_27_method_1_code
def yJ4_init_da8c8 : MethodName := ⟨RJ4, "<init>", "()V"⟩
abbrev cJ4_append_15ec4 : ByteArray := prog_27_method_7_code
def yJ4_append_15ec4 : MethodName := ⟨RJ4, "append", "(Ljava/lang/String;)Ljava/lang/StringBuilder;"⟩
abbrev cJ4_append_bf812 : ByteArray := prog_27_method_15_code
def yJ4_append_bf812 : MethodName := ⟨RJ4, "append", "(I)Ljava/lang/StringBuilder;"⟩
abbrev cJ4_toString_0e30d : ByteArray := prog_27_method_42_code
def yJ4_toString_0e30d : MethodName := ⟨RJ4, "toString", "()Ljava/lang/String;"⟩
abbrev cJ4_length_8abf5 : ByteArray := prog_27_method_93_code
def yJ4_length_8abf5 : MethodName := ⟨RJ4, "length", "()I"⟩
def RJ1 : String := "java/lang/StringLatin1"
def TJ1 : u_T := fun k => match k with
  | _ => ("", "", "", false)
def tyJ1 : Nat → FieldType := fun k => match k with
  | _ => .int
abbrev wsJ10 : List Cond := u_ws RJ1 TJ1 0
theorem nmJ1 : ∀ a, a < 0 → ∀ b, b < 0 → a ≠ b → (TJ1 a).2.1 ≠ (TJ1 b).2.1 := by decide +kernel
theorem tyJ1_ok : ∀ k, k < 0 → parseFieldDescriptor (TJ1 k).2.2.1 = some (tyJ1 k) := by decide +kernel
abbrev cJ1_charAt_3b067 : ByteArray := prog_28_method_2_code
def yJ1_charAt_3b067 : MethodName := ⟨RJ1, "charAt", "([BI)C"⟩
abbrev cJ1_inflate_0e8fd : ByteArray := prog_28_method_50_code
def yJ1_inflate_0e8fd : MethodName := ⟨RJ1, "inflate", "([BI[BII)V"⟩
def RJ2 : String := "java/lang/StringUTF16"
def TJ2 : u_T := fun k => match k with
  | _ => ("", "", "", false)
def tyJ2 : Nat → FieldType := fun k => match k with
  | _ => .int
abbrev wsJ20 : List Cond := u_ws RJ2 TJ2 0
theorem nmJ2 : ∀ a, a < 0 → ∀ b, b < 0 → a ≠ b → (TJ2 a).2.1 ≠ (TJ2 b).2.1 := by decide +kernel
theorem tyJ2_ok : ∀ k, k < 0 → parseFieldDescriptor (TJ2 k).2.2.1 = some (tyJ2 k) := by decide +kernel
abbrev cJ2_newBytesFor_77867 : ByteArray := prog_29_method_2_code
def yJ2_newBytesFor_77867 : MethodName := ⟨RJ2, "newBytesFor", "(I)[B"⟩
abbrev cJ2_newBytesLength_0f7a4 : ByteArray := prog_29_method_3_code
def yJ2_newBytesLength_0f7a4 : MethodName := ⟨RJ2, "newBytesLength", "(I)I"⟩
abbrev cJ2_putChar_b72d1 : ByteArray := prog_29_method_4_code
def yJ2_putChar_b72d1 : MethodName := ⟨RJ2, "putChar", "([BII)V"⟩
abbrev cJ2_getChar_3b067 : ByteArray := prog_29_method_5_code
def yJ2_getChar_3b067 : MethodName := ⟨RJ2, "getChar", "([BI)C"⟩
abbrev cJ2_length_9d52b : ByteArray := prog_29_method_6_code
def yJ2_length_9d52b : MethodName := ⟨RJ2, "length", "([B)I"⟩
abbrev cJ2_coderFromArrayLen_85cad : ByteArray := prog_29_method_15_code
def yJ2_coderFromArrayLen_85cad : MethodName := ⟨RJ2, "coderFromArrayLen", "([BI)B"⟩
abbrev cJ2_compress_39247 : ByteArray := prog_29_method_17_code
def yJ2_compress_39247 : MethodName := ⟨RJ2, "compress", "([BII)[B"⟩
abbrev cJ2_compress_5af95 : ByteArray := prog_29_method_22_code
def yJ2_compress_5af95 : MethodName := ⟨RJ2, "compress", "([BI[BII)I"⟩
abbrev cJ2_getChars_46870 : ByteArray := prog_29_method_77_code
def yJ2_getChars_46870 : MethodName := ⟨RJ2, "getChars", "(III[B)I"⟩
abbrev cJ2_putCharsAt_cd4e5 : ByteArray := prog_29_method_81_code
def yJ2_putCharsAt_cd4e5 : MethodName := ⟨RJ2, "putCharsAt", "([BICCCC)I"⟩
abbrev cJ2_charAt_3b067 : ByteArray := prog_29_method_83_code
def yJ2_charAt_3b067 : MethodName := ⟨RJ2, "charAt", "([BI)C"⟩
abbrev cJ2_inflate_0e8fd : ByteArray := prog_29_method_86_code
def yJ2_inflate_0e8fd : MethodName := ⟨RJ2, "inflate", "([BI[BII)V"⟩
abbrev cJ2_getChars_ba4f3 : ByteArray := prog_29_method_89_code
def yJ2_getChars_ba4f3 : MethodName := ⟨RJ2, "getChars", "(II[B)I"⟩
abbrev cJ2_checkIndex_2214a : ByteArray := prog_29_method_91_code
def yJ2_checkIndex_2214a : MethodName := ⟨RJ2, "checkIndex", "(I[B)V"⟩
abbrev cJ2_checkBoundsBeginEnd_d044e : ByteArray := prog_29_method_93_code
def yJ2_checkBoundsBeginEnd_d044e : MethodName := ⟨RJ2, "checkBoundsBeginEnd", "(II[B)V"⟩
abbrev cJ2_checkBoundsOffCount_d044e : ByteArray := prog_29_method_94_code
def yJ2_checkBoundsOffCount_d044e : MethodName := ⟨RJ2, "checkBoundsOffCount", "(II[B)V"⟩
def RJ10 : String := "java/lang/System"
def TJ10 : u_T := fun k => match k with
  | _ => ("", "", "", false)
def tyJ10 : Nat → FieldType := fun k => match k with
  | _ => .int
abbrev wsJ100 : List Cond := u_ws RJ10 TJ10 0
theorem nmJ10 : ∀ a, a < 0 → ∀ b, b < 0 → a ≠ b → (TJ10 a).2.1 ≠ (TJ10 b).2.1 := by decide +kernel
theorem tyJ10_ok : ∀ k, k < 0 → parseFieldDescriptor (TJ10 k).2.2.1 = some (tyJ10 k) := by decide +kernel
def RJxfd54e : String := "java/lang/constant/Constable"
def TJxfd54e : u_T := fun k => match k with
  | _ => ("", "", "", false)
def tyJxfd54e : Nat → FieldType := fun k => match k with
  | _ => .int
abbrev wsJxfd54e0 : List Cond := u_ws RJxfd54e TJxfd54e 0
theorem nmJxfd54e : ∀ a, a < 0 → ∀ b, b < 0 → a ≠ b → (TJxfd54e a).2.1 ≠ (TJxfd54e b).2.1 := by decide +kernel
theorem tyJxfd54e_ok : ∀ k, k < 0 → parseFieldDescriptor (TJxfd54e k).2.2.1 = some (tyJxfd54e k) := by decide +kernel
def RJx3cf43 : String := "java/lang/constant/ConstantDesc"
def TJx3cf43 : u_T := fun k => match k with
  | _ => ("", "", "", false)
def tyJx3cf43 : Nat → FieldType := fun k => match k with
  | _ => .int
abbrev wsJx3cf430 : List Cond := u_ws RJx3cf43 TJx3cf43 0
theorem nmJx3cf43 : ∀ a, a < 0 → ∀ b, b < 0 → a ≠ b → (TJx3cf43 a).2.1 ≠ (TJx3cf43 b).2.1 := by decide +kernel
theorem tyJx3cf43_ok : ∀ k, k < 0 → parseFieldDescriptor (TJx3cf43 k).2.2.1 = some (tyJx3cf43 k) := by decide +kernel
def RJ7 : String := "java/util/Arrays"
def TJ7 : u_T := fun k => match k with
  | _ => ("", "", "", false)
def tyJ7 : Nat → FieldType := fun k => match k with
  | _ => .int
abbrev wsJ70 : List Cond := u_ws RJ7 TJ7 0
theorem nmJ7 : ∀ a, a < 0 → ∀ b, b < 0 → a ≠ b → (TJ7 a).2.1 ≠ (TJ7 b).2.1 := by decide +kernel
theorem tyJ7_ok : ∀ k, k < 0 → parseFieldDescriptor (TJ7 k).2.2.1 = some (tyJ7 k) := by decide +kernel
abbrev cJ7_copyOf_9075b : ByteArray := prog_34_method_121_code
def yJ7_copyOf_9075b : MethodName := ⟨RJ7, "copyOf", "([BI)[B"⟩
abbrev cJ7_checkLength_df160 : ByteArray := prog_34_method_131_code
def yJ7_checkLength_df160 : MethodName := ⟨RJ7, "checkLength", "(II)V"⟩
abbrev cJ7_copyOfRange_39247 : ByteArray := prog_34_method_132_code
def yJ7_copyOfRange_39247 : MethodName := ⟨RJ7, "copyOfRange", "([BII)[B"⟩
abbrev cJ7_copyOfRangeByte_39247 : ByteArray := prog_34_method_133_code
def yJ7_copyOfRangeByte_39247 : MethodName := ⟨RJ7, "copyOfRangeByte", "([BII)[B"⟩
def RJ8 : String := "jdk/internal/util/ArraysSupport"
def TJ8 : u_T := fun k => match k with
  | _ => ("", "", "", false)
def tyJ8 : Nat → FieldType := fun k => match k with
  | _ => .int
abbrev wsJ80 : List Cond := u_ws RJ8 TJ8 0
theorem nmJ8 : ∀ a, a < 0 → ∀ b, b < 0 → a ≠ b → (TJ8 a).2.1 ≠ (TJ8 b).2.1 := by decide +kernel
theorem tyJ8_ok : ∀ k, k < 0 → parseFieldDescriptor (TJ8 k).2.2.1 = some (tyJ8 k) := by decide +kernel
abbrev cJ8_newLength_cabcc : ByteArray := prog_36_method_27_code
def yJ8_newLength_cabcc : MethodName := ⟨RJ8, "newLength", "(III)I"⟩
abbrev cJ8_hugeLength_7cf53 : ByteArray := prog_36_method_28_code
def yJ8_hugeLength_7cf53 : MethodName := ⟨RJ8, "hugeLength", "(II)I"⟩
def RJ3 : String := "jdk/internal/util/Preconditions"
def TJ3 : u_T := fun k => match k with
  | _ => ("", "", "", false)
def tyJ3 : Nat → FieldType := fun k => match k with
  | _ => .int
abbrev wsJ30 : List Cond := u_ws RJ3 TJ3 0
theorem nmJ3 : ∀ a, a < 0 → ∀ b, b < 0 → a ≠ b → (TJ3 a).2.1 ≠ (TJ3 b).2.1 := by decide +kernel
theorem tyJ3_ok : ∀ k, k < 0 → parseFieldDescriptor (TJ3 k).2.2.1 = some (tyJ3 k) := by decide +kernel
abbrev cJ3_checkIndex_8e157 : ByteArray := prog_37_method_11_code
def yJ3_checkIndex_8e157 : MethodName := ⟨RJ3, "checkIndex", "(IILjava/util/function/BiFunction;)I"⟩
abbrev cJ3_checkFromToIndex_8c36e : ByteArray := prog_37_method_12_code
def yJ3_checkFromToIndex_8c36e : MethodName := ⟨RJ3, "checkFromToIndex", "(IIILjava/util/function/BiFunction;)I"⟩
abbrev cJ3_checkFromIndexSize_8c36e : ByteArray := prog_37_method_13_code
def yJ3_checkFromIndexSize_8c36e : MethodName := ⟨RJ3, "checkFromIndexSize", "(IIILjava/util/function/BiFunction;)I"⟩
def RL : String := "SwitchGraphsLaw"
def TL : u_T := fun k => match k with
  | 0 => ("SwitchGraphsLaw", "choices", "[I", false)
  | 1 => ("SwitchGraphsLaw", "at", "I", false)
  | 2 => ("SwitchGraphsLaw", "n", "I", false)
  | 3 => ("SwitchGraphsLaw", "mode", "I", false)
  | _ => ("SwitchGraphsLaw", "m", "[[I", true)
def tyL : Nat → FieldType := fun k => match k with
  | 0 => .array .int
  | 1 => .int
  | 2 => .int
  | 3 => .int
  | _ => .array (.array .int)
abbrev wsL0 : List Cond := u_ws RL TL 5
theorem nmL : ∀ a, a < 5 → ∀ b, b < 5 → a ≠ b → (TL a).2.1 ≠ (TL b).2.1 := by decide +kernel
theorem tyL_ok : ∀ k, k < 5 → parseFieldDescriptor (TL k).2.2.1 = some (tyL k) := by decide +kernel
abbrev cL_init : ByteArray := method_1_code
def yL_init : MethodName := ⟨RL, "<init>", "()V"⟩
abbrev cL_among : ByteArray := method_2_code
def yL_among : MethodName := ⟨RL, "among", "(II)I"⟩
abbrev cL_cell : ByteArray := method_3_code
def yL_cell : MethodName := ⟨RL, "cell", "([II)I"⟩
abbrev cL_four : ByteArray := method_4_code
def yL_four : MethodName := ⟨RL, "four", "(Ljava/lang/String;I)I"⟩
abbrev cL_load : ByteArray := method_5_code
def yL_load : MethodName := ⟨RL, "load", "(LSwitchGraphs;Ljava/lang/String;)I"⟩
abbrev cL_chosen : ByteArray := method_6_code
def yL_chosen : MethodName := ⟨RL, "chosen", "(I)I"⟩
abbrev cL_from : ByteArray := method_7_code
def yL_from : MethodName := ⟨RL, "from", "(II)I"⟩
abbrev cL_law : ByteArray := code
def yL_law : MethodName := ⟨RL, "law", "([I)Z"⟩
abbrev cL_told : ByteArray := method_9_code
def yL_told : MethodName := ⟨RL, "told", "()Ljava/lang/String;"⟩
abbrev cL_edges : ByteArray := method_10_code
def yL_edges : MethodName := ⟨RL, "edges", "()I"⟩
abbrev cL_many : ByteArray := method_11_code
def yL_many : MethodName := ⟨RL, "many", "(II)I"⟩
abbrev cL_degree : ByteArray := method_12_code
def yL_degree : MethodName := ⟨RL, "degree", "(I)I"⟩
abbrev cL_isGraph : ByteArray := method_13_code
def yL_isGraph : MethodName := ⟨RL, "isGraph", "(LSwitchGraphs;)Z"⟩
abbrev cL_isSequence : ByteArray := method_14_code
def yL_isSequence : MethodName := ⟨RL, "isSequence", "(LSwitchGraphs;)Z"⟩
abbrev cL_isSame : ByteArray := method_15_code
def yL_isSame : MethodName := ⟨RL, "isSame", "(IIII)Z"⟩
abbrev cL_isReason : ByteArray := method_16_code
def yL_isReason : MethodName := ⟨RL, "isReason", "(LSwitchGraphs;)Z"⟩
abbrev cL_isNoVertex : ByteArray := method_17_code
def yL_isNoVertex : MethodName := ⟨RL, "isNoVertex", "(LSwitchGraphs;)Z"⟩
abbrev cL_isBad : ByteArray := method_18_code
def yL_isBad : MethodName := ⟨RL, "isBad", "(LSwitchGraphs;)Z"⟩
abbrev cL_isNoEdge : ByteArray := method_19_code
def yL_isNoEdge : MethodName := ⟨RL, "isNoEdge", "(LSwitchGraphs;)Z"⟩
abbrev vwCl : List vw_C := [(RJ0, TJ0, 4), (RJ4, TJ4, 4), (RX1, TX1, 3), (RX2, TX2, 5), (RX3, TX3, 2), (RX4, TX4, 3), (RX5, TX5, 13), (RX6, TX6, 5), (RX7, TX7, 2), (RX8, TX8, 3), (RX9, TX9, 12), (RL, TL, 5)]
end
section
theorem dX1_init_0 : decode cX1_init 0 = .ok (.aload_n 0, 1) := by decide +kernel
theorem dX1_init_1 : decode cX1_init 1 = .ok (.invokespecial 3, 3) := by decide +kernel
theorem dX1_init_4 : decode cX1_init 4 = .ok (.aload_n 0, 1) := by decide +kernel
theorem dX1_init_5 : decode cX1_init 5 = .ok (.bipush 64, 2) := by decide +kernel
theorem dX1_init_7 : decode cX1_init 7 = .ok (.newarray .int, 2) := by decide +kernel
theorem dX1_init_9 : decode cX1_init 9 = .ok (.putfield 9, 3) := by decide +kernel
theorem dX1_init_12 : decode cX1_init 12 = .ok (.aload_n 0, 1) := by decide +kernel
theorem dX1_init_13 : decode cX1_init 13 = .ok (.iconst 1, 1) := by decide +kernel
theorem dX1_init_14 : decode cX1_init 14 = .ok (.putfield 15, 3) := by decide +kernel
theorem dX1_init_17 : decode cX1_init 17 = .ok (.aload_n 0, 1) := by decide +kernel
theorem dX1_init_18 : decode cX1_init 18 = .ok (.iconst 0, 1) := by decide +kernel
theorem dX1_init_19 : decode cX1_init 19 = .ok (.putfield 19, 3) := by decide +kernel
theorem dX1_init_22 : decode cX1_init 22 = .ok (.return_, 1) := by decide +kernel
theorem dX1_clear_0 : decode cX1_clear 0 = .ok (.iconst 0, 1) := by decide +kernel
theorem dX1_clear_1 : decode cX1_clear 1 = .ok (.istore_n 2, 1) := by decide +kernel
theorem dX1_clear_2 : decode cX1_clear 2 = .ok (.iload_n 2, 1) := by decide +kernel
theorem dX1_clear_3 : decode cX1_clear 3 = .ok (.aload_n 0, 1) := by decide +kernel
theorem dX1_clear_4 : decode cX1_clear 4 = .ok (.getfield 9, 3) := by decide +kernel
theorem dX1_clear_7 : decode cX1_clear 7 = .ok (.arraylength, 1) := by decide +kernel
theorem dX1_clear_8 : decode cX1_clear 8 = .ok (.if_icmp .ge 16, 3) := by decide +kernel
theorem dX1_clear_11 : decode cX1_clear 11 = .ok (.aload_n 0, 1) := by decide +kernel
theorem dX1_clear_12 : decode cX1_clear 12 = .ok (.getfield 9, 3) := by decide +kernel
theorem dX1_clear_15 : decode cX1_clear 15 = .ok (.iload_n 2, 1) := by decide +kernel
theorem dX1_clear_16 : decode cX1_clear 16 = .ok (.iconst 0, 1) := by decide +kernel
theorem dX1_clear_17 : decode cX1_clear 17 = .ok (.iastore, 1) := by decide +kernel
theorem dX1_clear_18 : decode cX1_clear 18 = .ok (.iinc 2 1, 3) := by decide +kernel
theorem dX1_clear_21 : decode cX1_clear 21 = .ok (.goto (-19), 3) := by decide +kernel
theorem dX1_clear_24 : decode cX1_clear 24 = .ok (.aload_n 0, 1) := by decide +kernel
theorem dX1_clear_25 : decode cX1_clear 25 = .ok (.iload_n 1, 1) := by decide +kernel
theorem dX1_clear_26 : decode cX1_clear 26 = .ok (.putfield 15, 3) := by decide +kernel
theorem dX1_clear_29 : decode cX1_clear 29 = .ok (.aload_n 0, 1) := by decide +kernel
theorem dX1_clear_30 : decode cX1_clear 30 = .ok (.iconst 0, 1) := by decide +kernel
theorem dX1_clear_31 : decode cX1_clear 31 = .ok (.putfield 19, 3) := by decide +kernel
theorem dX1_clear_34 : decode cX1_clear 34 = .ok (.return_, 1) := by decide +kernel
theorem dX1_become_0 : decode cX1_become 0 = .ok (.iconst 0, 1) := by decide +kernel
theorem dX1_become_1 : decode cX1_become 1 = .ok (.istore_n 2, 1) := by decide +kernel
theorem dX1_become_2 : decode cX1_become 2 = .ok (.iload_n 2, 1) := by decide +kernel
theorem dX1_become_3 : decode cX1_become 3 = .ok (.aload_n 0, 1) := by decide +kernel
theorem dX1_become_4 : decode cX1_become 4 = .ok (.getfield 9, 3) := by decide +kernel
theorem dX1_become_7 : decode cX1_become 7 = .ok (.arraylength, 1) := by decide +kernel
theorem dX1_become_8 : decode cX1_become 8 = .ok (.if_icmp .ge 21, 3) := by decide +kernel
theorem dX1_become_11 : decode cX1_become 11 = .ok (.aload_n 0, 1) := by decide +kernel
theorem dX1_become_12 : decode cX1_become 12 = .ok (.getfield 9, 3) := by decide +kernel
theorem dX1_become_15 : decode cX1_become 15 = .ok (.iload_n 2, 1) := by decide +kernel
theorem dX1_become_16 : decode cX1_become 16 = .ok (.aload_n 1, 1) := by decide +kernel
theorem dX1_become_17 : decode cX1_become 17 = .ok (.getfield 9, 3) := by decide +kernel
theorem dX1_become_20 : decode cX1_become 20 = .ok (.iload_n 2, 1) := by decide +kernel
theorem dX1_become_21 : decode cX1_become 21 = .ok (.iaload, 1) := by decide +kernel
theorem dX1_become_22 : decode cX1_become 22 = .ok (.iastore, 1) := by decide +kernel
theorem dX1_become_23 : decode cX1_become 23 = .ok (.iinc 2 1, 3) := by decide +kernel
theorem dX1_become_26 : decode cX1_become 26 = .ok (.goto (-24), 3) := by decide +kernel
theorem dX1_become_29 : decode cX1_become 29 = .ok (.aload_n 0, 1) := by decide +kernel
theorem dX1_become_30 : decode cX1_become 30 = .ok (.aload_n 1, 1) := by decide +kernel
theorem dX1_become_31 : decode cX1_become 31 = .ok (.getfield 15, 3) := by decide +kernel
theorem dX1_become_34 : decode cX1_become 34 = .ok (.putfield 15, 3) := by decide +kernel
theorem dX1_become_37 : decode cX1_become 37 = .ok (.aload_n 0, 1) := by decide +kernel
theorem dX1_become_38 : decode cX1_become 38 = .ok (.aload_n 1, 1) := by decide +kernel
theorem dX1_become_39 : decode cX1_become 39 = .ok (.getfield 19, 3) := by decide +kernel
theorem dX1_become_42 : decode cX1_become 42 = .ok (.putfield 19, 3) := by decide +kernel
theorem dX1_become_45 : decode cX1_become 45 = .ok (.return_, 1) := by decide +kernel
theorem dX1_vertexCount_0 : decode cX1_vertexCount 0 = .ok (.aload_n 0, 1) := by decide +kernel
theorem dX1_vertexCount_1 : decode cX1_vertexCount 1 = .ok (.getfield 15, 3) := by decide +kernel
theorem dX1_vertexCount_4 : decode cX1_vertexCount 4 = .ok (.ireturn, 1) := by decide +kernel
theorem dX1_edgeCount_0 : decode cX1_edgeCount 0 = .ok (.aload_n 0, 1) := by decide +kernel
theorem dX1_edgeCount_1 : decode cX1_edgeCount 1 = .ok (.getfield 19, 3) := by decide +kernel
theorem dX1_edgeCount_4 : decode cX1_edgeCount 4 = .ok (.ireturn, 1) := by decide +kernel
theorem dX1_between_0 : decode cX1_between 0 = .ok (.aload_n 0, 1) := by decide +kernel
theorem dX1_between_1 : decode cX1_between 1 = .ok (.getfield 9, 3) := by decide +kernel
theorem dX1_between_4 : decode cX1_between 4 = .ok (.iload_n 1, 1) := by decide +kernel
theorem dX1_between_5 : decode cX1_between 5 = .ok (.bipush 8, 2) := by decide +kernel
theorem dX1_between_7 : decode cX1_between 7 = .ok (.imul, 1) := by decide +kernel
theorem dX1_between_8 : decode cX1_between 8 = .ok (.iload_n 2, 1) := by decide +kernel
theorem dX1_between_9 : decode cX1_between 9 = .ok (.iadd, 1) := by decide +kernel
theorem dX1_between_10 : decode cX1_between 10 = .ok (.iaload, 1) := by decide +kernel
theorem dX1_between_11 : decode cX1_between 11 = .ok (.ireturn, 1) := by decide +kernel
theorem dX1_put_0 : decode cX1_put 0 = .ok (.aload_n 0, 1) := by decide +kernel
theorem dX1_put_1 : decode cX1_put 1 = .ok (.getfield 9, 3) := by decide +kernel
theorem dX1_put_4 : decode cX1_put 4 = .ok (.iload_n 1, 1) := by decide +kernel
theorem dX1_put_5 : decode cX1_put 5 = .ok (.bipush 8, 2) := by decide +kernel
theorem dX1_put_7 : decode cX1_put 7 = .ok (.imul, 1) := by decide +kernel
theorem dX1_put_8 : decode cX1_put 8 = .ok (.iload_n 2, 1) := by decide +kernel
theorem dX1_put_9 : decode cX1_put 9 = .ok (.iadd, 1) := by decide +kernel
theorem dX1_put_10 : decode cX1_put 10 = .ok (.dup2, 1) := by decide +kernel
theorem dX1_put_11 : decode cX1_put 11 = .ok (.iaload, 1) := by decide +kernel
theorem dX1_put_12 : decode cX1_put 12 = .ok (.iload_n 3, 1) := by decide +kernel
theorem dX1_put_13 : decode cX1_put 13 = .ok (.iadd, 1) := by decide +kernel
theorem dX1_put_14 : decode cX1_put 14 = .ok (.iastore, 1) := by decide +kernel
theorem dX1_put_15 : decode cX1_put 15 = .ok (.iload_n 1, 1) := by decide +kernel
theorem dX1_put_16 : decode cX1_put 16 = .ok (.iload_n 2, 1) := by decide +kernel
theorem dX1_put_17 : decode cX1_put 17 = .ok (.if_icmp .eq 18, 3) := by decide +kernel
theorem dX1_put_20 : decode cX1_put 20 = .ok (.aload_n 0, 1) := by decide +kernel
theorem dX1_put_21 : decode cX1_put 21 = .ok (.getfield 9, 3) := by decide +kernel
theorem dX1_put_24 : decode cX1_put 24 = .ok (.iload_n 2, 1) := by decide +kernel
theorem dX1_put_25 : decode cX1_put 25 = .ok (.bipush 8, 2) := by decide +kernel
theorem dX1_put_27 : decode cX1_put 27 = .ok (.imul, 1) := by decide +kernel
theorem dX1_put_28 : decode cX1_put 28 = .ok (.iload_n 1, 1) := by decide +kernel
theorem dX1_put_29 : decode cX1_put 29 = .ok (.iadd, 1) := by decide +kernel
theorem dX1_put_30 : decode cX1_put 30 = .ok (.dup2, 1) := by decide +kernel
theorem dX1_put_31 : decode cX1_put 31 = .ok (.iaload, 1) := by decide +kernel
theorem dX1_put_32 : decode cX1_put 32 = .ok (.iload_n 3, 1) := by decide +kernel
theorem dX1_put_33 : decode cX1_put 33 = .ok (.iadd, 1) := by decide +kernel
theorem dX1_put_34 : decode cX1_put 34 = .ok (.iastore, 1) := by decide +kernel
theorem dX1_put_35 : decode cX1_put 35 = .ok (.aload_n 0, 1) := by decide +kernel
theorem dX1_put_36 : decode cX1_put 36 = .ok (.dup, 1) := by decide +kernel
theorem dX1_put_37 : decode cX1_put 37 = .ok (.getfield 19, 3) := by decide +kernel
theorem dX1_put_40 : decode cX1_put 40 = .ok (.iload_n 3, 1) := by decide +kernel
theorem dX1_put_41 : decode cX1_put 41 = .ok (.iadd, 1) := by decide +kernel
theorem dX1_put_42 : decode cX1_put 42 = .ok (.putfield 19, 3) := by decide +kernel
theorem dX1_put_45 : decode cX1_put 45 = .ok (.return_, 1) := by decide +kernel
theorem dX1_reasonAgainst_0 : decode cX1_reasonAgainst 0 = .ok (.aload_n 0, 1) := by decide +kernel
theorem dX1_reasonAgainst_1 : decode cX1_reasonAgainst 1 = .ok (.iload_n 2, 1) := by decide +kernel
theorem dX1_reasonAgainst_2 : decode cX1_reasonAgainst 2 = .ok (.iload_n 3, 1) := by decide +kernel
theorem dX1_reasonAgainst_3 : decode cX1_reasonAgainst 3 = .ok (.invokevirtual 32, 3) := by decide +kernel
theorem dX1_reasonAgainst_6 : decode cX1_reasonAgainst 6 = .ok (.ifCond .ne 5, 3) := by decide +kernel
theorem dX1_reasonAgainst_9 : decode cX1_reasonAgainst 9 = .ok (.iconst 1, 1) := by decide +kernel
theorem dX1_reasonAgainst_10 : decode cX1_reasonAgainst 10 = .ok (.ireturn, 1) := by decide +kernel
theorem dX1_reasonAgainst_11 : decode cX1_reasonAgainst 11 = .ok (.iload_n 2, 1) := by decide +kernel
theorem dX1_reasonAgainst_12 : decode cX1_reasonAgainst 12 = .ok (.iload 4, 2) := by decide +kernel
theorem dX1_reasonAgainst_14 : decode cX1_reasonAgainst 14 = .ok (.if_icmp .ne 9, 3) := by decide +kernel
theorem dX1_reasonAgainst_17 : decode cX1_reasonAgainst 17 = .ok (.iload_n 3, 1) := by decide +kernel
theorem dX1_reasonAgainst_18 : decode cX1_reasonAgainst 18 = .ok (.iload 5, 2) := by decide +kernel
theorem dX1_reasonAgainst_20 : decode cX1_reasonAgainst 20 = .ok (.if_icmp .eq 15, 3) := by decide +kernel
theorem dX1_reasonAgainst_23 : decode cX1_reasonAgainst 23 = .ok (.iload_n 2, 1) := by decide +kernel
theorem dX1_reasonAgainst_24 : decode cX1_reasonAgainst 24 = .ok (.iload 5, 2) := by decide +kernel
theorem dX1_reasonAgainst_26 : decode cX1_reasonAgainst 26 = .ok (.if_icmp .ne 13, 3) := by decide +kernel
theorem dX1_reasonAgainst_29 : decode cX1_reasonAgainst 29 = .ok (.iload_n 3, 1) := by decide +kernel
theorem dX1_reasonAgainst_30 : decode cX1_reasonAgainst 30 = .ok (.iload 4, 2) := by decide +kernel
theorem dX1_reasonAgainst_32 : decode cX1_reasonAgainst 32 = .ok (.if_icmp .ne 7, 3) := by decide +kernel
theorem dX1_reasonAgainst_35 : decode cX1_reasonAgainst 35 = .ok (.iconst 1, 1) := by decide +kernel
theorem dX1_reasonAgainst_36 : decode cX1_reasonAgainst 36 = .ok (.goto 4, 3) := by decide +kernel
theorem dX1_reasonAgainst_39 : decode cX1_reasonAgainst 39 = .ok (.iconst 0, 1) := by decide +kernel
theorem dX1_reasonAgainst_40 : decode cX1_reasonAgainst 40 = .ok (.istore 6, 2) := by decide +kernel
theorem dX1_reasonAgainst_42 : decode cX1_reasonAgainst 42 = .ok (.aload_n 0, 1) := by decide +kernel
theorem dX1_reasonAgainst_43 : decode cX1_reasonAgainst 43 = .ok (.iload 4, 2) := by decide +kernel
theorem dX1_reasonAgainst_45 : decode cX1_reasonAgainst 45 = .ok (.iload 5, 2) := by decide +kernel
theorem dX1_reasonAgainst_47 : decode cX1_reasonAgainst 47 = .ok (.invokevirtual 32, 3) := by decide +kernel
theorem dX1_reasonAgainst_50 : decode cX1_reasonAgainst 50 = .ok (.iload 6, 2) := by decide +kernel
theorem dX1_reasonAgainst_52 : decode cX1_reasonAgainst 52 = .ok (.ifCond .eq 7, 3) := by decide +kernel
theorem dX1_reasonAgainst_55 : decode cX1_reasonAgainst 55 = .ok (.iconst 2, 1) := by decide +kernel
theorem dX1_reasonAgainst_56 : decode cX1_reasonAgainst 56 = .ok (.goto 4, 3) := by decide +kernel
theorem dX1_reasonAgainst_59 : decode cX1_reasonAgainst 59 = .ok (.iconst 1, 1) := by decide +kernel
theorem dX1_reasonAgainst_60 : decode cX1_reasonAgainst 60 = .ok (.if_icmp .ge 5, 3) := by decide +kernel
theorem dX1_reasonAgainst_63 : decode cX1_reasonAgainst 63 = .ok (.iconst 2, 1) := by decide +kernel
theorem dX1_reasonAgainst_64 : decode cX1_reasonAgainst 64 = .ok (.ireturn, 1) := by decide +kernel
theorem dX1_reasonAgainst_65 : decode cX1_reasonAgainst 65 = .ok (.iload_n 2, 1) := by decide +kernel
theorem dX1_reasonAgainst_66 : decode cX1_reasonAgainst 66 = .ok (.iload 5, 2) := by decide +kernel
theorem dX1_reasonAgainst_68 : decode cX1_reasonAgainst 68 = .ok (.if_icmp .eq 9, 3) := by decide +kernel
theorem dX1_reasonAgainst_71 : decode cX1_reasonAgainst 71 = .ok (.iload_n 3, 1) := by decide +kernel
theorem dX1_reasonAgainst_72 : decode cX1_reasonAgainst 72 = .ok (.iload 4, 2) := by decide +kernel
theorem dX1_reasonAgainst_74 : decode cX1_reasonAgainst 74 = .ok (.if_icmp .ne 5, 3) := by decide +kernel
theorem dX1_reasonAgainst_77 : decode cX1_reasonAgainst 77 = .ok (.iconst 3, 1) := by decide +kernel
theorem dX1_reasonAgainst_78 : decode cX1_reasonAgainst 78 = .ok (.ireturn, 1) := by decide +kernel
theorem dX1_reasonAgainst_79 : decode cX1_reasonAgainst 79 = .ok (.iload_n 1, 1) := by decide +kernel
theorem dX1_reasonAgainst_80 : decode cX1_reasonAgainst 80 = .ok (.ifCond .eq 17, 3) := by decide +kernel
theorem dX1_reasonAgainst_83 : decode cX1_reasonAgainst 83 = .ok (.iload_n 2, 1) := by decide +kernel
theorem dX1_reasonAgainst_84 : decode cX1_reasonAgainst 84 = .ok (.iload 4, 2) := by decide +kernel
theorem dX1_reasonAgainst_86 : decode cX1_reasonAgainst 86 = .ok (.if_icmp .eq 9, 3) := by decide +kernel
theorem dX1_reasonAgainst_89 : decode cX1_reasonAgainst 89 = .ok (.iload_n 3, 1) := by decide +kernel
theorem dX1_reasonAgainst_90 : decode cX1_reasonAgainst 90 = .ok (.iload 5, 2) := by decide +kernel
theorem dX1_reasonAgainst_92 : decode cX1_reasonAgainst 92 = .ok (.if_icmp .ne 5, 3) := by decide +kernel
theorem dX1_reasonAgainst_95 : decode cX1_reasonAgainst 95 = .ok (.iconst 4, 1) := by decide +kernel
theorem dX1_reasonAgainst_96 : decode cX1_reasonAgainst 96 = .ok (.ireturn, 1) := by decide +kernel
theorem dX1_reasonAgainst_97 : decode cX1_reasonAgainst 97 = .ok (.aload_n 0, 1) := by decide +kernel
theorem dX1_reasonAgainst_98 : decode cX1_reasonAgainst 98 = .ok (.iload_n 2, 1) := by decide +kernel
theorem dX1_reasonAgainst_99 : decode cX1_reasonAgainst 99 = .ok (.iload 4, 2) := by decide +kernel
theorem dX1_reasonAgainst_101 : decode cX1_reasonAgainst 101 = .ok (.invokevirtual 32, 3) := by decide +kernel
theorem dX1_reasonAgainst_104 : decode cX1_reasonAgainst 104 = .ok (.ifCond .gt 13, 3) := by decide +kernel
theorem dX1_reasonAgainst_107 : decode cX1_reasonAgainst 107 = .ok (.aload_n 0, 1) := by decide +kernel
theorem dX1_reasonAgainst_108 : decode cX1_reasonAgainst 108 = .ok (.iload_n 3, 1) := by decide +kernel
theorem dX1_reasonAgainst_109 : decode cX1_reasonAgainst 109 = .ok (.iload 5, 2) := by decide +kernel
theorem dX1_reasonAgainst_111 : decode cX1_reasonAgainst 111 = .ok (.invokevirtual 32, 3) := by decide +kernel
theorem dX1_reasonAgainst_114 : decode cX1_reasonAgainst 114 = .ok (.ifCond .le 7, 3) := by decide +kernel
theorem dX1_reasonAgainst_117 : decode cX1_reasonAgainst 117 = .ok (.iconst 1, 1) := by decide +kernel
theorem dX1_reasonAgainst_118 : decode cX1_reasonAgainst 118 = .ok (.goto 4, 3) := by decide +kernel
theorem dX1_reasonAgainst_121 : decode cX1_reasonAgainst 121 = .ok (.iconst 0, 1) := by decide +kernel
theorem dX1_reasonAgainst_122 : decode cX1_reasonAgainst 122 = .ok (.istore 7, 2) := by decide +kernel
theorem dX1_reasonAgainst_124 : decode cX1_reasonAgainst 124 = .ok (.iload_n 2, 1) := by decide +kernel
theorem dX1_reasonAgainst_125 : decode cX1_reasonAgainst 125 = .ok (.iload_n 3, 1) := by decide +kernel
theorem dX1_reasonAgainst_126 : decode cX1_reasonAgainst 126 = .ok (.if_icmp .ne 14, 3) := by decide +kernel
theorem dX1_reasonAgainst_129 : decode cX1_reasonAgainst 129 = .ok (.iload 4, 2) := by decide +kernel
theorem dX1_reasonAgainst_131 : decode cX1_reasonAgainst 131 = .ok (.iload 5, 2) := by decide +kernel
theorem dX1_reasonAgainst_133 : decode cX1_reasonAgainst 133 = .ok (.if_icmp .ne 7, 3) := by decide +kernel
theorem dX1_reasonAgainst_136 : decode cX1_reasonAgainst 136 = .ok (.iconst 1, 1) := by decide +kernel
theorem dX1_reasonAgainst_137 : decode cX1_reasonAgainst 137 = .ok (.goto 4, 3) := by decide +kernel
theorem dX1_reasonAgainst_140 : decode cX1_reasonAgainst 140 = .ok (.iconst 0, 1) := by decide +kernel
theorem dX1_reasonAgainst_141 : decode cX1_reasonAgainst 141 = .ok (.istore 8, 2) := by decide +kernel
theorem dX1_reasonAgainst_143 : decode cX1_reasonAgainst 143 = .ok (.iload_n 1, 1) := by decide +kernel
theorem dX1_reasonAgainst_144 : decode cX1_reasonAgainst 144 = .ok (.iconst 2, 1) := by decide +kernel
theorem dX1_reasonAgainst_145 : decode cX1_reasonAgainst 145 = .ok (.if_icmp .ne 17, 3) := by decide +kernel
theorem dX1_reasonAgainst_148 : decode cX1_reasonAgainst 148 = .ok (.iload 7, 2) := by decide +kernel
theorem dX1_reasonAgainst_150 : decode cX1_reasonAgainst 150 = .ok (.ifCond .ne 8, 3) := by decide +kernel
theorem dX1_reasonAgainst_153 : decode cX1_reasonAgainst 153 = .ok (.iload 8, 2) := by decide +kernel
theorem dX1_reasonAgainst_155 : decode cX1_reasonAgainst 155 = .ok (.ifCond .eq 7, 3) := by decide +kernel
theorem dX1_reasonAgainst_158 : decode cX1_reasonAgainst 158 = .ok (.iconst 5, 1) := by decide +kernel
theorem dX1_reasonAgainst_159 : decode cX1_reasonAgainst 159 = .ok (.goto 4, 3) := by decide +kernel
theorem dX1_reasonAgainst_162 : decode cX1_reasonAgainst 162 = .ok (.iconst 0, 1) := by decide +kernel
theorem dX1_reasonAgainst_163 : decode cX1_reasonAgainst 163 = .ok (.ireturn, 1) := by decide +kernel
theorem dX1_degreeOf_0 : decode cX1_degreeOf 0 = .ok (.aload_n 0, 1) := by decide +kernel
theorem dX1_degreeOf_1 : decode cX1_degreeOf 1 = .ok (.iload_n 1, 1) := by decide +kernel
theorem dX1_degreeOf_2 : decode cX1_degreeOf 2 = .ok (.iload_n 1, 1) := by decide +kernel
theorem dX1_degreeOf_3 : decode cX1_degreeOf 3 = .ok (.invokevirtual 32, 3) := by decide +kernel
theorem dX1_degreeOf_6 : decode cX1_degreeOf 6 = .ok (.istore_n 2, 1) := by decide +kernel
theorem dX1_degreeOf_7 : decode cX1_degreeOf 7 = .ok (.iconst 0, 1) := by decide +kernel
theorem dX1_degreeOf_8 : decode cX1_degreeOf 8 = .ok (.istore_n 3, 1) := by decide +kernel
theorem dX1_degreeOf_9 : decode cX1_degreeOf 9 = .ok (.iload_n 3, 1) := by decide +kernel
theorem dX1_degreeOf_10 : decode cX1_degreeOf 10 = .ok (.aload_n 0, 1) := by decide +kernel
theorem dX1_degreeOf_11 : decode cX1_degreeOf 11 = .ok (.getfield 15, 3) := by decide +kernel
theorem dX1_degreeOf_14 : decode cX1_degreeOf 14 = .ok (.if_icmp .ge 18, 3) := by decide +kernel
theorem dX1_degreeOf_17 : decode cX1_degreeOf 17 = .ok (.iload_n 2, 1) := by decide +kernel
theorem dX1_degreeOf_18 : decode cX1_degreeOf 18 = .ok (.aload_n 0, 1) := by decide +kernel
theorem dX1_degreeOf_19 : decode cX1_degreeOf 19 = .ok (.iload_n 1, 1) := by decide +kernel
theorem dX1_degreeOf_20 : decode cX1_degreeOf 20 = .ok (.iload_n 3, 1) := by decide +kernel
theorem dX1_degreeOf_21 : decode cX1_degreeOf 21 = .ok (.invokevirtual 32, 3) := by decide +kernel
theorem dX1_degreeOf_24 : decode cX1_degreeOf 24 = .ok (.iadd, 1) := by decide +kernel
theorem dX1_degreeOf_25 : decode cX1_degreeOf 25 = .ok (.istore_n 2, 1) := by decide +kernel
theorem dX1_degreeOf_26 : decode cX1_degreeOf 26 = .ok (.iinc 3 1, 3) := by decide +kernel
theorem dX1_degreeOf_29 : decode cX1_degreeOf 29 = .ok (.goto (-20), 3) := by decide +kernel
theorem dX1_degreeOf_32 : decode cX1_degreeOf 32 = .ok (.iload_n 2, 1) := by decide +kernel
theorem dX1_degreeOf_33 : decode cX1_degreeOf 33 = .ok (.ireturn, 1) := by decide +kernel
theorem dX1_loopCount_0 : decode cX1_loopCount 0 = .ok (.iconst 0, 1) := by decide +kernel
theorem dX1_loopCount_1 : decode cX1_loopCount 1 = .ok (.istore_n 1, 1) := by decide +kernel
theorem dX1_loopCount_2 : decode cX1_loopCount 2 = .ok (.iconst 0, 1) := by decide +kernel
theorem dX1_loopCount_3 : decode cX1_loopCount 3 = .ok (.istore_n 2, 1) := by decide +kernel
theorem dX1_loopCount_4 : decode cX1_loopCount 4 = .ok (.iload_n 2, 1) := by decide +kernel
theorem dX1_loopCount_5 : decode cX1_loopCount 5 = .ok (.aload_n 0, 1) := by decide +kernel
theorem dX1_loopCount_6 : decode cX1_loopCount 6 = .ok (.getfield 15, 3) := by decide +kernel
theorem dX1_loopCount_9 : decode cX1_loopCount 9 = .ok (.if_icmp .ge 18, 3) := by decide +kernel
theorem dX1_loopCount_12 : decode cX1_loopCount 12 = .ok (.iload_n 1, 1) := by decide +kernel
theorem dX1_loopCount_13 : decode cX1_loopCount 13 = .ok (.aload_n 0, 1) := by decide +kernel
theorem dX1_loopCount_14 : decode cX1_loopCount 14 = .ok (.iload_n 2, 1) := by decide +kernel
theorem dX1_loopCount_15 : decode cX1_loopCount 15 = .ok (.iload_n 2, 1) := by decide +kernel
theorem dX1_loopCount_16 : decode cX1_loopCount 16 = .ok (.invokevirtual 32, 3) := by decide +kernel
theorem dX1_loopCount_19 : decode cX1_loopCount 19 = .ok (.iadd, 1) := by decide +kernel
theorem dX1_loopCount_20 : decode cX1_loopCount 20 = .ok (.istore_n 1, 1) := by decide +kernel
theorem dX1_loopCount_21 : decode cX1_loopCount 21 = .ok (.iinc 2 1, 3) := by decide +kernel
theorem dX1_loopCount_24 : decode cX1_loopCount 24 = .ok (.goto (-20), 3) := by decide +kernel
theorem dX1_loopCount_27 : decode cX1_loopCount 27 = .ok (.iload_n 1, 1) := by decide +kernel
theorem dX1_loopCount_28 : decode cX1_loopCount 28 = .ok (.ireturn, 1) := by decide +kernel
theorem dX1_defectCount_0 : decode cX1_defectCount 0 = .ok (.aload_n 0, 1) := by decide +kernel
theorem dX1_defectCount_1 : decode cX1_defectCount 1 = .ok (.invokevirtual 35, 3) := by decide +kernel
theorem dX1_defectCount_4 : decode cX1_defectCount 4 = .ok (.istore_n 1, 1) := by decide +kernel
theorem dX1_defectCount_5 : decode cX1_defectCount 5 = .ok (.iconst 0, 1) := by decide +kernel
theorem dX1_defectCount_6 : decode cX1_defectCount 6 = .ok (.istore_n 2, 1) := by decide +kernel
theorem dX1_defectCount_7 : decode cX1_defectCount 7 = .ok (.iload_n 2, 1) := by decide +kernel
theorem dX1_defectCount_8 : decode cX1_defectCount 8 = .ok (.aload_n 0, 1) := by decide +kernel
theorem dX1_defectCount_9 : decode cX1_defectCount 9 = .ok (.getfield 15, 3) := by decide +kernel
theorem dX1_defectCount_12 : decode cX1_defectCount 12 = .ok (.if_icmp .ge 42, 3) := by decide +kernel
theorem dX1_defectCount_15 : decode cX1_defectCount 15 = .ok (.iload_n 2, 1) := by decide +kernel
theorem dX1_defectCount_16 : decode cX1_defectCount 16 = .ok (.iconst 1, 1) := by decide +kernel
theorem dX1_defectCount_17 : decode cX1_defectCount 17 = .ok (.iadd, 1) := by decide +kernel
theorem dX1_defectCount_18 : decode cX1_defectCount 18 = .ok (.istore_n 3, 1) := by decide +kernel
theorem dX1_defectCount_19 : decode cX1_defectCount 19 = .ok (.iload_n 3, 1) := by decide +kernel
theorem dX1_defectCount_20 : decode cX1_defectCount 20 = .ok (.aload_n 0, 1) := by decide +kernel
theorem dX1_defectCount_21 : decode cX1_defectCount 21 = .ok (.getfield 15, 3) := by decide +kernel
theorem dX1_defectCount_24 : decode cX1_defectCount 24 = .ok (.if_icmp .ge 24, 3) := by decide +kernel
theorem dX1_defectCount_27 : decode cX1_defectCount 27 = .ok (.iload_n 1, 1) := by decide +kernel
theorem dX1_defectCount_28 : decode cX1_defectCount 28 = .ok (.iconst 0, 1) := by decide +kernel
theorem dX1_defectCount_29 : decode cX1_defectCount 29 = .ok (.aload_n 0, 1) := by decide +kernel
theorem dX1_defectCount_30 : decode cX1_defectCount 30 = .ok (.iload_n 2, 1) := by decide +kernel
theorem dX1_defectCount_31 : decode cX1_defectCount 31 = .ok (.iload_n 3, 1) := by decide +kernel
theorem dX1_defectCount_32 : decode cX1_defectCount 32 = .ok (.invokevirtual 32, 3) := by decide +kernel
theorem dX1_defectCount_35 : decode cX1_defectCount 35 = .ok (.iconst 1, 1) := by decide +kernel
theorem dX1_defectCount_36 : decode cX1_defectCount 36 = .ok (.isub, 1) := by decide +kernel
theorem dX1_defectCount_37 : decode cX1_defectCount 37 = .ok (.invokestatic 39, 3) := by decide +kernel
theorem dX1_defectCount_40 : decode cX1_defectCount 40 = .ok (.iadd, 1) := by decide +kernel
theorem dX1_defectCount_41 : decode cX1_defectCount 41 = .ok (.istore_n 1, 1) := by decide +kernel
theorem dX1_defectCount_42 : decode cX1_defectCount 42 = .ok (.iinc 3 1, 3) := by decide +kernel
theorem dX1_defectCount_45 : decode cX1_defectCount 45 = .ok (.goto (-26), 3) := by decide +kernel
theorem dX1_defectCount_48 : decode cX1_defectCount 48 = .ok (.iinc 2 1, 3) := by decide +kernel
theorem dX1_defectCount_51 : decode cX1_defectCount 51 = .ok (.goto (-44), 3) := by decide +kernel
theorem dX1_defectCount_54 : decode cX1_defectCount 54 = .ok (.iload_n 1, 1) := by decide +kernel
theorem dX1_defectCount_55 : decode cX1_defectCount 55 = .ok (.ireturn, 1) := by decide +kernel
theorem dX1_triangleCount_0 : decode cX1_triangleCount 0 = .ok (.iconst 0, 1) := by decide +kernel
theorem dX1_triangleCount_1 : decode cX1_triangleCount 1 = .ok (.istore_n 1, 1) := by decide +kernel
theorem dX1_triangleCount_2 : decode cX1_triangleCount 2 = .ok (.iconst 0, 1) := by decide +kernel
theorem dX1_triangleCount_3 : decode cX1_triangleCount 3 = .ok (.istore_n 2, 1) := by decide +kernel
theorem dX1_triangleCount_4 : decode cX1_triangleCount 4 = .ok (.iload_n 2, 1) := by decide +kernel
theorem dX1_triangleCount_5 : decode cX1_triangleCount 5 = .ok (.aload_n 0, 1) := by decide +kernel
theorem dX1_triangleCount_6 : decode cX1_triangleCount 6 = .ok (.getfield 15, 3) := by decide +kernel
theorem dX1_triangleCount_9 : decode cX1_triangleCount 9 = .ok (.if_icmp .ge 45, 3) := by decide +kernel
theorem dX1_triangleCount_12 : decode cX1_triangleCount 12 = .ok (.iload_n 2, 1) := by decide +kernel
theorem dX1_triangleCount_13 : decode cX1_triangleCount 13 = .ok (.iconst 1, 1) := by decide +kernel
theorem dX1_triangleCount_14 : decode cX1_triangleCount 14 = .ok (.iadd, 1) := by decide +kernel
theorem dX1_triangleCount_15 : decode cX1_triangleCount 15 = .ok (.istore_n 3, 1) := by decide +kernel
theorem dX1_triangleCount_16 : decode cX1_triangleCount 16 = .ok (.iload_n 3, 1) := by decide +kernel
theorem dX1_triangleCount_17 : decode cX1_triangleCount 17 = .ok (.aload_n 0, 1) := by decide +kernel
theorem dX1_triangleCount_18 : decode cX1_triangleCount 18 = .ok (.getfield 15, 3) := by decide +kernel
theorem dX1_triangleCount_21 : decode cX1_triangleCount 21 = .ok (.if_icmp .ge 27, 3) := by decide +kernel
theorem dX1_triangleCount_24 : decode cX1_triangleCount 24 = .ok (.aload_n 0, 1) := by decide +kernel
theorem dX1_triangleCount_25 : decode cX1_triangleCount 25 = .ok (.iload_n 2, 1) := by decide +kernel
theorem dX1_triangleCount_26 : decode cX1_triangleCount 26 = .ok (.iload_n 3, 1) := by decide +kernel
theorem dX1_triangleCount_27 : decode cX1_triangleCount 27 = .ok (.invokevirtual 32, 3) := by decide +kernel
theorem dX1_triangleCount_30 : decode cX1_triangleCount 30 = .ok (.ifCond .le 12, 3) := by decide +kernel
theorem dX1_triangleCount_33 : decode cX1_triangleCount 33 = .ok (.iload_n 1, 1) := by decide +kernel
theorem dX1_triangleCount_34 : decode cX1_triangleCount 34 = .ok (.aload_n 0, 1) := by decide +kernel
theorem dX1_triangleCount_35 : decode cX1_triangleCount 35 = .ok (.iload_n 2, 1) := by decide +kernel
theorem dX1_triangleCount_36 : decode cX1_triangleCount 36 = .ok (.iload_n 3, 1) := by decide +kernel
theorem dX1_triangleCount_37 : decode cX1_triangleCount 37 = .ok (.invokevirtual 44, 3) := by decide +kernel
theorem dX1_triangleCount_40 : decode cX1_triangleCount 40 = .ok (.iadd, 1) := by decide +kernel
theorem dX1_triangleCount_41 : decode cX1_triangleCount 41 = .ok (.istore_n 1, 1) := by decide +kernel
theorem dX1_triangleCount_42 : decode cX1_triangleCount 42 = .ok (.iinc 3 1, 3) := by decide +kernel
theorem dX1_triangleCount_45 : decode cX1_triangleCount 45 = .ok (.goto (-29), 3) := by decide +kernel
theorem dX1_triangleCount_48 : decode cX1_triangleCount 48 = .ok (.iinc 2 1, 3) := by decide +kernel
theorem dX1_triangleCount_51 : decode cX1_triangleCount 51 = .ok (.goto (-47), 3) := by decide +kernel
theorem dX1_triangleCount_54 : decode cX1_triangleCount 54 = .ok (.iload_n 1, 1) := by decide +kernel
theorem dX1_triangleCount_55 : decode cX1_triangleCount 55 = .ok (.ireturn, 1) := by decide +kernel
theorem dX1_commonNeighboursBehind_0 : decode cX1_commonNeighboursBehind 0 = .ok (.iconst 0, 1) := by decide +kernel
theorem dX1_commonNeighboursBehind_1 : decode cX1_commonNeighboursBehind 1 = .ok (.istore_n 3, 1) := by decide +kernel
theorem dX1_commonNeighboursBehind_2 : decode cX1_commonNeighboursBehind 2 = .ok (.iload_n 2, 1) := by decide +kernel
theorem dX1_commonNeighboursBehind_3 : decode cX1_commonNeighboursBehind 3 = .ok (.iconst 1, 1) := by decide +kernel
theorem dX1_commonNeighboursBehind_4 : decode cX1_commonNeighboursBehind 4 = .ok (.iadd, 1) := by decide +kernel
theorem dX1_commonNeighboursBehind_5 : decode cX1_commonNeighboursBehind 5 = .ok (.istore 4, 2) := by decide +kernel
theorem dX1_commonNeighboursBehind_7 : decode cX1_commonNeighboursBehind 7 = .ok (.iload 4, 2) := by decide +kernel
theorem dX1_commonNeighboursBehind_9 : decode cX1_commonNeighboursBehind 9 = .ok (.aload_n 0, 1) := by decide +kernel
theorem dX1_commonNeighboursBehind_10 : decode cX1_commonNeighboursBehind 10 = .ok (.getfield 15, 3) := by decide +kernel
theorem dX1_commonNeighboursBehind_13 : decode cX1_commonNeighboursBehind 13 = .ok (.if_icmp .ge 32, 3) := by decide +kernel
theorem dX1_commonNeighboursBehind_16 : decode cX1_commonNeighboursBehind 16 = .ok (.aload_n 0, 1) := by decide +kernel
theorem dX1_commonNeighboursBehind_17 : decode cX1_commonNeighboursBehind 17 = .ok (.iload_n 1, 1) := by decide +kernel
theorem dX1_commonNeighboursBehind_18 : decode cX1_commonNeighboursBehind 18 = .ok (.iload 4, 2) := by decide +kernel
theorem dX1_commonNeighboursBehind_20 : decode cX1_commonNeighboursBehind 20 = .ok (.invokevirtual 32, 3) := by decide +kernel
theorem dX1_commonNeighboursBehind_23 : decode cX1_commonNeighboursBehind 23 = .ok (.ifCond .le 16, 3) := by decide +kernel
theorem dX1_commonNeighboursBehind_26 : decode cX1_commonNeighboursBehind 26 = .ok (.aload_n 0, 1) := by decide +kernel
theorem dX1_commonNeighboursBehind_27 : decode cX1_commonNeighboursBehind 27 = .ok (.iload_n 2, 1) := by decide +kernel
theorem dX1_commonNeighboursBehind_28 : decode cX1_commonNeighboursBehind 28 = .ok (.iload 4, 2) := by decide +kernel
theorem dX1_commonNeighboursBehind_30 : decode cX1_commonNeighboursBehind 30 = .ok (.invokevirtual 32, 3) := by decide +kernel
theorem dX1_commonNeighboursBehind_33 : decode cX1_commonNeighboursBehind 33 = .ok (.ifCond .le 6, 3) := by decide +kernel
theorem dX1_commonNeighboursBehind_36 : decode cX1_commonNeighboursBehind 36 = .ok (.iinc 3 1, 3) := by decide +kernel
theorem dX1_commonNeighboursBehind_39 : decode cX1_commonNeighboursBehind 39 = .ok (.iinc 4 1, 3) := by decide +kernel
theorem dX1_commonNeighboursBehind_42 : decode cX1_commonNeighboursBehind 42 = .ok (.goto (-35), 3) := by decide +kernel
theorem dX1_commonNeighboursBehind_45 : decode cX1_commonNeighboursBehind 45 = .ok (.iload_n 3, 1) := by decide +kernel
theorem dX1_commonNeighboursBehind_46 : decode cX1_commonNeighboursBehind 46 = .ok (.ireturn, 1) := by decide +kernel
theorem dX2_init_0 : decode cX2_init 0 = .ok (.aload_n 0, 1) := by decide +kernel
theorem dX2_init_1 : decode cX2_init 1 = .ok (.invokespecial 1, 3) := by decide +kernel
theorem dX2_init_4 : decode cX2_init 4 = .ok (.aload_n 0, 1) := by decide +kernel
theorem dX2_init_5 : decode cX2_init 5 = .ok (.bipush 10, 2) := by decide +kernel
theorem dX2_init_7 : decode cX2_init 7 = .ok (.anewarray 9, 3) := by decide +kernel
theorem dX2_init_10 : decode cX2_init 10 = .ok (.putfield 11, 3) := by decide +kernel
theorem dX2_init_13 : decode cX2_init 13 = .ok (.aload_n 0, 1) := by decide +kernel
theorem dX2_init_14 : decode cX2_init 14 = .ok (.bipush 10, 2) := by decide +kernel
theorem dX2_init_16 : decode cX2_init 16 = .ok (.anewarray 9, 3) := by decide +kernel
theorem dX2_init_19 : decode cX2_init 19 = .ok (.putfield 15, 3) := by decide +kernel
theorem dX2_init_22 : decode cX2_init 22 = .ok (.aload_n 0, 1) := by decide +kernel
theorem dX2_init_23 : decode cX2_init 23 = .ok (.bipush 10, 2) := by decide +kernel
theorem dX2_init_25 : decode cX2_init 25 = .ok (.newarray .int, 2) := by decide +kernel
theorem dX2_init_27 : decode cX2_init 27 = .ok (.putfield 18, 3) := by decide +kernel
theorem dX2_init_30 : decode cX2_init 30 = .ok (.aload_n 0, 1) := by decide +kernel
theorem dX2_init_31 : decode cX2_init 31 = .ok (.iconst 0, 1) := by decide +kernel
theorem dX2_init_32 : decode cX2_init 32 = .ok (.putfield 22, 3) := by decide +kernel
theorem dX2_init_35 : decode cX2_init 35 = .ok (.aload_n 0, 1) := by decide +kernel
theorem dX2_init_36 : decode cX2_init 36 = .ok (.iconst 0, 1) := by decide +kernel
theorem dX2_init_37 : decode cX2_init 37 = .ok (.putfield 26, 3) := by decide +kernel
theorem dX2_init_40 : decode cX2_init 40 = .ok (.iconst 0, 1) := by decide +kernel
theorem dX2_init_41 : decode cX2_init 41 = .ok (.istore_n 1, 1) := by decide +kernel
theorem dX2_init_42 : decode cX2_init 42 = .ok (.iload_n 1, 1) := by decide +kernel
theorem dX2_init_43 : decode cX2_init 43 = .ok (.bipush 10, 2) := by decide +kernel
theorem dX2_init_45 : decode cX2_init 45 = .ok (.if_icmp .ge 35, 3) := by decide +kernel
theorem dX2_init_48 : decode cX2_init 48 = .ok (.aload_n 0, 1) := by decide +kernel
theorem dX2_init_49 : decode cX2_init 49 = .ok (.getfield 11, 3) := by decide +kernel
theorem dX2_init_52 : decode cX2_init 52 = .ok (.iload_n 1, 1) := by decide +kernel
theorem dX2_init_53 : decode cX2_init 53 = .ok (.new 9, 3) := by decide +kernel
theorem dX2_init_56 : decode cX2_init 56 = .ok (.dup, 1) := by decide +kernel
theorem dX2_init_57 : decode cX2_init 57 = .ok (.invokespecial 29, 3) := by decide +kernel
theorem dX2_init_60 : decode cX2_init 60 = .ok (.aastore, 1) := by decide +kernel
theorem dX2_init_61 : decode cX2_init 61 = .ok (.aload_n 0, 1) := by decide +kernel
theorem dX2_init_62 : decode cX2_init 62 = .ok (.getfield 15, 3) := by decide +kernel
theorem dX2_init_65 : decode cX2_init 65 = .ok (.iload_n 1, 1) := by decide +kernel
theorem dX2_init_66 : decode cX2_init 66 = .ok (.new 9, 3) := by decide +kernel
theorem dX2_init_69 : decode cX2_init 69 = .ok (.dup, 1) := by decide +kernel
theorem dX2_init_70 : decode cX2_init 70 = .ok (.invokespecial 29, 3) := by decide +kernel
theorem dX2_init_73 : decode cX2_init 73 = .ok (.aastore, 1) := by decide +kernel
theorem dX2_init_74 : decode cX2_init 74 = .ok (.iinc 1 1, 3) := by decide +kernel
theorem dX2_init_77 : decode cX2_init 77 = .ok (.goto (-35), 3) := by decide +kernel
theorem dX2_init_80 : decode cX2_init 80 = .ok (.return_, 1) := by decide +kernel
theorem dX2_forget_0 : decode cX2_forget 0 = .ok (.aload_n 0, 1) := by decide +kernel
theorem dX2_forget_1 : decode cX2_forget 1 = .ok (.iconst 0, 1) := by decide +kernel
theorem dX2_forget_2 : decode cX2_forget 2 = .ok (.putfield 22, 3) := by decide +kernel
theorem dX2_forget_5 : decode cX2_forget 5 = .ok (.aload_n 0, 1) := by decide +kernel
theorem dX2_forget_6 : decode cX2_forget 6 = .ok (.iconst 0, 1) := by decide +kernel
theorem dX2_forget_7 : decode cX2_forget 7 = .ok (.putfield 26, 3) := by decide +kernel
theorem dX2_forget_10 : decode cX2_forget 10 = .ok (.return_, 1) := by decide +kernel
theorem dX2_remember_0 : decode cX2_remember 0 = .ok (.aload_n 0, 1) := by decide +kernel
theorem dX2_remember_1 : decode cX2_remember 1 = .ok (.getfield 11, 3) := by decide +kernel
theorem dX2_remember_4 : decode cX2_remember 4 = .ok (.aload_n 0, 1) := by decide +kernel
theorem dX2_remember_5 : decode cX2_remember 5 = .ok (.getfield 26, 3) := by decide +kernel
theorem dX2_remember_8 : decode cX2_remember 8 = .ok (.aaload, 1) := by decide +kernel
theorem dX2_remember_9 : decode cX2_remember 9 = .ok (.aload_n 1, 1) := by decide +kernel
theorem dX2_remember_10 : decode cX2_remember 10 = .ok (.invokevirtual 30, 3) := by decide +kernel
theorem dX2_remember_13 : decode cX2_remember 13 = .ok (.aload_n 0, 1) := by decide +kernel
theorem dX2_remember_14 : decode cX2_remember 14 = .ok (.getfield 15, 3) := by decide +kernel
theorem dX2_remember_17 : decode cX2_remember 17 = .ok (.aload_n 0, 1) := by decide +kernel
theorem dX2_remember_18 : decode cX2_remember 18 = .ok (.getfield 26, 3) := by decide +kernel
theorem dX2_remember_21 : decode cX2_remember 21 = .ok (.aaload, 1) := by decide +kernel
theorem dX2_remember_22 : decode cX2_remember 22 = .ok (.aload_n 2, 1) := by decide +kernel
theorem dX2_remember_23 : decode cX2_remember 23 = .ok (.invokevirtual 30, 3) := by decide +kernel
theorem dX2_remember_26 : decode cX2_remember 26 = .ok (.aload_n 0, 1) := by decide +kernel
theorem dX2_remember_27 : decode cX2_remember 27 = .ok (.getfield 18, 3) := by decide +kernel
theorem dX2_remember_30 : decode cX2_remember 30 = .ok (.aload_n 0, 1) := by decide +kernel
theorem dX2_remember_31 : decode cX2_remember 31 = .ok (.getfield 26, 3) := by decide +kernel
theorem dX2_remember_34 : decode cX2_remember 34 = .ok (.iload_n 3, 1) := by decide +kernel
theorem dX2_remember_35 : decode cX2_remember 35 = .ok (.iastore, 1) := by decide +kernel
theorem dX2_remember_36 : decode cX2_remember 36 = .ok (.aload_n 0, 1) := by decide +kernel
theorem dX2_remember_37 : decode cX2_remember 37 = .ok (.aload_n 0, 1) := by decide +kernel
theorem dX2_remember_38 : decode cX2_remember 38 = .ok (.getfield 26, 3) := by decide +kernel
theorem dX2_remember_41 : decode cX2_remember 41 = .ok (.iconst 1, 1) := by decide +kernel
theorem dX2_remember_42 : decode cX2_remember 42 = .ok (.iadd, 1) := by decide +kernel
theorem dX2_remember_43 : decode cX2_remember 43 = .ok (.bipush 10, 2) := by decide +kernel
theorem dX2_remember_45 : decode cX2_remember 45 = .ok (.if_icmp .ge 12, 3) := by decide +kernel
theorem dX2_remember_48 : decode cX2_remember 48 = .ok (.aload_n 0, 1) := by decide +kernel
theorem dX2_remember_49 : decode cX2_remember 49 = .ok (.getfield 26, 3) := by decide +kernel
theorem dX2_remember_52 : decode cX2_remember 52 = .ok (.iconst 1, 1) := by decide +kernel
theorem dX2_remember_53 : decode cX2_remember 53 = .ok (.iadd, 1) := by decide +kernel
theorem dX2_remember_54 : decode cX2_remember 54 = .ok (.goto 4, 3) := by decide +kernel
theorem dX2_remember_57 : decode cX2_remember 57 = .ok (.iconst 0, 1) := by decide +kernel
theorem dX2_remember_58 : decode cX2_remember 58 = .ok (.putfield 26, 3) := by decide +kernel
theorem dX2_remember_61 : decode cX2_remember 61 = .ok (.aload_n 0, 1) := by decide +kernel
theorem dX2_remember_62 : decode cX2_remember 62 = .ok (.aload_n 0, 1) := by decide +kernel
theorem dX2_remember_63 : decode cX2_remember 63 = .ok (.getfield 22, 3) := by decide +kernel
theorem dX2_remember_66 : decode cX2_remember 66 = .ok (.iconst 1, 1) := by decide +kernel
theorem dX2_remember_67 : decode cX2_remember 67 = .ok (.iadd, 1) := by decide +kernel
theorem dX2_remember_68 : decode cX2_remember 68 = .ok (.bipush 10, 2) := by decide +kernel
theorem dX2_remember_70 : decode cX2_remember 70 = .ok (.invokestatic 34, 3) := by decide +kernel
theorem dX2_remember_73 : decode cX2_remember 73 = .ok (.putfield 22, 3) := by decide +kernel
theorem dX2_remember_76 : decode cX2_remember 76 = .ok (.return_, 1) := by decide +kernel
theorem dX3_init_0 : decode cX3_init 0 = .ok (.aload_n 0, 1) := by decide +kernel
theorem dX3_init_1 : decode cX3_init 1 = .ok (.invokespecial 3, 3) := by decide +kernel
theorem dX3_init_4 : decode cX3_init 4 = .ok (.aload_n 0, 1) := by decide +kernel
theorem dX3_init_5 : decode cX3_init 5 = .ok (.bipush 64, 2) := by decide +kernel
theorem dX3_init_7 : decode cX3_init 7 = .ok (.newarray .char, 2) := by decide +kernel
theorem dX3_init_9 : decode cX3_init 9 = .ok (.putfield 9, 3) := by decide +kernel
theorem dX3_init_12 : decode cX3_init 12 = .ok (.aload_n 0, 1) := by decide +kernel
theorem dX3_init_13 : decode cX3_init 13 = .ok (.iconst 0, 1) := by decide +kernel
theorem dX3_init_14 : decode cX3_init 14 = .ok (.putfield 15, 3) := by decide +kernel
theorem dX3_init_17 : decode cX3_init 17 = .ok (.return_, 1) := by decide +kernel
theorem dX4_init_0 : decode cX4_init 0 = .ok (.aload_n 0, 1) := by decide +kernel
theorem dX4_init_1 : decode cX4_init 1 = .ok (.invokespecial 3, 3) := by decide +kernel
theorem dX4_init_4 : decode cX4_init 4 = .ok (.aload_n 0, 1) := by decide +kernel
theorem dX4_init_5 : decode cX4_init 5 = .ok (.bipush 8, 2) := by decide +kernel
theorem dX4_init_7 : decode cX4_init 7 = .ok (.newarray .int, 2) := by decide +kernel
theorem dX4_init_9 : decode cX4_init 9 = .ok (.putfield 9, 3) := by decide +kernel
theorem dX4_init_12 : decode cX4_init 12 = .ok (.aload_n 0, 1) := by decide +kernel
theorem dX4_init_13 : decode cX4_init 13 = .ok (.bipush 8, 2) := by decide +kernel
theorem dX4_init_15 : decode cX4_init 15 = .ok (.newarray .int, 2) := by decide +kernel
theorem dX4_init_17 : decode cX4_init 17 = .ok (.putfield 15, 3) := by decide +kernel
theorem dX4_init_20 : decode cX4_init 20 = .ok (.aload_n 0, 1) := by decide +kernel
theorem dX4_init_21 : decode cX4_init 21 = .ok (.iconst 0, 1) := by decide +kernel
theorem dX4_init_22 : decode cX4_init 22 = .ok (.putfield 18, 3) := by decide +kernel
theorem dX4_init_25 : decode cX4_init 25 = .ok (.return_, 1) := by decide +kernel
theorem dX4_find_0 : decode cX4_find 0 = .ok (.aload_n 0, 1) := by decide +kernel
theorem dX4_find_1 : decode cX4_find 1 = .ok (.aload_n 1, 1) := by decide +kernel
theorem dX4_find_2 : decode cX4_find 2 = .ok (.invokevirtual 22, 3) := by decide +kernel
theorem dX4_find_5 : decode cX4_find 5 = .ok (.putfield 18, 3) := by decide +kernel
theorem dX4_find_8 : decode cX4_find 8 = .ok (.iconst 0, 1) := by decide +kernel
theorem dX4_find_9 : decode cX4_find 9 = .ok (.istore_n 2, 1) := by decide +kernel
theorem dX4_find_10 : decode cX4_find 10 = .ok (.iload_n 2, 1) := by decide +kernel
theorem dX4_find_11 : decode cX4_find 11 = .ok (.aload_n 0, 1) := by decide +kernel
theorem dX4_find_12 : decode cX4_find 12 = .ok (.getfield 18, 3) := by decide +kernel
theorem dX4_find_15 : decode cX4_find 15 = .ok (.if_icmp .ge 16, 3) := by decide +kernel
theorem dX4_find_18 : decode cX4_find 18 = .ok (.aload_n 0, 1) := by decide +kernel
theorem dX4_find_19 : decode cX4_find 19 = .ok (.getfield 9, 3) := by decide +kernel
theorem dX4_find_22 : decode cX4_find 22 = .ok (.iload_n 2, 1) := by decide +kernel
theorem dX4_find_23 : decode cX4_find 23 = .ok (.iload_n 2, 1) := by decide +kernel
theorem dX4_find_24 : decode cX4_find 24 = .ok (.iastore, 1) := by decide +kernel
theorem dX4_find_25 : decode cX4_find 25 = .ok (.iinc 2 1, 3) := by decide +kernel
theorem dX4_find_28 : decode cX4_find 28 = .ok (.goto (-18), 3) := by decide +kernel
theorem dX4_find_31 : decode cX4_find 31 = .ok (.iconst 0, 1) := by decide +kernel
theorem dX4_find_32 : decode cX4_find 32 = .ok (.istore_n 2, 1) := by decide +kernel
theorem dX4_find_33 : decode cX4_find 33 = .ok (.iload_n 2, 1) := by decide +kernel
theorem dX4_find_34 : decode cX4_find 34 = .ok (.aload_n 0, 1) := by decide +kernel
theorem dX4_find_35 : decode cX4_find 35 = .ok (.getfield 18, 3) := by decide +kernel
theorem dX4_find_38 : decode cX4_find 38 = .ok (.if_icmp .ge 52, 3) := by decide +kernel
theorem dX4_find_41 : decode cX4_find 41 = .ok (.iload_n 2, 1) := by decide +kernel
theorem dX4_find_42 : decode cX4_find 42 = .ok (.iconst 1, 1) := by decide +kernel
theorem dX4_find_43 : decode cX4_find 43 = .ok (.iadd, 1) := by decide +kernel
theorem dX4_find_44 : decode cX4_find 44 = .ok (.istore_n 3, 1) := by decide +kernel
theorem dX4_find_45 : decode cX4_find 45 = .ok (.iload_n 3, 1) := by decide +kernel
theorem dX4_find_46 : decode cX4_find 46 = .ok (.aload_n 0, 1) := by decide +kernel
theorem dX4_find_47 : decode cX4_find 47 = .ok (.getfield 18, 3) := by decide +kernel
theorem dX4_find_50 : decode cX4_find 50 = .ok (.if_icmp .ge 34, 3) := by decide +kernel
theorem dX4_find_53 : decode cX4_find 53 = .ok (.aload_n 1, 1) := by decide +kernel
theorem dX4_find_54 : decode cX4_find 54 = .ok (.iload_n 2, 1) := by decide +kernel
theorem dX4_find_55 : decode cX4_find 55 = .ok (.iload_n 3, 1) := by decide +kernel
theorem dX4_find_56 : decode cX4_find 56 = .ok (.invokevirtual 28, 3) := by decide +kernel
theorem dX4_find_59 : decode cX4_find 59 = .ok (.ifCond .le 19, 3) := by decide +kernel
theorem dX4_find_62 : decode cX4_find 62 = .ok (.aload_n 0, 1) := by decide +kernel
theorem dX4_find_63 : decode cX4_find 63 = .ok (.aload_n 0, 1) := by decide +kernel
theorem dX4_find_64 : decode cX4_find 64 = .ok (.getfield 9, 3) := by decide +kernel
theorem dX4_find_67 : decode cX4_find 67 = .ok (.iload_n 2, 1) := by decide +kernel
theorem dX4_find_68 : decode cX4_find 68 = .ok (.iaload, 1) := by decide +kernel
theorem dX4_find_69 : decode cX4_find 69 = .ok (.aload_n 0, 1) := by decide +kernel
theorem dX4_find_70 : decode cX4_find 70 = .ok (.getfield 9, 3) := by decide +kernel
theorem dX4_find_73 : decode cX4_find 73 = .ok (.iload_n 3, 1) := by decide +kernel
theorem dX4_find_74 : decode cX4_find 74 = .ok (.iaload, 1) := by decide +kernel
theorem dX4_find_75 : decode cX4_find 75 = .ok (.invokevirtual 32, 3) := by decide +kernel
theorem dX4_find_78 : decode cX4_find 78 = .ok (.iinc 3 1, 3) := by decide +kernel
theorem dX4_find_81 : decode cX4_find 81 = .ok (.goto (-36), 3) := by decide +kernel
theorem dX4_find_84 : decode cX4_find 84 = .ok (.iinc 2 1, 3) := by decide +kernel
theorem dX4_find_87 : decode cX4_find 87 = .ok (.goto (-54), 3) := by decide +kernel
theorem dX4_find_90 : decode cX4_find 90 = .ok (.return_, 1) := by decide +kernel
theorem dX4_merge_0 : decode cX4_merge 0 = .ok (.iload_n 1, 1) := by decide +kernel
theorem dX4_merge_1 : decode cX4_merge 1 = .ok (.iload_n 2, 1) := by decide +kernel
theorem dX4_merge_2 : decode cX4_merge 2 = .ok (.invokestatic 36, 3) := by decide +kernel
theorem dX4_merge_5 : decode cX4_merge 5 = .ok (.istore_n 3, 1) := by decide +kernel
theorem dX4_merge_6 : decode cX4_merge 6 = .ok (.iload_n 1, 1) := by decide +kernel
theorem dX4_merge_7 : decode cX4_merge 7 = .ok (.iload_n 2, 1) := by decide +kernel
theorem dX4_merge_8 : decode cX4_merge 8 = .ok (.invokestatic 41, 3) := by decide +kernel
theorem dX4_merge_11 : decode cX4_merge 11 = .ok (.istore 4, 2) := by decide +kernel
theorem dX4_merge_13 : decode cX4_merge 13 = .ok (.iload_n 3, 1) := by decide +kernel
theorem dX4_merge_14 : decode cX4_merge 14 = .ok (.istore 5, 2) := by decide +kernel
theorem dX4_merge_16 : decode cX4_merge 16 = .ok (.iload 5, 2) := by decide +kernel
theorem dX4_merge_18 : decode cX4_merge 18 = .ok (.aload_n 0, 1) := by decide +kernel
theorem dX4_merge_19 : decode cX4_merge 19 = .ok (.getfield 18, 3) := by decide +kernel
theorem dX4_merge_22 : decode cX4_merge 22 = .ok (.if_icmp .ge 35, 3) := by decide +kernel
theorem dX4_merge_25 : decode cX4_merge 25 = .ok (.iload_n 3, 1) := by decide +kernel
theorem dX4_merge_26 : decode cX4_merge 26 = .ok (.iload 4, 2) := by decide +kernel
theorem dX4_merge_28 : decode cX4_merge 28 = .ok (.if_icmp .eq 29, 3) := by decide +kernel
theorem dX4_merge_31 : decode cX4_merge 31 = .ok (.aload_n 0, 1) := by decide +kernel
theorem dX4_merge_32 : decode cX4_merge 32 = .ok (.getfield 9, 3) := by decide +kernel
theorem dX4_merge_35 : decode cX4_merge 35 = .ok (.iload 5, 2) := by decide +kernel
theorem dX4_merge_37 : decode cX4_merge 37 = .ok (.iaload, 1) := by decide +kernel
theorem dX4_merge_38 : decode cX4_merge 38 = .ok (.iload_n 3, 1) := by decide +kernel
theorem dX4_merge_39 : decode cX4_merge 39 = .ok (.if_icmp .ne 12, 3) := by decide +kernel
theorem dX4_merge_42 : decode cX4_merge 42 = .ok (.aload_n 0, 1) := by decide +kernel
theorem dX4_merge_43 : decode cX4_merge 43 = .ok (.getfield 9, 3) := by decide +kernel
theorem dX4_merge_46 : decode cX4_merge 46 = .ok (.iload 5, 2) := by decide +kernel
theorem dX4_merge_48 : decode cX4_merge 48 = .ok (.iload 4, 2) := by decide +kernel
theorem dX4_merge_50 : decode cX4_merge 50 = .ok (.iastore, 1) := by decide +kernel
theorem dX4_merge_51 : decode cX4_merge 51 = .ok (.iinc 5 1, 3) := by decide +kernel
theorem dX4_merge_54 : decode cX4_merge 54 = .ok (.goto (-38), 3) := by decide +kernel
theorem dX4_merge_57 : decode cX4_merge 57 = .ok (.return_, 1) := by decide +kernel
theorem dX4_count_0 : decode cX4_count 0 = .ok (.aload_n 0, 1) := by decide +kernel
theorem dX4_count_1 : decode cX4_count 1 = .ok (.aload_n 0, 1) := by decide +kernel
theorem dX4_count_2 : decode cX4_count 2 = .ok (.getfield 18, 3) := by decide +kernel
theorem dX4_count_5 : decode cX4_count 5 = .ok (.invokevirtual 44, 3) := by decide +kernel
theorem dX4_count_8 : decode cX4_count 8 = .ok (.ireturn, 1) := by decide +kernel
theorem dX4_countBefore_0 : decode cX4_countBefore 0 = .ok (.iconst 0, 1) := by decide +kernel
theorem dX4_countBefore_1 : decode cX4_countBefore 1 = .ok (.istore_n 2, 1) := by decide +kernel
theorem dX4_countBefore_2 : decode cX4_countBefore 2 = .ok (.iconst 0, 1) := by decide +kernel
theorem dX4_countBefore_3 : decode cX4_countBefore 3 = .ok (.istore_n 3, 1) := by decide +kernel
theorem dX4_countBefore_4 : decode cX4_countBefore 4 = .ok (.iload_n 3, 1) := by decide +kernel
theorem dX4_countBefore_5 : decode cX4_countBefore 5 = .ok (.iload_n 1, 1) := by decide +kernel
theorem dX4_countBefore_6 : decode cX4_countBefore 6 = .ok (.if_icmp .ge 30, 3) := by decide +kernel
theorem dX4_countBefore_9 : decode cX4_countBefore 9 = .ok (.iload_n 3, 1) := by decide +kernel
theorem dX4_countBefore_10 : decode cX4_countBefore 10 = .ok (.aload_n 0, 1) := by decide +kernel
theorem dX4_countBefore_11 : decode cX4_countBefore 11 = .ok (.getfield 18, 3) := by decide +kernel
theorem dX4_countBefore_14 : decode cX4_countBefore 14 = .ok (.if_icmp .ge 22, 3) := by decide +kernel
theorem dX4_countBefore_17 : decode cX4_countBefore 17 = .ok (.aload_n 0, 1) := by decide +kernel
theorem dX4_countBefore_18 : decode cX4_countBefore 18 = .ok (.getfield 9, 3) := by decide +kernel
theorem dX4_countBefore_21 : decode cX4_countBefore 21 = .ok (.iload_n 3, 1) := by decide +kernel
theorem dX4_countBefore_22 : decode cX4_countBefore 22 = .ok (.iaload, 1) := by decide +kernel
theorem dX4_countBefore_23 : decode cX4_countBefore 23 = .ok (.iload_n 3, 1) := by decide +kernel
theorem dX4_countBefore_24 : decode cX4_countBefore 24 = .ok (.if_icmp .ne 6, 3) := by decide +kernel
theorem dX4_countBefore_27 : decode cX4_countBefore 27 = .ok (.iinc 2 1, 3) := by decide +kernel
theorem dX4_countBefore_30 : decode cX4_countBefore 30 = .ok (.iinc 3 1, 3) := by decide +kernel
theorem dX4_countBefore_33 : decode cX4_countBefore 33 = .ok (.goto (-29), 3) := by decide +kernel
theorem dX4_countBefore_36 : decode cX4_countBefore 36 = .ok (.iload_n 2, 1) := by decide +kernel
theorem dX4_countBefore_37 : decode cX4_countBefore 37 = .ok (.ireturn, 1) := by decide +kernel
theorem dX5_init_0 : decode cX5_init 0 = .ok (.aload_n 0, 1) := by decide +kernel
theorem dX5_init_1 : decode cX5_init 1 = .ok (.invokespecial 3, 3) := by decide +kernel
theorem dX5_init_4 : decode cX5_init 4 = .ok (.aload_n 0, 1) := by decide +kernel
theorem dX5_init_5 : decode cX5_init 5 = .ok (.sipush 400, 3) := by decide +kernel
theorem dX5_init_8 : decode cX5_init 8 = .ok (.newarray .byte, 2) := by decide +kernel
theorem dX5_init_10 : decode cX5_init 10 = .ok (.putfield 11, 3) := by decide +kernel
theorem dX5_init_13 : decode cX5_init 13 = .ok (.aload_n 0, 1) := by decide +kernel
theorem dX5_init_14 : decode cX5_init 14 = .ok (.new 15, 3) := by decide +kernel
theorem dX5_init_17 : decode cX5_init 17 = .ok (.dup, 1) := by decide +kernel
theorem dX5_init_18 : decode cX5_init 18 = .ok (.invokespecial 17, 3) := by decide +kernel
theorem dX5_init_21 : decode cX5_init 21 = .ok (.putfield 18, 3) := by decide +kernel
theorem dX5_init_24 : decode cX5_init 24 = .ok (.aload_n 0, 1) := by decide +kernel
theorem dX5_init_25 : decode cX5_init 25 = .ok (.new 15, 3) := by decide +kernel
theorem dX5_init_28 : decode cX5_init 28 = .ok (.dup, 1) := by decide +kernel
theorem dX5_init_29 : decode cX5_init 29 = .ok (.invokespecial 17, 3) := by decide +kernel
theorem dX5_init_32 : decode cX5_init 32 = .ok (.putfield 22, 3) := by decide +kernel
theorem dX5_init_35 : decode cX5_init 35 = .ok (.aload_n 0, 1) := by decide +kernel
theorem dX5_init_36 : decode cX5_init 36 = .ok (.new 25, 3) := by decide +kernel
theorem dX5_init_39 : decode cX5_init 39 = .ok (.dup, 1) := by decide +kernel
theorem dX5_init_40 : decode cX5_init 40 = .ok (.invokespecial 27, 3) := by decide +kernel
theorem dX5_init_43 : decode cX5_init 43 = .ok (.putfield 28, 3) := by decide +kernel
theorem dX5_init_46 : decode cX5_init 46 = .ok (.aload_n 0, 1) := by decide +kernel
theorem dX5_init_47 : decode cX5_init 47 = .ok (.iconst 0, 1) := by decide +kernel
theorem dX5_init_48 : decode cX5_init 48 = .ok (.putfield 32, 3) := by decide +kernel
theorem dX5_init_51 : decode cX5_init 51 = .ok (.aload_n 0, 1) := by decide +kernel
theorem dX5_init_52 : decode cX5_init 52 = .ok (.iconst 0, 1) := by decide +kernel
theorem dX5_init_53 : decode cX5_init 53 = .ok (.putfield 36, 3) := by decide +kernel
theorem dX5_init_56 : decode cX5_init 56 = .ok (.aload_n 0, 1) := by decide +kernel
theorem dX5_init_57 : decode cX5_init 57 = .ok (.iconst 0, 1) := by decide +kernel
theorem dX5_init_58 : decode cX5_init 58 = .ok (.putfield 39, 3) := by decide +kernel
theorem dX5_init_61 : decode cX5_init 61 = .ok (.aload_n 0, 1) := by decide +kernel
theorem dX5_init_62 : decode cX5_init 62 = .ok (.iconst 0, 1) := by decide +kernel
theorem dX5_init_63 : decode cX5_init 63 = .ok (.putfield 42, 3) := by decide +kernel
theorem dX5_init_66 : decode cX5_init 66 = .ok (.aload_n 0, 1) := by decide +kernel
theorem dX5_init_67 : decode cX5_init 67 = .ok (.iconst (-1), 1) := by decide +kernel
theorem dX5_init_68 : decode cX5_init 68 = .ok (.putfield 45, 3) := by decide +kernel
theorem dX5_init_71 : decode cX5_init 71 = .ok (.aload_n 0, 1) := by decide +kernel
theorem dX5_init_72 : decode cX5_init 72 = .ok (.iconst 0, 1) := by decide +kernel
theorem dX5_init_73 : decode cX5_init 73 = .ok (.putfield 48, 3) := by decide +kernel
theorem dX5_init_76 : decode cX5_init 76 = .ok (.aload_n 0, 1) := by decide +kernel
theorem dX5_init_77 : decode cX5_init 77 = .ok (.iconst 0, 1) := by decide +kernel
theorem dX5_init_78 : decode cX5_init 78 = .ok (.putfield 51, 3) := by decide +kernel
theorem dX5_init_81 : decode cX5_init 81 = .ok (.aload_n 0, 1) := by decide +kernel
theorem dX5_init_82 : decode cX5_init 82 = .ok (.iconst 0, 1) := by decide +kernel
theorem dX5_init_83 : decode cX5_init 83 = .ok (.putfield 54, 3) := by decide +kernel
theorem dX5_init_86 : decode cX5_init 86 = .ok (.aload_n 0, 1) := by decide +kernel
theorem dX5_init_87 : decode cX5_init 87 = .ok (.iconst 0, 1) := by decide +kernel
theorem dX5_init_88 : decode cX5_init 88 = .ok (.putfield 57, 3) := by decide +kernel
theorem dX5_init_91 : decode cX5_init 91 = .ok (.return_, 1) := by decide +kernel
theorem dX5_hasRoom_0 : decode cX5_hasRoom 0 = .ok (.aload_n 0, 1) := by decide +kernel
theorem dX5_hasRoom_1 : decode cX5_hasRoom 1 = .ok (.getfield 36, 3) := by decide +kernel
theorem dX5_hasRoom_4 : decode cX5_hasRoom 4 = .ok (.bipush 20, 2) := by decide +kernel
theorem dX5_hasRoom_6 : decode cX5_hasRoom 6 = .ok (.iadd, 1) := by decide +kernel
theorem dX5_hasRoom_7 : decode cX5_hasRoom 7 = .ok (.sipush 400, 3) := by decide +kernel
theorem dX5_hasRoom_10 : decode cX5_hasRoom 10 = .ok (.if_icmp .gt 7, 3) := by decide +kernel
theorem dX5_hasRoom_13 : decode cX5_hasRoom 13 = .ok (.iconst 1, 1) := by decide +kernel
theorem dX5_hasRoom_14 : decode cX5_hasRoom 14 = .ok (.goto 4, 3) := by decide +kernel
theorem dX5_hasRoom_17 : decode cX5_hasRoom 17 = .ok (.iconst 0, 1) := by decide +kernel
theorem dX5_hasRoom_18 : decode cX5_hasRoom 18 = .ok (.ireturn, 1) := by decide +kernel
theorem dX5_append_0 : decode cX5_append 0 = .ok (.bipush 24, 2) := by decide +kernel
theorem dX5_append_2 : decode cX5_append 2 = .ok (.istore_n 2, 1) := by decide +kernel
theorem dX5_append_3 : decode cX5_append 3 = .ok (.iload_n 2, 1) := by decide +kernel
theorem dX5_append_4 : decode cX5_append 4 = .ok (.ifCond .lt 42, 3) := by decide +kernel
theorem dX5_append_7 : decode cX5_append 7 = .ok (.aload_n 0, 1) := by decide +kernel
theorem dX5_append_8 : decode cX5_append 8 = .ok (.getfield 36, 3) := by decide +kernel
theorem dX5_append_11 : decode cX5_append 11 = .ok (.sipush 400, 3) := by decide +kernel
theorem dX5_append_14 : decode cX5_append 14 = .ok (.if_icmp .ge 32, 3) := by decide +kernel
theorem dX5_append_17 : decode cX5_append 17 = .ok (.aload_n 0, 1) := by decide +kernel
theorem dX5_append_18 : decode cX5_append 18 = .ok (.getfield 11, 3) := by decide +kernel
theorem dX5_append_21 : decode cX5_append 21 = .ok (.aload_n 0, 1) := by decide +kernel
theorem dX5_append_22 : decode cX5_append 22 = .ok (.getfield 36, 3) := by decide +kernel
theorem dX5_append_25 : decode cX5_append 25 = .ok (.iload_n 1, 1) := by decide +kernel
theorem dX5_append_26 : decode cX5_append 26 = .ok (.iload_n 2, 1) := by decide +kernel
theorem dX5_append_27 : decode cX5_append 27 = .ok (.iushr, 1) := by decide +kernel
theorem dX5_append_28 : decode cX5_append 28 = .ok (.i2b, 1) := by decide +kernel
theorem dX5_append_29 : decode cX5_append 29 = .ok (.bastore, 1) := by decide +kernel
theorem dX5_append_30 : decode cX5_append 30 = .ok (.aload_n 0, 1) := by decide +kernel
theorem dX5_append_31 : decode cX5_append 31 = .ok (.dup, 1) := by decide +kernel
theorem dX5_append_32 : decode cX5_append 32 = .ok (.getfield 36, 3) := by decide +kernel
theorem dX5_append_35 : decode cX5_append 35 = .ok (.iconst 1, 1) := by decide +kernel
theorem dX5_append_36 : decode cX5_append 36 = .ok (.iadd, 1) := by decide +kernel
theorem dX5_append_37 : decode cX5_append 37 = .ok (.putfield 36, 3) := by decide +kernel
theorem dX5_append_40 : decode cX5_append 40 = .ok (.iinc 2 (-8), 3) := by decide +kernel
theorem dX5_append_43 : decode cX5_append 43 = .ok (.goto (-40), 3) := by decide +kernel
theorem dX5_append_46 : decode cX5_append 46 = .ok (.return_, 1) := by decide +kernel
theorem dX5_fedBytes_0 : decode cX5_fedBytes 0 = .ok (.aload_n 0, 1) := by decide +kernel
theorem dX5_fedBytes_1 : decode cX5_fedBytes 1 = .ok (.getfield 36, 3) := by decide +kernel
theorem dX5_fedBytes_4 : decode cX5_fedBytes 4 = .ok (.ireturn, 1) := by decide +kernel
theorem dX5_kindOfError_0 : decode cX5_kindOfError 0 = .ok (.aload_n 0, 1) := by decide +kernel
theorem dX5_kindOfError_1 : decode cX5_kindOfError 1 = .ok (.getfield 42, 3) := by decide +kernel
theorem dX5_kindOfError_4 : decode cX5_kindOfError 4 = .ok (.ireturn, 1) := by decide +kernel
theorem dX5_readGraph_0 : decode cX5_readGraph 0 = .ok (.aload_n 0, 1) := by decide +kernel
theorem dX5_readGraph_1 : decode cX5_readGraph 1 = .ok (.getfield 18, 3) := by decide +kernel
theorem dX5_readGraph_4 : decode cX5_readGraph 4 = .ok (.areturn, 1) := by decide +kernel
theorem dX5_readTarget_0 : decode cX5_readTarget 0 = .ok (.aload_n 0, 1) := by decide +kernel
theorem dX5_readTarget_1 : decode cX5_readTarget 1 = .ok (.getfield 22, 3) := by decide +kernel
theorem dX5_readTarget_4 : decode cX5_readTarget 4 = .ok (.areturn, 1) := by decide +kernel
theorem dX5_readMode_0 : decode cX5_readMode 0 = .ok (.aload_n 0, 1) := by decide +kernel
theorem dX5_readMode_1 : decode cX5_readMode 1 = .ok (.getfield 32, 3) := by decide +kernel
theorem dX5_readMode_4 : decode cX5_readMode 4 = .ok (.ireturn, 1) := by decide +kernel
theorem dX5_readText_0 : decode cX5_readText 0 = .ok (.aload_n 0, 1) := by decide +kernel
theorem dX5_readText_1 : decode cX5_readText 1 = .ok (.iload_n 1, 1) := by decide +kernel
theorem dX5_readText_2 : decode cX5_readText 2 = .ok (.aload_n 0, 1) := by decide +kernel
theorem dX5_readText_3 : decode cX5_readText 3 = .ok (.getfield 36, 3) := by decide +kernel
theorem dX5_readText_6 : decode cX5_readText 6 = .ok (.invokestatic 60, 3) := by decide +kernel
theorem dX5_readText_9 : decode cX5_readText 9 = .ok (.putfield 39, 3) := by decide +kernel
theorem dX5_readText_12 : decode cX5_readText 12 = .ok (.aload_n 0, 1) := by decide +kernel
theorem dX5_readText_13 : decode cX5_readText 13 = .ok (.iconst 0, 1) := by decide +kernel
theorem dX5_readText_14 : decode cX5_readText 14 = .ok (.putfield 36, 3) := by decide +kernel
theorem dX5_readText_17 : decode cX5_readText 17 = .ok (.aload_n 0, 1) := by decide +kernel
theorem dX5_readText_18 : decode cX5_readText 18 = .ok (.iconst 0, 1) := by decide +kernel
theorem dX5_readText_19 : decode cX5_readText 19 = .ok (.putfield 54, 3) := by decide +kernel
theorem dX5_readText_22 : decode cX5_readText 22 = .ok (.aload_n 0, 1) := by decide +kernel
theorem dX5_readText_23 : decode cX5_readText 23 = .ok (.iconst 0, 1) := by decide +kernel
theorem dX5_readText_24 : decode cX5_readText 24 = .ok (.putfield 32, 3) := by decide +kernel
theorem dX5_readText_27 : decode cX5_readText 27 = .ok (.aload_n 0, 1) := by decide +kernel
theorem dX5_readText_28 : decode cX5_readText 28 = .ok (.iconst 0, 1) := by decide +kernel
theorem dX5_readText_29 : decode cX5_readText 29 = .ok (.putfield 42, 3) := by decide +kernel
theorem dX5_readText_32 : decode cX5_readText 32 = .ok (.aload_n 0, 1) := by decide +kernel
theorem dX5_readText_33 : decode cX5_readText 33 = .ok (.iconst (-1), 1) := by decide +kernel
theorem dX5_readText_34 : decode cX5_readText 34 = .ok (.putfield 45, 3) := by decide +kernel
theorem dX5_readText_37 : decode cX5_readText 37 = .ok (.aload_n 0, 1) := by decide +kernel
theorem dX5_readText_38 : decode cX5_readText 38 = .ok (.invokevirtual 66, 3) := by decide +kernel
theorem dX5_readText_41 : decode cX5_readText 41 = .ok (.aload_n 0, 1) := by decide +kernel
theorem dX5_readText_42 : decode cX5_readText 42 = .ok (.invokevirtual 69, 3) := by decide +kernel
theorem dX5_readText_45 : decode cX5_readText 45 = .ok (.istore_n 2, 1) := by decide +kernel
theorem dX5_readText_46 : decode cX5_readText 46 = .ok (.iconst 0, 1) := by decide +kernel
theorem dX5_readText_47 : decode cX5_readText 47 = .ok (.istore_n 3, 1) := by decide +kernel
theorem dX5_readText_48 : decode cX5_readText 48 = .ok (.iload_n 3, 1) := by decide +kernel
theorem dX5_readText_49 : decode cX5_readText 49 = .ok (.sipush 400, 3) := by decide +kernel
theorem dX5_readText_52 : decode cX5_readText 52 = .ok (.if_icmp .ge 44, 3) := by decide +kernel
theorem dX5_readText_55 : decode cX5_readText 55 = .ok (.iload_n 2, 1) := by decide +kernel
theorem dX5_readText_56 : decode cX5_readText 56 = .ok (.ifCond .eq 40, 3) := by decide +kernel
theorem dX5_readText_59 : decode cX5_readText 59 = .ok (.aload_n 0, 1) := by decide +kernel
theorem dX5_readText_60 : decode cX5_readText 60 = .ok (.getfield 48, 3) := by decide +kernel
theorem dX5_readText_63 : decode cX5_readText 63 = .ok (.ifCond .eq 33, 3) := by decide +kernel
theorem dX5_readText_66 : decode cX5_readText 66 = .ok (.aload_n 0, 1) := by decide +kernel
theorem dX5_readText_67 : decode cX5_readText 67 = .ok (.invokevirtual 66, 3) := by decide +kernel
theorem dX5_readText_70 : decode cX5_readText 70 = .ok (.aload_n 0, 1) := by decide +kernel
theorem dX5_readText_71 : decode cX5_readText 71 = .ok (.getfield 48, 3) := by decide +kernel
theorem dX5_readText_74 : decode cX5_readText 74 = .ok (.ifCond .eq 10, 3) := by decide +kernel
theorem dX5_readText_77 : decode cX5_readText 77 = .ok (.aload_n 0, 1) := by decide +kernel
theorem dX5_readText_78 : decode cX5_readText 78 = .ok (.invokevirtual 73, 3) := by decide +kernel
theorem dX5_readText_81 : decode cX5_readText 81 = .ok (.ifCond .eq 7, 3) := by decide +kernel
theorem dX5_readText_84 : decode cX5_readText 84 = .ok (.iconst 1, 1) := by decide +kernel
theorem dX5_readText_85 : decode cX5_readText 85 = .ok (.goto 4, 3) := by decide +kernel
theorem dX5_readText_88 : decode cX5_readText 88 = .ok (.iconst 0, 1) := by decide +kernel
theorem dX5_readText_89 : decode cX5_readText 89 = .ok (.istore_n 2, 1) := by decide +kernel
theorem dX5_readText_90 : decode cX5_readText 90 = .ok (.iinc 3 1, 3) := by decide +kernel
theorem dX5_readText_93 : decode cX5_readText 93 = .ok (.goto (-45), 3) := by decide +kernel
theorem dX5_readText_96 : decode cX5_readText 96 = .ok (.iload_n 2, 1) := by decide +kernel
theorem dX5_readText_97 : decode cX5_readText 97 = .ok (.ireturn, 1) := by decide +kernel
theorem dX5_readFirst_0 : decode cX5_readFirst 0 = .ok (.aload_n 0, 1) := by decide +kernel
theorem dX5_readFirst_1 : decode cX5_readFirst 1 = .ok (.getfield 48, 3) := by decide +kernel
theorem dX5_readFirst_4 : decode cX5_readFirst 4 = .ok (.ifCond .ne 10, 3) := by decide +kernel
theorem dX5_readFirst_7 : decode cX5_readFirst 7 = .ok (.aload_n 0, 1) := by decide +kernel
theorem dX5_readFirst_8 : decode cX5_readFirst 8 = .ok (.iconst 1, 1) := by decide +kernel
theorem dX5_readFirst_9 : decode cX5_readFirst 9 = .ok (.invokevirtual 76, 3) := by decide +kernel
theorem dX5_readFirst_12 : decode cX5_readFirst 12 = .ok (.iconst 1, 1) := by decide +kernel
theorem dX5_readFirst_13 : decode cX5_readFirst 13 = .ok (.ireturn, 1) := by decide +kernel
theorem dX5_readFirst_14 : decode cX5_readFirst 14 = .ok (.aload_n 0, 1) := by decide +kernel
theorem dX5_readFirst_15 : decode cX5_readFirst 15 = .ok (.ldc 80, 2) := by decide +kernel
theorem dX5_readFirst_17 : decode cX5_readFirst 17 = .ok (.invokevirtual 82, 3) := by decide +kernel
theorem dX5_readFirst_20 : decode cX5_readFirst 20 = .ok (.ifCond .eq 8, 3) := by decide +kernel
theorem dX5_readFirst_23 : decode cX5_readFirst 23 = .ok (.aload_n 0, 1) := by decide +kernel
theorem dX5_readFirst_24 : decode cX5_readFirst 24 = .ok (.invokevirtual 86, 3) := by decide +kernel
theorem dX5_readFirst_27 : decode cX5_readFirst 27 = .ok (.ireturn, 1) := by decide +kernel
theorem dX5_readFirst_28 : decode cX5_readFirst 28 = .ok (.aload_n 0, 1) := by decide +kernel
theorem dX5_readFirst_29 : decode cX5_readFirst 29 = .ok (.ldc 89, 2) := by decide +kernel
theorem dX5_readFirst_31 : decode cX5_readFirst 31 = .ok (.invokevirtual 82, 3) := by decide +kernel
theorem dX5_readFirst_34 : decode cX5_readFirst 34 = .ok (.ifCond .eq 10, 3) := by decide +kernel
theorem dX5_readFirst_37 : decode cX5_readFirst 37 = .ok (.aload_n 0, 1) := by decide +kernel
theorem dX5_readFirst_38 : decode cX5_readFirst 38 = .ok (.invokevirtual 91, 3) := by decide +kernel
theorem dX5_readFirst_41 : decode cX5_readFirst 41 = .ok (.goto 8, 3) := by decide +kernel
theorem dX5_readFirst_44 : decode cX5_readFirst 44 = .ok (.aload_n 0, 1) := by decide +kernel
theorem dX5_readFirst_45 : decode cX5_readFirst 45 = .ok (.iconst 2, 1) := by decide +kernel
theorem dX5_readFirst_46 : decode cX5_readFirst 46 = .ok (.invokevirtual 94, 3) := by decide +kernel
theorem dX5_readFirst_49 : decode cX5_readFirst 49 = .ok (.ireturn, 1) := by decide +kernel
theorem dX5_readOther_0 : decode cX5_readOther 0 = .ok (.aload_n 0, 1) := by decide +kernel
theorem dX5_readOther_1 : decode cX5_readOther 1 = .ok (.ldc 98, 2) := by decide +kernel
theorem dX5_readOther_3 : decode cX5_readOther 3 = .ok (.invokevirtual 82, 3) := by decide +kernel
theorem dX5_readOther_6 : decode cX5_readOther 6 = .ok (.ifCond .eq 12, 3) := by decide +kernel
theorem dX5_readOther_9 : decode cX5_readOther 9 = .ok (.aload_n 0, 1) := by decide +kernel
theorem dX5_readOther_10 : decode cX5_readOther 10 = .ok (.aload_n 0, 1) := by decide +kernel
theorem dX5_readOther_11 : decode cX5_readOther 11 = .ok (.getfield 18, 3) := by decide +kernel
theorem dX5_readOther_14 : decode cX5_readOther 14 = .ok (.invokevirtual 100, 3) := by decide +kernel
theorem dX5_readOther_17 : decode cX5_readOther 17 = .ok (.ireturn, 1) := by decide +kernel
theorem dX5_readOther_18 : decode cX5_readOther 18 = .ok (.aload_n 0, 1) := by decide +kernel
theorem dX5_readOther_19 : decode cX5_readOther 19 = .ok (.ldc 104, 2) := by decide +kernel
theorem dX5_readOther_21 : decode cX5_readOther 21 = .ok (.invokevirtual 82, 3) := by decide +kernel
theorem dX5_readOther_24 : decode cX5_readOther 24 = .ok (.ifCond .eq 12, 3) := by decide +kernel
theorem dX5_readOther_27 : decode cX5_readOther 27 = .ok (.aload_n 0, 1) := by decide +kernel
theorem dX5_readOther_28 : decode cX5_readOther 28 = .ok (.aload_n 0, 1) := by decide +kernel
theorem dX5_readOther_29 : decode cX5_readOther 29 = .ok (.getfield 22, 3) := by decide +kernel
theorem dX5_readOther_32 : decode cX5_readOther 32 = .ok (.invokevirtual 100, 3) := by decide +kernel
theorem dX5_readOther_35 : decode cX5_readOther 35 = .ok (.ireturn, 1) := by decide +kernel
theorem dX5_readOther_36 : decode cX5_readOther 36 = .ok (.aload_n 0, 1) := by decide +kernel
theorem dX5_readOther_37 : decode cX5_readOther 37 = .ok (.ldc 105, 2) := by decide +kernel
theorem dX5_readOther_39 : decode cX5_readOther 39 = .ok (.invokevirtual 82, 3) := by decide +kernel
theorem dX5_readOther_42 : decode cX5_readOther 42 = .ok (.ifCond .eq 10, 3) := by decide +kernel
theorem dX5_readOther_45 : decode cX5_readOther 45 = .ok (.aload_n 0, 1) := by decide +kernel
theorem dX5_readOther_46 : decode cX5_readOther 46 = .ok (.invokevirtual 106, 3) := by decide +kernel
theorem dX5_readOther_49 : decode cX5_readOther 49 = .ok (.goto 8, 3) := by decide +kernel
theorem dX5_readOther_52 : decode cX5_readOther 52 = .ok (.aload_n 0, 1) := by decide +kernel
theorem dX5_readOther_53 : decode cX5_readOther 53 = .ok (.iconst 2, 1) := by decide +kernel
theorem dX5_readOther_54 : decode cX5_readOther 54 = .ok (.invokevirtual 94, 3) := by decide +kernel
theorem dX5_readOther_57 : decode cX5_readOther 57 = .ok (.ireturn, 1) := by decide +kernel
theorem dX5_readVertices_0 : decode cX5_readVertices 0 = .ok (.aload_n 0, 1) := by decide +kernel
theorem dX5_readVertices_1 : decode cX5_readVertices 1 = .ok (.invokevirtual 66, 3) := by decide +kernel
theorem dX5_readVertices_4 : decode cX5_readVertices 4 = .ok (.aload_n 0, 1) := by decide +kernel
theorem dX5_readVertices_5 : decode cX5_readVertices 5 = .ok (.iconst 1, 1) := by decide +kernel
theorem dX5_readVertices_6 : decode cX5_readVertices 6 = .ok (.bipush 8, 2) := by decide +kernel
theorem dX5_readVertices_8 : decode cX5_readVertices 8 = .ok (.invokevirtual 109, 3) := by decide +kernel
theorem dX5_readVertices_11 : decode cX5_readVertices 11 = .ok (.ifCond .ne 5, 3) := by decide +kernel
theorem dX5_readVertices_14 : decode cX5_readVertices 14 = .ok (.iconst 0, 1) := by decide +kernel
theorem dX5_readVertices_15 : decode cX5_readVertices 15 = .ok (.ireturn, 1) := by decide +kernel
theorem dX5_readVertices_16 : decode cX5_readVertices 16 = .ok (.aload_n 0, 1) := by decide +kernel
theorem dX5_readVertices_17 : decode cX5_readVertices 17 = .ok (.aload_n 0, 1) := by decide +kernel
theorem dX5_readVertices_18 : decode cX5_readVertices 18 = .ok (.getfield 57, 3) := by decide +kernel
theorem dX5_readVertices_21 : decode cX5_readVertices 21 = .ok (.invokevirtual 76, 3) := by decide +kernel
theorem dX5_readVertices_24 : decode cX5_readVertices 24 = .ok (.aload_n 0, 1) := by decide +kernel
theorem dX5_readVertices_25 : decode cX5_readVertices 25 = .ok (.invokevirtual 66, 3) := by decide +kernel
theorem dX5_readVertices_28 : decode cX5_readVertices 28 = .ok (.aload_n 0, 1) := by decide +kernel
theorem dX5_readVertices_29 : decode cX5_readVertices 29 = .ok (.invokevirtual 113, 3) := by decide +kernel
theorem dX5_readVertices_32 : decode cX5_readVertices 32 = .ok (.ireturn, 1) := by decide +kernel
theorem dX5_readDegrees_0 : decode cX5_readDegrees 0 = .ok (.aload_n 0, 1) := by decide +kernel
theorem dX5_readDegrees_1 : decode cX5_readDegrees 1 = .ok (.invokevirtual 66, 3) := by decide +kernel
theorem dX5_readDegrees_4 : decode cX5_readDegrees 4 = .ok (.aload_n 0, 1) := by decide +kernel
theorem dX5_readDegrees_5 : decode cX5_readDegrees 5 = .ok (.getfield 28, 3) := by decide +kernel
theorem dX5_readDegrees_8 : decode cX5_readDegrees 8 = .ok (.invokevirtual 116, 3) := by decide +kernel
theorem dX5_readDegrees_11 : decode cX5_readDegrees 11 = .ok (.iconst 0, 1) := by decide +kernel
theorem dX5_readDegrees_12 : decode cX5_readDegrees 12 = .ok (.istore_n 1, 1) := by decide +kernel
theorem dX5_readDegrees_13 : decode cX5_readDegrees 13 = .ok (.iload_n 1, 1) := by decide +kernel
theorem dX5_readDegrees_14 : decode cX5_readDegrees 14 = .ok (.bipush 8, 2) := by decide +kernel
theorem dX5_readDegrees_16 : decode cX5_readDegrees 16 = .ok (.if_icmp .gt 64, 3) := by decide +kernel
theorem dX5_readDegrees_19 : decode cX5_readDegrees 19 = .ok (.iload_n 1, 1) := by decide +kernel
theorem dX5_readDegrees_20 : decode cX5_readDegrees 20 = .ok (.ifCond .eq 11, 3) := by decide +kernel
theorem dX5_readDegrees_23 : decode cX5_readDegrees 23 = .ok (.aload_n 0, 1) := by decide +kernel
theorem dX5_readDegrees_24 : decode cX5_readDegrees 24 = .ok (.getfield 48, 3) := by decide +kernel
theorem dX5_readDegrees_27 : decode cX5_readDegrees 27 = .ok (.iconst 2, 1) := by decide +kernel
theorem dX5_readDegrees_28 : decode cX5_readDegrees 28 = .ok (.if_icmp .ne 52, 3) := by decide +kernel
theorem dX5_readDegrees_31 : decode cX5_readDegrees 31 = .ok (.aload_n 0, 1) := by decide +kernel
theorem dX5_readDegrees_32 : decode cX5_readDegrees 32 = .ok (.iconst 0, 1) := by decide +kernel
theorem dX5_readDegrees_33 : decode cX5_readDegrees 33 = .ok (.bipush 32, 2) := by decide +kernel
theorem dX5_readDegrees_35 : decode cX5_readDegrees 35 = .ok (.invokevirtual 109, 3) := by decide +kernel
theorem dX5_readDegrees_38 : decode cX5_readDegrees 38 = .ok (.ifCond .ne 5, 3) := by decide +kernel
theorem dX5_readDegrees_41 : decode cX5_readDegrees 41 = .ok (.iconst 0, 1) := by decide +kernel
theorem dX5_readDegrees_42 : decode cX5_readDegrees 42 = .ok (.ireturn, 1) := by decide +kernel
theorem dX5_readDegrees_43 : decode cX5_readDegrees 43 = .ok (.aload_n 0, 1) := by decide +kernel
theorem dX5_readDegrees_44 : decode cX5_readDegrees 44 = .ok (.getfield 28, 3) := by decide +kernel
theorem dX5_readDegrees_47 : decode cX5_readDegrees 47 = .ok (.invokevirtual 119, 3) := by decide +kernel
theorem dX5_readDegrees_50 : decode cX5_readDegrees 50 = .ok (.ifCond .eq 9, 3) := by decide +kernel
theorem dX5_readDegrees_53 : decode cX5_readDegrees 53 = .ok (.aload_n 0, 1) := by decide +kernel
theorem dX5_readDegrees_54 : decode cX5_readDegrees 54 = .ok (.iconst 5, 1) := by decide +kernel
theorem dX5_readDegrees_55 : decode cX5_readDegrees 55 = .ok (.invokevirtual 94, 3) := by decide +kernel
theorem dX5_readDegrees_58 : decode cX5_readDegrees 58 = .ok (.ireturn, 1) := by decide +kernel
theorem dX5_readDegrees_59 : decode cX5_readDegrees 59 = .ok (.aload_n 0, 1) := by decide +kernel
theorem dX5_readDegrees_60 : decode cX5_readDegrees 60 = .ok (.getfield 28, 3) := by decide +kernel
theorem dX5_readDegrees_63 : decode cX5_readDegrees 63 = .ok (.aload_n 0, 1) := by decide +kernel
theorem dX5_readDegrees_64 : decode cX5_readDegrees 64 = .ok (.getfield 57, 3) := by decide +kernel
theorem dX5_readDegrees_67 : decode cX5_readDegrees 67 = .ok (.invokevirtual 122, 3) := by decide +kernel
theorem dX5_readDegrees_70 : decode cX5_readDegrees 70 = .ok (.aload_n 0, 1) := by decide +kernel
theorem dX5_readDegrees_71 : decode cX5_readDegrees 71 = .ok (.invokevirtual 66, 3) := by decide +kernel
theorem dX5_readDegrees_74 : decode cX5_readDegrees 74 = .ok (.iinc 1 1, 3) := by decide +kernel
theorem dX5_readDegrees_77 : decode cX5_readDegrees 77 = .ok (.goto (-64), 3) := by decide +kernel
theorem dX5_readDegrees_80 : decode cX5_readDegrees 80 = .ok (.aload_n 0, 1) := by decide +kernel
theorem dX5_readDegrees_81 : decode cX5_readDegrees 81 = .ok (.invokevirtual 113, 3) := by decide +kernel
theorem dX5_readDegrees_84 : decode cX5_readDegrees 84 = .ok (.ifCond .ne 5, 3) := by decide +kernel
theorem dX5_readDegrees_87 : decode cX5_readDegrees 87 = .ok (.iconst 0, 1) := by decide +kernel
theorem dX5_readDegrees_88 : decode cX5_readDegrees 88 = .ok (.ireturn, 1) := by decide +kernel
theorem dX5_readDegrees_89 : decode cX5_readDegrees 89 = .ok (.aload_n 0, 1) := by decide +kernel
theorem dX5_readDegrees_90 : decode cX5_readDegrees 90 = .ok (.getfield 28, 3) := by decide +kernel
theorem dX5_readDegrees_93 : decode cX5_readDegrees 93 = .ok (.invokevirtual 125, 3) := by decide +kernel
theorem dX5_readDegrees_96 : decode cX5_readDegrees 96 = .ok (.iconst 2, 1) := by decide +kernel
theorem dX5_readDegrees_97 : decode cX5_readDegrees 97 = .ok (.irem, 1) := by decide +kernel
theorem dX5_readDegrees_98 : decode cX5_readDegrees 98 = .ok (.ifCond .ne 15, 3) := by decide +kernel
theorem dX5_readDegrees_101 : decode cX5_readDegrees 101 = .ok (.aload_n 0, 1) := by decide +kernel
theorem dX5_readDegrees_102 : decode cX5_readDegrees 102 = .ok (.getfield 28, 3) := by decide +kernel
theorem dX5_readDegrees_105 : decode cX5_readDegrees 105 = .ok (.invokevirtual 125, 3) := by decide +kernel
theorem dX5_readDegrees_108 : decode cX5_readDegrees 108 = .ok (.bipush 32, 2) := by decide +kernel
theorem dX5_readDegrees_110 : decode cX5_readDegrees 110 = .ok (.if_icmp .le 9, 3) := by decide +kernel
theorem dX5_readDegrees_113 : decode cX5_readDegrees 113 = .ok (.aload_n 0, 1) := by decide +kernel
theorem dX5_readDegrees_114 : decode cX5_readDegrees 114 = .ok (.iconst 4, 1) := by decide +kernel
theorem dX5_readDegrees_115 : decode cX5_readDegrees 115 = .ok (.invokevirtual 94, 3) := by decide +kernel
theorem dX5_readDegrees_118 : decode cX5_readDegrees 118 = .ok (.ireturn, 1) := by decide +kernel
theorem dX5_readDegrees_119 : decode cX5_readDegrees 119 = .ok (.aload_n 0, 1) := by decide +kernel
theorem dX5_readDegrees_120 : decode cX5_readDegrees 120 = .ok (.aload_n 0, 1) := by decide +kernel
theorem dX5_readDegrees_121 : decode cX5_readDegrees 121 = .ok (.getfield 28, 3) := by decide +kernel
theorem dX5_readDegrees_124 : decode cX5_readDegrees 124 = .ok (.invokevirtual 129, 3) := by decide +kernel
theorem dX5_readDegrees_127 : decode cX5_readDegrees 127 = .ok (.invokevirtual 76, 3) := by decide +kernel
theorem dX5_readDegrees_130 : decode cX5_readDegrees 130 = .ok (.aload_n 0, 1) := by decide +kernel
theorem dX5_readDegrees_131 : decode cX5_readDegrees 131 = .ok (.getfield 28, 3) := by decide +kernel
theorem dX5_readDegrees_134 : decode cX5_readDegrees 134 = .ok (.aload_n 0, 1) := by decide +kernel
theorem dX5_readDegrees_135 : decode cX5_readDegrees 135 = .ok (.getfield 18, 3) := by decide +kernel
theorem dX5_readDegrees_138 : decode cX5_readDegrees 138 = .ok (.iconst 0, 1) := by decide +kernel
theorem dX5_readDegrees_139 : decode cX5_readDegrees 139 = .ok (.invokevirtual 131, 3) := by decide +kernel
theorem dX5_readDegrees_142 : decode cX5_readDegrees 142 = .ok (.iconst 1, 1) := by decide +kernel
theorem dX5_readDegrees_143 : decode cX5_readDegrees 143 = .ok (.ireturn, 1) := by decide +kernel
theorem dX5_readEdge_0 : decode cX5_readEdge 0 = .ok (.aload_n 0, 1) := by decide +kernel
theorem dX5_readEdge_1 : decode cX5_readEdge 1 = .ok (.invokevirtual 66, 3) := by decide +kernel
theorem dX5_readEdge_4 : decode cX5_readEdge 4 = .ok (.aload_n 0, 1) := by decide +kernel
theorem dX5_readEdge_5 : decode cX5_readEdge 5 = .ok (.iconst 0, 1) := by decide +kernel
theorem dX5_readEdge_6 : decode cX5_readEdge 6 = .ok (.aload_n 0, 1) := by decide +kernel
theorem dX5_readEdge_7 : decode cX5_readEdge 7 = .ok (.getfield 18, 3) := by decide +kernel
theorem dX5_readEdge_10 : decode cX5_readEdge 10 = .ok (.invokevirtual 135, 3) := by decide +kernel
theorem dX5_readEdge_13 : decode cX5_readEdge 13 = .ok (.iconst 1, 1) := by decide +kernel
theorem dX5_readEdge_14 : decode cX5_readEdge 14 = .ok (.isub, 1) := by decide +kernel
theorem dX5_readEdge_15 : decode cX5_readEdge 15 = .ok (.invokevirtual 109, 3) := by decide +kernel
theorem dX5_readEdge_18 : decode cX5_readEdge 18 = .ok (.ifCond .ne 5, 3) := by decide +kernel
theorem dX5_readEdge_21 : decode cX5_readEdge 21 = .ok (.iconst 0, 1) := by decide +kernel
theorem dX5_readEdge_22 : decode cX5_readEdge 22 = .ok (.ireturn, 1) := by decide +kernel
theorem dX5_readEdge_23 : decode cX5_readEdge 23 = .ok (.aload_n 0, 1) := by decide +kernel
theorem dX5_readEdge_24 : decode cX5_readEdge 24 = .ok (.getfield 57, 3) := by decide +kernel
theorem dX5_readEdge_27 : decode cX5_readEdge 27 = .ok (.istore_n 2, 1) := by decide +kernel
theorem dX5_readEdge_28 : decode cX5_readEdge 28 = .ok (.aload_n 0, 1) := by decide +kernel
theorem dX5_readEdge_29 : decode cX5_readEdge 29 = .ok (.invokevirtual 66, 3) := by decide +kernel
theorem dX5_readEdge_32 : decode cX5_readEdge 32 = .ok (.aload_n 0, 1) := by decide +kernel
theorem dX5_readEdge_33 : decode cX5_readEdge 33 = .ok (.iconst 0, 1) := by decide +kernel
theorem dX5_readEdge_34 : decode cX5_readEdge 34 = .ok (.aload_n 0, 1) := by decide +kernel
theorem dX5_readEdge_35 : decode cX5_readEdge 35 = .ok (.getfield 18, 3) := by decide +kernel
theorem dX5_readEdge_38 : decode cX5_readEdge 38 = .ok (.invokevirtual 135, 3) := by decide +kernel
theorem dX5_readEdge_41 : decode cX5_readEdge 41 = .ok (.iconst 1, 1) := by decide +kernel
theorem dX5_readEdge_42 : decode cX5_readEdge 42 = .ok (.isub, 1) := by decide +kernel
theorem dX5_readEdge_43 : decode cX5_readEdge 43 = .ok (.invokevirtual 109, 3) := by decide +kernel
theorem dX5_readEdge_46 : decode cX5_readEdge 46 = .ok (.ifCond .ne 5, 3) := by decide +kernel
theorem dX5_readEdge_49 : decode cX5_readEdge 49 = .ok (.iconst 0, 1) := by decide +kernel
theorem dX5_readEdge_50 : decode cX5_readEdge 50 = .ok (.ireturn, 1) := by decide +kernel
theorem dX5_readEdge_51 : decode cX5_readEdge 51 = .ok (.aload_n 0, 1) := by decide +kernel
theorem dX5_readEdge_52 : decode cX5_readEdge 52 = .ok (.getfield 57, 3) := by decide +kernel
theorem dX5_readEdge_55 : decode cX5_readEdge 55 = .ok (.istore_n 3, 1) := by decide +kernel
theorem dX5_readEdge_56 : decode cX5_readEdge 56 = .ok (.aload_n 0, 1) := by decide +kernel
theorem dX5_readEdge_57 : decode cX5_readEdge 57 = .ok (.invokevirtual 66, 3) := by decide +kernel
theorem dX5_readEdge_60 : decode cX5_readEdge 60 = .ok (.aload_n 0, 1) := by decide +kernel
theorem dX5_readEdge_61 : decode cX5_readEdge 61 = .ok (.getfield 48, 3) := by decide +kernel
theorem dX5_readEdge_64 : decode cX5_readEdge 64 = .ok (.iconst 2, 1) := by decide +kernel
theorem dX5_readEdge_65 : decode cX5_readEdge 65 = .ok (.if_icmp .ne 7, 3) := by decide +kernel
theorem dX5_readEdge_68 : decode cX5_readEdge 68 = .ok (.iconst 1, 1) := by decide +kernel
theorem dX5_readEdge_69 : decode cX5_readEdge 69 = .ok (.goto 4, 3) := by decide +kernel
theorem dX5_readEdge_72 : decode cX5_readEdge 72 = .ok (.iconst 0, 1) := by decide +kernel
theorem dX5_readEdge_73 : decode cX5_readEdge 73 = .ok (.istore 4, 2) := by decide +kernel
theorem dX5_readEdge_75 : decode cX5_readEdge 75 = .ok (.iload 4, 2) := by decide +kernel
theorem dX5_readEdge_77 : decode cX5_readEdge 77 = .ok (.ifCond .eq 16, 3) := by decide +kernel
theorem dX5_readEdge_80 : decode cX5_readEdge 80 = .ok (.aload_n 0, 1) := by decide +kernel
theorem dX5_readEdge_81 : decode cX5_readEdge 81 = .ok (.iconst 1, 1) := by decide +kernel
theorem dX5_readEdge_82 : decode cX5_readEdge 82 = .ok (.bipush 9, 2) := by decide +kernel
theorem dX5_readEdge_84 : decode cX5_readEdge 84 = .ok (.invokevirtual 109, 3) := by decide +kernel
theorem dX5_readEdge_87 : decode cX5_readEdge 87 = .ok (.ifCond .ne 15, 3) := by decide +kernel
theorem dX5_readEdge_90 : decode cX5_readEdge 90 = .ok (.goto 10, 3) := by decide +kernel
theorem dX5_readEdge_93 : decode cX5_readEdge 93 = .ok (.aload_n 0, 1) := by decide +kernel
theorem dX5_readEdge_94 : decode cX5_readEdge 94 = .ok (.invokevirtual 113, 3) := by decide +kernel
theorem dX5_readEdge_97 : decode cX5_readEdge 97 = .ok (.ifCond .ne 5, 3) := by decide +kernel
theorem dX5_readEdge_100 : decode cX5_readEdge 100 = .ok (.iconst 0, 1) := by decide +kernel
theorem dX5_readEdge_101 : decode cX5_readEdge 101 = .ok (.ireturn, 1) := by decide +kernel
theorem dX5_readEdge_102 : decode cX5_readEdge 102 = .ok (.iload 4, 2) := by decide +kernel
theorem dX5_readEdge_104 : decode cX5_readEdge 104 = .ok (.ifCond .eq 10, 3) := by decide +kernel
theorem dX5_readEdge_107 : decode cX5_readEdge 107 = .ok (.aload_n 0, 1) := by decide +kernel
theorem dX5_readEdge_108 : decode cX5_readEdge 108 = .ok (.getfield 57, 3) := by decide +kernel
theorem dX5_readEdge_111 : decode cX5_readEdge 111 = .ok (.goto 4, 3) := by decide +kernel
theorem dX5_readEdge_114 : decode cX5_readEdge 114 = .ok (.iconst 1, 1) := by decide +kernel
theorem dX5_readEdge_115 : decode cX5_readEdge 115 = .ok (.istore 5, 2) := by decide +kernel
theorem dX5_readEdge_117 : decode cX5_readEdge 117 = .ok (.aload_n 1, 1) := by decide +kernel
theorem dX5_readEdge_118 : decode cX5_readEdge 118 = .ok (.invokevirtual 138, 3) := by decide +kernel
theorem dX5_readEdge_121 : decode cX5_readEdge 121 = .ok (.iload 5, 2) := by decide +kernel
theorem dX5_readEdge_123 : decode cX5_readEdge 123 = .ok (.iadd, 1) := by decide +kernel
theorem dX5_readEdge_124 : decode cX5_readEdge 124 = .ok (.bipush 16, 2) := by decide +kernel
theorem dX5_readEdge_126 : decode cX5_readEdge 126 = .ok (.if_icmp .le 9, 3) := by decide +kernel
theorem dX5_readEdge_129 : decode cX5_readEdge 129 = .ok (.aload_n 0, 1) := by decide +kernel
theorem dX5_readEdge_130 : decode cX5_readEdge 130 = .ok (.iconst 5, 1) := by decide +kernel
theorem dX5_readEdge_131 : decode cX5_readEdge 131 = .ok (.invokevirtual 94, 3) := by decide +kernel
theorem dX5_readEdge_134 : decode cX5_readEdge 134 = .ok (.ireturn, 1) := by decide +kernel
theorem dX5_readEdge_135 : decode cX5_readEdge 135 = .ok (.aload_n 1, 1) := by decide +kernel
theorem dX5_readEdge_136 : decode cX5_readEdge 136 = .ok (.iload_n 2, 1) := by decide +kernel
theorem dX5_readEdge_137 : decode cX5_readEdge 137 = .ok (.iload_n 3, 1) := by decide +kernel
theorem dX5_readEdge_138 : decode cX5_readEdge 138 = .ok (.iload 5, 2) := by decide +kernel
theorem dX5_readEdge_140 : decode cX5_readEdge 140 = .ok (.invokevirtual 141, 3) := by decide +kernel
theorem dX5_readEdge_143 : decode cX5_readEdge 143 = .ok (.iload 4, 2) := by decide +kernel
theorem dX5_readEdge_145 : decode cX5_readEdge 145 = .ok (.ifCond .eq 7, 3) := by decide +kernel
theorem dX5_readEdge_148 : decode cX5_readEdge 148 = .ok (.aload_n 0, 1) := by decide +kernel
theorem dX5_readEdge_149 : decode cX5_readEdge 149 = .ok (.invokevirtual 66, 3) := by decide +kernel
theorem dX5_readEdge_152 : decode cX5_readEdge 152 = .ok (.aload_n 0, 1) := by decide +kernel
theorem dX5_readEdge_153 : decode cX5_readEdge 153 = .ok (.invokevirtual 113, 3) := by decide +kernel
theorem dX5_readEdge_156 : decode cX5_readEdge 156 = .ok (.ireturn, 1) := by decide +kernel
theorem dX5_readModeNumber_0 : decode cX5_readModeNumber 0 = .ok (.aload_n 0, 1) := by decide +kernel
theorem dX5_readModeNumber_1 : decode cX5_readModeNumber 1 = .ok (.invokevirtual 66, 3) := by decide +kernel
theorem dX5_readModeNumber_4 : decode cX5_readModeNumber 4 = .ok (.aload_n 0, 1) := by decide +kernel
theorem dX5_readModeNumber_5 : decode cX5_readModeNumber 5 = .ok (.iconst 0, 1) := by decide +kernel
theorem dX5_readModeNumber_6 : decode cX5_readModeNumber 6 = .ok (.iconst 2, 1) := by decide +kernel
theorem dX5_readModeNumber_7 : decode cX5_readModeNumber 7 = .ok (.invokevirtual 109, 3) := by decide +kernel
theorem dX5_readModeNumber_10 : decode cX5_readModeNumber 10 = .ok (.ifCond .ne 5, 3) := by decide +kernel
theorem dX5_readModeNumber_13 : decode cX5_readModeNumber 13 = .ok (.iconst 0, 1) := by decide +kernel
theorem dX5_readModeNumber_14 : decode cX5_readModeNumber 14 = .ok (.ireturn, 1) := by decide +kernel
theorem dX5_readModeNumber_15 : decode cX5_readModeNumber 15 = .ok (.aload_n 0, 1) := by decide +kernel
theorem dX5_readModeNumber_16 : decode cX5_readModeNumber 16 = .ok (.aload_n 0, 1) := by decide +kernel
theorem dX5_readModeNumber_17 : decode cX5_readModeNumber 17 = .ok (.getfield 57, 3) := by decide +kernel
theorem dX5_readModeNumber_20 : decode cX5_readModeNumber 20 = .ok (.putfield 32, 3) := by decide +kernel
theorem dX5_readModeNumber_23 : decode cX5_readModeNumber 23 = .ok (.aload_n 0, 1) := by decide +kernel
theorem dX5_readModeNumber_24 : decode cX5_readModeNumber 24 = .ok (.invokevirtual 66, 3) := by decide +kernel
theorem dX5_readModeNumber_27 : decode cX5_readModeNumber 27 = .ok (.aload_n 0, 1) := by decide +kernel
theorem dX5_readModeNumber_28 : decode cX5_readModeNumber 28 = .ok (.invokevirtual 113, 3) := by decide +kernel
theorem dX5_readModeNumber_31 : decode cX5_readModeNumber 31 = .ok (.ireturn, 1) := by decide +kernel
theorem dX5_begin_0 : decode cX5_begin 0 = .ok (.aload_n 0, 1) := by decide +kernel
theorem dX5_begin_1 : decode cX5_begin 1 = .ok (.getfield 18, 3) := by decide +kernel
theorem dX5_begin_4 : decode cX5_begin 4 = .ok (.iload_n 1, 1) := by decide +kernel
theorem dX5_begin_5 : decode cX5_begin 5 = .ok (.invokevirtual 145, 3) := by decide +kernel
theorem dX5_begin_8 : decode cX5_begin 8 = .ok (.aload_n 0, 1) := by decide +kernel
theorem dX5_begin_9 : decode cX5_begin 9 = .ok (.getfield 22, 3) := by decide +kernel
theorem dX5_begin_12 : decode cX5_begin 12 = .ok (.iload_n 1, 1) := by decide +kernel
theorem dX5_begin_13 : decode cX5_begin 13 = .ok (.invokevirtual 145, 3) := by decide +kernel
theorem dX5_begin_16 : decode cX5_begin 16 = .ok (.return_, 1) := by decide +kernel
theorem dX5_expectNumber_0 : decode cX5_expectNumber 0 = .ok (.aload_n 0, 1) := by decide +kernel
theorem dX5_expectNumber_1 : decode cX5_expectNumber 1 = .ok (.getfield 48, 3) := by decide +kernel
theorem dX5_expectNumber_4 : decode cX5_expectNumber 4 = .ok (.iconst 2, 1) := by decide +kernel
theorem dX5_expectNumber_5 : decode cX5_expectNumber 5 = .ok (.if_icmp .eq 9, 3) := by decide +kernel
theorem dX5_expectNumber_8 : decode cX5_expectNumber 8 = .ok (.aload_n 0, 1) := by decide +kernel
theorem dX5_expectNumber_9 : decode cX5_expectNumber 9 = .ok (.iconst 2, 1) := by decide +kernel
theorem dX5_expectNumber_10 : decode cX5_expectNumber 10 = .ok (.invokevirtual 94, 3) := by decide +kernel
theorem dX5_expectNumber_13 : decode cX5_expectNumber 13 = .ok (.ireturn, 1) := by decide +kernel
theorem dX5_expectNumber_14 : decode cX5_expectNumber 14 = .ok (.aload_n 0, 1) := by decide +kernel
theorem dX5_expectNumber_15 : decode cX5_expectNumber 15 = .ok (.getfield 57, 3) := by decide +kernel
theorem dX5_expectNumber_18 : decode cX5_expectNumber 18 = .ok (.iload_n 1, 1) := by decide +kernel
theorem dX5_expectNumber_19 : decode cX5_expectNumber 19 = .ok (.if_icmp .lt 11, 3) := by decide +kernel
theorem dX5_expectNumber_22 : decode cX5_expectNumber 22 = .ok (.aload_n 0, 1) := by decide +kernel
theorem dX5_expectNumber_23 : decode cX5_expectNumber 23 = .ok (.getfield 57, 3) := by decide +kernel
theorem dX5_expectNumber_26 : decode cX5_expectNumber 26 = .ok (.iload_n 2, 1) := by decide +kernel
theorem dX5_expectNumber_27 : decode cX5_expectNumber 27 = .ok (.if_icmp .le 11, 3) := by decide +kernel
theorem dX5_expectNumber_30 : decode cX5_expectNumber 30 = .ok (.aload_n 0, 1) := by decide +kernel
theorem dX5_expectNumber_31 : decode cX5_expectNumber 31 = .ok (.iconst 3, 1) := by decide +kernel
theorem dX5_expectNumber_32 : decode cX5_expectNumber 32 = .ok (.invokevirtual 94, 3) := by decide +kernel
theorem dX5_expectNumber_35 : decode cX5_expectNumber 35 = .ok (.ifCond .eq 7, 3) := by decide +kernel
theorem dX5_expectNumber_38 : decode cX5_expectNumber 38 = .ok (.iconst 1, 1) := by decide +kernel
theorem dX5_expectNumber_39 : decode cX5_expectNumber 39 = .ok (.goto 4, 3) := by decide +kernel
theorem dX5_expectNumber_42 : decode cX5_expectNumber 42 = .ok (.iconst 0, 1) := by decide +kernel
theorem dX5_expectNumber_43 : decode cX5_expectNumber 43 = .ok (.ireturn, 1) := by decide +kernel
theorem dX5_expectSemicolon_0 : decode cX5_expectSemicolon 0 = .ok (.aload_n 0, 1) := by decide +kernel
theorem dX5_expectSemicolon_1 : decode cX5_expectSemicolon 1 = .ok (.getfield 48, 3) := by decide +kernel
theorem dX5_expectSemicolon_4 : decode cX5_expectSemicolon 4 = .ok (.iconst 3, 1) := by decide +kernel
theorem dX5_expectSemicolon_5 : decode cX5_expectSemicolon 5 = .ok (.if_icmp .eq 11, 3) := by decide +kernel
theorem dX5_expectSemicolon_8 : decode cX5_expectSemicolon 8 = .ok (.aload_n 0, 1) := by decide +kernel
theorem dX5_expectSemicolon_9 : decode cX5_expectSemicolon 9 = .ok (.iconst 2, 1) := by decide +kernel
theorem dX5_expectSemicolon_10 : decode cX5_expectSemicolon 10 = .ok (.invokevirtual 94, 3) := by decide +kernel
theorem dX5_expectSemicolon_13 : decode cX5_expectSemicolon 13 = .ok (.ifCond .eq 7, 3) := by decide +kernel
theorem dX5_expectSemicolon_16 : decode cX5_expectSemicolon 16 = .ok (.iconst 1, 1) := by decide +kernel
theorem dX5_expectSemicolon_17 : decode cX5_expectSemicolon 17 = .ok (.goto 4, 3) := by decide +kernel
theorem dX5_expectSemicolon_20 : decode cX5_expectSemicolon 20 = .ok (.iconst 0, 1) := by decide +kernel
theorem dX5_expectSemicolon_21 : decode cX5_expectSemicolon 21 = .ok (.ireturn, 1) := by decide +kernel
theorem dX5_fail_0 : decode cX5_fail 0 = .ok (.aload_n 0, 1) := by decide +kernel
theorem dX5_fail_1 : decode cX5_fail 1 = .ok (.aload_n 0, 1) := by decide +kernel
theorem dX5_fail_2 : decode cX5_fail 2 = .ok (.getfield 48, 3) := by decide +kernel
theorem dX5_fail_5 : decode cX5_fail 5 = .ok (.iconst 4, 1) := by decide +kernel
theorem dX5_fail_6 : decode cX5_fail 6 = .ok (.if_icmp .ne 7, 3) := by decide +kernel
theorem dX5_fail_9 : decode cX5_fail 9 = .ok (.iconst 1, 1) := by decide +kernel
theorem dX5_fail_10 : decode cX5_fail 10 = .ok (.goto 4, 3) := by decide +kernel
theorem dX5_fail_13 : decode cX5_fail 13 = .ok (.iload_n 1, 1) := by decide +kernel
theorem dX5_fail_14 : decode cX5_fail 14 = .ok (.putfield 42, 3) := by decide +kernel
theorem dX5_fail_17 : decode cX5_fail 17 = .ok (.aload_n 0, 1) := by decide +kernel
theorem dX5_fail_18 : decode cX5_fail 18 = .ok (.aload_n 0, 1) := by decide +kernel
theorem dX5_fail_19 : decode cX5_fail 19 = .ok (.getfield 51, 3) := by decide +kernel
theorem dX5_fail_22 : decode cX5_fail 22 = .ok (.putfield 45, 3) := by decide +kernel
theorem dX5_fail_25 : decode cX5_fail 25 = .ok (.iconst 0, 1) := by decide +kernel
theorem dX5_fail_26 : decode cX5_fail 26 = .ok (.ireturn, 1) := by decide +kernel
theorem dX5_isWord_0 : decode cX5_isWord 0 = .ok (.aload_n 0, 1) := by decide +kernel
theorem dX5_isWord_1 : decode cX5_isWord 1 = .ok (.getfield 48, 3) := by decide +kernel
theorem dX5_isWord_4 : decode cX5_isWord 4 = .ok (.iconst 1, 1) := by decide +kernel
theorem dX5_isWord_5 : decode cX5_isWord 5 = .ok (.if_icmp .ne 19, 3) := by decide +kernel
theorem dX5_isWord_8 : decode cX5_isWord 8 = .ok (.aload_n 0, 1) := by decide +kernel
theorem dX5_isWord_9 : decode cX5_isWord 9 = .ok (.getfield 54, 3) := by decide +kernel
theorem dX5_isWord_12 : decode cX5_isWord 12 = .ok (.aload_n 0, 1) := by decide +kernel
theorem dX5_isWord_13 : decode cX5_isWord 13 = .ok (.getfield 51, 3) := by decide +kernel
theorem dX5_isWord_16 : decode cX5_isWord 16 = .ok (.isub, 1) := by decide +kernel
theorem dX5_isWord_17 : decode cX5_isWord 17 = .ok (.aload_n 1, 1) := by decide +kernel
theorem dX5_isWord_18 : decode cX5_isWord 18 = .ok (.invokevirtual 147, 3) := by decide +kernel
theorem dX5_isWord_21 : decode cX5_isWord 21 = .ok (.if_icmp .eq 5, 3) := by decide +kernel
theorem dX5_isWord_24 : decode cX5_isWord 24 = .ok (.iconst 0, 1) := by decide +kernel
theorem dX5_isWord_25 : decode cX5_isWord 25 = .ok (.ireturn, 1) := by decide +kernel
theorem dX5_isWord_26 : decode cX5_isWord 26 = .ok (.iconst 0, 1) := by decide +kernel
theorem dX5_isWord_27 : decode cX5_isWord 27 = .ok (.istore_n 2, 1) := by decide +kernel
theorem dX5_isWord_28 : decode cX5_isWord 28 = .ok (.iload_n 2, 1) := by decide +kernel
theorem dX5_isWord_29 : decode cX5_isWord 29 = .ok (.aload_n 1, 1) := by decide +kernel
theorem dX5_isWord_30 : decode cX5_isWord 30 = .ok (.invokevirtual 147, 3) := by decide +kernel
theorem dX5_isWord_33 : decode cX5_isWord 33 = .ok (.if_icmp .ge 29, 3) := by decide +kernel
theorem dX5_isWord_36 : decode cX5_isWord 36 = .ok (.aload_n 0, 1) := by decide +kernel
theorem dX5_isWord_37 : decode cX5_isWord 37 = .ok (.aload_n 0, 1) := by decide +kernel
theorem dX5_isWord_38 : decode cX5_isWord 38 = .ok (.getfield 51, 3) := by decide +kernel
theorem dX5_isWord_41 : decode cX5_isWord 41 = .ok (.iload_n 2, 1) := by decide +kernel
theorem dX5_isWord_42 : decode cX5_isWord 42 = .ok (.iadd, 1) := by decide +kernel
theorem dX5_isWord_43 : decode cX5_isWord 43 = .ok (.invokevirtual 150, 3) := by decide +kernel
theorem dX5_isWord_46 : decode cX5_isWord 46 = .ok (.aload_n 1, 1) := by decide +kernel
theorem dX5_isWord_47 : decode cX5_isWord 47 = .ok (.iload_n 2, 1) := by decide +kernel
theorem dX5_isWord_48 : decode cX5_isWord 48 = .ok (.invokevirtual 154, 3) := by decide +kernel
theorem dX5_isWord_51 : decode cX5_isWord 51 = .ok (.if_icmp .eq 5, 3) := by decide +kernel
theorem dX5_isWord_54 : decode cX5_isWord 54 = .ok (.iconst 0, 1) := by decide +kernel
theorem dX5_isWord_55 : decode cX5_isWord 55 = .ok (.ireturn, 1) := by decide +kernel
theorem dX5_isWord_56 : decode cX5_isWord 56 = .ok (.iinc 2 1, 3) := by decide +kernel
theorem dX5_isWord_59 : decode cX5_isWord 59 = .ok (.goto (-31), 3) := by decide +kernel
theorem dX5_isWord_62 : decode cX5_isWord 62 = .ok (.iconst 1, 1) := by decide +kernel
theorem dX5_isWord_63 : decode cX5_isWord 63 = .ok (.ireturn, 1) := by decide +kernel
theorem dX5_advance_0 : decode cX5_advance 0 = .ok (.aload_n 0, 1) := by decide +kernel
theorem dX5_advance_1 : decode cX5_advance 1 = .ok (.getfield 54, 3) := by decide +kernel
theorem dX5_advance_4 : decode cX5_advance 4 = .ok (.aload_n 0, 1) := by decide +kernel
theorem dX5_advance_5 : decode cX5_advance 5 = .ok (.getfield 39, 3) := by decide +kernel
theorem dX5_advance_8 : decode cX5_advance 8 = .ok (.if_icmp .ge 30, 3) := by decide +kernel
theorem dX5_advance_11 : decode cX5_advance 11 = .ok (.aload_n 0, 1) := by decide +kernel
theorem dX5_advance_12 : decode cX5_advance 12 = .ok (.aload_n 0, 1) := by decide +kernel
theorem dX5_advance_13 : decode cX5_advance 13 = .ok (.getfield 54, 3) := by decide +kernel
theorem dX5_advance_16 : decode cX5_advance 16 = .ok (.invokevirtual 150, 3) := by decide +kernel
theorem dX5_advance_19 : decode cX5_advance 19 = .ok (.invokestatic 158, 3) := by decide +kernel
theorem dX5_advance_22 : decode cX5_advance 22 = .ok (.ifCond .eq 16, 3) := by decide +kernel
theorem dX5_advance_25 : decode cX5_advance 25 = .ok (.aload_n 0, 1) := by decide +kernel
theorem dX5_advance_26 : decode cX5_advance 26 = .ok (.dup, 1) := by decide +kernel
theorem dX5_advance_27 : decode cX5_advance 27 = .ok (.getfield 54, 3) := by decide +kernel
theorem dX5_advance_30 : decode cX5_advance 30 = .ok (.iconst 1, 1) := by decide +kernel
theorem dX5_advance_31 : decode cX5_advance 31 = .ok (.iadd, 1) := by decide +kernel
theorem dX5_advance_32 : decode cX5_advance 32 = .ok (.putfield 54, 3) := by decide +kernel
theorem dX5_advance_35 : decode cX5_advance 35 = .ok (.goto (-35), 3) := by decide +kernel
theorem dX5_advance_38 : decode cX5_advance 38 = .ok (.aload_n 0, 1) := by decide +kernel
theorem dX5_advance_39 : decode cX5_advance 39 = .ok (.aload_n 0, 1) := by decide +kernel
theorem dX5_advance_40 : decode cX5_advance 40 = .ok (.getfield 54, 3) := by decide +kernel
theorem dX5_advance_43 : decode cX5_advance 43 = .ok (.putfield 51, 3) := by decide +kernel
theorem dX5_advance_46 : decode cX5_advance 46 = .ok (.aload_n 0, 1) := by decide +kernel
theorem dX5_advance_47 : decode cX5_advance 47 = .ok (.getfield 51, 3) := by decide +kernel
theorem dX5_advance_50 : decode cX5_advance 50 = .ok (.aload_n 0, 1) := by decide +kernel
theorem dX5_advance_51 : decode cX5_advance 51 = .ok (.getfield 39, 3) := by decide +kernel
theorem dX5_advance_54 : decode cX5_advance 54 = .ok (.if_icmp .lt 11, 3) := by decide +kernel
theorem dX5_advance_57 : decode cX5_advance 57 = .ok (.aload_n 0, 1) := by decide +kernel
theorem dX5_advance_58 : decode cX5_advance 58 = .ok (.iconst 0, 1) := by decide +kernel
theorem dX5_advance_59 : decode cX5_advance 59 = .ok (.putfield 48, 3) := by decide +kernel
theorem dX5_advance_62 : decode cX5_advance 62 = .ok (.goto 77, 3) := by decide +kernel
theorem dX5_advance_65 : decode cX5_advance 65 = .ok (.aload_n 0, 1) := by decide +kernel
theorem dX5_advance_66 : decode cX5_advance 66 = .ok (.aload_n 0, 1) := by decide +kernel
theorem dX5_advance_67 : decode cX5_advance 67 = .ok (.getfield 51, 3) := by decide +kernel
theorem dX5_advance_70 : decode cX5_advance 70 = .ok (.invokevirtual 150, 3) := by decide +kernel
theorem dX5_advance_73 : decode cX5_advance 73 = .ok (.invokestatic 161, 3) := by decide +kernel
theorem dX5_advance_76 : decode cX5_advance 76 = .ok (.ifCond .eq 10, 3) := by decide +kernel
theorem dX5_advance_79 : decode cX5_advance 79 = .ok (.aload_n 0, 1) := by decide +kernel
theorem dX5_advance_80 : decode cX5_advance 80 = .ok (.invokevirtual 164, 3) := by decide +kernel
theorem dX5_advance_83 : decode cX5_advance 83 = .ok (.goto 56, 3) := by decide +kernel
theorem dX5_advance_86 : decode cX5_advance 86 = .ok (.aload_n 0, 1) := by decide +kernel
theorem dX5_advance_87 : decode cX5_advance 87 = .ok (.aload_n 0, 1) := by decide +kernel
theorem dX5_advance_88 : decode cX5_advance 88 = .ok (.getfield 51, 3) := by decide +kernel
theorem dX5_advance_91 : decode cX5_advance 91 = .ok (.invokevirtual 150, 3) := by decide +kernel
theorem dX5_advance_94 : decode cX5_advance 94 = .ok (.invokestatic 167, 3) := by decide +kernel
theorem dX5_advance_97 : decode cX5_advance 97 = .ok (.ifCond .eq 10, 3) := by decide +kernel
theorem dX5_advance_100 : decode cX5_advance 100 = .ok (.aload_n 0, 1) := by decide +kernel
theorem dX5_advance_101 : decode cX5_advance 101 = .ok (.invokevirtual 170, 3) := by decide +kernel
theorem dX5_advance_104 : decode cX5_advance 104 = .ok (.goto 35, 3) := by decide +kernel
theorem dX5_advance_107 : decode cX5_advance 107 = .ok (.aload_n 0, 1) := by decide +kernel
theorem dX5_advance_108 : decode cX5_advance 108 = .ok (.aload_n 0, 1) := by decide +kernel
theorem dX5_advance_109 : decode cX5_advance 109 = .ok (.aload_n 0, 1) := by decide +kernel
theorem dX5_advance_110 : decode cX5_advance 110 = .ok (.getfield 51, 3) := by decide +kernel
theorem dX5_advance_113 : decode cX5_advance 113 = .ok (.invokevirtual 150, 3) := by decide +kernel
theorem dX5_advance_116 : decode cX5_advance 116 = .ok (.bipush 59, 2) := by decide +kernel
theorem dX5_advance_118 : decode cX5_advance 118 = .ok (.if_icmp .ne 7, 3) := by decide +kernel
theorem dX5_advance_121 : decode cX5_advance 121 = .ok (.iconst 3, 1) := by decide +kernel
theorem dX5_advance_122 : decode cX5_advance 122 = .ok (.goto 4, 3) := by decide +kernel
theorem dX5_advance_125 : decode cX5_advance 125 = .ok (.iconst 4, 1) := by decide +kernel
theorem dX5_advance_126 : decode cX5_advance 126 = .ok (.putfield 48, 3) := by decide +kernel
theorem dX5_advance_129 : decode cX5_advance 129 = .ok (.aload_n 0, 1) := by decide +kernel
theorem dX5_advance_130 : decode cX5_advance 130 = .ok (.dup, 1) := by decide +kernel
theorem dX5_advance_131 : decode cX5_advance 131 = .ok (.getfield 54, 3) := by decide +kernel
theorem dX5_advance_134 : decode cX5_advance 134 = .ok (.iconst 1, 1) := by decide +kernel
theorem dX5_advance_135 : decode cX5_advance 135 = .ok (.iadd, 1) := by decide +kernel
theorem dX5_advance_136 : decode cX5_advance 136 = .ok (.putfield 54, 3) := by decide +kernel
theorem dX5_advance_139 : decode cX5_advance 139 = .ok (.return_, 1) := by decide +kernel
theorem dX5_takeWord_0 : decode cX5_takeWord 0 = .ok (.aload_n 0, 1) := by decide +kernel
theorem dX5_takeWord_1 : decode cX5_takeWord 1 = .ok (.getfield 54, 3) := by decide +kernel
theorem dX5_takeWord_4 : decode cX5_takeWord 4 = .ok (.aload_n 0, 1) := by decide +kernel
theorem dX5_takeWord_5 : decode cX5_takeWord 5 = .ok (.getfield 39, 3) := by decide +kernel
theorem dX5_takeWord_8 : decode cX5_takeWord 8 = .ok (.if_icmp .ge 30, 3) := by decide +kernel
theorem dX5_takeWord_11 : decode cX5_takeWord 11 = .ok (.aload_n 0, 1) := by decide +kernel
theorem dX5_takeWord_12 : decode cX5_takeWord 12 = .ok (.aload_n 0, 1) := by decide +kernel
theorem dX5_takeWord_13 : decode cX5_takeWord 13 = .ok (.getfield 54, 3) := by decide +kernel
theorem dX5_takeWord_16 : decode cX5_takeWord 16 = .ok (.invokevirtual 150, 3) := by decide +kernel
theorem dX5_takeWord_19 : decode cX5_takeWord 19 = .ok (.invokestatic 161, 3) := by decide +kernel
theorem dX5_takeWord_22 : decode cX5_takeWord 22 = .ok (.ifCond .eq 16, 3) := by decide +kernel
theorem dX5_takeWord_25 : decode cX5_takeWord 25 = .ok (.aload_n 0, 1) := by decide +kernel
theorem dX5_takeWord_26 : decode cX5_takeWord 26 = .ok (.dup, 1) := by decide +kernel
theorem dX5_takeWord_27 : decode cX5_takeWord 27 = .ok (.getfield 54, 3) := by decide +kernel
theorem dX5_takeWord_30 : decode cX5_takeWord 30 = .ok (.iconst 1, 1) := by decide +kernel
theorem dX5_takeWord_31 : decode cX5_takeWord 31 = .ok (.iadd, 1) := by decide +kernel
theorem dX5_takeWord_32 : decode cX5_takeWord 32 = .ok (.putfield 54, 3) := by decide +kernel
theorem dX5_takeWord_35 : decode cX5_takeWord 35 = .ok (.goto (-35), 3) := by decide +kernel
theorem dX5_takeWord_38 : decode cX5_takeWord 38 = .ok (.aload_n 0, 1) := by decide +kernel
theorem dX5_takeWord_39 : decode cX5_takeWord 39 = .ok (.aload_n 0, 1) := by decide +kernel
theorem dX5_takeWord_40 : decode cX5_takeWord 40 = .ok (.getfield 54, 3) := by decide +kernel
theorem dX5_takeWord_43 : decode cX5_takeWord 43 = .ok (.aload_n 0, 1) := by decide +kernel
theorem dX5_takeWord_44 : decode cX5_takeWord 44 = .ok (.getfield 51, 3) := by decide +kernel
theorem dX5_takeWord_47 : decode cX5_takeWord 47 = .ok (.isub, 1) := by decide +kernel
theorem dX5_takeWord_48 : decode cX5_takeWord 48 = .ok (.bipush 8, 2) := by decide +kernel
theorem dX5_takeWord_50 : decode cX5_takeWord 50 = .ok (.if_icmp .gt 7, 3) := by decide +kernel
theorem dX5_takeWord_53 : decode cX5_takeWord 53 = .ok (.iconst 1, 1) := by decide +kernel
theorem dX5_takeWord_54 : decode cX5_takeWord 54 = .ok (.goto 4, 3) := by decide +kernel
theorem dX5_takeWord_57 : decode cX5_takeWord 57 = .ok (.iconst 4, 1) := by decide +kernel
theorem dX5_takeWord_58 : decode cX5_takeWord 58 = .ok (.putfield 48, 3) := by decide +kernel
theorem dX5_takeWord_61 : decode cX5_takeWord 61 = .ok (.return_, 1) := by decide +kernel
theorem dX5_takeNumber_0 : decode cX5_takeNumber 0 = .ok (.aload_n 0, 1) := by decide +kernel
theorem dX5_takeNumber_1 : decode cX5_takeNumber 1 = .ok (.iconst 0, 1) := by decide +kernel
theorem dX5_takeNumber_2 : decode cX5_takeNumber 2 = .ok (.putfield 57, 3) := by decide +kernel
theorem dX5_takeNumber_5 : decode cX5_takeNumber 5 = .ok (.aload_n 0, 1) := by decide +kernel
theorem dX5_takeNumber_6 : decode cX5_takeNumber 6 = .ok (.getfield 54, 3) := by decide +kernel
theorem dX5_takeNumber_9 : decode cX5_takeNumber 9 = .ok (.aload_n 0, 1) := by decide +kernel
theorem dX5_takeNumber_10 : decode cX5_takeNumber 10 = .ok (.getfield 39, 3) := by decide +kernel
theorem dX5_takeNumber_13 : decode cX5_takeNumber 13 = .ok (.if_icmp .ge 53, 3) := by decide +kernel
theorem dX5_takeNumber_16 : decode cX5_takeNumber 16 = .ok (.aload_n 0, 1) := by decide +kernel
theorem dX5_takeNumber_17 : decode cX5_takeNumber 17 = .ok (.aload_n 0, 1) := by decide +kernel
theorem dX5_takeNumber_18 : decode cX5_takeNumber 18 = .ok (.getfield 54, 3) := by decide +kernel
theorem dX5_takeNumber_21 : decode cX5_takeNumber 21 = .ok (.invokevirtual 150, 3) := by decide +kernel
theorem dX5_takeNumber_24 : decode cX5_takeNumber 24 = .ok (.invokestatic 167, 3) := by decide +kernel
theorem dX5_takeNumber_27 : decode cX5_takeNumber 27 = .ok (.ifCond .eq 39, 3) := by decide +kernel
theorem dX5_takeNumber_30 : decode cX5_takeNumber 30 = .ok (.aload_n 0, 1) := by decide +kernel
theorem dX5_takeNumber_31 : decode cX5_takeNumber 31 = .ok (.aload_n 0, 1) := by decide +kernel
theorem dX5_takeNumber_32 : decode cX5_takeNumber 32 = .ok (.getfield 57, 3) := by decide +kernel
theorem dX5_takeNumber_35 : decode cX5_takeNumber 35 = .ok (.bipush 10, 2) := by decide +kernel
theorem dX5_takeNumber_37 : decode cX5_takeNumber 37 = .ok (.imul, 1) := by decide +kernel
theorem dX5_takeNumber_38 : decode cX5_takeNumber 38 = .ok (.aload_n 0, 1) := by decide +kernel
theorem dX5_takeNumber_39 : decode cX5_takeNumber 39 = .ok (.aload_n 0, 1) := by decide +kernel
theorem dX5_takeNumber_40 : decode cX5_takeNumber 40 = .ok (.getfield 54, 3) := by decide +kernel
theorem dX5_takeNumber_43 : decode cX5_takeNumber 43 = .ok (.invokevirtual 150, 3) := by decide +kernel
theorem dX5_takeNumber_46 : decode cX5_takeNumber 46 = .ok (.iadd, 1) := by decide +kernel
theorem dX5_takeNumber_47 : decode cX5_takeNumber 47 = .ok (.bipush 48, 2) := by decide +kernel
theorem dX5_takeNumber_49 : decode cX5_takeNumber 49 = .ok (.isub, 1) := by decide +kernel
theorem dX5_takeNumber_50 : decode cX5_takeNumber 50 = .ok (.putfield 57, 3) := by decide +kernel
theorem dX5_takeNumber_53 : decode cX5_takeNumber 53 = .ok (.aload_n 0, 1) := by decide +kernel
theorem dX5_takeNumber_54 : decode cX5_takeNumber 54 = .ok (.dup, 1) := by decide +kernel
theorem dX5_takeNumber_55 : decode cX5_takeNumber 55 = .ok (.getfield 54, 3) := by decide +kernel
theorem dX5_takeNumber_58 : decode cX5_takeNumber 58 = .ok (.iconst 1, 1) := by decide +kernel
theorem dX5_takeNumber_59 : decode cX5_takeNumber 59 = .ok (.iadd, 1) := by decide +kernel
theorem dX5_takeNumber_60 : decode cX5_takeNumber 60 = .ok (.putfield 54, 3) := by decide +kernel
theorem dX5_takeNumber_63 : decode cX5_takeNumber 63 = .ok (.goto (-58), 3) := by decide +kernel
theorem dX5_takeNumber_66 : decode cX5_takeNumber 66 = .ok (.aload_n 0, 1) := by decide +kernel
theorem dX5_takeNumber_67 : decode cX5_takeNumber 67 = .ok (.aload_n 0, 1) := by decide +kernel
theorem dX5_takeNumber_68 : decode cX5_takeNumber 68 = .ok (.getfield 54, 3) := by decide +kernel
theorem dX5_takeNumber_71 : decode cX5_takeNumber 71 = .ok (.aload_n 0, 1) := by decide +kernel
theorem dX5_takeNumber_72 : decode cX5_takeNumber 72 = .ok (.getfield 51, 3) := by decide +kernel
theorem dX5_takeNumber_75 : decode cX5_takeNumber 75 = .ok (.isub, 1) := by decide +kernel
theorem dX5_takeNumber_76 : decode cX5_takeNumber 76 = .ok (.iconst 2, 1) := by decide +kernel
theorem dX5_takeNumber_77 : decode cX5_takeNumber 77 = .ok (.if_icmp .gt 7, 3) := by decide +kernel
theorem dX5_takeNumber_80 : decode cX5_takeNumber 80 = .ok (.iconst 2, 1) := by decide +kernel
theorem dX5_takeNumber_81 : decode cX5_takeNumber 81 = .ok (.goto 4, 3) := by decide +kernel
theorem dX5_takeNumber_84 : decode cX5_takeNumber 84 = .ok (.iconst 4, 1) := by decide +kernel
theorem dX5_takeNumber_85 : decode cX5_takeNumber 85 = .ok (.putfield 48, 3) := by decide +kernel
theorem dX5_takeNumber_88 : decode cX5_takeNumber 88 = .ok (.return_, 1) := by decide +kernel
theorem dX5_byteAt_0 : decode cX5_byteAt 0 = .ok (.iload_n 1, 1) := by decide +kernel
theorem dX5_byteAt_1 : decode cX5_byteAt 1 = .ok (.ifCond .lt 23, 3) := by decide +kernel
theorem dX5_byteAt_4 : decode cX5_byteAt 4 = .ok (.iload_n 1, 1) := by decide +kernel
theorem dX5_byteAt_5 : decode cX5_byteAt 5 = .ok (.sipush 400, 3) := by decide +kernel
theorem dX5_byteAt_8 : decode cX5_byteAt 8 = .ok (.if_icmp .ge 16, 3) := by decide +kernel
theorem dX5_byteAt_11 : decode cX5_byteAt 11 = .ok (.aload_n 0, 1) := by decide +kernel
theorem dX5_byteAt_12 : decode cX5_byteAt 12 = .ok (.getfield 11, 3) := by decide +kernel
theorem dX5_byteAt_15 : decode cX5_byteAt 15 = .ok (.iload_n 1, 1) := by decide +kernel
theorem dX5_byteAt_16 : decode cX5_byteAt 16 = .ok (.baload, 1) := by decide +kernel
theorem dX5_byteAt_17 : decode cX5_byteAt 17 = .ok (.sipush 255, 3) := by decide +kernel
theorem dX5_byteAt_20 : decode cX5_byteAt 20 = .ok (.iand, 1) := by decide +kernel
theorem dX5_byteAt_21 : decode cX5_byteAt 21 = .ok (.goto 4, 3) := by decide +kernel
theorem dX5_byteAt_24 : decode cX5_byteAt 24 = .ok (.iconst 0, 1) := by decide +kernel
theorem dX5_byteAt_25 : decode cX5_byteAt 25 = .ok (.ireturn, 1) := by decide +kernel
theorem dX5_isBlank_0 : decode cX5_isBlank 0 = .ok (.iload_n 0, 1) := by decide +kernel
theorem dX5_isBlank_1 : decode cX5_isBlank 1 = .ok (.bipush 32, 2) := by decide +kernel
theorem dX5_isBlank_3 : decode cX5_isBlank 3 = .ok (.if_icmp .eq 9, 3) := by decide +kernel
theorem dX5_isBlank_6 : decode cX5_isBlank 6 = .ok (.iload_n 0, 1) := by decide +kernel
theorem dX5_isBlank_7 : decode cX5_isBlank 7 = .ok (.bipush 10, 2) := by decide +kernel
theorem dX5_isBlank_9 : decode cX5_isBlank 9 = .ok (.if_icmp .ne 7, 3) := by decide +kernel
theorem dX5_isBlank_12 : decode cX5_isBlank 12 = .ok (.iconst 1, 1) := by decide +kernel
theorem dX5_isBlank_13 : decode cX5_isBlank 13 = .ok (.goto 4, 3) := by decide +kernel
theorem dX5_isBlank_16 : decode cX5_isBlank 16 = .ok (.iconst 0, 1) := by decide +kernel
theorem dX5_isBlank_17 : decode cX5_isBlank 17 = .ok (.ireturn, 1) := by decide +kernel
theorem dX5_isLetter_0 : decode cX5_isLetter 0 = .ok (.iload_n 0, 1) := by decide +kernel
theorem dX5_isLetter_1 : decode cX5_isLetter 1 = .ok (.bipush 97, 2) := by decide +kernel
theorem dX5_isLetter_3 : decode cX5_isLetter 3 = .ok (.if_icmp .lt 13, 3) := by decide +kernel
theorem dX5_isLetter_6 : decode cX5_isLetter 6 = .ok (.iload_n 0, 1) := by decide +kernel
theorem dX5_isLetter_7 : decode cX5_isLetter 7 = .ok (.bipush 122, 2) := by decide +kernel
theorem dX5_isLetter_9 : decode cX5_isLetter 9 = .ok (.if_icmp .gt 7, 3) := by decide +kernel
theorem dX5_isLetter_12 : decode cX5_isLetter 12 = .ok (.iconst 1, 1) := by decide +kernel
theorem dX5_isLetter_13 : decode cX5_isLetter 13 = .ok (.goto 4, 3) := by decide +kernel
theorem dX5_isLetter_16 : decode cX5_isLetter 16 = .ok (.iconst 0, 1) := by decide +kernel
theorem dX5_isLetter_17 : decode cX5_isLetter 17 = .ok (.ireturn, 1) := by decide +kernel
theorem dX5_isDigit_0 : decode cX5_isDigit 0 = .ok (.iload_n 0, 1) := by decide +kernel
theorem dX5_isDigit_1 : decode cX5_isDigit 1 = .ok (.bipush 48, 2) := by decide +kernel
theorem dX5_isDigit_3 : decode cX5_isDigit 3 = .ok (.if_icmp .lt 13, 3) := by decide +kernel
theorem dX5_isDigit_6 : decode cX5_isDigit 6 = .ok (.iload_n 0, 1) := by decide +kernel
theorem dX5_isDigit_7 : decode cX5_isDigit 7 = .ok (.bipush 57, 2) := by decide +kernel
theorem dX5_isDigit_9 : decode cX5_isDigit 9 = .ok (.if_icmp .gt 7, 3) := by decide +kernel
theorem dX5_isDigit_12 : decode cX5_isDigit 12 = .ok (.iconst 1, 1) := by decide +kernel
theorem dX5_isDigit_13 : decode cX5_isDigit 13 = .ok (.goto 4, 3) := by decide +kernel
theorem dX5_isDigit_16 : decode cX5_isDigit 16 = .ok (.iconst 0, 1) := by decide +kernel
theorem dX5_isDigit_17 : decode cX5_isDigit 17 = .ok (.ireturn, 1) := by decide +kernel
theorem dX6_init_0 : decode cX6_init 0 = .ok (.aload_n 0, 1) := by decide +kernel
theorem dX6_init_1 : decode cX6_init 1 = .ok (.invokespecial 3, 3) := by decide +kernel
theorem dX6_init_4 : decode cX6_init 4 = .ok (.aload_n 0, 1) := by decide +kernel
theorem dX6_init_5 : decode cX6_init 5 = .ok (.bipush 8, 2) := by decide +kernel
theorem dX6_init_7 : decode cX6_init 7 = .ok (.newarray .int, 2) := by decide +kernel
theorem dX6_init_9 : decode cX6_init 9 = .ok (.putfield 9, 3) := by decide +kernel
theorem dX6_init_12 : decode cX6_init 12 = .ok (.aload_n 0, 1) := by decide +kernel
theorem dX6_init_13 : decode cX6_init 13 = .ok (.bipush 8, 2) := by decide +kernel
theorem dX6_init_15 : decode cX6_init 15 = .ok (.newarray .int, 2) := by decide +kernel
theorem dX6_init_17 : decode cX6_init 17 = .ok (.putfield 15, 3) := by decide +kernel
theorem dX6_init_20 : decode cX6_init 20 = .ok (.aload_n 0, 1) := by decide +kernel
theorem dX6_init_21 : decode cX6_init 21 = .ok (.bipush 8, 2) := by decide +kernel
theorem dX6_init_23 : decode cX6_init 23 = .ok (.newarray .int, 2) := by decide +kernel
theorem dX6_init_25 : decode cX6_init 25 = .ok (.putfield 18, 3) := by decide +kernel
theorem dX6_init_28 : decode cX6_init 28 = .ok (.aload_n 0, 1) := by decide +kernel
theorem dX6_init_29 : decode cX6_init 29 = .ok (.iconst 0, 1) := by decide +kernel
theorem dX6_init_30 : decode cX6_init 30 = .ok (.putfield 21, 3) := by decide +kernel
theorem dX6_init_33 : decode cX6_init 33 = .ok (.aload_n 0, 1) := by decide +kernel
theorem dX6_init_34 : decode cX6_init 34 = .ok (.iconst 0, 1) := by decide +kernel
theorem dX6_init_35 : decode cX6_init 35 = .ok (.putfield 25, 3) := by decide +kernel
theorem dX6_init_38 : decode cX6_init 38 = .ok (.return_, 1) := by decide +kernel
theorem dX6_clear_0 : decode cX6_clear 0 = .ok (.aload_n 0, 1) := by decide +kernel
theorem dX6_clear_1 : decode cX6_clear 1 = .ok (.iconst 0, 1) := by decide +kernel
theorem dX6_clear_2 : decode cX6_clear 2 = .ok (.putfield 21, 3) := by decide +kernel
theorem dX6_clear_5 : decode cX6_clear 5 = .ok (.aload_n 0, 1) := by decide +kernel
theorem dX6_clear_6 : decode cX6_clear 6 = .ok (.iconst 0, 1) := by decide +kernel
theorem dX6_clear_7 : decode cX6_clear 7 = .ok (.putfield 25, 3) := by decide +kernel
theorem dX6_clear_10 : decode cX6_clear 10 = .ok (.return_, 1) := by decide +kernel
theorem dX6_isFull_0 : decode cX6_isFull 0 = .ok (.aload_n 0, 1) := by decide +kernel
theorem dX6_isFull_1 : decode cX6_isFull 1 = .ok (.getfield 21, 3) := by decide +kernel
theorem dX6_isFull_4 : decode cX6_isFull 4 = .ok (.aload_n 0, 1) := by decide +kernel
theorem dX6_isFull_5 : decode cX6_isFull 5 = .ok (.getfield 9, 3) := by decide +kernel
theorem dX6_isFull_8 : decode cX6_isFull 8 = .ok (.arraylength, 1) := by decide +kernel
theorem dX6_isFull_9 : decode cX6_isFull 9 = .ok (.if_icmp .lt 7, 3) := by decide +kernel
theorem dX6_isFull_12 : decode cX6_isFull 12 = .ok (.iconst 1, 1) := by decide +kernel
theorem dX6_isFull_13 : decode cX6_isFull 13 = .ok (.goto 4, 3) := by decide +kernel
theorem dX6_isFull_16 : decode cX6_isFull 16 = .ok (.iconst 0, 1) := by decide +kernel
theorem dX6_isFull_17 : decode cX6_isFull 17 = .ok (.ireturn, 1) := by decide +kernel
theorem dX6_length_0 : decode cX6_length 0 = .ok (.aload_n 0, 1) := by decide +kernel
theorem dX6_length_1 : decode cX6_length 1 = .ok (.getfield 21, 3) := by decide +kernel
theorem dX6_length_4 : decode cX6_length 4 = .ok (.ireturn, 1) := by decide +kernel
theorem dX6_total_0 : decode cX6_total 0 = .ok (.aload_n 0, 1) := by decide +kernel
theorem dX6_total_1 : decode cX6_total 1 = .ok (.getfield 25, 3) := by decide +kernel
theorem dX6_total_4 : decode cX6_total 4 = .ok (.ireturn, 1) := by decide +kernel
theorem dX6_append_0 : decode cX6_append 0 = .ok (.aload_n 0, 1) := by decide +kernel
theorem dX6_append_1 : decode cX6_append 1 = .ok (.invokevirtual 28, 3) := by decide +kernel
theorem dX6_append_4 : decode cX6_append 4 = .ok (.ifCond .eq 4, 3) := by decide +kernel
theorem dX6_append_7 : decode cX6_append 7 = .ok (.return_, 1) := by decide +kernel
theorem dX6_append_8 : decode cX6_append 8 = .ok (.aload_n 0, 1) := by decide +kernel
theorem dX6_append_9 : decode cX6_append 9 = .ok (.getfield 9, 3) := by decide +kernel
theorem dX6_append_12 : decode cX6_append 12 = .ok (.aload_n 0, 1) := by decide +kernel
theorem dX6_append_13 : decode cX6_append 13 = .ok (.getfield 21, 3) := by decide +kernel
theorem dX6_append_16 : decode cX6_append 16 = .ok (.iload_n 1, 1) := by decide +kernel
theorem dX6_append_17 : decode cX6_append 17 = .ok (.iastore, 1) := by decide +kernel
theorem dX6_append_18 : decode cX6_append 18 = .ok (.aload_n 0, 1) := by decide +kernel
theorem dX6_append_19 : decode cX6_append 19 = .ok (.iload_n 1, 1) := by decide +kernel
theorem dX6_append_20 : decode cX6_append 20 = .ok (.invokevirtual 32, 3) := by decide +kernel
theorem dX6_append_23 : decode cX6_append 23 = .ok (.aload_n 0, 1) := by decide +kernel
theorem dX6_append_24 : decode cX6_append 24 = .ok (.dup, 1) := by decide +kernel
theorem dX6_append_25 : decode cX6_append 25 = .ok (.getfield 21, 3) := by decide +kernel
theorem dX6_append_28 : decode cX6_append 28 = .ok (.iconst 1, 1) := by decide +kernel
theorem dX6_append_29 : decode cX6_append 29 = .ok (.iadd, 1) := by decide +kernel
theorem dX6_append_30 : decode cX6_append 30 = .ok (.putfield 21, 3) := by decide +kernel
theorem dX6_append_33 : decode cX6_append 33 = .ok (.aload_n 0, 1) := by decide +kernel
theorem dX6_append_34 : decode cX6_append 34 = .ok (.dup, 1) := by decide +kernel
theorem dX6_append_35 : decode cX6_append 35 = .ok (.getfield 25, 3) := by decide +kernel
theorem dX6_append_38 : decode cX6_append 38 = .ok (.iload_n 1, 1) := by decide +kernel
theorem dX6_append_39 : decode cX6_append 39 = .ok (.iadd, 1) := by decide +kernel
theorem dX6_append_40 : decode cX6_append 40 = .ok (.putfield 25, 3) := by decide +kernel
theorem dX6_append_43 : decode cX6_append 43 = .ok (.return_, 1) := by decide +kernel
theorem dX6_insertFalling_0 : decode cX6_insertFalling 0 = .ok (.aload_n 0, 1) := by decide +kernel
theorem dX6_insertFalling_1 : decode cX6_insertFalling 1 = .ok (.getfield 21, 3) := by decide +kernel
theorem dX6_insertFalling_4 : decode cX6_insertFalling 4 = .ok (.istore_n 2, 1) := by decide +kernel
theorem dX6_insertFalling_5 : decode cX6_insertFalling 5 = .ok (.iload_n 2, 1) := by decide +kernel
theorem dX6_insertFalling_6 : decode cX6_insertFalling 6 = .ok (.ifCond .le 35, 3) := by decide +kernel
theorem dX6_insertFalling_9 : decode cX6_insertFalling 9 = .ok (.aload_n 0, 1) := by decide +kernel
theorem dX6_insertFalling_10 : decode cX6_insertFalling 10 = .ok (.getfield 15, 3) := by decide +kernel
theorem dX6_insertFalling_13 : decode cX6_insertFalling 13 = .ok (.iload_n 2, 1) := by decide +kernel
theorem dX6_insertFalling_14 : decode cX6_insertFalling 14 = .ok (.iconst 1, 1) := by decide +kernel
theorem dX6_insertFalling_15 : decode cX6_insertFalling 15 = .ok (.isub, 1) := by decide +kernel
theorem dX6_insertFalling_16 : decode cX6_insertFalling 16 = .ok (.iaload, 1) := by decide +kernel
theorem dX6_insertFalling_17 : decode cX6_insertFalling 17 = .ok (.iload_n 1, 1) := by decide +kernel
theorem dX6_insertFalling_18 : decode cX6_insertFalling 18 = .ok (.if_icmp .ge 23, 3) := by decide +kernel
theorem dX6_insertFalling_21 : decode cX6_insertFalling 21 = .ok (.aload_n 0, 1) := by decide +kernel
theorem dX6_insertFalling_22 : decode cX6_insertFalling 22 = .ok (.getfield 15, 3) := by decide +kernel
theorem dX6_insertFalling_25 : decode cX6_insertFalling 25 = .ok (.iload_n 2, 1) := by decide +kernel
theorem dX6_insertFalling_26 : decode cX6_insertFalling 26 = .ok (.aload_n 0, 1) := by decide +kernel
theorem dX6_insertFalling_27 : decode cX6_insertFalling 27 = .ok (.getfield 15, 3) := by decide +kernel
theorem dX6_insertFalling_30 : decode cX6_insertFalling 30 = .ok (.iload_n 2, 1) := by decide +kernel
theorem dX6_insertFalling_31 : decode cX6_insertFalling 31 = .ok (.iconst 1, 1) := by decide +kernel
theorem dX6_insertFalling_32 : decode cX6_insertFalling 32 = .ok (.isub, 1) := by decide +kernel
theorem dX6_insertFalling_33 : decode cX6_insertFalling 33 = .ok (.iaload, 1) := by decide +kernel
theorem dX6_insertFalling_34 : decode cX6_insertFalling 34 = .ok (.iastore, 1) := by decide +kernel
theorem dX6_insertFalling_35 : decode cX6_insertFalling 35 = .ok (.iinc 2 (-1), 3) := by decide +kernel
theorem dX6_insertFalling_38 : decode cX6_insertFalling 38 = .ok (.goto (-33), 3) := by decide +kernel
theorem dX6_insertFalling_41 : decode cX6_insertFalling 41 = .ok (.aload_n 0, 1) := by decide +kernel
theorem dX6_insertFalling_42 : decode cX6_insertFalling 42 = .ok (.getfield 15, 3) := by decide +kernel
theorem dX6_insertFalling_45 : decode cX6_insertFalling 45 = .ok (.iload_n 2, 1) := by decide +kernel
theorem dX6_insertFalling_46 : decode cX6_insertFalling 46 = .ok (.iload_n 1, 1) := by decide +kernel
theorem dX6_insertFalling_47 : decode cX6_insertFalling 47 = .ok (.iastore, 1) := by decide +kernel
theorem dX6_insertFalling_48 : decode cX6_insertFalling 48 = .ok (.return_, 1) := by decide +kernel
theorem dX6_take_0 : decode cX6_take 0 = .ok (.aload_n 0, 1) := by decide +kernel
theorem dX6_take_1 : decode cX6_take 1 = .ok (.invokevirtual 36, 3) := by decide +kernel
theorem dX6_take_4 : decode cX6_take 4 = .ok (.iconst 0, 1) := by decide +kernel
theorem dX6_take_5 : decode cX6_take 5 = .ok (.istore_n 2, 1) := by decide +kernel
theorem dX6_take_6 : decode cX6_take 6 = .ok (.iload_n 2, 1) := by decide +kernel
theorem dX6_take_7 : decode cX6_take 7 = .ok (.aload_n 1, 1) := by decide +kernel
theorem dX6_take_8 : decode cX6_take 8 = .ok (.invokevirtual 39, 3) := by decide +kernel
theorem dX6_take_11 : decode cX6_take 11 = .ok (.if_icmp .ge 18, 3) := by decide +kernel
theorem dX6_take_14 : decode cX6_take 14 = .ok (.aload_n 0, 1) := by decide +kernel
theorem dX6_take_15 : decode cX6_take 15 = .ok (.aload_n 1, 1) := by decide +kernel
theorem dX6_take_16 : decode cX6_take 16 = .ok (.iload_n 2, 1) := by decide +kernel
theorem dX6_take_17 : decode cX6_take 17 = .ok (.invokevirtual 45, 3) := by decide +kernel
theorem dX6_take_20 : decode cX6_take 20 = .ok (.invokevirtual 49, 3) := by decide +kernel
theorem dX6_take_23 : decode cX6_take 23 = .ok (.iinc 2 1, 3) := by decide +kernel
theorem dX6_take_26 : decode cX6_take 26 = .ok (.goto (-20), 3) := by decide +kernel
theorem dX6_take_29 : decode cX6_take 29 = .ok (.return_, 1) := by decide +kernel
theorem dX6_greatest_0 : decode cX6_greatest 0 = .ok (.aload_n 0, 1) := by decide +kernel
theorem dX6_greatest_1 : decode cX6_greatest 1 = .ok (.getfield 15, 3) := by decide +kernel
theorem dX6_greatest_4 : decode cX6_greatest 4 = .ok (.iload_n 1, 1) := by decide +kernel
theorem dX6_greatest_5 : decode cX6_greatest 5 = .ok (.iaload, 1) := by decide +kernel
theorem dX6_greatest_6 : decode cX6_greatest 6 = .ok (.ireturn, 1) := by decide +kernel
theorem dX6_slackOf_0 : decode cX6_slackOf 0 = .ok (.iload_n 1, 1) := by decide +kernel
theorem dX6_slackOf_1 : decode cX6_slackOf 1 = .ok (.iload_n 1, 1) := by decide +kernel
theorem dX6_slackOf_2 : decode cX6_slackOf 2 = .ok (.iconst 1, 1) := by decide +kernel
theorem dX6_slackOf_3 : decode cX6_slackOf 3 = .ok (.isub, 1) := by decide +kernel
theorem dX6_slackOf_4 : decode cX6_slackOf 4 = .ok (.imul, 1) := by decide +kernel
theorem dX6_slackOf_5 : decode cX6_slackOf 5 = .ok (.istore_n 2, 1) := by decide +kernel
theorem dX6_slackOf_6 : decode cX6_slackOf 6 = .ok (.iconst 0, 1) := by decide +kernel
theorem dX6_slackOf_7 : decode cX6_slackOf 7 = .ok (.istore_n 3, 1) := by decide +kernel
theorem dX6_slackOf_8 : decode cX6_slackOf 8 = .ok (.iload_n 3, 1) := by decide +kernel
theorem dX6_slackOf_9 : decode cX6_slackOf 9 = .ok (.aload_n 0, 1) := by decide +kernel
theorem dX6_slackOf_10 : decode cX6_slackOf 10 = .ok (.getfield 21, 3) := by decide +kernel
theorem dX6_slackOf_13 : decode cX6_slackOf 13 = .ok (.if_icmp .ge 37, 3) := by decide +kernel
theorem dX6_slackOf_16 : decode cX6_slackOf 16 = .ok (.iload_n 2, 1) := by decide +kernel
theorem dX6_slackOf_17 : decode cX6_slackOf 17 = .ok (.iload_n 3, 1) := by decide +kernel
theorem dX6_slackOf_18 : decode cX6_slackOf 18 = .ok (.iload_n 1, 1) := by decide +kernel
theorem dX6_slackOf_19 : decode cX6_slackOf 19 = .ok (.if_icmp .ge 13, 3) := by decide +kernel
theorem dX6_slackOf_22 : decode cX6_slackOf 22 = .ok (.aload_n 0, 1) := by decide +kernel
theorem dX6_slackOf_23 : decode cX6_slackOf 23 = .ok (.getfield 15, 3) := by decide +kernel
theorem dX6_slackOf_26 : decode cX6_slackOf 26 = .ok (.iload_n 3, 1) := by decide +kernel
theorem dX6_slackOf_27 : decode cX6_slackOf 27 = .ok (.iaload, 1) := by decide +kernel
theorem dX6_slackOf_28 : decode cX6_slackOf 28 = .ok (.ineg, 1) := by decide +kernel
theorem dX6_slackOf_29 : decode cX6_slackOf 29 = .ok (.goto 13, 3) := by decide +kernel
theorem dX6_slackOf_32 : decode cX6_slackOf 32 = .ok (.iload_n 1, 1) := by decide +kernel
theorem dX6_slackOf_33 : decode cX6_slackOf 33 = .ok (.aload_n 0, 1) := by decide +kernel
theorem dX6_slackOf_34 : decode cX6_slackOf 34 = .ok (.getfield 15, 3) := by decide +kernel
theorem dX6_slackOf_37 : decode cX6_slackOf 37 = .ok (.iload_n 3, 1) := by decide +kernel
theorem dX6_slackOf_38 : decode cX6_slackOf 38 = .ok (.iaload, 1) := by decide +kernel
theorem dX6_slackOf_39 : decode cX6_slackOf 39 = .ok (.invokestatic 52, 3) := by decide +kernel
theorem dX6_slackOf_42 : decode cX6_slackOf 42 = .ok (.iadd, 1) := by decide +kernel
theorem dX6_slackOf_43 : decode cX6_slackOf 43 = .ok (.istore_n 2, 1) := by decide +kernel
theorem dX6_slackOf_44 : decode cX6_slackOf 44 = .ok (.iinc 3 1, 3) := by decide +kernel
theorem dX6_slackOf_47 : decode cX6_slackOf 47 = .ok (.goto (-39), 3) := by decide +kernel
theorem dX6_slackOf_50 : decode cX6_slackOf 50 = .ok (.iload_n 2, 1) := by decide +kernel
theorem dX6_slackOf_51 : decode cX6_slackOf 51 = .ok (.ireturn, 1) := by decide +kernel
theorem dX6_allows_0 : decode cX6_allows 0 = .ok (.aload_n 0, 1) := by decide +kernel
theorem dX6_allows_1 : decode cX6_allows 1 = .ok (.getfield 25, 3) := by decide +kernel
theorem dX6_allows_4 : decode cX6_allows 4 = .ok (.iconst 2, 1) := by decide +kernel
theorem dX6_allows_5 : decode cX6_allows 5 = .ok (.irem, 1) := by decide +kernel
theorem dX6_allows_6 : decode cX6_allows 6 = .ok (.ifCond .eq 5, 3) := by decide +kernel
theorem dX6_allows_9 : decode cX6_allows 9 = .ok (.iconst 0, 1) := by decide +kernel
theorem dX6_allows_10 : decode cX6_allows 10 = .ok (.ireturn, 1) := by decide +kernel
theorem dX6_allows_11 : decode cX6_allows 11 = .ok (.iload_n 1, 1) := by decide +kernel
theorem dX6_allows_12 : decode cX6_allows 12 = .ok (.iconst 1, 1) := by decide +kernel
theorem dX6_allows_13 : decode cX6_allows 13 = .ok (.if_icmp .ne 36, 3) := by decide +kernel
theorem dX6_allows_16 : decode cX6_allows 16 = .ok (.aload_n 0, 1) := by decide +kernel
theorem dX6_allows_17 : decode cX6_allows 17 = .ok (.getfield 21, 3) := by decide +kernel
theorem dX6_allows_20 : decode cX6_allows 20 = .ok (.ifCond .eq 23, 3) := by decide +kernel
theorem dX6_allows_23 : decode cX6_allows 23 = .ok (.aload_n 0, 1) := by decide +kernel
theorem dX6_allows_24 : decode cX6_allows 24 = .ok (.getfield 15, 3) := by decide +kernel
theorem dX6_allows_27 : decode cX6_allows 27 = .ok (.iconst 0, 1) := by decide +kernel
theorem dX6_allows_28 : decode cX6_allows 28 = .ok (.iaload, 1) := by decide +kernel
theorem dX6_allows_29 : decode cX6_allows 29 = .ok (.aload_n 0, 1) := by decide +kernel
theorem dX6_allows_30 : decode cX6_allows 30 = .ok (.getfield 25, 3) := by decide +kernel
theorem dX6_allows_33 : decode cX6_allows 33 = .ok (.aload_n 0, 1) := by decide +kernel
theorem dX6_allows_34 : decode cX6_allows 34 = .ok (.getfield 15, 3) := by decide +kernel
theorem dX6_allows_37 : decode cX6_allows 37 = .ok (.iconst 0, 1) := by decide +kernel
theorem dX6_allows_38 : decode cX6_allows 38 = .ok (.iaload, 1) := by decide +kernel
theorem dX6_allows_39 : decode cX6_allows 39 = .ok (.isub, 1) := by decide +kernel
theorem dX6_allows_40 : decode cX6_allows 40 = .ok (.if_icmp .gt 7, 3) := by decide +kernel
theorem dX6_allows_43 : decode cX6_allows 43 = .ok (.iconst 1, 1) := by decide +kernel
theorem dX6_allows_44 : decode cX6_allows 44 = .ok (.goto 4, 3) := by decide +kernel
theorem dX6_allows_47 : decode cX6_allows 47 = .ok (.iconst 0, 1) := by decide +kernel
theorem dX6_allows_48 : decode cX6_allows 48 = .ok (.ireturn, 1) := by decide +kernel
theorem dX6_allows_49 : decode cX6_allows 49 = .ok (.iload_n 1, 1) := by decide +kernel
theorem dX6_allows_50 : decode cX6_allows 50 = .ok (.iconst 2, 1) := by decide +kernel
theorem dX6_allows_51 : decode cX6_allows 51 = .ok (.if_icmp .ne 10, 3) := by decide +kernel
theorem dX6_allows_54 : decode cX6_allows 54 = .ok (.aload_n 0, 1) := by decide +kernel
theorem dX6_allows_55 : decode cX6_allows 55 = .ok (.invokevirtual 58, 3) := by decide +kernel
theorem dX6_allows_58 : decode cX6_allows 58 = .ok (.ifCond .eq 7, 3) := by decide +kernel
theorem dX6_allows_61 : decode cX6_allows 61 = .ok (.iconst 1, 1) := by decide +kernel
theorem dX6_allows_62 : decode cX6_allows 62 = .ok (.goto 4, 3) := by decide +kernel
theorem dX6_allows_65 : decode cX6_allows 65 = .ok (.iconst 0, 1) := by decide +kernel
theorem dX6_allows_66 : decode cX6_allows 66 = .ok (.ireturn, 1) := by decide +kernel
theorem dX6_hasNoNegativeSlack_0 : decode cX6_hasNoNegativeSlack 0 = .ok (.iconst 1, 1) := by decide +kernel
theorem dX6_hasNoNegativeSlack_1 : decode cX6_hasNoNegativeSlack 1 = .ok (.istore_n 1, 1) := by decide +kernel
theorem dX6_hasNoNegativeSlack_2 : decode cX6_hasNoNegativeSlack 2 = .ok (.iload_n 1, 1) := by decide +kernel
theorem dX6_hasNoNegativeSlack_3 : decode cX6_hasNoNegativeSlack 3 = .ok (.aload_n 0, 1) := by decide +kernel
theorem dX6_hasNoNegativeSlack_4 : decode cX6_hasNoNegativeSlack 4 = .ok (.getfield 21, 3) := by decide +kernel
theorem dX6_hasNoNegativeSlack_7 : decode cX6_hasNoNegativeSlack 7 = .ok (.if_icmp .gt 19, 3) := by decide +kernel
theorem dX6_hasNoNegativeSlack_10 : decode cX6_hasNoNegativeSlack 10 = .ok (.aload_n 0, 1) := by decide +kernel
theorem dX6_hasNoNegativeSlack_11 : decode cX6_hasNoNegativeSlack 11 = .ok (.iload_n 1, 1) := by decide +kernel
theorem dX6_hasNoNegativeSlack_12 : decode cX6_hasNoNegativeSlack 12 = .ok (.invokevirtual 61, 3) := by decide +kernel
theorem dX6_hasNoNegativeSlack_15 : decode cX6_hasNoNegativeSlack 15 = .ok (.ifCond .ge 5, 3) := by decide +kernel
theorem dX6_hasNoNegativeSlack_18 : decode cX6_hasNoNegativeSlack 18 = .ok (.iconst 0, 1) := by decide +kernel
theorem dX6_hasNoNegativeSlack_19 : decode cX6_hasNoNegativeSlack 19 = .ok (.ireturn, 1) := by decide +kernel
theorem dX6_hasNoNegativeSlack_20 : decode cX6_hasNoNegativeSlack 20 = .ok (.iinc 1 1, 3) := by decide +kernel
theorem dX6_hasNoNegativeSlack_23 : decode cX6_hasNoNegativeSlack 23 = .ok (.goto (-21), 3) := by decide +kernel
theorem dX6_hasNoNegativeSlack_26 : decode cX6_hasNoNegativeSlack 26 = .ok (.iconst 1, 1) := by decide +kernel
theorem dX6_hasNoNegativeSlack_27 : decode cX6_hasNoNegativeSlack 27 = .ok (.ireturn, 1) := by decide +kernel
theorem dX6_build_0 : decode cX6_build 0 = .ok (.aload_n 1, 1) := by decide +kernel
theorem dX6_build_1 : decode cX6_build 1 = .ok (.aload_n 0, 1) := by decide +kernel
theorem dX6_build_2 : decode cX6_build 2 = .ok (.getfield 21, 3) := by decide +kernel
theorem dX6_build_5 : decode cX6_build 5 = .ok (.invokevirtual 64, 3) := by decide +kernel
theorem dX6_build_8 : decode cX6_build 8 = .ok (.iconst 0, 1) := by decide +kernel
theorem dX6_build_9 : decode cX6_build 9 = .ok (.istore_n 3, 1) := by decide +kernel
theorem dX6_build_10 : decode cX6_build 10 = .ok (.iload_n 3, 1) := by decide +kernel
theorem dX6_build_11 : decode cX6_build 11 = .ok (.aload_n 0, 1) := by decide +kernel
theorem dX6_build_12 : decode cX6_build 12 = .ok (.getfield 21, 3) := by decide +kernel
theorem dX6_build_15 : decode cX6_build 15 = .ok (.if_icmp .ge 21, 3) := by decide +kernel
theorem dX6_build_18 : decode cX6_build 18 = .ok (.aload_n 0, 1) := by decide +kernel
theorem dX6_build_19 : decode cX6_build 19 = .ok (.getfield 18, 3) := by decide +kernel
theorem dX6_build_22 : decode cX6_build 22 = .ok (.iload_n 3, 1) := by decide +kernel
theorem dX6_build_23 : decode cX6_build 23 = .ok (.aload_n 0, 1) := by decide +kernel
theorem dX6_build_24 : decode cX6_build 24 = .ok (.getfield 9, 3) := by decide +kernel
theorem dX6_build_27 : decode cX6_build 27 = .ok (.iload_n 3, 1) := by decide +kernel
theorem dX6_build_28 : decode cX6_build 28 = .ok (.iaload, 1) := by decide +kernel
theorem dX6_build_29 : decode cX6_build 29 = .ok (.iastore, 1) := by decide +kernel
theorem dX6_build_30 : decode cX6_build 30 = .ok (.iinc 3 1, 3) := by decide +kernel
theorem dX6_build_33 : decode cX6_build 33 = .ok (.goto (-23), 3) := by decide +kernel
theorem dX6_build_36 : decode cX6_build 36 = .ok (.iload_n 2, 1) := by decide +kernel
theorem dX6_build_37 : decode cX6_build 37 = .ok (.ifCond .ne 11, 3) := by decide +kernel
theorem dX6_build_40 : decode cX6_build 40 = .ok (.aload_n 0, 1) := by decide +kernel
theorem dX6_build_41 : decode cX6_build 41 = .ok (.aload_n 1, 1) := by decide +kernel
theorem dX6_build_42 : decode cX6_build 42 = .ok (.invokevirtual 66, 3) := by decide +kernel
theorem dX6_build_45 : decode cX6_build 45 = .ok (.goto 21, 3) := by decide +kernel
theorem dX6_build_48 : decode cX6_build 48 = .ok (.iload_n 2, 1) := by decide +kernel
theorem dX6_build_49 : decode cX6_build 49 = .ok (.iconst 1, 1) := by decide +kernel
theorem dX6_build_50 : decode cX6_build 50 = .ok (.if_icmp .ne 11, 3) := by decide +kernel
theorem dX6_build_53 : decode cX6_build 53 = .ok (.aload_n 0, 1) := by decide +kernel
theorem dX6_build_54 : decode cX6_build 54 = .ok (.aload_n 1, 1) := by decide +kernel
theorem dX6_build_55 : decode cX6_build 55 = .ok (.invokevirtual 70, 3) := by decide +kernel
theorem dX6_build_58 : decode cX6_build 58 = .ok (.goto 8, 3) := by decide +kernel
theorem dX6_build_61 : decode cX6_build 61 = .ok (.aload_n 0, 1) := by decide +kernel
theorem dX6_build_62 : decode cX6_build 62 = .ok (.aload_n 1, 1) := by decide +kernel
theorem dX6_build_63 : decode cX6_build 63 = .ok (.invokevirtual 73, 3) := by decide +kernel
theorem dX6_build_66 : decode cX6_build 66 = .ok (.return_, 1) := by decide +kernel
theorem dX6_buildWithLoops_0 : decode cX6_buildWithLoops 0 = .ok (.iconst (-1), 1) := by decide +kernel
theorem dX6_buildWithLoops_1 : decode cX6_buildWithLoops 1 = .ok (.istore_n 2, 1) := by decide +kernel
theorem dX6_buildWithLoops_2 : decode cX6_buildWithLoops 2 = .ok (.iconst 0, 1) := by decide +kernel
theorem dX6_buildWithLoops_3 : decode cX6_buildWithLoops 3 = .ok (.istore_n 3, 1) := by decide +kernel
theorem dX6_buildWithLoops_4 : decode cX6_buildWithLoops 4 = .ok (.iload_n 3, 1) := by decide +kernel
theorem dX6_buildWithLoops_5 : decode cX6_buildWithLoops 5 = .ok (.aload_n 0, 1) := by decide +kernel
theorem dX6_buildWithLoops_6 : decode cX6_buildWithLoops 6 = .ok (.getfield 21, 3) := by decide +kernel
theorem dX6_buildWithLoops_9 : decode cX6_buildWithLoops 9 = .ok (.if_icmp .ge 64, 3) := by decide +kernel
theorem dX6_buildWithLoops_12 : decode cX6_buildWithLoops 12 = .ok (.aload_n 1, 1) := by decide +kernel
theorem dX6_buildWithLoops_13 : decode cX6_buildWithLoops 13 = .ok (.iload_n 3, 1) := by decide +kernel
theorem dX6_buildWithLoops_14 : decode cX6_buildWithLoops 14 = .ok (.iload_n 3, 1) := by decide +kernel
end
section
theorem dX6_buildWithLoops_15 : decode cX6_buildWithLoops 15 = .ok (.aload_n 0, 1) := by decide +kernel
theorem dX6_buildWithLoops_16 : decode cX6_buildWithLoops 16 = .ok (.getfield 18, 3) := by decide +kernel
theorem dX6_buildWithLoops_19 : decode cX6_buildWithLoops 19 = .ok (.iload_n 3, 1) := by decide +kernel
theorem dX6_buildWithLoops_20 : decode cX6_buildWithLoops 20 = .ok (.iaload, 1) := by decide +kernel
theorem dX6_buildWithLoops_21 : decode cX6_buildWithLoops 21 = .ok (.iconst 2, 1) := by decide +kernel
theorem dX6_buildWithLoops_22 : decode cX6_buildWithLoops 22 = .ok (.idiv, 1) := by decide +kernel
theorem dX6_buildWithLoops_23 : decode cX6_buildWithLoops 23 = .ok (.invokevirtual 76, 3) := by decide +kernel
theorem dX6_buildWithLoops_26 : decode cX6_buildWithLoops 26 = .ok (.aload_n 0, 1) := by decide +kernel
theorem dX6_buildWithLoops_27 : decode cX6_buildWithLoops 27 = .ok (.getfield 18, 3) := by decide +kernel
theorem dX6_buildWithLoops_30 : decode cX6_buildWithLoops 30 = .ok (.iload_n 3, 1) := by decide +kernel
theorem dX6_buildWithLoops_31 : decode cX6_buildWithLoops 31 = .ok (.iaload, 1) := by decide +kernel
theorem dX6_buildWithLoops_32 : decode cX6_buildWithLoops 32 = .ok (.iconst 2, 1) := by decide +kernel
theorem dX6_buildWithLoops_33 : decode cX6_buildWithLoops 33 = .ok (.irem, 1) := by decide +kernel
theorem dX6_buildWithLoops_34 : decode cX6_buildWithLoops 34 = .ok (.ifCond .eq 13, 3) := by decide +kernel
theorem dX6_buildWithLoops_37 : decode cX6_buildWithLoops 37 = .ok (.iload_n 2, 1) := by decide +kernel
theorem dX6_buildWithLoops_38 : decode cX6_buildWithLoops 38 = .ok (.iconst (-1), 1) := by decide +kernel
theorem dX6_buildWithLoops_39 : decode cX6_buildWithLoops 39 = .ok (.if_icmp .ne 8, 3) := by decide +kernel
theorem dX6_buildWithLoops_42 : decode cX6_buildWithLoops 42 = .ok (.iload_n 3, 1) := by decide +kernel
theorem dX6_buildWithLoops_43 : decode cX6_buildWithLoops 43 = .ok (.istore_n 2, 1) := by decide +kernel
theorem dX6_buildWithLoops_44 : decode cX6_buildWithLoops 44 = .ok (.goto 23, 3) := by decide +kernel
theorem dX6_buildWithLoops_47 : decode cX6_buildWithLoops 47 = .ok (.aload_n 0, 1) := by decide +kernel
theorem dX6_buildWithLoops_48 : decode cX6_buildWithLoops 48 = .ok (.getfield 18, 3) := by decide +kernel
theorem dX6_buildWithLoops_51 : decode cX6_buildWithLoops 51 = .ok (.iload_n 3, 1) := by decide +kernel
theorem dX6_buildWithLoops_52 : decode cX6_buildWithLoops 52 = .ok (.iaload, 1) := by decide +kernel
theorem dX6_buildWithLoops_53 : decode cX6_buildWithLoops 53 = .ok (.iconst 2, 1) := by decide +kernel
theorem dX6_buildWithLoops_54 : decode cX6_buildWithLoops 54 = .ok (.irem, 1) := by decide +kernel
theorem dX6_buildWithLoops_55 : decode cX6_buildWithLoops 55 = .ok (.ifCond .eq 12, 3) := by decide +kernel
theorem dX6_buildWithLoops_58 : decode cX6_buildWithLoops 58 = .ok (.aload_n 1, 1) := by decide +kernel
theorem dX6_buildWithLoops_59 : decode cX6_buildWithLoops 59 = .ok (.iload_n 2, 1) := by decide +kernel
theorem dX6_buildWithLoops_60 : decode cX6_buildWithLoops 60 = .ok (.iload_n 3, 1) := by decide +kernel
theorem dX6_buildWithLoops_61 : decode cX6_buildWithLoops 61 = .ok (.iconst 1, 1) := by decide +kernel
theorem dX6_buildWithLoops_62 : decode cX6_buildWithLoops 62 = .ok (.invokevirtual 76, 3) := by decide +kernel
theorem dX6_buildWithLoops_65 : decode cX6_buildWithLoops 65 = .ok (.iconst (-1), 1) := by decide +kernel
theorem dX6_buildWithLoops_66 : decode cX6_buildWithLoops 66 = .ok (.istore_n 2, 1) := by decide +kernel
theorem dX6_buildWithLoops_67 : decode cX6_buildWithLoops 67 = .ok (.iinc 3 1, 3) := by decide +kernel
theorem dX6_buildWithLoops_70 : decode cX6_buildWithLoops 70 = .ok (.goto (-66), 3) := by decide +kernel
theorem dX6_buildWithLoops_73 : decode cX6_buildWithLoops 73 = .ok (.return_, 1) := by decide +kernel
theorem dX6_buildWithoutLoops_0 : decode cX6_buildWithoutLoops 0 = .ok (.iconst 0, 1) := by decide +kernel
theorem dX6_buildWithoutLoops_1 : decode cX6_buildWithoutLoops 1 = .ok (.istore_n 2, 1) := by decide +kernel
theorem dX6_buildWithoutLoops_2 : decode cX6_buildWithoutLoops 2 = .ok (.iload_n 2, 1) := by decide +kernel
theorem dX6_buildWithoutLoops_3 : decode cX6_buildWithoutLoops 3 = .ok (.bipush 16, 2) := by decide +kernel
theorem dX6_buildWithoutLoops_5 : decode cX6_buildWithoutLoops 5 = .ok (.if_icmp .ge 34, 3) := by decide +kernel
theorem dX6_buildWithoutLoops_8 : decode cX6_buildWithoutLoops 8 = .ok (.aload_n 0, 1) := by decide +kernel
theorem dX6_buildWithoutLoops_9 : decode cX6_buildWithoutLoops 9 = .ok (.iconst 0, 1) := by decide +kernel
theorem dX6_buildWithoutLoops_10 : decode cX6_buildWithoutLoops 10 = .ok (.invokevirtual 80, 3) := by decide +kernel
theorem dX6_buildWithoutLoops_13 : decode cX6_buildWithoutLoops 13 = .ok (.istore_n 3, 1) := by decide +kernel
theorem dX6_buildWithoutLoops_14 : decode cX6_buildWithoutLoops 14 = .ok (.iload_n 3, 1) := by decide +kernel
theorem dX6_buildWithoutLoops_15 : decode cX6_buildWithoutLoops 15 = .ok (.iconst (-1), 1) := by decide +kernel
theorem dX6_buildWithoutLoops_16 : decode cX6_buildWithoutLoops 16 = .ok (.if_icmp .ne 4, 3) := by decide +kernel
theorem dX6_buildWithoutLoops_19 : decode cX6_buildWithoutLoops 19 = .ok (.return_, 1) := by decide +kernel
theorem dX6_buildWithoutLoops_20 : decode cX6_buildWithoutLoops 20 = .ok (.aload_n 0, 1) := by decide +kernel
theorem dX6_buildWithoutLoops_21 : decode cX6_buildWithoutLoops 21 = .ok (.aload_n 1, 1) := by decide +kernel
theorem dX6_buildWithoutLoops_22 : decode cX6_buildWithoutLoops 22 = .ok (.iload_n 3, 1) := by decide +kernel
theorem dX6_buildWithoutLoops_23 : decode cX6_buildWithoutLoops 23 = .ok (.aload_n 0, 1) := by decide +kernel
theorem dX6_buildWithoutLoops_24 : decode cX6_buildWithoutLoops 24 = .ok (.iconst 1, 1) := by decide +kernel
theorem dX6_buildWithoutLoops_25 : decode cX6_buildWithoutLoops 25 = .ok (.iload_n 3, 1) := by decide +kernel
theorem dX6_buildWithoutLoops_26 : decode cX6_buildWithoutLoops 26 = .ok (.ishl, 1) := by decide +kernel
theorem dX6_buildWithoutLoops_27 : decode cX6_buildWithoutLoops 27 = .ok (.invokevirtual 80, 3) := by decide +kernel
theorem dX6_buildWithoutLoops_30 : decode cX6_buildWithoutLoops 30 = .ok (.invokevirtual 83, 3) := by decide +kernel
theorem dX6_buildWithoutLoops_33 : decode cX6_buildWithoutLoops 33 = .ok (.iinc 2 1, 3) := by decide +kernel
theorem dX6_buildWithoutLoops_36 : decode cX6_buildWithoutLoops 36 = .ok (.goto (-34), 3) := by decide +kernel
theorem dX6_buildWithoutLoops_39 : decode cX6_buildWithoutLoops 39 = .ok (.return_, 1) := by decide +kernel
theorem dX6_buildSimple_0 : decode cX6_buildSimple 0 = .ok (.iconst 0, 1) := by decide +kernel
theorem dX6_buildSimple_1 : decode cX6_buildSimple 1 = .ok (.istore_n 2, 1) := by decide +kernel
theorem dX6_buildSimple_2 : decode cX6_buildSimple 2 = .ok (.iload_n 2, 1) := by decide +kernel
theorem dX6_buildSimple_3 : decode cX6_buildSimple 3 = .ok (.bipush 8, 2) := by decide +kernel
theorem dX6_buildSimple_5 : decode cX6_buildSimple 5 = .ok (.if_icmp .ge 87, 3) := by decide +kernel
theorem dX6_buildSimple_8 : decode cX6_buildSimple 8 = .ok (.aload_n 0, 1) := by decide +kernel
theorem dX6_buildSimple_9 : decode cX6_buildSimple 9 = .ok (.iconst 0, 1) := by decide +kernel
theorem dX6_buildSimple_10 : decode cX6_buildSimple 10 = .ok (.invokevirtual 80, 3) := by decide +kernel
theorem dX6_buildSimple_13 : decode cX6_buildSimple 13 = .ok (.istore_n 3, 1) := by decide +kernel
theorem dX6_buildSimple_14 : decode cX6_buildSimple 14 = .ok (.iload_n 3, 1) := by decide +kernel
theorem dX6_buildSimple_15 : decode cX6_buildSimple 15 = .ok (.iconst (-1), 1) := by decide +kernel
theorem dX6_buildSimple_16 : decode cX6_buildSimple 16 = .ok (.if_icmp .ne 4, 3) := by decide +kernel
theorem dX6_buildSimple_19 : decode cX6_buildSimple 19 = .ok (.return_, 1) := by decide +kernel
theorem dX6_buildSimple_20 : decode cX6_buildSimple 20 = .ok (.iconst 1, 1) := by decide +kernel
theorem dX6_buildSimple_21 : decode cX6_buildSimple 21 = .ok (.iload_n 3, 1) := by decide +kernel
theorem dX6_buildSimple_22 : decode cX6_buildSimple 22 = .ok (.ishl, 1) := by decide +kernel
theorem dX6_buildSimple_23 : decode cX6_buildSimple 23 = .ok (.istore 4, 2) := by decide +kernel
theorem dX6_buildSimple_25 : decode cX6_buildSimple 25 = .ok (.aload_n 0, 1) := by decide +kernel
theorem dX6_buildSimple_26 : decode cX6_buildSimple 26 = .ok (.getfield 18, 3) := by decide +kernel
theorem dX6_buildSimple_29 : decode cX6_buildSimple 29 = .ok (.iload_n 3, 1) := by decide +kernel
theorem dX6_buildSimple_30 : decode cX6_buildSimple 30 = .ok (.iaload, 1) := by decide +kernel
theorem dX6_buildSimple_31 : decode cX6_buildSimple 31 = .ok (.aload_n 0, 1) := by decide +kernel
theorem dX6_buildSimple_32 : decode cX6_buildSimple 32 = .ok (.getfield 21, 3) := by decide +kernel
theorem dX6_buildSimple_35 : decode cX6_buildSimple 35 = .ok (.invokestatic 52, 3) := by decide +kernel
theorem dX6_buildSimple_38 : decode cX6_buildSimple 38 = .ok (.istore 5, 2) := by decide +kernel
theorem dX6_buildSimple_40 : decode cX6_buildSimple 40 = .ok (.iload 5, 2) := by decide +kernel
theorem dX6_buildSimple_42 : decode cX6_buildSimple 42 = .ok (.ifCond .le 44, 3) := by decide +kernel
theorem dX6_buildSimple_45 : decode cX6_buildSimple 45 = .ok (.aload_n 0, 1) := by decide +kernel
theorem dX6_buildSimple_46 : decode cX6_buildSimple 46 = .ok (.iload 4, 2) := by decide +kernel
theorem dX6_buildSimple_48 : decode cX6_buildSimple 48 = .ok (.invokevirtual 80, 3) := by decide +kernel
theorem dX6_buildSimple_51 : decode cX6_buildSimple 51 = .ok (.istore 6, 2) := by decide +kernel
theorem dX6_buildSimple_53 : decode cX6_buildSimple 53 = .ok (.aload_n 0, 1) := by decide +kernel
theorem dX6_buildSimple_54 : decode cX6_buildSimple 54 = .ok (.aload_n 1, 1) := by decide +kernel
theorem dX6_buildSimple_55 : decode cX6_buildSimple 55 = .ok (.iload_n 3, 1) := by decide +kernel
theorem dX6_buildSimple_56 : decode cX6_buildSimple 56 = .ok (.iload 6, 2) := by decide +kernel
theorem dX6_buildSimple_58 : decode cX6_buildSimple 58 = .ok (.invokevirtual 83, 3) := by decide +kernel
theorem dX6_buildSimple_61 : decode cX6_buildSimple 61 = .ok (.iload 4, 2) := by decide +kernel
theorem dX6_buildSimple_63 : decode cX6_buildSimple 63 = .ok (.iload 6, 2) := by decide +kernel
theorem dX6_buildSimple_65 : decode cX6_buildSimple 65 = .ok (.iconst (-1), 1) := by decide +kernel
theorem dX6_buildSimple_66 : decode cX6_buildSimple 66 = .ok (.if_icmp .ne 7, 3) := by decide +kernel
theorem dX6_buildSimple_69 : decode cX6_buildSimple 69 = .ok (.iconst 0, 1) := by decide +kernel
theorem dX6_buildSimple_70 : decode cX6_buildSimple 70 = .ok (.goto 7, 3) := by decide +kernel
theorem dX6_buildSimple_73 : decode cX6_buildSimple 73 = .ok (.iconst 1, 1) := by decide +kernel
theorem dX6_buildSimple_74 : decode cX6_buildSimple 74 = .ok (.iload 6, 2) := by decide +kernel
theorem dX6_buildSimple_76 : decode cX6_buildSimple 76 = .ok (.ishl, 1) := by decide +kernel
theorem dX6_buildSimple_77 : decode cX6_buildSimple 77 = .ok (.ior, 1) := by decide +kernel
theorem dX6_buildSimple_78 : decode cX6_buildSimple 78 = .ok (.istore 4, 2) := by decide +kernel
theorem dX6_buildSimple_80 : decode cX6_buildSimple 80 = .ok (.iinc 5 (-1), 3) := by decide +kernel
theorem dX6_buildSimple_83 : decode cX6_buildSimple 83 = .ok (.goto (-43), 3) := by decide +kernel
theorem dX6_buildSimple_86 : decode cX6_buildSimple 86 = .ok (.iinc 2 1, 3) := by decide +kernel
theorem dX6_buildSimple_89 : decode cX6_buildSimple 89 = .ok (.goto (-87), 3) := by decide +kernel
theorem dX6_buildSimple_92 : decode cX6_buildSimple 92 = .ok (.return_, 1) := by decide +kernel
theorem dX6_join_0 : decode cX6_join 0 = .ok (.iload_n 3, 1) := by decide +kernel
theorem dX6_join_1 : decode cX6_join 1 = .ok (.iconst (-1), 1) := by decide +kernel
theorem dX6_join_2 : decode cX6_join 2 = .ok (.if_icmp .ne 4, 3) := by decide +kernel
theorem dX6_join_5 : decode cX6_join 5 = .ok (.return_, 1) := by decide +kernel
theorem dX6_join_6 : decode cX6_join 6 = .ok (.aload_n 1, 1) := by decide +kernel
theorem dX6_join_7 : decode cX6_join 7 = .ok (.iload_n 2, 1) := by decide +kernel
theorem dX6_join_8 : decode cX6_join 8 = .ok (.iload_n 3, 1) := by decide +kernel
theorem dX6_join_9 : decode cX6_join 9 = .ok (.iconst 1, 1) := by decide +kernel
theorem dX6_join_10 : decode cX6_join 10 = .ok (.invokevirtual 76, 3) := by decide +kernel
theorem dX6_join_13 : decode cX6_join 13 = .ok (.aload_n 0, 1) := by decide +kernel
theorem dX6_join_14 : decode cX6_join 14 = .ok (.getfield 18, 3) := by decide +kernel
theorem dX6_join_17 : decode cX6_join 17 = .ok (.iload_n 2, 1) := by decide +kernel
theorem dX6_join_18 : decode cX6_join 18 = .ok (.dup2, 1) := by decide +kernel
theorem dX6_join_19 : decode cX6_join 19 = .ok (.iaload, 1) := by decide +kernel
theorem dX6_join_20 : decode cX6_join 20 = .ok (.iconst 1, 1) := by decide +kernel
theorem dX6_join_21 : decode cX6_join 21 = .ok (.isub, 1) := by decide +kernel
theorem dX6_join_22 : decode cX6_join 22 = .ok (.iastore, 1) := by decide +kernel
theorem dX6_join_23 : decode cX6_join 23 = .ok (.aload_n 0, 1) := by decide +kernel
theorem dX6_join_24 : decode cX6_join 24 = .ok (.getfield 18, 3) := by decide +kernel
theorem dX6_join_27 : decode cX6_join 27 = .ok (.iload_n 3, 1) := by decide +kernel
theorem dX6_join_28 : decode cX6_join 28 = .ok (.dup2, 1) := by decide +kernel
theorem dX6_join_29 : decode cX6_join 29 = .ok (.iaload, 1) := by decide +kernel
theorem dX6_join_30 : decode cX6_join 30 = .ok (.iconst 1, 1) := by decide +kernel
theorem dX6_join_31 : decode cX6_join 31 = .ok (.isub, 1) := by decide +kernel
theorem dX6_join_32 : decode cX6_join 32 = .ok (.iastore, 1) := by decide +kernel
theorem dX6_join_33 : decode cX6_join 33 = .ok (.return_, 1) := by decide +kernel
theorem dX6_neediestBut_0 : decode cX6_neediestBut 0 = .ok (.iconst (-1), 1) := by decide +kernel
theorem dX6_neediestBut_1 : decode cX6_neediestBut 1 = .ok (.istore_n 2, 1) := by decide +kernel
theorem dX6_neediestBut_2 : decode cX6_neediestBut 2 = .ok (.iconst 0, 1) := by decide +kernel
theorem dX6_neediestBut_3 : decode cX6_neediestBut 3 = .ok (.istore_n 3, 1) := by decide +kernel
theorem dX6_neediestBut_4 : decode cX6_neediestBut 4 = .ok (.iconst 0, 1) := by decide +kernel
theorem dX6_neediestBut_5 : decode cX6_neediestBut 5 = .ok (.istore 4, 2) := by decide +kernel
theorem dX6_neediestBut_7 : decode cX6_neediestBut 7 = .ok (.iload 4, 2) := by decide +kernel
theorem dX6_neediestBut_9 : decode cX6_neediestBut 9 = .ok (.aload_n 0, 1) := by decide +kernel
theorem dX6_neediestBut_10 : decode cX6_neediestBut 10 = .ok (.getfield 21, 3) := by decide +kernel
theorem dX6_neediestBut_13 : decode cX6_neediestBut 13 = .ok (.if_icmp .ge 40, 3) := by decide +kernel
theorem dX6_neediestBut_16 : decode cX6_neediestBut 16 = .ok (.aload_n 0, 1) := by decide +kernel
theorem dX6_neediestBut_17 : decode cX6_neediestBut 17 = .ok (.getfield 18, 3) := by decide +kernel
theorem dX6_neediestBut_20 : decode cX6_neediestBut 20 = .ok (.iload 4, 2) := by decide +kernel
theorem dX6_neediestBut_22 : decode cX6_neediestBut 22 = .ok (.iaload, 1) := by decide +kernel
theorem dX6_neediestBut_23 : decode cX6_neediestBut 23 = .ok (.iload_n 3, 1) := by decide +kernel
theorem dX6_neediestBut_24 : decode cX6_neediestBut 24 = .ok (.if_icmp .le 23, 3) := by decide +kernel
theorem dX6_neediestBut_27 : decode cX6_neediestBut 27 = .ok (.iload_n 1, 1) := by decide +kernel
theorem dX6_neediestBut_28 : decode cX6_neediestBut 28 = .ok (.iload 4, 2) := by decide +kernel
theorem dX6_neediestBut_30 : decode cX6_neediestBut 30 = .ok (.ishr, 1) := by decide +kernel
theorem dX6_neediestBut_31 : decode cX6_neediestBut 31 = .ok (.iconst 1, 1) := by decide +kernel
theorem dX6_neediestBut_32 : decode cX6_neediestBut 32 = .ok (.iand, 1) := by decide +kernel
theorem dX6_neediestBut_33 : decode cX6_neediestBut 33 = .ok (.ifCond .ne 14, 3) := by decide +kernel
theorem dX6_neediestBut_36 : decode cX6_neediestBut 36 = .ok (.aload_n 0, 1) := by decide +kernel
theorem dX6_neediestBut_37 : decode cX6_neediestBut 37 = .ok (.getfield 18, 3) := by decide +kernel
theorem dX6_neediestBut_40 : decode cX6_neediestBut 40 = .ok (.iload 4, 2) := by decide +kernel
theorem dX6_neediestBut_42 : decode cX6_neediestBut 42 = .ok (.iaload, 1) := by decide +kernel
theorem dX6_neediestBut_43 : decode cX6_neediestBut 43 = .ok (.istore_n 3, 1) := by decide +kernel
theorem dX6_neediestBut_44 : decode cX6_neediestBut 44 = .ok (.iload 4, 2) := by decide +kernel
theorem dX6_neediestBut_46 : decode cX6_neediestBut 46 = .ok (.istore_n 2, 1) := by decide +kernel
theorem dX6_neediestBut_47 : decode cX6_neediestBut 47 = .ok (.iinc 4 1, 3) := by decide +kernel
theorem dX6_neediestBut_50 : decode cX6_neediestBut 50 = .ok (.goto (-43), 3) := by decide +kernel
theorem dX6_neediestBut_53 : decode cX6_neediestBut 53 = .ok (.iload_n 2, 1) := by decide +kernel
theorem dX6_neediestBut_54 : decode cX6_neediestBut 54 = .ok (.ireturn, 1) := by decide +kernel
theorem dX7_init_0 : decode cX7_init 0 = .ok (.aload_n 0, 1) := by decide +kernel
theorem dX7_init_1 : decode cX7_init 1 = .ok (.invokespecial 3, 3) := by decide +kernel
theorem dX7_init_4 : decode cX7_init 4 = .ok (.aload_n 0, 1) := by decide +kernel
theorem dX7_init_5 : decode cX7_init 5 = .ok (.sipush 1024, 3) := by decide +kernel
theorem dX7_init_8 : decode cX7_init 8 = .ok (.newarray .int, 2) := by decide +kernel
theorem dX7_init_10 : decode cX7_init 10 = .ok (.putfield 9, 3) := by decide +kernel
theorem dX7_init_13 : decode cX7_init 13 = .ok (.aload_n 0, 1) := by decide +kernel
theorem dX7_init_14 : decode cX7_init 14 = .ok (.iconst 0, 1) := by decide +kernel
theorem dX7_init_15 : decode cX7_init 15 = .ok (.putfield 15, 3) := by decide +kernel
theorem dX7_init_18 : decode cX7_init 18 = .ok (.return_, 1) := by decide +kernel
theorem dX8_init_0 : decode cX8_init 0 = .ok (.aload_n 0, 1) := by decide +kernel
theorem dX8_init_1 : decode cX8_init 1 = .ok (.invokespecial 3, 3) := by decide +kernel
theorem dX8_init_4 : decode cX8_init 4 = .ok (.aload_n 0, 1) := by decide +kernel
theorem dX8_init_5 : decode cX8_init 5 = .ok (.bipush 16, 2) := by decide +kernel
theorem dX8_init_7 : decode cX8_init 7 = .ok (.newarray .int, 2) := by decide +kernel
theorem dX8_init_9 : decode cX8_init 9 = .ok (.putfield 9, 3) := by decide +kernel
theorem dX8_init_12 : decode cX8_init 12 = .ok (.aload_n 0, 1) := by decide +kernel
theorem dX8_init_13 : decode cX8_init 13 = .ok (.new 15, 3) := by decide +kernel
theorem dX8_init_16 : decode cX8_init 16 = .ok (.dup, 1) := by decide +kernel
theorem dX8_init_17 : decode cX8_init 17 = .ok (.invokespecial 17, 3) := by decide +kernel
theorem dX8_init_20 : decode cX8_init 20 = .ok (.putfield 18, 3) := by decide +kernel
theorem dX8_init_23 : decode cX8_init 23 = .ok (.aload_n 0, 1) := by decide +kernel
theorem dX8_init_24 : decode cX8_init 24 = .ok (.iconst 0, 1) := by decide +kernel
theorem dX8_init_25 : decode cX8_init 25 = .ok (.putfield 22, 3) := by decide +kernel
theorem dX8_init_28 : decode cX8_init 28 = .ok (.return_, 1) := by decide +kernel
theorem dX9_init_0 : decode cX9_init 0 = .ok (.aload_n 0, 1) := by decide +kernel
theorem dX9_init_1 : decode cX9_init 1 = .ok (.invokespecial 1, 3) := by decide +kernel
theorem dX9_init_4 : decode cX9_init 4 = .ok (.aload_n 0, 1) := by decide +kernel
theorem dX9_init_5 : decode cX9_init 5 = .ok (.new 7, 3) := by decide +kernel
theorem dX9_init_8 : decode cX9_init 8 = .ok (.dup, 1) := by decide +kernel
theorem dX9_init_9 : decode cX9_init 9 = .ok (.invokespecial 9, 3) := by decide +kernel
theorem dX9_init_12 : decode cX9_init 12 = .ok (.putfield 10, 3) := by decide +kernel
theorem dX9_init_15 : decode cX9_init 15 = .ok (.aload_n 0, 1) := by decide +kernel
theorem dX9_init_16 : decode cX9_init 16 = .ok (.new 16, 3) := by decide +kernel
theorem dX9_init_19 : decode cX9_init 19 = .ok (.dup, 1) := by decide +kernel
theorem dX9_init_20 : decode cX9_init 20 = .ok (.invokespecial 18, 3) := by decide +kernel
theorem dX9_init_23 : decode cX9_init 23 = .ok (.putfield 19, 3) := by decide +kernel
theorem dX9_init_26 : decode cX9_init 26 = .ok (.aload_n 0, 1) := by decide +kernel
theorem dX9_init_27 : decode cX9_init 27 = .ok (.new 16, 3) := by decide +kernel
theorem dX9_init_30 : decode cX9_init 30 = .ok (.dup, 1) := by decide +kernel
theorem dX9_init_31 : decode cX9_init 31 = .ok (.invokespecial 18, 3) := by decide +kernel
theorem dX9_init_34 : decode cX9_init 34 = .ok (.putfield 23, 3) := by decide +kernel
theorem dX9_init_37 : decode cX9_init 37 = .ok (.aload_n 0, 1) := by decide +kernel
theorem dX9_init_38 : decode cX9_init 38 = .ok (.new 16, 3) := by decide +kernel
theorem dX9_init_41 : decode cX9_init 41 = .ok (.dup, 1) := by decide +kernel
theorem dX9_init_42 : decode cX9_init 42 = .ok (.invokespecial 18, 3) := by decide +kernel
theorem dX9_init_45 : decode cX9_init 45 = .ok (.putfield 26, 3) := by decide +kernel
theorem dX9_init_48 : decode cX9_init 48 = .ok (.aload_n 0, 1) := by decide +kernel
theorem dX9_init_49 : decode cX9_init 49 = .ok (.new 16, 3) := by decide +kernel
theorem dX9_init_52 : decode cX9_init 52 = .ok (.dup, 1) := by decide +kernel
theorem dX9_init_53 : decode cX9_init 53 = .ok (.invokespecial 18, 3) := by decide +kernel
theorem dX9_init_56 : decode cX9_init 56 = .ok (.putfield 29, 3) := by decide +kernel
theorem dX9_init_59 : decode cX9_init 59 = .ok (.aload_n 0, 1) := by decide +kernel
theorem dX9_init_60 : decode cX9_init 60 = .ok (.new 32, 3) := by decide +kernel
theorem dX9_init_63 : decode cX9_init 63 = .ok (.dup, 1) := by decide +kernel
theorem dX9_init_64 : decode cX9_init 64 = .ok (.invokespecial 34, 3) := by decide +kernel
theorem dX9_init_67 : decode cX9_init 67 = .ok (.putfield 35, 3) := by decide +kernel
theorem dX9_init_70 : decode cX9_init 70 = .ok (.aload_n 0, 1) := by decide +kernel
theorem dX9_init_71 : decode cX9_init 71 = .ok (.new 39, 3) := by decide +kernel
theorem dX9_init_74 : decode cX9_init 74 = .ok (.dup, 1) := by decide +kernel
theorem dX9_init_75 : decode cX9_init 75 = .ok (.invokespecial 41, 3) := by decide +kernel
theorem dX9_init_78 : decode cX9_init 78 = .ok (.putfield 42, 3) := by decide +kernel
theorem dX9_init_81 : decode cX9_init 81 = .ok (.aload_n 0, 1) := by decide +kernel
theorem dX9_init_82 : decode cX9_init 82 = .ok (.new 46, 3) := by decide +kernel
theorem dX9_init_85 : decode cX9_init 85 = .ok (.dup, 1) := by decide +kernel
theorem dX9_init_86 : decode cX9_init 86 = .ok (.invokespecial 48, 3) := by decide +kernel
theorem dX9_init_89 : decode cX9_init 89 = .ok (.putfield 49, 3) := by decide +kernel
theorem dX9_init_92 : decode cX9_init 92 = .ok (.aload_n 0, 1) := by decide +kernel
theorem dX9_init_93 : decode cX9_init 93 = .ok (.new 53, 3) := by decide +kernel
theorem dX9_init_96 : decode cX9_init 96 = .ok (.dup, 1) := by decide +kernel
theorem dX9_init_97 : decode cX9_init 97 = .ok (.invokespecial 55, 3) := by decide +kernel
theorem dX9_init_100 : decode cX9_init 100 = .ok (.putfield 56, 3) := by decide +kernel
theorem dX9_init_103 : decode cX9_init 103 = .ok (.aload_n 0, 1) := by decide +kernel
theorem dX9_init_104 : decode cX9_init 104 = .ok (.new 60, 3) := by decide +kernel
theorem dX9_init_107 : decode cX9_init 107 = .ok (.dup, 1) := by decide +kernel
theorem dX9_init_108 : decode cX9_init 108 = .ok (.invokespecial 62, 3) := by decide +kernel
theorem dX9_init_111 : decode cX9_init 111 = .ok (.putfield 63, 3) := by decide +kernel
theorem dX9_init_114 : decode cX9_init 114 = .ok (.aload_n 0, 1) := by decide +kernel
theorem dX9_init_115 : decode cX9_init 115 = .ok (.new 67, 3) := by decide +kernel
theorem dX9_init_118 : decode cX9_init 118 = .ok (.dup, 1) := by decide +kernel
theorem dX9_init_119 : decode cX9_init 119 = .ok (.invokespecial 69, 3) := by decide +kernel
theorem dX9_init_122 : decode cX9_init 122 = .ok (.putfield 70, 3) := by decide +kernel
theorem dX9_init_125 : decode cX9_init 125 = .ok (.aload_n 0, 1) := by decide +kernel
theorem dX9_init_126 : decode cX9_init 126 = .ok (.iconst 0, 1) := by decide +kernel
theorem dX9_init_127 : decode cX9_init 127 = .ok (.putfield 74, 3) := by decide +kernel
theorem dX9_init_130 : decode cX9_init 130 = .ok (.return_, 1) := by decide +kernel
theorem dX9_feed_0 : decode cX9_feed 0 = .ok (.aload_n 0, 1) := by decide +kernel
theorem dX9_feed_1 : decode cX9_feed 1 = .ok (.getfield 10, 3) := by decide +kernel
theorem dX9_feed_4 : decode cX9_feed 4 = .ok (.invokevirtual 78, 3) := by decide +kernel
theorem dX9_feed_7 : decode cX9_feed 7 = .ok (.ifCond .ne 6, 3) := by decide +kernel
theorem dX9_feed_10 : decode cX9_feed 10 = .ok (.bipush (-2), 2) := by decide +kernel
theorem dX9_feed_12 : decode cX9_feed 12 = .ok (.ireturn, 1) := by decide +kernel
theorem dX9_feed_13 : decode cX9_feed 13 = .ok (.aload_n 0, 1) := by decide +kernel
theorem dX9_feed_14 : decode cX9_feed 14 = .ok (.getfield 10, 3) := by decide +kernel
theorem dX9_feed_17 : decode cX9_feed 17 = .ok (.iload_n 1, 1) := by decide +kernel
theorem dX9_feed_18 : decode cX9_feed 18 = .ok (.invokevirtual 82, 3) := by decide +kernel
theorem dX9_feed_21 : decode cX9_feed 21 = .ok (.aload_n 0, 1) := by decide +kernel
theorem dX9_feed_22 : decode cX9_feed 22 = .ok (.getfield 10, 3) := by decide +kernel
theorem dX9_feed_25 : decode cX9_feed 25 = .ok (.iload_n 2, 1) := by decide +kernel
theorem dX9_feed_26 : decode cX9_feed 26 = .ok (.invokevirtual 82, 3) := by decide +kernel
theorem dX9_feed_29 : decode cX9_feed 29 = .ok (.aload_n 0, 1) := by decide +kernel
theorem dX9_feed_30 : decode cX9_feed 30 = .ok (.getfield 10, 3) := by decide +kernel
theorem dX9_feed_33 : decode cX9_feed 33 = .ok (.iload_n 3, 1) := by decide +kernel
theorem dX9_feed_34 : decode cX9_feed 34 = .ok (.invokevirtual 82, 3) := by decide +kernel
theorem dX9_feed_37 : decode cX9_feed 37 = .ok (.aload_n 0, 1) := by decide +kernel
theorem dX9_feed_38 : decode cX9_feed 38 = .ok (.getfield 10, 3) := by decide +kernel
theorem dX9_feed_41 : decode cX9_feed 41 = .ok (.iload 4, 2) := by decide +kernel
theorem dX9_feed_43 : decode cX9_feed 43 = .ok (.invokevirtual 82, 3) := by decide +kernel
theorem dX9_feed_46 : decode cX9_feed 46 = .ok (.aload_n 0, 1) := by decide +kernel
theorem dX9_feed_47 : decode cX9_feed 47 = .ok (.getfield 10, 3) := by decide +kernel
theorem dX9_feed_50 : decode cX9_feed 50 = .ok (.iload 5, 2) := by decide +kernel
theorem dX9_feed_52 : decode cX9_feed 52 = .ok (.invokevirtual 82, 3) := by decide +kernel
theorem dX9_feed_55 : decode cX9_feed 55 = .ok (.aload_n 0, 1) := by decide +kernel
theorem dX9_feed_56 : decode cX9_feed 56 = .ok (.getfield 10, 3) := by decide +kernel
theorem dX9_feed_59 : decode cX9_feed 59 = .ok (.invokevirtual 86, 3) := by decide +kernel
theorem dX9_feed_62 : decode cX9_feed 62 = .ok (.ireturn, 1) := by decide +kernel
theorem dX9_load_0 : decode cX9_load 0 = .ok (.iload_n 1, 1) := by decide +kernel
theorem dX9_load_1 : decode cX9_load 1 = .ok (.ifCond .lt 14, 3) := by decide +kernel
theorem dX9_load_4 : decode cX9_load 4 = .ok (.iload_n 1, 1) := by decide +kernel
theorem dX9_load_5 : decode cX9_load 5 = .ok (.aload_n 0, 1) := by decide +kernel
theorem dX9_load_6 : decode cX9_load 6 = .ok (.getfield 10, 3) := by decide +kernel
theorem dX9_load_9 : decode cX9_load 9 = .ok (.invokevirtual 86, 3) := by decide +kernel
theorem dX9_load_12 : decode cX9_load 12 = .ok (.if_icmp .le 13, 3) := by decide +kernel
theorem dX9_load_15 : decode cX9_load 15 = .ok (.new 90, 3) := by decide +kernel
theorem dX9_load_18 : decode cX9_load 18 = .ok (.dup, 1) := by decide +kernel
theorem dX9_load_19 : decode cX9_load 19 = .ok (.ldc 92, 2) := by decide +kernel
theorem dX9_load_21 : decode cX9_load 21 = .ok (.invokespecial 94, 3) := by decide +kernel
theorem dX9_load_24 : decode cX9_load 24 = .ok (.athrow, 1) := by decide +kernel
theorem dX9_load_25 : decode cX9_load 25 = .ok (.aload_n 0, 1) := by decide +kernel
theorem dX9_load_26 : decode cX9_load 26 = .ok (.getfield 10, 3) := by decide +kernel
theorem dX9_load_29 : decode cX9_load 29 = .ok (.iload_n 1, 1) := by decide +kernel
theorem dX9_load_30 : decode cX9_load 30 = .ok (.invokevirtual 97, 3) := by decide +kernel
theorem dX9_load_33 : decode cX9_load 33 = .ok (.ifCond .ne 6, 3) := by decide +kernel
theorem dX9_load_36 : decode cX9_load 36 = .ok (.bipush (-3), 2) := by decide +kernel
theorem dX9_load_38 : decode cX9_load 38 = .ok (.ireturn, 1) := by decide +kernel
theorem dX9_load_39 : decode cX9_load 39 = .ok (.aload_n 0, 1) := by decide +kernel
theorem dX9_load_40 : decode cX9_load 40 = .ok (.getfield 19, 3) := by decide +kernel
theorem dX9_load_43 : decode cX9_load 43 = .ok (.aload_n 0, 1) := by decide +kernel
theorem dX9_load_44 : decode cX9_load 44 = .ok (.getfield 10, 3) := by decide +kernel
theorem dX9_load_47 : decode cX9_load 47 = .ok (.invokevirtual 101, 3) := by decide +kernel
theorem dX9_load_50 : decode cX9_load 50 = .ok (.invokevirtual 105, 3) := by decide +kernel
theorem dX9_load_53 : decode cX9_load 53 = .ok (.aload_n 0, 1) := by decide +kernel
theorem dX9_load_54 : decode cX9_load 54 = .ok (.getfield 23, 3) := by decide +kernel
theorem dX9_load_57 : decode cX9_load 57 = .ok (.aload_n 0, 1) := by decide +kernel
theorem dX9_load_58 : decode cX9_load 58 = .ok (.getfield 10, 3) := by decide +kernel
theorem dX9_load_61 : decode cX9_load 61 = .ok (.invokevirtual 109, 3) := by decide +kernel
theorem dX9_load_64 : decode cX9_load 64 = .ok (.invokevirtual 105, 3) := by decide +kernel
theorem dX9_load_67 : decode cX9_load 67 = .ok (.aload_n 0, 1) := by decide +kernel
theorem dX9_load_68 : decode cX9_load 68 = .ok (.aload_n 0, 1) := by decide +kernel
theorem dX9_load_69 : decode cX9_load 69 = .ok (.getfield 10, 3) := by decide +kernel
theorem dX9_load_72 : decode cX9_load 72 = .ok (.invokevirtual 112, 3) := by decide +kernel
theorem dX9_load_75 : decode cX9_load 75 = .ok (.putfield 74, 3) := by decide +kernel
theorem dX9_load_78 : decode cX9_load 78 = .ok (.aload_n 0, 1) := by decide +kernel
theorem dX9_load_79 : decode cX9_load 79 = .ok (.getfield 63, 3) := by decide +kernel
theorem dX9_load_82 : decode cX9_load 82 = .ok (.invokevirtual 115, 3) := by decide +kernel
theorem dX9_load_85 : decode cX9_load 85 = .ok (.aload_n 0, 1) := by decide +kernel
theorem dX9_load_86 : decode cX9_load 86 = .ok (.getfield 19, 3) := by decide +kernel
theorem dX9_load_89 : decode cX9_load 89 = .ok (.invokevirtual 118, 3) := by decide +kernel
theorem dX9_load_92 : decode cX9_load 92 = .ok (.ireturn, 1) := by decide +kernel
theorem dX9_errorKind_0 : decode cX9_errorKind 0 = .ok (.aload_n 0, 1) := by decide +kernel
theorem dX9_errorKind_1 : decode cX9_errorKind 1 = .ok (.getfield 10, 3) := by decide +kernel
theorem dX9_errorKind_4 : decode cX9_errorKind 4 = .ok (.invokevirtual 121, 3) := by decide +kernel
theorem dX9_errorKind_7 : decode cX9_errorKind 7 = .ok (.ireturn, 1) := by decide +kernel
theorem dX9_vertices_0 : decode cX9_vertices 0 = .ok (.aload_n 0, 1) := by decide +kernel
theorem dX9_vertices_1 : decode cX9_vertices 1 = .ok (.getfield 19, 3) := by decide +kernel
theorem dX9_vertices_4 : decode cX9_vertices 4 = .ok (.invokevirtual 127, 3) := by decide +kernel
theorem dX9_vertices_7 : decode cX9_vertices 7 = .ok (.ireturn, 1) := by decide +kernel
theorem dX9_times_0 : decode cX9_times 0 = .ok (.aload_n 0, 1) := by decide +kernel
theorem dX9_times_1 : decode cX9_times 1 = .ok (.iload_n 1, 1) := by decide +kernel
theorem dX9_times_2 : decode cX9_times 2 = .ok (.invokevirtual 134, 3) := by decide +kernel
theorem dX9_times_5 : decode cX9_times 5 = .ok (.aload_n 0, 1) := by decide +kernel
theorem dX9_times_6 : decode cX9_times 6 = .ok (.iload_n 2, 1) := by decide +kernel
theorem dX9_times_7 : decode cX9_times 7 = .ok (.invokevirtual 134, 3) := by decide +kernel
theorem dX9_times_10 : decode cX9_times 10 = .ok (.aload_n 0, 1) := by decide +kernel
theorem dX9_times_11 : decode cX9_times 11 = .ok (.iload_n 3, 1) := by decide +kernel
theorem dX9_times_12 : decode cX9_times 12 = .ok (.invokevirtual 130, 3) := by decide +kernel
theorem dX9_times_15 : decode cX9_times 15 = .ok (.iload_n 1, 1) := by decide +kernel
theorem dX9_times_16 : decode cX9_times 16 = .ok (.iload_n 2, 1) := by decide +kernel
theorem dX9_times_17 : decode cX9_times 17 = .ok (.invokevirtual 137, 3) := by decide +kernel
theorem dX9_times_20 : decode cX9_times 20 = .ok (.ireturn, 1) := by decide +kernel
theorem dX9_degree_0 : decode cX9_degree 0 = .ok (.aload_n 0, 1) := by decide +kernel
theorem dX9_degree_1 : decode cX9_degree 1 = .ok (.iload_n 1, 1) := by decide +kernel
theorem dX9_degree_2 : decode cX9_degree 2 = .ok (.invokevirtual 134, 3) := by decide +kernel
theorem dX9_degree_5 : decode cX9_degree 5 = .ok (.aload_n 0, 1) := by decide +kernel
theorem dX9_degree_6 : decode cX9_degree 6 = .ok (.iload_n 2, 1) := by decide +kernel
theorem dX9_degree_7 : decode cX9_degree 7 = .ok (.invokevirtual 130, 3) := by decide +kernel
theorem dX9_degree_10 : decode cX9_degree 10 = .ok (.iload_n 1, 1) := by decide +kernel
theorem dX9_degree_11 : decode cX9_degree 11 = .ok (.invokevirtual 141, 3) := by decide +kernel
theorem dX9_degree_14 : decode cX9_degree 14 = .ok (.ireturn, 1) := by decide +kernel
theorem dX9_loops_0 : decode cX9_loops 0 = .ok (.aload_n 0, 1) := by decide +kernel
theorem dX9_loops_1 : decode cX9_loops 1 = .ok (.getfield 19, 3) := by decide +kernel
theorem dX9_loops_4 : decode cX9_loops 4 = .ok (.invokevirtual 145, 3) := by decide +kernel
theorem dX9_loops_7 : decode cX9_loops 7 = .ok (.ireturn, 1) := by decide +kernel
theorem dX9_defects_0 : decode cX9_defects 0 = .ok (.aload_n 0, 1) := by decide +kernel
theorem dX9_defects_1 : decode cX9_defects 1 = .ok (.getfield 19, 3) := by decide +kernel
theorem dX9_defects_4 : decode cX9_defects 4 = .ok (.invokevirtual 148, 3) := by decide +kernel
theorem dX9_defects_7 : decode cX9_defects 7 = .ok (.ireturn, 1) := by decide +kernel
theorem dX9_isSimple_0 : decode cX9_isSimple 0 = .ok (.aload_n 0, 1) := by decide +kernel
theorem dX9_isSimple_1 : decode cX9_isSimple 1 = .ok (.getfield 19, 3) := by decide +kernel
theorem dX9_isSimple_4 : decode cX9_isSimple 4 = .ok (.invokevirtual 148, 3) := by decide +kernel
theorem dX9_isSimple_7 : decode cX9_isSimple 7 = .ok (.ifCond .ne 7, 3) := by decide +kernel
theorem dX9_isSimple_10 : decode cX9_isSimple 10 = .ok (.iconst 1, 1) := by decide +kernel
theorem dX9_isSimple_11 : decode cX9_isSimple 11 = .ok (.goto 4, 3) := by decide +kernel
theorem dX9_isSimple_14 : decode cX9_isSimple 14 = .ok (.iconst 0, 1) := by decide +kernel
theorem dX9_isSimple_15 : decode cX9_isSimple 15 = .ok (.ireturn, 1) := by decide +kernel
theorem dX9_triangles_0 : decode cX9_triangles 0 = .ok (.aload_n 0, 1) := by decide +kernel
theorem dX9_triangles_1 : decode cX9_triangles 1 = .ok (.getfield 19, 3) := by decide +kernel
theorem dX9_triangles_4 : decode cX9_triangles 4 = .ok (.invokevirtual 154, 3) := by decide +kernel
theorem dX9_triangles_7 : decode cX9_triangles 7 = .ok (.ireturn, 1) := by decide +kernel
theorem dX9_components_0 : decode cX9_components 0 = .ok (.aload_n 0, 1) := by decide +kernel
theorem dX9_components_1 : decode cX9_components 1 = .ok (.getfield 35, 3) := by decide +kernel
theorem dX9_components_4 : decode cX9_components 4 = .ok (.aload_n 0, 1) := by decide +kernel
theorem dX9_components_5 : decode cX9_components 5 = .ok (.getfield 19, 3) := by decide +kernel
theorem dX9_components_8 : decode cX9_components 8 = .ok (.invokevirtual 157, 3) := by decide +kernel
theorem dX9_components_11 : decode cX9_components 11 = .ok (.aload_n 0, 1) := by decide +kernel
theorem dX9_components_12 : decode cX9_components 12 = .ok (.getfield 35, 3) := by decide +kernel
theorem dX9_components_15 : decode cX9_components 15 = .ok (.invokevirtual 160, 3) := by decide +kernel
theorem dX9_components_18 : decode cX9_components 18 = .ok (.ireturn, 1) := by decide +kernel
theorem dX9_sorted_0 : decode cX9_sorted 0 = .ok (.aload_n 0, 1) := by decide +kernel
theorem dX9_sorted_1 : decode cX9_sorted 1 = .ok (.iload_n 1, 1) := by decide +kernel
theorem dX9_sorted_2 : decode cX9_sorted 2 = .ok (.invokevirtual 134, 3) := by decide +kernel
theorem dX9_sorted_5 : decode cX9_sorted 5 = .ok (.aload_n 0, 1) := by decide +kernel
theorem dX9_sorted_6 : decode cX9_sorted 6 = .ok (.getfield 42, 3) := by decide +kernel
theorem dX9_sorted_9 : decode cX9_sorted 9 = .ok (.aload_n 0, 1) := by decide +kernel
theorem dX9_sorted_10 : decode cX9_sorted 10 = .ok (.getfield 19, 3) := by decide +kernel
theorem dX9_sorted_13 : decode cX9_sorted 13 = .ok (.invokevirtual 182, 3) := by decide +kernel
theorem dX9_sorted_16 : decode cX9_sorted 16 = .ok (.aload_n 0, 1) := by decide +kernel
theorem dX9_sorted_17 : decode cX9_sorted 17 = .ok (.getfield 42, 3) := by decide +kernel
theorem dX9_sorted_20 : decode cX9_sorted 20 = .ok (.iload_n 1, 1) := by decide +kernel
theorem dX9_sorted_21 : decode cX9_sorted 21 = .ok (.invokevirtual 185, 3) := by decide +kernel
theorem dX9_sorted_24 : decode cX9_sorted 24 = .ok (.ireturn, 1) := by decide +kernel
theorem dX9_slack_0 : decode cX9_slack 0 = .ok (.iload_n 1, 1) := by decide +kernel
theorem dX9_slack_1 : decode cX9_slack 1 = .ok (.iconst 1, 1) := by decide +kernel
theorem dX9_slack_2 : decode cX9_slack 2 = .ok (.if_icmp .lt 14, 3) := by decide +kernel
theorem dX9_slack_5 : decode cX9_slack 5 = .ok (.iload_n 1, 1) := by decide +kernel
theorem dX9_slack_6 : decode cX9_slack 6 = .ok (.aload_n 0, 1) := by decide +kernel
theorem dX9_slack_7 : decode cX9_slack 7 = .ok (.getfield 19, 3) := by decide +kernel
theorem dX9_slack_10 : decode cX9_slack 10 = .ok (.invokevirtual 127, 3) := by decide +kernel
theorem dX9_slack_13 : decode cX9_slack 13 = .ok (.if_icmp .le 13, 3) := by decide +kernel
theorem dX9_slack_16 : decode cX9_slack 16 = .ok (.new 188, 3) := by decide +kernel
theorem dX9_slack_19 : decode cX9_slack 19 = .ok (.dup, 1) := by decide +kernel
theorem dX9_slack_20 : decode cX9_slack 20 = .ok (.ldc 190, 2) := by decide +kernel
theorem dX9_slack_22 : decode cX9_slack 22 = .ok (.invokespecial 192, 3) := by decide +kernel
theorem dX9_slack_25 : decode cX9_slack 25 = .ok (.athrow, 1) := by decide +kernel
theorem dX9_slack_26 : decode cX9_slack 26 = .ok (.aload_n 0, 1) := by decide +kernel
theorem dX9_slack_27 : decode cX9_slack 27 = .ok (.getfield 42, 3) := by decide +kernel
theorem dX9_slack_30 : decode cX9_slack 30 = .ok (.aload_n 0, 1) := by decide +kernel
theorem dX9_slack_31 : decode cX9_slack 31 = .ok (.getfield 19, 3) := by decide +kernel
theorem dX9_slack_34 : decode cX9_slack 34 = .ok (.invokevirtual 182, 3) := by decide +kernel
theorem dX9_slack_37 : decode cX9_slack 37 = .ok (.aload_n 0, 1) := by decide +kernel
theorem dX9_slack_38 : decode cX9_slack 38 = .ok (.getfield 42, 3) := by decide +kernel
theorem dX9_slack_41 : decode cX9_slack 41 = .ok (.iload_n 1, 1) := by decide +kernel
theorem dX9_slack_42 : decode cX9_slack 42 = .ok (.invokevirtual 193, 3) := by decide +kernel
theorem dX9_slack_45 : decode cX9_slack 45 = .ok (.ireturn, 1) := by decide +kernel
theorem dX9_isPossible_0 : decode cX9_isPossible 0 = .ok (.aload_n 0, 1) := by decide +kernel
theorem dX9_isPossible_1 : decode cX9_isPossible 1 = .ok (.iload_n 1, 1) := by decide +kernel
theorem dX9_isPossible_2 : decode cX9_isPossible 2 = .ok (.invokevirtual 196, 3) := by decide +kernel
theorem dX9_isPossible_5 : decode cX9_isPossible 5 = .ok (.aload_n 0, 1) := by decide +kernel
theorem dX9_isPossible_6 : decode cX9_isPossible 6 = .ok (.getfield 42, 3) := by decide +kernel
theorem dX9_isPossible_9 : decode cX9_isPossible 9 = .ok (.aload_n 0, 1) := by decide +kernel
theorem dX9_isPossible_10 : decode cX9_isPossible 10 = .ok (.getfield 19, 3) := by decide +kernel
theorem dX9_isPossible_13 : decode cX9_isPossible 13 = .ok (.invokevirtual 182, 3) := by decide +kernel
theorem dX9_isPossible_16 : decode cX9_isPossible 16 = .ok (.aload_n 0, 1) := by decide +kernel
theorem dX9_isPossible_17 : decode cX9_isPossible 17 = .ok (.getfield 42, 3) := by decide +kernel
theorem dX9_isPossible_20 : decode cX9_isPossible 20 = .ok (.iload_n 1, 1) := by decide +kernel
theorem dX9_isPossible_21 : decode cX9_isPossible 21 = .ok (.invokevirtual 199, 3) := by decide +kernel
theorem dX9_isPossible_24 : decode cX9_isPossible 24 = .ok (.ireturn, 1) := by decide +kernel
theorem dX9_meanDegree_0 : decode cX9_meanDegree 0 = .ok (.aload_n 0, 1) := by decide +kernel
theorem dX9_meanDegree_1 : decode cX9_meanDegree 1 = .ok (.getfield 19, 3) := by decide +kernel
theorem dX9_meanDegree_4 : decode cX9_meanDegree 4 = .ok (.invokevirtual 127, 3) := by decide +kernel
theorem dX9_meanDegree_7 : decode cX9_meanDegree 7 = .ok (.istore_n 1, 1) := by decide +kernel
theorem dX9_meanDegree_8 : decode cX9_meanDegree 8 = .ok (.iload_n 1, 1) := by decide +kernel
theorem dX9_meanDegree_9 : decode cX9_meanDegree 9 = .ok (.ifCond .le 19, 3) := by decide +kernel
theorem dX9_meanDegree_12 : decode cX9_meanDegree 12 = .ok (.iconst 2, 1) := by decide +kernel
theorem dX9_meanDegree_13 : decode cX9_meanDegree 13 = .ok (.aload_n 0, 1) := by decide +kernel
theorem dX9_meanDegree_14 : decode cX9_meanDegree 14 = .ok (.getfield 19, 3) := by decide +kernel
theorem dX9_meanDegree_17 : decode cX9_meanDegree 17 = .ok (.invokevirtual 118, 3) := by decide +kernel
theorem dX9_meanDegree_20 : decode cX9_meanDegree 20 = .ok (.imul, 1) := by decide +kernel
theorem dX9_meanDegree_21 : decode cX9_meanDegree 21 = .ok (.i2d, 1) := by decide +kernel
theorem dX9_meanDegree_22 : decode cX9_meanDegree 22 = .ok (.iload_n 1, 1) := by decide +kernel
theorem dX9_meanDegree_23 : decode cX9_meanDegree 23 = .ok (.i2d, 1) := by decide +kernel
theorem dX9_meanDegree_24 : decode cX9_meanDegree 24 = .ok (.ddiv, 1) := by decide +kernel
theorem dX9_meanDegree_25 : decode cX9_meanDegree 25 = .ok (.goto 4, 3) := by decide +kernel
theorem dX9_meanDegree_28 : decode cX9_meanDegree 28 = .ok (.dconst 0, 1) := by decide +kernel
theorem dX9_meanDegree_29 : decode cX9_meanDegree 29 = .ok (.dreturn, 1) := by decide +kernel
theorem dX9_reason_0 : decode cX9_reason 0 = .ok (.aload_n 0, 1) := by decide +kernel
theorem dX9_reason_1 : decode cX9_reason 1 = .ok (.iload_n 1, 1) := by decide +kernel
theorem dX9_reason_2 : decode cX9_reason 2 = .ok (.iload_n 2, 1) := by decide +kernel
theorem dX9_reason_3 : decode cX9_reason 3 = .ok (.iload_n 3, 1) := by decide +kernel
theorem dX9_reason_4 : decode cX9_reason 4 = .ok (.iload 4, 2) := by decide +kernel
theorem dX9_reason_6 : decode cX9_reason 6 = .ok (.invokevirtual 202, 3) := by decide +kernel
theorem dX9_reason_9 : decode cX9_reason 9 = .ok (.aload_n 0, 1) := by decide +kernel
theorem dX9_reason_10 : decode cX9_reason 10 = .ok (.getfield 19, 3) := by decide +kernel
theorem dX9_reason_13 : decode cX9_reason 13 = .ok (.aload_n 0, 1) := by decide +kernel
theorem dX9_reason_14 : decode cX9_reason 14 = .ok (.getfield 74, 3) := by decide +kernel
theorem dX9_reason_17 : decode cX9_reason 17 = .ok (.iload_n 1, 1) := by decide +kernel
theorem dX9_reason_18 : decode cX9_reason 18 = .ok (.iload_n 2, 1) := by decide +kernel
theorem dX9_reason_19 : decode cX9_reason 19 = .ok (.iload_n 3, 1) := by decide +kernel
theorem dX9_reason_20 : decode cX9_reason 20 = .ok (.iload 4, 2) := by decide +kernel
theorem dX9_reason_22 : decode cX9_reason 22 = .ok (.invokevirtual 206, 3) := by decide +kernel
theorem dX9_reason_25 : decode cX9_reason 25 = .ok (.ireturn, 1) := by decide +kernel
theorem dX9_removeEdge_0 : decode cX9_removeEdge 0 = .ok (.aload_n 0, 1) := by decide +kernel
theorem dX9_removeEdge_1 : decode cX9_removeEdge 1 = .ok (.iload_n 1, 1) := by decide +kernel
theorem dX9_removeEdge_2 : decode cX9_removeEdge 2 = .ok (.invokevirtual 134, 3) := by decide +kernel
theorem dX9_removeEdge_5 : decode cX9_removeEdge 5 = .ok (.aload_n 0, 1) := by decide +kernel
theorem dX9_removeEdge_6 : decode cX9_removeEdge 6 = .ok (.iload_n 2, 1) := by decide +kernel
theorem dX9_removeEdge_7 : decode cX9_removeEdge 7 = .ok (.invokevirtual 134, 3) := by decide +kernel
theorem dX9_removeEdge_10 : decode cX9_removeEdge 10 = .ok (.aload_n 0, 1) := by decide +kernel
theorem dX9_removeEdge_11 : decode cX9_removeEdge 11 = .ok (.iload_n 1, 1) := by decide +kernel
theorem dX9_removeEdge_12 : decode cX9_removeEdge 12 = .ok (.iload_n 2, 1) := by decide +kernel
theorem dX9_removeEdge_13 : decode cX9_removeEdge 13 = .ok (.invokevirtual 170, 3) := by decide +kernel
theorem dX9_removeEdge_16 : decode cX9_removeEdge 16 = .ok (.aload_n 0, 1) := by decide +kernel
theorem dX9_removeEdge_17 : decode cX9_removeEdge 17 = .ok (.invokevirtual 273, 3) := by decide +kernel
theorem dX9_removeEdge_20 : decode cX9_removeEdge 20 = .ok (.aload_n 0, 1) := by decide +kernel
theorem dX9_removeEdge_21 : decode cX9_removeEdge 21 = .ok (.getfield 19, 3) := by decide +kernel
theorem dX9_removeEdge_24 : decode cX9_removeEdge 24 = .ok (.iload_n 1, 1) := by decide +kernel
theorem dX9_removeEdge_25 : decode cX9_removeEdge 25 = .ok (.iload_n 2, 1) := by decide +kernel
theorem dX9_removeEdge_26 : decode cX9_removeEdge 26 = .ok (.iconst (-1), 1) := by decide +kernel
theorem dX9_removeEdge_27 : decode cX9_removeEdge 27 = .ok (.invokevirtual 276, 3) := by decide +kernel
theorem dX9_removeEdge_30 : decode cX9_removeEdge 30 = .ok (.aload_n 0, 1) := by decide +kernel
theorem dX9_removeEdge_31 : decode cX9_removeEdge 31 = .ok (.getfield 19, 3) := by decide +kernel
theorem dX9_removeEdge_34 : decode cX9_removeEdge 34 = .ok (.iload_n 1, 1) := by decide +kernel
theorem dX9_removeEdge_35 : decode cX9_removeEdge 35 = .ok (.iload_n 2, 1) := by decide +kernel
theorem dX9_removeEdge_36 : decode cX9_removeEdge 36 = .ok (.invokevirtual 137, 3) := by decide +kernel
theorem dX9_removeEdge_39 : decode cX9_removeEdge 39 = .ok (.ireturn, 1) := by decide +kernel
theorem dX9_setMode_0 : decode cX9_setMode 0 = .ok (.aload_n 0, 1) := by decide +kernel
theorem dX9_setMode_1 : decode cX9_setMode 1 = .ok (.iload_n 1, 1) := by decide +kernel
theorem dX9_setMode_2 : decode cX9_setMode 2 = .ok (.invokevirtual 196, 3) := by decide +kernel
theorem dX9_setMode_5 : decode cX9_setMode 5 = .ok (.aload_n 0, 1) := by decide +kernel
theorem dX9_setMode_6 : decode cX9_setMode 6 = .ok (.invokevirtual 273, 3) := by decide +kernel
theorem dX9_setMode_9 : decode cX9_setMode 9 = .ok (.aload_n 0, 1) := by decide +kernel
theorem dX9_setMode_10 : decode cX9_setMode 10 = .ok (.getfield 74, 3) := by decide +kernel
theorem dX9_setMode_13 : decode cX9_setMode 13 = .ok (.istore_n 2, 1) := by decide +kernel
theorem dX9_setMode_14 : decode cX9_setMode 14 = .ok (.aload_n 0, 1) := by decide +kernel
theorem dX9_setMode_15 : decode cX9_setMode 15 = .ok (.iload_n 1, 1) := by decide +kernel
theorem dX9_setMode_16 : decode cX9_setMode 16 = .ok (.putfield 74, 3) := by decide +kernel
theorem dX9_setMode_19 : decode cX9_setMode 19 = .ok (.iload_n 2, 1) := by decide +kernel
theorem dX9_setMode_20 : decode cX9_setMode 20 = .ok (.ireturn, 1) := by decide +kernel
theorem dX9_checkVertex_0 : decode cX9_checkVertex 0 = .ok (.iload_n 1, 1) := by decide +kernel
theorem dX9_checkVertex_1 : decode cX9_checkVertex 1 = .ok (.ifCond .lt 14, 3) := by decide +kernel
theorem dX9_checkVertex_4 : decode cX9_checkVertex 4 = .ok (.iload_n 1, 1) := by decide +kernel
theorem dX9_checkVertex_5 : decode cX9_checkVertex 5 = .ok (.aload_n 0, 1) := by decide +kernel
theorem dX9_checkVertex_6 : decode cX9_checkVertex 6 = .ok (.getfield 19, 3) := by decide +kernel
theorem dX9_checkVertex_9 : decode cX9_checkVertex 9 = .ok (.invokevirtual 127, 3) := by decide +kernel
theorem dX9_checkVertex_12 : decode cX9_checkVertex 12 = .ok (.if_icmp .lt 14, 3) := by decide +kernel
theorem dX9_checkVertex_15 : decode cX9_checkVertex 15 = .ok (.new 188, 3) := by decide +kernel
theorem dX9_checkVertex_18 : decode cX9_checkVertex 18 = .ok (.dup, 1) := by decide +kernel
theorem dX9_checkVertex_19 : decode cX9_checkVertex 19 = .ok (.ldc_w 316, 3) := by decide +kernel
theorem dX9_checkVertex_22 : decode cX9_checkVertex 22 = .ok (.invokespecial 192, 3) := by decide +kernel
theorem dX9_checkVertex_25 : decode cX9_checkVertex 25 = .ok (.athrow, 1) := by decide +kernel
theorem dX9_checkVertex_26 : decode cX9_checkVertex 26 = .ok (.return_, 1) := by decide +kernel
theorem dX9_checkVertices_0 : decode cX9_checkVertices 0 = .ok (.aload_n 0, 1) := by decide +kernel
theorem dX9_checkVertices_1 : decode cX9_checkVertices 1 = .ok (.iload_n 1, 1) := by decide +kernel
theorem dX9_checkVertices_2 : decode cX9_checkVertices 2 = .ok (.invokevirtual 134, 3) := by decide +kernel
theorem dX9_checkVertices_5 : decode cX9_checkVertices 5 = .ok (.aload_n 0, 1) := by decide +kernel
theorem dX9_checkVertices_6 : decode cX9_checkVertices 6 = .ok (.iload_n 2, 1) := by decide +kernel
theorem dX9_checkVertices_7 : decode cX9_checkVertices 7 = .ok (.invokevirtual 134, 3) := by decide +kernel
theorem dX9_checkVertices_10 : decode cX9_checkVertices 10 = .ok (.aload_n 0, 1) := by decide +kernel
theorem dX9_checkVertices_11 : decode cX9_checkVertices 11 = .ok (.iload_n 3, 1) := by decide +kernel
theorem dX9_checkVertices_12 : decode cX9_checkVertices 12 = .ok (.invokevirtual 134, 3) := by decide +kernel
theorem dX9_checkVertices_15 : decode cX9_checkVertices 15 = .ok (.aload_n 0, 1) := by decide +kernel
theorem dX9_checkVertices_16 : decode cX9_checkVertices 16 = .ok (.iload 4, 2) := by decide +kernel
theorem dX9_checkVertices_18 : decode cX9_checkVertices 18 = .ok (.invokevirtual 134, 3) := by decide +kernel
theorem dX9_checkVertices_21 : decode cX9_checkVertices 21 = .ok (.return_, 1) := by decide +kernel
theorem dX9_checkEdge_0 : decode cX9_checkEdge 0 = .ok (.aload_n 0, 1) := by decide +kernel
theorem dX9_checkEdge_1 : decode cX9_checkEdge 1 = .ok (.getfield 19, 3) := by decide +kernel
theorem dX9_checkEdge_4 : decode cX9_checkEdge 4 = .ok (.iload_n 1, 1) := by decide +kernel
theorem dX9_checkEdge_5 : decode cX9_checkEdge 5 = .ok (.iload_n 2, 1) := by decide +kernel
theorem dX9_checkEdge_6 : decode cX9_checkEdge 6 = .ok (.invokevirtual 137, 3) := by decide +kernel
theorem dX9_checkEdge_9 : decode cX9_checkEdge 9 = .ok (.ifCond .ne 14, 3) := by decide +kernel
theorem dX9_checkEdge_12 : decode cX9_checkEdge 12 = .ok (.new 240, 3) := by decide +kernel
theorem dX9_checkEdge_15 : decode cX9_checkEdge 15 = .ok (.dup, 1) := by decide +kernel
theorem dX9_checkEdge_16 : decode cX9_checkEdge 16 = .ok (.ldc_w 318, 3) := by decide +kernel
theorem dX9_checkEdge_19 : decode cX9_checkEdge 19 = .ok (.invokespecial 244, 3) := by decide +kernel
theorem dX9_checkEdge_22 : decode cX9_checkEdge 22 = .ok (.athrow, 1) := by decide +kernel
theorem dX9_checkEdge_23 : decode cX9_checkEdge 23 = .ok (.return_, 1) := by decide +kernel
theorem dX9_checkMode_0 : decode cX9_checkMode 0 = .ok (.iload_n 1, 1) := by decide +kernel
theorem dX9_checkMode_1 : decode cX9_checkMode 1 = .ok (.ifCond .lt 8, 3) := by decide +kernel
theorem dX9_checkMode_4 : decode cX9_checkMode 4 = .ok (.iload_n 1, 1) := by decide +kernel
theorem dX9_checkMode_5 : decode cX9_checkMode 5 = .ok (.iconst 2, 1) := by decide +kernel
theorem dX9_checkMode_6 : decode cX9_checkMode 6 = .ok (.if_icmp .le 14, 3) := by decide +kernel
theorem dX9_checkMode_9 : decode cX9_checkMode 9 = .ok (.new 90, 3) := by decide +kernel
theorem dX9_checkMode_12 : decode cX9_checkMode 12 = .ok (.dup, 1) := by decide +kernel
theorem dX9_checkMode_13 : decode cX9_checkMode 13 = .ok (.ldc_w 320, 3) := by decide +kernel
theorem dX9_checkMode_16 : decode cX9_checkMode 16 = .ok (.invokespecial 94, 3) := by decide +kernel
theorem dX9_checkMode_19 : decode cX9_checkMode 19 = .ok (.athrow, 1) := by decide +kernel
theorem dX9_checkMode_20 : decode cX9_checkMode 20 = .ok (.return_, 1) := by decide +kernel
theorem dX9_choose_0 : decode cX9_choose 0 = .ok (.iload_n 1, 1) := by decide +kernel
theorem dX9_choose_1 : decode cX9_choose 1 = .ok (.ifCond .eq 10, 3) := by decide +kernel
theorem dX9_choose_4 : decode cX9_choose 4 = .ok (.aload_n 0, 1) := by decide +kernel
theorem dX9_choose_5 : decode cX9_choose 5 = .ok (.getfield 23, 3) := by decide +kernel
theorem dX9_choose_8 : decode cX9_choose 8 = .ok (.goto 7, 3) := by decide +kernel
theorem dX9_choose_11 : decode cX9_choose 11 = .ok (.aload_n 0, 1) := by decide +kernel
theorem dX9_choose_12 : decode cX9_choose 12 = .ok (.getfield 19, 3) := by decide +kernel
theorem dX9_choose_15 : decode cX9_choose 15 = .ok (.areturn, 1) := by decide +kernel
theorem dX9_remember_0 : decode cX9_remember 0 = .ok (.aload_n 0, 1) := by decide +kernel
theorem dX9_remember_1 : decode cX9_remember 1 = .ok (.getfield 63, 3) := by decide +kernel
theorem dX9_remember_4 : decode cX9_remember 4 = .ok (.aload_n 0, 1) := by decide +kernel
theorem dX9_remember_5 : decode cX9_remember 5 = .ok (.getfield 19, 3) := by decide +kernel
theorem dX9_remember_8 : decode cX9_remember 8 = .ok (.aload_n 0, 1) := by decide +kernel
theorem dX9_remember_9 : decode cX9_remember 9 = .ok (.getfield 23, 3) := by decide +kernel
theorem dX9_remember_12 : decode cX9_remember 12 = .ok (.aload_n 0, 1) := by decide +kernel
theorem dX9_remember_13 : decode cX9_remember 13 = .ok (.getfield 74, 3) := by decide +kernel
theorem dX9_remember_16 : decode cX9_remember 16 = .ok (.invokevirtual 328, 3) := by decide +kernel
theorem dX9_remember_19 : decode cX9_remember 19 = .ok (.return_, 1) := by decide +kernel
theorem dJ5_init_d00df_0 : decode cJ5_init_d00df 0 = .ok (.aload_n 0, 1) := by decide +kernel
theorem dJ5_init_d00df_1 : decode cJ5_init_d00df 1 = .ok (.invokespecial 3, 3) := by decide +kernel
theorem dJ5_init_d00df_4 : decode cJ5_init_d00df 4 = .ok (.getstatic 18, 3) := by decide +kernel
theorem dJ5_init_d00df_7 : decode cJ5_init_d00df 7 = .ok (.ifCond .eq 18, 3) := by decide +kernel
theorem dJ5_init_d00df_10 : decode cJ5_init_d00df 10 = .ok (.aload_n 0, 1) := by decide +kernel
theorem dJ5_init_d00df_11 : decode cJ5_init_d00df 11 = .ok (.iload_n 1, 1) := by decide +kernel
theorem dJ5_init_d00df_12 : decode cJ5_init_d00df 12 = .ok (.newarray .byte, 2) := by decide +kernel
theorem dJ5_init_d00df_14 : decode cJ5_init_d00df 14 = .ok (.putfield 15, 3) := by decide +kernel
theorem dJ5_init_d00df_17 : decode cJ5_init_d00df 17 = .ok (.aload_n 0, 1) := by decide +kernel
theorem dJ5_init_d00df_18 : decode cJ5_init_d00df 18 = .ok (.iconst 0, 1) := by decide +kernel
theorem dJ5_init_d00df_19 : decode cJ5_init_d00df 19 = .ok (.putfield 22, 3) := by decide +kernel
theorem dJ5_init_d00df_22 : decode cJ5_init_d00df 22 = .ok (.goto 16, 3) := by decide +kernel
theorem dJ5_init_d00df_25 : decode cJ5_init_d00df 25 = .ok (.aload_n 0, 1) := by decide +kernel
theorem dJ5_init_d00df_26 : decode cJ5_init_d00df 26 = .ok (.iload_n 1, 1) := by decide +kernel
theorem dJ5_init_d00df_27 : decode cJ5_init_d00df 27 = .ok (.invokestatic 26, 3) := by decide +kernel
theorem dJ5_init_d00df_30 : decode cJ5_init_d00df 30 = .ok (.putfield 15, 3) := by decide +kernel
theorem dJ5_init_d00df_33 : decode cJ5_init_d00df 33 = .ok (.aload_n 0, 1) := by decide +kernel
theorem dJ5_init_d00df_34 : decode cJ5_init_d00df 34 = .ok (.iconst 1, 1) := by decide +kernel
theorem dJ5_init_d00df_35 : decode cJ5_init_d00df 35 = .ok (.putfield 22, 3) := by decide +kernel
theorem dJ5_init_d00df_38 : decode cJ5_init_d00df 38 = .ok (.return_, 1) := by decide +kernel
theorem dJ5_length_8abf5_0 : decode cJ5_length_8abf5 0 = .ok (.aload_n 0, 1) := by decide +kernel
theorem dJ5_length_8abf5_1 : decode cJ5_length_8abf5 1 = .ok (.getfield 79, 3) := by decide +kernel
theorem dJ5_length_8abf5_4 : decode cJ5_length_8abf5 4 = .ok (.ireturn, 1) := by decide +kernel
theorem dJ5_ensureCapacityInternal_d00df_0 : decode cJ5_ensureCapacityInternal_d00df 0 = .ok (.aload_n 0, 1) := by decide +kernel
theorem dJ5_ensureCapacityInternal_d00df_1 : decode cJ5_ensureCapacityInternal_d00df 1 = .ok (.getfield 15, 3) := by decide +kernel
theorem dJ5_ensureCapacityInternal_d00df_4 : decode cJ5_ensureCapacityInternal_d00df 4 = .ok (.arraylength, 1) := by decide +kernel
theorem dJ5_ensureCapacityInternal_d00df_5 : decode cJ5_ensureCapacityInternal_d00df 5 = .ok (.aload_n 0, 1) := by decide +kernel
theorem dJ5_ensureCapacityInternal_d00df_6 : decode cJ5_ensureCapacityInternal_d00df 6 = .ok (.getfield 22, 3) := by decide +kernel
theorem dJ5_ensureCapacityInternal_d00df_9 : decode cJ5_ensureCapacityInternal_d00df 9 = .ok (.ishr, 1) := by decide +kernel
theorem dJ5_ensureCapacityInternal_d00df_10 : decode cJ5_ensureCapacityInternal_d00df 10 = .ok (.istore_n 2, 1) := by decide +kernel
theorem dJ5_ensureCapacityInternal_d00df_11 : decode cJ5_ensureCapacityInternal_d00df 11 = .ok (.iload_n 1, 1) := by decide +kernel
theorem dJ5_ensureCapacityInternal_d00df_12 : decode cJ5_ensureCapacityInternal_d00df 12 = .ok (.iload_n 2, 1) := by decide +kernel
theorem dJ5_ensureCapacityInternal_d00df_13 : decode cJ5_ensureCapacityInternal_d00df 13 = .ok (.isub, 1) := by decide +kernel
theorem dJ5_ensureCapacityInternal_d00df_14 : decode cJ5_ensureCapacityInternal_d00df 14 = .ok (.ifCond .le 24, 3) := by decide +kernel
theorem dJ5_ensureCapacityInternal_d00df_17 : decode cJ5_ensureCapacityInternal_d00df 17 = .ok (.aload_n 0, 1) := by decide +kernel
theorem dJ5_ensureCapacityInternal_d00df_18 : decode cJ5_ensureCapacityInternal_d00df 18 = .ok (.aload_n 0, 1) := by decide +kernel
theorem dJ5_ensureCapacityInternal_d00df_19 : decode cJ5_ensureCapacityInternal_d00df 19 = .ok (.getfield 15, 3) := by decide +kernel
theorem dJ5_ensureCapacityInternal_d00df_22 : decode cJ5_ensureCapacityInternal_d00df 22 = .ok (.aload_n 0, 1) := by decide +kernel
theorem dJ5_ensureCapacityInternal_d00df_23 : decode cJ5_ensureCapacityInternal_d00df 23 = .ok (.iload_n 1, 1) := by decide +kernel
theorem dJ5_ensureCapacityInternal_d00df_24 : decode cJ5_ensureCapacityInternal_d00df 24 = .ok (.invokevirtual 104, 3) := by decide +kernel
theorem dJ5_ensureCapacityInternal_d00df_27 : decode cJ5_ensureCapacityInternal_d00df 27 = .ok (.aload_n 0, 1) := by decide +kernel
theorem dJ5_ensureCapacityInternal_d00df_28 : decode cJ5_ensureCapacityInternal_d00df 28 = .ok (.getfield 22, 3) := by decide +kernel
theorem dJ5_ensureCapacityInternal_d00df_31 : decode cJ5_ensureCapacityInternal_d00df 31 = .ok (.ishl, 1) := by decide +kernel
theorem dJ5_ensureCapacityInternal_d00df_32 : decode cJ5_ensureCapacityInternal_d00df 32 = .ok (.invokestatic 108, 3) := by decide +kernel
theorem dJ5_ensureCapacityInternal_d00df_35 : decode cJ5_ensureCapacityInternal_d00df 35 = .ok (.putfield 15, 3) := by decide +kernel
theorem dJ5_ensureCapacityInternal_d00df_38 : decode cJ5_ensureCapacityInternal_d00df 38 = .ok (.return_, 1) := by decide +kernel
theorem dJ5_newCapacity_0f7a4_0 : decode cJ5_newCapacity_0f7a4 0 = .ok (.aload_n 0, 1) := by decide +kernel
theorem dJ5_newCapacity_0f7a4_1 : decode cJ5_newCapacity_0f7a4 1 = .ok (.getfield 15, 3) := by decide +kernel
theorem dJ5_newCapacity_0f7a4_4 : decode cJ5_newCapacity_0f7a4 4 = .ok (.arraylength, 1) := by decide +kernel
theorem dJ5_newCapacity_0f7a4_5 : decode cJ5_newCapacity_0f7a4 5 = .ok (.istore_n 2, 1) := by decide +kernel
theorem dJ5_newCapacity_0f7a4_6 : decode cJ5_newCapacity_0f7a4 6 = .ok (.iload_n 1, 1) := by decide +kernel
theorem dJ5_newCapacity_0f7a4_7 : decode cJ5_newCapacity_0f7a4 7 = .ok (.aload_n 0, 1) := by decide +kernel
theorem dJ5_newCapacity_0f7a4_8 : decode cJ5_newCapacity_0f7a4 8 = .ok (.getfield 22, 3) := by decide +kernel
theorem dJ5_newCapacity_0f7a4_11 : decode cJ5_newCapacity_0f7a4 11 = .ok (.ishl, 1) := by decide +kernel
theorem dJ5_newCapacity_0f7a4_12 : decode cJ5_newCapacity_0f7a4 12 = .ok (.istore_n 3, 1) := by decide +kernel
theorem dJ5_newCapacity_0f7a4_13 : decode cJ5_newCapacity_0f7a4 13 = .ok (.iload_n 3, 1) := by decide +kernel
theorem dJ5_newCapacity_0f7a4_14 : decode cJ5_newCapacity_0f7a4 14 = .ok (.iload_n 2, 1) := by decide +kernel
theorem dJ5_newCapacity_0f7a4_15 : decode cJ5_newCapacity_0f7a4 15 = .ok (.isub, 1) := by decide +kernel
theorem dJ5_newCapacity_0f7a4_16 : decode cJ5_newCapacity_0f7a4 16 = .ok (.istore 4, 2) := by decide +kernel
theorem dJ5_newCapacity_0f7a4_18 : decode cJ5_newCapacity_0f7a4 18 = .ok (.iload_n 2, 1) := by decide +kernel
theorem dJ5_newCapacity_0f7a4_19 : decode cJ5_newCapacity_0f7a4 19 = .ok (.iload 4, 2) := by decide +kernel
theorem dJ5_newCapacity_0f7a4_21 : decode cJ5_newCapacity_0f7a4 21 = .ok (.iload_n 2, 1) := by decide +kernel
theorem dJ5_newCapacity_0f7a4_22 : decode cJ5_newCapacity_0f7a4 22 = .ok (.iconst 2, 1) := by decide +kernel
theorem dJ5_newCapacity_0f7a4_23 : decode cJ5_newCapacity_0f7a4 23 = .ok (.aload_n 0, 1) := by decide +kernel
theorem dJ5_newCapacity_0f7a4_24 : decode cJ5_newCapacity_0f7a4 24 = .ok (.getfield 22, 3) := by decide +kernel
theorem dJ5_newCapacity_0f7a4_27 : decode cJ5_newCapacity_0f7a4 27 = .ok (.ishl, 1) := by decide +kernel
theorem dJ5_newCapacity_0f7a4_28 : decode cJ5_newCapacity_0f7a4 28 = .ok (.iadd, 1) := by decide +kernel
theorem dJ5_newCapacity_0f7a4_29 : decode cJ5_newCapacity_0f7a4 29 = .ok (.invokestatic 114, 3) := by decide +kernel
theorem dJ5_newCapacity_0f7a4_32 : decode cJ5_newCapacity_0f7a4 32 = .ok (.istore 5, 2) := by decide +kernel
theorem dJ5_newCapacity_0f7a4_34 : decode cJ5_newCapacity_0f7a4 34 = .ok (.iload 5, 2) := by decide +kernel
theorem dJ5_newCapacity_0f7a4_36 : decode cJ5_newCapacity_0f7a4 36 = .ok (.ldc 39, 2) := by decide +kernel
theorem dJ5_newCapacity_0f7a4_38 : decode cJ5_newCapacity_0f7a4 38 = .ok (.if_icmp .ne 13, 3) := by decide +kernel
theorem dJ5_newCapacity_0f7a4_41 : decode cJ5_newCapacity_0f7a4 41 = .ok (.new 120, 3) := by decide +kernel
theorem dJ5_newCapacity_0f7a4_44 : decode cJ5_newCapacity_0f7a4 44 = .ok (.dup, 1) := by decide +kernel
theorem dJ5_newCapacity_0f7a4_45 : decode cJ5_newCapacity_0f7a4 45 = .ok (.ldc 122, 2) := by decide +kernel
theorem dJ5_newCapacity_0f7a4_47 : decode cJ5_newCapacity_0f7a4 47 = .ok (.invokespecial 124, 3) := by decide +kernel
theorem dJ5_newCapacity_0f7a4_50 : decode cJ5_newCapacity_0f7a4 50 = .ok (.athrow, 1) := by decide +kernel
theorem dJ5_newCapacity_0f7a4_51 : decode cJ5_newCapacity_0f7a4 51 = .ok (.iload 5, 2) := by decide +kernel
theorem dJ5_newCapacity_0f7a4_53 : decode cJ5_newCapacity_0f7a4 53 = .ok (.aload_n 0, 1) := by decide +kernel
theorem dJ5_newCapacity_0f7a4_54 : decode cJ5_newCapacity_0f7a4 54 = .ok (.getfield 22, 3) := by decide +kernel
theorem dJ5_newCapacity_0f7a4_57 : decode cJ5_newCapacity_0f7a4 57 = .ok (.ishr, 1) := by decide +kernel
theorem dJ5_newCapacity_0f7a4_58 : decode cJ5_newCapacity_0f7a4 58 = .ok (.ireturn, 1) := by decide +kernel
theorem dJ5_inflate_da8c8_0 : decode cJ5_inflate_da8c8 0 = .ok (.aload_n 0, 1) := by decide +kernel
theorem dJ5_inflate_da8c8_1 : decode cJ5_inflate_da8c8 1 = .ok (.invokevirtual 83, 3) := by decide +kernel
theorem dJ5_inflate_da8c8_4 : decode cJ5_inflate_da8c8 4 = .ok (.ifCond .ne 4, 3) := by decide +kernel
theorem dJ5_inflate_da8c8_7 : decode cJ5_inflate_da8c8 7 = .ok (.return_, 1) := by decide +kernel
theorem dJ5_inflate_da8c8_8 : decode cJ5_inflate_da8c8 8 = .ok (.aload_n 0, 1) := by decide +kernel
theorem dJ5_inflate_da8c8_9 : decode cJ5_inflate_da8c8 9 = .ok (.getfield 15, 3) := by decide +kernel
theorem dJ5_inflate_da8c8_12 : decode cJ5_inflate_da8c8 12 = .ok (.arraylength, 1) := by decide +kernel
theorem dJ5_inflate_da8c8_13 : decode cJ5_inflate_da8c8 13 = .ok (.invokestatic 26, 3) := by decide +kernel
theorem dJ5_inflate_da8c8_16 : decode cJ5_inflate_da8c8 16 = .ok (.astore_n 1, 1) := by decide +kernel
theorem dJ5_inflate_da8c8_17 : decode cJ5_inflate_da8c8 17 = .ok (.aload_n 0, 1) := by decide +kernel
theorem dJ5_inflate_da8c8_18 : decode cJ5_inflate_da8c8 18 = .ok (.getfield 15, 3) := by decide +kernel
theorem dJ5_inflate_da8c8_21 : decode cJ5_inflate_da8c8 21 = .ok (.iconst 0, 1) := by decide +kernel
theorem dJ5_inflate_da8c8_22 : decode cJ5_inflate_da8c8 22 = .ok (.aload_n 1, 1) := by decide +kernel
theorem dJ5_inflate_da8c8_23 : decode cJ5_inflate_da8c8 23 = .ok (.iconst 0, 1) := by decide +kernel
theorem dJ5_inflate_da8c8_24 : decode cJ5_inflate_da8c8 24 = .ok (.aload_n 0, 1) := by decide +kernel
theorem dJ5_inflate_da8c8_25 : decode cJ5_inflate_da8c8 25 = .ok (.getfield 79, 3) := by decide +kernel
theorem dJ5_inflate_da8c8_28 : decode cJ5_inflate_da8c8 28 = .ok (.invokestatic 125, 3) := by decide +kernel
theorem dJ5_inflate_da8c8_31 : decode cJ5_inflate_da8c8 31 = .ok (.aload_n 0, 1) := by decide +kernel
theorem dJ5_inflate_da8c8_32 : decode cJ5_inflate_da8c8 32 = .ok (.aload_n 1, 1) := by decide +kernel
theorem dJ5_inflate_da8c8_33 : decode cJ5_inflate_da8c8 33 = .ok (.putfield 15, 3) := by decide +kernel
theorem dJ5_inflate_da8c8_36 : decode cJ5_inflate_da8c8 36 = .ok (.aload_n 0, 1) := by decide +kernel
theorem dJ5_inflate_da8c8_37 : decode cJ5_inflate_da8c8 37 = .ok (.iconst 1, 1) := by decide +kernel
theorem dJ5_inflate_da8c8_38 : decode cJ5_inflate_da8c8 38 = .ok (.putfield 22, 3) := by decide +kernel
theorem dJ5_inflate_da8c8_41 : decode cJ5_inflate_da8c8 41 = .ok (.return_, 1) := by decide +kernel
theorem dJ5_append_cf1ce_0 : decode cJ5_append_cf1ce 0 = .ok (.aload_n 1, 1) := by decide +kernel
theorem dJ5_append_cf1ce_1 : decode cJ5_append_cf1ce 1 = .ok (.ifnonnull 8, 3) := by decide +kernel
theorem dJ5_append_cf1ce_4 : decode cJ5_append_cf1ce 4 = .ok (.aload_n 0, 1) := by decide +kernel
theorem dJ5_append_cf1ce_5 : decode cJ5_append_cf1ce 5 = .ok (.invokevirtual 204, 3) := by decide +kernel
theorem dJ5_append_cf1ce_8 : decode cJ5_append_cf1ce 8 = .ok (.areturn, 1) := by decide +kernel
theorem dJ5_append_cf1ce_9 : decode cJ5_append_cf1ce 9 = .ok (.aload_n 1, 1) := by decide +kernel
theorem dJ5_append_cf1ce_10 : decode cJ5_append_cf1ce 10 = .ok (.invokevirtual 32, 3) := by decide +kernel
theorem dJ5_append_cf1ce_13 : decode cJ5_append_cf1ce 13 = .ok (.istore_n 2, 1) := by decide +kernel
theorem dJ5_append_cf1ce_14 : decode cJ5_append_cf1ce 14 = .ok (.aload_n 0, 1) := by decide +kernel
theorem dJ5_append_cf1ce_15 : decode cJ5_append_cf1ce 15 = .ok (.aload_n 0, 1) := by decide +kernel
theorem dJ5_append_cf1ce_16 : decode cJ5_append_cf1ce 16 = .ok (.getfield 79, 3) := by decide +kernel
theorem dJ5_append_cf1ce_19 : decode cJ5_append_cf1ce 19 = .ok (.iload_n 2, 1) := by decide +kernel
theorem dJ5_append_cf1ce_20 : decode cJ5_append_cf1ce 20 = .ok (.iadd, 1) := by decide +kernel
theorem dJ5_append_cf1ce_21 : decode cJ5_append_cf1ce 21 = .ok (.invokevirtual 100, 3) := by decide +kernel
theorem dJ5_append_cf1ce_24 : decode cJ5_append_cf1ce 24 = .ok (.aload_n 0, 1) := by decide +kernel
theorem dJ5_append_cf1ce_25 : decode cJ5_append_cf1ce 25 = .ok (.aload_n 0, 1) := by decide +kernel
theorem dJ5_append_cf1ce_26 : decode cJ5_append_cf1ce 26 = .ok (.getfield 79, 3) := by decide +kernel
theorem dJ5_append_cf1ce_29 : decode cJ5_append_cf1ce 29 = .ok (.aload_n 1, 1) := by decide +kernel
theorem dJ5_append_cf1ce_30 : decode cJ5_append_cf1ce 30 = .ok (.invokevirtual 208, 3) := by decide +kernel
theorem dJ5_append_cf1ce_33 : decode cJ5_append_cf1ce 33 = .ok (.aload_n 0, 1) := by decide +kernel
theorem dJ5_append_cf1ce_34 : decode cJ5_append_cf1ce 34 = .ok (.dup, 1) := by decide +kernel
theorem dJ5_append_cf1ce_35 : decode cJ5_append_cf1ce 35 = .ok (.getfield 79, 3) := by decide +kernel
theorem dJ5_append_cf1ce_38 : decode cJ5_append_cf1ce 38 = .ok (.iload_n 2, 1) := by decide +kernel
theorem dJ5_append_cf1ce_39 : decode cJ5_append_cf1ce 39 = .ok (.iadd, 1) := by decide +kernel
theorem dJ5_append_cf1ce_40 : decode cJ5_append_cf1ce 40 = .ok (.putfield 79, 3) := by decide +kernel
theorem dJ5_append_cf1ce_43 : decode cJ5_append_cf1ce 43 = .ok (.aload_n 0, 1) := by decide +kernel
theorem dJ5_append_cf1ce_44 : decode cJ5_append_cf1ce 44 = .ok (.areturn, 1) := by decide +kernel
theorem dJ5_appendNull_278bc_0 : decode cJ5_appendNull_278bc 0 = .ok (.aload_n 0, 1) := by decide +kernel
theorem dJ5_appendNull_278bc_1 : decode cJ5_appendNull_278bc 1 = .ok (.aload_n 0, 1) := by decide +kernel
theorem dJ5_appendNull_278bc_2 : decode cJ5_appendNull_278bc 2 = .ok (.getfield 79, 3) := by decide +kernel
theorem dJ5_appendNull_278bc_5 : decode cJ5_appendNull_278bc 5 = .ok (.iconst 4, 1) := by decide +kernel
theorem dJ5_appendNull_278bc_6 : decode cJ5_appendNull_278bc 6 = .ok (.iadd, 1) := by decide +kernel
theorem dJ5_appendNull_278bc_7 : decode cJ5_appendNull_278bc 7 = .ok (.invokevirtual 100, 3) := by decide +kernel
theorem dJ5_appendNull_278bc_10 : decode cJ5_appendNull_278bc 10 = .ok (.aload_n 0, 1) := by decide +kernel
theorem dJ5_appendNull_278bc_11 : decode cJ5_appendNull_278bc 11 = .ok (.getfield 79, 3) := by decide +kernel
theorem dJ5_appendNull_278bc_14 : decode cJ5_appendNull_278bc 14 = .ok (.istore_n 1, 1) := by decide +kernel
theorem dJ5_appendNull_278bc_15 : decode cJ5_appendNull_278bc 15 = .ok (.aload_n 0, 1) := by decide +kernel
theorem dJ5_appendNull_278bc_16 : decode cJ5_appendNull_278bc 16 = .ok (.getfield 15, 3) := by decide +kernel
theorem dJ5_appendNull_278bc_19 : decode cJ5_appendNull_278bc 19 = .ok (.astore_n 2, 1) := by decide +kernel
theorem dJ5_appendNull_278bc_20 : decode cJ5_appendNull_278bc 20 = .ok (.aload_n 0, 1) := by decide +kernel
theorem dJ5_appendNull_278bc_21 : decode cJ5_appendNull_278bc 21 = .ok (.invokevirtual 83, 3) := by decide +kernel
theorem dJ5_appendNull_278bc_24 : decode cJ5_appendNull_278bc 24 = .ok (.ifCond .eq 38, 3) := by decide +kernel
theorem dJ5_appendNull_278bc_27 : decode cJ5_appendNull_278bc 27 = .ok (.aload_n 2, 1) := by decide +kernel
theorem dJ5_appendNull_278bc_28 : decode cJ5_appendNull_278bc 28 = .ok (.iload_n 1, 1) := by decide +kernel
theorem dJ5_appendNull_278bc_29 : decode cJ5_appendNull_278bc 29 = .ok (.iinc 1 1, 3) := by decide +kernel
theorem dJ5_appendNull_278bc_32 : decode cJ5_appendNull_278bc 32 = .ok (.bipush 110, 2) := by decide +kernel
theorem dJ5_appendNull_278bc_34 : decode cJ5_appendNull_278bc 34 = .ok (.bastore, 1) := by decide +kernel
theorem dJ5_appendNull_278bc_35 : decode cJ5_appendNull_278bc 35 = .ok (.aload_n 2, 1) := by decide +kernel
theorem dJ5_appendNull_278bc_36 : decode cJ5_appendNull_278bc 36 = .ok (.iload_n 1, 1) := by decide +kernel
theorem dJ5_appendNull_278bc_37 : decode cJ5_appendNull_278bc 37 = .ok (.iinc 1 1, 3) := by decide +kernel
theorem dJ5_appendNull_278bc_40 : decode cJ5_appendNull_278bc 40 = .ok (.bipush 117, 2) := by decide +kernel
theorem dJ5_appendNull_278bc_42 : decode cJ5_appendNull_278bc 42 = .ok (.bastore, 1) := by decide +kernel
theorem dJ5_appendNull_278bc_43 : decode cJ5_appendNull_278bc 43 = .ok (.aload_n 2, 1) := by decide +kernel
theorem dJ5_appendNull_278bc_44 : decode cJ5_appendNull_278bc 44 = .ok (.iload_n 1, 1) := by decide +kernel
theorem dJ5_appendNull_278bc_45 : decode cJ5_appendNull_278bc 45 = .ok (.iinc 1 1, 3) := by decide +kernel
theorem dJ5_appendNull_278bc_48 : decode cJ5_appendNull_278bc 48 = .ok (.bipush 108, 2) := by decide +kernel
theorem dJ5_appendNull_278bc_50 : decode cJ5_appendNull_278bc 50 = .ok (.bastore, 1) := by decide +kernel
theorem dJ5_appendNull_278bc_51 : decode cJ5_appendNull_278bc 51 = .ok (.aload_n 2, 1) := by decide +kernel
theorem dJ5_appendNull_278bc_52 : decode cJ5_appendNull_278bc 52 = .ok (.iload_n 1, 1) := by decide +kernel
theorem dJ5_appendNull_278bc_53 : decode cJ5_appendNull_278bc 53 = .ok (.iinc 1 1, 3) := by decide +kernel
theorem dJ5_appendNull_278bc_56 : decode cJ5_appendNull_278bc 56 = .ok (.bipush 108, 2) := by decide +kernel
theorem dJ5_appendNull_278bc_58 : decode cJ5_appendNull_278bc 58 = .ok (.bastore, 1) := by decide +kernel
theorem dJ5_appendNull_278bc_59 : decode cJ5_appendNull_278bc 59 = .ok (.goto 17, 3) := by decide +kernel
theorem dJ5_appendNull_278bc_62 : decode cJ5_appendNull_278bc 62 = .ok (.aload_n 2, 1) := by decide +kernel
theorem dJ5_appendNull_278bc_63 : decode cJ5_appendNull_278bc 63 = .ok (.iload_n 1, 1) := by decide +kernel
theorem dJ5_appendNull_278bc_64 : decode cJ5_appendNull_278bc 64 = .ok (.bipush 110, 2) := by decide +kernel
theorem dJ5_appendNull_278bc_66 : decode cJ5_appendNull_278bc 66 = .ok (.bipush 117, 2) := by decide +kernel
theorem dJ5_appendNull_278bc_68 : decode cJ5_appendNull_278bc 68 = .ok (.bipush 108, 2) := by decide +kernel
theorem dJ5_appendNull_278bc_70 : decode cJ5_appendNull_278bc 70 = .ok (.bipush 108, 2) := by decide +kernel
theorem dJ5_appendNull_278bc_72 : decode cJ5_appendNull_278bc 72 = .ok (.invokestatic 226, 3) := by decide +kernel
theorem dJ5_appendNull_278bc_75 : decode cJ5_appendNull_278bc 75 = .ok (.istore_n 1, 1) := by decide +kernel
theorem dJ5_appendNull_278bc_76 : decode cJ5_appendNull_278bc 76 = .ok (.aload_n 0, 1) := by decide +kernel
theorem dJ5_appendNull_278bc_77 : decode cJ5_appendNull_278bc 77 = .ok (.iload_n 1, 1) := by decide +kernel
theorem dJ5_appendNull_278bc_78 : decode cJ5_appendNull_278bc 78 = .ok (.putfield 79, 3) := by decide +kernel
theorem dJ5_appendNull_278bc_81 : decode cJ5_appendNull_278bc 81 = .ok (.aload_n 0, 1) := by decide +kernel
theorem dJ5_appendNull_278bc_82 : decode cJ5_appendNull_278bc 82 = .ok (.areturn, 1) := by decide +kernel
theorem dJ5_append_c97b9_0 : decode cJ5_append_c97b9 0 = .ok (.aload_n 0, 1) := by decide +kernel
theorem dJ5_append_c97b9_1 : decode cJ5_append_c97b9 1 = .ok (.getfield 79, 3) := by decide +kernel
theorem dJ5_append_c97b9_4 : decode cJ5_append_c97b9 4 = .ok (.istore_n 2, 1) := by decide +kernel
theorem dJ5_append_c97b9_5 : decode cJ5_append_c97b9 5 = .ok (.iload_n 2, 1) := by decide +kernel
theorem dJ5_append_c97b9_6 : decode cJ5_append_c97b9 6 = .ok (.iload_n 1, 1) := by decide +kernel
theorem dJ5_append_c97b9_7 : decode cJ5_append_c97b9 7 = .ok (.invokestatic 245, 3) := by decide +kernel
theorem dJ5_append_c97b9_10 : decode cJ5_append_c97b9 10 = .ok (.iadd, 1) := by decide +kernel
theorem dJ5_append_c97b9_11 : decode cJ5_append_c97b9 11 = .ok (.istore_n 3, 1) := by decide +kernel
theorem dJ5_append_c97b9_12 : decode cJ5_append_c97b9 12 = .ok (.aload_n 0, 1) := by decide +kernel
theorem dJ5_append_c97b9_13 : decode cJ5_append_c97b9 13 = .ok (.iload_n 3, 1) := by decide +kernel
theorem dJ5_append_c97b9_14 : decode cJ5_append_c97b9 14 = .ok (.invokevirtual 100, 3) := by decide +kernel
theorem dJ5_append_c97b9_17 : decode cJ5_append_c97b9 17 = .ok (.aload_n 0, 1) := by decide +kernel
theorem dJ5_append_c97b9_18 : decode cJ5_append_c97b9 18 = .ok (.invokevirtual 83, 3) := by decide +kernel
theorem dJ5_append_c97b9_21 : decode cJ5_append_c97b9 21 = .ok (.ifCond .eq 16, 3) := by decide +kernel
theorem dJ5_append_c97b9_24 : decode cJ5_append_c97b9 24 = .ok (.iload_n 1, 1) := by decide +kernel
theorem dJ5_append_c97b9_25 : decode cJ5_append_c97b9 25 = .ok (.iload_n 3, 1) := by decide +kernel
theorem dJ5_append_c97b9_26 : decode cJ5_append_c97b9 26 = .ok (.aload_n 0, 1) := by decide +kernel
theorem dJ5_append_c97b9_27 : decode cJ5_append_c97b9 27 = .ok (.getfield 15, 3) := by decide +kernel
theorem dJ5_append_c97b9_30 : decode cJ5_append_c97b9 30 = .ok (.invokestatic 248, 3) := by decide +kernel
theorem dJ5_append_c97b9_33 : decode cJ5_append_c97b9 33 = .ok (.pop, 1) := by decide +kernel
theorem dJ5_append_c97b9_34 : decode cJ5_append_c97b9 34 = .ok (.goto 14, 3) := by decide +kernel
theorem dJ5_append_c97b9_37 : decode cJ5_append_c97b9 37 = .ok (.iload_n 1, 1) := by decide +kernel
theorem dJ5_append_c97b9_38 : decode cJ5_append_c97b9 38 = .ok (.iload_n 2, 1) := by decide +kernel
theorem dJ5_append_c97b9_39 : decode cJ5_append_c97b9 39 = .ok (.iload_n 3, 1) := by decide +kernel
theorem dJ5_append_c97b9_40 : decode cJ5_append_c97b9 40 = .ok (.aload_n 0, 1) := by decide +kernel
theorem dJ5_append_c97b9_41 : decode cJ5_append_c97b9 41 = .ok (.getfield 15, 3) := by decide +kernel
theorem dJ5_append_c97b9_44 : decode cJ5_append_c97b9 44 = .ok (.invokestatic 251, 3) := by decide +kernel
theorem dJ5_append_c97b9_47 : decode cJ5_append_c97b9 47 = .ok (.pop, 1) := by decide +kernel
theorem dJ5_append_c97b9_48 : decode cJ5_append_c97b9 48 = .ok (.aload_n 0, 1) := by decide +kernel
theorem dJ5_append_c97b9_49 : decode cJ5_append_c97b9 49 = .ok (.iload_n 3, 1) := by decide +kernel
theorem dJ5_append_c97b9_50 : decode cJ5_append_c97b9 50 = .ok (.putfield 79, 3) := by decide +kernel
theorem dJ5_append_c97b9_53 : decode cJ5_append_c97b9 53 = .ok (.aload_n 0, 1) := by decide +kernel
theorem dJ5_append_c97b9_54 : decode cJ5_append_c97b9 54 = .ok (.areturn, 1) := by decide +kernel
theorem dJ5_getValue_6d5f1_0 : decode cJ5_getValue_6d5f1 0 = .ok (.aload_n 0, 1) := by decide +kernel
theorem dJ5_getValue_6d5f1_1 : decode cJ5_getValue_6d5f1 1 = .ok (.getfield 15, 3) := by decide +kernel
theorem dJ5_getValue_6d5f1_4 : decode cJ5_getValue_6d5f1 4 = .ok (.areturn, 1) := by decide +kernel
theorem dJ5_isLatin1_aae02_0 : decode cJ5_isLatin1_aae02 0 = .ok (.getstatic 18, 3) := by decide +kernel
theorem dJ5_isLatin1_aae02_3 : decode cJ5_isLatin1_aae02 3 = .ok (.ifCond .eq 14, 3) := by decide +kernel
theorem dJ5_isLatin1_aae02_6 : decode cJ5_isLatin1_aae02 6 = .ok (.aload_n 0, 1) := by decide +kernel
theorem dJ5_isLatin1_aae02_7 : decode cJ5_isLatin1_aae02 7 = .ok (.getfield 22, 3) := by decide +kernel
theorem dJ5_isLatin1_aae02_10 : decode cJ5_isLatin1_aae02 10 = .ok (.ifCond .ne 7, 3) := by decide +kernel
theorem dJ5_isLatin1_aae02_13 : decode cJ5_isLatin1_aae02 13 = .ok (.iconst 1, 1) := by decide +kernel
theorem dJ5_isLatin1_aae02_14 : decode cJ5_isLatin1_aae02 14 = .ok (.goto 4, 3) := by decide +kernel
theorem dJ5_isLatin1_aae02_17 : decode cJ5_isLatin1_aae02 17 = .ok (.iconst 0, 1) := by decide +kernel
theorem dJ5_isLatin1_aae02_18 : decode cJ5_isLatin1_aae02 18 = .ok (.ireturn, 1) := by decide +kernel
theorem dJ5_inflateIfNeededFor_a7421_0 : decode cJ5_inflateIfNeededFor_a7421 0 = .ok (.getstatic 18, 3) := by decide +kernel
theorem dJ5_inflateIfNeededFor_a7421_3 : decode cJ5_inflateIfNeededFor_a7421 3 = .ok (.ifCond .eq 18, 3) := by decide +kernel
theorem dJ5_inflateIfNeededFor_a7421_6 : decode cJ5_inflateIfNeededFor_a7421 6 = .ok (.aload_n 0, 1) := by decide +kernel
theorem dJ5_inflateIfNeededFor_a7421_7 : decode cJ5_inflateIfNeededFor_a7421 7 = .ok (.getfield 22, 3) := by decide +kernel
theorem dJ5_inflateIfNeededFor_a7421_10 : decode cJ5_inflateIfNeededFor_a7421 10 = .ok (.aload_n 1, 1) := by decide +kernel
theorem dJ5_inflateIfNeededFor_a7421_11 : decode cJ5_inflateIfNeededFor_a7421 11 = .ok (.invokevirtual 40, 3) := by decide +kernel
theorem dJ5_inflateIfNeededFor_a7421_14 : decode cJ5_inflateIfNeededFor_a7421 14 = .ok (.if_icmp .eq 7, 3) := by decide +kernel
theorem dJ5_inflateIfNeededFor_a7421_17 : decode cJ5_inflateIfNeededFor_a7421 17 = .ok (.aload_n 0, 1) := by decide +kernel
theorem dJ5_inflateIfNeededFor_a7421_18 : decode cJ5_inflateIfNeededFor_a7421 18 = .ok (.invokevirtual 195, 3) := by decide +kernel
theorem dJ5_inflateIfNeededFor_a7421_21 : decode cJ5_inflateIfNeededFor_a7421 21 = .ok (.return_, 1) := by decide +kernel
theorem dJ5_putStringAt_47b60_0 : decode cJ5_putStringAt_47b60 0 = .ok (.aload_n 0, 1) := by decide +kernel
theorem dJ5_putStringAt_47b60_1 : decode cJ5_putStringAt_47b60 1 = .ok (.aload_n 2, 1) := by decide +kernel
theorem dJ5_putStringAt_47b60_2 : decode cJ5_putStringAt_47b60 2 = .ok (.invokevirtual 397, 3) := by decide +kernel
theorem dJ5_putStringAt_47b60_5 : decode cJ5_putStringAt_47b60 5 = .ok (.aload_n 2, 1) := by decide +kernel
theorem dJ5_putStringAt_47b60_6 : decode cJ5_putStringAt_47b60 6 = .ok (.aload_n 0, 1) := by decide +kernel
theorem dJ5_putStringAt_47b60_7 : decode cJ5_putStringAt_47b60 7 = .ok (.getfield 15, 3) := by decide +kernel
theorem dJ5_putStringAt_47b60_10 : decode cJ5_putStringAt_47b60 10 = .ok (.iload_n 1, 1) := by decide +kernel
theorem dJ5_putStringAt_47b60_11 : decode cJ5_putStringAt_47b60 11 = .ok (.aload_n 0, 1) := by decide +kernel
theorem dJ5_putStringAt_47b60_12 : decode cJ5_putStringAt_47b60 12 = .ok (.getfield 22, 3) := by decide +kernel
theorem dJ5_putStringAt_47b60_15 : decode cJ5_putStringAt_47b60 15 = .ok (.invokevirtual 399, 3) := by decide +kernel
theorem dJ5_putStringAt_47b60_18 : decode cJ5_putStringAt_47b60 18 = .ok (.return_, 1) := by decide +kernel
theorem dJ6_getChars_ba4f3_0 : decode cJ6_getChars_ba4f3 0 = .ok (.iload_n 1, 1) := by decide +kernel
theorem dJ6_getChars_ba4f3_1 : decode cJ6_getChars_ba4f3 1 = .ok (.istore 5, 2) := by decide +kernel
theorem dJ6_getChars_ba4f3_3 : decode cJ6_getChars_ba4f3 3 = .ok (.iload_n 0, 1) := by decide +kernel
theorem dJ6_getChars_ba4f3_4 : decode cJ6_getChars_ba4f3 4 = .ok (.ifCond .ge 7, 3) := by decide +kernel
theorem dJ6_getChars_ba4f3_7 : decode cJ6_getChars_ba4f3 7 = .ok (.iconst 1, 1) := by decide +kernel
theorem dJ6_getChars_ba4f3_8 : decode cJ6_getChars_ba4f3 8 = .ok (.goto 4, 3) := by decide +kernel
theorem dJ6_getChars_ba4f3_11 : decode cJ6_getChars_ba4f3 11 = .ok (.iconst 0, 1) := by decide +kernel
theorem dJ6_getChars_ba4f3_12 : decode cJ6_getChars_ba4f3 12 = .ok (.istore 6, 2) := by decide +kernel
theorem dJ6_getChars_ba4f3_14 : decode cJ6_getChars_ba4f3 14 = .ok (.iload 6, 2) := by decide +kernel
theorem dJ6_getChars_ba4f3_16 : decode cJ6_getChars_ba4f3 16 = .ok (.ifCond .ne 6, 3) := by decide +kernel
theorem dJ6_getChars_ba4f3_19 : decode cJ6_getChars_ba4f3 19 = .ok (.iload_n 0, 1) := by decide +kernel
theorem dJ6_getChars_ba4f3_20 : decode cJ6_getChars_ba4f3 20 = .ok (.ineg, 1) := by decide +kernel
theorem dJ6_getChars_ba4f3_21 : decode cJ6_getChars_ba4f3 21 = .ok (.istore_n 0, 1) := by decide +kernel
theorem dJ6_getChars_ba4f3_22 : decode cJ6_getChars_ba4f3 22 = .ok (.iload_n 0, 1) := by decide +kernel
theorem dJ6_getChars_ba4f3_23 : decode cJ6_getChars_ba4f3 23 = .ok (.bipush (-100), 2) := by decide +kernel
theorem dJ6_getChars_ba4f3_25 : decode cJ6_getChars_ba4f3 25 = .ok (.if_icmp .gt 47, 3) := by decide +kernel
theorem dJ6_getChars_ba4f3_28 : decode cJ6_getChars_ba4f3 28 = .ok (.iload_n 0, 1) := by decide +kernel
theorem dJ6_getChars_ba4f3_29 : decode cJ6_getChars_ba4f3 29 = .ok (.bipush 100, 2) := by decide +kernel
theorem dJ6_getChars_ba4f3_31 : decode cJ6_getChars_ba4f3 31 = .ok (.idiv, 1) := by decide +kernel
theorem dJ6_getChars_ba4f3_32 : decode cJ6_getChars_ba4f3 32 = .ok (.istore_n 3, 1) := by decide +kernel
theorem dJ6_getChars_ba4f3_33 : decode cJ6_getChars_ba4f3 33 = .ok (.iload_n 3, 1) := by decide +kernel
theorem dJ6_getChars_ba4f3_34 : decode cJ6_getChars_ba4f3 34 = .ok (.bipush 100, 2) := by decide +kernel
theorem dJ6_getChars_ba4f3_36 : decode cJ6_getChars_ba4f3 36 = .ok (.imul, 1) := by decide +kernel
theorem dJ6_getChars_ba4f3_37 : decode cJ6_getChars_ba4f3 37 = .ok (.iload_n 0, 1) := by decide +kernel
theorem dJ6_getChars_ba4f3_38 : decode cJ6_getChars_ba4f3 38 = .ok (.isub, 1) := by decide +kernel
theorem dJ6_getChars_ba4f3_39 : decode cJ6_getChars_ba4f3 39 = .ok (.istore 4, 2) := by decide +kernel
theorem dJ6_getChars_ba4f3_41 : decode cJ6_getChars_ba4f3 41 = .ok (.iload_n 3, 1) := by decide +kernel
theorem dJ6_getChars_ba4f3_42 : decode cJ6_getChars_ba4f3 42 = .ok (.istore_n 0, 1) := by decide +kernel
theorem dJ6_getChars_ba4f3_43 : decode cJ6_getChars_ba4f3 43 = .ok (.aload_n 2, 1) := by decide +kernel
theorem dJ6_getChars_ba4f3_44 : decode cJ6_getChars_ba4f3 44 = .ok (.iinc 5 (-1), 3) := by decide +kernel
theorem dJ6_getChars_ba4f3_47 : decode cJ6_getChars_ba4f3 47 = .ok (.iload 5, 2) := by decide +kernel
theorem dJ6_getChars_ba4f3_49 : decode cJ6_getChars_ba4f3 49 = .ok (.getstatic 83, 3) := by decide +kernel
theorem dJ6_getChars_ba4f3_52 : decode cJ6_getChars_ba4f3 52 = .ok (.iload 4, 2) := by decide +kernel
theorem dJ6_getChars_ba4f3_54 : decode cJ6_getChars_ba4f3 54 = .ok (.baload, 1) := by decide +kernel
theorem dJ6_getChars_ba4f3_55 : decode cJ6_getChars_ba4f3 55 = .ok (.bastore, 1) := by decide +kernel
theorem dJ6_getChars_ba4f3_56 : decode cJ6_getChars_ba4f3 56 = .ok (.aload_n 2, 1) := by decide +kernel
theorem dJ6_getChars_ba4f3_57 : decode cJ6_getChars_ba4f3 57 = .ok (.iinc 5 (-1), 3) := by decide +kernel
theorem dJ6_getChars_ba4f3_60 : decode cJ6_getChars_ba4f3 60 = .ok (.iload 5, 2) := by decide +kernel
theorem dJ6_getChars_ba4f3_62 : decode cJ6_getChars_ba4f3 62 = .ok (.getstatic 87, 3) := by decide +kernel
theorem dJ6_getChars_ba4f3_65 : decode cJ6_getChars_ba4f3 65 = .ok (.iload 4, 2) := by decide +kernel
theorem dJ6_getChars_ba4f3_67 : decode cJ6_getChars_ba4f3 67 = .ok (.baload, 1) := by decide +kernel
theorem dJ6_getChars_ba4f3_68 : decode cJ6_getChars_ba4f3 68 = .ok (.bastore, 1) := by decide +kernel
theorem dJ6_getChars_ba4f3_69 : decode cJ6_getChars_ba4f3 69 = .ok (.goto (-47), 3) := by decide +kernel
theorem dJ6_getChars_ba4f3_72 : decode cJ6_getChars_ba4f3 72 = .ok (.aload_n 2, 1) := by decide +kernel
theorem dJ6_getChars_ba4f3_73 : decode cJ6_getChars_ba4f3 73 = .ok (.iinc 5 (-1), 3) := by decide +kernel
theorem dJ6_getChars_ba4f3_76 : decode cJ6_getChars_ba4f3 76 = .ok (.iload 5, 2) := by decide +kernel
theorem dJ6_getChars_ba4f3_78 : decode cJ6_getChars_ba4f3 78 = .ok (.getstatic 83, 3) := by decide +kernel
theorem dJ6_getChars_ba4f3_81 : decode cJ6_getChars_ba4f3 81 = .ok (.iload_n 0, 1) := by decide +kernel
theorem dJ6_getChars_ba4f3_82 : decode cJ6_getChars_ba4f3 82 = .ok (.ineg, 1) := by decide +kernel
theorem dJ6_getChars_ba4f3_83 : decode cJ6_getChars_ba4f3 83 = .ok (.baload, 1) := by decide +kernel
theorem dJ6_getChars_ba4f3_84 : decode cJ6_getChars_ba4f3 84 = .ok (.bastore, 1) := by decide +kernel
theorem dJ6_getChars_ba4f3_85 : decode cJ6_getChars_ba4f3 85 = .ok (.iload_n 0, 1) := by decide +kernel
theorem dJ6_getChars_ba4f3_86 : decode cJ6_getChars_ba4f3 86 = .ok (.bipush (-9), 2) := by decide +kernel
theorem dJ6_getChars_ba4f3_88 : decode cJ6_getChars_ba4f3 88 = .ok (.if_icmp .ge 16, 3) := by decide +kernel
theorem dJ6_getChars_ba4f3_91 : decode cJ6_getChars_ba4f3 91 = .ok (.aload_n 2, 1) := by decide +kernel
theorem dJ6_getChars_ba4f3_92 : decode cJ6_getChars_ba4f3 92 = .ok (.iinc 5 (-1), 3) := by decide +kernel
theorem dJ6_getChars_ba4f3_95 : decode cJ6_getChars_ba4f3 95 = .ok (.iload 5, 2) := by decide +kernel
theorem dJ6_getChars_ba4f3_97 : decode cJ6_getChars_ba4f3 97 = .ok (.getstatic 87, 3) := by decide +kernel
theorem dJ6_getChars_ba4f3_100 : decode cJ6_getChars_ba4f3 100 = .ok (.iload_n 0, 1) := by decide +kernel
theorem dJ6_getChars_ba4f3_101 : decode cJ6_getChars_ba4f3 101 = .ok (.ineg, 1) := by decide +kernel
theorem dJ6_getChars_ba4f3_102 : decode cJ6_getChars_ba4f3 102 = .ok (.baload, 1) := by decide +kernel
theorem dJ6_getChars_ba4f3_103 : decode cJ6_getChars_ba4f3 103 = .ok (.bastore, 1) := by decide +kernel
theorem dJ6_getChars_ba4f3_104 : decode cJ6_getChars_ba4f3 104 = .ok (.iload 6, 2) := by decide +kernel
theorem dJ6_getChars_ba4f3_106 : decode cJ6_getChars_ba4f3 106 = .ok (.ifCond .eq 12, 3) := by decide +kernel
theorem dJ6_getChars_ba4f3_109 : decode cJ6_getChars_ba4f3 109 = .ok (.aload_n 2, 1) := by decide +kernel
theorem dJ6_getChars_ba4f3_110 : decode cJ6_getChars_ba4f3 110 = .ok (.iinc 5 (-1), 3) := by decide +kernel
theorem dJ6_getChars_ba4f3_113 : decode cJ6_getChars_ba4f3 113 = .ok (.iload 5, 2) := by decide +kernel
theorem dJ6_getChars_ba4f3_115 : decode cJ6_getChars_ba4f3 115 = .ok (.bipush 45, 2) := by decide +kernel
theorem dJ6_getChars_ba4f3_117 : decode cJ6_getChars_ba4f3 117 = .ok (.bastore, 1) := by decide +kernel
theorem dJ6_getChars_ba4f3_118 : decode cJ6_getChars_ba4f3 118 = .ok (.iload 5, 2) := by decide +kernel
theorem dJ6_getChars_ba4f3_120 : decode cJ6_getChars_ba4f3 120 = .ok (.ireturn, 1) := by decide +kernel
theorem dJ6_stringSize_0f7a4_0 : decode cJ6_stringSize_0f7a4 0 = .ok (.iconst 1, 1) := by decide +kernel
theorem dJ6_stringSize_0f7a4_1 : decode cJ6_stringSize_0f7a4 1 = .ok (.istore_n 1, 1) := by decide +kernel
theorem dJ6_stringSize_0f7a4_2 : decode cJ6_stringSize_0f7a4 2 = .ok (.iload_n 0, 1) := by decide +kernel
theorem dJ6_stringSize_0f7a4_3 : decode cJ6_stringSize_0f7a4 3 = .ok (.ifCond .lt 8, 3) := by decide +kernel
theorem dJ6_stringSize_0f7a4_6 : decode cJ6_stringSize_0f7a4 6 = .ok (.iconst 0, 1) := by decide +kernel
theorem dJ6_stringSize_0f7a4_7 : decode cJ6_stringSize_0f7a4 7 = .ok (.istore_n 1, 1) := by decide +kernel
theorem dJ6_stringSize_0f7a4_8 : decode cJ6_stringSize_0f7a4 8 = .ok (.iload_n 0, 1) := by decide +kernel
theorem dJ6_stringSize_0f7a4_9 : decode cJ6_stringSize_0f7a4 9 = .ok (.ineg, 1) := by decide +kernel
theorem dJ6_stringSize_0f7a4_10 : decode cJ6_stringSize_0f7a4 10 = .ok (.istore_n 0, 1) := by decide +kernel
theorem dJ6_stringSize_0f7a4_11 : decode cJ6_stringSize_0f7a4 11 = .ok (.bipush (-10), 2) := by decide +kernel
theorem dJ6_stringSize_0f7a4_13 : decode cJ6_stringSize_0f7a4 13 = .ok (.istore_n 2, 1) := by decide +kernel
theorem dJ6_stringSize_0f7a4_14 : decode cJ6_stringSize_0f7a4 14 = .ok (.iconst 1, 1) := by decide +kernel
theorem dJ6_stringSize_0f7a4_15 : decode cJ6_stringSize_0f7a4 15 = .ok (.istore_n 3, 1) := by decide +kernel
theorem dJ6_stringSize_0f7a4_16 : decode cJ6_stringSize_0f7a4 16 = .ok (.iload_n 3, 1) := by decide +kernel
theorem dJ6_stringSize_0f7a4_17 : decode cJ6_stringSize_0f7a4 17 = .ok (.bipush 10, 2) := by decide +kernel
theorem dJ6_stringSize_0f7a4_19 : decode cJ6_stringSize_0f7a4 19 = .ok (.if_icmp .ge 23, 3) := by decide +kernel
theorem dJ6_stringSize_0f7a4_22 : decode cJ6_stringSize_0f7a4 22 = .ok (.iload_n 0, 1) := by decide +kernel
theorem dJ6_stringSize_0f7a4_23 : decode cJ6_stringSize_0f7a4 23 = .ok (.iload_n 2, 1) := by decide +kernel
theorem dJ6_stringSize_0f7a4_24 : decode cJ6_stringSize_0f7a4 24 = .ok (.if_icmp .le 7, 3) := by decide +kernel
theorem dJ6_stringSize_0f7a4_27 : decode cJ6_stringSize_0f7a4 27 = .ok (.iload_n 3, 1) := by decide +kernel
theorem dJ6_stringSize_0f7a4_28 : decode cJ6_stringSize_0f7a4 28 = .ok (.iload_n 1, 1) := by decide +kernel
theorem dJ6_stringSize_0f7a4_29 : decode cJ6_stringSize_0f7a4 29 = .ok (.iadd, 1) := by decide +kernel
theorem dJ6_stringSize_0f7a4_30 : decode cJ6_stringSize_0f7a4 30 = .ok (.ireturn, 1) := by decide +kernel
theorem dJ6_stringSize_0f7a4_31 : decode cJ6_stringSize_0f7a4 31 = .ok (.bipush 10, 2) := by decide +kernel
theorem dJ6_stringSize_0f7a4_33 : decode cJ6_stringSize_0f7a4 33 = .ok (.iload_n 2, 1) := by decide +kernel
theorem dJ6_stringSize_0f7a4_34 : decode cJ6_stringSize_0f7a4 34 = .ok (.imul, 1) := by decide +kernel
theorem dJ6_stringSize_0f7a4_35 : decode cJ6_stringSize_0f7a4 35 = .ok (.istore_n 2, 1) := by decide +kernel
theorem dJ6_stringSize_0f7a4_36 : decode cJ6_stringSize_0f7a4 36 = .ok (.iinc 3 1, 3) := by decide +kernel
theorem dJ6_stringSize_0f7a4_39 : decode cJ6_stringSize_0f7a4 39 = .ok (.goto (-23), 3) := by decide +kernel
theorem dJ6_stringSize_0f7a4_42 : decode cJ6_stringSize_0f7a4 42 = .ok (.bipush 10, 2) := by decide +kernel
theorem dJ6_stringSize_0f7a4_44 : decode cJ6_stringSize_0f7a4 44 = .ok (.iload_n 1, 1) := by decide +kernel
theorem dJ6_stringSize_0f7a4_45 : decode cJ6_stringSize_0f7a4 45 = .ok (.iadd, 1) := by decide +kernel
theorem dJ6_stringSize_0f7a4_46 : decode cJ6_stringSize_0f7a4 46 = .ok (.ireturn, 1) := by decide +kernel
theorem dJ9_max_7cf53_0 : decode cJ9_max_7cf53 0 = .ok (.iload_n 0, 1) := by decide +kernel
theorem dJ9_max_7cf53_1 : decode cJ9_max_7cf53 1 = .ok (.iload_n 1, 1) := by decide +kernel
theorem dJ9_max_7cf53_2 : decode cJ9_max_7cf53 2 = .ok (.if_icmp .lt 7, 3) := by decide +kernel
theorem dJ9_max_7cf53_5 : decode cJ9_max_7cf53 5 = .ok (.iload_n 0, 1) := by decide +kernel
theorem dJ9_max_7cf53_6 : decode cJ9_max_7cf53 6 = .ok (.goto 4, 3) := by decide +kernel
theorem dJ9_max_7cf53_9 : decode cJ9_max_7cf53 9 = .ok (.iload_n 1, 1) := by decide +kernel
theorem dJ9_max_7cf53_10 : decode cJ9_max_7cf53 10 = .ok (.ireturn, 1) := by decide +kernel
theorem dJ9_min_7cf53_0 : decode cJ9_min_7cf53 0 = .ok (.iload_n 0, 1) := by decide +kernel
theorem dJ9_min_7cf53_1 : decode cJ9_min_7cf53 1 = .ok (.iload_n 1, 1) := by decide +kernel
theorem dJ9_min_7cf53_2 : decode cJ9_min_7cf53 2 = .ok (.if_icmp .gt 7, 3) := by decide +kernel
theorem dJ9_min_7cf53_5 : decode cJ9_min_7cf53 5 = .ok (.iload_n 0, 1) := by decide +kernel
theorem dJ9_min_7cf53_6 : decode cJ9_min_7cf53 6 = .ok (.goto 4, 3) := by decide +kernel
theorem dJ9_min_7cf53_9 : decode cJ9_min_7cf53 9 = .ok (.iload_n 1, 1) := by decide +kernel
theorem dJ9_min_7cf53_10 : decode cJ9_min_7cf53 10 = .ok (.ireturn, 1) := by decide +kernel
theorem dJ0_init_81219_0 : decode cJ0_init_81219 0 = .ok (.aload_n 0, 1) := by decide +kernel
theorem dJ0_init_81219_1 : decode cJ0_init_81219 1 = .ok (.aload_n 1, 1) := by decide +kernel
theorem dJ0_init_81219_2 : decode cJ0_init_81219 2 = .ok (.aconst_null, 1) := by decide +kernel
theorem dJ0_init_81219_3 : decode cJ0_init_81219 3 = .ok (.invokespecial 489, 3) := by decide +kernel
theorem dJ0_init_81219_6 : decode cJ0_init_81219 6 = .ok (.return_, 1) := by decide +kernel
theorem dJ0_length_8abf5_0 : decode cJ0_length_8abf5 0 = .ok (.aload_n 0, 1) := by decide +kernel
theorem dJ0_length_8abf5_1 : decode cJ0_length_8abf5 1 = .ok (.getfield 9, 3) := by decide +kernel
theorem dJ0_length_8abf5_4 : decode cJ0_length_8abf5 4 = .ok (.arraylength, 1) := by decide +kernel
theorem dJ0_length_8abf5_5 : decode cJ0_length_8abf5 5 = .ok (.aload_n 0, 1) := by decide +kernel
theorem dJ0_length_8abf5_6 : decode cJ0_length_8abf5 6 = .ok (.invokevirtual 335, 3) := by decide +kernel
theorem dJ0_length_8abf5_9 : decode cJ0_length_8abf5 9 = .ok (.ishr, 1) := by decide +kernel
theorem dJ0_length_8abf5_10 : decode cJ0_length_8abf5 10 = .ok (.ireturn, 1) := by decide +kernel
theorem dJ0_charAt_5068e_0 : decode cJ0_charAt_5068e 0 = .ok (.aload_n 0, 1) := by decide +kernel
theorem dJ0_charAt_5068e_1 : decode cJ0_charAt_5068e 1 = .ok (.invokevirtual 492, 3) := by decide +kernel
theorem dJ0_charAt_5068e_4 : decode cJ0_charAt_5068e 4 = .ok (.ifCond .eq 12, 3) := by decide +kernel
theorem dJ0_charAt_5068e_7 : decode cJ0_charAt_5068e 7 = .ok (.aload_n 0, 1) := by decide +kernel
theorem dJ0_charAt_5068e_8 : decode cJ0_charAt_5068e 8 = .ok (.getfield 9, 3) := by decide +kernel
theorem dJ0_charAt_5068e_11 : decode cJ0_charAt_5068e 11 = .ok (.iload_n 1, 1) := by decide +kernel
theorem dJ0_charAt_5068e_12 : decode cJ0_charAt_5068e 12 = .ok (.invokestatic 495, 3) := by decide +kernel
theorem dJ0_charAt_5068e_15 : decode cJ0_charAt_5068e 15 = .ok (.ireturn, 1) := by decide +kernel
theorem dJ0_charAt_5068e_16 : decode cJ0_charAt_5068e 16 = .ok (.aload_n 0, 1) := by decide +kernel
theorem dJ0_charAt_5068e_17 : decode cJ0_charAt_5068e 17 = .ok (.getfield 9, 3) := by decide +kernel
theorem dJ0_charAt_5068e_20 : decode cJ0_charAt_5068e 20 = .ok (.iload_n 1, 1) := by decide +kernel
theorem dJ0_charAt_5068e_21 : decode cJ0_charAt_5068e 21 = .ok (.invokestatic 498, 3) := by decide +kernel
theorem dJ0_charAt_5068e_24 : decode cJ0_charAt_5068e 24 = .ok (.ireturn, 1) := by decide +kernel
theorem dJ0_getBytes_840e7_0 : decode cJ0_getBytes_840e7 0 = .ok (.aload_n 0, 1) := by decide +kernel
theorem dJ0_getBytes_840e7_1 : decode cJ0_getBytes_840e7 1 = .ok (.invokevirtual 335, 3) := by decide +kernel
theorem dJ0_getBytes_840e7_4 : decode cJ0_getBytes_840e7 4 = .ok (.iload_n 3, 1) := by decide +kernel
theorem dJ0_getBytes_840e7_5 : decode cJ0_getBytes_840e7 5 = .ok (.if_icmp .ne 23, 3) := by decide +kernel
theorem dJ0_getBytes_840e7_8 : decode cJ0_getBytes_840e7 8 = .ok (.aload_n 0, 1) := by decide +kernel
theorem dJ0_getBytes_840e7_9 : decode cJ0_getBytes_840e7 9 = .ok (.getfield 9, 3) := by decide +kernel
theorem dJ0_getBytes_840e7_12 : decode cJ0_getBytes_840e7 12 = .ok (.iconst 0, 1) := by decide +kernel
theorem dJ0_getBytes_840e7_13 : decode cJ0_getBytes_840e7 13 = .ok (.aload_n 1, 1) := by decide +kernel
theorem dJ0_getBytes_840e7_14 : decode cJ0_getBytes_840e7 14 = .ok (.iload_n 2, 1) := by decide +kernel
theorem dJ0_getBytes_840e7_15 : decode cJ0_getBytes_840e7 15 = .ok (.iload_n 3, 1) := by decide +kernel
theorem dJ0_getBytes_840e7_16 : decode cJ0_getBytes_840e7 16 = .ok (.ishl, 1) := by decide +kernel
theorem dJ0_getBytes_840e7_17 : decode cJ0_getBytes_840e7 17 = .ok (.aload_n 0, 1) := by decide +kernel
theorem dJ0_getBytes_840e7_18 : decode cJ0_getBytes_840e7 18 = .ok (.getfield 9, 3) := by decide +kernel
theorem dJ0_getBytes_840e7_21 : decode cJ0_getBytes_840e7 21 = .ok (.arraylength, 1) := by decide +kernel
theorem dJ0_getBytes_840e7_22 : decode cJ0_getBytes_840e7 22 = .ok (.invokestatic 212, 3) := by decide +kernel
theorem dJ0_getBytes_840e7_25 : decode cJ0_getBytes_840e7 25 = .ok (.goto 18, 3) := by decide +kernel
theorem dJ0_getBytes_840e7_28 : decode cJ0_getBytes_840e7 28 = .ok (.aload_n 0, 1) := by decide +kernel
theorem dJ0_getBytes_840e7_29 : decode cJ0_getBytes_840e7 29 = .ok (.getfield 9, 3) := by decide +kernel
theorem dJ0_getBytes_840e7_32 : decode cJ0_getBytes_840e7 32 = .ok (.iconst 0, 1) := by decide +kernel
theorem dJ0_getBytes_840e7_33 : decode cJ0_getBytes_840e7 33 = .ok (.aload_n 1, 1) := by decide +kernel
theorem dJ0_getBytes_840e7_34 : decode cJ0_getBytes_840e7 34 = .ok (.iload_n 2, 1) := by decide +kernel
theorem dJ0_getBytes_840e7_35 : decode cJ0_getBytes_840e7 35 = .ok (.aload_n 0, 1) := by decide +kernel
theorem dJ0_getBytes_840e7_36 : decode cJ0_getBytes_840e7 36 = .ok (.getfield 9, 3) := by decide +kernel
theorem dJ0_getBytes_840e7_39 : decode cJ0_getBytes_840e7 39 = .ok (.arraylength, 1) := by decide +kernel
theorem dJ0_getBytes_840e7_40 : decode cJ0_getBytes_840e7 40 = .ok (.invokestatic 106, 3) := by decide +kernel
theorem dJ0_getBytes_840e7_43 : decode cJ0_getBytes_840e7 43 = .ok (.return_, 1) := by decide +kernel
theorem dJ0_init_db425_0 : decode cJ0_init_db425 0 = .ok (.aload_n 0, 1) := by decide +kernel
theorem dJ0_init_db425_1 : decode cJ0_init_db425 1 = .ok (.invokespecial 1, 3) := by decide +kernel
theorem dJ0_init_db425_4 : decode cJ0_init_db425 4 = .ok (.aload_n 1, 1) := by decide +kernel
theorem dJ0_init_db425_5 : decode cJ0_init_db425 5 = .ok (.invokevirtual 552, 3) := by decide +kernel
theorem dJ0_init_db425_8 : decode cJ0_init_db425 8 = .ok (.astore_n 3, 1) := by decide +kernel
theorem dJ0_init_db425_9 : decode cJ0_init_db425 9 = .ok (.aload_n 1, 1) := by decide +kernel
theorem dJ0_init_db425_10 : decode cJ0_init_db425 10 = .ok (.invokevirtual 549, 3) := by decide +kernel
theorem dJ0_init_db425_13 : decode cJ0_init_db425 13 = .ok (.istore 4, 2) := by decide +kernel
theorem dJ0_init_db425_15 : decode cJ0_init_db425 15 = .ok (.aload_n 1, 1) := by decide +kernel
theorem dJ0_init_db425_16 : decode cJ0_init_db425 16 = .ok (.invokevirtual 1047, 3) := by decide +kernel
theorem dJ0_init_db425_19 : decode cJ0_init_db425 19 = .ok (.ifCond .eq 22, 3) := by decide +kernel
theorem dJ0_init_db425_22 : decode cJ0_init_db425 22 = .ok (.aload_n 0, 1) := by decide +kernel
theorem dJ0_init_db425_23 : decode cJ0_init_db425 23 = .ok (.iconst 0, 1) := by decide +kernel
theorem dJ0_init_db425_24 : decode cJ0_init_db425 24 = .ok (.putfield 15, 3) := by decide +kernel
theorem dJ0_init_db425_27 : decode cJ0_init_db425 27 = .ok (.aload_n 0, 1) := by decide +kernel
theorem dJ0_init_db425_28 : decode cJ0_init_db425 28 = .ok (.aload_n 3, 1) := by decide +kernel
theorem dJ0_init_db425_29 : decode cJ0_init_db425 29 = .ok (.iconst 0, 1) := by decide +kernel
theorem dJ0_init_db425_30 : decode cJ0_init_db425 30 = .ok (.iload 4, 2) := by decide +kernel
theorem dJ0_init_db425_32 : decode cJ0_init_db425 32 = .ok (.invokestatic 54, 3) := by decide +kernel
theorem dJ0_init_db425_35 : decode cJ0_init_db425 35 = .ok (.putfield 9, 3) := by decide +kernel
theorem dJ0_init_db425_38 : decode cJ0_init_db425 38 = .ok (.goto 59, 3) := by decide +kernel
theorem dJ0_init_db425_41 : decode cJ0_init_db425 41 = .ok (.getstatic 38, 3) := by decide +kernel
theorem dJ0_init_db425_44 : decode cJ0_init_db425 44 = .ok (.ifCond .eq 35, 3) := by decide +kernel
theorem dJ0_init_db425_47 : decode cJ0_init_db425 47 = .ok (.aload_n 1, 1) := by decide +kernel
theorem dJ0_init_db425_48 : decode cJ0_init_db425 48 = .ok (.getfield 1048, 3) := by decide +kernel
theorem dJ0_init_db425_51 : decode cJ0_init_db425 51 = .ok (.ifCond .eq 28, 3) := by decide +kernel
theorem dJ0_init_db425_54 : decode cJ0_init_db425 54 = .ok (.aload_n 0, 1) := by decide +kernel
theorem dJ0_init_db425_55 : decode cJ0_init_db425 55 = .ok (.aload_n 3, 1) := by decide +kernel
theorem dJ0_init_db425_56 : decode cJ0_init_db425 56 = .ok (.iconst 0, 1) := by decide +kernel
theorem dJ0_init_db425_57 : decode cJ0_init_db425 57 = .ok (.iload 4, 2) := by decide +kernel
theorem dJ0_init_db425_59 : decode cJ0_init_db425 59 = .ok (.invokestatic 1051, 3) := by decide +kernel
theorem dJ0_init_db425_62 : decode cJ0_init_db425 62 = .ok (.putfield 9, 3) := by decide +kernel
theorem dJ0_init_db425_65 : decode cJ0_init_db425 65 = .ok (.aload_n 0, 1) := by decide +kernel
theorem dJ0_init_db425_66 : decode cJ0_init_db425 66 = .ok (.aload_n 0, 1) := by decide +kernel
theorem dJ0_init_db425_67 : decode cJ0_init_db425 67 = .ok (.getfield 9, 3) := by decide +kernel
theorem dJ0_init_db425_70 : decode cJ0_init_db425 70 = .ok (.iload 4, 2) := by decide +kernel
theorem dJ0_init_db425_72 : decode cJ0_init_db425 72 = .ok (.invokestatic 47, 3) := by decide +kernel
theorem dJ0_init_db425_75 : decode cJ0_init_db425 75 = .ok (.putfield 15, 3) := by decide +kernel
theorem dJ0_init_db425_78 : decode cJ0_init_db425 78 = .ok (.return_, 1) := by decide +kernel
theorem dJ0_init_db425_79 : decode cJ0_init_db425 79 = .ok (.aload_n 0, 1) := by decide +kernel
theorem dJ0_init_db425_80 : decode cJ0_init_db425 80 = .ok (.iconst 1, 1) := by decide +kernel
theorem dJ0_init_db425_81 : decode cJ0_init_db425 81 = .ok (.putfield 15, 3) := by decide +kernel
theorem dJ0_init_db425_84 : decode cJ0_init_db425 84 = .ok (.aload_n 0, 1) := by decide +kernel
theorem dJ0_init_db425_85 : decode cJ0_init_db425 85 = .ok (.aload_n 3, 1) := by decide +kernel
theorem dJ0_init_db425_86 : decode cJ0_init_db425 86 = .ok (.iconst 0, 1) := by decide +kernel
theorem dJ0_init_db425_87 : decode cJ0_init_db425 87 = .ok (.iload 4, 2) := by decide +kernel
theorem dJ0_init_db425_89 : decode cJ0_init_db425 89 = .ok (.iconst 1, 1) := by decide +kernel
theorem dJ0_init_db425_90 : decode cJ0_init_db425 90 = .ok (.ishl, 1) := by decide +kernel
theorem dJ0_init_db425_91 : decode cJ0_init_db425 91 = .ok (.invokestatic 54, 3) := by decide +kernel
theorem dJ0_init_db425_94 : decode cJ0_init_db425 94 = .ok (.putfield 9, 3) := by decide +kernel
theorem dJ0_init_db425_97 : decode cJ0_init_db425 97 = .ok (.return_, 1) := by decide +kernel
theorem dJ0_coder_7d493_0 : decode cJ0_coder_7d493 0 = .ok (.getstatic 38, 3) := by decide +kernel
theorem dJ0_coder_7d493_3 : decode cJ0_coder_7d493 3 = .ok (.ifCond .eq 10, 3) := by decide +kernel
theorem dJ0_coder_7d493_6 : decode cJ0_coder_7d493 6 = .ok (.aload_n 0, 1) := by decide +kernel
theorem dJ0_coder_7d493_7 : decode cJ0_coder_7d493 7 = .ok (.getfield 15, 3) := by decide +kernel
theorem dJ0_coder_7d493_10 : decode cJ0_coder_7d493 10 = .ok (.goto 4, 3) := by decide +kernel
theorem dJ0_coder_7d493_13 : decode cJ0_coder_7d493 13 = .ok (.iconst 1, 1) := by decide +kernel
theorem dJ0_coder_7d493_14 : decode cJ0_coder_7d493 14 = .ok (.ireturn, 1) := by decide +kernel
theorem dJ0_isLatin1_aae02_0 : decode cJ0_isLatin1_aae02 0 = .ok (.getstatic 38, 3) := by decide +kernel
theorem dJ0_isLatin1_aae02_3 : decode cJ0_isLatin1_aae02 3 = .ok (.ifCond .eq 14, 3) := by decide +kernel
theorem dJ0_isLatin1_aae02_6 : decode cJ0_isLatin1_aae02 6 = .ok (.aload_n 0, 1) := by decide +kernel
theorem dJ0_isLatin1_aae02_7 : decode cJ0_isLatin1_aae02 7 = .ok (.getfield 15, 3) := by decide +kernel
theorem dJ0_isLatin1_aae02_10 : decode cJ0_isLatin1_aae02 10 = .ok (.ifCond .ne 7, 3) := by decide +kernel
theorem dJ0_isLatin1_aae02_13 : decode cJ0_isLatin1_aae02 13 = .ok (.iconst 1, 1) := by decide +kernel
theorem dJ0_isLatin1_aae02_14 : decode cJ0_isLatin1_aae02 14 = .ok (.goto 4, 3) := by decide +kernel
theorem dJ0_isLatin1_aae02_17 : decode cJ0_isLatin1_aae02 17 = .ok (.iconst 0, 1) := by decide +kernel
theorem dJ0_isLatin1_aae02_18 : decode cJ0_isLatin1_aae02 18 = .ok (.ireturn, 1) := by decide +kernel
theorem dJ0_checkIndex_df160_0 : decode cJ0_checkIndex_df160 0 = .ok (.iload_n 0, 1) := by decide +kernel
theorem dJ0_checkIndex_df160_1 : decode cJ0_checkIndex_df160 1 = .ok (.iload_n 1, 1) := by decide +kernel
theorem dJ0_checkIndex_df160_2 : decode cJ0_checkIndex_df160 2 = .ok (.getstatic 1053, 3) := by decide +kernel
theorem dJ0_checkIndex_df160_5 : decode cJ0_checkIndex_df160 5 = .ok (.invokestatic 1059, 3) := by decide +kernel
theorem dJ0_checkIndex_df160_8 : decode cJ0_checkIndex_df160 8 = .ok (.pop, 1) := by decide +kernel
theorem dJ0_checkIndex_df160_9 : decode cJ0_checkIndex_df160 9 = .ok (.return_, 1) := by decide +kernel
theorem dJ0_checkBoundsOffCount_cabcc_0 : decode cJ0_checkBoundsOffCount_cabcc 0 = .ok (.iload_n 0, 1) := by decide +kernel
theorem dJ0_checkBoundsOffCount_cabcc_1 : decode cJ0_checkBoundsOffCount_cabcc 1 = .ok (.iload_n 1, 1) := by decide +kernel
theorem dJ0_checkBoundsOffCount_cabcc_2 : decode cJ0_checkBoundsOffCount_cabcc 2 = .ok (.iload_n 2, 1) := by decide +kernel
theorem dJ0_checkBoundsOffCount_cabcc_3 : decode cJ0_checkBoundsOffCount_cabcc 3 = .ok (.getstatic 1053, 3) := by decide +kernel
theorem dJ0_checkBoundsOffCount_cabcc_6 : decode cJ0_checkBoundsOffCount_cabcc 6 = .ok (.invokestatic 1065, 3) := by decide +kernel
theorem dJ0_checkBoundsOffCount_cabcc_9 : decode cJ0_checkBoundsOffCount_cabcc 9 = .ok (.ireturn, 1) := by decide +kernel
theorem dJ0_checkBoundsBeginEnd_23922_0 : decode cJ0_checkBoundsBeginEnd_23922 0 = .ok (.iload_n 0, 1) := by decide +kernel
theorem dJ0_checkBoundsBeginEnd_23922_1 : decode cJ0_checkBoundsBeginEnd_23922 1 = .ok (.iload_n 1, 1) := by decide +kernel
theorem dJ0_checkBoundsBeginEnd_23922_2 : decode cJ0_checkBoundsBeginEnd_23922 2 = .ok (.iload_n 2, 1) := by decide +kernel
theorem dJ0_checkBoundsBeginEnd_23922_3 : decode cJ0_checkBoundsBeginEnd_23922 3 = .ok (.getstatic 1053, 3) := by decide +kernel
theorem dJ0_checkBoundsBeginEnd_23922_6 : decode cJ0_checkBoundsBeginEnd_23922 6 = .ok (.invokestatic 1062, 3) := by decide +kernel
theorem dJ0_checkBoundsBeginEnd_23922_9 : decode cJ0_checkBoundsBeginEnd_23922 9 = .ok (.pop, 1) := by decide +kernel
theorem dJ0_checkBoundsBeginEnd_23922_10 : decode cJ0_checkBoundsBeginEnd_23922 10 = .ok (.return_, 1) := by decide +kernel
theorem dJ4_init_da8c8_0 : decode cJ4_init_da8c8 0 = .ok (.aload_n 0, 1) := by decide +kernel
theorem dJ4_init_da8c8_1 : decode cJ4_init_da8c8 1 = .ok (.bipush 16, 2) := by decide +kernel
theorem dJ4_init_da8c8_3 : decode cJ4_init_da8c8 3 = .ok (.invokespecial 1, 3) := by decide +kernel
theorem dJ4_init_da8c8_6 : decode cJ4_init_da8c8 6 = .ok (.return_, 1) := by decide +kernel
theorem dJ4_append_15ec4_0 : decode cJ4_append_15ec4 0 = .ok (.aload_n 0, 1) := by decide +kernel
theorem dJ4_append_15ec4_1 : decode cJ4_append_15ec4 1 = .ok (.aload_n 1, 1) := by decide +kernel
theorem dJ4_append_15ec4_2 : decode cJ4_append_15ec4 2 = .ok (.invokespecial 29, 3) := by decide +kernel
theorem dJ4_append_15ec4_5 : decode cJ4_append_15ec4 5 = .ok (.pop, 1) := by decide +kernel
theorem dJ4_append_15ec4_6 : decode cJ4_append_15ec4 6 = .ok (.aload_n 0, 1) := by decide +kernel
theorem dJ4_append_15ec4_7 : decode cJ4_append_15ec4 7 = .ok (.areturn, 1) := by decide +kernel
theorem dJ4_append_bf812_0 : decode cJ4_append_bf812 0 = .ok (.aload_n 0, 1) := by decide +kernel
theorem dJ4_append_bf812_1 : decode cJ4_append_bf812 1 = .ok (.iload_n 1, 1) := by decide +kernel
theorem dJ4_append_bf812_2 : decode cJ4_append_bf812 2 = .ok (.invokespecial 53, 3) := by decide +kernel
theorem dJ4_append_bf812_5 : decode cJ4_append_bf812 5 = .ok (.pop, 1) := by decide +kernel
theorem dJ4_append_bf812_6 : decode cJ4_append_bf812 6 = .ok (.aload_n 0, 1) := by decide +kernel
theorem dJ4_append_bf812_7 : decode cJ4_append_bf812 7 = .ok (.areturn, 1) := by decide +kernel
theorem dJ4_toString_0e30d_0 : decode cJ4_toString_0e30d 0 = .ok (.new 18, 3) := by decide +kernel
theorem dJ4_toString_0e30d_3 : decode cJ4_toString_0e30d 3 = .ok (.dup, 1) := by decide +kernel
theorem dJ4_toString_0e30d_4 : decode cJ4_toString_0e30d 4 = .ok (.aload_n 0, 1) := by decide +kernel
theorem dJ4_toString_0e30d_5 : decode cJ4_toString_0e30d 5 = .ok (.invokespecial 137, 3) := by decide +kernel
theorem dJ4_toString_0e30d_8 : decode cJ4_toString_0e30d 8 = .ok (.areturn, 1) := by decide +kernel
theorem dJ4_length_8abf5_0 : decode cJ4_length_8abf5 0 = .ok (.aload_n 0, 1) := by decide +kernel
theorem dJ4_length_8abf5_1 : decode cJ4_length_8abf5 1 = .ok (.invokespecial 343, 3) := by decide +kernel
theorem dJ4_length_8abf5_4 : decode cJ4_length_8abf5 4 = .ok (.ireturn, 1) := by decide +kernel
theorem dJ1_charAt_3b067_0 : decode cJ1_charAt_3b067 0 = .ok (.iload_n 1, 1) := by decide +kernel
theorem dJ1_charAt_3b067_1 : decode cJ1_charAt_3b067 1 = .ok (.aload_n 0, 1) := by decide +kernel
theorem dJ1_charAt_3b067_2 : decode cJ1_charAt_3b067 2 = .ok (.arraylength, 1) := by decide +kernel
theorem dJ1_charAt_3b067_3 : decode cJ1_charAt_3b067 3 = .ok (.invokestatic 9, 3) := by decide +kernel
theorem dJ1_charAt_3b067_6 : decode cJ1_charAt_3b067 6 = .ok (.aload_n 0, 1) := by decide +kernel
theorem dJ1_charAt_3b067_7 : decode cJ1_charAt_3b067 7 = .ok (.iload_n 1, 1) := by decide +kernel
theorem dJ1_charAt_3b067_8 : decode cJ1_charAt_3b067 8 = .ok (.baload, 1) := by decide +kernel
theorem dJ1_charAt_3b067_9 : decode cJ1_charAt_3b067 9 = .ok (.sipush 255, 3) := by decide +kernel
theorem dJ1_charAt_3b067_12 : decode cJ1_charAt_3b067 12 = .ok (.iand, 1) := by decide +kernel
theorem dJ1_charAt_3b067_13 : decode cJ1_charAt_3b067 13 = .ok (.i2c, 1) := by decide +kernel
theorem dJ1_charAt_3b067_14 : decode cJ1_charAt_3b067 14 = .ok (.ireturn, 1) := by decide +kernel
theorem dJ1_inflate_0e8fd_0 : decode cJ1_inflate_0e8fd 0 = .ok (.aload_n 0, 1) := by decide +kernel
theorem dJ1_inflate_0e8fd_1 : decode cJ1_inflate_0e8fd 1 = .ok (.iload_n 1, 1) := by decide +kernel
theorem dJ1_inflate_0e8fd_2 : decode cJ1_inflate_0e8fd 2 = .ok (.aload_n 2, 1) := by decide +kernel
theorem dJ1_inflate_0e8fd_3 : decode cJ1_inflate_0e8fd 3 = .ok (.iload_n 3, 1) := by decide +kernel
theorem dJ1_inflate_0e8fd_4 : decode cJ1_inflate_0e8fd 4 = .ok (.iload 4, 2) := by decide +kernel
theorem dJ1_inflate_0e8fd_6 : decode cJ1_inflate_0e8fd 6 = .ok (.invokestatic 240, 3) := by decide +kernel
theorem dJ1_inflate_0e8fd_9 : decode cJ1_inflate_0e8fd 9 = .ok (.return_, 1) := by decide +kernel
theorem dJ2_newBytesFor_77867_0 : decode cJ2_newBytesFor_77867 0 = .ok (.iload_n 0, 1) := by decide +kernel
theorem dJ2_newBytesFor_77867_1 : decode cJ2_newBytesFor_77867 1 = .ok (.invokestatic 11, 3) := by decide +kernel
theorem dJ2_newBytesFor_77867_4 : decode cJ2_newBytesFor_77867 4 = .ok (.newarray .byte, 2) := by decide +kernel
theorem dJ2_newBytesFor_77867_6 : decode cJ2_newBytesFor_77867 6 = .ok (.areturn, 1) := by decide +kernel
theorem dJ2_newBytesLength_0f7a4_0 : decode cJ2_newBytesLength_0f7a4 0 = .ok (.iload_n 0, 1) := by decide +kernel
theorem dJ2_newBytesLength_0f7a4_1 : decode cJ2_newBytesLength_0f7a4 1 = .ok (.ifCond .ge 11, 3) := by decide +kernel
theorem dJ2_newBytesLength_0f7a4_4 : decode cJ2_newBytesLength_0f7a4 4 = .ok (.new 17, 3) := by decide +kernel
theorem dJ2_newBytesLength_0f7a4_7 : decode cJ2_newBytesLength_0f7a4 7 = .ok (.dup, 1) := by decide +kernel
theorem dJ2_newBytesLength_0f7a4_8 : decode cJ2_newBytesLength_0f7a4 8 = .ok (.invokespecial 19, 3) := by decide +kernel
theorem dJ2_newBytesLength_0f7a4_11 : decode cJ2_newBytesLength_0f7a4 11 = .ok (.athrow, 1) := by decide +kernel
theorem dJ2_newBytesLength_0f7a4_12 : decode cJ2_newBytesLength_0f7a4 12 = .ok (.iload_n 0, 1) := by decide +kernel
theorem dJ2_newBytesLength_0f7a4_13 : decode cJ2_newBytesLength_0f7a4 13 = .ok (.ldc 20, 2) := by decide +kernel
theorem dJ2_newBytesLength_0f7a4_15 : decode cJ2_newBytesLength_0f7a4 15 = .ok (.if_icmp .lt 40, 3) := by decide +kernel
theorem dJ2_newBytesLength_0f7a4_18 : decode cJ2_newBytesLength_0f7a4 18 = .ok (.new 21, 3) := by decide +kernel
theorem dJ2_newBytesLength_0f7a4_21 : decode cJ2_newBytesLength_0f7a4 21 = .ok (.dup, 1) := by decide +kernel
theorem dJ2_newBytesLength_0f7a4_22 : decode cJ2_newBytesLength_0f7a4 22 = .ok (.new 23, 3) := by decide +kernel
theorem dJ2_newBytesLength_0f7a4_25 : decode cJ2_newBytesLength_0f7a4 25 = .ok (.dup, 1) := by decide +kernel
theorem dJ2_newBytesLength_0f7a4_26 : decode cJ2_newBytesLength_0f7a4 26 = .ok (.invokespecial 25, 3) := by decide +kernel
theorem dJ2_newBytesLength_0f7a4_29 : decode cJ2_newBytesLength_0f7a4 29 = .ok (.ldc 26, 2) := by decide +kernel
theorem dJ2_newBytesLength_0f7a4_31 : decode cJ2_newBytesLength_0f7a4 31 = .ok (.invokevirtual 28, 3) := by decide +kernel
theorem dJ2_newBytesLength_0f7a4_34 : decode cJ2_newBytesLength_0f7a4 34 = .ok (.iload_n 0, 1) := by decide +kernel
theorem dJ2_newBytesLength_0f7a4_35 : decode cJ2_newBytesLength_0f7a4 35 = .ok (.invokevirtual 32, 3) := by decide +kernel
theorem dJ2_newBytesLength_0f7a4_38 : decode cJ2_newBytesLength_0f7a4 38 = .ok (.ldc 35, 2) := by decide +kernel
theorem dJ2_newBytesLength_0f7a4_40 : decode cJ2_newBytesLength_0f7a4 40 = .ok (.invokevirtual 28, 3) := by decide +kernel
theorem dJ2_newBytesLength_0f7a4_43 : decode cJ2_newBytesLength_0f7a4 43 = .ok (.ldc 20, 2) := by decide +kernel
theorem dJ2_newBytesLength_0f7a4_45 : decode cJ2_newBytesLength_0f7a4 45 = .ok (.invokevirtual 32, 3) := by decide +kernel
theorem dJ2_newBytesLength_0f7a4_48 : decode cJ2_newBytesLength_0f7a4 48 = .ok (.invokevirtual 37, 3) := by decide +kernel
theorem dJ2_newBytesLength_0f7a4_51 : decode cJ2_newBytesLength_0f7a4 51 = .ok (.invokespecial 41, 3) := by decide +kernel
theorem dJ2_newBytesLength_0f7a4_54 : decode cJ2_newBytesLength_0f7a4 54 = .ok (.athrow, 1) := by decide +kernel
theorem dJ2_newBytesLength_0f7a4_55 : decode cJ2_newBytesLength_0f7a4 55 = .ok (.iload_n 0, 1) := by decide +kernel
theorem dJ2_newBytesLength_0f7a4_56 : decode cJ2_newBytesLength_0f7a4 56 = .ok (.iconst 1, 1) := by decide +kernel
theorem dJ2_newBytesLength_0f7a4_57 : decode cJ2_newBytesLength_0f7a4 57 = .ok (.ishl, 1) := by decide +kernel
theorem dJ2_newBytesLength_0f7a4_58 : decode cJ2_newBytesLength_0f7a4 58 = .ok (.ireturn, 1) := by decide +kernel
theorem dJ2_putChar_b72d1_0 : decode cJ2_putChar_b72d1 0 = .ok (.getstatic 44, 3) := by decide +kernel
theorem dJ2_putChar_b72d1_3 : decode cJ2_putChar_b72d1 3 = .ok (.ifCond .ne 25, 3) := by decide +kernel
theorem dJ2_putChar_b72d1_6 : decode cJ2_putChar_b72d1 6 = .ok (.iload_n 1, 1) := by decide +kernel
theorem dJ2_putChar_b72d1_7 : decode cJ2_putChar_b72d1 7 = .ok (.ifCond .lt 11, 3) := by decide +kernel
theorem dJ2_putChar_b72d1_10 : decode cJ2_putChar_b72d1 10 = .ok (.iload_n 1, 1) := by decide +kernel
theorem dJ2_putChar_b72d1_11 : decode cJ2_putChar_b72d1 11 = .ok (.aload_n 0, 1) := by decide +kernel
theorem dJ2_putChar_b72d1_12 : decode cJ2_putChar_b72d1 12 = .ok (.invokestatic 48, 3) := by decide +kernel
theorem dJ2_putChar_b72d1_15 : decode cJ2_putChar_b72d1 15 = .ok (.if_icmp .lt 13, 3) := by decide +kernel
theorem dJ2_putChar_b72d1_18 : decode cJ2_putChar_b72d1 18 = .ok (.new 52, 3) := by decide +kernel
theorem dJ2_putChar_b72d1_21 : decode cJ2_putChar_b72d1 21 = .ok (.dup, 1) := by decide +kernel
theorem dJ2_putChar_b72d1_22 : decode cJ2_putChar_b72d1 22 = .ok (.ldc 54, 2) := by decide +kernel
theorem dJ2_putChar_b72d1_24 : decode cJ2_putChar_b72d1 24 = .ok (.invokespecial 56, 3) := by decide +kernel
theorem dJ2_putChar_b72d1_27 : decode cJ2_putChar_b72d1 27 = .ok (.athrow, 1) := by decide +kernel
theorem dJ2_putChar_b72d1_28 : decode cJ2_putChar_b72d1 28 = .ok (.iload_n 1, 1) := by decide +kernel
theorem dJ2_putChar_b72d1_29 : decode cJ2_putChar_b72d1 29 = .ok (.iconst 1, 1) := by decide +kernel
theorem dJ2_putChar_b72d1_30 : decode cJ2_putChar_b72d1 30 = .ok (.ishl, 1) := by decide +kernel
theorem dJ2_putChar_b72d1_31 : decode cJ2_putChar_b72d1 31 = .ok (.istore_n 1, 1) := by decide +kernel
theorem dJ2_putChar_b72d1_32 : decode cJ2_putChar_b72d1 32 = .ok (.aload_n 0, 1) := by decide +kernel
theorem dJ2_putChar_b72d1_33 : decode cJ2_putChar_b72d1 33 = .ok (.iload_n 1, 1) := by decide +kernel
theorem dJ2_putChar_b72d1_34 : decode cJ2_putChar_b72d1 34 = .ok (.iinc 1 1, 3) := by decide +kernel
theorem dJ2_putChar_b72d1_37 : decode cJ2_putChar_b72d1 37 = .ok (.iload_n 2, 1) := by decide +kernel
theorem dJ2_putChar_b72d1_38 : decode cJ2_putChar_b72d1 38 = .ok (.getstatic 59, 3) := by decide +kernel
theorem dJ2_putChar_b72d1_41 : decode cJ2_putChar_b72d1 41 = .ok (.ishr, 1) := by decide +kernel
theorem dJ2_putChar_b72d1_42 : decode cJ2_putChar_b72d1 42 = .ok (.i2b, 1) := by decide +kernel
theorem dJ2_putChar_b72d1_43 : decode cJ2_putChar_b72d1 43 = .ok (.bastore, 1) := by decide +kernel
theorem dJ2_putChar_b72d1_44 : decode cJ2_putChar_b72d1 44 = .ok (.aload_n 0, 1) := by decide +kernel
theorem dJ2_putChar_b72d1_45 : decode cJ2_putChar_b72d1 45 = .ok (.iload_n 1, 1) := by decide +kernel
theorem dJ2_putChar_b72d1_46 : decode cJ2_putChar_b72d1 46 = .ok (.iload_n 2, 1) := by decide +kernel
theorem dJ2_putChar_b72d1_47 : decode cJ2_putChar_b72d1 47 = .ok (.getstatic 63, 3) := by decide +kernel
theorem dJ2_putChar_b72d1_50 : decode cJ2_putChar_b72d1 50 = .ok (.ishr, 1) := by decide +kernel
theorem dJ2_putChar_b72d1_51 : decode cJ2_putChar_b72d1 51 = .ok (.i2b, 1) := by decide +kernel
theorem dJ2_putChar_b72d1_52 : decode cJ2_putChar_b72d1 52 = .ok (.bastore, 1) := by decide +kernel
theorem dJ2_putChar_b72d1_53 : decode cJ2_putChar_b72d1 53 = .ok (.return_, 1) := by decide +kernel
theorem dJ2_getChar_3b067_0 : decode cJ2_getChar_3b067 0 = .ok (.getstatic 44, 3) := by decide +kernel
theorem dJ2_getChar_3b067_3 : decode cJ2_getChar_3b067 3 = .ok (.ifCond .ne 25, 3) := by decide +kernel
theorem dJ2_getChar_3b067_6 : decode cJ2_getChar_3b067 6 = .ok (.iload_n 1, 1) := by decide +kernel
theorem dJ2_getChar_3b067_7 : decode cJ2_getChar_3b067 7 = .ok (.ifCond .lt 11, 3) := by decide +kernel
theorem dJ2_getChar_3b067_10 : decode cJ2_getChar_3b067 10 = .ok (.iload_n 1, 1) := by decide +kernel
theorem dJ2_getChar_3b067_11 : decode cJ2_getChar_3b067 11 = .ok (.aload_n 0, 1) := by decide +kernel
theorem dJ2_getChar_3b067_12 : decode cJ2_getChar_3b067 12 = .ok (.invokestatic 48, 3) := by decide +kernel
theorem dJ2_getChar_3b067_15 : decode cJ2_getChar_3b067 15 = .ok (.if_icmp .lt 13, 3) := by decide +kernel
theorem dJ2_getChar_3b067_18 : decode cJ2_getChar_3b067 18 = .ok (.new 52, 3) := by decide +kernel
theorem dJ2_getChar_3b067_21 : decode cJ2_getChar_3b067 21 = .ok (.dup, 1) := by decide +kernel
theorem dJ2_getChar_3b067_22 : decode cJ2_getChar_3b067 22 = .ok (.ldc 54, 2) := by decide +kernel
theorem dJ2_getChar_3b067_24 : decode cJ2_getChar_3b067 24 = .ok (.invokespecial 56, 3) := by decide +kernel
theorem dJ2_getChar_3b067_27 : decode cJ2_getChar_3b067 27 = .ok (.athrow, 1) := by decide +kernel
theorem dJ2_getChar_3b067_28 : decode cJ2_getChar_3b067 28 = .ok (.iload_n 1, 1) := by decide +kernel
theorem dJ2_getChar_3b067_29 : decode cJ2_getChar_3b067 29 = .ok (.iconst 1, 1) := by decide +kernel
theorem dJ2_getChar_3b067_30 : decode cJ2_getChar_3b067 30 = .ok (.ishl, 1) := by decide +kernel
theorem dJ2_getChar_3b067_31 : decode cJ2_getChar_3b067 31 = .ok (.istore_n 1, 1) := by decide +kernel
theorem dJ2_getChar_3b067_32 : decode cJ2_getChar_3b067 32 = .ok (.aload_n 0, 1) := by decide +kernel
theorem dJ2_getChar_3b067_33 : decode cJ2_getChar_3b067 33 = .ok (.iload_n 1, 1) := by decide +kernel
theorem dJ2_getChar_3b067_34 : decode cJ2_getChar_3b067 34 = .ok (.iinc 1 1, 3) := by decide +kernel
theorem dJ2_getChar_3b067_37 : decode cJ2_getChar_3b067 37 = .ok (.baload, 1) := by decide +kernel
theorem dJ2_getChar_3b067_38 : decode cJ2_getChar_3b067 38 = .ok (.sipush 255, 3) := by decide +kernel
theorem dJ2_getChar_3b067_41 : decode cJ2_getChar_3b067 41 = .ok (.iand, 1) := by decide +kernel
theorem dJ2_getChar_3b067_42 : decode cJ2_getChar_3b067 42 = .ok (.getstatic 59, 3) := by decide +kernel
theorem dJ2_getChar_3b067_45 : decode cJ2_getChar_3b067 45 = .ok (.ishl, 1) := by decide +kernel
theorem dJ2_getChar_3b067_46 : decode cJ2_getChar_3b067 46 = .ok (.aload_n 0, 1) := by decide +kernel
theorem dJ2_getChar_3b067_47 : decode cJ2_getChar_3b067 47 = .ok (.iload_n 1, 1) := by decide +kernel
theorem dJ2_getChar_3b067_48 : decode cJ2_getChar_3b067 48 = .ok (.baload, 1) := by decide +kernel
theorem dJ2_getChar_3b067_49 : decode cJ2_getChar_3b067 49 = .ok (.sipush 255, 3) := by decide +kernel
theorem dJ2_getChar_3b067_52 : decode cJ2_getChar_3b067 52 = .ok (.iand, 1) := by decide +kernel
theorem dJ2_getChar_3b067_53 : decode cJ2_getChar_3b067 53 = .ok (.getstatic 63, 3) := by decide +kernel
theorem dJ2_getChar_3b067_56 : decode cJ2_getChar_3b067 56 = .ok (.ishl, 1) := by decide +kernel
theorem dJ2_getChar_3b067_57 : decode cJ2_getChar_3b067 57 = .ok (.ior, 1) := by decide +kernel
theorem dJ2_getChar_3b067_58 : decode cJ2_getChar_3b067 58 = .ok (.i2c, 1) := by decide +kernel
theorem dJ2_getChar_3b067_59 : decode cJ2_getChar_3b067 59 = .ok (.ireturn, 1) := by decide +kernel
theorem dJ2_length_9d52b_0 : decode cJ2_length_9d52b 0 = .ok (.aload_n 0, 1) := by decide +kernel
theorem dJ2_length_9d52b_1 : decode cJ2_length_9d52b 1 = .ok (.arraylength, 1) := by decide +kernel
theorem dJ2_length_9d52b_2 : decode cJ2_length_9d52b 2 = .ok (.iconst 1, 1) := by decide +kernel
theorem dJ2_length_9d52b_3 : decode cJ2_length_9d52b 3 = .ok (.ishr, 1) := by decide +kernel
theorem dJ2_length_9d52b_4 : decode cJ2_length_9d52b 4 = .ok (.ireturn, 1) := by decide +kernel
theorem dJ2_coderFromArrayLen_85cad_0 : decode cJ2_coderFromArrayLen_85cad 0 = .ok (.iload_n 1, 1) := by decide +kernel
theorem dJ2_coderFromArrayLen_85cad_1 : decode cJ2_coderFromArrayLen_85cad 1 = .ok (.aload_n 0, 1) := by decide +kernel
theorem dJ2_coderFromArrayLen_85cad_2 : decode cJ2_coderFromArrayLen_85cad 2 = .ok (.arraylength, 1) := by decide +kernel
theorem dJ2_coderFromArrayLen_85cad_3 : decode cJ2_coderFromArrayLen_85cad 3 = .ok (.isub, 1) := by decide +kernel
theorem dJ2_coderFromArrayLen_85cad_4 : decode cJ2_coderFromArrayLen_85cad 4 = .ok (.bipush 31, 2) := by decide +kernel
theorem dJ2_coderFromArrayLen_85cad_6 : decode cJ2_coderFromArrayLen_85cad 6 = .ok (.iushr, 1) := by decide +kernel
theorem dJ2_coderFromArrayLen_85cad_7 : decode cJ2_coderFromArrayLen_85cad 7 = .ok (.i2b, 1) := by decide +kernel
theorem dJ2_coderFromArrayLen_85cad_8 : decode cJ2_coderFromArrayLen_85cad 8 = .ok (.ireturn, 1) := by decide +kernel
theorem dJ2_compress_39247_0 : decode cJ2_compress_39247 0 = .ok (.iload_n 2, 1) := by decide +kernel
theorem dJ2_compress_39247_1 : decode cJ2_compress_39247 1 = .ok (.newarray .byte, 2) := by decide +kernel
theorem dJ2_compress_39247_3 : decode cJ2_compress_39247 3 = .ok (.astore_n 3, 1) := by decide +kernel
theorem dJ2_compress_39247_4 : decode cJ2_compress_39247 4 = .ok (.aload_n 0, 1) := by decide +kernel
theorem dJ2_compress_39247_5 : decode cJ2_compress_39247 5 = .ok (.iload_n 1, 1) := by decide +kernel
theorem dJ2_compress_39247_6 : decode cJ2_compress_39247 6 = .ok (.aload_n 3, 1) := by decide +kernel
theorem dJ2_compress_39247_7 : decode cJ2_compress_39247 7 = .ok (.iconst 0, 1) := by decide +kernel
theorem dJ2_compress_39247_8 : decode cJ2_compress_39247 8 = .ok (.iload_n 2, 1) := by decide +kernel
theorem dJ2_compress_39247_9 : decode cJ2_compress_39247 9 = .ok (.invokestatic 123, 3) := by decide +kernel
theorem dJ2_compress_39247_12 : decode cJ2_compress_39247 12 = .ok (.istore 4, 2) := by decide +kernel
theorem dJ2_compress_39247_14 : decode cJ2_compress_39247 14 = .ok (.iload 4, 2) := by decide +kernel
theorem dJ2_compress_39247_16 : decode cJ2_compress_39247 16 = .ok (.iload_n 2, 1) := by decide +kernel
theorem dJ2_compress_39247_17 : decode cJ2_compress_39247 17 = .ok (.if_icmp .eq 47, 3) := by decide +kernel
theorem dJ2_compress_39247_20 : decode cJ2_compress_39247 20 = .ok (.aload_n 0, 1) := by decide +kernel
theorem dJ2_compress_39247_21 : decode cJ2_compress_39247 21 = .ok (.iload_n 1, 1) := by decide +kernel
theorem dJ2_compress_39247_22 : decode cJ2_compress_39247 22 = .ok (.iconst 1, 1) := by decide +kernel
theorem dJ2_compress_39247_23 : decode cJ2_compress_39247 23 = .ok (.ishl, 1) := by decide +kernel
theorem dJ2_compress_39247_24 : decode cJ2_compress_39247 24 = .ok (.iload_n 1, 1) := by decide +kernel
theorem dJ2_compress_39247_25 : decode cJ2_compress_39247 25 = .ok (.iload_n 2, 1) := by decide +kernel
theorem dJ2_compress_39247_26 : decode cJ2_compress_39247 26 = .ok (.iadd, 1) := by decide +kernel
theorem dJ2_compress_39247_27 : decode cJ2_compress_39247 27 = .ok (.invokestatic 11, 3) := by decide +kernel
theorem dJ2_compress_39247_30 : decode cJ2_compress_39247 30 = .ok (.invokestatic 126, 3) := by decide +kernel
theorem dJ2_compress_39247_33 : decode cJ2_compress_39247 33 = .ok (.astore 5, 2) := by decide +kernel
theorem dJ2_compress_39247_35 : decode cJ2_compress_39247 35 = .ok (.aload 5, 2) := by decide +kernel
theorem dJ2_compress_39247_37 : decode cJ2_compress_39247 37 = .ok (.iload 4, 2) := by decide +kernel
theorem dJ2_compress_39247_39 : decode cJ2_compress_39247 39 = .ok (.invokestatic 71, 3) := by decide +kernel
theorem dJ2_compress_39247_42 : decode cJ2_compress_39247 42 = .ok (.sipush 255, 3) := by decide +kernel
theorem dJ2_compress_39247_45 : decode cJ2_compress_39247 45 = .ok (.if_icmp .gt 16, 3) := by decide +kernel
theorem dJ2_compress_39247_48 : decode cJ2_compress_39247 48 = .ok (.aload 5, 2) := by decide +kernel
theorem dJ2_compress_39247_50 : decode cJ2_compress_39247 50 = .ok (.iconst 0, 1) := by decide +kernel
theorem dJ2_compress_39247_51 : decode cJ2_compress_39247 51 = .ok (.aload_n 3, 1) := by decide +kernel
theorem dJ2_compress_39247_52 : decode cJ2_compress_39247 52 = .ok (.iconst 0, 1) := by decide +kernel
theorem dJ2_compress_39247_53 : decode cJ2_compress_39247 53 = .ok (.iload_n 2, 1) := by decide +kernel
theorem dJ2_compress_39247_54 : decode cJ2_compress_39247 54 = .ok (.invokestatic 123, 3) := by decide +kernel
theorem dJ2_compress_39247_57 : decode cJ2_compress_39247 57 = .ok (.iload_n 2, 1) := by decide +kernel
theorem dJ2_compress_39247_58 : decode cJ2_compress_39247 58 = .ok (.if_icmp .eq 6, 3) := by decide +kernel
theorem dJ2_compress_39247_61 : decode cJ2_compress_39247 61 = .ok (.aload 5, 2) := by decide +kernel
theorem dJ2_compress_39247_63 : decode cJ2_compress_39247 63 = .ok (.areturn, 1) := by decide +kernel
theorem dJ2_compress_39247_64 : decode cJ2_compress_39247 64 = .ok (.aload_n 3, 1) := by decide +kernel
theorem dJ2_compress_39247_65 : decode cJ2_compress_39247 65 = .ok (.areturn, 1) := by decide +kernel
theorem dJ2_compress_5af95_0 : decode cJ2_compress_5af95 0 = .ok (.iload_n 1, 1) := by decide +kernel
theorem dJ2_compress_5af95_1 : decode cJ2_compress_5af95 1 = .ok (.iload 4, 2) := by decide +kernel
theorem dJ2_compress_5af95_3 : decode cJ2_compress_5af95 3 = .ok (.aload_n 0, 1) := by decide +kernel
theorem dJ2_compress_5af95_4 : decode cJ2_compress_5af95 4 = .ok (.invokestatic 173, 3) := by decide +kernel
theorem dJ2_compress_5af95_7 : decode cJ2_compress_5af95 7 = .ok (.iconst 0, 1) := by decide +kernel
theorem dJ2_compress_5af95_8 : decode cJ2_compress_5af95 8 = .ok (.istore 5, 2) := by decide +kernel
theorem dJ2_compress_5af95_10 : decode cJ2_compress_5af95 10 = .ok (.iload 5, 2) := by decide +kernel
theorem dJ2_compress_5af95_12 : decode cJ2_compress_5af95 12 = .ok (.iload 4, 2) := by decide +kernel
theorem dJ2_compress_5af95_14 : decode cJ2_compress_5af95 14 = .ok (.if_icmp .ge 39, 3) := by decide +kernel
theorem dJ2_compress_5af95_17 : decode cJ2_compress_5af95 17 = .ok (.aload_n 0, 1) := by decide +kernel
theorem dJ2_compress_5af95_18 : decode cJ2_compress_5af95 18 = .ok (.iload_n 1, 1) := by decide +kernel
theorem dJ2_compress_5af95_19 : decode cJ2_compress_5af95 19 = .ok (.invokestatic 71, 3) := by decide +kernel
theorem dJ2_compress_5af95_22 : decode cJ2_compress_5af95 22 = .ok (.istore 6, 2) := by decide +kernel
theorem dJ2_compress_5af95_24 : decode cJ2_compress_5af95 24 = .ok (.iload 6, 2) := by decide +kernel
theorem dJ2_compress_5af95_26 : decode cJ2_compress_5af95 26 = .ok (.sipush 255, 3) := by decide +kernel
theorem dJ2_compress_5af95_29 : decode cJ2_compress_5af95 29 = .ok (.if_icmp .le 6, 3) := by decide +kernel
theorem dJ2_compress_5af95_32 : decode cJ2_compress_5af95 32 = .ok (.iload 5, 2) := by decide +kernel
theorem dJ2_compress_5af95_34 : decode cJ2_compress_5af95 34 = .ok (.ireturn, 1) := by decide +kernel
theorem dJ2_compress_5af95_35 : decode cJ2_compress_5af95 35 = .ok (.aload_n 2, 1) := by decide +kernel
theorem dJ2_compress_5af95_36 : decode cJ2_compress_5af95 36 = .ok (.iload_n 3, 1) := by decide +kernel
theorem dJ2_compress_5af95_37 : decode cJ2_compress_5af95 37 = .ok (.iload 6, 2) := by decide +kernel
theorem dJ2_compress_5af95_39 : decode cJ2_compress_5af95 39 = .ok (.i2b, 1) := by decide +kernel
theorem dJ2_compress_5af95_40 : decode cJ2_compress_5af95 40 = .ok (.bastore, 1) := by decide +kernel
theorem dJ2_compress_5af95_41 : decode cJ2_compress_5af95 41 = .ok (.iinc 1 1, 3) := by decide +kernel
theorem dJ2_compress_5af95_44 : decode cJ2_compress_5af95 44 = .ok (.iinc 3 1, 3) := by decide +kernel
theorem dJ2_compress_5af95_47 : decode cJ2_compress_5af95 47 = .ok (.iinc 5 1, 3) := by decide +kernel
theorem dJ2_compress_5af95_50 : decode cJ2_compress_5af95 50 = .ok (.goto (-40), 3) := by decide +kernel
theorem dJ2_compress_5af95_53 : decode cJ2_compress_5af95 53 = .ok (.iload 4, 2) := by decide +kernel
theorem dJ2_compress_5af95_55 : decode cJ2_compress_5af95 55 = .ok (.ireturn, 1) := by decide +kernel
theorem dJ2_getChars_46870_0 : decode cJ2_getChars_46870 0 = .ok (.iload_n 1, 1) := by decide +kernel
theorem dJ2_getChars_46870_1 : decode cJ2_getChars_46870 1 = .ok (.iload_n 2, 1) := by decide +kernel
theorem dJ2_getChars_46870_2 : decode cJ2_getChars_46870 2 = .ok (.aload_n 3, 1) := by decide +kernel
theorem dJ2_getChars_46870_3 : decode cJ2_getChars_46870 3 = .ok (.invokestatic 96, 3) := by decide +kernel
theorem dJ2_getChars_46870_6 : decode cJ2_getChars_46870 6 = .ok (.iload_n 0, 1) := by decide +kernel
theorem dJ2_getChars_46870_7 : decode cJ2_getChars_46870 7 = .ok (.iload_n 2, 1) := by decide +kernel
theorem dJ2_getChars_46870_8 : decode cJ2_getChars_46870 8 = .ok (.aload_n 3, 1) := by decide +kernel
theorem dJ2_getChars_46870_9 : decode cJ2_getChars_46870 9 = .ok (.invokestatic 393, 3) := by decide +kernel
theorem dJ2_getChars_46870_12 : decode cJ2_getChars_46870 12 = .ok (.istore 4, 2) := by decide +kernel
theorem dJ2_getChars_46870_14 : decode cJ2_getChars_46870 14 = .ok (.getstatic 44, 3) := by decide +kernel
theorem dJ2_getChars_46870_17 : decode cJ2_getChars_46870 17 = .ok (.ifCond .ne 17, 3) := by decide +kernel
theorem dJ2_getChars_46870_20 : decode cJ2_getChars_46870 20 = .ok (.iload_n 1, 1) := by decide +kernel
theorem dJ2_getChars_46870_21 : decode cJ2_getChars_46870 21 = .ok (.iload 4, 2) := by decide +kernel
theorem dJ2_getChars_46870_23 : decode cJ2_getChars_46870 23 = .ok (.if_icmp .eq 11, 3) := by decide +kernel
theorem dJ2_getChars_46870_26 : decode cJ2_getChars_46870 26 = .ok (.new 52, 3) := by decide +kernel
theorem dJ2_getChars_46870_29 : decode cJ2_getChars_46870 29 = .ok (.dup, 1) := by decide +kernel
theorem dJ2_getChars_46870_30 : decode cJ2_getChars_46870 30 = .ok (.invokespecial 66, 3) := by decide +kernel
theorem dJ2_getChars_46870_33 : decode cJ2_getChars_46870 33 = .ok (.athrow, 1) := by decide +kernel
theorem dJ2_getChars_46870_34 : decode cJ2_getChars_46870 34 = .ok (.iload 4, 2) := by decide +kernel
theorem dJ2_getChars_46870_36 : decode cJ2_getChars_46870 36 = .ok (.ireturn, 1) := by decide +kernel
theorem dJ2_putCharsAt_cd4e5_0 : decode cJ2_putCharsAt_cd4e5 0 = .ok (.iload_n 1, 1) := by decide +kernel
theorem dJ2_putCharsAt_cd4e5_1 : decode cJ2_putCharsAt_cd4e5 1 = .ok (.iconst 4, 1) := by decide +kernel
theorem dJ2_putCharsAt_cd4e5_2 : decode cJ2_putCharsAt_cd4e5 2 = .ok (.iadd, 1) := by decide +kernel
theorem dJ2_putCharsAt_cd4e5_3 : decode cJ2_putCharsAt_cd4e5 3 = .ok (.istore 6, 2) := by decide +kernel
theorem dJ2_putCharsAt_cd4e5_5 : decode cJ2_putCharsAt_cd4e5 5 = .ok (.iload_n 1, 1) := by decide +kernel
theorem dJ2_putCharsAt_cd4e5_6 : decode cJ2_putCharsAt_cd4e5 6 = .ok (.iload 6, 2) := by decide +kernel
theorem dJ2_putCharsAt_cd4e5_8 : decode cJ2_putCharsAt_cd4e5 8 = .ok (.aload_n 0, 1) := by decide +kernel
theorem dJ2_putCharsAt_cd4e5_9 : decode cJ2_putCharsAt_cd4e5 9 = .ok (.invokestatic 96, 3) := by decide +kernel
theorem dJ2_putCharsAt_cd4e5_12 : decode cJ2_putCharsAt_cd4e5 12 = .ok (.aload_n 0, 1) := by decide +kernel
theorem dJ2_putCharsAt_cd4e5_13 : decode cJ2_putCharsAt_cd4e5 13 = .ok (.iload_n 1, 1) := by decide +kernel
theorem dJ2_putCharsAt_cd4e5_14 : decode cJ2_putCharsAt_cd4e5 14 = .ok (.iinc 1 1, 3) := by decide +kernel
theorem dJ2_putCharsAt_cd4e5_17 : decode cJ2_putCharsAt_cd4e5 17 = .ok (.iload_n 2, 1) := by decide +kernel
theorem dJ2_putCharsAt_cd4e5_18 : decode cJ2_putCharsAt_cd4e5 18 = .ok (.invokestatic 111, 3) := by decide +kernel
theorem dJ2_putCharsAt_cd4e5_21 : decode cJ2_putCharsAt_cd4e5 21 = .ok (.aload_n 0, 1) := by decide +kernel
theorem dJ2_putCharsAt_cd4e5_22 : decode cJ2_putCharsAt_cd4e5 22 = .ok (.iload_n 1, 1) := by decide +kernel
theorem dJ2_putCharsAt_cd4e5_23 : decode cJ2_putCharsAt_cd4e5 23 = .ok (.iinc 1 1, 3) := by decide +kernel
theorem dJ2_putCharsAt_cd4e5_26 : decode cJ2_putCharsAt_cd4e5 26 = .ok (.iload_n 3, 1) := by decide +kernel
theorem dJ2_putCharsAt_cd4e5_27 : decode cJ2_putCharsAt_cd4e5 27 = .ok (.invokestatic 111, 3) := by decide +kernel
theorem dJ2_putCharsAt_cd4e5_30 : decode cJ2_putCharsAt_cd4e5 30 = .ok (.aload_n 0, 1) := by decide +kernel
theorem dJ2_putCharsAt_cd4e5_31 : decode cJ2_putCharsAt_cd4e5 31 = .ok (.iload_n 1, 1) := by decide +kernel
theorem dJ2_putCharsAt_cd4e5_32 : decode cJ2_putCharsAt_cd4e5 32 = .ok (.iinc 1 1, 3) := by decide +kernel
theorem dJ2_putCharsAt_cd4e5_35 : decode cJ2_putCharsAt_cd4e5 35 = .ok (.iload 4, 2) := by decide +kernel
theorem dJ2_putCharsAt_cd4e5_37 : decode cJ2_putCharsAt_cd4e5 37 = .ok (.invokestatic 111, 3) := by decide +kernel
theorem dJ2_putCharsAt_cd4e5_40 : decode cJ2_putCharsAt_cd4e5 40 = .ok (.aload_n 0, 1) := by decide +kernel
theorem dJ2_putCharsAt_cd4e5_41 : decode cJ2_putCharsAt_cd4e5 41 = .ok (.iload_n 1, 1) := by decide +kernel
theorem dJ2_putCharsAt_cd4e5_42 : decode cJ2_putCharsAt_cd4e5 42 = .ok (.iinc 1 1, 3) := by decide +kernel
theorem dJ2_putCharsAt_cd4e5_45 : decode cJ2_putCharsAt_cd4e5 45 = .ok (.iload 5, 2) := by decide +kernel
theorem dJ2_putCharsAt_cd4e5_47 : decode cJ2_putCharsAt_cd4e5 47 = .ok (.invokestatic 111, 3) := by decide +kernel
theorem dJ2_putCharsAt_cd4e5_50 : decode cJ2_putCharsAt_cd4e5 50 = .ok (.getstatic 44, 3) := by decide +kernel
theorem dJ2_putCharsAt_cd4e5_53 : decode cJ2_putCharsAt_cd4e5 53 = .ok (.ifCond .ne 17, 3) := by decide +kernel
theorem dJ2_putCharsAt_cd4e5_56 : decode cJ2_putCharsAt_cd4e5 56 = .ok (.iload_n 1, 1) := by decide +kernel
theorem dJ2_putCharsAt_cd4e5_57 : decode cJ2_putCharsAt_cd4e5 57 = .ok (.iload 6, 2) := by decide +kernel
theorem dJ2_putCharsAt_cd4e5_59 : decode cJ2_putCharsAt_cd4e5 59 = .ok (.if_icmp .eq 11, 3) := by decide +kernel
theorem dJ2_putCharsAt_cd4e5_62 : decode cJ2_putCharsAt_cd4e5 62 = .ok (.new 52, 3) := by decide +kernel
theorem dJ2_putCharsAt_cd4e5_65 : decode cJ2_putCharsAt_cd4e5 65 = .ok (.dup, 1) := by decide +kernel
theorem dJ2_putCharsAt_cd4e5_66 : decode cJ2_putCharsAt_cd4e5 66 = .ok (.invokespecial 66, 3) := by decide +kernel
theorem dJ2_putCharsAt_cd4e5_69 : decode cJ2_putCharsAt_cd4e5 69 = .ok (.athrow, 1) := by decide +kernel
theorem dJ2_putCharsAt_cd4e5_70 : decode cJ2_putCharsAt_cd4e5 70 = .ok (.iload 6, 2) := by decide +kernel
theorem dJ2_putCharsAt_cd4e5_72 : decode cJ2_putCharsAt_cd4e5 72 = .ok (.ireturn, 1) := by decide +kernel
theorem dJ2_charAt_3b067_0 : decode cJ2_charAt_3b067 0 = .ok (.iload_n 1, 1) := by decide +kernel
theorem dJ2_charAt_3b067_1 : decode cJ2_charAt_3b067 1 = .ok (.aload_n 0, 1) := by decide +kernel
theorem dJ2_charAt_3b067_2 : decode cJ2_charAt_3b067 2 = .ok (.invokestatic 67, 3) := by decide +kernel
theorem dJ2_charAt_3b067_5 : decode cJ2_charAt_3b067 5 = .ok (.aload_n 0, 1) := by decide +kernel
theorem dJ2_charAt_3b067_6 : decode cJ2_charAt_3b067 6 = .ok (.iload_n 1, 1) := by decide +kernel
theorem dJ2_charAt_3b067_7 : decode cJ2_charAt_3b067 7 = .ok (.invokestatic 71, 3) := by decide +kernel
theorem dJ2_charAt_3b067_10 : decode cJ2_charAt_3b067 10 = .ok (.ireturn, 1) := by decide +kernel
theorem dJ2_inflate_0e8fd_0 : decode cJ2_inflate_0e8fd 0 = .ok (.iload_n 3, 1) := by decide +kernel
theorem dJ2_inflate_0e8fd_1 : decode cJ2_inflate_0e8fd 1 = .ok (.iload 4, 2) := by decide +kernel
theorem dJ2_inflate_0e8fd_3 : decode cJ2_inflate_0e8fd 3 = .ok (.aload_n 2, 1) := by decide +kernel
theorem dJ2_inflate_0e8fd_4 : decode cJ2_inflate_0e8fd 4 = .ok (.invokestatic 173, 3) := by decide +kernel
theorem dJ2_inflate_0e8fd_7 : decode cJ2_inflate_0e8fd 7 = .ok (.iconst 0, 1) := by decide +kernel
theorem dJ2_inflate_0e8fd_8 : decode cJ2_inflate_0e8fd 8 = .ok (.istore 5, 2) := by decide +kernel
theorem dJ2_inflate_0e8fd_10 : decode cJ2_inflate_0e8fd 10 = .ok (.iload 5, 2) := by decide +kernel
theorem dJ2_inflate_0e8fd_12 : decode cJ2_inflate_0e8fd 12 = .ok (.iload 4, 2) := by decide +kernel
theorem dJ2_inflate_0e8fd_14 : decode cJ2_inflate_0e8fd 14 = .ok (.if_icmp .ge 27, 3) := by decide +kernel
theorem dJ2_inflate_0e8fd_17 : decode cJ2_inflate_0e8fd 17 = .ok (.aload_n 2, 1) := by decide +kernel
theorem dJ2_inflate_0e8fd_18 : decode cJ2_inflate_0e8fd 18 = .ok (.iload_n 3, 1) := by decide +kernel
theorem dJ2_inflate_0e8fd_19 : decode cJ2_inflate_0e8fd 19 = .ok (.iinc 3 1, 3) := by decide +kernel
theorem dJ2_inflate_0e8fd_22 : decode cJ2_inflate_0e8fd 22 = .ok (.aload_n 0, 1) := by decide +kernel
theorem dJ2_inflate_0e8fd_23 : decode cJ2_inflate_0e8fd 23 = .ok (.iload_n 1, 1) := by decide +kernel
theorem dJ2_inflate_0e8fd_24 : decode cJ2_inflate_0e8fd 24 = .ok (.iinc 1 1, 3) := by decide +kernel
theorem dJ2_inflate_0e8fd_27 : decode cJ2_inflate_0e8fd 27 = .ok (.baload, 1) := by decide +kernel
theorem dJ2_inflate_0e8fd_28 : decode cJ2_inflate_0e8fd 28 = .ok (.sipush 255, 3) := by decide +kernel
theorem dJ2_inflate_0e8fd_31 : decode cJ2_inflate_0e8fd 31 = .ok (.iand, 1) := by decide +kernel
theorem dJ2_inflate_0e8fd_32 : decode cJ2_inflate_0e8fd 32 = .ok (.invokestatic 111, 3) := by decide +kernel
theorem dJ2_inflate_0e8fd_35 : decode cJ2_inflate_0e8fd 35 = .ok (.iinc 5 1, 3) := by decide +kernel
theorem dJ2_inflate_0e8fd_38 : decode cJ2_inflate_0e8fd 38 = .ok (.goto (-28), 3) := by decide +kernel
theorem dJ2_inflate_0e8fd_41 : decode cJ2_inflate_0e8fd 41 = .ok (.return_, 1) := by decide +kernel
theorem dJ2_getChars_ba4f3_0 : decode cJ2_getChars_ba4f3 0 = .ok (.iload_n 1, 1) := by decide +kernel
theorem dJ2_getChars_ba4f3_1 : decode cJ2_getChars_ba4f3 1 = .ok (.istore 5, 2) := by decide +kernel
theorem dJ2_getChars_ba4f3_3 : decode cJ2_getChars_ba4f3 3 = .ok (.iload_n 0, 1) := by decide +kernel
theorem dJ2_getChars_ba4f3_4 : decode cJ2_getChars_ba4f3 4 = .ok (.ifCond .ge 7, 3) := by decide +kernel
theorem dJ2_getChars_ba4f3_7 : decode cJ2_getChars_ba4f3 7 = .ok (.iconst 1, 1) := by decide +kernel
theorem dJ2_getChars_ba4f3_8 : decode cJ2_getChars_ba4f3 8 = .ok (.goto 4, 3) := by decide +kernel
theorem dJ2_getChars_ba4f3_11 : decode cJ2_getChars_ba4f3 11 = .ok (.iconst 0, 1) := by decide +kernel
theorem dJ2_getChars_ba4f3_12 : decode cJ2_getChars_ba4f3 12 = .ok (.istore 6, 2) := by decide +kernel
theorem dJ2_getChars_ba4f3_14 : decode cJ2_getChars_ba4f3 14 = .ok (.iload 6, 2) := by decide +kernel
theorem dJ2_getChars_ba4f3_16 : decode cJ2_getChars_ba4f3 16 = .ok (.ifCond .ne 6, 3) := by decide +kernel
theorem dJ2_getChars_ba4f3_19 : decode cJ2_getChars_ba4f3 19 = .ok (.iload_n 0, 1) := by decide +kernel
theorem dJ2_getChars_ba4f3_20 : decode cJ2_getChars_ba4f3 20 = .ok (.ineg, 1) := by decide +kernel
theorem dJ2_getChars_ba4f3_21 : decode cJ2_getChars_ba4f3 21 = .ok (.istore_n 0, 1) := by decide +kernel
theorem dJ2_getChars_ba4f3_22 : decode cJ2_getChars_ba4f3 22 = .ok (.iload_n 0, 1) := by decide +kernel
theorem dJ2_getChars_ba4f3_23 : decode cJ2_getChars_ba4f3 23 = .ok (.bipush (-100), 2) := by decide +kernel
theorem dJ2_getChars_ba4f3_25 : decode cJ2_getChars_ba4f3 25 = .ok (.if_icmp .gt 51, 3) := by decide +kernel
theorem dJ2_getChars_ba4f3_28 : decode cJ2_getChars_ba4f3 28 = .ok (.iload_n 0, 1) := by decide +kernel
theorem dJ2_getChars_ba4f3_29 : decode cJ2_getChars_ba4f3 29 = .ok (.bipush 100, 2) := by decide +kernel
theorem dJ2_getChars_ba4f3_31 : decode cJ2_getChars_ba4f3 31 = .ok (.idiv, 1) := by decide +kernel
theorem dJ2_getChars_ba4f3_32 : decode cJ2_getChars_ba4f3 32 = .ok (.istore_n 3, 1) := by decide +kernel
theorem dJ2_getChars_ba4f3_33 : decode cJ2_getChars_ba4f3 33 = .ok (.iload_n 3, 1) := by decide +kernel
theorem dJ2_getChars_ba4f3_34 : decode cJ2_getChars_ba4f3 34 = .ok (.bipush 100, 2) := by decide +kernel
theorem dJ2_getChars_ba4f3_36 : decode cJ2_getChars_ba4f3 36 = .ok (.imul, 1) := by decide +kernel
theorem dJ2_getChars_ba4f3_37 : decode cJ2_getChars_ba4f3 37 = .ok (.iload_n 0, 1) := by decide +kernel
theorem dJ2_getChars_ba4f3_38 : decode cJ2_getChars_ba4f3 38 = .ok (.isub, 1) := by decide +kernel
theorem dJ2_getChars_ba4f3_39 : decode cJ2_getChars_ba4f3 39 = .ok (.istore 4, 2) := by decide +kernel
theorem dJ2_getChars_ba4f3_41 : decode cJ2_getChars_ba4f3 41 = .ok (.iload_n 3, 1) := by decide +kernel
theorem dJ2_getChars_ba4f3_42 : decode cJ2_getChars_ba4f3 42 = .ok (.istore_n 0, 1) := by decide +kernel
theorem dJ2_getChars_ba4f3_43 : decode cJ2_getChars_ba4f3 43 = .ok (.aload_n 2, 1) := by decide +kernel
theorem dJ2_getChars_ba4f3_44 : decode cJ2_getChars_ba4f3 44 = .ok (.iinc 5 (-1), 3) := by decide +kernel
theorem dJ2_getChars_ba4f3_47 : decode cJ2_getChars_ba4f3 47 = .ok (.iload 5, 2) := by decide +kernel
theorem dJ2_getChars_ba4f3_49 : decode cJ2_getChars_ba4f3 49 = .ok (.getstatic 403, 3) := by decide +kernel
theorem dJ2_getChars_ba4f3_52 : decode cJ2_getChars_ba4f3 52 = .ok (.iload 4, 2) := by decide +kernel
theorem dJ2_getChars_ba4f3_54 : decode cJ2_getChars_ba4f3 54 = .ok (.baload, 1) := by decide +kernel
theorem dJ2_getChars_ba4f3_55 : decode cJ2_getChars_ba4f3 55 = .ok (.invokestatic 111, 3) := by decide +kernel
theorem dJ2_getChars_ba4f3_58 : decode cJ2_getChars_ba4f3 58 = .ok (.aload_n 2, 1) := by decide +kernel
theorem dJ2_getChars_ba4f3_59 : decode cJ2_getChars_ba4f3 59 = .ok (.iinc 5 (-1), 3) := by decide +kernel
theorem dJ2_getChars_ba4f3_62 : decode cJ2_getChars_ba4f3 62 = .ok (.iload 5, 2) := by decide +kernel
theorem dJ2_getChars_ba4f3_64 : decode cJ2_getChars_ba4f3 64 = .ok (.getstatic 407, 3) := by decide +kernel
theorem dJ2_getChars_ba4f3_67 : decode cJ2_getChars_ba4f3 67 = .ok (.iload 4, 2) := by decide +kernel
theorem dJ2_getChars_ba4f3_69 : decode cJ2_getChars_ba4f3 69 = .ok (.baload, 1) := by decide +kernel
theorem dJ2_getChars_ba4f3_70 : decode cJ2_getChars_ba4f3 70 = .ok (.invokestatic 111, 3) := by decide +kernel
theorem dJ2_getChars_ba4f3_73 : decode cJ2_getChars_ba4f3 73 = .ok (.goto (-51), 3) := by decide +kernel
theorem dJ2_getChars_ba4f3_76 : decode cJ2_getChars_ba4f3 76 = .ok (.aload_n 2, 1) := by decide +kernel
theorem dJ2_getChars_ba4f3_77 : decode cJ2_getChars_ba4f3 77 = .ok (.iinc 5 (-1), 3) := by decide +kernel
theorem dJ2_getChars_ba4f3_80 : decode cJ2_getChars_ba4f3 80 = .ok (.iload 5, 2) := by decide +kernel
theorem dJ2_getChars_ba4f3_82 : decode cJ2_getChars_ba4f3 82 = .ok (.getstatic 403, 3) := by decide +kernel
theorem dJ2_getChars_ba4f3_85 : decode cJ2_getChars_ba4f3 85 = .ok (.iload_n 0, 1) := by decide +kernel
theorem dJ2_getChars_ba4f3_86 : decode cJ2_getChars_ba4f3 86 = .ok (.ineg, 1) := by decide +kernel
theorem dJ2_getChars_ba4f3_87 : decode cJ2_getChars_ba4f3 87 = .ok (.baload, 1) := by decide +kernel
theorem dJ2_getChars_ba4f3_88 : decode cJ2_getChars_ba4f3 88 = .ok (.invokestatic 111, 3) := by decide +kernel
theorem dJ2_getChars_ba4f3_91 : decode cJ2_getChars_ba4f3 91 = .ok (.iload_n 0, 1) := by decide +kernel
theorem dJ2_getChars_ba4f3_92 : decode cJ2_getChars_ba4f3 92 = .ok (.bipush (-9), 2) := by decide +kernel
theorem dJ2_getChars_ba4f3_94 : decode cJ2_getChars_ba4f3 94 = .ok (.if_icmp .ge 18, 3) := by decide +kernel
theorem dJ2_getChars_ba4f3_97 : decode cJ2_getChars_ba4f3 97 = .ok (.aload_n 2, 1) := by decide +kernel
theorem dJ2_getChars_ba4f3_98 : decode cJ2_getChars_ba4f3 98 = .ok (.iinc 5 (-1), 3) := by decide +kernel
theorem dJ2_getChars_ba4f3_101 : decode cJ2_getChars_ba4f3 101 = .ok (.iload 5, 2) := by decide +kernel
theorem dJ2_getChars_ba4f3_103 : decode cJ2_getChars_ba4f3 103 = .ok (.getstatic 407, 3) := by decide +kernel
theorem dJ2_getChars_ba4f3_106 : decode cJ2_getChars_ba4f3 106 = .ok (.iload_n 0, 1) := by decide +kernel
theorem dJ2_getChars_ba4f3_107 : decode cJ2_getChars_ba4f3 107 = .ok (.ineg, 1) := by decide +kernel
theorem dJ2_getChars_ba4f3_108 : decode cJ2_getChars_ba4f3 108 = .ok (.baload, 1) := by decide +kernel
theorem dJ2_getChars_ba4f3_109 : decode cJ2_getChars_ba4f3 109 = .ok (.invokestatic 111, 3) := by decide +kernel
theorem dJ2_getChars_ba4f3_112 : decode cJ2_getChars_ba4f3 112 = .ok (.iload 6, 2) := by decide +kernel
theorem dJ2_getChars_ba4f3_114 : decode cJ2_getChars_ba4f3 114 = .ok (.ifCond .eq 14, 3) := by decide +kernel
theorem dJ2_getChars_ba4f3_117 : decode cJ2_getChars_ba4f3 117 = .ok (.aload_n 2, 1) := by decide +kernel
theorem dJ2_getChars_ba4f3_118 : decode cJ2_getChars_ba4f3 118 = .ok (.iinc 5 (-1), 3) := by decide +kernel
theorem dJ2_getChars_ba4f3_121 : decode cJ2_getChars_ba4f3 121 = .ok (.iload 5, 2) := by decide +kernel
theorem dJ2_getChars_ba4f3_123 : decode cJ2_getChars_ba4f3 123 = .ok (.bipush 45, 2) := by decide +kernel
theorem dJ2_getChars_ba4f3_125 : decode cJ2_getChars_ba4f3 125 = .ok (.invokestatic 111, 3) := by decide +kernel
theorem dJ2_getChars_ba4f3_128 : decode cJ2_getChars_ba4f3 128 = .ok (.iload 5, 2) := by decide +kernel
theorem dJ2_getChars_ba4f3_130 : decode cJ2_getChars_ba4f3 130 = .ok (.ireturn, 1) := by decide +kernel
theorem dJ2_checkIndex_2214a_0 : decode cJ2_checkIndex_2214a 0 = .ok (.iload_n 0, 1) := by decide +kernel
theorem dJ2_checkIndex_2214a_1 : decode cJ2_checkIndex_2214a 1 = .ok (.aload_n 1, 1) := by decide +kernel
theorem dJ2_checkIndex_2214a_2 : decode cJ2_checkIndex_2214a 2 = .ok (.invokestatic 48, 3) := by decide +kernel
theorem dJ2_checkIndex_2214a_5 : decode cJ2_checkIndex_2214a 5 = .ok (.invokestatic 414, 3) := by decide +kernel
theorem dJ2_checkIndex_2214a_8 : decode cJ2_checkIndex_2214a 8 = .ok (.return_, 1) := by decide +kernel
theorem dJ2_checkBoundsBeginEnd_d044e_0 : decode cJ2_checkBoundsBeginEnd_d044e 0 = .ok (.iload_n 0, 1) := by decide +kernel
theorem dJ2_checkBoundsBeginEnd_d044e_1 : decode cJ2_checkBoundsBeginEnd_d044e 1 = .ok (.iload_n 1, 1) := by decide +kernel
theorem dJ2_checkBoundsBeginEnd_d044e_2 : decode cJ2_checkBoundsBeginEnd_d044e 2 = .ok (.aload_n 2, 1) := by decide +kernel
theorem dJ2_checkBoundsBeginEnd_d044e_3 : decode cJ2_checkBoundsBeginEnd_d044e 3 = .ok (.invokestatic 48, 3) := by decide +kernel
theorem dJ2_checkBoundsBeginEnd_d044e_6 : decode cJ2_checkBoundsBeginEnd_d044e 6 = .ok (.invokestatic 241, 3) := by decide +kernel
theorem dJ2_checkBoundsBeginEnd_d044e_9 : decode cJ2_checkBoundsBeginEnd_d044e 9 = .ok (.return_, 1) := by decide +kernel
theorem dJ2_checkBoundsOffCount_d044e_0 : decode cJ2_checkBoundsOffCount_d044e 0 = .ok (.iload_n 0, 1) := by decide +kernel
theorem dJ2_checkBoundsOffCount_d044e_1 : decode cJ2_checkBoundsOffCount_d044e 1 = .ok (.iload_n 1, 1) := by decide +kernel
theorem dJ2_checkBoundsOffCount_d044e_2 : decode cJ2_checkBoundsOffCount_d044e 2 = .ok (.aload_n 2, 1) := by decide +kernel
theorem dJ2_checkBoundsOffCount_d044e_3 : decode cJ2_checkBoundsOffCount_d044e 3 = .ok (.invokestatic 48, 3) := by decide +kernel
theorem dJ2_checkBoundsOffCount_d044e_6 : decode cJ2_checkBoundsOffCount_d044e 6 = .ok (.invokestatic 419, 3) := by decide +kernel
theorem dJ2_checkBoundsOffCount_d044e_9 : decode cJ2_checkBoundsOffCount_d044e 9 = .ok (.pop, 1) := by decide +kernel
theorem dJ2_checkBoundsOffCount_d044e_10 : decode cJ2_checkBoundsOffCount_d044e 10 = .ok (.return_, 1) := by decide +kernel
theorem dJ7_copyOf_9075b_0 : decode cJ7_copyOf_9075b 0 = .ok (.iload_n 1, 1) := by decide +kernel
theorem dJ7_copyOf_9075b_1 : decode cJ7_copyOf_9075b 1 = .ok (.aload_n 0, 1) := by decide +kernel
theorem dJ7_copyOf_9075b_2 : decode cJ7_copyOf_9075b 2 = .ok (.arraylength, 1) := by decide +kernel
theorem dJ7_copyOf_9075b_3 : decode cJ7_copyOf_9075b 3 = .ok (.if_icmp .ne 11, 3) := by decide +kernel
theorem dJ7_copyOf_9075b_6 : decode cJ7_copyOf_9075b 6 = .ok (.aload_n 0, 1) := by decide +kernel
theorem dJ7_copyOf_9075b_7 : decode cJ7_copyOf_9075b 7 = .ok (.invokevirtual 310, 3) := by decide +kernel
theorem dJ7_copyOf_9075b_10 : decode cJ7_copyOf_9075b 10 = .ok (.checkcast 311, 3) := by decide +kernel
theorem dJ7_copyOf_9075b_13 : decode cJ7_copyOf_9075b 13 = .ok (.areturn, 1) := by decide +kernel
theorem dJ7_copyOf_9075b_14 : decode cJ7_copyOf_9075b 14 = .ok (.iload_n 1, 1) := by decide +kernel
theorem dJ7_copyOf_9075b_15 : decode cJ7_copyOf_9075b 15 = .ok (.newarray .byte, 2) := by decide +kernel
theorem dJ7_copyOf_9075b_17 : decode cJ7_copyOf_9075b 17 = .ok (.astore_n 2, 1) := by decide +kernel
theorem dJ7_copyOf_9075b_18 : decode cJ7_copyOf_9075b 18 = .ok (.aload_n 0, 1) := by decide +kernel
theorem dJ7_copyOf_9075b_19 : decode cJ7_copyOf_9075b 19 = .ok (.iconst 0, 1) := by decide +kernel
theorem dJ7_copyOf_9075b_20 : decode cJ7_copyOf_9075b 20 = .ok (.aload_n 2, 1) := by decide +kernel
theorem dJ7_copyOf_9075b_21 : decode cJ7_copyOf_9075b 21 = .ok (.iconst 0, 1) := by decide +kernel
theorem dJ7_copyOf_9075b_22 : decode cJ7_copyOf_9075b 22 = .ok (.aload_n 0, 1) := by decide +kernel
theorem dJ7_copyOf_9075b_23 : decode cJ7_copyOf_9075b 23 = .ok (.arraylength, 1) := by decide +kernel
end
section
theorem dJ7_copyOf_9075b_24 : decode cJ7_copyOf_9075b 24 = .ok (.iload_n 1, 1) := by decide +kernel
theorem dJ7_copyOf_9075b_25 : decode cJ7_copyOf_9075b 25 = .ok (.invokestatic 304, 3) := by decide +kernel
theorem dJ7_copyOf_9075b_28 : decode cJ7_copyOf_9075b 28 = .ok (.invokestatic 150, 3) := by decide +kernel
theorem dJ7_copyOf_9075b_31 : decode cJ7_copyOf_9075b 31 = .ok (.aload_n 2, 1) := by decide +kernel
theorem dJ7_copyOf_9075b_32 : decode cJ7_copyOf_9075b 32 = .ok (.areturn, 1) := by decide +kernel
theorem dJ7_checkLength_df160_0 : decode cJ7_checkLength_df160 0 = .ok (.iload_n 1, 1) := by decide +kernel
theorem dJ7_checkLength_df160_1 : decode cJ7_checkLength_df160 1 = .ok (.iload_n 0, 1) := by decide +kernel
theorem dJ7_checkLength_df160_2 : decode cJ7_checkLength_df160 2 = .ok (.if_icmp .ge 35, 3) := by decide +kernel
theorem dJ7_checkLength_df160_5 : decode cJ7_checkLength_df160 5 = .ok (.new 43, 3) := by decide +kernel
theorem dJ7_checkLength_df160_8 : decode cJ7_checkLength_df160 8 = .ok (.dup, 1) := by decide +kernel
theorem dJ7_checkLength_df160_9 : decode cJ7_checkLength_df160 9 = .ok (.new 45, 3) := by decide +kernel
theorem dJ7_checkLength_df160_12 : decode cJ7_checkLength_df160 12 = .ok (.dup, 1) := by decide +kernel
theorem dJ7_checkLength_df160_13 : decode cJ7_checkLength_df160 13 = .ok (.invokespecial 47, 3) := by decide +kernel
theorem dJ7_checkLength_df160_16 : decode cJ7_checkLength_df160 16 = .ok (.iload_n 0, 1) := by decide +kernel
theorem dJ7_checkLength_df160_17 : decode cJ7_checkLength_df160 17 = .ok (.invokevirtual 54, 3) := by decide +kernel
theorem dJ7_checkLength_df160_20 : decode cJ7_checkLength_df160 20 = .ok (.ldc_w 337, 3) := by decide +kernel
theorem dJ7_checkLength_df160_23 : decode cJ7_checkLength_df160 23 = .ok (.invokevirtual 50, 3) := by decide +kernel
theorem dJ7_checkLength_df160_26 : decode cJ7_checkLength_df160 26 = .ok (.iload_n 1, 1) := by decide +kernel
theorem dJ7_checkLength_df160_27 : decode cJ7_checkLength_df160 27 = .ok (.invokevirtual 54, 3) := by decide +kernel
theorem dJ7_checkLength_df160_30 : decode cJ7_checkLength_df160 30 = .ok (.invokevirtual 61, 3) := by decide +kernel
theorem dJ7_checkLength_df160_33 : decode cJ7_checkLength_df160 33 = .ok (.invokespecial 65, 3) := by decide +kernel
theorem dJ7_checkLength_df160_36 : decode cJ7_checkLength_df160 36 = .ok (.athrow, 1) := by decide +kernel
theorem dJ7_checkLength_df160_37 : decode cJ7_checkLength_df160 37 = .ok (.return_, 1) := by decide +kernel
theorem dJ7_copyOfRange_39247_0 : decode cJ7_copyOfRange_39247 0 = .ok (.iload_n 1, 1) := by decide +kernel
theorem dJ7_copyOfRange_39247_1 : decode cJ7_copyOfRange_39247 1 = .ok (.ifCond .ne 9, 3) := by decide +kernel
theorem dJ7_copyOfRange_39247_4 : decode cJ7_copyOfRange_39247 4 = .ok (.iload_n 2, 1) := by decide +kernel
theorem dJ7_copyOfRange_39247_5 : decode cJ7_copyOfRange_39247 5 = .ok (.aload_n 0, 1) := by decide +kernel
theorem dJ7_copyOfRange_39247_6 : decode cJ7_copyOfRange_39247 6 = .ok (.arraylength, 1) := by decide +kernel
theorem dJ7_copyOfRange_39247_7 : decode cJ7_copyOfRange_39247 7 = .ok (.if_icmp .eq 10, 3) := by decide +kernel
theorem dJ7_copyOfRange_39247_10 : decode cJ7_copyOfRange_39247 10 = .ok (.aload_n 0, 1) := by decide +kernel
theorem dJ7_copyOfRange_39247_11 : decode cJ7_copyOfRange_39247 11 = .ok (.iload_n 1, 1) := by decide +kernel
theorem dJ7_copyOfRange_39247_12 : decode cJ7_copyOfRange_39247 12 = .ok (.iload_n 2, 1) := by decide +kernel
theorem dJ7_copyOfRange_39247_13 : decode cJ7_copyOfRange_39247 13 = .ok (.invokestatic 339, 3) := by decide +kernel
theorem dJ7_copyOfRange_39247_16 : decode cJ7_copyOfRange_39247 16 = .ok (.areturn, 1) := by decide +kernel
theorem dJ7_copyOfRange_39247_17 : decode cJ7_copyOfRange_39247 17 = .ok (.aload_n 0, 1) := by decide +kernel
theorem dJ7_copyOfRange_39247_18 : decode cJ7_copyOfRange_39247 18 = .ok (.invokevirtual 310, 3) := by decide +kernel
theorem dJ7_copyOfRange_39247_21 : decode cJ7_copyOfRange_39247 21 = .ok (.checkcast 311, 3) := by decide +kernel
theorem dJ7_copyOfRange_39247_24 : decode cJ7_copyOfRange_39247 24 = .ok (.areturn, 1) := by decide +kernel
theorem dJ7_copyOfRangeByte_39247_0 : decode cJ7_copyOfRangeByte_39247 0 = .ok (.iload_n 1, 1) := by decide +kernel
theorem dJ7_copyOfRangeByte_39247_1 : decode cJ7_copyOfRangeByte_39247 1 = .ok (.iload_n 2, 1) := by decide +kernel
theorem dJ7_copyOfRangeByte_39247_2 : decode cJ7_copyOfRangeByte_39247 2 = .ok (.invokestatic 343, 3) := by decide +kernel
theorem dJ7_copyOfRangeByte_39247_5 : decode cJ7_copyOfRangeByte_39247 5 = .ok (.iload_n 2, 1) := by decide +kernel
theorem dJ7_copyOfRangeByte_39247_6 : decode cJ7_copyOfRangeByte_39247 6 = .ok (.iload_n 1, 1) := by decide +kernel
theorem dJ7_copyOfRangeByte_39247_7 : decode cJ7_copyOfRangeByte_39247 7 = .ok (.isub, 1) := by decide +kernel
theorem dJ7_copyOfRangeByte_39247_8 : decode cJ7_copyOfRangeByte_39247 8 = .ok (.istore_n 3, 1) := by decide +kernel
theorem dJ7_copyOfRangeByte_39247_9 : decode cJ7_copyOfRangeByte_39247 9 = .ok (.iload_n 3, 1) := by decide +kernel
theorem dJ7_copyOfRangeByte_39247_10 : decode cJ7_copyOfRangeByte_39247 10 = .ok (.newarray .byte, 2) := by decide +kernel
theorem dJ7_copyOfRangeByte_39247_12 : decode cJ7_copyOfRangeByte_39247 12 = .ok (.astore 4, 2) := by decide +kernel
theorem dJ7_copyOfRangeByte_39247_14 : decode cJ7_copyOfRangeByte_39247 14 = .ok (.aload_n 0, 1) := by decide +kernel
theorem dJ7_copyOfRangeByte_39247_15 : decode cJ7_copyOfRangeByte_39247 15 = .ok (.iload_n 1, 1) := by decide +kernel
theorem dJ7_copyOfRangeByte_39247_16 : decode cJ7_copyOfRangeByte_39247 16 = .ok (.aload 4, 2) := by decide +kernel
theorem dJ7_copyOfRangeByte_39247_18 : decode cJ7_copyOfRangeByte_39247 18 = .ok (.iconst 0, 1) := by decide +kernel
theorem dJ7_copyOfRangeByte_39247_19 : decode cJ7_copyOfRangeByte_39247 19 = .ok (.aload_n 0, 1) := by decide +kernel
theorem dJ7_copyOfRangeByte_39247_20 : decode cJ7_copyOfRangeByte_39247 20 = .ok (.arraylength, 1) := by decide +kernel
theorem dJ7_copyOfRangeByte_39247_21 : decode cJ7_copyOfRangeByte_39247 21 = .ok (.iload_n 1, 1) := by decide +kernel
theorem dJ7_copyOfRangeByte_39247_22 : decode cJ7_copyOfRangeByte_39247 22 = .ok (.isub, 1) := by decide +kernel
theorem dJ7_copyOfRangeByte_39247_23 : decode cJ7_copyOfRangeByte_39247 23 = .ok (.iload_n 3, 1) := by decide +kernel
theorem dJ7_copyOfRangeByte_39247_24 : decode cJ7_copyOfRangeByte_39247 24 = .ok (.invokestatic 304, 3) := by decide +kernel
theorem dJ7_copyOfRangeByte_39247_27 : decode cJ7_copyOfRangeByte_39247 27 = .ok (.invokestatic 150, 3) := by decide +kernel
theorem dJ7_copyOfRangeByte_39247_30 : decode cJ7_copyOfRangeByte_39247 30 = .ok (.aload 4, 2) := by decide +kernel
theorem dJ7_copyOfRangeByte_39247_32 : decode cJ7_copyOfRangeByte_39247 32 = .ok (.areturn, 1) := by decide +kernel
theorem dJ8_newLength_cabcc_0 : decode cJ8_newLength_cabcc 0 = .ok (.iload_n 0, 1) := by decide +kernel
theorem dJ8_newLength_cabcc_1 : decode cJ8_newLength_cabcc 1 = .ok (.iload_n 1, 1) := by decide +kernel
theorem dJ8_newLength_cabcc_2 : decode cJ8_newLength_cabcc 2 = .ok (.iload_n 2, 1) := by decide +kernel
theorem dJ8_newLength_cabcc_3 : decode cJ8_newLength_cabcc 3 = .ok (.invokestatic 194, 3) := by decide +kernel
theorem dJ8_newLength_cabcc_6 : decode cJ8_newLength_cabcc 6 = .ok (.iadd, 1) := by decide +kernel
theorem dJ8_newLength_cabcc_7 : decode cJ8_newLength_cabcc 7 = .ok (.istore_n 3, 1) := by decide +kernel
theorem dJ8_newLength_cabcc_8 : decode cJ8_newLength_cabcc 8 = .ok (.iconst 0, 1) := by decide +kernel
theorem dJ8_newLength_cabcc_9 : decode cJ8_newLength_cabcc 9 = .ok (.iload_n 3, 1) := by decide +kernel
theorem dJ8_newLength_cabcc_10 : decode cJ8_newLength_cabcc 10 = .ok (.if_icmp .ge 11, 3) := by decide +kernel
theorem dJ8_newLength_cabcc_13 : decode cJ8_newLength_cabcc 13 = .ok (.iload_n 3, 1) := by decide +kernel
theorem dJ8_newLength_cabcc_14 : decode cJ8_newLength_cabcc 14 = .ok (.ldc 200, 2) := by decide +kernel
theorem dJ8_newLength_cabcc_16 : decode cJ8_newLength_cabcc 16 = .ok (.if_icmp .gt 5, 3) := by decide +kernel
theorem dJ8_newLength_cabcc_19 : decode cJ8_newLength_cabcc 19 = .ok (.iload_n 3, 1) := by decide +kernel
theorem dJ8_newLength_cabcc_20 : decode cJ8_newLength_cabcc 20 = .ok (.ireturn, 1) := by decide +kernel
theorem dJ8_newLength_cabcc_21 : decode cJ8_newLength_cabcc 21 = .ok (.iload_n 0, 1) := by decide +kernel
theorem dJ8_newLength_cabcc_22 : decode cJ8_newLength_cabcc 22 = .ok (.iload_n 1, 1) := by decide +kernel
theorem dJ8_newLength_cabcc_23 : decode cJ8_newLength_cabcc 23 = .ok (.invokestatic 201, 3) := by decide +kernel
theorem dJ8_newLength_cabcc_26 : decode cJ8_newLength_cabcc 26 = .ok (.ireturn, 1) := by decide +kernel
theorem dJ8_hugeLength_7cf53_0 : decode cJ8_hugeLength_7cf53 0 = .ok (.iload_n 0, 1) := by decide +kernel
theorem dJ8_hugeLength_7cf53_1 : decode cJ8_hugeLength_7cf53 1 = .ok (.iload_n 1, 1) := by decide +kernel
theorem dJ8_hugeLength_7cf53_2 : decode cJ8_hugeLength_7cf53 2 = .ok (.iadd, 1) := by decide +kernel
theorem dJ8_hugeLength_7cf53_3 : decode cJ8_hugeLength_7cf53 3 = .ok (.istore_n 2, 1) := by decide +kernel
theorem dJ8_hugeLength_7cf53_4 : decode cJ8_hugeLength_7cf53 4 = .ok (.iload_n 2, 1) := by decide +kernel
theorem dJ8_hugeLength_7cf53_5 : decode cJ8_hugeLength_7cf53 5 = .ok (.ifCond .ge 44, 3) := by decide +kernel
theorem dJ8_hugeLength_7cf53_8 : decode cJ8_hugeLength_7cf53 8 = .ok (.new 204, 3) := by decide +kernel
theorem dJ8_hugeLength_7cf53_11 : decode cJ8_hugeLength_7cf53 11 = .ok (.dup, 1) := by decide +kernel
theorem dJ8_hugeLength_7cf53_12 : decode cJ8_hugeLength_7cf53 12 = .ok (.new 89, 3) := by decide +kernel
theorem dJ8_hugeLength_7cf53_15 : decode cJ8_hugeLength_7cf53 15 = .ok (.dup, 1) := by decide +kernel
theorem dJ8_hugeLength_7cf53_16 : decode cJ8_hugeLength_7cf53 16 = .ok (.invokespecial 91, 3) := by decide +kernel
theorem dJ8_hugeLength_7cf53_19 : decode cJ8_hugeLength_7cf53 19 = .ok (.ldc 206, 2) := by decide +kernel
theorem dJ8_hugeLength_7cf53_21 : decode cJ8_hugeLength_7cf53 21 = .ok (.invokevirtual 94, 3) := by decide +kernel
theorem dJ8_hugeLength_7cf53_24 : decode cJ8_hugeLength_7cf53 24 = .ok (.iload_n 0, 1) := by decide +kernel
theorem dJ8_hugeLength_7cf53_25 : decode cJ8_hugeLength_7cf53 25 = .ok (.invokevirtual 98, 3) := by decide +kernel
theorem dJ8_hugeLength_7cf53_28 : decode cJ8_hugeLength_7cf53 28 = .ok (.ldc 208, 2) := by decide +kernel
theorem dJ8_hugeLength_7cf53_30 : decode cJ8_hugeLength_7cf53 30 = .ok (.invokevirtual 94, 3) := by decide +kernel
theorem dJ8_hugeLength_7cf53_33 : decode cJ8_hugeLength_7cf53 33 = .ok (.iload_n 1, 1) := by decide +kernel
theorem dJ8_hugeLength_7cf53_34 : decode cJ8_hugeLength_7cf53 34 = .ok (.invokevirtual 98, 3) := by decide +kernel
theorem dJ8_hugeLength_7cf53_37 : decode cJ8_hugeLength_7cf53 37 = .ok (.ldc 210, 2) := by decide +kernel
theorem dJ8_hugeLength_7cf53_39 : decode cJ8_hugeLength_7cf53 39 = .ok (.invokevirtual 94, 3) := by decide +kernel
theorem dJ8_hugeLength_7cf53_42 : decode cJ8_hugeLength_7cf53 42 = .ok (.invokevirtual 101, 3) := by decide +kernel
theorem dJ8_hugeLength_7cf53_45 : decode cJ8_hugeLength_7cf53 45 = .ok (.invokespecial 212, 3) := by decide +kernel
theorem dJ8_hugeLength_7cf53_48 : decode cJ8_hugeLength_7cf53 48 = .ok (.athrow, 1) := by decide +kernel
theorem dJ8_hugeLength_7cf53_49 : decode cJ8_hugeLength_7cf53 49 = .ok (.iload_n 2, 1) := by decide +kernel
theorem dJ8_hugeLength_7cf53_50 : decode cJ8_hugeLength_7cf53 50 = .ok (.ldc 200, 2) := by decide +kernel
theorem dJ8_hugeLength_7cf53_52 : decode cJ8_hugeLength_7cf53 52 = .ok (.if_icmp .gt 6, 3) := by decide +kernel
theorem dJ8_hugeLength_7cf53_55 : decode cJ8_hugeLength_7cf53 55 = .ok (.ldc 200, 2) := by decide +kernel
theorem dJ8_hugeLength_7cf53_57 : decode cJ8_hugeLength_7cf53 57 = .ok (.ireturn, 1) := by decide +kernel
theorem dJ8_hugeLength_7cf53_58 : decode cJ8_hugeLength_7cf53 58 = .ok (.iload_n 2, 1) := by decide +kernel
theorem dJ8_hugeLength_7cf53_59 : decode cJ8_hugeLength_7cf53 59 = .ok (.ireturn, 1) := by decide +kernel
theorem dJ3_checkIndex_8e157_0 : decode cJ3_checkIndex_8e157 0 = .ok (.iload_n 0, 1) := by decide +kernel
theorem dJ3_checkIndex_8e157_1 : decode cJ3_checkIndex_8e157 1 = .ok (.ifCond .lt 8, 3) := by decide +kernel
theorem dJ3_checkIndex_8e157_4 : decode cJ3_checkIndex_8e157 4 = .ok (.iload_n 0, 1) := by decide +kernel
theorem dJ3_checkIndex_8e157_5 : decode cJ3_checkIndex_8e157 5 = .ok (.iload_n 1, 1) := by decide +kernel
theorem dJ3_checkIndex_8e157_6 : decode cJ3_checkIndex_8e157 6 = .ok (.if_icmp .lt 10, 3) := by decide +kernel
theorem dJ3_checkIndex_8e157_9 : decode cJ3_checkIndex_8e157 9 = .ok (.aload_n 2, 1) := by decide +kernel
theorem dJ3_checkIndex_8e157_10 : decode cJ3_checkIndex_8e157 10 = .ok (.iload_n 0, 1) := by decide +kernel
theorem dJ3_checkIndex_8e157_11 : decode cJ3_checkIndex_8e157 11 = .ok (.iload_n 1, 1) := by decide +kernel
theorem dJ3_checkIndex_8e157_12 : decode cJ3_checkIndex_8e157 12 = .ok (.invokestatic 95, 3) := by decide +kernel
theorem dJ3_checkIndex_8e157_15 : decode cJ3_checkIndex_8e157 15 = .ok (.athrow, 1) := by decide +kernel
theorem dJ3_checkIndex_8e157_16 : decode cJ3_checkIndex_8e157 16 = .ok (.iload_n 0, 1) := by decide +kernel
theorem dJ3_checkIndex_8e157_17 : decode cJ3_checkIndex_8e157 17 = .ok (.ireturn, 1) := by decide +kernel
theorem dJ3_checkFromToIndex_8c36e_0 : decode cJ3_checkFromToIndex_8c36e 0 = .ok (.iload_n 0, 1) := by decide +kernel
theorem dJ3_checkFromToIndex_8c36e_1 : decode cJ3_checkFromToIndex_8c36e 1 = .ok (.ifCond .lt 13, 3) := by decide +kernel
theorem dJ3_checkFromToIndex_8c36e_4 : decode cJ3_checkFromToIndex_8c36e 4 = .ok (.iload_n 0, 1) := by decide +kernel
theorem dJ3_checkFromToIndex_8c36e_5 : decode cJ3_checkFromToIndex_8c36e 5 = .ok (.iload_n 1, 1) := by decide +kernel
theorem dJ3_checkFromToIndex_8c36e_6 : decode cJ3_checkFromToIndex_8c36e 6 = .ok (.if_icmp .gt 8, 3) := by decide +kernel
theorem dJ3_checkFromToIndex_8c36e_9 : decode cJ3_checkFromToIndex_8c36e 9 = .ok (.iload_n 1, 1) := by decide +kernel
theorem dJ3_checkFromToIndex_8c36e_10 : decode cJ3_checkFromToIndex_8c36e 10 = .ok (.iload_n 2, 1) := by decide +kernel
theorem dJ3_checkFromToIndex_8c36e_11 : decode cJ3_checkFromToIndex_8c36e 11 = .ok (.if_icmp .le 11, 3) := by decide +kernel
theorem dJ3_checkFromToIndex_8c36e_14 : decode cJ3_checkFromToIndex_8c36e 14 = .ok (.aload_n 3, 1) := by decide +kernel
theorem dJ3_checkFromToIndex_8c36e_15 : decode cJ3_checkFromToIndex_8c36e 15 = .ok (.iload_n 0, 1) := by decide +kernel
theorem dJ3_checkFromToIndex_8c36e_16 : decode cJ3_checkFromToIndex_8c36e 16 = .ok (.iload_n 1, 1) := by decide +kernel
theorem dJ3_checkFromToIndex_8c36e_17 : decode cJ3_checkFromToIndex_8c36e 17 = .ok (.iload_n 2, 1) := by decide +kernel
theorem dJ3_checkFromToIndex_8c36e_18 : decode cJ3_checkFromToIndex_8c36e 18 = .ok (.invokestatic 99, 3) := by decide +kernel
theorem dJ3_checkFromToIndex_8c36e_21 : decode cJ3_checkFromToIndex_8c36e 21 = .ok (.athrow, 1) := by decide +kernel
theorem dJ3_checkFromToIndex_8c36e_22 : decode cJ3_checkFromToIndex_8c36e 22 = .ok (.iload_n 0, 1) := by decide +kernel
theorem dJ3_checkFromToIndex_8c36e_23 : decode cJ3_checkFromToIndex_8c36e 23 = .ok (.ireturn, 1) := by decide +kernel
theorem dJ3_checkFromIndexSize_8c36e_0 : decode cJ3_checkFromIndexSize_8c36e 0 = .ok (.iload_n 2, 1) := by decide +kernel
theorem dJ3_checkFromIndexSize_8c36e_1 : decode cJ3_checkFromIndexSize_8c36e 1 = .ok (.iload_n 0, 1) := by decide +kernel
theorem dJ3_checkFromIndexSize_8c36e_2 : decode cJ3_checkFromIndexSize_8c36e 2 = .ok (.ior, 1) := by decide +kernel
theorem dJ3_checkFromIndexSize_8c36e_3 : decode cJ3_checkFromIndexSize_8c36e 3 = .ok (.iload_n 1, 1) := by decide +kernel
theorem dJ3_checkFromIndexSize_8c36e_4 : decode cJ3_checkFromIndexSize_8c36e 4 = .ok (.ior, 1) := by decide +kernel
theorem dJ3_checkFromIndexSize_8c36e_5 : decode cJ3_checkFromIndexSize_8c36e 5 = .ok (.ifCond .lt 10, 3) := by decide +kernel
theorem dJ3_checkFromIndexSize_8c36e_8 : decode cJ3_checkFromIndexSize_8c36e 8 = .ok (.iload_n 1, 1) := by decide +kernel
theorem dJ3_checkFromIndexSize_8c36e_9 : decode cJ3_checkFromIndexSize_8c36e 9 = .ok (.iload_n 2, 1) := by decide +kernel
theorem dJ3_checkFromIndexSize_8c36e_10 : decode cJ3_checkFromIndexSize_8c36e 10 = .ok (.iload_n 0, 1) := by decide +kernel
theorem dJ3_checkFromIndexSize_8c36e_11 : decode cJ3_checkFromIndexSize_8c36e 11 = .ok (.isub, 1) := by decide +kernel
theorem dJ3_checkFromIndexSize_8c36e_12 : decode cJ3_checkFromIndexSize_8c36e 12 = .ok (.if_icmp .le 11, 3) := by decide +kernel
theorem dJ3_checkFromIndexSize_8c36e_15 : decode cJ3_checkFromIndexSize_8c36e 15 = .ok (.aload_n 3, 1) := by decide +kernel
theorem dJ3_checkFromIndexSize_8c36e_16 : decode cJ3_checkFromIndexSize_8c36e 16 = .ok (.iload_n 0, 1) := by decide +kernel
theorem dJ3_checkFromIndexSize_8c36e_17 : decode cJ3_checkFromIndexSize_8c36e 17 = .ok (.iload_n 1, 1) := by decide +kernel
theorem dJ3_checkFromIndexSize_8c36e_18 : decode cJ3_checkFromIndexSize_8c36e 18 = .ok (.iload_n 2, 1) := by decide +kernel
theorem dJ3_checkFromIndexSize_8c36e_19 : decode cJ3_checkFromIndexSize_8c36e 19 = .ok (.invokestatic 103, 3) := by decide +kernel
theorem dJ3_checkFromIndexSize_8c36e_22 : decode cJ3_checkFromIndexSize_8c36e 22 = .ok (.athrow, 1) := by decide +kernel
theorem dJ3_checkFromIndexSize_8c36e_23 : decode cJ3_checkFromIndexSize_8c36e 23 = .ok (.iload_n 0, 1) := by decide +kernel
theorem dJ3_checkFromIndexSize_8c36e_24 : decode cJ3_checkFromIndexSize_8c36e 24 = .ok (.ireturn, 1) := by decide +kernel
theorem dL_init_0 : decode cL_init 0 = .ok (.aload_n 0, 1) := by decide +kernel
theorem dL_init_1 : decode cL_init 1 = .ok (.invokespecial 1, 3) := by decide +kernel
theorem dL_init_4 : decode cL_init 4 = .ok (.aload_n 0, 1) := by decide +kernel
theorem dL_init_5 : decode cL_init 5 = .ok (.iconst 0, 1) := by decide +kernel
theorem dL_init_6 : decode cL_init 6 = .ok (.newarray .int, 2) := by decide +kernel
theorem dL_init_8 : decode cL_init 8 = .ok (.putfield 7, 3) := by decide +kernel
theorem dL_init_11 : decode cL_init 11 = .ok (.aload_n 0, 1) := by decide +kernel
theorem dL_init_12 : decode cL_init 12 = .ok (.bipush 6, 2) := by decide +kernel
theorem dL_init_14 : decode cL_init 14 = .ok (.bipush 6, 2) := by decide +kernel
theorem dL_init_16 : decode cL_init 16 = .ok (.multianewarray 13 2, 4) := by decide +kernel
theorem dL_init_20 : decode cL_init 20 = .ok (.putfield 15, 3) := by decide +kernel
theorem dL_init_23 : decode cL_init 23 = .ok (.return_, 1) := by decide +kernel
theorem dL_among_0 : decode cL_among 0 = .ok (.iload_n 0, 1) := by decide +kernel
theorem dL_among_1 : decode cL_among 1 = .ok (.iload_n 1, 1) := by decide +kernel
theorem dL_among_2 : decode cL_among 2 = .ok (.irem, 1) := by decide +kernel
theorem dL_among_3 : decode cL_among 3 = .ok (.istore_n 2, 1) := by decide +kernel
theorem dL_among_4 : decode cL_among 4 = .ok (.iload_n 2, 1) := by decide +kernel
theorem dL_among_5 : decode cL_among 5 = .ok (.ifCond .ge 9, 3) := by decide +kernel
theorem dL_among_8 : decode cL_among 8 = .ok (.iload_n 2, 1) := by decide +kernel
theorem dL_among_9 : decode cL_among 9 = .ok (.iload_n 1, 1) := by decide +kernel
theorem dL_among_10 : decode cL_among 10 = .ok (.iadd, 1) := by decide +kernel
theorem dL_among_11 : decode cL_among 11 = .ok (.goto 4, 3) := by decide +kernel
theorem dL_among_14 : decode cL_among 14 = .ok (.iload_n 2, 1) := by decide +kernel
theorem dL_among_15 : decode cL_among 15 = .ok (.ireturn, 1) := by decide +kernel
theorem dL_cell_0 : decode cL_cell 0 = .ok (.iload_n 1, 1) := by decide +kernel
theorem dL_cell_1 : decode cL_cell 1 = .ok (.aload_n 0, 1) := by decide +kernel
theorem dL_cell_2 : decode cL_cell 2 = .ok (.arraylength, 1) := by decide +kernel
theorem dL_cell_3 : decode cL_cell 3 = .ok (.if_icmp .ge 9, 3) := by decide +kernel
theorem dL_cell_6 : decode cL_cell 6 = .ok (.aload_n 0, 1) := by decide +kernel
theorem dL_cell_7 : decode cL_cell 7 = .ok (.iload_n 1, 1) := by decide +kernel
theorem dL_cell_8 : decode cL_cell 8 = .ok (.iaload, 1) := by decide +kernel
theorem dL_cell_9 : decode cL_cell 9 = .ok (.goto 14, 3) := by decide +kernel
theorem dL_cell_12 : decode cL_cell 12 = .ok (.sipush 7919, 3) := by decide +kernel
theorem dL_cell_15 : decode cL_cell 15 = .ok (.iload_n 1, 1) := by decide +kernel
theorem dL_cell_16 : decode cL_cell 16 = .ok (.sipush 1000, 3) := by decide +kernel
theorem dL_cell_19 : decode cL_cell 19 = .ok (.irem, 1) := by decide +kernel
theorem dL_cell_20 : decode cL_cell 20 = .ok (.imul, 1) := by decide +kernel
theorem dL_cell_21 : decode cL_cell 21 = .ok (.iconst 5, 1) := by decide +kernel
theorem dL_cell_22 : decode cL_cell 22 = .ok (.iadd, 1) := by decide +kernel
theorem dL_cell_23 : decode cL_cell 23 = .ok (.ireturn, 1) := by decide +kernel
theorem dL_four_0 : decode cL_four 0 = .ok (.iconst 0, 1) := by decide +kernel
theorem dL_four_1 : decode cL_four 1 = .ok (.istore_n 2, 1) := by decide +kernel
theorem dL_four_2 : decode cL_four 2 = .ok (.iload_n 1, 1) := by decide +kernel
theorem dL_four_3 : decode cL_four 3 = .ok (.istore_n 3, 1) := by decide +kernel
theorem dL_four_4 : decode cL_four 4 = .ok (.iload_n 3, 1) := by decide +kernel
theorem dL_four_5 : decode cL_four 5 = .ok (.iload_n 1, 1) := by decide +kernel
theorem dL_four_6 : decode cL_four 6 = .ok (.iconst 4, 1) := by decide +kernel
theorem dL_four_7 : decode cL_four 7 = .ok (.iadd, 1) := by decide +kernel
theorem dL_four_8 : decode cL_four 8 = .ok (.if_icmp .ge 33, 3) := by decide +kernel
theorem dL_four_11 : decode cL_four 11 = .ok (.iload_n 2, 1) := by decide +kernel
theorem dL_four_12 : decode cL_four 12 = .ok (.bipush 8, 2) := by decide +kernel
theorem dL_four_14 : decode cL_four 14 = .ok (.ishl, 1) := by decide +kernel
theorem dL_four_15 : decode cL_four 15 = .ok (.iload_n 3, 1) := by decide +kernel
theorem dL_four_16 : decode cL_four 16 = .ok (.aload_n 0, 1) := by decide +kernel
theorem dL_four_17 : decode cL_four 17 = .ok (.invokevirtual 18, 3) := by decide +kernel
theorem dL_four_20 : decode cL_four 20 = .ok (.if_icmp .ge 11, 3) := by decide +kernel
theorem dL_four_23 : decode cL_four 23 = .ok (.aload_n 0, 1) := by decide +kernel
theorem dL_four_24 : decode cL_four 24 = .ok (.iload_n 3, 1) := by decide +kernel
theorem dL_four_25 : decode cL_four 25 = .ok (.invokevirtual 24, 3) := by decide +kernel
theorem dL_four_28 : decode cL_four 28 = .ok (.goto 5, 3) := by decide +kernel
theorem dL_four_31 : decode cL_four 31 = .ok (.bipush 32, 2) := by decide +kernel
theorem dL_four_33 : decode cL_four 33 = .ok (.ior, 1) := by decide +kernel
theorem dL_four_34 : decode cL_four 34 = .ok (.istore_n 2, 1) := by decide +kernel
theorem dL_four_35 : decode cL_four 35 = .ok (.iinc 3 1, 3) := by decide +kernel
theorem dL_four_38 : decode cL_four 38 = .ok (.goto (-34), 3) := by decide +kernel
theorem dL_four_41 : decode cL_four 41 = .ok (.iload_n 2, 1) := by decide +kernel
theorem dL_four_42 : decode cL_four 42 = .ok (.ireturn, 1) := by decide +kernel
theorem dL_load_0 : decode cL_load 0 = .ok (.iconst 0, 1) := by decide +kernel
theorem dL_load_1 : decode cL_load 1 = .ok (.istore_n 2, 1) := by decide +kernel
theorem dL_load_2 : decode cL_load 2 = .ok (.iload_n 2, 1) := by decide +kernel
theorem dL_load_3 : decode cL_load 3 = .ok (.aload_n 1, 1) := by decide +kernel
theorem dL_load_4 : decode cL_load 4 = .ok (.invokevirtual 18, 3) := by decide +kernel
theorem dL_load_7 : decode cL_load 7 = .ok (.if_icmp .ge 50, 3) := by decide +kernel
theorem dL_load_10 : decode cL_load 10 = .ok (.aload_n 0, 1) := by decide +kernel
theorem dL_load_11 : decode cL_load 11 = .ok (.aload_n 1, 1) := by decide +kernel
theorem dL_load_12 : decode cL_load 12 = .ok (.iload_n 2, 1) := by decide +kernel
theorem dL_load_13 : decode cL_load 13 = .ok (.invokestatic 28, 3) := by decide +kernel
theorem dL_load_16 : decode cL_load 16 = .ok (.aload_n 1, 1) := by decide +kernel
theorem dL_load_17 : decode cL_load 17 = .ok (.iload_n 2, 1) := by decide +kernel
theorem dL_load_18 : decode cL_load 18 = .ok (.iconst 4, 1) := by decide +kernel
theorem dL_load_19 : decode cL_load 19 = .ok (.iadd, 1) := by decide +kernel
theorem dL_load_20 : decode cL_load 20 = .ok (.invokestatic 28, 3) := by decide +kernel
theorem dL_load_23 : decode cL_load 23 = .ok (.aload_n 1, 1) := by decide +kernel
theorem dL_load_24 : decode cL_load 24 = .ok (.iload_n 2, 1) := by decide +kernel
theorem dL_load_25 : decode cL_load 25 = .ok (.bipush 8, 2) := by decide +kernel
theorem dL_load_27 : decode cL_load 27 = .ok (.iadd, 1) := by decide +kernel
theorem dL_load_28 : decode cL_load 28 = .ok (.invokestatic 28, 3) := by decide +kernel
theorem dL_load_31 : decode cL_load 31 = .ok (.aload_n 1, 1) := by decide +kernel
theorem dL_load_32 : decode cL_load 32 = .ok (.iload_n 2, 1) := by decide +kernel
theorem dL_load_33 : decode cL_load 33 = .ok (.bipush 12, 2) := by decide +kernel
theorem dL_load_35 : decode cL_load 35 = .ok (.iadd, 1) := by decide +kernel
theorem dL_load_36 : decode cL_load 36 = .ok (.invokestatic 28, 3) := by decide +kernel
theorem dL_load_39 : decode cL_load 39 = .ok (.aload_n 1, 1) := by decide +kernel
theorem dL_load_40 : decode cL_load 40 = .ok (.iload_n 2, 1) := by decide +kernel
theorem dL_load_41 : decode cL_load 41 = .ok (.bipush 16, 2) := by decide +kernel
theorem dL_load_43 : decode cL_load 43 = .ok (.iadd, 1) := by decide +kernel
theorem dL_load_44 : decode cL_load 44 = .ok (.invokestatic 28, 3) := by decide +kernel
theorem dL_load_47 : decode cL_load 47 = .ok (.invokevirtual 32, 3) := by decide +kernel
theorem dL_load_50 : decode cL_load 50 = .ok (.pop, 1) := by decide +kernel
theorem dL_load_51 : decode cL_load 51 = .ok (.iinc 2 20, 3) := by decide +kernel
theorem dL_load_54 : decode cL_load 54 = .ok (.goto (-52), 3) := by decide +kernel
theorem dL_load_57 : decode cL_load 57 = .ok (.aload_n 0, 1) := by decide +kernel
theorem dL_load_58 : decode cL_load 58 = .ok (.aload_n 1, 1) := by decide +kernel
theorem dL_load_59 : decode cL_load 59 = .ok (.invokevirtual 18, 3) := by decide +kernel
theorem dL_load_62 : decode cL_load 62 = .ok (.invokevirtual 38, 3) := by decide +kernel
theorem dL_load_65 : decode cL_load 65 = .ok (.ireturn, 1) := by decide +kernel
theorem dL_chosen_0 : decode cL_chosen 0 = .ok (.aload_n 0, 1) := by decide +kernel
theorem dL_chosen_1 : decode cL_chosen 1 = .ok (.getfield 7, 3) := by decide +kernel
theorem dL_chosen_4 : decode cL_chosen 4 = .ok (.aload_n 0, 1) := by decide +kernel
theorem dL_chosen_5 : decode cL_chosen 5 = .ok (.getfield 42, 3) := by decide +kernel
theorem dL_chosen_8 : decode cL_chosen 8 = .ok (.invokestatic 46, 3) := by decide +kernel
theorem dL_chosen_11 : decode cL_chosen 11 = .ok (.iload_n 1, 1) := by decide +kernel
theorem dL_chosen_12 : decode cL_chosen 12 = .ok (.invokestatic 50, 3) := by decide +kernel
theorem dL_chosen_15 : decode cL_chosen 15 = .ok (.istore_n 2, 1) := by decide +kernel
theorem dL_chosen_16 : decode cL_chosen 16 = .ok (.aload_n 0, 1) := by decide +kernel
theorem dL_chosen_17 : decode cL_chosen 17 = .ok (.dup, 1) := by decide +kernel
theorem dL_chosen_18 : decode cL_chosen 18 = .ok (.getfield 42, 3) := by decide +kernel
theorem dL_chosen_21 : decode cL_chosen 21 = .ok (.iconst 1, 1) := by decide +kernel
theorem dL_chosen_22 : decode cL_chosen 22 = .ok (.iadd, 1) := by decide +kernel
theorem dL_chosen_23 : decode cL_chosen 23 = .ok (.putfield 42, 3) := by decide +kernel
theorem dL_chosen_26 : decode cL_chosen 26 = .ok (.iload_n 2, 1) := by decide +kernel
theorem dL_chosen_27 : decode cL_chosen 27 = .ok (.ireturn, 1) := by decide +kernel
theorem dL_from_0 : decode cL_from 0 = .ok (.iload_n 1, 1) := by decide +kernel
theorem dL_from_1 : decode cL_from 1 = .ok (.aload_n 0, 1) := by decide +kernel
theorem dL_from_2 : decode cL_from 2 = .ok (.iload_n 2, 1) := by decide +kernel
theorem dL_from_3 : decode cL_from 3 = .ok (.iload_n 1, 1) := by decide +kernel
theorem dL_from_4 : decode cL_from 4 = .ok (.isub, 1) := by decide +kernel
theorem dL_from_5 : decode cL_from 5 = .ok (.iconst 1, 1) := by decide +kernel
theorem dL_from_6 : decode cL_from 6 = .ok (.iadd, 1) := by decide +kernel
theorem dL_from_7 : decode cL_from 7 = .ok (.invokevirtual 54, 3) := by decide +kernel
theorem dL_from_10 : decode cL_from 10 = .ok (.iadd, 1) := by decide +kernel
theorem dL_from_11 : decode cL_from 11 = .ok (.ireturn, 1) := by decide +kernel
theorem dL_law_0 : decode cL_law 0 = .ok (.new 8, 3) := by decide +kernel
theorem dL_law_3 : decode cL_law 3 = .ok (.dup, 1) := by decide +kernel
theorem dL_law_4 : decode cL_law 4 = .ok (.invokespecial 57, 3) := by decide +kernel
theorem dL_law_7 : decode cL_law 7 = .ok (.astore_n 1, 1) := by decide +kernel
theorem dL_law_8 : decode cL_law 8 = .ok (.aload_n 1, 1) := by decide +kernel
theorem dL_law_9 : decode cL_law 9 = .ok (.aload_n 0, 1) := by decide +kernel
theorem dL_law_10 : decode cL_law 10 = .ok (.putfield 7, 3) := by decide +kernel
theorem dL_law_13 : decode cL_law 13 = .ok (.new 33, 3) := by decide +kernel
theorem dL_law_16 : decode cL_law 16 = .ok (.dup, 1) := by decide +kernel
theorem dL_law_17 : decode cL_law 17 = .ok (.invokespecial 58, 3) := by decide +kernel
theorem dL_law_20 : decode cL_law 20 = .ok (.astore_n 2, 1) := by decide +kernel
theorem dL_law_21 : decode cL_law 21 = .ok (.aload_n 1, 1) := by decide +kernel
theorem dL_law_22 : decode cL_law 22 = .ok (.invokevirtual 59, 3) := by decide +kernel
theorem dL_law_25 : decode cL_law 25 = .ok (.astore_n 3, 1) := by decide +kernel
theorem dL_law_26 : decode cL_law 26 = .ok (.aload_n 2, 1) := by decide +kernel
theorem dL_law_27 : decode cL_law 27 = .ok (.aload_n 3, 1) := by decide +kernel
theorem dL_law_28 : decode cL_law 28 = .ok (.invokestatic 63, 3) := by decide +kernel
theorem dL_law_31 : decode cL_law 31 = .ok (.aload_n 1, 1) := by decide +kernel
theorem dL_law_32 : decode cL_law 32 = .ok (.invokevirtual 66, 3) := by decide +kernel
theorem dL_law_35 : decode cL_law 35 = .ok (.if_icmp .ne 21, 3) := by decide +kernel
theorem dL_law_38 : decode cL_law 38 = .ok (.aload_n 2, 1) := by decide +kernel
theorem dL_law_39 : decode cL_law 39 = .ok (.invokevirtual 69, 3) := by decide +kernel
theorem dL_law_42 : decode cL_law 42 = .ok (.ifCond .ne 14, 3) := by decide +kernel
theorem dL_law_45 : decode cL_law 45 = .ok (.aload_n 2, 1) := by decide +kernel
theorem dL_law_46 : decode cL_law 46 = .ok (.invokevirtual 72, 3) := by decide +kernel
theorem dL_law_49 : decode cL_law 49 = .ok (.aload_n 1, 1) := by decide +kernel
theorem dL_law_50 : decode cL_law 50 = .ok (.getfield 75, 3) := by decide +kernel
theorem dL_law_53 : decode cL_law 53 = .ok (.if_icmp .eq 5, 3) := by decide +kernel
theorem dL_law_56 : decode cL_law 56 = .ok (.iconst 0, 1) := by decide +kernel
theorem dL_law_57 : decode cL_law 57 = .ok (.ireturn, 1) := by decide +kernel
theorem dL_law_58 : decode cL_law 58 = .ok (.aload_n 1, 1) := by decide +kernel
theorem dL_law_59 : decode cL_law 59 = .ok (.aload_n 2, 1) := by decide +kernel
theorem dL_law_60 : decode cL_law 60 = .ok (.invokevirtual 78, 3) := by decide +kernel
theorem dL_law_63 : decode cL_law 63 = .ok (.ifCond .eq 11, 3) := by decide +kernel
theorem dL_law_66 : decode cL_law 66 = .ok (.aload_n 1, 1) := by decide +kernel
theorem dL_law_67 : decode cL_law 67 = .ok (.aload_n 2, 1) := by decide +kernel
theorem dL_law_68 : decode cL_law 68 = .ok (.invokevirtual 82, 3) := by decide +kernel
theorem dL_law_71 : decode cL_law 71 = .ok (.ifCond .ne 5, 3) := by decide +kernel
theorem dL_law_74 : decode cL_law 74 = .ok (.iconst 0, 1) := by decide +kernel
theorem dL_law_75 : decode cL_law 75 = .ok (.ireturn, 1) := by decide +kernel
theorem dL_law_76 : decode cL_law 76 = .ok (.iconst 0, 1) := by decide +kernel
theorem dL_law_77 : decode cL_law 77 = .ok (.istore 4, 2) := by decide +kernel
theorem dL_law_79 : decode cL_law 79 = .ok (.iload 4, 2) := by decide +kernel
theorem dL_law_81 : decode cL_law 81 = .ok (.bipush 12, 2) := by decide +kernel
theorem dL_law_83 : decode cL_law 83 = .ok (.if_icmp .ge 19, 3) := by decide +kernel
theorem dL_law_86 : decode cL_law 86 = .ok (.aload_n 1, 1) := by decide +kernel
theorem dL_law_87 : decode cL_law 87 = .ok (.aload_n 2, 1) := by decide +kernel
theorem dL_law_88 : decode cL_law 88 = .ok (.invokevirtual 85, 3) := by decide +kernel
theorem dL_law_91 : decode cL_law 91 = .ok (.ifCond .ne 5, 3) := by decide +kernel
theorem dL_law_94 : decode cL_law 94 = .ok (.iconst 0, 1) := by decide +kernel
theorem dL_law_95 : decode cL_law 95 = .ok (.ireturn, 1) := by decide +kernel
theorem dL_law_96 : decode cL_law 96 = .ok (.iinc 4 1, 3) := by decide +kernel
theorem dL_law_99 : decode cL_law 99 = .ok (.goto (-20), 3) := by decide +kernel
theorem dL_law_102 : decode cL_law 102 = .ok (.aload_n 2, 1) := by decide +kernel
theorem dL_law_103 : decode cL_law 103 = .ok (.invokestatic 88, 3) := by decide +kernel
theorem dL_law_106 : decode cL_law 106 = .ok (.ifCond .eq 22, 3) := by decide +kernel
theorem dL_law_109 : decode cL_law 109 = .ok (.aload_n 2, 1) := by decide +kernel
theorem dL_law_110 : decode cL_law 110 = .ok (.invokestatic 91, 3) := by decide +kernel
theorem dL_law_113 : decode cL_law 113 = .ok (.ifCond .eq 15, 3) := by decide +kernel
theorem dL_law_116 : decode cL_law 116 = .ok (.aload_n 1, 1) := by decide +kernel
theorem dL_law_117 : decode cL_law 117 = .ok (.aload_n 2, 1) := by decide +kernel
theorem dL_law_118 : decode cL_law 118 = .ok (.invokevirtual 94, 3) := by decide +kernel
theorem dL_law_121 : decode cL_law 121 = .ok (.ifCond .eq 7, 3) := by decide +kernel
theorem dL_law_124 : decode cL_law 124 = .ok (.iconst 1, 1) := by decide +kernel
theorem dL_law_125 : decode cL_law 125 = .ok (.goto 4, 3) := by decide +kernel
theorem dL_law_128 : decode cL_law 128 = .ok (.iconst 0, 1) := by decide +kernel
theorem dL_law_129 : decode cL_law 129 = .ok (.ireturn, 1) := by decide +kernel
theorem dL_told_0 : decode cL_told 0 = .ok (.aload_n 0, 1) := by decide +kernel
theorem dL_told_1 : decode cL_told 1 = .ok (.aload_n 0, 1) := by decide +kernel
theorem dL_told_2 : decode cL_told 2 = .ok (.iconst 1, 1) := by decide +kernel
theorem dL_told_3 : decode cL_told 3 = .ok (.bipush 6, 2) := by decide +kernel
theorem dL_told_5 : decode cL_told 5 = .ok (.invokevirtual 97, 3) := by decide +kernel
theorem dL_told_8 : decode cL_told 8 = .ok (.putfield 75, 3) := by decide +kernel
theorem dL_told_11 : decode cL_told 11 = .ok (.aload_n 0, 1) := by decide +kernel
theorem dL_told_12 : decode cL_told 12 = .ok (.aload_n 0, 1) := by decide +kernel
theorem dL_told_13 : decode cL_told 13 = .ok (.iconst 3, 1) := by decide +kernel
theorem dL_told_14 : decode cL_told 14 = .ok (.invokevirtual 54, 3) := by decide +kernel
theorem dL_told_17 : decode cL_told 17 = .ok (.putfield 100, 3) := by decide +kernel
theorem dL_told_20 : decode cL_told 20 = .ok (.bipush 6, 2) := by decide +kernel
theorem dL_told_22 : decode cL_told 22 = .ok (.newarray .int, 2) := by decide +kernel
theorem dL_told_24 : decode cL_told 24 = .ok (.astore_n 1, 1) := by decide +kernel
theorem dL_told_25 : decode cL_told 25 = .ok (.ldc 103, 2) := by decide +kernel
theorem dL_told_27 : decode cL_told 27 = .ok (.astore_n 2, 1) := by decide +kernel
theorem dL_told_28 : decode cL_told 28 = .ok (.iconst 0, 1) := by decide +kernel
theorem dL_told_29 : decode cL_told 29 = .ok (.istore_n 3, 1) := by decide +kernel
theorem dL_told_30 : decode cL_told 30 = .ok (.iconst 0, 1) := by decide +kernel
theorem dL_told_31 : decode cL_told 31 = .ok (.istore 4, 2) := by decide +kernel
theorem dL_told_33 : decode cL_told 33 = .ok (.iload 4, 2) := by decide +kernel
theorem dL_told_35 : decode cL_told 35 = .ok (.aload_n 0, 1) := by decide +kernel
theorem dL_told_36 : decode cL_told 36 = .ok (.getfield 75, 3) := by decide +kernel
theorem dL_told_39 : decode cL_told 39 = .ok (.if_icmp .ge 78, 3) := by decide +kernel
theorem dL_told_42 : decode cL_told 42 = .ok (.aload_n 1, 1) := by decide +kernel
theorem dL_told_43 : decode cL_told 43 = .ok (.iload 4, 2) := by decide +kernel
theorem dL_told_45 : decode cL_told 45 = .ok (.aload_n 0, 1) := by decide +kernel
theorem dL_told_46 : decode cL_told 46 = .ok (.iconst 4, 1) := by decide +kernel
theorem dL_told_47 : decode cL_told 47 = .ok (.invokevirtual 54, 3) := by decide +kernel
theorem dL_told_50 : decode cL_told 50 = .ok (.iastore, 1) := by decide +kernel
theorem dL_told_51 : decode cL_told 51 = .ok (.iload_n 3, 1) := by decide +kernel
theorem dL_told_52 : decode cL_told 52 = .ok (.aload_n 1, 1) := by decide +kernel
theorem dL_told_53 : decode cL_told 53 = .ok (.iload 4, 2) := by decide +kernel
theorem dL_told_55 : decode cL_told 55 = .ok (.iaload, 1) := by decide +kernel
theorem dL_told_56 : decode cL_told 56 = .ok (.iadd, 1) := by decide +kernel
theorem dL_told_57 : decode cL_told 57 = .ok (.istore_n 3, 1) := by decide +kernel
theorem dL_told_58 : decode cL_told 58 = .ok (.iload 4, 2) := by decide +kernel
theorem dL_told_60 : decode cL_told 60 = .ok (.aload_n 0, 1) := by decide +kernel
theorem dL_told_61 : decode cL_told 61 = .ok (.getfield 75, 3) := by decide +kernel
theorem dL_told_64 : decode cL_told 64 = .ok (.iconst 1, 1) := by decide +kernel
theorem dL_told_65 : decode cL_told 65 = .ok (.isub, 1) := by decide +kernel
theorem dL_told_66 : decode cL_told 66 = .ok (.if_icmp .ne 18, 3) := by decide +kernel
theorem dL_told_69 : decode cL_told 69 = .ok (.iload_n 3, 1) := by decide +kernel
theorem dL_told_70 : decode cL_told 70 = .ok (.iconst 2, 1) := by decide +kernel
theorem dL_told_71 : decode cL_told 71 = .ok (.irem, 1) := by decide +kernel
theorem dL_told_72 : decode cL_told 72 = .ok (.iconst 1, 1) := by decide +kernel
theorem dL_told_73 : decode cL_told 73 = .ok (.if_icmp .ne 11, 3) := by decide +kernel
theorem dL_told_76 : decode cL_told 76 = .ok (.aload_n 1, 1) := by decide +kernel
theorem dL_told_77 : decode cL_told 77 = .ok (.iload 4, 2) := by decide +kernel
theorem dL_told_79 : decode cL_told 79 = .ok (.dup2, 1) := by decide +kernel
theorem dL_told_80 : decode cL_told 80 = .ok (.iaload, 1) := by decide +kernel
theorem dL_told_81 : decode cL_told 81 = .ok (.iconst 1, 1) := by decide +kernel
theorem dL_told_82 : decode cL_told 82 = .ok (.iadd, 1) := by decide +kernel
theorem dL_told_83 : decode cL_told 83 = .ok (.iastore, 1) := by decide +kernel
theorem dL_told_84 : decode cL_told 84 = .ok (.new 105, 3) := by decide +kernel
theorem dL_told_87 : decode cL_told 87 = .ok (.dup, 1) := by decide +kernel
theorem dL_told_88 : decode cL_told 88 = .ok (.invokespecial 107, 3) := by decide +kernel
theorem dL_told_91 : decode cL_told 91 = .ok (.aload_n 2, 1) := by decide +kernel
theorem dL_told_92 : decode cL_told 92 = .ok (.invokevirtual 108, 3) := by decide +kernel
theorem dL_told_95 : decode cL_told 95 = .ok (.ldc 112, 2) := by decide +kernel
theorem dL_told_97 : decode cL_told 97 = .ok (.invokevirtual 108, 3) := by decide +kernel
theorem dL_told_100 : decode cL_told 100 = .ok (.aload_n 1, 1) := by decide +kernel
theorem dL_told_101 : decode cL_told 101 = .ok (.iload 4, 2) := by decide +kernel
theorem dL_told_103 : decode cL_told 103 = .ok (.iaload, 1) := by decide +kernel
theorem dL_told_104 : decode cL_told 104 = .ok (.invokevirtual 114, 3) := by decide +kernel
theorem dL_told_107 : decode cL_told 107 = .ok (.invokevirtual 117, 3) := by decide +kernel
theorem dL_told_110 : decode cL_told 110 = .ok (.astore_n 2, 1) := by decide +kernel
theorem dL_told_111 : decode cL_told 111 = .ok (.iinc 4 1, 3) := by decide +kernel
theorem dL_told_114 : decode cL_told 114 = .ok (.goto (-81), 3) := by decide +kernel
theorem dL_told_117 : decode cL_told 117 = .ok (.iconst (-1), 1) := by decide +kernel
theorem dL_told_118 : decode cL_told 118 = .ok (.istore 4, 2) := by decide +kernel
theorem dL_told_120 : decode cL_told 120 = .ok (.iconst 0, 1) := by decide +kernel
theorem dL_told_121 : decode cL_told 121 = .ok (.istore 5, 2) := by decide +kernel
theorem dL_told_123 : decode cL_told 123 = .ok (.iload 5, 2) := by decide +kernel
theorem dL_told_125 : decode cL_told 125 = .ok (.aload_n 0, 1) := by decide +kernel
theorem dL_told_126 : decode cL_told 126 = .ok (.getfield 75, 3) := by decide +kernel
theorem dL_told_129 : decode cL_told 129 = .ok (.if_icmp .ge 69, 3) := by decide +kernel
theorem dL_told_132 : decode cL_told 132 = .ok (.aload_n 0, 1) := by decide +kernel
theorem dL_told_133 : decode cL_told 133 = .ok (.getfield 15, 3) := by decide +kernel
theorem dL_told_136 : decode cL_told 136 = .ok (.iload 5, 2) := by decide +kernel
theorem dL_told_138 : decode cL_told 138 = .ok (.aaload, 1) := by decide +kernel
theorem dL_told_139 : decode cL_told 139 = .ok (.iload 5, 2) := by decide +kernel
theorem dL_told_141 : decode cL_told 141 = .ok (.aload_n 1, 1) := by decide +kernel
theorem dL_told_142 : decode cL_told 142 = .ok (.iload 5, 2) := by decide +kernel
theorem dL_told_144 : decode cL_told 144 = .ok (.iaload, 1) := by decide +kernel
theorem dL_told_145 : decode cL_told 145 = .ok (.iconst 2, 1) := by decide +kernel
theorem dL_told_146 : decode cL_told 146 = .ok (.idiv, 1) := by decide +kernel
theorem dL_told_147 : decode cL_told 147 = .ok (.iastore, 1) := by decide +kernel
theorem dL_told_148 : decode cL_told 148 = .ok (.aload_n 1, 1) := by decide +kernel
theorem dL_told_149 : decode cL_told 149 = .ok (.iload 5, 2) := by decide +kernel
theorem dL_told_151 : decode cL_told 151 = .ok (.iaload, 1) := by decide +kernel
theorem dL_told_152 : decode cL_told 152 = .ok (.iconst 2, 1) := by decide +kernel
theorem dL_told_153 : decode cL_told 153 = .ok (.irem, 1) := by decide +kernel
theorem dL_told_154 : decode cL_told 154 = .ok (.ifCond .ne 6, 3) := by decide +kernel
theorem dL_told_157 : decode cL_told 157 = .ok (.goto 35, 3) := by decide +kernel
theorem dL_told_160 : decode cL_told 160 = .ok (.iload 4, 2) := by decide +kernel
theorem dL_told_162 : decode cL_told 162 = .ok (.ifCond .lt 17, 3) := by decide +kernel
theorem dL_told_165 : decode cL_told 165 = .ok (.aload_n 0, 1) := by decide +kernel
theorem dL_told_166 : decode cL_told 166 = .ok (.getfield 15, 3) := by decide +kernel
theorem dL_told_169 : decode cL_told 169 = .ok (.iload 4, 2) := by decide +kernel
theorem dL_told_171 : decode cL_told 171 = .ok (.aaload, 1) := by decide +kernel
theorem dL_told_172 : decode cL_told 172 = .ok (.iload 5, 2) := by decide +kernel
theorem dL_told_174 : decode cL_told 174 = .ok (.dup2, 1) := by decide +kernel
theorem dL_told_175 : decode cL_told 175 = .ok (.iaload, 1) := by decide +kernel
theorem dL_told_176 : decode cL_told 176 = .ok (.iconst 1, 1) := by decide +kernel
theorem dL_told_177 : decode cL_told 177 = .ok (.iadd, 1) := by decide +kernel
theorem dL_told_178 : decode cL_told 178 = .ok (.iastore, 1) := by decide +kernel
theorem dL_told_179 : decode cL_told 179 = .ok (.iload 4, 2) := by decide +kernel
theorem dL_told_181 : decode cL_told 181 = .ok (.ifCond .lt 7, 3) := by decide +kernel
theorem dL_told_184 : decode cL_told 184 = .ok (.iconst (-1), 1) := by decide +kernel
theorem dL_told_185 : decode cL_told 185 = .ok (.goto 5, 3) := by decide +kernel
theorem dL_told_188 : decode cL_told 188 = .ok (.iload 5, 2) := by decide +kernel
theorem dL_told_190 : decode cL_told 190 = .ok (.istore 4, 2) := by decide +kernel
theorem dL_told_192 : decode cL_told 192 = .ok (.iinc 5 1, 3) := by decide +kernel
theorem dL_told_195 : decode cL_told 195 = .ok (.goto (-72), 3) := by decide +kernel
theorem dL_told_198 : decode cL_told 198 = .ok (.new 105, 3) := by decide +kernel
theorem dL_told_201 : decode cL_told 201 = .ok (.dup, 1) := by decide +kernel
theorem dL_told_202 : decode cL_told 202 = .ok (.invokespecial 107, 3) := by decide +kernel
theorem dL_told_205 : decode cL_told 205 = .ok (.aload_n 2, 1) := by decide +kernel
theorem dL_told_206 : decode cL_told 206 = .ok (.invokevirtual 108, 3) := by decide +kernel
theorem dL_told_209 : decode cL_told 209 = .ok (.ldc 120, 2) := by decide +kernel
theorem dL_told_211 : decode cL_told 211 = .ok (.invokevirtual 108, 3) := by decide +kernel
theorem dL_told_214 : decode cL_told 214 = .ok (.aload_n 0, 1) := by decide +kernel
theorem dL_told_215 : decode cL_told 215 = .ok (.getfield 100, 3) := by decide +kernel
theorem dL_told_218 : decode cL_told 218 = .ok (.invokevirtual 114, 3) := by decide +kernel
theorem dL_told_221 : decode cL_told 221 = .ok (.ldc 122, 2) := by decide +kernel
theorem dL_told_223 : decode cL_told 223 = .ok (.invokevirtual 108, 3) := by decide +kernel
theorem dL_told_226 : decode cL_told 226 = .ok (.invokevirtual 117, 3) := by decide +kernel
theorem dL_told_229 : decode cL_told 229 = .ok (.astore_n 2, 1) := by decide +kernel
theorem dL_told_230 : decode cL_told 230 = .ok (.aload_n 0, 1) := by decide +kernel
theorem dL_told_231 : decode cL_told 231 = .ok (.iconst 4, 1) := by decide +kernel
theorem dL_told_232 : decode cL_told 232 = .ok (.invokevirtual 54, 3) := by decide +kernel
theorem dL_told_235 : decode cL_told 235 = .ok (.istore 5, 2) := by decide +kernel
theorem dL_told_237 : decode cL_told 237 = .ok (.iload 5, 2) := by decide +kernel
theorem dL_told_239 : decode cL_told 239 = .ok (.ifCond .le 93, 3) := by decide +kernel
theorem dL_told_242 : decode cL_told 242 = .ok (.aload_n 0, 1) := by decide +kernel
theorem dL_told_243 : decode cL_told 243 = .ok (.aload_n 0, 1) := by decide +kernel
theorem dL_told_244 : decode cL_told 244 = .ok (.getfield 75, 3) := by decide +kernel
theorem dL_told_247 : decode cL_told 247 = .ok (.invokevirtual 54, 3) := by decide +kernel
theorem dL_told_250 : decode cL_told 250 = .ok (.istore 6, 2) := by decide +kernel
theorem dL_told_252 : decode cL_told 252 = .ok (.aload_n 0, 1) := by decide +kernel
theorem dL_told_253 : decode cL_told 253 = .ok (.aload_n 0, 1) := by decide +kernel
theorem dL_told_254 : decode cL_told 254 = .ok (.getfield 75, 3) := by decide +kernel
theorem dL_told_257 : decode cL_told 257 = .ok (.invokevirtual 54, 3) := by decide +kernel
theorem dL_told_260 : decode cL_told 260 = .ok (.istore 7, 2) := by decide +kernel
theorem dL_told_262 : decode cL_told 262 = .ok (.new 105, 3) := by decide +kernel
theorem dL_told_265 : decode cL_told 265 = .ok (.dup, 1) := by decide +kernel
theorem dL_told_266 : decode cL_told 266 = .ok (.invokespecial 107, 3) := by decide +kernel
theorem dL_told_269 : decode cL_told 269 = .ok (.aload_n 2, 1) := by decide +kernel
theorem dL_told_270 : decode cL_told 270 = .ok (.invokevirtual 108, 3) := by decide +kernel
theorem dL_told_273 : decode cL_told 273 = .ok (.ldc 124, 2) := by decide +kernel
theorem dL_told_275 : decode cL_told 275 = .ok (.invokevirtual 108, 3) := by decide +kernel
theorem dL_told_278 : decode cL_told 278 = .ok (.iload 6, 2) := by decide +kernel
theorem dL_told_280 : decode cL_told 280 = .ok (.invokevirtual 114, 3) := by decide +kernel
theorem dL_told_283 : decode cL_told 283 = .ok (.ldc 112, 2) := by decide +kernel
theorem dL_told_285 : decode cL_told 285 = .ok (.invokevirtual 108, 3) := by decide +kernel
theorem dL_told_288 : decode cL_told 288 = .ok (.iload 7, 2) := by decide +kernel
theorem dL_told_290 : decode cL_told 290 = .ok (.invokevirtual 114, 3) := by decide +kernel
theorem dL_told_293 : decode cL_told 293 = .ok (.ldc 122, 2) := by decide +kernel
theorem dL_told_295 : decode cL_told 295 = .ok (.invokevirtual 108, 3) := by decide +kernel
theorem dL_told_298 : decode cL_told 298 = .ok (.invokevirtual 117, 3) := by decide +kernel
theorem dL_told_301 : decode cL_told 301 = .ok (.astore_n 2, 1) := by decide +kernel
theorem dL_told_302 : decode cL_told 302 = .ok (.aload_n 0, 1) := by decide +kernel
theorem dL_told_303 : decode cL_told 303 = .ok (.getfield 15, 3) := by decide +kernel
theorem dL_told_306 : decode cL_told 306 = .ok (.iload 6, 2) := by decide +kernel
theorem dL_told_308 : decode cL_told 308 = .ok (.iload 7, 2) := by decide +kernel
theorem dL_told_310 : decode cL_told 310 = .ok (.invokestatic 126, 3) := by decide +kernel
theorem dL_told_313 : decode cL_told 313 = .ok (.aaload, 1) := by decide +kernel
theorem dL_told_314 : decode cL_told 314 = .ok (.iload 6, 2) := by decide +kernel
theorem dL_told_316 : decode cL_told 316 = .ok (.iload 7, 2) := by decide +kernel
theorem dL_told_318 : decode cL_told 318 = .ok (.invokestatic 131, 3) := by decide +kernel
theorem dL_told_321 : decode cL_told 321 = .ok (.dup2, 1) := by decide +kernel
theorem dL_told_322 : decode cL_told 322 = .ok (.iaload, 1) := by decide +kernel
theorem dL_told_323 : decode cL_told 323 = .ok (.iconst 1, 1) := by decide +kernel
theorem dL_told_324 : decode cL_told 324 = .ok (.iadd, 1) := by decide +kernel
theorem dL_told_325 : decode cL_told 325 = .ok (.iastore, 1) := by decide +kernel
theorem dL_told_326 : decode cL_told 326 = .ok (.iinc 5 (-1), 3) := by decide +kernel
theorem dL_told_329 : decode cL_told 329 = .ok (.goto (-92), 3) := by decide +kernel
theorem dL_told_332 : decode cL_told 332 = .ok (.aload_n 2, 1) := by decide +kernel
theorem dL_told_333 : decode cL_told 333 = .ok (.areturn, 1) := by decide +kernel
theorem dL_edges_0 : decode cL_edges 0 = .ok (.iconst 0, 1) := by decide +kernel
theorem dL_edges_1 : decode cL_edges 1 = .ok (.istore_n 1, 1) := by decide +kernel
theorem dL_edges_2 : decode cL_edges 2 = .ok (.iconst 0, 1) := by decide +kernel
theorem dL_edges_3 : decode cL_edges 3 = .ok (.istore_n 2, 1) := by decide +kernel
theorem dL_edges_4 : decode cL_edges 4 = .ok (.iload_n 2, 1) := by decide +kernel
theorem dL_edges_5 : decode cL_edges 5 = .ok (.aload_n 0, 1) := by decide +kernel
theorem dL_edges_6 : decode cL_edges 6 = .ok (.getfield 75, 3) := by decide +kernel
theorem dL_edges_9 : decode cL_edges 9 = .ok (.if_icmp .ge 36, 3) := by decide +kernel
theorem dL_edges_12 : decode cL_edges 12 = .ok (.iload_n 2, 1) := by decide +kernel
theorem dL_edges_13 : decode cL_edges 13 = .ok (.istore_n 3, 1) := by decide +kernel
theorem dL_edges_14 : decode cL_edges 14 = .ok (.iload_n 3, 1) := by decide +kernel
theorem dL_edges_15 : decode cL_edges 15 = .ok (.aload_n 0, 1) := by decide +kernel
theorem dL_edges_16 : decode cL_edges 16 = .ok (.getfield 75, 3) := by decide +kernel
theorem dL_edges_19 : decode cL_edges 19 = .ok (.if_icmp .ge 20, 3) := by decide +kernel
theorem dL_edges_22 : decode cL_edges 22 = .ok (.iload_n 1, 1) := by decide +kernel
theorem dL_edges_23 : decode cL_edges 23 = .ok (.aload_n 0, 1) := by decide +kernel
theorem dL_edges_24 : decode cL_edges 24 = .ok (.getfield 15, 3) := by decide +kernel
theorem dL_edges_27 : decode cL_edges 27 = .ok (.iload_n 2, 1) := by decide +kernel
theorem dL_edges_28 : decode cL_edges 28 = .ok (.aaload, 1) := by decide +kernel
theorem dL_edges_29 : decode cL_edges 29 = .ok (.iload_n 3, 1) := by decide +kernel
theorem dL_edges_30 : decode cL_edges 30 = .ok (.iaload, 1) := by decide +kernel
theorem dL_edges_31 : decode cL_edges 31 = .ok (.iadd, 1) := by decide +kernel
theorem dL_edges_32 : decode cL_edges 32 = .ok (.istore_n 1, 1) := by decide +kernel
theorem dL_edges_33 : decode cL_edges 33 = .ok (.iinc 3 1, 3) := by decide +kernel
theorem dL_edges_36 : decode cL_edges 36 = .ok (.goto (-22), 3) := by decide +kernel
theorem dL_edges_39 : decode cL_edges 39 = .ok (.iinc 2 1, 3) := by decide +kernel
theorem dL_edges_42 : decode cL_edges 42 = .ok (.goto (-38), 3) := by decide +kernel
theorem dL_edges_45 : decode cL_edges 45 = .ok (.iload_n 1, 1) := by decide +kernel
theorem dL_edges_46 : decode cL_edges 46 = .ok (.ireturn, 1) := by decide +kernel
theorem dL_many_0 : decode cL_many 0 = .ok (.aload_n 0, 1) := by decide +kernel
theorem dL_many_1 : decode cL_many 1 = .ok (.getfield 15, 3) := by decide +kernel
theorem dL_many_4 : decode cL_many 4 = .ok (.iload_n 1, 1) := by decide +kernel
theorem dL_many_5 : decode cL_many 5 = .ok (.iload_n 2, 1) := by decide +kernel
theorem dL_many_6 : decode cL_many 6 = .ok (.invokestatic 126, 3) := by decide +kernel
theorem dL_many_9 : decode cL_many 9 = .ok (.aaload, 1) := by decide +kernel
theorem dL_many_10 : decode cL_many 10 = .ok (.iload_n 1, 1) := by decide +kernel
theorem dL_many_11 : decode cL_many 11 = .ok (.iload_n 2, 1) := by decide +kernel
theorem dL_many_12 : decode cL_many 12 = .ok (.invokestatic 131, 3) := by decide +kernel
theorem dL_many_15 : decode cL_many 15 = .ok (.iaload, 1) := by decide +kernel
theorem dL_many_16 : decode cL_many 16 = .ok (.ireturn, 1) := by decide +kernel
theorem dL_degree_0 : decode cL_degree 0 = .ok (.aload_n 0, 1) := by decide +kernel
theorem dL_degree_1 : decode cL_degree 1 = .ok (.getfield 15, 3) := by decide +kernel
theorem dL_degree_4 : decode cL_degree 4 = .ok (.iload_n 1, 1) := by decide +kernel
theorem dL_degree_5 : decode cL_degree 5 = .ok (.aaload, 1) := by decide +kernel
theorem dL_degree_6 : decode cL_degree 6 = .ok (.iload_n 1, 1) := by decide +kernel
theorem dL_degree_7 : decode cL_degree 7 = .ok (.iaload, 1) := by decide +kernel
theorem dL_degree_8 : decode cL_degree 8 = .ok (.istore_n 2, 1) := by decide +kernel
theorem dL_degree_9 : decode cL_degree 9 = .ok (.iconst 0, 1) := by decide +kernel
theorem dL_degree_10 : decode cL_degree 10 = .ok (.istore_n 3, 1) := by decide +kernel
theorem dL_degree_11 : decode cL_degree 11 = .ok (.iload_n 3, 1) := by decide +kernel
theorem dL_degree_12 : decode cL_degree 12 = .ok (.aload_n 0, 1) := by decide +kernel
theorem dL_degree_13 : decode cL_degree 13 = .ok (.getfield 75, 3) := by decide +kernel
theorem dL_degree_16 : decode cL_degree 16 = .ok (.if_icmp .ge 18, 3) := by decide +kernel
theorem dL_degree_19 : decode cL_degree 19 = .ok (.iload_n 2, 1) := by decide +kernel
theorem dL_degree_20 : decode cL_degree 20 = .ok (.aload_n 0, 1) := by decide +kernel
theorem dL_degree_21 : decode cL_degree 21 = .ok (.iload_n 1, 1) := by decide +kernel
theorem dL_degree_22 : decode cL_degree 22 = .ok (.iload_n 3, 1) := by decide +kernel
theorem dL_degree_23 : decode cL_degree 23 = .ok (.invokevirtual 134, 3) := by decide +kernel
theorem dL_degree_26 : decode cL_degree 26 = .ok (.iadd, 1) := by decide +kernel
theorem dL_degree_27 : decode cL_degree 27 = .ok (.istore_n 2, 1) := by decide +kernel
theorem dL_degree_28 : decode cL_degree 28 = .ok (.iinc 3 1, 3) := by decide +kernel
theorem dL_degree_31 : decode cL_degree 31 = .ok (.goto (-20), 3) := by decide +kernel
theorem dL_degree_34 : decode cL_degree 34 = .ok (.iload_n 2, 1) := by decide +kernel
theorem dL_degree_35 : decode cL_degree 35 = .ok (.ireturn, 1) := by decide +kernel
theorem dL_isGraph_0 : decode cL_isGraph 0 = .ok (.iconst 0, 1) := by decide +kernel
theorem dL_isGraph_1 : decode cL_isGraph 1 = .ok (.istore_n 2, 1) := by decide +kernel
theorem dL_isGraph_2 : decode cL_isGraph 2 = .ok (.iconst 0, 1) := by decide +kernel
theorem dL_isGraph_3 : decode cL_isGraph 3 = .ok (.istore_n 3, 1) := by decide +kernel
theorem dL_isGraph_4 : decode cL_isGraph 4 = .ok (.iconst 0, 1) := by decide +kernel
theorem dL_isGraph_5 : decode cL_isGraph 5 = .ok (.istore 4, 2) := by decide +kernel
theorem dL_isGraph_7 : decode cL_isGraph 7 = .ok (.iconst 0, 1) := by decide +kernel
theorem dL_isGraph_8 : decode cL_isGraph 8 = .ok (.istore 5, 2) := by decide +kernel
theorem dL_isGraph_10 : decode cL_isGraph 10 = .ok (.iload 5, 2) := by decide +kernel
theorem dL_isGraph_12 : decode cL_isGraph 12 = .ok (.aload_n 0, 1) := by decide +kernel
theorem dL_isGraph_13 : decode cL_isGraph 13 = .ok (.getfield 75, 3) := by decide +kernel
theorem dL_isGraph_16 : decode cL_isGraph 16 = .ok (.if_icmp .ge 191, 3) := by decide +kernel
theorem dL_isGraph_19 : decode cL_isGraph 19 = .ok (.iload_n 2, 1) := by decide +kernel
theorem dL_isGraph_20 : decode cL_isGraph 20 = .ok (.aload_n 0, 1) := by decide +kernel
theorem dL_isGraph_21 : decode cL_isGraph 21 = .ok (.getfield 15, 3) := by decide +kernel
theorem dL_isGraph_24 : decode cL_isGraph 24 = .ok (.iload 5, 2) := by decide +kernel
theorem dL_isGraph_26 : decode cL_isGraph 26 = .ok (.aaload, 1) := by decide +kernel
theorem dL_isGraph_27 : decode cL_isGraph 27 = .ok (.iload 5, 2) := by decide +kernel
theorem dL_isGraph_29 : decode cL_isGraph 29 = .ok (.iaload, 1) := by decide +kernel
theorem dL_isGraph_30 : decode cL_isGraph 30 = .ok (.iadd, 1) := by decide +kernel
theorem dL_isGraph_31 : decode cL_isGraph 31 = .ok (.istore_n 2, 1) := by decide +kernel
theorem dL_isGraph_32 : decode cL_isGraph 32 = .ok (.aload_n 1, 1) := by decide +kernel
theorem dL_isGraph_33 : decode cL_isGraph 33 = .ok (.iload 5, 2) := by decide +kernel
theorem dL_isGraph_35 : decode cL_isGraph 35 = .ok (.iconst 0, 1) := by decide +kernel
theorem dL_isGraph_36 : decode cL_isGraph 36 = .ok (.invokevirtual 137, 3) := by decide +kernel
theorem dL_isGraph_39 : decode cL_isGraph 39 = .ok (.aload_n 0, 1) := by decide +kernel
theorem dL_isGraph_40 : decode cL_isGraph 40 = .ok (.iload 5, 2) := by decide +kernel
theorem dL_isGraph_42 : decode cL_isGraph 42 = .ok (.invokevirtual 141, 3) := by decide +kernel
theorem dL_isGraph_45 : decode cL_isGraph 45 = .ok (.if_icmp .eq 5, 3) := by decide +kernel
theorem dL_isGraph_48 : decode cL_isGraph 48 = .ok (.iconst 0, 1) := by decide +kernel
theorem dL_isGraph_49 : decode cL_isGraph 49 = .ok (.ireturn, 1) := by decide +kernel
theorem dL_isGraph_50 : decode cL_isGraph 50 = .ok (.iconst 0, 1) := by decide +kernel
theorem dL_isGraph_51 : decode cL_isGraph 51 = .ok (.istore 6, 2) := by decide +kernel
theorem dL_isGraph_53 : decode cL_isGraph 53 = .ok (.iload 6, 2) := by decide +kernel
theorem dL_isGraph_55 : decode cL_isGraph 55 = .ok (.aload_n 0, 1) := by decide +kernel
theorem dL_isGraph_56 : decode cL_isGraph 56 = .ok (.getfield 75, 3) := by decide +kernel
theorem dL_isGraph_59 : decode cL_isGraph 59 = .ok (.if_icmp .ge 142, 3) := by decide +kernel
theorem dL_isGraph_62 : decode cL_isGraph 62 = .ok (.aload_n 1, 1) := by decide +kernel
theorem dL_isGraph_63 : decode cL_isGraph 63 = .ok (.iload 5, 2) := by decide +kernel
theorem dL_isGraph_65 : decode cL_isGraph 65 = .ok (.iload 6, 2) := by decide +kernel
theorem dL_isGraph_67 : decode cL_isGraph 67 = .ok (.iconst 0, 1) := by decide +kernel
theorem dL_isGraph_68 : decode cL_isGraph 68 = .ok (.invokevirtual 143, 3) := by decide +kernel
theorem dL_isGraph_71 : decode cL_isGraph 71 = .ok (.aload_n 0, 1) := by decide +kernel
theorem dL_isGraph_72 : decode cL_isGraph 72 = .ok (.iload 5, 2) := by decide +kernel
theorem dL_isGraph_74 : decode cL_isGraph 74 = .ok (.iload 6, 2) := by decide +kernel
theorem dL_isGraph_76 : decode cL_isGraph 76 = .ok (.invokevirtual 134, 3) := by decide +kernel
theorem dL_isGraph_79 : decode cL_isGraph 79 = .ok (.if_icmp .ne 15, 3) := by decide +kernel
theorem dL_isGraph_82 : decode cL_isGraph 82 = .ok (.aload_n 1, 1) := by decide +kernel
theorem dL_isGraph_83 : decode cL_isGraph 83 = .ok (.iload 5, 2) := by decide +kernel
theorem dL_isGraph_85 : decode cL_isGraph 85 = .ok (.iload 6, 2) := by decide +kernel
theorem dL_isGraph_87 : decode cL_isGraph 87 = .ok (.iconst 1, 1) := by decide +kernel
theorem dL_isGraph_88 : decode cL_isGraph 88 = .ok (.invokevirtual 143, 3) := by decide +kernel
theorem dL_isGraph_91 : decode cL_isGraph 91 = .ok (.ifCond .eq 5, 3) := by decide +kernel
theorem dL_isGraph_94 : decode cL_isGraph 94 = .ok (.iconst 0, 1) := by decide +kernel
theorem dL_isGraph_95 : decode cL_isGraph 95 = .ok (.ireturn, 1) := by decide +kernel
theorem dL_isGraph_96 : decode cL_isGraph 96 = .ok (.iload_n 3, 1) := by decide +kernel
theorem dL_isGraph_97 : decode cL_isGraph 97 = .ok (.iload 6, 2) := by decide +kernel
theorem dL_isGraph_99 : decode cL_isGraph 99 = .ok (.iload 5, 2) := by decide +kernel
theorem dL_isGraph_101 : decode cL_isGraph 101 = .ok (.if_icmp .le 20, 3) := by decide +kernel
theorem dL_isGraph_104 : decode cL_isGraph 104 = .ok (.iconst 0, 1) := by decide +kernel
theorem dL_isGraph_105 : decode cL_isGraph 105 = .ok (.aload_n 0, 1) := by decide +kernel
theorem dL_isGraph_106 : decode cL_isGraph 106 = .ok (.iload 5, 2) := by decide +kernel
theorem dL_isGraph_108 : decode cL_isGraph 108 = .ok (.iload 6, 2) := by decide +kernel
theorem dL_isGraph_110 : decode cL_isGraph 110 = .ok (.invokevirtual 134, 3) := by decide +kernel
theorem dL_isGraph_113 : decode cL_isGraph 113 = .ok (.iconst 1, 1) := by decide +kernel
theorem dL_isGraph_114 : decode cL_isGraph 114 = .ok (.isub, 1) := by decide +kernel
theorem dL_isGraph_115 : decode cL_isGraph 115 = .ok (.invokestatic 131, 3) := by decide +kernel
theorem dL_isGraph_118 : decode cL_isGraph 118 = .ok (.goto 4, 3) := by decide +kernel
theorem dL_isGraph_121 : decode cL_isGraph 121 = .ok (.iconst 0, 1) := by decide +kernel
theorem dL_isGraph_122 : decode cL_isGraph 122 = .ok (.iadd, 1) := by decide +kernel
theorem dL_isGraph_123 : decode cL_isGraph 123 = .ok (.istore_n 3, 1) := by decide +kernel
theorem dL_isGraph_124 : decode cL_isGraph 124 = .ok (.iload 6, 2) := by decide +kernel
theorem dL_isGraph_126 : decode cL_isGraph 126 = .ok (.iconst 1, 1) := by decide +kernel
theorem dL_isGraph_127 : decode cL_isGraph 127 = .ok (.iadd, 1) := by decide +kernel
theorem dL_isGraph_128 : decode cL_isGraph 128 = .ok (.istore 7, 2) := by decide +kernel
theorem dL_isGraph_130 : decode cL_isGraph 130 = .ok (.iload 7, 2) := by decide +kernel
theorem dL_isGraph_132 : decode cL_isGraph 132 = .ok (.aload_n 0, 1) := by decide +kernel
theorem dL_isGraph_133 : decode cL_isGraph 133 = .ok (.getfield 75, 3) := by decide +kernel
theorem dL_isGraph_136 : decode cL_isGraph 136 = .ok (.if_icmp .ge 59, 3) := by decide +kernel
theorem dL_isGraph_139 : decode cL_isGraph 139 = .ok (.iload 6, 2) := by decide +kernel
theorem dL_isGraph_141 : decode cL_isGraph 141 = .ok (.iload 5, 2) := by decide +kernel
theorem dL_isGraph_143 : decode cL_isGraph 143 = .ok (.if_icmp .le 52, 3) := by decide +kernel
theorem dL_isGraph_146 : decode cL_isGraph 146 = .ok (.iload 4, 2) := by decide +kernel
theorem dL_isGraph_148 : decode cL_isGraph 148 = .ok (.aload_n 0, 1) := by decide +kernel
theorem dL_isGraph_149 : decode cL_isGraph 149 = .ok (.iload 5, 2) := by decide +kernel
theorem dL_isGraph_151 : decode cL_isGraph 151 = .ok (.iload 6, 2) := by decide +kernel
theorem dL_isGraph_153 : decode cL_isGraph 153 = .ok (.invokevirtual 134, 3) := by decide +kernel
theorem dL_isGraph_156 : decode cL_isGraph 156 = .ok (.ifCond .le 29, 3) := by decide +kernel
theorem dL_isGraph_159 : decode cL_isGraph 159 = .ok (.aload_n 0, 1) := by decide +kernel
theorem dL_isGraph_160 : decode cL_isGraph 160 = .ok (.iload 6, 2) := by decide +kernel
theorem dL_isGraph_162 : decode cL_isGraph 162 = .ok (.iload 7, 2) := by decide +kernel
theorem dL_isGraph_164 : decode cL_isGraph 164 = .ok (.invokevirtual 134, 3) := by decide +kernel
theorem dL_isGraph_167 : decode cL_isGraph 167 = .ok (.ifCond .le 18, 3) := by decide +kernel
theorem dL_isGraph_170 : decode cL_isGraph 170 = .ok (.aload_n 0, 1) := by decide +kernel
theorem dL_isGraph_171 : decode cL_isGraph 171 = .ok (.iload 5, 2) := by decide +kernel
theorem dL_isGraph_173 : decode cL_isGraph 173 = .ok (.iload 7, 2) := by decide +kernel
theorem dL_isGraph_175 : decode cL_isGraph 175 = .ok (.invokevirtual 134, 3) := by decide +kernel
theorem dL_isGraph_178 : decode cL_isGraph 178 = .ok (.ifCond .le 7, 3) := by decide +kernel
theorem dL_isGraph_181 : decode cL_isGraph 181 = .ok (.iconst 1, 1) := by decide +kernel
theorem dL_isGraph_182 : decode cL_isGraph 182 = .ok (.goto 4, 3) := by decide +kernel
theorem dL_isGraph_185 : decode cL_isGraph 185 = .ok (.iconst 0, 1) := by decide +kernel
theorem dL_isGraph_186 : decode cL_isGraph 186 = .ok (.iadd, 1) := by decide +kernel
theorem dL_isGraph_187 : decode cL_isGraph 187 = .ok (.istore 4, 2) := by decide +kernel
theorem dL_isGraph_189 : decode cL_isGraph 189 = .ok (.iinc 7 1, 3) := by decide +kernel
theorem dL_isGraph_192 : decode cL_isGraph 192 = .ok (.goto (-62), 3) := by decide +kernel
theorem dL_isGraph_195 : decode cL_isGraph 195 = .ok (.iinc 6 1, 3) := by decide +kernel
theorem dL_isGraph_198 : decode cL_isGraph 198 = .ok (.goto (-145), 3) := by decide +kernel
theorem dL_isGraph_201 : decode cL_isGraph 201 = .ok (.iinc 5 1, 3) := by decide +kernel
theorem dL_isGraph_204 : decode cL_isGraph 204 = .ok (.goto (-194), 3) := by decide +kernel
theorem dL_isGraph_207 : decode cL_isGraph 207 = .ok (.bipush 6, 2) := by decide +kernel
theorem dL_isGraph_209 : decode cL_isGraph 209 = .ok (.newarray .int, 2) := by decide +kernel
theorem dL_isGraph_211 : decode cL_isGraph 211 = .ok (.astore 5, 2) := by decide +kernel
theorem dL_isGraph_213 : decode cL_isGraph 213 = .ok (.iconst 0, 1) := by decide +kernel
theorem dL_isGraph_214 : decode cL_isGraph 214 = .ok (.istore 6, 2) := by decide +kernel
theorem dL_isGraph_216 : decode cL_isGraph 216 = .ok (.iload 6, 2) := by decide +kernel
theorem dL_isGraph_218 : decode cL_isGraph 218 = .ok (.aload_n 0, 1) := by decide +kernel
theorem dL_isGraph_219 : decode cL_isGraph 219 = .ok (.getfield 75, 3) := by decide +kernel
theorem dL_isGraph_222 : decode cL_isGraph 222 = .ok (.if_icmp .ge 16, 3) := by decide +kernel
theorem dL_isGraph_225 : decode cL_isGraph 225 = .ok (.aload 5, 2) := by decide +kernel
theorem dL_isGraph_227 : decode cL_isGraph 227 = .ok (.iload 6, 2) := by decide +kernel
theorem dL_isGraph_229 : decode cL_isGraph 229 = .ok (.iload 6, 2) := by decide +kernel
theorem dL_isGraph_231 : decode cL_isGraph 231 = .ok (.iastore, 1) := by decide +kernel
theorem dL_isGraph_232 : decode cL_isGraph 232 = .ok (.iinc 6 1, 3) := by decide +kernel
theorem dL_isGraph_235 : decode cL_isGraph 235 = .ok (.goto (-19), 3) := by decide +kernel
theorem dL_isGraph_238 : decode cL_isGraph 238 = .ok (.iconst 0, 1) := by decide +kernel
theorem dL_isGraph_239 : decode cL_isGraph 239 = .ok (.istore 6, 2) := by decide +kernel
theorem dL_isGraph_241 : decode cL_isGraph 241 = .ok (.iload 6, 2) := by decide +kernel
theorem dL_isGraph_243 : decode cL_isGraph 243 = .ok (.aload_n 0, 1) := by decide +kernel
theorem dL_isGraph_244 : decode cL_isGraph 244 = .ok (.getfield 75, 3) := by decide +kernel
theorem dL_isGraph_247 : decode cL_isGraph 247 = .ok (.if_icmp .ge 74, 3) := by decide +kernel
theorem dL_isGraph_250 : decode cL_isGraph 250 = .ok (.iconst 0, 1) := by decide +kernel
theorem dL_isGraph_251 : decode cL_isGraph 251 = .ok (.istore 7, 2) := by decide +kernel
theorem dL_isGraph_253 : decode cL_isGraph 253 = .ok (.iload 7, 2) := by decide +kernel
theorem dL_isGraph_255 : decode cL_isGraph 255 = .ok (.aload_n 0, 1) := by decide +kernel
theorem dL_isGraph_256 : decode cL_isGraph 256 = .ok (.getfield 75, 3) := by decide +kernel
theorem dL_isGraph_259 : decode cL_isGraph 259 = .ok (.if_icmp .ge 56, 3) := by decide +kernel
theorem dL_isGraph_262 : decode cL_isGraph 262 = .ok (.iconst 0, 1) := by decide +kernel
theorem dL_isGraph_263 : decode cL_isGraph 263 = .ok (.istore 8, 2) := by decide +kernel
theorem dL_isGraph_265 : decode cL_isGraph 265 = .ok (.iload 8, 2) := by decide +kernel
theorem dL_isGraph_267 : decode cL_isGraph 267 = .ok (.aload_n 0, 1) := by decide +kernel
theorem dL_isGraph_268 : decode cL_isGraph 268 = .ok (.getfield 75, 3) := by decide +kernel
theorem dL_isGraph_271 : decode cL_isGraph 271 = .ok (.if_icmp .ge 38, 3) := by decide +kernel
theorem dL_isGraph_274 : decode cL_isGraph 274 = .ok (.aload_n 0, 1) := by decide +kernel
theorem dL_isGraph_275 : decode cL_isGraph 275 = .ok (.iload 7, 2) := by decide +kernel
theorem dL_isGraph_277 : decode cL_isGraph 277 = .ok (.iload 8, 2) := by decide +kernel
theorem dL_isGraph_279 : decode cL_isGraph 279 = .ok (.invokevirtual 134, 3) := by decide +kernel
theorem dL_isGraph_282 : decode cL_isGraph 282 = .ok (.ifCond .le 21, 3) := by decide +kernel
theorem dL_isGraph_285 : decode cL_isGraph 285 = .ok (.aload 5, 2) := by decide +kernel
theorem dL_isGraph_287 : decode cL_isGraph 287 = .ok (.iload 7, 2) := by decide +kernel
theorem dL_isGraph_289 : decode cL_isGraph 289 = .ok (.aload 5, 2) := by decide +kernel
theorem dL_isGraph_291 : decode cL_isGraph 291 = .ok (.iload 7, 2) := by decide +kernel
theorem dL_isGraph_293 : decode cL_isGraph 293 = .ok (.iaload, 1) := by decide +kernel
theorem dL_isGraph_294 : decode cL_isGraph 294 = .ok (.aload 5, 2) := by decide +kernel
theorem dL_isGraph_296 : decode cL_isGraph 296 = .ok (.iload 8, 2) := by decide +kernel
theorem dL_isGraph_298 : decode cL_isGraph 298 = .ok (.iaload, 1) := by decide +kernel
theorem dL_isGraph_299 : decode cL_isGraph 299 = .ok (.invokestatic 126, 3) := by decide +kernel
theorem dL_isGraph_302 : decode cL_isGraph 302 = .ok (.iastore, 1) := by decide +kernel
theorem dL_isGraph_303 : decode cL_isGraph 303 = .ok (.iinc 8 1, 3) := by decide +kernel
theorem dL_isGraph_306 : decode cL_isGraph 306 = .ok (.goto (-41), 3) := by decide +kernel
theorem dL_isGraph_309 : decode cL_isGraph 309 = .ok (.iinc 7 1, 3) := by decide +kernel
theorem dL_isGraph_312 : decode cL_isGraph 312 = .ok (.goto (-59), 3) := by decide +kernel
theorem dL_isGraph_315 : decode cL_isGraph 315 = .ok (.iinc 6 1, 3) := by decide +kernel
theorem dL_isGraph_318 : decode cL_isGraph 318 = .ok (.goto (-77), 3) := by decide +kernel
theorem dL_isGraph_321 : decode cL_isGraph 321 = .ok (.iconst 0, 1) := by decide +kernel
theorem dL_isGraph_322 : decode cL_isGraph 322 = .ok (.istore 6, 2) := by decide +kernel
theorem dL_isGraph_324 : decode cL_isGraph 324 = .ok (.iconst 0, 1) := by decide +kernel
theorem dL_isGraph_325 : decode cL_isGraph 325 = .ok (.istore 7, 2) := by decide +kernel
theorem dL_isGraph_327 : decode cL_isGraph 327 = .ok (.iload 7, 2) := by decide +kernel
theorem dL_isGraph_329 : decode cL_isGraph 329 = .ok (.aload_n 0, 1) := by decide +kernel
theorem dL_isGraph_330 : decode cL_isGraph 330 = .ok (.getfield 75, 3) := by decide +kernel
theorem dL_isGraph_333 : decode cL_isGraph 333 = .ok (.if_icmp .ge 29, 3) := by decide +kernel
theorem dL_isGraph_336 : decode cL_isGraph 336 = .ok (.iload 6, 2) := by decide +kernel
theorem dL_isGraph_338 : decode cL_isGraph 338 = .ok (.aload 5, 2) := by decide +kernel
theorem dL_isGraph_340 : decode cL_isGraph 340 = .ok (.iload 7, 2) := by decide +kernel
theorem dL_isGraph_342 : decode cL_isGraph 342 = .ok (.iaload, 1) := by decide +kernel
theorem dL_isGraph_343 : decode cL_isGraph 343 = .ok (.iload 7, 2) := by decide +kernel
theorem dL_isGraph_345 : decode cL_isGraph 345 = .ok (.if_icmp .ne 7, 3) := by decide +kernel
theorem dL_isGraph_348 : decode cL_isGraph 348 = .ok (.iconst 1, 1) := by decide +kernel
theorem dL_isGraph_349 : decode cL_isGraph 349 = .ok (.goto 4, 3) := by decide +kernel
theorem dL_isGraph_352 : decode cL_isGraph 352 = .ok (.iconst 0, 1) := by decide +kernel
theorem dL_isGraph_353 : decode cL_isGraph 353 = .ok (.iadd, 1) := by decide +kernel
theorem dL_isGraph_354 : decode cL_isGraph 354 = .ok (.istore 6, 2) := by decide +kernel
theorem dL_isGraph_356 : decode cL_isGraph 356 = .ok (.iinc 7 1, 3) := by decide +kernel
theorem dL_isGraph_359 : decode cL_isGraph 359 = .ok (.goto (-32), 3) := by decide +kernel
theorem dL_isGraph_362 : decode cL_isGraph 362 = .ok (.aload_n 1, 1) := by decide +kernel
theorem dL_isGraph_363 : decode cL_isGraph 363 = .ok (.invokevirtual 147, 3) := by decide +kernel
theorem dL_isGraph_366 : decode cL_isGraph 366 = .ok (.iload_n 2, 1) := by decide +kernel
theorem dL_isGraph_367 : decode cL_isGraph 367 = .ok (.if_icmp .ne 76, 3) := by decide +kernel
theorem dL_isGraph_370 : decode cL_isGraph 370 = .ok (.aload_n 1, 1) := by decide +kernel
theorem dL_isGraph_371 : decode cL_isGraph 371 = .ok (.invokevirtual 150, 3) := by decide +kernel
theorem dL_isGraph_374 : decode cL_isGraph 374 = .ok (.iload_n 2, 1) := by decide +kernel
theorem dL_isGraph_375 : decode cL_isGraph 375 = .ok (.iload_n 3, 1) := by decide +kernel
theorem dL_isGraph_376 : decode cL_isGraph 376 = .ok (.iadd, 1) := by decide +kernel
theorem dL_isGraph_377 : decode cL_isGraph 377 = .ok (.if_icmp .ne 66, 3) := by decide +kernel
theorem dL_isGraph_380 : decode cL_isGraph 380 = .ok (.aload_n 1, 1) := by decide +kernel
theorem dL_isGraph_381 : decode cL_isGraph 381 = .ok (.invokevirtual 153, 3) := by decide +kernel
theorem dL_isGraph_384 : decode cL_isGraph 384 = .ok (.iload_n 2, 1) := by decide +kernel
theorem dL_isGraph_385 : decode cL_isGraph 385 = .ok (.iload_n 3, 1) := by decide +kernel
theorem dL_isGraph_386 : decode cL_isGraph 386 = .ok (.iadd, 1) := by decide +kernel
theorem dL_isGraph_387 : decode cL_isGraph 387 = .ok (.ifCond .ne 7, 3) := by decide +kernel
theorem dL_isGraph_390 : decode cL_isGraph 390 = .ok (.iconst 1, 1) := by decide +kernel
theorem dL_isGraph_391 : decode cL_isGraph 391 = .ok (.goto 4, 3) := by decide +kernel
theorem dL_isGraph_394 : decode cL_isGraph 394 = .ok (.iconst 0, 1) := by decide +kernel
theorem dL_isGraph_395 : decode cL_isGraph 395 = .ok (.if_icmp .ne 48, 3) := by decide +kernel
theorem dL_isGraph_398 : decode cL_isGraph 398 = .ok (.aload_n 1, 1) := by decide +kernel
theorem dL_isGraph_399 : decode cL_isGraph 399 = .ok (.invokevirtual 157, 3) := by decide +kernel
theorem dL_isGraph_402 : decode cL_isGraph 402 = .ok (.iload 4, 2) := by decide +kernel
theorem dL_isGraph_404 : decode cL_isGraph 404 = .ok (.if_icmp .ne 39, 3) := by decide +kernel
theorem dL_isGraph_407 : decode cL_isGraph 407 = .ok (.aload_n 1, 1) := by decide +kernel
theorem dL_isGraph_408 : decode cL_isGraph 408 = .ok (.invokevirtual 160, 3) := by decide +kernel
theorem dL_isGraph_411 : decode cL_isGraph 411 = .ok (.iload 6, 2) := by decide +kernel
theorem dL_isGraph_413 : decode cL_isGraph 413 = .ok (.if_icmp .ne 30, 3) := by decide +kernel
theorem dL_isGraph_416 : decode cL_isGraph 416 = .ok (.aload_n 1, 1) := by decide +kernel
theorem dL_isGraph_417 : decode cL_isGraph 417 = .ok (.invokevirtual 163, 3) := by decide +kernel
theorem dL_isGraph_420 : decode cL_isGraph 420 = .ok (.ldc2_w 167, 3) := by decide +kernel
theorem dL_isGraph_423 : decode cL_isGraph 423 = .ok (.aload_n 0, 1) := by decide +kernel
theorem dL_isGraph_424 : decode cL_isGraph 424 = .ok (.invokevirtual 66, 3) := by decide +kernel
theorem dL_isGraph_427 : decode cL_isGraph 427 = .ok (.i2d, 1) := by decide +kernel
theorem dL_isGraph_428 : decode cL_isGraph 428 = .ok (.dmul, 1) := by decide +kernel
theorem dL_isGraph_429 : decode cL_isGraph 429 = .ok (.aload_n 0, 1) := by decide +kernel
theorem dL_isGraph_430 : decode cL_isGraph 430 = .ok (.getfield 75, 3) := by decide +kernel
theorem dL_isGraph_433 : decode cL_isGraph 433 = .ok (.i2d, 1) := by decide +kernel
theorem dL_isGraph_434 : decode cL_isGraph 434 = .ok (.ddiv, 1) := by decide +kernel
theorem dL_isGraph_435 : decode cL_isGraph 435 = .ok (.dcmp .l, 1) := by decide +kernel
theorem dL_isGraph_436 : decode cL_isGraph 436 = .ok (.ifCond .ne 7, 3) := by decide +kernel
theorem dL_isGraph_439 : decode cL_isGraph 439 = .ok (.iconst 1, 1) := by decide +kernel
theorem dL_isGraph_440 : decode cL_isGraph 440 = .ok (.goto 4, 3) := by decide +kernel
theorem dL_isGraph_443 : decode cL_isGraph 443 = .ok (.iconst 0, 1) := by decide +kernel
theorem dL_isGraph_444 : decode cL_isGraph 444 = .ok (.ireturn, 1) := by decide +kernel
theorem dL_isSequence_0 : decode cL_isSequence 0 = .ok (.aload_n 0, 1) := by decide +kernel
theorem dL_isSequence_1 : decode cL_isSequence 1 = .ok (.getfield 75, 3) := by decide +kernel
theorem dL_isSequence_4 : decode cL_isSequence 4 = .ok (.newarray .int, 2) := by decide +kernel
theorem dL_isSequence_6 : decode cL_isSequence 6 = .ok (.astore_n 2, 1) := by decide +kernel
theorem dL_isSequence_7 : decode cL_isSequence 7 = .ok (.iconst 0, 1) := by decide +kernel
theorem dL_isSequence_8 : decode cL_isSequence 8 = .ok (.istore_n 3, 1) := by decide +kernel
theorem dL_isSequence_9 : decode cL_isSequence 9 = .ok (.iload_n 3, 1) := by decide +kernel
theorem dL_isSequence_10 : decode cL_isSequence 10 = .ok (.aload_n 0, 1) := by decide +kernel
theorem dL_isSequence_11 : decode cL_isSequence 11 = .ok (.getfield 75, 3) := by decide +kernel
theorem dL_isSequence_14 : decode cL_isSequence 14 = .ok (.if_icmp .ge 56, 3) := by decide +kernel
theorem dL_isSequence_17 : decode cL_isSequence 17 = .ok (.iload_n 3, 1) := by decide +kernel
theorem dL_isSequence_18 : decode cL_isSequence 18 = .ok (.istore 4, 2) := by decide +kernel
theorem dL_isSequence_20 : decode cL_isSequence 20 = .ok (.iload 4, 2) := by decide +kernel
theorem dL_isSequence_22 : decode cL_isSequence 22 = .ok (.ifCond .le 33, 3) := by decide +kernel
theorem dL_isSequence_25 : decode cL_isSequence 25 = .ok (.aload_n 2, 1) := by decide +kernel
theorem dL_isSequence_26 : decode cL_isSequence 26 = .ok (.iload 4, 2) := by decide +kernel
theorem dL_isSequence_28 : decode cL_isSequence 28 = .ok (.iconst 1, 1) := by decide +kernel
theorem dL_isSequence_29 : decode cL_isSequence 29 = .ok (.isub, 1) := by decide +kernel
theorem dL_isSequence_30 : decode cL_isSequence 30 = .ok (.iaload, 1) := by decide +kernel
theorem dL_isSequence_31 : decode cL_isSequence 31 = .ok (.aload_n 0, 1) := by decide +kernel
theorem dL_isSequence_32 : decode cL_isSequence 32 = .ok (.iload_n 3, 1) := by decide +kernel
theorem dL_isSequence_33 : decode cL_isSequence 33 = .ok (.invokevirtual 141, 3) := by decide +kernel
theorem dL_isSequence_36 : decode cL_isSequence 36 = .ok (.if_icmp .ge 19, 3) := by decide +kernel
theorem dL_isSequence_39 : decode cL_isSequence 39 = .ok (.aload_n 2, 1) := by decide +kernel
theorem dL_isSequence_40 : decode cL_isSequence 40 = .ok (.iload 4, 2) := by decide +kernel
theorem dL_isSequence_42 : decode cL_isSequence 42 = .ok (.aload_n 2, 1) := by decide +kernel
theorem dL_isSequence_43 : decode cL_isSequence 43 = .ok (.iload 4, 2) := by decide +kernel
theorem dL_isSequence_45 : decode cL_isSequence 45 = .ok (.iconst 1, 1) := by decide +kernel
theorem dL_isSequence_46 : decode cL_isSequence 46 = .ok (.isub, 1) := by decide +kernel
theorem dL_isSequence_47 : decode cL_isSequence 47 = .ok (.iaload, 1) := by decide +kernel
theorem dL_isSequence_48 : decode cL_isSequence 48 = .ok (.iastore, 1) := by decide +kernel
theorem dL_isSequence_49 : decode cL_isSequence 49 = .ok (.iinc 4 (-1), 3) := by decide +kernel
theorem dL_isSequence_52 : decode cL_isSequence 52 = .ok (.goto (-32), 3) := by decide +kernel
theorem dL_isSequence_55 : decode cL_isSequence 55 = .ok (.aload_n 2, 1) := by decide +kernel
theorem dL_isSequence_56 : decode cL_isSequence 56 = .ok (.iload 4, 2) := by decide +kernel
theorem dL_isSequence_58 : decode cL_isSequence 58 = .ok (.aload_n 0, 1) := by decide +kernel
theorem dL_isSequence_59 : decode cL_isSequence 59 = .ok (.iload_n 3, 1) := by decide +kernel
theorem dL_isSequence_60 : decode cL_isSequence 60 = .ok (.invokevirtual 141, 3) := by decide +kernel
theorem dL_isSequence_63 : decode cL_isSequence 63 = .ok (.iastore, 1) := by decide +kernel
theorem dL_isSequence_64 : decode cL_isSequence 64 = .ok (.iinc 3 1, 3) := by decide +kernel
theorem dL_isSequence_67 : decode cL_isSequence 67 = .ok (.goto (-58), 3) := by decide +kernel
theorem dL_isSequence_70 : decode cL_isSequence 70 = .ok (.iconst 1, 1) := by decide +kernel
theorem dL_isSequence_71 : decode cL_isSequence 71 = .ok (.istore_n 3, 1) := by decide +kernel
theorem dL_isSequence_72 : decode cL_isSequence 72 = .ok (.iconst 1, 1) := by decide +kernel
theorem dL_isSequence_73 : decode cL_isSequence 73 = .ok (.istore 4, 2) := by decide +kernel
theorem dL_isSequence_75 : decode cL_isSequence 75 = .ok (.iload 4, 2) := by decide +kernel
theorem dL_isSequence_77 : decode cL_isSequence 77 = .ok (.aload_n 0, 1) := by decide +kernel
theorem dL_isSequence_78 : decode cL_isSequence 78 = .ok (.getfield 75, 3) := by decide +kernel
theorem dL_isSequence_81 : decode cL_isSequence 81 = .ok (.if_icmp .gt 110, 3) := by decide +kernel
theorem dL_isSequence_84 : decode cL_isSequence 84 = .ok (.iload 4, 2) := by decide +kernel
theorem dL_isSequence_86 : decode cL_isSequence 86 = .ok (.iload 4, 2) := by decide +kernel
theorem dL_isSequence_88 : decode cL_isSequence 88 = .ok (.iconst 1, 1) := by decide +kernel
theorem dL_isSequence_89 : decode cL_isSequence 89 = .ok (.isub, 1) := by decide +kernel
theorem dL_isSequence_90 : decode cL_isSequence 90 = .ok (.imul, 1) := by decide +kernel
theorem dL_isSequence_91 : decode cL_isSequence 91 = .ok (.istore 5, 2) := by decide +kernel
theorem dL_isSequence_93 : decode cL_isSequence 93 = .ok (.iconst 0, 1) := by decide +kernel
theorem dL_isSequence_94 : decode cL_isSequence 94 = .ok (.istore 6, 2) := by decide +kernel
theorem dL_isSequence_96 : decode cL_isSequence 96 = .ok (.iload 6, 2) := by decide +kernel
theorem dL_isSequence_98 : decode cL_isSequence 98 = .ok (.aload_n 0, 1) := by decide +kernel
theorem dL_isSequence_99 : decode cL_isSequence 99 = .ok (.getfield 75, 3) := by decide +kernel
theorem dL_isSequence_102 : decode cL_isSequence 102 = .ok (.if_icmp .ge 38, 3) := by decide +kernel
theorem dL_isSequence_105 : decode cL_isSequence 105 = .ok (.iload 5, 2) := by decide +kernel
theorem dL_isSequence_107 : decode cL_isSequence 107 = .ok (.iload 6, 2) := by decide +kernel
theorem dL_isSequence_109 : decode cL_isSequence 109 = .ok (.iload 4, 2) := by decide +kernel
theorem dL_isSequence_111 : decode cL_isSequence 111 = .ok (.if_icmp .ge 11, 3) := by decide +kernel
theorem dL_isSequence_114 : decode cL_isSequence 114 = .ok (.aload_n 2, 1) := by decide +kernel
theorem dL_isSequence_115 : decode cL_isSequence 115 = .ok (.iload 6, 2) := by decide +kernel
theorem dL_isSequence_117 : decode cL_isSequence 117 = .ok (.iaload, 1) := by decide +kernel
theorem dL_isSequence_118 : decode cL_isSequence 118 = .ok (.ineg, 1) := by decide +kernel
theorem dL_isSequence_119 : decode cL_isSequence 119 = .ok (.goto 12, 3) := by decide +kernel
theorem dL_isSequence_122 : decode cL_isSequence 122 = .ok (.iload 4, 2) := by decide +kernel
theorem dL_isSequence_124 : decode cL_isSequence 124 = .ok (.aload_n 2, 1) := by decide +kernel
theorem dL_isSequence_125 : decode cL_isSequence 125 = .ok (.iload 6, 2) := by decide +kernel
theorem dL_isSequence_127 : decode cL_isSequence 127 = .ok (.iaload, 1) := by decide +kernel
theorem dL_isSequence_128 : decode cL_isSequence 128 = .ok (.invokestatic 126, 3) := by decide +kernel
theorem dL_isSequence_131 : decode cL_isSequence 131 = .ok (.iadd, 1) := by decide +kernel
theorem dL_isSequence_132 : decode cL_isSequence 132 = .ok (.istore 5, 2) := by decide +kernel
theorem dL_isSequence_134 : decode cL_isSequence 134 = .ok (.iinc 6 1, 3) := by decide +kernel
theorem dL_isSequence_137 : decode cL_isSequence 137 = .ok (.goto (-41), 3) := by decide +kernel
theorem dL_isSequence_140 : decode cL_isSequence 140 = .ok (.aload_n 1, 1) := by decide +kernel
theorem dL_isSequence_141 : decode cL_isSequence 141 = .ok (.iload 4, 2) := by decide +kernel
theorem dL_isSequence_143 : decode cL_isSequence 143 = .ok (.iconst 1, 1) := by decide +kernel
theorem dL_isSequence_144 : decode cL_isSequence 144 = .ok (.isub, 1) := by decide +kernel
theorem dL_isSequence_145 : decode cL_isSequence 145 = .ok (.invokevirtual 169, 3) := by decide +kernel
theorem dL_isSequence_148 : decode cL_isSequence 148 = .ok (.aload_n 2, 1) := by decide +kernel
theorem dL_isSequence_149 : decode cL_isSequence 149 = .ok (.iload 4, 2) := by decide +kernel
theorem dL_isSequence_151 : decode cL_isSequence 151 = .ok (.iconst 1, 1) := by decide +kernel
theorem dL_isSequence_152 : decode cL_isSequence 152 = .ok (.isub, 1) := by decide +kernel
theorem dL_isSequence_153 : decode cL_isSequence 153 = .ok (.iaload, 1) := by decide +kernel
theorem dL_isSequence_154 : decode cL_isSequence 154 = .ok (.if_icmp .ne 14, 3) := by decide +kernel
theorem dL_isSequence_157 : decode cL_isSequence 157 = .ok (.aload_n 1, 1) := by decide +kernel
theorem dL_isSequence_158 : decode cL_isSequence 158 = .ok (.iload 4, 2) := by decide +kernel
theorem dL_isSequence_160 : decode cL_isSequence 160 = .ok (.invokevirtual 172, 3) := by decide +kernel
theorem dL_isSequence_163 : decode cL_isSequence 163 = .ok (.iload 5, 2) := by decide +kernel
theorem dL_isSequence_165 : decode cL_isSequence 165 = .ok (.if_icmp .eq 5, 3) := by decide +kernel
theorem dL_isSequence_168 : decode cL_isSequence 168 = .ok (.iconst 0, 1) := by decide +kernel
theorem dL_isSequence_169 : decode cL_isSequence 169 = .ok (.ireturn, 1) := by decide +kernel
theorem dL_isSequence_170 : decode cL_isSequence 170 = .ok (.iload_n 3, 1) := by decide +kernel
theorem dL_isSequence_171 : decode cL_isSequence 171 = .ok (.ifCond .eq 12, 3) := by decide +kernel
theorem dL_isSequence_174 : decode cL_isSequence 174 = .ok (.iload 5, 2) := by decide +kernel
theorem dL_isSequence_176 : decode cL_isSequence 176 = .ok (.ifCond .lt 7, 3) := by decide +kernel
theorem dL_isSequence_179 : decode cL_isSequence 179 = .ok (.iconst 1, 1) := by decide +kernel
theorem dL_isSequence_180 : decode cL_isSequence 180 = .ok (.goto 4, 3) := by decide +kernel
theorem dL_isSequence_183 : decode cL_isSequence 183 = .ok (.iconst 0, 1) := by decide +kernel
theorem dL_isSequence_184 : decode cL_isSequence 184 = .ok (.istore_n 3, 1) := by decide +kernel
theorem dL_isSequence_185 : decode cL_isSequence 185 = .ok (.iinc 4 1, 3) := by decide +kernel
theorem dL_isSequence_188 : decode cL_isSequence 188 = .ok (.goto (-113), 3) := by decide +kernel
theorem dL_isSequence_191 : decode cL_isSequence 191 = .ok (.aload_n 1, 1) := by decide +kernel
theorem dL_isSequence_192 : decode cL_isSequence 192 = .ok (.iconst 0, 1) := by decide +kernel
theorem dL_isSequence_193 : decode cL_isSequence 193 = .ok (.invokevirtual 175, 3) := by decide +kernel
theorem dL_isSequence_196 : decode cL_isSequence 196 = .ok (.ifCond .eq 45, 3) := by decide +kernel
theorem dL_isSequence_199 : decode cL_isSequence 199 = .ok (.aload_n 1, 1) := by decide +kernel
theorem dL_isSequence_200 : decode cL_isSequence 200 = .ok (.iconst 1, 1) := by decide +kernel
theorem dL_isSequence_201 : decode cL_isSequence 201 = .ok (.invokevirtual 175, 3) := by decide +kernel
theorem dL_isSequence_204 : decode cL_isSequence 204 = .ok (.aload_n 2, 1) := by decide +kernel
theorem dL_isSequence_205 : decode cL_isSequence 205 = .ok (.iconst 0, 1) := by decide +kernel
theorem dL_isSequence_206 : decode cL_isSequence 206 = .ok (.iaload, 1) := by decide +kernel
theorem dL_isSequence_207 : decode cL_isSequence 207 = .ok (.iconst 2, 1) := by decide +kernel
theorem dL_isSequence_208 : decode cL_isSequence 208 = .ok (.aload_n 0, 1) := by decide +kernel
theorem dL_isSequence_209 : decode cL_isSequence 209 = .ok (.invokevirtual 66, 3) := by decide +kernel
theorem dL_isSequence_212 : decode cL_isSequence 212 = .ok (.imul, 1) := by decide +kernel
theorem dL_isSequence_213 : decode cL_isSequence 213 = .ok (.aload_n 2, 1) := by decide +kernel
theorem dL_isSequence_214 : decode cL_isSequence 214 = .ok (.iconst 0, 1) := by decide +kernel
theorem dL_isSequence_215 : decode cL_isSequence 215 = .ok (.iaload, 1) := by decide +kernel
theorem dL_isSequence_216 : decode cL_isSequence 216 = .ok (.isub, 1) := by decide +kernel
theorem dL_isSequence_217 : decode cL_isSequence 217 = .ok (.if_icmp .gt 7, 3) := by decide +kernel
theorem dL_isSequence_220 : decode cL_isSequence 220 = .ok (.iconst 1, 1) := by decide +kernel
theorem dL_isSequence_221 : decode cL_isSequence 221 = .ok (.goto 4, 3) := by decide +kernel
theorem dL_isSequence_224 : decode cL_isSequence 224 = .ok (.iconst 0, 1) := by decide +kernel
theorem dL_isSequence_225 : decode cL_isSequence 225 = .ok (.if_icmp .ne 16, 3) := by decide +kernel
theorem dL_isSequence_228 : decode cL_isSequence 228 = .ok (.aload_n 1, 1) := by decide +kernel
theorem dL_isSequence_229 : decode cL_isSequence 229 = .ok (.iconst 2, 1) := by decide +kernel
theorem dL_isSequence_230 : decode cL_isSequence 230 = .ok (.invokevirtual 175, 3) := by decide +kernel
theorem dL_isSequence_233 : decode cL_isSequence 233 = .ok (.iload_n 3, 1) := by decide +kernel
theorem dL_isSequence_234 : decode cL_isSequence 234 = .ok (.if_icmp .ne 7, 3) := by decide +kernel
theorem dL_isSequence_237 : decode cL_isSequence 237 = .ok (.iconst 1, 1) := by decide +kernel
theorem dL_isSequence_238 : decode cL_isSequence 238 = .ok (.goto 4, 3) := by decide +kernel
theorem dL_isSequence_241 : decode cL_isSequence 241 = .ok (.iconst 0, 1) := by decide +kernel
theorem dL_isSequence_242 : decode cL_isSequence 242 = .ok (.ireturn, 1) := by decide +kernel
theorem dL_isSame_0 : decode cL_isSame 0 = .ok (.iload_n 0, 1) := by decide +kernel
theorem dL_isSame_1 : decode cL_isSame 1 = .ok (.iload_n 1, 1) := by decide +kernel
theorem dL_isSame_2 : decode cL_isSame 2 = .ok (.invokestatic 126, 3) := by decide +kernel
theorem dL_isSame_5 : decode cL_isSame 5 = .ok (.iload_n 2, 1) := by decide +kernel
theorem dL_isSame_6 : decode cL_isSame 6 = .ok (.iload_n 3, 1) := by decide +kernel
theorem dL_isSame_7 : decode cL_isSame 7 = .ok (.invokestatic 126, 3) := by decide +kernel
theorem dL_isSame_10 : decode cL_isSame 10 = .ok (.if_icmp .ne 20, 3) := by decide +kernel
theorem dL_isSame_13 : decode cL_isSame 13 = .ok (.iload_n 0, 1) := by decide +kernel
theorem dL_isSame_14 : decode cL_isSame 14 = .ok (.iload_n 1, 1) := by decide +kernel
theorem dL_isSame_15 : decode cL_isSame 15 = .ok (.invokestatic 131, 3) := by decide +kernel
theorem dL_isSame_18 : decode cL_isSame 18 = .ok (.iload_n 2, 1) := by decide +kernel
theorem dL_isSame_19 : decode cL_isSame 19 = .ok (.iload_n 3, 1) := by decide +kernel
theorem dL_isSame_20 : decode cL_isSame 20 = .ok (.invokestatic 131, 3) := by decide +kernel
theorem dL_isSame_23 : decode cL_isSame 23 = .ok (.if_icmp .ne 7, 3) := by decide +kernel
theorem dL_isSame_26 : decode cL_isSame 26 = .ok (.iconst 1, 1) := by decide +kernel
theorem dL_isSame_27 : decode cL_isSame 27 = .ok (.goto 4, 3) := by decide +kernel
theorem dL_isSame_30 : decode cL_isSame 30 = .ok (.iconst 0, 1) := by decide +kernel
theorem dL_isSame_31 : decode cL_isSame 31 = .ok (.ireturn, 1) := by decide +kernel
theorem dL_isReason_0 : decode cL_isReason 0 = .ok (.aload_n 0, 1) := by decide +kernel
theorem dL_isReason_1 : decode cL_isReason 1 = .ok (.aload_n 0, 1) := by decide +kernel
theorem dL_isReason_2 : decode cL_isReason 2 = .ok (.getfield 75, 3) := by decide +kernel
theorem dL_isReason_5 : decode cL_isReason 5 = .ok (.invokevirtual 54, 3) := by decide +kernel
theorem dL_isReason_8 : decode cL_isReason 8 = .ok (.istore_n 2, 1) := by decide +kernel
theorem dL_isReason_9 : decode cL_isReason 9 = .ok (.aload_n 0, 1) := by decide +kernel
theorem dL_isReason_10 : decode cL_isReason 10 = .ok (.aload_n 0, 1) := by decide +kernel
theorem dL_isReason_11 : decode cL_isReason 11 = .ok (.getfield 75, 3) := by decide +kernel
theorem dL_isReason_14 : decode cL_isReason 14 = .ok (.invokevirtual 54, 3) := by decide +kernel
theorem dL_isReason_17 : decode cL_isReason 17 = .ok (.istore_n 3, 1) := by decide +kernel
theorem dL_isReason_18 : decode cL_isReason 18 = .ok (.aload_n 0, 1) := by decide +kernel
theorem dL_isReason_19 : decode cL_isReason 19 = .ok (.aload_n 0, 1) := by decide +kernel
theorem dL_isReason_20 : decode cL_isReason 20 = .ok (.getfield 75, 3) := by decide +kernel
theorem dL_isReason_23 : decode cL_isReason 23 = .ok (.invokevirtual 54, 3) := by decide +kernel
theorem dL_isReason_26 : decode cL_isReason 26 = .ok (.istore 4, 2) := by decide +kernel
theorem dL_isReason_28 : decode cL_isReason 28 = .ok (.aload_n 0, 1) := by decide +kernel
theorem dL_isReason_29 : decode cL_isReason 29 = .ok (.aload_n 0, 1) := by decide +kernel
theorem dL_isReason_30 : decode cL_isReason 30 = .ok (.getfield 75, 3) := by decide +kernel
theorem dL_isReason_33 : decode cL_isReason 33 = .ok (.invokevirtual 54, 3) := by decide +kernel
theorem dL_isReason_36 : decode cL_isReason 36 = .ok (.istore 5, 2) := by decide +kernel
theorem dL_isReason_38 : decode cL_isReason 38 = .ok (.aload_n 0, 1) := by decide +kernel
theorem dL_isReason_39 : decode cL_isReason 39 = .ok (.iload 4, 2) := by decide +kernel
theorem dL_isReason_41 : decode cL_isReason 41 = .ok (.iload 5, 2) := by decide +kernel
theorem dL_isReason_43 : decode cL_isReason 43 = .ok (.invokevirtual 134, 3) := by decide +kernel
theorem dL_isReason_46 : decode cL_isReason 46 = .ok (.iload_n 2, 1) := by decide +kernel
theorem dL_isReason_47 : decode cL_isReason 47 = .ok (.iload_n 3, 1) := by decide +kernel
theorem dL_isReason_48 : decode cL_isReason 48 = .ok (.iload 4, 2) := by decide +kernel
theorem dL_isReason_50 : decode cL_isReason 50 = .ok (.iload 5, 2) := by decide +kernel
theorem dL_isReason_52 : decode cL_isReason 52 = .ok (.invokestatic 179, 3) := by decide +kernel
theorem dL_isReason_55 : decode cL_isReason 55 = .ok (.ifCond .eq 7, 3) := by decide +kernel
theorem dL_isReason_58 : decode cL_isReason 58 = .ok (.iconst 1, 1) := by decide +kernel
theorem dL_isReason_59 : decode cL_isReason 59 = .ok (.goto 4, 3) := by decide +kernel
theorem dL_isReason_62 : decode cL_isReason 62 = .ok (.iconst 0, 1) := by decide +kernel
theorem dL_isReason_63 : decode cL_isReason 63 = .ok (.isub, 1) := by decide +kernel
theorem dL_isReason_64 : decode cL_isReason 64 = .ok (.istore 6, 2) := by decide +kernel
theorem dL_isReason_66 : decode cL_isReason 66 = .ok (.aload_n 0, 1) := by decide +kernel
theorem dL_isReason_67 : decode cL_isReason 67 = .ok (.iload_n 2, 1) := by decide +kernel
theorem dL_isReason_68 : decode cL_isReason 68 = .ok (.iload 4, 2) := by decide +kernel
theorem dL_isReason_70 : decode cL_isReason 70 = .ok (.invokevirtual 134, 3) := by decide +kernel
theorem dL_isReason_73 : decode cL_isReason 73 = .ok (.iload_n 2, 1) := by decide +kernel
theorem dL_isReason_74 : decode cL_isReason 74 = .ok (.iload 4, 2) := by decide +kernel
theorem dL_isReason_76 : decode cL_isReason 76 = .ok (.iload_n 2, 1) := by decide +kernel
theorem dL_isReason_77 : decode cL_isReason 77 = .ok (.iload_n 3, 1) := by decide +kernel
theorem dL_isReason_78 : decode cL_isReason 78 = .ok (.invokestatic 179, 3) := by decide +kernel
theorem dL_isReason_81 : decode cL_isReason 81 = .ok (.ifCond .eq 7, 3) := by decide +kernel
theorem dL_isReason_84 : decode cL_isReason 84 = .ok (.iconst 1, 1) := by decide +kernel
theorem dL_isReason_85 : decode cL_isReason 85 = .ok (.goto 4, 3) := by decide +kernel
theorem dL_isReason_88 : decode cL_isReason 88 = .ok (.iconst 0, 1) := by decide +kernel
theorem dL_isReason_89 : decode cL_isReason 89 = .ok (.isub, 1) := by decide +kernel
theorem dL_isReason_90 : decode cL_isReason 90 = .ok (.iload_n 2, 1) := by decide +kernel
theorem dL_isReason_91 : decode cL_isReason 91 = .ok (.iload 4, 2) := by decide +kernel
theorem dL_isReason_93 : decode cL_isReason 93 = .ok (.iload 4, 2) := by decide +kernel
theorem dL_isReason_95 : decode cL_isReason 95 = .ok (.iload 5, 2) := by decide +kernel
theorem dL_isReason_97 : decode cL_isReason 97 = .ok (.invokestatic 179, 3) := by decide +kernel
theorem dL_isReason_100 : decode cL_isReason 100 = .ok (.ifCond .eq 7, 3) := by decide +kernel
theorem dL_isReason_103 : decode cL_isReason 103 = .ok (.iconst 1, 1) := by decide +kernel
theorem dL_isReason_104 : decode cL_isReason 104 = .ok (.goto 4, 3) := by decide +kernel
theorem dL_isReason_107 : decode cL_isReason 107 = .ok (.iconst 0, 1) := by decide +kernel
theorem dL_isReason_108 : decode cL_isReason 108 = .ok (.isub, 1) := by decide +kernel
theorem dL_isReason_109 : decode cL_isReason 109 = .ok (.istore 7, 2) := by decide +kernel
theorem dL_isReason_111 : decode cL_isReason 111 = .ok (.aload_n 0, 1) := by decide +kernel
theorem dL_isReason_112 : decode cL_isReason 112 = .ok (.iload_n 3, 1) := by decide +kernel
theorem dL_isReason_113 : decode cL_isReason 113 = .ok (.iload 5, 2) := by decide +kernel
theorem dL_isReason_115 : decode cL_isReason 115 = .ok (.invokevirtual 134, 3) := by decide +kernel
theorem dL_isReason_118 : decode cL_isReason 118 = .ok (.iload_n 3, 1) := by decide +kernel
theorem dL_isReason_119 : decode cL_isReason 119 = .ok (.iload 5, 2) := by decide +kernel
theorem dL_isReason_121 : decode cL_isReason 121 = .ok (.iload_n 2, 1) := by decide +kernel
theorem dL_isReason_122 : decode cL_isReason 122 = .ok (.iload_n 3, 1) := by decide +kernel
theorem dL_isReason_123 : decode cL_isReason 123 = .ok (.invokestatic 179, 3) := by decide +kernel
theorem dL_isReason_126 : decode cL_isReason 126 = .ok (.ifCond .eq 7, 3) := by decide +kernel
theorem dL_isReason_129 : decode cL_isReason 129 = .ok (.iconst 1, 1) := by decide +kernel
theorem dL_isReason_130 : decode cL_isReason 130 = .ok (.goto 4, 3) := by decide +kernel
theorem dL_isReason_133 : decode cL_isReason 133 = .ok (.iconst 0, 1) := by decide +kernel
theorem dL_isReason_134 : decode cL_isReason 134 = .ok (.isub, 1) := by decide +kernel
theorem dL_isReason_135 : decode cL_isReason 135 = .ok (.iload_n 3, 1) := by decide +kernel
theorem dL_isReason_136 : decode cL_isReason 136 = .ok (.iload 5, 2) := by decide +kernel
theorem dL_isReason_138 : decode cL_isReason 138 = .ok (.iload 4, 2) := by decide +kernel
theorem dL_isReason_140 : decode cL_isReason 140 = .ok (.iload 5, 2) := by decide +kernel
theorem dL_isReason_142 : decode cL_isReason 142 = .ok (.invokestatic 179, 3) := by decide +kernel
theorem dL_isReason_145 : decode cL_isReason 145 = .ok (.ifCond .eq 7, 3) := by decide +kernel
theorem dL_isReason_148 : decode cL_isReason 148 = .ok (.iconst 1, 1) := by decide +kernel
theorem dL_isReason_149 : decode cL_isReason 149 = .ok (.goto 4, 3) := by decide +kernel
theorem dL_isReason_152 : decode cL_isReason 152 = .ok (.iconst 0, 1) := by decide +kernel
theorem dL_isReason_153 : decode cL_isReason 153 = .ok (.isub, 1) := by decide +kernel
theorem dL_isReason_154 : decode cL_isReason 154 = .ok (.istore 8, 2) := by decide +kernel
theorem dL_isReason_156 : decode cL_isReason 156 = .ok (.aload_n 0, 1) := by decide +kernel
theorem dL_isReason_157 : decode cL_isReason 157 = .ok (.iload_n 2, 1) := by decide +kernel
theorem dL_isReason_158 : decode cL_isReason 158 = .ok (.iload_n 3, 1) := by decide +kernel
theorem dL_isReason_159 : decode cL_isReason 159 = .ok (.invokevirtual 134, 3) := by decide +kernel
theorem dL_isReason_162 : decode cL_isReason 162 = .ok (.ifCond .ne 7, 3) := by decide +kernel
theorem dL_isReason_165 : decode cL_isReason 165 = .ok (.iconst 1, 1) := by decide +kernel
theorem dL_isReason_166 : decode cL_isReason 166 = .ok (.goto 87, 3) := by decide +kernel
theorem dL_isReason_169 : decode cL_isReason 169 = .ok (.iload 6, 2) := by decide +kernel
theorem dL_isReason_171 : decode cL_isReason 171 = .ok (.iconst 1, 1) := by decide +kernel
theorem dL_isReason_172 : decode cL_isReason 172 = .ok (.if_icmp .ge 7, 3) := by decide +kernel
theorem dL_isReason_175 : decode cL_isReason 175 = .ok (.iconst 2, 1) := by decide +kernel
theorem dL_isReason_176 : decode cL_isReason 176 = .ok (.goto 77, 3) := by decide +kernel
theorem dL_isReason_179 : decode cL_isReason 179 = .ok (.iload_n 2, 1) := by decide +kernel
theorem dL_isReason_180 : decode cL_isReason 180 = .ok (.iload 5, 2) := by decide +kernel
theorem dL_isReason_182 : decode cL_isReason 182 = .ok (.if_icmp .eq 9, 3) := by decide +kernel
theorem dL_isReason_185 : decode cL_isReason 185 = .ok (.iload_n 3, 1) := by decide +kernel
theorem dL_isReason_186 : decode cL_isReason 186 = .ok (.iload 4, 2) := by decide +kernel
theorem dL_isReason_188 : decode cL_isReason 188 = .ok (.if_icmp .ne 7, 3) := by decide +kernel
theorem dL_isReason_191 : decode cL_isReason 191 = .ok (.iconst 3, 1) := by decide +kernel
theorem dL_isReason_192 : decode cL_isReason 192 = .ok (.goto 61, 3) := by decide +kernel
theorem dL_isReason_195 : decode cL_isReason 195 = .ok (.aload_n 0, 1) := by decide +kernel
theorem dL_isReason_196 : decode cL_isReason 196 = .ok (.getfield 100, 3) := by decide +kernel
theorem dL_isReason_199 : decode cL_isReason 199 = .ok (.ifCond .le 19, 3) := by decide +kernel
theorem dL_isReason_202 : decode cL_isReason 202 = .ok (.iload_n 2, 1) := by decide +kernel
theorem dL_isReason_203 : decode cL_isReason 203 = .ok (.iload 4, 2) := by decide +kernel
theorem dL_isReason_205 : decode cL_isReason 205 = .ok (.if_icmp .eq 9, 3) := by decide +kernel
theorem dL_isReason_208 : decode cL_isReason 208 = .ok (.iload_n 3, 1) := by decide +kernel
theorem dL_isReason_209 : decode cL_isReason 209 = .ok (.iload 5, 2) := by decide +kernel
theorem dL_isReason_211 : decode cL_isReason 211 = .ok (.if_icmp .ne 7, 3) := by decide +kernel
theorem dL_isReason_214 : decode cL_isReason 214 = .ok (.iconst 4, 1) := by decide +kernel
theorem dL_isReason_215 : decode cL_isReason 215 = .ok (.goto 38, 3) := by decide +kernel
theorem dL_isReason_218 : decode cL_isReason 218 = .ok (.aload_n 0, 1) := by decide +kernel
theorem dL_isReason_219 : decode cL_isReason 219 = .ok (.getfield 100, 3) := by decide +kernel
theorem dL_isReason_222 : decode cL_isReason 222 = .ok (.iconst 2, 1) := by decide +kernel
theorem dL_isReason_223 : decode cL_isReason 223 = .ok (.if_icmp .ne 29, 3) := by decide +kernel
theorem dL_isReason_226 : decode cL_isReason 226 = .ok (.iload 7, 2) := by decide +kernel
theorem dL_isReason_228 : decode cL_isReason 228 = .ok (.ifCond .gt 20, 3) := by decide +kernel
theorem dL_isReason_231 : decode cL_isReason 231 = .ok (.iload 8, 2) := by decide +kernel
theorem dL_isReason_233 : decode cL_isReason 233 = .ok (.ifCond .gt 15, 3) := by decide +kernel
theorem dL_isReason_236 : decode cL_isReason 236 = .ok (.iload_n 2, 1) := by decide +kernel
theorem dL_isReason_237 : decode cL_isReason 237 = .ok (.iload 4, 2) := by decide +kernel
theorem dL_isReason_239 : decode cL_isReason 239 = .ok (.iload_n 3, 1) := by decide +kernel
theorem dL_isReason_240 : decode cL_isReason 240 = .ok (.iload 5, 2) := by decide +kernel
theorem dL_isReason_242 : decode cL_isReason 242 = .ok (.invokestatic 179, 3) := by decide +kernel
theorem dL_isReason_245 : decode cL_isReason 245 = .ok (.ifCond .eq 7, 3) := by decide +kernel
theorem dL_isReason_248 : decode cL_isReason 248 = .ok (.iconst 5, 1) := by decide +kernel
theorem dL_isReason_249 : decode cL_isReason 249 = .ok (.goto 4, 3) := by decide +kernel
theorem dL_isReason_252 : decode cL_isReason 252 = .ok (.iconst 0, 1) := by decide +kernel
theorem dL_isReason_253 : decode cL_isReason 253 = .ok (.istore 9, 2) := by decide +kernel
theorem dL_isReason_255 : decode cL_isReason 255 = .ok (.aload_n 1, 1) := by decide +kernel
theorem dL_isReason_256 : decode cL_isReason 256 = .ok (.iload_n 2, 1) := by decide +kernel
theorem dL_isReason_257 : decode cL_isReason 257 = .ok (.iload_n 3, 1) := by decide +kernel
theorem dL_isReason_258 : decode cL_isReason 258 = .ok (.iload 4, 2) := by decide +kernel
theorem dL_isReason_260 : decode cL_isReason 260 = .ok (.iload 5, 2) := by decide +kernel
theorem dL_isReason_262 : decode cL_isReason 262 = .ok (.invokevirtual 183, 3) := by decide +kernel
theorem dL_isReason_265 : decode cL_isReason 265 = .ok (.iload 9, 2) := by decide +kernel
theorem dL_isReason_267 : decode cL_isReason 267 = .ok (.if_icmp .ne 7, 3) := by decide +kernel
theorem dL_isReason_270 : decode cL_isReason 270 = .ok (.iconst 1, 1) := by decide +kernel
theorem dL_isReason_271 : decode cL_isReason 271 = .ok (.goto 4, 3) := by decide +kernel
theorem dL_isReason_274 : decode cL_isReason 274 = .ok (.iconst 0, 1) := by decide +kernel
theorem dL_isReason_275 : decode cL_isReason 275 = .ok (.ireturn, 1) := by decide +kernel
theorem dL_isNoVertex_0 : decode cL_isNoVertex 0 = .ok (.aload_n 0, 1) := by decide +kernel
theorem dL_isNoVertex_1 : decode cL_isNoVertex 1 = .ok (.bipush 8, 2) := by decide +kernel
theorem dL_isNoVertex_3 : decode cL_isNoVertex 3 = .ok (.iconst 0, 1) := by decide +kernel
theorem dL_isNoVertex_4 : decode cL_isNoVertex 4 = .ok (.invokevirtual 137, 3) := by decide +kernel
theorem dL_isNoVertex_7 : decode cL_isNoVertex 7 = .ok (.bipush (-7), 2) := by decide +kernel
theorem dL_isNoVertex_9 : decode cL_isNoVertex 9 = .ok (.if_icmp .ne 7, 3) := by decide +kernel
theorem dL_isNoVertex_12 : decode cL_isNoVertex 12 = .ok (.iconst 1, 1) := by decide +kernel
theorem dL_isNoVertex_13 : decode cL_isNoVertex 13 = .ok (.goto 4, 3) := by decide +kernel
theorem dL_isNoVertex_16 : decode cL_isNoVertex 16 = .ok (.iconst 0, 1) := by decide +kernel
theorem dL_isNoVertex_17 : decode cL_isNoVertex 17 = .ok (.ireturn, 1) := by decide +kernel
theorem dL_isNoVertex_18 : decode cL_isNoVertex 18 = .ok (.astore_n 1, 1) := by decide +kernel
theorem dL_isNoVertex_19 : decode cL_isNoVertex 19 = .ok (.iconst 1, 1) := by decide +kernel
theorem dL_isNoVertex_20 : decode cL_isNoVertex 20 = .ok (.ireturn, 1) := by decide +kernel
theorem dL_isBad_0 : decode cL_isBad 0 = .ok (.aload_n 0, 1) := by decide +kernel
theorem dL_isBad_1 : decode cL_isBad 1 = .ok (.iconst 3, 1) := by decide +kernel
theorem dL_isBad_2 : decode cL_isBad 2 = .ok (.invokevirtual 189, 3) := by decide +kernel
theorem dL_isBad_5 : decode cL_isBad 5 = .ok (.bipush (-7), 2) := by decide +kernel
theorem dL_isBad_7 : decode cL_isBad 7 = .ok (.if_icmp .ne 7, 3) := by decide +kernel
theorem dL_isBad_10 : decode cL_isBad 10 = .ok (.iconst 1, 1) := by decide +kernel
theorem dL_isBad_11 : decode cL_isBad 11 = .ok (.goto 4, 3) := by decide +kernel
theorem dL_isBad_14 : decode cL_isBad 14 = .ok (.iconst 0, 1) := by decide +kernel
theorem dL_isBad_15 : decode cL_isBad 15 = .ok (.ireturn, 1) := by decide +kernel
theorem dL_isBad_16 : decode cL_isBad 16 = .ok (.astore_n 1, 1) := by decide +kernel
theorem dL_isBad_17 : decode cL_isBad 17 = .ok (.iconst 1, 1) := by decide +kernel
theorem dL_isBad_18 : decode cL_isBad 18 = .ok (.ireturn, 1) := by decide +kernel
theorem dL_isNoEdge_0 : decode cL_isNoEdge 0 = .ok (.aload_n 1, 1) := by decide +kernel
theorem dL_isNoEdge_1 : decode cL_isNoEdge 1 = .ok (.aload_n 0, 1) := by decide +kernel
theorem dL_isNoEdge_2 : decode cL_isNoEdge 2 = .ok (.getfield 75, 3) := by decide +kernel
theorem dL_isNoEdge_5 : decode cL_isNoEdge 5 = .ok (.iconst 1, 1) := by decide +kernel
theorem dL_isNoEdge_6 : decode cL_isNoEdge 6 = .ok (.isub, 1) := by decide +kernel
theorem dL_isNoEdge_7 : decode cL_isNoEdge 7 = .ok (.aload_n 0, 1) := by decide +kernel
theorem dL_isNoEdge_8 : decode cL_isNoEdge 8 = .ok (.getfield 75, 3) := by decide +kernel
theorem dL_isNoEdge_11 : decode cL_isNoEdge 11 = .ok (.iconst 1, 1) := by decide +kernel
theorem dL_isNoEdge_12 : decode cL_isNoEdge 12 = .ok (.isub, 1) := by decide +kernel
theorem dL_isNoEdge_13 : decode cL_isNoEdge 13 = .ok (.invokevirtual 194, 3) := by decide +kernel
theorem dL_isNoEdge_16 : decode cL_isNoEdge 16 = .ok (.aload_n 0, 1) := by decide +kernel
theorem dL_isNoEdge_17 : decode cL_isNoEdge 17 = .ok (.getfield 15, 3) := by decide +kernel
theorem dL_isNoEdge_20 : decode cL_isNoEdge 20 = .ok (.aload_n 0, 1) := by decide +kernel
theorem dL_isNoEdge_21 : decode cL_isNoEdge 21 = .ok (.getfield 75, 3) := by decide +kernel
theorem dL_isNoEdge_24 : decode cL_isNoEdge 24 = .ok (.iconst 1, 1) := by decide +kernel
theorem dL_isNoEdge_25 : decode cL_isNoEdge 25 = .ok (.isub, 1) := by decide +kernel
theorem dL_isNoEdge_26 : decode cL_isNoEdge 26 = .ok (.aaload, 1) := by decide +kernel
theorem dL_isNoEdge_27 : decode cL_isNoEdge 27 = .ok (.aload_n 0, 1) := by decide +kernel
theorem dL_isNoEdge_28 : decode cL_isNoEdge 28 = .ok (.getfield 75, 3) := by decide +kernel
theorem dL_isNoEdge_31 : decode cL_isNoEdge 31 = .ok (.iconst 1, 1) := by decide +kernel
theorem dL_isNoEdge_32 : decode cL_isNoEdge 32 = .ok (.isub, 1) := by decide +kernel
theorem dL_isNoEdge_33 : decode cL_isNoEdge 33 = .ok (.iaload, 1) := by decide +kernel
theorem dL_isNoEdge_34 : decode cL_isNoEdge 34 = .ok (.iconst 1, 1) := by decide +kernel
theorem dL_isNoEdge_35 : decode cL_isNoEdge 35 = .ok (.isub, 1) := by decide +kernel
theorem dL_isNoEdge_36 : decode cL_isNoEdge 36 = .ok (.if_icmp .ne 7, 3) := by decide +kernel
theorem dL_isNoEdge_39 : decode cL_isNoEdge 39 = .ok (.iconst 1, 1) := by decide +kernel
theorem dL_isNoEdge_40 : decode cL_isNoEdge 40 = .ok (.goto 4, 3) := by decide +kernel
theorem dL_isNoEdge_43 : decode cL_isNoEdge 43 = .ok (.iconst 0, 1) := by decide +kernel
theorem dL_isNoEdge_44 : decode cL_isNoEdge 44 = .ok (.ireturn, 1) := by decide +kernel
theorem dL_isNoEdge_45 : decode cL_isNoEdge 45 = .ok (.astore_n 2, 1) := by decide +kernel
theorem dL_isNoEdge_46 : decode cL_isNoEdge 46 = .ok (.aload_n 0, 1) := by decide +kernel
theorem dL_isNoEdge_47 : decode cL_isNoEdge 47 = .ok (.getfield 15, 3) := by decide +kernel
theorem dL_isNoEdge_50 : decode cL_isNoEdge 50 = .ok (.aload_n 0, 1) := by decide +kernel
theorem dL_isNoEdge_51 : decode cL_isNoEdge 51 = .ok (.getfield 75, 3) := by decide +kernel
theorem dL_isNoEdge_54 : decode cL_isNoEdge 54 = .ok (.iconst 1, 1) := by decide +kernel
theorem dL_isNoEdge_55 : decode cL_isNoEdge 55 = .ok (.isub, 1) := by decide +kernel
theorem dL_isNoEdge_56 : decode cL_isNoEdge 56 = .ok (.aaload, 1) := by decide +kernel
theorem dL_isNoEdge_57 : decode cL_isNoEdge 57 = .ok (.aload_n 0, 1) := by decide +kernel
theorem dL_isNoEdge_58 : decode cL_isNoEdge 58 = .ok (.getfield 75, 3) := by decide +kernel
theorem dL_isNoEdge_61 : decode cL_isNoEdge 61 = .ok (.iconst 1, 1) := by decide +kernel
theorem dL_isNoEdge_62 : decode cL_isNoEdge 62 = .ok (.isub, 1) := by decide +kernel
theorem dL_isNoEdge_63 : decode cL_isNoEdge 63 = .ok (.iaload, 1) := by decide +kernel
theorem dL_isNoEdge_64 : decode cL_isNoEdge 64 = .ok (.ifCond .ne 7, 3) := by decide +kernel
theorem dL_isNoEdge_67 : decode cL_isNoEdge 67 = .ok (.iconst 1, 1) := by decide +kernel
theorem dL_isNoEdge_68 : decode cL_isNoEdge 68 = .ok (.goto 4, 3) := by decide +kernel
theorem dL_isNoEdge_71 : decode cL_isNoEdge 71 = .ok (.iconst 0, 1) := by decide +kernel
theorem dL_isNoEdge_72 : decode cL_isNoEdge 72 = .ok (.ireturn, 1) := by decide +kernel
end
section
def wsL_law0_r1 : List Cond := [Cond.classLink RL 8 RL, Cond.instantiable RL 5, Cond.initialized RL, Cond.fieldLink RL 7 "SwitchGraphsLaw" "choices" "[I", Cond.classLink RL 33 RX9, Cond.instantiable RX9 12, Cond.initialized RX9, Cond.fieldLink RL 75 "SwitchGraphsLaw" "n" "I", Cond.methodLink RL 57 yL_init, Cond.instanceMethod yL_init, Cond.code yL_init cL_init 1 none, Cond.methodLink RL 1 objectInit, Cond.instanceMethod objectInit, Cond.code objectInit ⟨#[0xb1]⟩ 1 none, Cond.arrayClass .int, Cond.classLink RL 13 "[[I", Cond.fieldLink RL 15 "SwitchGraphsLaw" "m" "[[I", Cond.methodLink RL 58 yX9_init, Cond.instanceMethod yX9_init, Cond.code yX9_init cX9_init 1 none, Cond.methodLink RX9 1 objectInit, Cond.classLink RX9 7 RX5, Cond.instantiable RX5 13, Cond.initialized RX5]
def wsL_law0_r2 : List Cond := [Cond.fieldLink RX9 10 "SwitchGraphs" "reader" "LSwitchGraphs$Reader;", Cond.classLink RX9 16 RX1, Cond.instantiable RX1 3, Cond.initialized RX1, Cond.fieldLink RX9 19 "SwitchGraphs" "graph" "LSwitchGraphs$Graph;", Cond.fieldLink RX9 23 "SwitchGraphs" "target" "LSwitchGraphs$Graph;", Cond.fieldLink RX9 26 "SwitchGraphs" "trial" "LSwitchGraphs$Graph;", Cond.fieldLink RX9 29 "SwitchGraphs" "spare" "LSwitchGraphs$Graph;", Cond.classLink RX9 32 RX4, Cond.instantiable RX4 3, Cond.initialized RX4, Cond.fieldLink RX9 35 "SwitchGraphs" "parts" "LSwitchGraphs$Parts;", Cond.classLink RX9 39 RX6, Cond.instantiable RX6 5, Cond.initialized RX6, Cond.fieldLink RX9 42 "SwitchGraphs" "sequence" "LSwitchGraphs$Sequence;", Cond.classLink RX9 46 RX7, Cond.instantiable RX7 2, Cond.initialized RX7, Cond.fieldLink RX9 49 "SwitchGraphs" "list" "LSwitchGraphs$SwitchList;", Cond.classLink RX9 53 RX8, Cond.instantiable RX8 3, Cond.initialized RX8, Cond.fieldLink RX9 56 "SwitchGraphs" "trail" "LSwitchGraphs$Trail;"]
def wsL_law0_r3 : List Cond := [Cond.classLink RX9 60 RX2, Cond.instantiable RX2 5, Cond.initialized RX2, Cond.fieldLink RX9 63 "SwitchGraphs" "history" "LSwitchGraphs$History;", Cond.classLink RX9 67 RX3, Cond.instantiable RX3 2, Cond.initialized RX3, Cond.fieldLink RX9 70 "SwitchGraphs" "output" "LSwitchGraphs$Output;", Cond.fieldLink RX9 74 "SwitchGraphs" "mode" "I", Cond.instanceMethod yX5_init, Cond.code yX5_init cX5_init 1 none, Cond.methodLink RX5 3 objectInit, Cond.arrayClass .byte, Cond.fieldLink RX5 11 "SwitchGraphs$Reader" "bytes" "[B", Cond.classLink RX5 15 RX1, Cond.fieldLink RX5 18 "SwitchGraphs$Reader" "graph" "LSwitchGraphs$Graph;", Cond.fieldLink RX5 22 "SwitchGraphs$Reader" "target" "LSwitchGraphs$Graph;", Cond.classLink RX5 25 RX6, Cond.fieldLink RX5 28 "SwitchGraphs$Reader" "sequence" "LSwitchGraphs$Sequence;", Cond.fieldLink RX5 32 "SwitchGraphs$Reader" "mode" "I", Cond.fieldLink RX5 36 "SwitchGraphs$Reader" "fed" "I", Cond.fieldLink RX5 39 "SwitchGraphs$Reader" "length" "I", Cond.fieldLink RX5 42 "SwitchGraphs$Reader" "errorKind" "I", Cond.fieldLink RX5 45 "SwitchGraphs$Reader" "errorPlace" "I"]
def wsL_law0_r4 : List Cond := [Cond.fieldLink RX5 48 "SwitchGraphs$Reader" "token" "I", Cond.fieldLink RX5 51 "SwitchGraphs$Reader" "start" "I", Cond.fieldLink RX5 54 "SwitchGraphs$Reader" "end" "I", Cond.fieldLink RX5 57 "SwitchGraphs$Reader" "number" "I", Cond.instanceMethod yX1_init, Cond.code yX1_init cX1_init 1 none, Cond.methodLink RX1 3 objectInit, Cond.fieldLink RX1 9 "SwitchGraphs$Graph" "counts" "[I", Cond.fieldLink RX1 15 "SwitchGraphs$Graph" "size" "I", Cond.fieldLink RX1 19 "SwitchGraphs$Graph" "total" "I", Cond.instanceMethod yX6_init, Cond.code yX6_init cX6_init 1 none, Cond.methodLink RX6 3 objectInit, Cond.fieldLink RX6 9 "SwitchGraphs$Sequence" "degrees" "[I", Cond.fieldLink RX6 15 "SwitchGraphs$Sequence" "falling" "[I", Cond.fieldLink RX6 18 "SwitchGraphs$Sequence" "lacks" "[I", Cond.fieldLink RX6 21 "SwitchGraphs$Sequence" "size" "I", Cond.fieldLink RX6 25 "SwitchGraphs$Sequence" "sum" "I", Cond.instanceMethod yX4_init, Cond.code yX4_init cX4_init 1 none, Cond.methodLink RX4 3 objectInit, Cond.fieldLink RX4 9 "SwitchGraphs$Parts" "smallest" "[I", Cond.fieldLink RX4 15 "SwitchGraphs$Parts" "steps" "[I", Cond.fieldLink RX4 18 "SwitchGraphs$Parts" "size" "I"]
def wsL_law0_r5 : List Cond := [Cond.instanceMethod yX7_init, Cond.code yX7_init cX7_init 1 none, Cond.methodLink RX7 3 objectInit, Cond.fieldLink RX7 9 "SwitchGraphs$SwitchList" "codes" "[I", Cond.fieldLink RX7 15 "SwitchGraphs$SwitchList" "size" "I", Cond.instanceMethod yX8_init, Cond.code yX8_init cX8_init 1 none, Cond.methodLink RX8 3 objectInit, Cond.fieldLink RX8 9 "SwitchGraphs$Trail" "codes" "[I", Cond.classLink RX8 15 RX1, Cond.fieldLink RX8 18 "SwitchGraphs$Trail" "walker" "LSwitchGraphs$Graph;", Cond.fieldLink RX8 22 "SwitchGraphs$Trail" "size" "I", Cond.methodLink RX9 62 yX2_init, Cond.instanceMethod yX2_init, Cond.code yX2_init cX2_init 2 none, Cond.methodLink RX2 1 objectInit, Cond.classLink RX2 9 RX1, Cond.fieldLink RX2 11 "SwitchGraphs$History" "graphs" "[LSwitchGraphs$Graph;", Cond.fieldLink RX2 15 "SwitchGraphs$History" "targets" "[LSwitchGraphs$Graph;", Cond.fieldLink RX2 18 "SwitchGraphs$History" "modes" "[I", Cond.fieldLink RX2 22 "SwitchGraphs$History" "size" "I", Cond.fieldLink RX2 26 "SwitchGraphs$History" "next" "I", Cond.instanceMethod yX3_init, Cond.code yX3_init cX3_init 1 none]
def wsL_law0_r6 : List Cond := [Cond.methodLink RX3 3 objectInit, Cond.arrayClass .char, Cond.fieldLink RX3 9 "SwitchGraphs$Output" "signs" "[C", Cond.fieldLink RX3 15 "SwitchGraphs$Output" "size" "I", Cond.methodLink RL 59 yL_told, Cond.instanceMethod yL_told, Cond.selects RL yL_told yL_told, Cond.code yL_told cL_told 8 (some (.object "java/lang/String")), Cond.fieldLink RL 100 "SwitchGraphsLaw" "mode" "I", Cond.classLink RL 105 RJ4, Cond.instantiable RJ4 4, Cond.initialized RJ4, Cond.methodLink RL 126 Lib.Math.min.name, Cond.static Lib.Math.min.name, Cond.initialized "java/lang/Math", Cond.code Lib.Math.min.name Lib.Math.min.code 2 (some .int), Cond.methodLink RL 131 Lib.Math.max.name, Cond.static Lib.Math.max.name, Cond.code Lib.Math.max.name Lib.Math.max.code 2 (some .int), Cond.methodLink RL 97 yL_from, Cond.instanceMethod yL_from, Cond.selects RL yL_from yL_from, Cond.code yL_from cL_from 3 (some .int), Cond.methodLink RL 54 yL_chosen]
def wsL_law0_r7 : List Cond := [Cond.instanceMethod yL_chosen, Cond.selects RL yL_chosen yL_chosen, Cond.code yL_chosen cL_chosen 3 (some .int), Cond.fieldLink RL 42 "SwitchGraphsLaw" "at" "I", Cond.methodLink RL 46 yL_cell, Cond.static yL_cell, Cond.code yL_cell cL_cell 2 (some .int), Cond.methodLink RL 50 yL_among, Cond.static yL_among, Cond.code yL_among cL_among 3 (some .int), Cond.methodLink RL 107 yJ4_init_da8c8, Cond.instanceMethod yJ4_init_da8c8, Cond.code yJ4_init_da8c8 cJ4_init_da8c8 1 none, Cond.methodLink RJ4 1 yJ5_init_d00df, Cond.instanceMethod yJ5_init_d00df, Cond.initialized RJ5, Cond.code yJ5_init_d00df cJ5_init_d00df 2 none, Cond.methodLink RJ5 3 objectInit, Cond.fieldLink RJ5 18 "java/lang/String" "COMPACT_STRINGS" "Z", Cond.fieldLink RJ5 15 "java/lang/AbstractStringBuilder" "value" "[B", Cond.fieldLink RJ5 22 "java/lang/AbstractStringBuilder" "coder" "B", Cond.methodLink RJ5 26 yJ2_newBytesFor_77867, Cond.static yJ2_newBytesFor_77867, Cond.initialized RJ2]
def wsL_law0_r8 : List Cond := [Cond.code yJ2_newBytesFor_77867 cJ2_newBytesFor_77867 1 (some (.array .byte)), Cond.methodLink RJ2 11 yJ2_newBytesLength_0f7a4, Cond.static yJ2_newBytesLength_0f7a4, Cond.code yJ2_newBytesLength_0f7a4 cJ2_newBytesLength_0f7a4 1 (some .int), Cond.constant RJ2 20 (1073741823), Cond.methodLink RL 108 yJ4_append_15ec4, Cond.instanceMethod yJ4_append_15ec4, Cond.selects RJ4 yJ4_append_15ec4 yJ4_append_15ec4, Cond.code yJ4_append_15ec4 cJ4_append_15ec4 2 (some (.object "java/lang/StringBuilder")), Cond.methodLink RJ4 29 yJ5_append_cf1ce, Cond.sameMethod "java/lang/AbstractStringBuilder" "java/lang/AbstractStringBuilder" "append" "(Ljava/lang/String;)Ljava/lang/AbstractStringBuilder;", Cond.superclass RJ4 RJ5, Cond.instanceMethod yJ5_append_cf1ce, Cond.code yJ5_append_cf1ce cJ5_append_cf1ce 3 (some (.object "java/lang/AbstractStringBuilder")), Cond.fieldLink RJ5 79 "java/lang/AbstractStringBuilder" "count" "I", Cond.methodLink RJ5 204 ⟨"java/lang/AbstractStringBuilder", "appendNull", "()Ljava/lang/AbstractStringBuilder;"⟩, Cond.sameMethod "java/lang/AbstractStringBuilder" "java/lang/AbstractStringBuilder" "appendNull" "()Ljava/lang/AbstractStringBuilder;", Cond.instanceMethod yJ5_appendNull_278bc, Cond.code yJ5_appendNull_278bc cJ5_appendNull_278bc 3 (some (.object "java/lang/AbstractStringBuilder")), Cond.methodLink RJ5 100 ⟨"java/lang/AbstractStringBuilder", "ensureCapacityInternal", "(I)V"⟩, Cond.sameMethod "java/lang/AbstractStringBuilder" "java/lang/AbstractStringBuilder" "ensureCapacityInternal" "(I)V", Cond.instanceMethod yJ5_ensureCapacityInternal_d00df]
def wsL_law0_r9 : List Cond := [Cond.code yJ5_ensureCapacityInternal_d00df cJ5_ensureCapacityInternal_d00df 3 none, Cond.methodLink RJ5 104 ⟨"java/lang/AbstractStringBuilder", "newCapacity", "(I)I"⟩, Cond.sameMethod "java/lang/AbstractStringBuilder" "java/lang/AbstractStringBuilder" "newCapacity" "(I)I", Cond.instanceMethod yJ5_newCapacity_0f7a4, Cond.code yJ5_newCapacity_0f7a4 cJ5_newCapacity_0f7a4 6 (some .int), Cond.constant RJ5 39 (2147483647), Cond.methodLink RJ5 114 yJ8_newLength_cabcc, Cond.static yJ8_newLength_cabcc, Cond.initialized RJ8, Cond.code yJ8_newLength_cabcc cJ8_newLength_cabcc 4 (some .int), Cond.methodLink RJ8 194 Lib.Math.max.name, Cond.constant RJ8 200 (2147483639), Cond.methodLink RJ8 201 yJ8_hugeLength_7cf53, Cond.static yJ8_hugeLength_7cf53, Cond.code yJ8_hugeLength_7cf53 cJ8_hugeLength_7cf53 3 (some .int), Cond.methodLink RJ5 108 yJ7_copyOf_9075b, Cond.static yJ7_copyOf_9075b, Cond.initialized RJ7, Cond.code yJ7_copyOf_9075b cJ7_copyOf_9075b 3 (some (.array .byte)), Cond.methodLink RJ7 310 ⟨"[B", "clone", "()Ljava/lang/Object;"⟩, Cond.sameMethod "[B" "java/lang/Object" "clone" "()Ljava/lang/Object;", Cond.native ⟨"java/lang/Object", "clone", "()Ljava/lang/Object;"⟩, Cond.instanceMethod ⟨"java/lang/Object", "clone", "()Ljava/lang/Object;"⟩]
def wsL_law0_r10 : List Cond := [Cond.selects "[B" ⟨"[B", "clone", "()Ljava/lang/Object;"⟩ ⟨"java/lang/Object", "clone", "()Ljava/lang/Object;"⟩, Cond.classLink RJ7 311 "[B", Cond.methodLink RJ7 304 Lib.Math.min.name, Cond.methodLink RJ7 150 arraycopyName, Cond.native arraycopyName, Cond.static arraycopyName, Cond.initialized "java/lang/System", Cond.methodLink RJ5 83 ⟨"java/lang/AbstractStringBuilder", "isLatin1", "()Z"⟩, Cond.sameMethod "java/lang/AbstractStringBuilder" "java/lang/AbstractStringBuilder" "isLatin1" "()Z", Cond.selects RJ4 ⟨"java/lang/AbstractStringBuilder", "isLatin1", "()Z"⟩ yJ5_isLatin1_aae02, Cond.instanceMethod yJ5_isLatin1_aae02, Cond.code yJ5_isLatin1_aae02 cJ5_isLatin1_aae02 1 (some .boolean), Cond.methodLink RJ5 226 yJ2_putCharsAt_cd4e5, Cond.static yJ2_putCharsAt_cd4e5, Cond.code yJ2_putCharsAt_cd4e5 cJ2_putCharsAt_cd4e5 7 (some .int), Cond.fieldLink RJ2 44 "java/lang/StringUTF16" "$assertionsDisabled" "Z", Cond.methodLink RJ2 96 yJ2_checkBoundsBeginEnd_d044e, Cond.static yJ2_checkBoundsBeginEnd_d044e, Cond.code yJ2_checkBoundsBeginEnd_d044e cJ2_checkBoundsBeginEnd_d044e 3 none, Cond.methodLink RJ2 48 yJ2_length_9d52b, Cond.static yJ2_length_9d52b, Cond.code yJ2_length_9d52b cJ2_length_9d52b 1 (some .int), Cond.methodLink RJ2 241 yJ0_checkBoundsBeginEnd_23922, Cond.static yJ0_checkBoundsBeginEnd_23922]
def wsL_law0_r11 : List Cond := [Cond.initialized RJ0, Cond.code yJ0_checkBoundsBeginEnd_23922 cJ0_checkBoundsBeginEnd_23922 3 none, Cond.fieldLink RJ0 1053 "jdk/internal/util/Preconditions" "SIOOBE_FORMATTER" "Ljava/util/function/BiFunction;", Cond.methodLink RJ0 1062 yJ3_checkFromToIndex_8c36e, Cond.static yJ3_checkFromToIndex_8c36e, Cond.initialized RJ3, Cond.code yJ3_checkFromToIndex_8c36e cJ3_checkFromToIndex_8c36e 4 (some .int), Cond.methodLink RJ2 111 yJ2_putChar_b72d1, Cond.static yJ2_putChar_b72d1, Cond.code yJ2_putChar_b72d1 cJ2_putChar_b72d1 3 none, Cond.fieldLink RJ2 59 "java/lang/StringUTF16" "HI_BYTE_SHIFT" "I", Cond.fieldLink RJ2 63 "java/lang/StringUTF16" "LO_BYTE_SHIFT" "I", Cond.methodLink RJ5 32 yJ0_length_8abf5, Cond.instanceMethod yJ0_length_8abf5, Cond.selects RJ0 yJ0_length_8abf5 yJ0_length_8abf5, Cond.code yJ0_length_8abf5 cJ0_length_8abf5 1 (some .int), Cond.fieldLink RJ0 9 "java/lang/String" "value" "[B", Cond.methodLink RJ0 335 yJ0_coder_7d493, Cond.instanceMethod yJ0_coder_7d493, Cond.selects RJ0 yJ0_coder_7d493 yJ0_coder_7d493, Cond.code yJ0_coder_7d493 cJ0_coder_7d493 1 (some .byte), Cond.fieldLink RJ0 38 "java/lang/String" "COMPACT_STRINGS" "Z", Cond.fieldLink RJ0 15 "java/lang/String" "coder" "B", Cond.methodLink RJ5 208 ⟨"java/lang/AbstractStringBuilder", "putStringAt", "(ILjava/lang/String;)V"⟩]
def wsL_law0_r12 : List Cond := [Cond.sameMethod "java/lang/AbstractStringBuilder" "java/lang/AbstractStringBuilder" "putStringAt" "(ILjava/lang/String;)V", Cond.instanceMethod yJ5_putStringAt_47b60, Cond.code yJ5_putStringAt_47b60 cJ5_putStringAt_47b60 3 none, Cond.methodLink RJ5 397 ⟨"java/lang/AbstractStringBuilder", "inflateIfNeededFor", "(Ljava/lang/String;)V"⟩, Cond.sameMethod "java/lang/AbstractStringBuilder" "java/lang/AbstractStringBuilder" "inflateIfNeededFor" "(Ljava/lang/String;)V", Cond.instanceMethod yJ5_inflateIfNeededFor_a7421, Cond.code yJ5_inflateIfNeededFor_a7421 cJ5_inflateIfNeededFor_a7421 2 none, Cond.methodLink RJ5 40 yJ0_coder_7d493, Cond.methodLink RJ5 195 ⟨"java/lang/AbstractStringBuilder", "inflate", "()V"⟩, Cond.sameMethod "java/lang/AbstractStringBuilder" "java/lang/AbstractStringBuilder" "inflate" "()V", Cond.instanceMethod yJ5_inflate_da8c8, Cond.code yJ5_inflate_da8c8 cJ5_inflate_da8c8 2 none, Cond.methodLink RJ5 125 yJ1_inflate_0e8fd, Cond.static yJ1_inflate_0e8fd, Cond.initialized RJ1, Cond.code yJ1_inflate_0e8fd cJ1_inflate_0e8fd 5 none, Cond.methodLink RJ1 240 yJ2_inflate_0e8fd, Cond.static yJ2_inflate_0e8fd, Cond.code yJ2_inflate_0e8fd cJ2_inflate_0e8fd 6 none, Cond.methodLink RJ2 173 yJ2_checkBoundsOffCount_d044e, Cond.static yJ2_checkBoundsOffCount_d044e]
def wsL_law0_r13 : List Cond := [Cond.code yJ2_checkBoundsOffCount_d044e cJ2_checkBoundsOffCount_d044e 3 none, Cond.methodLink RJ2 419 yJ0_checkBoundsOffCount_cabcc, Cond.static yJ0_checkBoundsOffCount_cabcc, Cond.code yJ0_checkBoundsOffCount_cabcc cJ0_checkBoundsOffCount_cabcc 3 (some .int), Cond.methodLink RJ0 1065 yJ3_checkFromIndexSize_8c36e, Cond.static yJ3_checkFromIndexSize_8c36e, Cond.code yJ3_checkFromIndexSize_8c36e cJ3_checkFromIndexSize_8c36e 4 (some .int), Cond.methodLink RJ5 399 yJ0_getBytes_840e7, Cond.instanceMethod yJ0_getBytes_840e7, Cond.selects RJ0 yJ0_getBytes_840e7 yJ0_getBytes_840e7, Cond.code yJ0_getBytes_840e7 cJ0_getBytes_840e7 4 none, Cond.methodLink RJ0 212 arraycopyName, Cond.methodLink RJ0 106 yJ1_inflate_0e8fd, Cond.methodLink RL 114 yJ4_append_bf812, Cond.instanceMethod yJ4_append_bf812, Cond.selects RJ4 yJ4_append_bf812 yJ4_append_bf812, Cond.code yJ4_append_bf812 cJ4_append_bf812 2 (some (.object "java/lang/StringBuilder")), Cond.methodLink RJ4 53 yJ5_append_c97b9, Cond.sameMethod "java/lang/AbstractStringBuilder" "java/lang/AbstractStringBuilder" "append" "(I)Ljava/lang/AbstractStringBuilder;", Cond.instanceMethod yJ5_append_c97b9, Cond.code yJ5_append_c97b9 cJ5_append_c97b9 4 (some (.object "java/lang/AbstractStringBuilder")), Cond.methodLink RJ5 245 yJ6_stringSize_0f7a4, Cond.static yJ6_stringSize_0f7a4, Cond.initialized RJ6]
def wsL_law0_r14 : List Cond := [Cond.code yJ6_stringSize_0f7a4 cJ6_stringSize_0f7a4 4 (some .int), Cond.methodLink RJ5 248 yJ6_getChars_ba4f3, Cond.static yJ6_getChars_ba4f3, Cond.code yJ6_getChars_ba4f3 cJ6_getChars_ba4f3 7 (some .int), Cond.fieldLink RJ6 83 "java/lang/Integer" "DigitOnes" "[B", Cond.fieldLink RJ6 87 "java/lang/Integer" "DigitTens" "[B", Cond.methodLink RJ5 251 yJ2_getChars_46870, Cond.static yJ2_getChars_46870, Cond.code yJ2_getChars_46870 cJ2_getChars_46870 5 (some .int), Cond.methodLink RJ2 393 yJ2_getChars_ba4f3, Cond.static yJ2_getChars_ba4f3, Cond.code yJ2_getChars_ba4f3 cJ2_getChars_ba4f3 7 (some .int), Cond.fieldLink RJ2 403 "java/lang/Integer" "DigitOnes" "[B", Cond.fieldLink RJ2 407 "java/lang/Integer" "DigitTens" "[B", Cond.methodLink RL 117 yJ4_toString_0e30d, Cond.instanceMethod yJ4_toString_0e30d, Cond.selects RJ4 yJ4_toString_0e30d yJ4_toString_0e30d, Cond.code yJ4_toString_0e30d cJ4_toString_0e30d 1 (some (.object "java/lang/String")), Cond.classLink RJ4 18 RJ0, Cond.instantiable RJ0 4, Cond.methodLink RJ4 137 yJ0_init_81219, Cond.instanceMethod yJ0_init_81219, Cond.code yJ0_init_81219 cJ0_init_81219 2 none, Cond.methodLink RJ0 489 yJ0_init_db425]
def wsL_law0_r15 : List Cond := [Cond.instanceMethod yJ0_init_db425, Cond.code yJ0_init_db425 cJ0_init_db425 5 none, Cond.methodLink RJ0 1 objectInit, Cond.fieldLink RJ0 1048 "java/lang/AbstractStringBuilder" "maybeLatin1" "Z", Cond.methodLink RJ0 552 ⟨"java/lang/AbstractStringBuilder", "getValue", "()[B"⟩, Cond.sameMethod "java/lang/AbstractStringBuilder" "java/lang/AbstractStringBuilder" "getValue" "()[B", Cond.selects RJ4 ⟨"java/lang/AbstractStringBuilder", "getValue", "()[B"⟩ yJ5_getValue_6d5f1, Cond.instanceMethod yJ5_getValue_6d5f1, Cond.code yJ5_getValue_6d5f1 cJ5_getValue_6d5f1 1 (some (.array .byte)), Cond.methodLink RJ0 549 ⟨"java/lang/AbstractStringBuilder", "length", "()I"⟩, Cond.sameMethod "java/lang/AbstractStringBuilder" "java/lang/AbstractStringBuilder" "length" "()I", Cond.instanceMethod ⟨"java/lang/AbstractStringBuilder", "length", "()I"⟩, Cond.selects RJ4 ⟨"java/lang/AbstractStringBuilder", "length", "()I"⟩ yJ4_length_8abf5, Cond.instanceMethod yJ4_length_8abf5, Cond.code yJ4_length_8abf5 cJ4_length_8abf5 1 (some .int), Cond.methodLink RJ4 343 yJ5_length_8abf5, Cond.instanceMethod yJ5_length_8abf5, Cond.code yJ5_length_8abf5 cJ5_length_8abf5 1 (some .int), Cond.methodLink RJ0 1047 ⟨"java/lang/AbstractStringBuilder", "isLatin1", "()Z"⟩, Cond.methodLink RJ0 54 yJ7_copyOfRange_39247, Cond.static yJ7_copyOfRange_39247, Cond.code yJ7_copyOfRange_39247 cJ7_copyOfRange_39247 3 (some (.array .byte)), Cond.methodLink RJ7 339 yJ7_copyOfRangeByte_39247, Cond.static yJ7_copyOfRangeByte_39247]
def wsL_law0_r16 : List Cond := [Cond.code yJ7_copyOfRangeByte_39247 cJ7_copyOfRangeByte_39247 5 (some (.array .byte)), Cond.methodLink RJ7 343 yJ7_checkLength_df160, Cond.static yJ7_checkLength_df160, Cond.code yJ7_checkLength_df160 cJ7_checkLength_df160 2 none, Cond.classLink RJ7 45 RJ4, Cond.methodLink RJ0 1051 yJ2_compress_39247, Cond.static yJ2_compress_39247, Cond.code yJ2_compress_39247 cJ2_compress_39247 6 (some (.array .byte)), Cond.methodLink RJ2 123 yJ2_compress_5af95, Cond.static yJ2_compress_5af95, Cond.code yJ2_compress_5af95 cJ2_compress_5af95 7 (some .int), Cond.methodLink RJ2 71 yJ2_getChar_3b067, Cond.static yJ2_getChar_3b067, Cond.code yJ2_getChar_3b067 cJ2_getChar_3b067 2 (some .char), Cond.methodLink RJ2 126 yJ7_copyOfRange_39247, Cond.methodLink RJ0 47 yJ2_coderFromArrayLen_85cad, Cond.static yJ2_coderFromArrayLen_85cad, Cond.code yJ2_coderFromArrayLen_85cad cJ2_coderFromArrayLen_85cad 2 (some .byte), Cond.methodLink RL 63 yL_load, Cond.static yL_load, Cond.code yL_load cL_load 3 (some .int), Cond.methodLink RL 18 yJ0_length_8abf5, Cond.methodLink RL 28 yL_four, Cond.static yL_four]
def wsL_law0_r17 : List Cond := [Cond.code yL_four cL_four 4 (some .int), Cond.methodLink RL 24 yJ0_charAt_5068e, Cond.instanceMethod yJ0_charAt_5068e, Cond.selects RJ0 yJ0_charAt_5068e yJ0_charAt_5068e, Cond.code yJ0_charAt_5068e cJ0_charAt_5068e 2 (some .char), Cond.methodLink RJ0 492 yJ0_isLatin1_aae02, Cond.instanceMethod yJ0_isLatin1_aae02, Cond.selects RJ0 yJ0_isLatin1_aae02 yJ0_isLatin1_aae02, Cond.code yJ0_isLatin1_aae02 cJ0_isLatin1_aae02 1 (some .boolean), Cond.methodLink RJ0 495 yJ1_charAt_3b067, Cond.static yJ1_charAt_3b067, Cond.code yJ1_charAt_3b067 cJ1_charAt_3b067 2 (some .char), Cond.methodLink RJ1 9 yJ0_checkIndex_df160, Cond.static yJ0_checkIndex_df160, Cond.code yJ0_checkIndex_df160 cJ0_checkIndex_df160 2 none, Cond.methodLink RJ0 1059 yJ3_checkIndex_8e157, Cond.static yJ3_checkIndex_8e157, Cond.code yJ3_checkIndex_8e157 cJ3_checkIndex_8e157 3 (some .int), Cond.methodLink RJ0 498 yJ2_charAt_3b067, Cond.static yJ2_charAt_3b067, Cond.code yJ2_charAt_3b067 cJ2_charAt_3b067 2 (some .char), Cond.methodLink RJ2 67 yJ2_checkIndex_2214a, Cond.static yJ2_checkIndex_2214a, Cond.code yJ2_checkIndex_2214a cJ2_checkIndex_2214a 2 none]
def wsL_law0_r18 : List Cond := [Cond.methodLink RJ2 414 yJ0_checkIndex_df160, Cond.methodLink RL 32 yX9_feed, Cond.instanceMethod yX9_feed, Cond.selects RX9 yX9_feed yX9_feed, Cond.code yX9_feed cX9_feed 6 (some .int), Cond.methodLink RX9 78 yX5_hasRoom, Cond.instanceMethod yX5_hasRoom, Cond.selects RX5 yX5_hasRoom yX5_hasRoom, Cond.code yX5_hasRoom cX5_hasRoom 1 (some .boolean), Cond.methodLink RX9 82 yX5_append, Cond.instanceMethod yX5_append, Cond.selects RX5 yX5_append yX5_append, Cond.code yX5_append cX5_append 3 none, Cond.methodLink RX9 86 yX5_fedBytes, Cond.instanceMethod yX5_fedBytes, Cond.selects RX5 yX5_fedBytes yX5_fedBytes, Cond.code yX5_fedBytes cX5_fedBytes 1 (some .int), Cond.methodLink RL 38 yX9_load, Cond.instanceMethod yX9_load, Cond.selects RX9 yX9_load yX9_load, Cond.code yX9_load cX9_load 2 (some .int), Cond.classLink RX9 90 "java/lang/IllegalArgumentException", Cond.initialized "java/lang/IllegalArgumentException", Cond.methodLink RX9 97 yX5_readText]
def wsL_law0_r19 : List Cond := [Cond.instanceMethod yX5_readText, Cond.selects RX5 yX5_readText yX5_readText, Cond.code yX5_readText cX5_readText 4 (some .boolean), Cond.methodLink RX5 60 Lib.Math.min.name, Cond.methodLink RX5 66 yX5_advance, Cond.instanceMethod yX5_advance, Cond.selects RX5 yX5_advance yX5_advance, Cond.code yX5_advance cX5_advance 1 none, Cond.methodLink RX5 150 yX5_byteAt, Cond.instanceMethod yX5_byteAt, Cond.selects RX5 yX5_byteAt yX5_byteAt, Cond.code yX5_byteAt cX5_byteAt 2 (some .int), Cond.methodLink RX5 158 yX5_isBlank, Cond.static yX5_isBlank, Cond.code yX5_isBlank cX5_isBlank 1 (some .boolean), Cond.methodLink RX5 161 yX5_isLetter, Cond.static yX5_isLetter, Cond.code yX5_isLetter cX5_isLetter 1 (some .boolean), Cond.methodLink RX5 164 yX5_takeWord, Cond.instanceMethod yX5_takeWord, Cond.selects RX5 yX5_takeWord yX5_takeWord, Cond.code yX5_takeWord cX5_takeWord 1 none, Cond.methodLink RX5 167 yX5_isDigit, Cond.static yX5_isDigit]
def wsL_law0_r20 : List Cond := [Cond.code yX5_isDigit cX5_isDigit 1 (some .boolean), Cond.methodLink RX5 170 yX5_takeNumber, Cond.instanceMethod yX5_takeNumber, Cond.selects RX5 yX5_takeNumber yX5_takeNumber, Cond.code yX5_takeNumber cX5_takeNumber 1 none, Cond.methodLink RX5 69 yX5_readFirst, Cond.instanceMethod yX5_readFirst, Cond.selects RX5 yX5_readFirst yX5_readFirst, Cond.code yX5_readFirst cX5_readFirst 1 (some .boolean), Cond.methodLink RX5 76 yX5_begin, Cond.instanceMethod yX5_begin, Cond.selects RX5 yX5_begin yX5_begin, Cond.code yX5_begin cX5_begin 2 none, Cond.methodLink RX5 145 yX1_clear, Cond.instanceMethod yX1_clear, Cond.selects RX1 yX1_clear yX1_clear, Cond.code yX1_clear cX1_clear 3 none, Cond.methodLink RX5 82 yX5_isWord, Cond.instanceMethod yX5_isWord, Cond.selects RX5 yX5_isWord yX5_isWord, Cond.code yX5_isWord cX5_isWord 3 (some .boolean), Cond.methodLink RX5 147 yJ0_length_8abf5, Cond.methodLink RX5 154 yJ0_charAt_5068e, Cond.methodLink RX5 86 yX5_readVertices]
def wsL_law0_r21 : List Cond := [Cond.instanceMethod yX5_readVertices, Cond.selects RX5 yX5_readVertices yX5_readVertices, Cond.code yX5_readVertices cX5_readVertices 1 (some .boolean), Cond.methodLink RX5 109 yX5_expectNumber, Cond.instanceMethod yX5_expectNumber, Cond.selects RX5 yX5_expectNumber yX5_expectNumber, Cond.code yX5_expectNumber cX5_expectNumber 3 (some .boolean), Cond.methodLink RX5 94 yX5_fail, Cond.instanceMethod yX5_fail, Cond.selects RX5 yX5_fail yX5_fail, Cond.code yX5_fail cX5_fail 2 (some .boolean), Cond.methodLink RX5 113 yX5_expectSemicolon, Cond.instanceMethod yX5_expectSemicolon, Cond.selects RX5 yX5_expectSemicolon yX5_expectSemicolon, Cond.code yX5_expectSemicolon cX5_expectSemicolon 1 (some .boolean), Cond.methodLink RX5 91 yX5_readDegrees, Cond.instanceMethod yX5_readDegrees, Cond.selects RX5 yX5_readDegrees yX5_readDegrees, Cond.code yX5_readDegrees cX5_readDegrees 2 (some .boolean), Cond.methodLink RX5 116 yX6_clear, Cond.instanceMethod yX6_clear, Cond.selects RX6 yX6_clear yX6_clear, Cond.code yX6_clear cX6_clear 1 none, Cond.methodLink RX5 119 yX6_isFull]
def wsL_law0_r22 : List Cond := [Cond.instanceMethod yX6_isFull, Cond.selects RX6 yX6_isFull yX6_isFull, Cond.code yX6_isFull cX6_isFull 1 (some .boolean), Cond.methodLink RX5 122 yX6_append, Cond.instanceMethod yX6_append, Cond.selects RX6 yX6_append yX6_append, Cond.code yX6_append cX6_append 2 none, Cond.methodLink RX6 28 yX6_isFull, Cond.methodLink RX6 32 yX6_insertFalling, Cond.instanceMethod yX6_insertFalling, Cond.selects RX6 yX6_insertFalling yX6_insertFalling, Cond.code yX6_insertFalling cX6_insertFalling 3 none, Cond.methodLink RX5 125 yX6_total, Cond.instanceMethod yX6_total, Cond.selects RX6 yX6_total yX6_total, Cond.code yX6_total cX6_total 1 (some .int), Cond.methodLink RX5 129 yX6_length, Cond.instanceMethod yX6_length, Cond.selects RX6 yX6_length yX6_length, Cond.code yX6_length cX6_length 1 (some .int), Cond.methodLink RX5 131 yX6_build, Cond.instanceMethod yX6_build, Cond.selects RX6 yX6_build yX6_build, Cond.code yX6_build cX6_build 4 none]
def wsL_law0_r23 : List Cond := [Cond.methodLink RX6 64 yX1_clear, Cond.methodLink RX6 66 yX6_buildWithLoops, Cond.instanceMethod yX6_buildWithLoops, Cond.selects RX6 yX6_buildWithLoops yX6_buildWithLoops, Cond.code yX6_buildWithLoops cX6_buildWithLoops 4 none, Cond.methodLink RX6 76 yX1_put, Cond.instanceMethod yX1_put, Cond.selects RX1 yX1_put yX1_put, Cond.code yX1_put cX1_put 4 none, Cond.methodLink RX6 70 yX6_buildWithoutLoops, Cond.instanceMethod yX6_buildWithoutLoops, Cond.selects RX6 yX6_buildWithoutLoops yX6_buildWithoutLoops, Cond.code yX6_buildWithoutLoops cX6_buildWithoutLoops 4 none, Cond.methodLink RX6 80 yX6_neediestBut, Cond.instanceMethod yX6_neediestBut, Cond.selects RX6 yX6_neediestBut yX6_neediestBut, Cond.code yX6_neediestBut cX6_neediestBut 5 (some .int), Cond.methodLink RX6 83 yX6_join, Cond.instanceMethod yX6_join, Cond.selects RX6 yX6_join yX6_join, Cond.code yX6_join cX6_join 4 none, Cond.methodLink RX6 73 yX6_buildSimple, Cond.instanceMethod yX6_buildSimple, Cond.selects RX6 yX6_buildSimple yX6_buildSimple]
def wsL_law0_r24 : List Cond := [Cond.code yX6_buildSimple cX6_buildSimple 7 none, Cond.methodLink RX6 52 Lib.Math.min.name, Cond.methodLink RX5 73 yX5_readOther, Cond.instanceMethod yX5_readOther, Cond.selects RX5 yX5_readOther yX5_readOther, Cond.code yX5_readOther cX5_readOther 1 (some .boolean), Cond.methodLink RX5 100 yX5_readEdge, Cond.instanceMethod yX5_readEdge, Cond.selects RX5 yX5_readEdge yX5_readEdge, Cond.code yX5_readEdge cX5_readEdge 6 (some .boolean), Cond.methodLink RX5 135 yX1_vertexCount, Cond.instanceMethod yX1_vertexCount, Cond.selects RX1 yX1_vertexCount yX1_vertexCount, Cond.code yX1_vertexCount cX1_vertexCount 1 (some .int), Cond.methodLink RX5 138 yX1_edgeCount, Cond.instanceMethod yX1_edgeCount, Cond.selects RX1 yX1_edgeCount yX1_edgeCount, Cond.code yX1_edgeCount cX1_edgeCount 1 (some .int), Cond.methodLink RX5 141 yX1_put, Cond.methodLink RX5 106 yX5_readModeNumber, Cond.instanceMethod yX5_readModeNumber, Cond.selects RX5 yX5_readModeNumber yX5_readModeNumber, Cond.code yX5_readModeNumber cX5_readModeNumber 1 (some .boolean), Cond.methodLink RX9 101 yX5_readGraph]
def wsL_law0_r25 : List Cond := [Cond.instanceMethod yX5_readGraph, Cond.selects RX5 yX5_readGraph yX5_readGraph, Cond.code yX5_readGraph cX5_readGraph 1 (some (.object "SwitchGraphs$Graph")), Cond.methodLink RX9 105 yX1_become, Cond.instanceMethod yX1_become, Cond.selects RX1 yX1_become yX1_become, Cond.code yX1_become cX1_become 3 none, Cond.methodLink RX9 109 yX5_readTarget, Cond.instanceMethod yX5_readTarget, Cond.selects RX5 yX5_readTarget yX5_readTarget, Cond.code yX5_readTarget cX5_readTarget 1 (some (.object "SwitchGraphs$Graph")), Cond.methodLink RX9 112 yX5_readMode, Cond.instanceMethod yX5_readMode, Cond.selects RX5 yX5_readMode yX5_readMode, Cond.code yX5_readMode cX5_readMode 1 (some .int), Cond.methodLink RX9 115 yX2_forget, Cond.instanceMethod yX2_forget, Cond.selects RX2 yX2_forget yX2_forget, Cond.code yX2_forget cX2_forget 1 none, Cond.methodLink RX9 118 yX1_edgeCount, Cond.methodLink RL 66 yL_edges, Cond.instanceMethod yL_edges, Cond.selects RL yL_edges yL_edges, Cond.code yL_edges cL_edges 4 (some .int)]
def wsL_law0_r26 : List Cond := [Cond.methodLink RL 69 yX9_errorKind, Cond.instanceMethod yX9_errorKind, Cond.selects RX9 yX9_errorKind yX9_errorKind, Cond.code yX9_errorKind cX9_errorKind 1 (some .int), Cond.methodLink RX9 121 yX5_kindOfError, Cond.instanceMethod yX5_kindOfError, Cond.selects RX5 yX5_kindOfError yX5_kindOfError, Cond.code yX5_kindOfError cX5_kindOfError 1 (some .int), Cond.methodLink RL 72 yX9_vertices, Cond.instanceMethod yX9_vertices, Cond.selects RX9 yX9_vertices yX9_vertices, Cond.code yX9_vertices cX9_vertices 1 (some .int), Cond.methodLink RX9 127 yX1_vertexCount, Cond.methodLink RL 78 yL_isGraph, Cond.instanceMethod yL_isGraph, Cond.selects RL yL_isGraph yL_isGraph, Cond.code yL_isGraph cL_isGraph 9 (some .boolean), Cond.constantDouble RL 167 (4611686018427387904), Cond.methodLink RL 137 yX9_degree, Cond.instanceMethod yX9_degree, Cond.selects RX9 yX9_degree yX9_degree, Cond.code yX9_degree cX9_degree 3 (some .int), Cond.methodLink RX9 134 yX9_checkVertex, Cond.instanceMethod yX9_checkVertex]
def wsL_law0_r27 : List Cond := [Cond.selects RX9 yX9_checkVertex yX9_checkVertex, Cond.code yX9_checkVertex cX9_checkVertex 2 none, Cond.classLink RX9 188 "java/lang/IndexOutOfBoundsException", Cond.initialized "java/lang/IndexOutOfBoundsException", Cond.methodLink RX9 130 yX9_choose, Cond.instanceMethod yX9_choose, Cond.selects RX9 yX9_choose yX9_choose, Cond.code yX9_choose cX9_choose 2 (some (.object "SwitchGraphs$Graph")), Cond.methodLink RX9 141 yX1_degreeOf, Cond.instanceMethod yX1_degreeOf, Cond.selects RX1 yX1_degreeOf yX1_degreeOf, Cond.code yX1_degreeOf cX1_degreeOf 4 (some .int), Cond.methodLink RX1 32 yX1_between, Cond.instanceMethod yX1_between, Cond.selects RX1 yX1_between yX1_between, Cond.code yX1_between cX1_between 3 (some .int), Cond.methodLink RL 141 yL_degree, Cond.instanceMethod yL_degree, Cond.selects RL yL_degree yL_degree, Cond.code yL_degree cL_degree 4 (some .int), Cond.methodLink RL 134 yL_many, Cond.instanceMethod yL_many, Cond.selects RL yL_many yL_many, Cond.code yL_many cL_many 3 (some .int)]
def wsL_law0_r28 : List Cond := [Cond.methodLink RL 143 yX9_times, Cond.instanceMethod yX9_times, Cond.selects RX9 yX9_times yX9_times, Cond.code yX9_times cX9_times 4 (some .int), Cond.methodLink RX9 137 yX1_between, Cond.methodLink RL 147 yX9_loops, Cond.instanceMethod yX9_loops, Cond.selects RX9 yX9_loops yX9_loops, Cond.code yX9_loops cX9_loops 1 (some .int), Cond.methodLink RX9 145 yX1_loopCount, Cond.instanceMethod yX1_loopCount, Cond.selects RX1 yX1_loopCount yX1_loopCount, Cond.code yX1_loopCount cX1_loopCount 3 (some .int), Cond.methodLink RL 150 yX9_defects, Cond.instanceMethod yX9_defects, Cond.selects RX9 yX9_defects yX9_defects, Cond.code yX9_defects cX9_defects 1 (some .int), Cond.methodLink RX9 148 yX1_defectCount, Cond.instanceMethod yX1_defectCount, Cond.selects RX1 yX1_defectCount yX1_defectCount, Cond.code yX1_defectCount cX1_defectCount 4 (some .int), Cond.methodLink RX1 39 Lib.Math.max.name, Cond.methodLink RX1 35 yX1_loopCount, Cond.methodLink RL 153 yX9_isSimple]
def wsL_law0_r29 : List Cond := [Cond.instanceMethod yX9_isSimple, Cond.selects RX9 yX9_isSimple yX9_isSimple, Cond.code yX9_isSimple cX9_isSimple 1 (some .boolean), Cond.methodLink RL 157 yX9_triangles, Cond.instanceMethod yX9_triangles, Cond.selects RX9 yX9_triangles yX9_triangles, Cond.code yX9_triangles cX9_triangles 1 (some .int), Cond.methodLink RX9 154 yX1_triangleCount, Cond.instanceMethod yX1_triangleCount, Cond.selects RX1 yX1_triangleCount yX1_triangleCount, Cond.code yX1_triangleCount cX1_triangleCount 4 (some .int), Cond.methodLink RX1 44 yX1_commonNeighboursBehind, Cond.instanceMethod yX1_commonNeighboursBehind, Cond.selects RX1 yX1_commonNeighboursBehind yX1_commonNeighboursBehind, Cond.code yX1_commonNeighboursBehind cX1_commonNeighboursBehind 5 (some .int), Cond.methodLink RL 160 yX9_components, Cond.instanceMethod yX9_components, Cond.selects RX9 yX9_components yX9_components, Cond.code yX9_components cX9_components 1 (some .int), Cond.methodLink RX9 157 yX4_find, Cond.instanceMethod yX4_find, Cond.selects RX4 yX4_find yX4_find, Cond.code yX4_find cX4_find 4 none, Cond.methodLink RX4 22 yX1_vertexCount]
def wsL_law0_r30 : List Cond := [Cond.methodLink RX4 28 yX1_between, Cond.methodLink RX4 32 yX4_merge, Cond.instanceMethod yX4_merge, Cond.selects RX4 yX4_merge yX4_merge, Cond.code yX4_merge cX4_merge 6 none, Cond.methodLink RX4 36 Lib.Math.max.name, Cond.methodLink RX4 41 Lib.Math.min.name, Cond.methodLink RX9 160 yX4_count, Cond.instanceMethod yX4_count, Cond.selects RX4 yX4_count yX4_count, Cond.code yX4_count cX4_count 1 (some .int), Cond.methodLink RX4 44 yX4_countBefore, Cond.instanceMethod yX4_countBefore, Cond.selects RX4 yX4_countBefore yX4_countBefore, Cond.code yX4_countBefore cX4_countBefore 4 (some .int), Cond.methodLink RL 163 yX9_meanDegree, Cond.instanceMethod yX9_meanDegree, Cond.selects RX9 yX9_meanDegree yX9_meanDegree, Cond.code yX9_meanDegree cX9_meanDegree 2 (some .double), Cond.methodLink RL 82 yL_isSequence, Cond.instanceMethod yL_isSequence, Cond.selects RL yL_isSequence yL_isSequence, Cond.code yL_isSequence cL_isSequence 7 (some .boolean), Cond.methodLink RL 169 yX9_sorted]
def wsL_law0_r31 : List Cond := [Cond.instanceMethod yX9_sorted, Cond.selects RX9 yX9_sorted yX9_sorted, Cond.code yX9_sorted cX9_sorted 2 (some .int), Cond.methodLink RX9 182 yX6_take, Cond.instanceMethod yX6_take, Cond.selects RX6 yX6_take yX6_take, Cond.code yX6_take cX6_take 3 none, Cond.methodLink RX6 36 yX6_clear, Cond.methodLink RX6 39 yX1_vertexCount, Cond.methodLink RX6 45 yX1_degreeOf, Cond.methodLink RX6 49 yX6_append, Cond.methodLink RX9 185 yX6_greatest, Cond.instanceMethod yX6_greatest, Cond.selects RX6 yX6_greatest yX6_greatest, Cond.code yX6_greatest cX6_greatest 2 (some .int), Cond.methodLink RL 172 yX9_slack, Cond.instanceMethod yX9_slack, Cond.selects RX9 yX9_slack yX9_slack, Cond.code yX9_slack cX9_slack 2 (some .int), Cond.methodLink RX9 193 yX6_slackOf, Cond.instanceMethod yX6_slackOf, Cond.selects RX6 yX6_slackOf yX6_slackOf, Cond.code yX6_slackOf cX6_slackOf 4 (some .int), Cond.methodLink RL 175 yX9_isPossible]
def wsL_law0_r32 : List Cond := [Cond.instanceMethod yX9_isPossible, Cond.selects RX9 yX9_isPossible yX9_isPossible, Cond.code yX9_isPossible cX9_isPossible 2 (some .boolean), Cond.methodLink RX9 196 yX9_checkMode, Cond.instanceMethod yX9_checkMode, Cond.selects RX9 yX9_checkMode yX9_checkMode, Cond.code yX9_checkMode cX9_checkMode 2 none, Cond.methodLink RX9 199 yX6_allows, Cond.instanceMethod yX6_allows, Cond.selects RX6 yX6_allows yX6_allows, Cond.code yX6_allows cX6_allows 2 (some .boolean), Cond.methodLink RX6 58 yX6_hasNoNegativeSlack, Cond.instanceMethod yX6_hasNoNegativeSlack, Cond.selects RX6 yX6_hasNoNegativeSlack yX6_hasNoNegativeSlack, Cond.code yX6_hasNoNegativeSlack cX6_hasNoNegativeSlack 2 (some .boolean), Cond.methodLink RX6 61 yX6_slackOf, Cond.methodLink RL 85 yL_isReason, Cond.instanceMethod yL_isReason, Cond.selects RL yL_isReason yL_isReason, Cond.code yL_isReason cL_isReason 10 (some .boolean), Cond.methodLink RL 179 yL_isSame, Cond.static yL_isSame, Cond.code yL_isSame cL_isSame 4 (some .boolean), Cond.methodLink RL 183 yX9_reason]
def wsL_law0_r33 : List Cond := [Cond.instanceMethod yX9_reason, Cond.selects RX9 yX9_reason yX9_reason, Cond.code yX9_reason cX9_reason 5 (some .int), Cond.methodLink RX9 202 yX9_checkVertices, Cond.instanceMethod yX9_checkVertices, Cond.selects RX9 yX9_checkVertices yX9_checkVertices, Cond.code yX9_checkVertices cX9_checkVertices 5 none, Cond.methodLink RX9 206 yX1_reasonAgainst, Cond.instanceMethod yX1_reasonAgainst, Cond.selects RX1 yX1_reasonAgainst yX1_reasonAgainst, Cond.code yX1_reasonAgainst cX1_reasonAgainst 9 (some .int), Cond.methodLink RL 88 yL_isNoVertex, Cond.static yL_isNoVertex, Cond.codeWith yL_isNoVertex cL_isNoVertex 2 (some .boolean) [(0, 17, 18, 187)], Cond.classLink RL 187 "java/lang/IndexOutOfBoundsException", Cond.methodLink RL 91 yL_isBad, Cond.static yL_isBad, Cond.codeWith yL_isBad cL_isBad 2 (some .boolean) [(0, 15, 16, 192)], Cond.classLink RL 192 "java/lang/IllegalArgumentException", Cond.methodLink RL 189 yX9_setMode, Cond.instanceMethod yX9_setMode, Cond.selects RX9 yX9_setMode yX9_setMode, Cond.code yX9_setMode cX9_setMode 3 (some .int), Cond.methodLink RX9 273 yX9_remember]
def wsL_law0_r34 : List Cond := [Cond.instanceMethod yX9_remember, Cond.selects RX9 yX9_remember yX9_remember, Cond.code yX9_remember cX9_remember 1 none, Cond.methodLink RX9 328 yX2_remember, Cond.instanceMethod yX2_remember, Cond.selects RX2 yX2_remember yX2_remember, Cond.code yX2_remember cX2_remember 4 none, Cond.methodLink RX2 34 Lib.Math.min.name, Cond.methodLink RX2 30 yX1_become, Cond.methodLink RL 94 yL_isNoEdge, Cond.instanceMethod yL_isNoEdge, Cond.selects RL yL_isNoEdge yL_isNoEdge, Cond.codeWith yL_isNoEdge cL_isNoEdge 3 (some .boolean) [(0, 44, 45, 197)], Cond.classLink RL 197 "java/util/NoSuchElementException", Cond.methodLink RL 194 yX9_removeEdge, Cond.instanceMethod yX9_removeEdge, Cond.selects RX9 yX9_removeEdge yX9_removeEdge, Cond.code yX9_removeEdge cX9_removeEdge 3 (some .int), Cond.methodLink RX9 170 yX9_checkEdge, Cond.instanceMethod yX9_checkEdge, Cond.selects RX9 yX9_checkEdge yX9_checkEdge, Cond.code yX9_checkEdge cX9_checkEdge 3 none, Cond.classLink RX9 240 "java/util/NoSuchElementException", Cond.initialized "java/util/NoSuchElementException"]
def wsL_law0_r35 : List Cond := [Cond.methodLink RX9 276 yX1_put]
set_option maxRecDepth 20000 in
theorem wsL_law0_r1_g : GoodIn lw_tbl wsL_law0_r1 := goodIn_p wsL_law0_r1 [311, 77, 74] (by decide +kernel) (by decide +kernel)
set_option maxRecDepth 20000 in
theorem wsL_law0_r2_g : GoodIn lw_tbl wsL_law0_r2 := goodIn_p wsL_law0_r2 [] (by decide +kernel) (by decide +kernel)
set_option maxRecDepth 20000 in
theorem wsL_law0_r3_g : GoodIn lw_tbl wsL_law0_r3 := goodIn_p wsL_law0_r3 [82] (by decide +kernel) (by decide +kernel)
set_option maxRecDepth 20000 in
theorem wsL_law0_r4_g : GoodIn lw_tbl wsL_law0_r4 := goodIn_p wsL_law0_r4 [88, 106, 170] (by decide +kernel) (by decide +kernel)
set_option maxRecDepth 20000 in
theorem wsL_law0_r5_g : GoodIn lw_tbl wsL_law0_r5 := goodIn_p wsL_law0_r5 [188, 201, 219, 244] (by decide +kernel) (by decide +kernel)
set_option maxRecDepth 20000 in
theorem wsL_law0_r6_g : GoodIn lw_tbl wsL_law0_r6 := goodIn_p wsL_law0_r6 [644, 478, 714, 648] (by decide +kernel) (by decide +kernel)
set_option maxRecDepth 20000 in
theorem wsL_law0_r7_g : GoodIn lw_tbl wsL_law0_r7 := goodIn_p wsL_law0_r7 [652, 655, 658, 664, 667] (by decide +kernel) (by decide +kernel)
set_option maxRecDepth 20000 in
theorem wsL_law0_r8_g : GoodIn lw_tbl wsL_law0_r8 := goodIn_p wsL_law0_r8 [672, 675, 693, 696, 700] (by decide +kernel) (by decide +kernel)
set_option maxRecDepth 20000 in
theorem wsL_law0_r9_g : GoodIn lw_tbl wsL_law0_r9 := goodIn_p wsL_law0_r9 [704, 708, 711, 718, 722] (by decide +kernel) (by decide +kernel)
set_option maxRecDepth 20000 in
theorem wsL_law0_r10_g : GoodIn lw_tbl wsL_law0_r10 := goodIn_p wsL_law0_r10 [738, 741, 744, 374] (by decide +kernel) (by decide +kernel)
set_option maxRecDepth 20000 in
theorem wsL_law0_r11_g : GoodIn lw_tbl wsL_law0_r11 := goodIn_p wsL_law0_r11 [747, 750, 753, 337, 341] (by decide +kernel) (by decide +kernel)
set_option maxRecDepth 20000 in
theorem wsL_law0_r12_g : GoodIn lw_tbl wsL_law0_r12 := goodIn_p wsL_law0_r12 [758, 762, 767, 770, 773] (by decide +kernel) (by decide +kernel)
set_option maxRecDepth 20000 in
theorem wsL_law0_r13_g : GoodIn lw_tbl wsL_law0_r13 := goodIn_p wsL_law0_r13 [776, 779, 782, 786, 793, 796] (by decide +kernel) (by decide +kernel)
set_option maxRecDepth 20000 in
theorem wsL_law0_r14_g : GoodIn lw_tbl wsL_law0_r14 := goodIn_p wsL_law0_r14 [799, 802, 809, 812, 818, 823] (by decide +kernel) (by decide +kernel)
set_option maxRecDepth 20000 in
theorem wsL_law0_r15_g : GoodIn lw_tbl wsL_law0_r15 := goodIn_p wsL_law0_r15 [826, 832, 838, 840, 844] (by decide +kernel) (by decide +kernel)
set_option maxRecDepth 20000 in
theorem wsL_law0_r16_g : GoodIn lw_tbl wsL_law0_r16 := goodIn_p wsL_law0_r16 [847, 850, 861, 864, 378, 868, 333] (by decide +kernel) (by decide +kernel)
set_option maxRecDepth 20000 in
theorem wsL_law0_r17_g : GoodIn lw_tbl wsL_law0_r17 := goodIn_p wsL_law0_r17 [346, 350, 354, 357, 360, 365, 368, 371] (by decide +kernel) (by decide +kernel)
set_option maxRecDepth 20000 in
theorem wsL_law0_r18_g : GoodIn lw_tbl wsL_law0_r18 := goodIn_p wsL_law0_r18 [388, 392, 396, 400, 404] (by decide +kernel) (by decide +kernel)
set_option maxRecDepth 20000 in
theorem wsL_law0_r19_g : GoodIn lw_tbl wsL_law0_r19 := goodIn_p wsL_law0_r19 [475, 482, 486, 489, 492, 496] (by decide +kernel) (by decide +kernel)
set_option maxRecDepth 20000 in
theorem wsL_law0_r20_g : GoodIn lw_tbl wsL_law0_r20 := goodIn_p wsL_law0_r20 [499, 503, 507, 511, 515, 520] (by decide +kernel) (by decide +kernel)
set_option maxRecDepth 20000 in
theorem wsL_law0_r21_g : GoodIn lw_tbl wsL_law0_r21 := goodIn_p wsL_law0_r21 [526, 530, 534, 538, 543, 547] (by decide +kernel) (by decide +kernel)
set_option maxRecDepth 20000 in
theorem wsL_law0_r22_g : GoodIn lw_tbl wsL_law0_r22 := goodIn_p wsL_law0_r22 [551, 555, 560, 564, 568, 572] (by decide +kernel) (by decide +kernel)
set_option maxRecDepth 20000 in
theorem wsL_law0_r23_g : GoodIn lw_tbl wsL_law0_r23 := goodIn_p wsL_law0_r23 [577, 581, 585, 589, 593] (by decide +kernel) (by decide +kernel)
set_option maxRecDepth 20000 in
theorem wsL_law0_r24_g : GoodIn lw_tbl wsL_law0_r24 := goodIn_p wsL_law0_r24 [597, 602, 607, 306, 612, 619] (by decide +kernel) (by decide +kernel)
set_option maxRecDepth 20000 in
theorem wsL_law0_r25_g : GoodIn lw_tbl wsL_law0_r25 := goodIn_p wsL_law0_r25 [623, 627, 631, 635, 639, 888] (by decide +kernel) (by decide +kernel)
set_option maxRecDepth 20000 in
theorem wsL_law0_r26_g : GoodIn lw_tbl wsL_law0_r26 := goodIn_p wsL_law0_r26 [294, 298, 302, 892, 896] (by decide +kernel) (by decide +kernel)
set_option maxRecDepth 20000 in
theorem wsL_law0_r27_g : GoodIn lw_tbl wsL_law0_r27 := goodIn_p wsL_law0_r27 [900, 920, 924, 928, 932, 936] (by decide +kernel) (by decide +kernel)
set_option maxRecDepth 20000 in
theorem wsL_law0_r28_g : GoodIn lw_tbl wsL_law0_r28 := goodIn_p wsL_law0_r28 [940, 945, 949, 953, 957] (by decide +kernel) (by decide +kernel)
set_option maxRecDepth 20000 in
theorem wsL_law0_r29_g : GoodIn lw_tbl wsL_law0_r29 := goodIn_p wsL_law0_r29 [963, 967, 971, 975, 979, 983] (by decide +kernel) (by decide +kernel)
set_option maxRecDepth 20000 in
theorem wsL_law0_r30_g : GoodIn lw_tbl wsL_law0_r30 := goodIn_p wsL_law0_r30 [989, 995, 999, 1003, 1008] (by decide +kernel) (by decide +kernel)
set_option maxRecDepth 20000 in
theorem wsL_law0_r31_g : GoodIn lw_tbl wsL_law0_r31 := goodIn_p wsL_law0_r31 [1012, 1016, 1024, 1028, 1033] (by decide +kernel) (by decide +kernel)
set_option maxRecDepth 20000 in
theorem wsL_law0_r32_g : GoodIn lw_tbl wsL_law0_r32 := goodIn_p wsL_law0_r32 [1037, 1041, 1046, 1050, 1055, 1058] (by decide +kernel) (by decide +kernel)
set_option maxRecDepth 20000 in
theorem wsL_law0_r33_g : GoodIn lw_tbl wsL_law0_r33 := goodIn_p wsL_law0_r33 [1062, 1066, 1070, 1082] (by decide +kernel) (by decide +kernel)
set_option maxRecDepth 20000 in
theorem wsL_law0_r34_g : GoodIn lw_tbl wsL_law0_r34 := goodIn_p wsL_law0_r34 [1086, 1090, 1101, 1105] (by decide +kernel) (by decide +kernel)
set_option maxRecDepth 20000 in
theorem wsL_law0_r35_g : GoodIn lw_tbl wsL_law0_r35 := goodIn_p wsL_law0_r35 [] (by decide +kernel) (by decide +kernel)
set_option maxRecDepth 20000 in
theorem wsL0_g : GoodIn lw_tbl wsL0 := goodIn_p wsL0 [] (by decide +kernel) (by decide +kernel)
set_option maxRecDepth 20000 in
theorem wsX90_g : GoodIn lw_tbl wsX90 := goodIn_p wsX90 [] (by decide +kernel) (by decide +kernel)
set_option maxRecDepth 20000 in
theorem wsX50_g : GoodIn lw_tbl wsX50 := goodIn_p wsX50 [] (by decide +kernel) (by decide +kernel)
set_option maxRecDepth 20000 in
theorem wsX10_g : GoodIn lw_tbl wsX10 := goodIn_p wsX10 [] (by decide +kernel) (by decide +kernel)
set_option maxRecDepth 20000 in
theorem wsX40_g : GoodIn lw_tbl wsX40 := goodIn_p wsX40 [] (by decide +kernel) (by decide +kernel)
set_option maxRecDepth 20000 in
theorem wsX60_g : GoodIn lw_tbl wsX60 := goodIn_p wsX60 [] (by decide +kernel) (by decide +kernel)
set_option maxRecDepth 20000 in
theorem wsX70_g : GoodIn lw_tbl wsX70 := goodIn_p wsX70 [] (by decide +kernel) (by decide +kernel)
set_option maxRecDepth 20000 in
theorem wsX80_g : GoodIn lw_tbl wsX80 := goodIn_p wsX80 [] (by decide +kernel) (by decide +kernel)
set_option maxRecDepth 20000 in
theorem wsX20_g : GoodIn lw_tbl wsX20 := goodIn_p wsX20 [] (by decide +kernel) (by decide +kernel)
set_option maxRecDepth 20000 in
theorem wsX30_g : GoodIn lw_tbl wsX30 := goodIn_p wsX30 [] (by decide +kernel) (by decide +kernel)
set_option maxRecDepth 20000 in
theorem wsJ40_g : GoodIn lw_tbl wsJ40 := goodIn_p wsJ40 [] (by decide +kernel) (by decide +kernel)
set_option maxRecDepth 20000 in
theorem wsJ00_g : GoodIn lw_tbl wsJ00 := goodIn_p wsJ00 [] (by decide +kernel) (by decide +kernel)
end
section
def wsE_x0 : List Cond := (vx_atS RX9 94 "java/lang/IllegalArgumentException" ["java/lang/RuntimeException", "java/lang/Exception"]).filter goodWord
theorem wsE_x0_m : ∀ w ∈ wsE_x0, w ∈ lw_tbl := by decide +kernel
theorem wsE_x0_g : GoodIn lw_tbl wsE_x0 := goodIn_sub wsE_x0_m (by decide +kernel)
def wsE_x1 : List Cond := (vx_atS RX9 192 "java/lang/IndexOutOfBoundsException" ["java/lang/RuntimeException", "java/lang/Exception"]).filter goodWord
theorem wsE_x1_m : ∀ w ∈ wsE_x1, w ∈ lw_tbl := by decide +kernel
theorem wsE_x1_g : GoodIn lw_tbl wsE_x1 := goodIn_sub wsE_x1_m (by decide +kernel)
abbrev nseB : ByteArray := prog_35_method_4_code
def wsE_x2 : List Cond := ((Bundle.throwableAtoms ++ Bundle.throwableSAtoms ++ (Bundle.passSAtoms "java/util/NoSuchElementException" "java/lang/RuntimeException" 13 nseB ++ Bundle.chainSAtoms "java/lang/RuntimeException" ["java/lang/Exception"]) ++ ([.methodLink RX9 244 (Bundle.initS "java/util/NoSuchElementException"), .instantiable "java/util/NoSuchElementException" 6, .castable "java/util/NoSuchElementException" "java/util/NoSuchElementException", .selects "java/util/NoSuchElementException" Bundle.tFill0 Bundle.tFill0, .selects "java/util/NoSuchElementException" Bundle.tFill Bundle.tFill, .lays "java/util/NoSuchElementException" Bundle.tN "cause" "Ljava/lang/Throwable;", .lays "java/util/NoSuchElementException" Bundle.tN "stackTrace" Bundle.steD, .lays "java/util/NoSuchElementException" Bundle.tN "suppressedExceptions" Bundle.listD, .lays "java/util/NoSuchElementException" Bundle.tN "detailMessage" "Ljava/lang/String;", .isRef (.static Bundle.tN "UNASSIGNED_STACK" Bundle.steD), .isRef (.static Bundle.tN "SUPPRESSED_SENTINEL" Bundle.listD), .fieldLink Bundle.tN 198 Bundle.tN "backtrace" "Ljava/lang/Object;", .lays Bundle.tN Bundle.tN "backtrace" "Ljava/lang/Object;",  .lays "java/util/NoSuchElementException" Bundle.tN "backtrace" "Ljava/lang/Object;"] : List Cond)).filter vx_no).filter goodWord
theorem wsE_x2_m : ∀ w ∈ wsE_x2, w ∈ lw_tbl := by decide +kernel
theorem wsE_x2_g : GoodIn lw_tbl wsE_x2 := goodIn_sub wsE_x2_m (by decide +kernel)
/-- four private methods of the builder: selected for it, whatever its class -/
def wsP : List Cond := [Cond.selects RJ4 yJ5_ensureCapacityInternal_d00df yJ5_ensureCapacityInternal_d00df, Cond.selects RJ4 yJ5_newCapacity_0f7a4 yJ5_newCapacity_0f7a4, Cond.selects RJ4 yJ5_putStringAt_47b60 yJ5_putStringAt_47b60, Cond.selects RJ4 yJ5_inflateIfNeededFor_a7421 yJ5_inflateIfNeededFor_a7421]
def qtbl : List Cond := lw_tbl ++ wsP
theorem qg_up {l : List Cond} (h : GoodIn lw_tbl l) : GoodIn qtbl l := fun w hw => ⟨List.mem_append_left _ (h w hw).1, (h w hw).2⟩
theorem wsP_g : GoodIn qtbl wsP := fun w hw => ⟨List.mem_append_right _ hw, good_of_word (List.all_eq_true.mp (show wsP.all goodWord = true by decide +kernel) w hw)⟩
def wsPp : List Cond := [Cond.privateMethod yJ5_ensureCapacityInternal_d00df, Cond.instanceMethod yJ5_ensureCapacityInternal_d00df, Cond.privateMethod yJ5_newCapacity_0f7a4, Cond.instanceMethod yJ5_newCapacity_0f7a4, Cond.privateMethod yJ5_putStringAt_47b60, Cond.instanceMethod yJ5_putStringAt_47b60, Cond.privateMethod yJ5_inflateIfNeededFor_a7421, Cond.instanceMethod yJ5_inflateIfNeededFor_a7421, Cond.instantiable RJ4 4]
theorem wsPp_m : ∀ w ∈ wsPp, w ∈ lw_tbl := by decide +kernel
def qgwL : List (List Cond) := [wsL_law0_r1, wsL_law0_r2, wsL_law0_r3, wsL_law0_r4, wsL_law0_r5, wsL_law0_r6, wsL_law0_r7, wsL_law0_r8, wsL_law0_r9, wsL_law0_r10, wsL_law0_r11, wsL_law0_r12, wsL_law0_r13, wsL_law0_r14, wsL_law0_r15, wsL_law0_r16, wsL_law0_r17, wsL_law0_r18, wsL_law0_r19, wsL_law0_r20, wsL_law0_r21, wsL_law0_r22, wsL_law0_r23, wsL_law0_r24, wsL_law0_r25, wsL_law0_r26, wsL_law0_r27, wsL_law0_r28, wsL_law0_r29, wsL_law0_r30, wsL_law0_r31, wsL_law0_r32, wsL_law0_r33, wsL_law0_r34, wsL_law0_r35, wsL0, wsX90, wsX50, wsX10, wsX40, wsX60, wsX70, wsX80, wsX20, wsX30, wsJ40, wsJ00, wsE_x0, wsE_x1, wsE_x2, wsP]
def wsL_law : List Cond := qgwL.flatten
theorem qgwL_g : ∀ l ∈ qgwL, GoodIn qtbl l := List.forall_mem_cons.mpr ⟨qg_up wsL_law0_r1_g, List.forall_mem_cons.mpr ⟨qg_up wsL_law0_r2_g, List.forall_mem_cons.mpr ⟨qg_up wsL_law0_r3_g, List.forall_mem_cons.mpr ⟨qg_up wsL_law0_r4_g, List.forall_mem_cons.mpr ⟨qg_up wsL_law0_r5_g, List.forall_mem_cons.mpr ⟨qg_up wsL_law0_r6_g, List.forall_mem_cons.mpr ⟨qg_up wsL_law0_r7_g, List.forall_mem_cons.mpr ⟨qg_up wsL_law0_r8_g, List.forall_mem_cons.mpr ⟨qg_up wsL_law0_r9_g, List.forall_mem_cons.mpr ⟨qg_up wsL_law0_r10_g, List.forall_mem_cons.mpr ⟨qg_up wsL_law0_r11_g, List.forall_mem_cons.mpr ⟨qg_up wsL_law0_r12_g, List.forall_mem_cons.mpr ⟨qg_up wsL_law0_r13_g, List.forall_mem_cons.mpr ⟨qg_up wsL_law0_r14_g, List.forall_mem_cons.mpr ⟨qg_up wsL_law0_r15_g, List.forall_mem_cons.mpr ⟨qg_up wsL_law0_r16_g, List.forall_mem_cons.mpr ⟨qg_up wsL_law0_r17_g, List.forall_mem_cons.mpr ⟨qg_up wsL_law0_r18_g, List.forall_mem_cons.mpr ⟨qg_up wsL_law0_r19_g, List.forall_mem_cons.mpr ⟨qg_up wsL_law0_r20_g, List.forall_mem_cons.mpr ⟨qg_up wsL_law0_r21_g, List.forall_mem_cons.mpr ⟨qg_up wsL_law0_r22_g, List.forall_mem_cons.mpr ⟨qg_up wsL_law0_r23_g, List.forall_mem_cons.mpr ⟨qg_up wsL_law0_r24_g, List.forall_mem_cons.mpr ⟨qg_up wsL_law0_r25_g, List.forall_mem_cons.mpr ⟨qg_up wsL_law0_r26_g, List.forall_mem_cons.mpr ⟨qg_up wsL_law0_r27_g, List.forall_mem_cons.mpr ⟨qg_up wsL_law0_r28_g, List.forall_mem_cons.mpr ⟨qg_up wsL_law0_r29_g, List.forall_mem_cons.mpr ⟨qg_up wsL_law0_r30_g, List.forall_mem_cons.mpr ⟨qg_up wsL_law0_r31_g, List.forall_mem_cons.mpr ⟨qg_up wsL_law0_r32_g, List.forall_mem_cons.mpr ⟨qg_up wsL_law0_r33_g, List.forall_mem_cons.mpr ⟨qg_up wsL_law0_r34_g, List.forall_mem_cons.mpr ⟨qg_up wsL_law0_r35_g, List.forall_mem_cons.mpr ⟨qg_up wsL0_g, List.forall_mem_cons.mpr ⟨qg_up wsX90_g, List.forall_mem_cons.mpr ⟨qg_up wsX50_g, List.forall_mem_cons.mpr ⟨qg_up wsX10_g, List.forall_mem_cons.mpr ⟨qg_up wsX40_g, List.forall_mem_cons.mpr ⟨qg_up wsX60_g, List.forall_mem_cons.mpr ⟨qg_up wsX70_g, List.forall_mem_cons.mpr ⟨qg_up wsX80_g, List.forall_mem_cons.mpr ⟨qg_up wsX20_g, List.forall_mem_cons.mpr ⟨qg_up wsX30_g, List.forall_mem_cons.mpr ⟨qg_up wsJ40_g, List.forall_mem_cons.mpr ⟨qg_up wsJ00_g, List.forall_mem_cons.mpr ⟨qg_up wsE_x0_g, List.forall_mem_cons.mpr ⟨qg_up wsE_x1_g, List.forall_mem_cons.mpr ⟨qg_up wsE_x2_g, List.forall_mem_cons.mpr ⟨wsP_g, fun _ h => absurd h List.not_mem_nil⟩⟩⟩⟩⟩⟩⟩⟩⟩⟩⟩⟩⟩⟩⟩⟩⟩⟩⟩⟩⟩⟩⟩⟩⟩⟩⟩⟩⟩⟩⟩⟩⟩⟩⟩⟩⟩⟩⟩⟩⟩⟩⟩⟩⟩⟩⟩⟩⟩⟩⟩
theorem wsL_law_g : GoodIn qtbl wsL_law := by
  intro w hw
  obtain ⟨l, hl, h⟩ := List.mem_flatten.mp hw
  exact qgwL_g l hl w h
def qpl (q : Nat × Nat) : Option Cond := (qgwL[q.1]?).bind (fun l => l[q.2]?)
theorem gw_set {k : Nat} {l : List Cond} (h : qgwL[k]? = some l) : ∀ w ∈ l, w ∈ wsL_law := fun w hw => List.mem_flatten.mpr ⟨l, List.mem_of_getElem? h, hw⟩
theorem gw_all {ws : List Cond} (ps : List (Nat × Nat)) (hp : ws = ps.filterMap qpl) : ∀ w ∈ ws, w ∈ wsL_law := by
  intro w hw
  rw [hp] at hw
  obtain ⟨q, -, hq⟩ := List.mem_filterMap.mp hw
  unfold qpl at hq
  cases hl : qgwL[q.1]? with
  | none => rw [hl] at hq; cases hq
  | some l => rw [hl] at hq; exact gw_set hl w (List.mem_of_getElem? hq)
theorem inlL : ∀ w ∈ wsL0, w ∈ wsL_law := gw_set (k := 35) rfl
theorem inlX9 : ∀ w ∈ wsX90, w ∈ wsL_law := gw_set (k := 36) rfl
theorem inlX5 : ∀ w ∈ wsX50, w ∈ wsL_law := gw_set (k := 37) rfl
theorem inlX1 : ∀ w ∈ wsX10, w ∈ wsL_law := gw_set (k := 38) rfl
theorem inlX4 : ∀ w ∈ wsX40, w ∈ wsL_law := gw_set (k := 39) rfl
theorem inlX6 : ∀ w ∈ wsX60, w ∈ wsL_law := gw_set (k := 40) rfl
theorem inlX7 : ∀ w ∈ wsX70, w ∈ wsL_law := gw_set (k := 41) rfl
theorem inlX8 : ∀ w ∈ wsX80, w ∈ wsL_law := gw_set (k := 42) rfl
theorem inlX2 : ∀ w ∈ wsX20, w ∈ wsL_law := gw_set (k := 43) rfl
theorem inlX3 : ∀ w ∈ wsX30, w ∈ wsL_law := gw_set (k := 44) rfl
theorem inlJ4 : ∀ w ∈ wsJ40, w ∈ wsL_law := gw_set (k := 45) rfl
theorem inlJ0 : ∀ w ∈ wsJ00, w ∈ wsL_law := gw_set (k := 46) rfl
theorem inE_x0 : ∀ w ∈ wsE_x0, w ∈ wsL_law := gw_set (k := 47) rfl
theorem inE_x1 : ∀ w ∈ wsE_x1, w ∈ wsL_law := gw_set (k := 48) rfl
theorem inE_x2 : ∀ w ∈ wsE_x2, w ∈ wsL_law := gw_set (k := 49) rfl
end
section
/-! THE SMALL MACHINE: objects and arrays by numbers (addresses from the law's start), the text of the methods by the printed bytes -/
abbrev qMC : Type := (Nat × List Value) ⊕ (Nat × vp_A)
abbrev qHp : Type := Nat → qMC
abbrev qSt : Type := Nat × Nat × Nat × qHp
abbrev qLo : Type := List (Option Value)
/-- a method: class number, name, bytes, locals, return type, handlers -/
abbrev qM : Type := Nat × MethodName × ByteArray × Nat × Option FieldType × List (Nat × Nat × Nat × Nat)
/-- the addresses of the small machine and the order of making: the law's nine cells stand behind the class's 78 -/
def qPm (a : Nat) : Nat := if a < 78 then a + 9 else if a < 87 then a - 78 else a
def qPi (k : Nat) : Nat := if k < 9 then k + 78 else if k < 87 then k - 9 else k
theorem qPm_Pi (k : Nat) : qPm (qPi k) = k := by
  unfold qPm qPi
  split <;> (try split) <;> (try split) <;> omega
theorem qPi_Pm (a : Nat) : qPi (qPm a) = a := by
  unfold qPm qPi
  split <;> (try split) <;> (try split) <;> omega
theorem qPm_inj {a b : Nat} (h : qPm a = qPm b) : a = b := by rw [← qPi_Pm a, h, qPi_Pm]
theorem qPi_inj {a b : Nat} (h : qPi a = qPi b) : a = b := by rw [← qPm_Pi a, h, qPm_Pi]
theorem qPm_hi {a : Nat} (h : 87 ≤ a) : qPm a = a := by
  unfold qPm
  rw [if_neg (by omega), if_neg (by omega)]
theorem qPi_hi {a : Nat} (h : 87 ≤ a) : qPi a = a := by
  unfold qPi
  rw [if_neg (by omega), if_neg (by omega)]
theorem qPm_lo {a : Nat} (h : a < 87) : qPm a < 87 := by
  unfold qPm
  split <;> (try split) <;> omega
theorem qPm_le {a n : Nat} (h : qPm a < n) : a < 87 ∨ a < n := by
  unfold qPm at h
  split at h <;> (try split at h) <;> omega
def qup (h : qHp) (i : Nat) (c : qMC) : qHp := fun j => if j = i then c else h j
def qput (s : qSt) (i : Nat) (c : qMC) : qSt := (s.1, s.2.1, s.2.2.1, qup s.2.2.2 i c)
def qnew (s : qSt) (c : qMC) (n : Nat) : qSt := (s.1 + 1, s.2.1, s.2.2.1 + n, qup s.2.2.2 (qPi s.1) c)
def qthr (s : qSt) : qSt := (s.1, s.2.1 + 1, s.2.2.1 + 6, s.2.2.2)
def qld (L : qLo) (i : Nat) : Option Value := match L[i]? with
  | some (some v) => some v
  | _ => none
def qkl (L : qLo) (i : Nat) : qLo := match i with
  | 0 => L
  | k + 1 => match L[k]? with
    | some (some (.long _)) => L.set k none
    | some (some (.double _)) => L.set k none
    | _ => L
def qs1 (L : qLo) (i : Nat) (v : Value) : Option qLo := if i < L.length then some ((qkl L i).set i (some v)) else none
def qs2 (L : qLo) (i : Nat) (v : Value) : Option qLo := if i + 1 < L.length then some (((qkl L i).set i (some v)).set (i + 1) none) else none
def qen (n : Nat) (vs : List Value) : qLo := vs.map some ++ List.replicate (n - vs.length) none
abbrev qO : Type := (Option Value) ⊕ Nat
/-- what an instruction does: goes on; ends the method; calls -/
abbrev qR : Type := (Nat × qLo × List Value × qSt) ⊕ (qO × qSt) ⊕ (Nat × qM × List Value × List Value)
def qgo (pc : Nat) (L : qLo) (st : List Value) (s : qSt) : Option qR := some (.inl (pc, L, st, s))
def qbr (pc : Nat) (off : Int) (len : Nat) (c : Prop) [Decidable c] (L : qLo) (st : List Value) (s : qSt) : Option qR := if 0 ≤ (pc : Int) + off then (if c then qgo ((pc : Int) + off).toNat L st s else qgo (pc + len) L st s) else none
def qif (op : ClassFile.Cond) (x y : Int32) : Bool := match op with
  | .eq => decide (x = y)
  | .ne => decide (x ≠ y)
  | .lt => decide (x < y)
  | .ge => decide (y ≤ x)
  | .gt => decide (y < x)
  | .le => decide (x ≤ y)
end
section
def mX0_of : qM := (0, objectInit, ⟨#[0xb1]⟩, 1, none, [])
def mX1_init : qM := (1, yX1_init, cX1_init, 1, none, [])
def mX1_clear : qM := (1, yX1_clear, cX1_clear, 3, none, [])
def mX1_become : qM := (1, yX1_become, cX1_become, 3, none, [])
def mX1_vertexCount : qM := (1, yX1_vertexCount, cX1_vertexCount, 1, (some .int), [])
def mX1_edgeCount : qM := (1, yX1_edgeCount, cX1_edgeCount, 1, (some .int), [])
def mX1_between : qM := (1, yX1_between, cX1_between, 3, (some .int), [])
def mX1_put : qM := (1, yX1_put, cX1_put, 4, none, [])
def mX1_reasonAgainst : qM := (1, yX1_reasonAgainst, cX1_reasonAgainst, 9, (some .int), [])
def mX1_degreeOf : qM := (1, yX1_degreeOf, cX1_degreeOf, 4, (some .int), [])
def mX1_loopCount : qM := (1, yX1_loopCount, cX1_loopCount, 3, (some .int), [])
def mX1_defectCount : qM := (1, yX1_defectCount, cX1_defectCount, 4, (some .int), [])
def mX1_triangleCount : qM := (1, yX1_triangleCount, cX1_triangleCount, 4, (some .int), [])
def mX1_commonNeighboursBehind : qM := (1, yX1_commonNeighboursBehind, cX1_commonNeighboursBehind, 5, (some .int), [])
def mX2_init : qM := (2, yX2_init, cX2_init, 2, none, [])
def mX2_forget : qM := (2, yX2_forget, cX2_forget, 1, none, [])
def mX2_remember : qM := (2, yX2_remember, cX2_remember, 4, none, [])
def mX3_init : qM := (3, yX3_init, cX3_init, 1, none, [])
def mX4_init : qM := (4, yX4_init, cX4_init, 1, none, [])
def mX4_find : qM := (4, yX4_find, cX4_find, 4, none, [])
def mX4_merge : qM := (4, yX4_merge, cX4_merge, 6, none, [])
def mX4_count : qM := (4, yX4_count, cX4_count, 1, (some .int), [])
def mX4_countBefore : qM := (4, yX4_countBefore, cX4_countBefore, 4, (some .int), [])
def mX5_init : qM := (5, yX5_init, cX5_init, 1, none, [])
def mX5_hasRoom : qM := (5, yX5_hasRoom, cX5_hasRoom, 1, (some .boolean), [])
def mX5_append : qM := (5, yX5_append, cX5_append, 3, none, [])
def mX5_fedBytes : qM := (5, yX5_fedBytes, cX5_fedBytes, 1, (some .int), [])
def mX5_kindOfError : qM := (5, yX5_kindOfError, cX5_kindOfError, 1, (some .int), [])
def mX5_readGraph : qM := (5, yX5_readGraph, cX5_readGraph, 1, (some (.object "SwitchGraphs$Graph")), [])
def mX5_readTarget : qM := (5, yX5_readTarget, cX5_readTarget, 1, (some (.object "SwitchGraphs$Graph")), [])
def mX5_readMode : qM := (5, yX5_readMode, cX5_readMode, 1, (some .int), [])
def mX5_readText : qM := (5, yX5_readText, cX5_readText, 4, (some .boolean), [])
def mX5_readFirst : qM := (5, yX5_readFirst, cX5_readFirst, 1, (some .boolean), [])
def mX5_readOther : qM := (5, yX5_readOther, cX5_readOther, 1, (some .boolean), [])
def mX5_readVertices : qM := (5, yX5_readVertices, cX5_readVertices, 1, (some .boolean), [])
def mX5_readDegrees : qM := (5, yX5_readDegrees, cX5_readDegrees, 2, (some .boolean), [])
def mX5_readEdge : qM := (5, yX5_readEdge, cX5_readEdge, 6, (some .boolean), [])
def mX5_readModeNumber : qM := (5, yX5_readModeNumber, cX5_readModeNumber, 1, (some .boolean), [])
def mX5_begin : qM := (5, yX5_begin, cX5_begin, 2, none, [])
def mX5_expectNumber : qM := (5, yX5_expectNumber, cX5_expectNumber, 3, (some .boolean), [])
def mX5_expectSemicolon : qM := (5, yX5_expectSemicolon, cX5_expectSemicolon, 1, (some .boolean), [])
def mX5_fail : qM := (5, yX5_fail, cX5_fail, 2, (some .boolean), [])
def mX5_isWord : qM := (5, yX5_isWord, cX5_isWord, 3, (some .boolean), [])
def mX5_advance : qM := (5, yX5_advance, cX5_advance, 1, none, [])
def mX5_takeWord : qM := (5, yX5_takeWord, cX5_takeWord, 1, none, [])
def mX5_takeNumber : qM := (5, yX5_takeNumber, cX5_takeNumber, 1, none, [])
def mX5_byteAt : qM := (5, yX5_byteAt, cX5_byteAt, 2, (some .int), [])
def mX5_isBlank : qM := (5, yX5_isBlank, cX5_isBlank, 1, (some .boolean), [])
def mX5_isLetter : qM := (5, yX5_isLetter, cX5_isLetter, 1, (some .boolean), [])
def mX5_isDigit : qM := (5, yX5_isDigit, cX5_isDigit, 1, (some .boolean), [])
def mX6_init : qM := (6, yX6_init, cX6_init, 1, none, [])
def mX6_clear : qM := (6, yX6_clear, cX6_clear, 1, none, [])
def mX6_isFull : qM := (6, yX6_isFull, cX6_isFull, 1, (some .boolean), [])
def mX6_length : qM := (6, yX6_length, cX6_length, 1, (some .int), [])
def mX6_total : qM := (6, yX6_total, cX6_total, 1, (some .int), [])
def mX6_append : qM := (6, yX6_append, cX6_append, 2, none, [])
def mX6_insertFalling : qM := (6, yX6_insertFalling, cX6_insertFalling, 3, none, [])
def mX6_take : qM := (6, yX6_take, cX6_take, 3, none, [])
def mX6_greatest : qM := (6, yX6_greatest, cX6_greatest, 2, (some .int), [])
def mX6_slackOf : qM := (6, yX6_slackOf, cX6_slackOf, 4, (some .int), [])
def mX6_allows : qM := (6, yX6_allows, cX6_allows, 2, (some .boolean), [])
def mX6_hasNoNegativeSlack : qM := (6, yX6_hasNoNegativeSlack, cX6_hasNoNegativeSlack, 2, (some .boolean), [])
def mX6_build : qM := (6, yX6_build, cX6_build, 4, none, [])
def mX6_buildWithLoops : qM := (6, yX6_buildWithLoops, cX6_buildWithLoops, 4, none, [])
def mX6_buildWithoutLoops : qM := (6, yX6_buildWithoutLoops, cX6_buildWithoutLoops, 4, none, [])
def mX6_buildSimple : qM := (6, yX6_buildSimple, cX6_buildSimple, 7, none, [])
def mX6_join : qM := (6, yX6_join, cX6_join, 4, none, [])
def mX6_neediestBut : qM := (6, yX6_neediestBut, cX6_neediestBut, 5, (some .int), [])
def mX7_init : qM := (7, yX7_init, cX7_init, 1, none, [])
def mX8_init : qM := (8, yX8_init, cX8_init, 1, none, [])
def mX9_init : qM := (9, yX9_init, cX9_init, 1, none, [])
def mX9_feed : qM := (9, yX9_feed, cX9_feed, 6, (some .int), [])
def mX9_load : qM := (9, yX9_load, cX9_load, 2, (some .int), [])
def mX9_errorKind : qM := (9, yX9_errorKind, cX9_errorKind, 1, (some .int), [])
def mX9_vertices : qM := (9, yX9_vertices, cX9_vertices, 1, (some .int), [])
def mX9_times : qM := (9, yX9_times, cX9_times, 4, (some .int), [])
def mX9_degree : qM := (9, yX9_degree, cX9_degree, 3, (some .int), [])
def mX9_loops : qM := (9, yX9_loops, cX9_loops, 1, (some .int), [])
def mX9_defects : qM := (9, yX9_defects, cX9_defects, 1, (some .int), [])
def mX9_isSimple : qM := (9, yX9_isSimple, cX9_isSimple, 1, (some .boolean), [])
def mX9_triangles : qM := (9, yX9_triangles, cX9_triangles, 1, (some .int), [])
def mX9_components : qM := (9, yX9_components, cX9_components, 1, (some .int), [])
def mX9_sorted : qM := (9, yX9_sorted, cX9_sorted, 2, (some .int), [])
def mX9_slack : qM := (9, yX9_slack, cX9_slack, 2, (some .int), [])
def mX9_isPossible : qM := (9, yX9_isPossible, cX9_isPossible, 2, (some .boolean), [])
def mX9_meanDegree : qM := (9, yX9_meanDegree, cX9_meanDegree, 2, (some .double), [])
def mX9_reason : qM := (9, yX9_reason, cX9_reason, 5, (some .int), [])
def mX9_removeEdge : qM := (9, yX9_removeEdge, cX9_removeEdge, 3, (some .int), [])
def mX9_setMode : qM := (9, yX9_setMode, cX9_setMode, 3, (some .int), [])
def mX9_checkVertex : qM := (9, yX9_checkVertex, cX9_checkVertex, 2, none, [])
def mX9_checkVertices : qM := (9, yX9_checkVertices, cX9_checkVertices, 5, none, [])
def mX9_checkEdge : qM := (9, yX9_checkEdge, cX9_checkEdge, 3, none, [])
def mX9_checkMode : qM := (9, yX9_checkMode, cX9_checkMode, 2, none, [])
def mX9_choose : qM := (9, yX9_choose, cX9_choose, 2, (some (.object "SwitchGraphs$Graph")), [])
def mX9_remember : qM := (9, yX9_remember, cX9_remember, 1, none, [])
def mJ5_init_d00df : qM := (13, yJ5_init_d00df, cJ5_init_d00df, 2, none, [])
def mJ5_length_8abf5 : qM := (13, yJ5_length_8abf5, cJ5_length_8abf5, 1, (some .int), [])
def mJ5_ensureCapacityInternal_d00df : qM := (13, yJ5_ensureCapacityInternal_d00df, cJ5_ensureCapacityInternal_d00df, 3, none, [])
def mJ5_newCapacity_0f7a4 : qM := (13, yJ5_newCapacity_0f7a4, cJ5_newCapacity_0f7a4, 6, (some .int), [])
def mJ5_append_cf1ce : qM := (13, yJ5_append_cf1ce, cJ5_append_cf1ce, 3, (some (.object "java/lang/AbstractStringBuilder")), [])
def mJ5_append_c97b9 : qM := (13, yJ5_append_c97b9, cJ5_append_c97b9, 4, (some (.object "java/lang/AbstractStringBuilder")), [])
def mJ5_getValue_6d5f1 : qM := (13, yJ5_getValue_6d5f1, cJ5_getValue_6d5f1, 1, (some (.array .byte)), [])
def mJ5_isLatin1_aae02 : qM := (13, yJ5_isLatin1_aae02, cJ5_isLatin1_aae02, 1, (some .boolean), [])
def mJ5_inflateIfNeededFor_a7421 : qM := (13, yJ5_inflateIfNeededFor_a7421, cJ5_inflateIfNeededFor_a7421, 2, none, [])
def mJ5_putStringAt_47b60 : qM := (13, yJ5_putStringAt_47b60, cJ5_putStringAt_47b60, 3, none, [])
def mJ6_getChars_ba4f3 : qM := (14, yJ6_getChars_ba4f3, cJ6_getChars_ba4f3, 7, (some .int), [])
def mJ6_stringSize_0f7a4 : qM := (14, yJ6_stringSize_0f7a4, cJ6_stringSize_0f7a4, 4, (some .int), [])
def mJ0_init_81219 : qM := (11, yJ0_init_81219, cJ0_init_81219, 2, none, [])
def mJ0_length_8abf5 : qM := (11, yJ0_length_8abf5, cJ0_length_8abf5, 1, (some .int), [])
def mJ0_charAt_5068e : qM := (11, yJ0_charAt_5068e, cJ0_charAt_5068e, 2, (some .char), [])
def mJ0_getBytes_840e7 : qM := (11, yJ0_getBytes_840e7, cJ0_getBytes_840e7, 4, none, [])
def mJ0_init_db425 : qM := (11, yJ0_init_db425, cJ0_init_db425, 5, none, [])
def mJ0_coder_7d493 : qM := (11, yJ0_coder_7d493, cJ0_coder_7d493, 1, (some .byte), [])
def mJ0_isLatin1_aae02 : qM := (11, yJ0_isLatin1_aae02, cJ0_isLatin1_aae02, 1, (some .boolean), [])
def mJ4_init_da8c8 : qM := (12, yJ4_init_da8c8, cJ4_init_da8c8, 1, none, [])
def mJ4_append_15ec4 : qM := (12, yJ4_append_15ec4, cJ4_append_15ec4, 2, (some (.object "java/lang/StringBuilder")), [])
def mJ4_append_bf812 : qM := (12, yJ4_append_bf812, cJ4_append_bf812, 2, (some (.object "java/lang/StringBuilder")), [])
def mJ4_toString_0e30d : qM := (12, yJ4_toString_0e30d, cJ4_toString_0e30d, 1, (some (.object "java/lang/String")), [])
def mJ4_length_8abf5 : qM := (12, yJ4_length_8abf5, cJ4_length_8abf5, 1, (some .int), [])
def mJ1_charAt_3b067 : qM := (15, yJ1_charAt_3b067, cJ1_charAt_3b067, 2, (some .char), [])
def mJ7_copyOf_9075b : qM := (16, yJ7_copyOf_9075b, cJ7_copyOf_9075b, 3, (some (.array .byte)), [])
def mJ7_checkLength_df160 : qM := (16, yJ7_checkLength_df160, cJ7_checkLength_df160, 2, none, [])
def mJ7_copyOfRange_39247 : qM := (16, yJ7_copyOfRange_39247, cJ7_copyOfRange_39247, 3, (some (.array .byte)), [])
def mJ7_copyOfRangeByte_39247 : qM := (16, yJ7_copyOfRangeByte_39247, cJ7_copyOfRangeByte_39247, 5, (some (.array .byte)), [])
def mJ8_newLength_cabcc : qM := (17, yJ8_newLength_cabcc, cJ8_newLength_cabcc, 4, (some .int), [])
def mL_init : qM := (10, yL_init, cL_init, 1, none, [])
def mL_among : qM := (10, yL_among, cL_among, 3, (some .int), [])
def mL_cell : qM := (10, yL_cell, cL_cell, 2, (some .int), [])
def mL_four : qM := (10, yL_four, cL_four, 4, (some .int), [])
def mL_load : qM := (10, yL_load, cL_load, 3, (some .int), [])
def mL_chosen : qM := (10, yL_chosen, cL_chosen, 3, (some .int), [])
def mL_from : qM := (10, yL_from, cL_from, 3, (some .int), [])
def mL_law : qM := (10, yL_law, cL_law, 5, (some .boolean), [])
def mL_told : qM := (10, yL_told, cL_told, 8, (some (.object "java/lang/String")), [])
def mL_edges : qM := (10, yL_edges, cL_edges, 4, (some .int), [])
def mL_many : qM := (10, yL_many, cL_many, 3, (some .int), [])
def mL_degree : qM := (10, yL_degree, cL_degree, 4, (some .int), [])
def mL_isGraph : qM := (10, yL_isGraph, cL_isGraph, 9, (some .boolean), [])
def mL_isSequence : qM := (10, yL_isSequence, cL_isSequence, 7, (some .boolean), [])
def mL_isSame : qM := (10, yL_isSame, cL_isSame, 4, (some .boolean), [])
def mL_isReason : qM := (10, yL_isReason, cL_isReason, 10, (some .boolean), [])
def mL_isNoVertex : qM := (10, yL_isNoVertex, cL_isNoVertex, 2, (some .boolean), [(0, 17, 18, 187)])
def mL_isBad : qM := (10, yL_isBad, cL_isBad, 2, (some .boolean), [(0, 15, 16, 192)])
def mL_isNoEdge : qM := (10, yL_isNoEdge, cL_isNoEdge, 3, (some .boolean), [(0, 44, 45, 197)])
def qNm (c : Nat) : String := match c with
  | 0 => RX0
  | 1 => RX1
  | 2 => RX2
  | 3 => RX3
  | 4 => RX4
  | 5 => RX5
  | 6 => RX6
  | 7 => RX7
  | 8 => RX8
  | 9 => RX9
  | 10 => RL
  | 11 => RJ0
  | 12 => RJ4
  | 13 => RJ5
  | 14 => RJ6
  | 15 => RJ1
  | 16 => RJ7
  | _ => RJ8
/-- the classes, in the order of the small machine -/
abbrev qCl : List vw_C := [(RX1, TX1, 3), (RX2, TX2, 5), (RX3, TX3, 2), (RX4, TX4, 3), (RX5, TX5, 13), (RX6, TX6, 5), (RX7, TX7, 2), (RX8, TX8, 3), (RX9, TX9, 12), (RL, TL, 5), (RJ0, TJ0, 4), (RJ4, TJ4, 4)]
def qTfL_0 : List (Nat × Nat × Nat × Nat) := [(1, 9, 0, 0), (1, 15, 0, 1), (1, 19, 0, 2), (2, 11, 1, 0), (2, 15, 1, 1), (2, 18, 1, 2), (2, 22, 1, 3), (2, 26, 1, 4), (3, 9, 2, 0), (3, 15, 2, 1), (4, 9, 3, 0), (4, 15, 3, 1), (4, 18, 3, 2), (5, 11, 4, 0), (5, 18, 4, 1), (5, 22, 4, 2), (5, 28, 4, 3), (5, 32, 4, 4), (5, 36, 4, 5), (5, 39, 4, 6), (5, 42, 4, 7), (5, 45, 4, 8), (5, 48, 4, 9), (5, 51, 4, 10), (5, 54, 4, 11), (5, 57, 4, 12), (6, 9, 5, 0), (6, 15, 5, 1), (6, 18, 5, 2), (6, 21, 5, 3), (6, 25, 5, 4), (7, 9, 6, 0), (7, 15, 6, 1), (8, 9, 7, 0), (8, 18, 7, 1), (8, 22, 7, 2), (9, 10, 8, 0), (9, 19, 8, 1), (9, 23, 8, 2), (9, 26, 8, 3), (9, 29, 8, 4), (9, 35, 8, 5), (9, 42, 8, 6), (9, 49, 8, 7), (9, 56, 8, 8), (9, 63, 8, 9), (9, 70, 8, 10), (9, 74, 8, 11), (10, 7, 9, 0), (10, 15, 9, 4), (10, 42, 9, 1), (10, 75, 9, 2), (10, 100, 9, 3), (11, 9, 10, 0), (11, 15, 10, 1), (11, 1048, 11, 2), (13, 15, 11, 0), (13, 22, 11, 1), (13, 79, 11, 3)]
def qTfL : List (Nat × Nat × Nat × Nat) := qTfL_0
def qTcL_0 : List (Nat × Nat × Nat × qM × Nat) := [(1, 3, 7, mX0_of, 0), (1, 32, 0, mX1_between, 2), (1, 35, 0, mX1_loopCount, 0), (1, 39, 5, mX0_of, 2), (1, 44, 0, mX1_commonNeighboursBehind, 2), (2, 1, 7, mX0_of, 0), (2, 29, 3, mX1_init, 0), (2, 30, 0, mX1_become, 1), (2, 34, 6, mX0_of, 2), (3, 3, 7, mX0_of, 0), (4, 3, 7, mX0_of, 0), (4, 22, 0, mX1_vertexCount, 0), (4, 28, 0, mX1_between, 2), (4, 32, 0, mX4_merge, 2), (4, 36, 5, mX0_of, 2), (4, 41, 6, mX0_of, 2), (4, 44, 0, mX4_countBefore, 1), (5, 3, 7, mX0_of, 0), (5, 17, 3, mX1_init, 0), (5, 27, 3, mX6_init, 0), (5, 60, 6, mX0_of, 2), (5, 66, 0, mX5_advance, 0), (5, 69, 0, mX5_readFirst, 0), (5, 73, 0, mX5_readOther, 0), (5, 76, 0, mX5_begin, 1), (5, 82, 0, mX5_isWord, 1), (5, 86, 0, mX5_readVertices, 0), (5, 91, 0, mX5_readDegrees, 0), (5, 94, 0, mX5_fail, 1), (5, 100, 0, mX5_readEdge, 1), (5, 106, 0, mX5_readModeNumber, 0), (5, 109, 0, mX5_expectNumber, 2), (5, 113, 0, mX5_expectSemicolon, 0), (5, 116, 0, mX6_clear, 0), (5, 119, 0, mX6_isFull, 0), (5, 122, 0, mX6_append, 1), (5, 125, 0, mX6_total, 0), (5, 129, 0, mX6_length, 0), (5, 131, 0, mX6_build, 2), (5, 135, 0, mX1_vertexCount, 0), (5, 138, 0, mX1_edgeCount, 0), (5, 141, 0, mX1_put, 3), (5, 145, 0, mX1_clear, 1), (5, 147, 8, mX0_of, 0), (5, 150, 0, mX5_byteAt, 1), (5, 154, 9, mX0_of, 1), (5, 158, 1, mX5_isBlank, 1), (5, 161, 1, mX5_isLetter, 1), (5, 164, 0, mX5_takeWord, 0), (5, 167, 1, mX5_isDigit, 1), (5, 170, 0, mX5_takeNumber, 0), (6, 3, 7, mX0_of, 0), (6, 28, 0, mX6_isFull, 0), (6, 32, 0, mX6_insertFalling, 1), (6, 36, 0, mX6_clear, 0), (6, 39, 0, mX1_vertexCount, 0), (6, 45, 0, mX1_degreeOf, 1), (6, 49, 0, mX6_append, 1), (6, 52, 6, mX0_of, 2), (6, 58, 0, mX6_hasNoNegativeSlack, 0)]
def qTcL_1 : List (Nat × Nat × Nat × qM × Nat) := [(6, 61, 0, mX6_slackOf, 1), (6, 64, 0, mX1_clear, 1), (6, 66, 0, mX6_buildWithLoops, 1), (6, 70, 0, mX6_buildWithoutLoops, 1), (6, 73, 0, mX6_buildSimple, 1), (6, 76, 0, mX1_put, 3), (6, 80, 0, mX6_neediestBut, 1), (6, 83, 0, mX6_join, 3), (7, 3, 7, mX0_of, 0), (8, 3, 7, mX0_of, 0), (8, 17, 3, mX1_init, 0), (9, 1, 7, mX0_of, 0), (9, 9, 3, mX5_init, 0), (9, 18, 3, mX1_init, 0), (9, 34, 3, mX4_init, 0), (9, 41, 3, mX6_init, 0), (9, 48, 3, mX7_init, 0), (9, 55, 3, mX8_init, 0), (9, 62, 2, mX2_init, 0), (9, 69, 3, mX3_init, 0), (9, 78, 0, mX5_hasRoom, 0), (9, 82, 0, mX5_append, 1), (9, 86, 0, mX5_fedBytes, 0), (9, 97, 0, mX5_readText, 1), (9, 101, 0, mX5_readGraph, 0), (9, 105, 0, mX1_become, 1), (9, 109, 0, mX5_readTarget, 0), (9, 112, 0, mX5_readMode, 0), (9, 115, 0, mX2_forget, 0), (9, 118, 0, mX1_edgeCount, 0), (9, 121, 0, mX5_kindOfError, 0), (9, 127, 0, mX1_vertexCount, 0), (9, 130, 0, mX9_choose, 1), (9, 134, 0, mX9_checkVertex, 1), (9, 137, 0, mX1_between, 2), (9, 141, 0, mX1_degreeOf, 1), (9, 145, 0, mX1_loopCount, 0), (9, 148, 0, mX1_defectCount, 0), (9, 154, 0, mX1_triangleCount, 0), (9, 157, 0, mX4_find, 1), (9, 160, 0, mX4_count, 0), (9, 170, 0, mX9_checkEdge, 2), (9, 182, 0, mX6_take, 1), (9, 185, 0, mX6_greatest, 1), (9, 193, 0, mX6_slackOf, 1), (9, 196, 0, mX9_checkMode, 1), (9, 199, 0, mX6_allows, 1), (9, 202, 0, mX9_checkVertices, 4), (9, 206, 0, mX1_reasonAgainst, 5), (9, 273, 0, mX9_remember, 0), (9, 276, 0, mX1_put, 3), (9, 328, 0, mX2_remember, 3), (10, 1, 7, mX0_of, 0), (10, 18, 0, mJ0_length_8abf5, 0), (10, 24, 0, mJ0_charAt_5068e, 1), (10, 28, 1, mL_four, 2), (10, 32, 0, mX9_feed, 5), (10, 38, 0, mX9_load, 1), (10, 46, 1, mL_cell, 2), (10, 50, 1, mL_among, 2)]
def qTcL_2 : List (Nat × Nat × Nat × qM × Nat) := [(10, 54, 0, mL_chosen, 1), (10, 57, 2, mL_init, 0), (10, 58, 2, mX9_init, 0), (10, 59, 0, mL_told, 0), (10, 63, 1, mL_load, 2), (10, 66, 0, mL_edges, 0), (10, 69, 0, mX9_errorKind, 0), (10, 72, 0, mX9_vertices, 0), (10, 78, 0, mL_isGraph, 1), (10, 82, 0, mL_isSequence, 1), (10, 85, 0, mL_isReason, 1), (10, 88, 4, mL_isNoVertex, 1), (10, 91, 4, mL_isBad, 1), (10, 94, 15, mL_isNoEdge, 1), (10, 97, 0, mL_from, 2), (10, 107, 2, mJ4_init_da8c8, 0), (10, 108, 0, mJ4_append_15ec4, 1), (10, 114, 0, mJ4_append_bf812, 1), (10, 117, 0, mJ4_toString_0e30d, 0), (10, 126, 6, mX0_of, 2), (10, 131, 5, mX0_of, 2), (10, 134, 0, mL_many, 2), (10, 137, 0, mX9_degree, 2), (10, 141, 0, mL_degree, 1), (10, 143, 0, mX9_times, 3), (10, 147, 0, mX9_loops, 0), (10, 150, 0, mX9_defects, 0), (10, 153, 0, mX9_isSimple, 0), (10, 157, 0, mX9_triangles, 0), (10, 160, 0, mX9_components, 0), (10, 163, 0, mX9_meanDegree, 0), (10, 169, 0, mX9_sorted, 1), (10, 172, 0, mX9_slack, 1), (10, 175, 0, mX9_isPossible, 1), (10, 179, 1, mL_isSame, 4), (10, 183, 0, mX9_reason, 4), (10, 189, 0, mX9_setMode, 1), (10, 194, 0, mX9_removeEdge, 2), (11, 1, 7, mX0_of, 0), (11, 54, 1, mJ7_copyOfRange_39247, 3), (11, 212, 14, mX0_of, 5), (11, 335, 0, mJ0_coder_7d493, 0), (11, 489, 2, mJ0_init_db425, 2), (11, 492, 0, mJ0_isLatin1_aae02, 0), (11, 495, 1, mJ1_charAt_3b067, 2), (11, 549, 16, mJ4_length_8abf5, 0), (11, 552, 10, mJ5_getValue_6d5f1, 0), (11, 1047, 10, mJ5_isLatin1_aae02, 0), (12, 1, 12, mJ5_init_d00df, 1), (12, 29, 11, mJ5_append_cf1ce, 1), (12, 53, 11, mJ5_append_c97b9, 1), (12, 137, 2, mJ0_init_81219, 1), (12, 343, 11, mJ5_length_8abf5, 0), (13, 3, 7, mX0_of, 0), (13, 32, 0, mJ0_length_8abf5, 0), (13, 40, 0, mJ0_coder_7d493, 0), (13, 83, 10, mJ5_isLatin1_aae02, 0), (13, 100, 10, mJ5_ensureCapacityInternal_d00df, 1), (13, 104, 10, mJ5_newCapacity_0f7a4, 1), (13, 108, 1, mJ7_copyOf_9075b, 2)]
def qTcL_3 : List (Nat × Nat × Nat × qM × Nat) := [(13, 114, 1, mJ8_newLength_cabcc, 3), (13, 208, 10, mJ5_putStringAt_47b60, 2), (13, 245, 1, mJ6_stringSize_0f7a4, 1), (13, 248, 1, mJ6_getChars_ba4f3, 3), (13, 397, 10, mJ5_inflateIfNeededFor_a7421, 1), (13, 399, 0, mJ0_getBytes_840e7, 3), (15, 9, 13, mX0_of, 2), (16, 150, 14, mX0_of, 5), (16, 304, 6, mX0_of, 2), (16, 310, 17, mX0_of, 0), (16, 339, 1, mJ7_copyOfRangeByte_39247, 3), (16, 343, 1, mJ7_checkLength_df160, 2), (17, 194, 5, mX0_of, 2)]
def qTcL : List (Nat × Nat × Nat × qM × Nat) := qTcL_0 ++ qTcL_1 ++ qTcL_2 ++ qTcL_3
def qTnL_0 : List (Nat × Nat × Nat) := [(2, 9, 0), (5, 15, 0), (5, 25, 5), (8, 15, 0), (9, 7, 4), (9, 16, 0), (9, 32, 3), (9, 39, 5), (9, 46, 6), (9, 53, 7), (9, 60, 1), (9, 67, 2), (10, 8, 9), (10, 33, 8), (10, 105, 11), (12, 18, 10)]
def qTnL : List (Nat × Nat × Nat) := qTnL_0
def qTsL_0 : List (Nat × Nat × Nat) := [(5, 80, 0), (5, 89, 1), (5, 98, 2), (5, 104, 3), (5, 105, 4), (10, 103, 5), (10, 112, 6), (10, 120, 7), (10, 122, 8), (10, 124, 9)]
def qTsL : List (Nat × Nat × Nat) := qTsL_0
def qTx1 : List String := ["vertices", "degrees", "edge", "target", "mode", "degrees", " ", ";mode ", ";", "edge "]
def qTxB : List (List Int) := [[118, 101, 114, 116, 105, 99, 101, 115], [100, 101, 103, 114, 101, 101, 115], [101, 100, 103, 101], [116, 97, 114, 103, 101, 116], [109, 111, 100, 101], [100, 101, 103, 114, 101, 101, 115], [32], [59, 109, 111, 100, 101, 32], [59], [101, 100, 103, 101, 32]]
def qTkL_0 : List (Nat × Nat × Nat) := [(10, 187, 0), (10, 192, 1), (10, 197, 2)]
def qTkL : List (Nat × Nat × Nat) := qTkL_0
def qTxL_0 : List (Nat × Nat × Nat × Nat × Nat × Bool × String) := [(9, 90, 92, 94, 1, false, "the buffer has no such number of bytes"), (9, 90, 320, 94, 1, true, "the modes are 0 to 2"), (9, 188, 190, 192, 0, false, "there is no such slack"), (9, 188, 316, 192, 0, true, "there is no such vertex"), (9, 240, 318, 244, 2, true, "there is no such edge")]
def qTxL : List (Nat × Nat × Nat × Nat × Nat × Bool × String) := qTxL_0
def qTgL_0 : List (Nat × Nat × Nat) := [(11, 38, 0), (13, 18, 0), (14, 83, 1)]
def qTgL : List (Nat × Nat × Nat) := qTgL_0
def qToL_0 : List (Nat × Nat × Int) := [(13, 39, 2147483647), (17, 200, 2147483639)]
def qToL : List (Nat × Nat × Int) := qToL_0
def qTf (c i : Nat) : Option (Nat × Nat) := (qTfL.find? (fun e => e.1 == c && e.2.1 == i)).map (fun e => e.2.2)
def qTc (c i : Nat) : Option (Nat × qM × Nat) := (qTcL.find? (fun e => e.1 == c && e.2.1 == i)).map (fun e => e.2.2)
def qTg (c i : Nat) : Option Nat := (qTgL.find? (fun e => e.1 == c && e.2.1 == i)).map (fun e => e.2.2)
def qTo (c i : Nat) : Option Int := (qToL.find? (fun e => e.1 == c && e.2.1 == i)).map (fun e => e.2.2)
def qTn (c i : Nat) : Option Nat := (qTnL.find? (fun e => e.1 == c && e.2.1 == i)).map (fun e => e.2.2)
def qTs (c i : Nat) : Option Nat := (qTsL.find? (fun e => e.1 == c && e.2.1 == i)).map (fun e => e.2.2)
def qTk (c i : Nat) : Option Nat := (qTkL.find? (fun e => e.1 == c && e.2.1 == i)).map (fun e => e.2.2)
def qTx (c ik is ic : Nat) (w : Bool) : Option Nat := (qTxL.find? (fun e => e.1 == c && e.2.1 == ik && e.2.2.1 == is && e.2.2.2.1 == ic && e.2.2.2.2.2.1 == w)).map (fun e => e.2.2.2.2.1)
set_option maxRecDepth 20000 in
theorem qTfL_w : qTfL.map (fun e => Cond.fieldLink (qNm e.1) e.2.1 ((qCl.getD e.2.2.1 (RX1, TX1, 3)).2.1 e.2.2.2).1 ((qCl.getD e.2.2.1 (RX1, TX1, 3)).2.1 e.2.2.2).2.1 ((qCl.getD e.2.2.1 (RX1, TX1, 3)).2.1 e.2.2.2).2.2.1) = [(3, 7), (3, 8), (3, 9), (4, 17), (4, 18), (4, 19), (4, 20), (4, 21), (5, 2), (5, 3), (3, 21), (3, 22), (3, 23), (2, 13), (2, 15), (2, 16), (2, 18), (2, 19), (2, 20), (2, 21), (2, 22), (2, 23), (3, 0), (3, 1), (3, 2), (3, 3), (3, 13), (3, 14), (3, 15), (3, 16), (3, 17), (4, 3), (4, 4), (4, 8), (4, 10), (4, 11), (1, 0), (1, 4), (1, 5), (1, 6), (1, 7), (1, 11), (1, 15), (1, 19), (1, 23), (2, 3), (2, 7), (2, 8), (0, 3), (0, 16), (6, 3), (0, 7), (5, 8), (10, 16), (10, 22), (14, 3), (6, 19), (6, 20), (7, 14)].filterMap qpl := by decide +kernel
def qTcM (mo : Nat) : List (Nat × Nat × Nat × qM × Nat) := qTcL.filter (fun e => e.2.2.1 == mo)
set_option maxRecDepth 20000 in
theorem qTc0_l : (qTcM 0).map (fun e => Cond.methodLink (qNm e.1) e.2.1 e.2.2.2.1.2.1) = [(26, 12), (27, 22), (28, 11), (33, 8), (28, 23), (29, 0), (29, 1), (29, 11), (18, 4), (19, 5), (23, 2), (19, 9), (19, 17), (19, 23), (20, 15), (20, 7), (23, 6), (23, 19), (20, 3), (20, 11), (20, 19), (20, 23), (21, 3), (21, 12), (21, 16), (21, 20), (23, 10), (23, 14), (23, 18), (19, 13), (18, 8), (18, 18), (19, 1), (21, 7), (21, 8), (30, 7), (30, 8), (30, 9), (30, 10), (31, 11), (31, 15), (22, 0), (22, 1), (22, 9), (22, 21), (22, 5), (22, 13), (22, 17), (17, 5), (17, 9), (17, 13), (17, 23), (23, 23), (24, 3), (24, 7), (24, 11), (24, 15), (24, 19), (25, 4), (25, 12), (26, 4), (25, 22), (27, 4), (26, 8), (27, 9), (27, 17), (28, 7), (28, 19), (29, 7), (33, 18), (30, 3), (30, 11), (30, 19), (31, 3), (31, 7), (32, 3), (32, 7), (32, 23), (34, 0), (33, 3), (15, 21), (16, 1), (17, 1), (17, 17), (5, 23), (5, 4), (24, 20), (25, 0), (25, 8), (25, 13), (29, 19), (31, 16), (5, 19), (7, 5), (12, 13), (13, 14), (26, 20), (25, 18), (26, 16), (27, 0), (27, 5), (27, 13), (27, 23), (28, 3), (28, 15), (29, 15), (29, 23), (30, 15), (30, 23), (31, 23), (32, 19), (33, 14), (10, 17), (16, 5), (10, 12), (11, 7), (12, 7)].filterMap qpl := by decide +kernel
set_option maxRecDepth 20000 in
theorem qTc0_c_0 : (qTcL_0.filter (fun e => e.2.2.1 == 0)).map (fun e => Cond.code e.2.2.2.1.2.1 e.2.2.2.1.2.2.1 e.2.2.2.1.2.2.2.1 e.2.2.2.1.2.2.2.2.1) = [(26, 15), (27, 12), (28, 14), (24, 6), (23, 13), (26, 15), (29, 4), (29, 14), (18, 7), (19, 8), (23, 5), (19, 12), (19, 20), (20, 2), (20, 18), (20, 10), (23, 9), (23, 22), (20, 6), (20, 14), (20, 22), (21, 2), (21, 6), (21, 15), (21, 19), (21, 23), (23, 13), (23, 17), (22, 8), (19, 16), (18, 11), (18, 21), (19, 4), (21, 2), (21, 11), (20, 22), (23, 13), (26, 11), (21, 6), (31, 14)].filterMap qpl := by decide +kernel
set_option maxRecDepth 20000 in
theorem qTc0_c_1 : (qTcL_1.filter (fun e => e.2.2.1 == 0)).map (fun e => Cond.code e.2.2.2.1.2.1 e.2.2.2.1.2.2.1 e.2.2.2.1.2.2.2.1 e.2.2.2.1.2.2.2.2.1) = [(30, 22), (19, 16), (22, 4), (22, 12), (23, 0), (22, 8), (22, 16), (22, 20), (17, 8), (17, 12), (17, 16), (18, 2), (24, 2), (24, 6), (24, 10), (24, 14), (24, 18), (23, 17), (25, 7), (23, 13), (26, 7), (26, 1), (26, 15), (26, 11), (27, 12), (27, 20), (28, 10), (28, 22), (29, 10), (33, 21), (30, 6), (30, 14), (30, 22), (31, 6), (31, 10), (32, 6), (32, 10), (33, 2), (22, 8), (33, 6), (10, 15), (16, 4), (17, 4), (17, 20)].filterMap qpl := by decide +kernel
set_option maxRecDepth 20000 in
theorem qTc0_c_2 : (qTcL_2.filter (fun e => e.2.2.1 == 0)).map (fun e => Cond.code e.2.2.2.1.2.1 e.2.2.2.1.2.2.1 e.2.2.2.1.2.2.2.1 e.2.2.2.1.2.2.2.2.1) = [(6, 2), (5, 7), (24, 23), (25, 3), (25, 11), (25, 16), (29, 22), (31, 19), (5, 22), (7, 8), (12, 16), (13, 17), (26, 23), (25, 21), (26, 19), (27, 3), (27, 8), (27, 16), (28, 2), (28, 6), (28, 18), (29, 18), (30, 2), (30, 18), (31, 2), (32, 2), (32, 22), (33, 17), (10, 20), (16, 8), (10, 15), (10, 20)].filterMap qpl := by decide +kernel
set_option maxRecDepth 20000 in
theorem qTc0_c_3 : (qTcL_3.filter (fun e => e.2.2.1 == 0)).map (fun e => Cond.code e.2.2.2.1.2.1 e.2.2.2.1.2.2.1 e.2.2.2.1.2.2.2.1 e.2.2.2.1.2.2.2.2.1) = [(12, 10)].filterMap qpl := by decide +kernel
theorem qTc0_cc : ∀ e ∈ qTcM 0, Cond.code e.2.2.2.1.2.1 e.2.2.2.1.2.2.1 e.2.2.2.1.2.2.2.1 e.2.2.2.1.2.2.2.2.1 ∈ wsL_law := by
  intro e he
  obtain ⟨h1, h2⟩ := List.mem_filter.mp he
  unfold qTcL at h1
  simp only [List.mem_append] at h1
  rcases h1 with ((h1 | h1) | h1) | h1
  · exact gw_all _ qTc0_c_0 _ (List.mem_map_of_mem (f := fun e : Nat × Nat × Nat × qM × Nat => Cond.code e.2.2.2.1.2.1 e.2.2.2.1.2.2.1 e.2.2.2.1.2.2.2.1 e.2.2.2.1.2.2.2.2.1) (List.mem_filter.mpr ⟨h1, h2⟩))
  · exact gw_all _ qTc0_c_1 _ (List.mem_map_of_mem (f := fun e : Nat × Nat × Nat × qM × Nat => Cond.code e.2.2.2.1.2.1 e.2.2.2.1.2.2.1 e.2.2.2.1.2.2.2.1 e.2.2.2.1.2.2.2.2.1) (List.mem_filter.mpr ⟨h1, h2⟩))
  · exact gw_all _ qTc0_c_2 _ (List.mem_map_of_mem (f := fun e : Nat × Nat × Nat × qM × Nat => Cond.code e.2.2.2.1.2.1 e.2.2.2.1.2.2.1 e.2.2.2.1.2.2.2.1 e.2.2.2.1.2.2.2.2.1) (List.mem_filter.mpr ⟨h1, h2⟩))
  · exact gw_all _ qTc0_c_3 _ (List.mem_map_of_mem (f := fun e : Nat × Nat × Nat × qM × Nat => Cond.code e.2.2.2.1.2.1 e.2.2.2.1.2.2.1 e.2.2.2.1.2.2.2.1 e.2.2.2.1.2.2.2.2.1) (List.mem_filter.mpr ⟨h1, h2⟩))
set_option maxRecDepth 20000 in
theorem qTc0_i : (qTcM 0).map (fun e => Cond.instanceMethod e.2.2.2.1.2.1) = [(26, 13), (27, 10), (28, 12), (24, 4), (23, 11), (26, 13), (29, 2), (29, 12), (18, 5), (19, 6), (23, 3), (19, 10), (19, 18), (20, 0), (20, 16), (20, 8), (23, 7), (23, 20), (20, 4), (20, 12), (20, 20), (21, 0), (21, 4), (21, 13), (21, 17), (21, 21), (23, 11), (23, 15), (22, 6), (19, 14), (18, 9), (18, 19), (19, 2), (21, 0), (21, 9), (20, 20), (23, 11), (26, 9), (21, 4), (31, 12), (30, 20), (19, 14), (22, 2), (22, 10), (22, 22), (22, 6), (22, 14), (22, 18), (17, 6), (17, 10), (17, 14), (18, 0), (24, 0), (24, 4), (24, 8), (24, 12), (24, 16), (23, 15), (25, 5), (23, 11), (26, 5), (25, 23), (26, 13), (26, 9), (27, 10), (27, 18), (28, 8), (28, 20), (29, 8), (33, 19), (30, 4), (30, 12), (30, 20), (31, 4), (31, 8), (32, 4), (32, 8), (33, 0), (22, 6), (33, 4), (10, 13), (16, 2), (17, 2), (17, 18), (6, 0), (5, 5), (24, 21), (25, 1), (25, 9), (25, 14), (29, 20), (31, 17), (5, 20), (7, 6), (12, 14), (13, 15), (26, 21), (25, 19), (26, 17), (27, 1), (27, 6), (27, 14), (28, 0), (28, 4), (28, 16), (29, 16), (30, 0), (30, 16), (31, 0), (32, 0), (32, 20), (33, 15), (10, 18), (16, 6), (10, 13), (10, 18), (12, 8)].filterMap qpl := by decide +kernel
set_option maxRecDepth 20000 in
theorem qTc0_v : (qTcM 0).map (fun e => Cond.selects (qNm e.2.2.2.1.1) e.2.2.2.1.2.1 e.2.2.2.1.2.1) = [(26, 14), (27, 11), (28, 13), (24, 5), (23, 12), (26, 14), (29, 3), (29, 13), (18, 6), (19, 7), (23, 4), (19, 11), (19, 19), (20, 1), (20, 17), (20, 9), (23, 8), (23, 21), (20, 5), (20, 13), (20, 21), (21, 1), (21, 5), (21, 14), (21, 18), (21, 22), (23, 12), (23, 16), (22, 7), (19, 15), (18, 10), (18, 20), (19, 3), (21, 1), (21, 10), (20, 21), (23, 12), (26, 10), (21, 5), (31, 13), (30, 21), (19, 15), (22, 3), (22, 11), (22, 23), (22, 7), (22, 15), (22, 19), (17, 7), (17, 11), (17, 15), (18, 1), (24, 1), (24, 5), (24, 9), (24, 13), (24, 17), (23, 16), (25, 6), (23, 12), (26, 6), (26, 0), (26, 14), (26, 10), (27, 11), (27, 19), (28, 9), (28, 21), (29, 9), (33, 20), (30, 5), (30, 13), (30, 21), (31, 5), (31, 9), (32, 5), (32, 9), (33, 1), (22, 7), (33, 5), (10, 14), (16, 3), (17, 3), (17, 19), (6, 1), (5, 6), (24, 22), (25, 2), (25, 10), (25, 15), (29, 21), (31, 18), (5, 21), (7, 7), (12, 15), (13, 16), (26, 22), (25, 20), (26, 18), (27, 2), (27, 7), (27, 15), (28, 1), (28, 5), (28, 17), (29, 17), (30, 1), (30, 17), (31, 1), (32, 1), (32, 21), (33, 16), (10, 19), (16, 7), (10, 14), (10, 19), (12, 9)].filterMap qpl := by decide +kernel
set_option maxRecDepth 20000 in
theorem qTc0_n : (qTcM 0).map (fun e => Cond.initialized e.2.2.2.1.2.1.cls) = [(1, 3), (1, 3), (1, 3), (1, 3), (1, 3), (1, 3), (1, 10), (1, 10), (0, 23), (0, 23), (0, 23), (0, 23), (0, 23), (0, 23), (0, 23), (0, 23), (0, 23), (0, 23), (0, 23), (0, 23), (1, 14), (1, 14), (1, 14), (1, 14), (1, 14), (1, 14), (1, 3), (1, 3), (1, 3), (1, 3), (0, 23), (0, 23), (0, 23), (1, 14), (1, 14), (1, 14), (1, 3), (1, 3), (1, 14), (1, 14), (1, 14), (1, 3), (1, 14), (1, 14), (1, 14), (1, 3), (1, 14), (1, 14), (0, 23), (0, 23), (0, 23), (0, 23), (0, 23), (1, 3), (0, 23), (0, 23), (2, 2), (1, 3), (0, 23), (1, 3), (0, 6), (0, 6), (1, 3), (1, 3), (1, 3), (1, 3), (1, 3), (1, 10), (1, 10), (0, 6), (1, 14), (1, 14), (1, 14), (0, 6), (1, 14), (0, 6), (1, 3), (0, 6), (1, 3), (2, 2), (10, 0), (10, 0), (0, 6), (0, 6), (0, 2), (0, 2), (0, 2), (0, 6), (0, 6), (0, 2), (0, 2), (0, 2), (0, 2), (5, 11), (5, 11), (5, 11), (0, 2), (0, 6), (0, 2), (0, 6), (0, 6), (0, 6), (0, 6), (0, 6), (0, 6), (0, 6), (0, 6), (0, 6), (0, 6), (0, 6), (0, 6), (0, 6), (10, 0), (10, 0), (10, 0), (10, 0), (10, 0)].filterMap qpl := by decide +kernel
set_option maxRecDepth 20000 in
theorem qTc1_l : (qTcM 1).map (fun e => Cond.methodLink (qNm e.1) e.2.1 e.2.2.2.1.2.1) = [(18, 12), (18, 15), (18, 22), (15, 22), (6, 4), (6, 7), (15, 18), (31, 20), (14, 19), (16, 9), (8, 15), (8, 6), (12, 21), (13, 1), (14, 22), (15, 1)].filterMap qpl := by decide +kernel
set_option maxRecDepth 20000 in
theorem qTc1_c : (qTcM 1).map (fun e => Cond.code e.2.2.2.1.2.1 e.2.2.2.1.2.2.1 e.2.2.2.1.2.2.2.1 e.2.2.2.1.2.2.2.2.1) = [(18, 14), (18, 17), (19, 0), (16, 0), (6, 6), (6, 9), (15, 20), (31, 22), (14, 21), (16, 11), (8, 18), (8, 9), (13, 0), (13, 3), (15, 0), (15, 3)].filterMap qpl := by decide +kernel
set_option maxRecDepth 20000 in
theorem qTc1_s : (qTcM 1).map (fun e => Cond.static e.2.2.2.1.2.1) = [(18, 13), (18, 16), (18, 23), (15, 23), (6, 5), (6, 8), (15, 19), (31, 21), (14, 20), (16, 10), (8, 16), (8, 7), (12, 22), (13, 2), (14, 23), (15, 2)].filterMap qpl := by decide +kernel
set_option maxRecDepth 20000 in
theorem qTc1_n : (qTcM 1).map (fun e => Cond.initialized e.2.2.2.1.2.1.cls) = [(0, 23), (0, 23), (0, 23), (0, 2), (0, 2), (0, 2), (0, 2), (0, 2), (8, 17), (11, 14), (8, 17), (8, 8), (12, 23), (12, 23), (8, 17), (8, 17)].filterMap qpl := by decide +kernel
set_option maxRecDepth 20000 in
theorem qTc2_l : (qTcM 2).map (fun e => Cond.methodLink (qNm e.1) e.2.1 e.2.2.2.1.2.1) = [(4, 12), (0, 8), (0, 17), (6, 10), (13, 23), (13, 20)].filterMap qpl := by decide +kernel
set_option maxRecDepth 20000 in
theorem qTc2_c : (qTcM 2).map (fun e => Cond.code e.2.2.2.1.2.1 e.2.2.2.1.2.2.1 e.2.2.2.1.2.2.2.1 e.2.2.2.1.2.2.2.2.1) = [(4, 14), (0, 10), (0, 19), (6, 12), (14, 1), (13, 22)].filterMap qpl := by decide +kernel
set_option maxRecDepth 20000 in
theorem qTc2_i : (qTcM 2).map (fun e => Cond.instanceMethod e.2.2.2.1.2.1) = [(4, 13), (0, 9), (0, 18), (6, 11), (14, 0), (13, 21)].filterMap qpl := by decide +kernel
set_option maxRecDepth 20000 in
theorem qTc2_n : (qTcM 2).map (fun e => Cond.initialized e.2.2.2.1.2.1.cls) = [(2, 2), (0, 2), (0, 6), (5, 11), (10, 0), (10, 0)].filterMap qpl := by decide +kernel
set_option maxRecDepth 20000 in
theorem qTc4_l : (qTcM 4).map (fun e => Cond.methodLink (qNm e.1) e.2.1 e.2.2.2.1.2.1) = [(32, 11), (32, 15)].filterMap qpl := by decide +kernel
set_option maxRecDepth 20000 in
theorem qTc4_c : (qTcM 4).map (fun e => Cond.codeWith e.2.2.2.1.2.1 e.2.2.2.1.2.2.1 e.2.2.2.1.2.2.2.1 e.2.2.2.1.2.2.2.2.1 e.2.2.2.1.2.2.2.2.2) = [(32, 13), (32, 17)].filterMap qpl := by decide +kernel
set_option maxRecDepth 20000 in
theorem qTc4_s : (qTcM 4).map (fun e => Cond.static e.2.2.2.1.2.1) = [(32, 12), (32, 16)].filterMap qpl := by decide +kernel
set_option maxRecDepth 20000 in
theorem qTc4_n : (qTcM 4).map (fun e => Cond.initialized e.2.2.2.1.2.1.cls) = [(0, 2), (0, 2)].filterMap qpl := by decide +kernel
set_option maxRecDepth 20000 in
theorem qTc15_l : (qTcM 15).map (fun e => Cond.methodLink (qNm e.1) e.2.1 e.2.2.2.1.2.1) = [(33, 9)].filterMap qpl := by decide +kernel
set_option maxRecDepth 20000 in
theorem qTc15_c : (qTcM 15).map (fun e => Cond.codeWith e.2.2.2.1.2.1 e.2.2.2.1.2.2.1 e.2.2.2.1.2.2.2.1 e.2.2.2.1.2.2.2.2.1 e.2.2.2.1.2.2.2.2.2) = [(33, 12)].filterMap qpl := by decide +kernel
set_option maxRecDepth 20000 in
theorem qTc15_i : (qTcM 15).map (fun e => Cond.instanceMethod e.2.2.2.1.2.1) = [(33, 10)].filterMap qpl := by decide +kernel
set_option maxRecDepth 20000 in
theorem qTc15_v : (qTcM 15).map (fun e => Cond.selects (qNm e.2.2.2.1.1) e.2.2.2.1.2.1 e.2.2.2.1.2.1) = [(33, 11)].filterMap qpl := by decide +kernel
set_option maxRecDepth 20000 in
theorem qTc15_n : (qTcM 15).map (fun e => Cond.initialized e.2.2.2.1.2.1.cls) = [(0, 2)].filterMap qpl := by decide +kernel
set_option maxRecDepth 20000 in
theorem qTc3_c : (qTcM 3).map (fun e => Cond.code e.2.2.2.1.2.1 e.2.2.2.1.2.2.1 e.2.2.2.1.2.2.2.1 e.2.2.2.1.2.2.2.2.1) = [(3, 5), (3, 5), (3, 11), (3, 5), (2, 10), (3, 5), (3, 19), (3, 11), (4, 1), (4, 6), (4, 23)].filterMap qpl := by decide +kernel
set_option maxRecDepth 20000 in
theorem qTc3_i : (qTcM 3).map (fun e => Cond.instanceMethod e.2.2.2.1.2.1) = [(3, 4), (3, 4), (3, 10), (3, 4), (2, 9), (3, 4), (3, 18), (3, 10), (4, 0), (4, 5), (4, 22)].filterMap qpl := by decide +kernel
set_option maxRecDepth 20000 in
theorem qTc3_n : (qTcM 3).map (fun e => Cond.initialized e.2.2.2.1.2.1.cls) = [(1, 3), (1, 3), (1, 14), (1, 3), (0, 23), (1, 3), (1, 10), (1, 14), (1, 18), (1, 22), (2, 6)].filterMap qpl := by decide +kernel
set_option maxRecDepth 20000 in
theorem qTc10_l : (qTcM 10).map (fun e => Cond.methodLink (qNm e.1) e.2.1 e.2.2.2.1.2.1) = [(14, 4), (14, 18), (9, 7), (7, 19), (8, 1), (10, 23), (11, 3)].filterMap qpl := by decide +kernel
set_option maxRecDepth 20000 in
theorem qTc10_m : (qTcM 10).map (fun e => Cond.sameMethod e.2.2.2.1.2.1.cls e.2.2.2.1.2.1.cls e.2.2.2.1.2.1.name e.2.2.2.1.2.1.desc) = [(14, 5), (9, 8), (9, 8), (7, 20), (8, 2), (11, 0), (11, 4)].filterMap qpl := by decide +kernel
set_option maxRecDepth 20000 in
theorem qTc10_v : (qTcM 10).map (fun e => Cond.selects RJ4 e.2.2.2.1.2.1 e.2.2.2.1.2.1) = [(14, 6), (9, 9), (9, 9), (50, 0), (50, 1), (50, 2), (50, 3)].filterMap qpl := by decide +kernel
set_option maxRecDepth 20000 in
theorem qTc10_x : [Cond.instantiable RJ4 4] = [(5, 10)].filterMap qpl := by decide +kernel
set_option maxRecDepth 20000 in
theorem qTc10_i : (qTcM 10).map (fun e => Cond.instanceMethod e.2.2.2.1.2.1) = [(14, 7), (9, 10), (9, 10), (7, 21), (8, 3), (11, 1), (11, 5)].filterMap qpl := by decide +kernel
set_option maxRecDepth 20000 in
theorem qTc10_n : (qTcM 10).map (fun e => Cond.initialized e.2.2.2.1.2.1.cls) = [(6, 15), (6, 15), (6, 15), (6, 15), (6, 15), (6, 15), (6, 15)].filterMap qpl := by decide +kernel
set_option maxRecDepth 20000 in
theorem qTc10_c : (qTcM 10).map (fun e => Cond.code e.2.2.2.1.2.1 e.2.2.2.1.2.2.1 e.2.2.2.1.2.2.2.1 e.2.2.2.1.2.2.2.2.1) = [(14, 8), (9, 11), (9, 11), (8, 0), (8, 4), (11, 2), (11, 6)].filterMap qpl := by decide +kernel
set_option maxRecDepth 20000 in
theorem qTc11_l : (qTcM 11).map (fun e => Cond.methodLink (qNm e.1) e.2.1 e.2.2.2.1.2.1) = [(7, 9), (12, 17), (14, 15)].filterMap qpl := by decide +kernel
set_option maxRecDepth 20000 in
theorem qTc11_m : (qTcM 11).map (fun e => Cond.sameMethod e.2.2.2.1.2.1.cls e.2.2.2.1.2.1.cls e.2.2.2.1.2.1.name e.2.2.2.1.2.1.desc) = [(7, 10), (12, 18), (14, 10)].filterMap qpl := by decide +kernel
set_option maxRecDepth 20000 in
theorem qTc11_v : (qTcM 11).map (fun e => Cond.superclass (qNm e.1) e.2.2.2.1.2.1.cls) = [(7, 11), (7, 11), (7, 11)].filterMap qpl := by decide +kernel
set_option maxRecDepth 20000 in
theorem qTc11_i : (qTcM 11).map (fun e => Cond.instanceMethod e.2.2.2.1.2.1) = [(7, 12), (12, 19), (14, 16)].filterMap qpl := by decide +kernel
set_option maxRecDepth 20000 in
theorem qTc11_n : (qTcM 11).map (fun e => Cond.initialized e.2.2.2.1.2.1.cls) = [(6, 15), (6, 15), (6, 15)].filterMap qpl := by decide +kernel
set_option maxRecDepth 20000 in
theorem qTc11_c : (qTcM 11).map (fun e => Cond.code e.2.2.2.1.2.1 e.2.2.2.1.2.2.1 e.2.2.2.1.2.2.2.1 e.2.2.2.1.2.2.2.2.1) = [(7, 13), (12, 20), (14, 17)].filterMap qpl := by decide +kernel
set_option maxRecDepth 20000 in
theorem qTc12_l : (qTcM 12).map (fun e => Cond.methodLink (qNm e.1) e.2.1 e.2.2.2.1.2.1) = [(6, 13)].filterMap qpl := by decide +kernel
set_option maxRecDepth 20000 in
theorem qTc12_i : (qTcM 12).map (fun e => Cond.instanceMethod e.2.2.2.1.2.1) = [(6, 14)].filterMap qpl := by decide +kernel
set_option maxRecDepth 20000 in
theorem qTc12_n : (qTcM 12).map (fun e => Cond.initialized e.2.2.2.1.2.1.cls) = [(6, 15)].filterMap qpl := by decide +kernel
set_option maxRecDepth 20000 in
theorem qTc12_c : (qTcM 12).map (fun e => Cond.code e.2.2.2.1.2.1 e.2.2.2.1.2.2.1 e.2.2.2.1.2.2.2.1 e.2.2.2.1.2.2.2.2.1) = [(6, 16)].filterMap qpl := by decide +kernel
set_option maxRecDepth 20000 in
theorem qTc16_l : (qTcM 16).map (fun e => Cond.methodLink (qNm e.1) e.2.1 yJ5_length_8abf5) = [(14, 9)].filterMap qpl := by decide +kernel
set_option maxRecDepth 20000 in
theorem qTc16_v : [Cond.sameMethod yJ5_length_8abf5.cls yJ5_length_8abf5.cls yJ5_length_8abf5.name yJ5_length_8abf5.desc, Cond.instanceMethod yJ5_length_8abf5, Cond.selects RJ4 yJ5_length_8abf5 yJ4_length_8abf5, Cond.code yJ5_length_8abf5 cJ5_length_8abf5 1 (some .int)] = [(14, 10), (14, 16), (14, 12), (14, 17)].filterMap qpl := by decide +kernel
set_option maxRecDepth 20000 in
theorem qTc16_i : (qTcM 16).map (fun e => Cond.instanceMethod e.2.2.2.1.2.1) = [(14, 13)].filterMap qpl := by decide +kernel
set_option maxRecDepth 20000 in
theorem qTc16_n : (qTcM 16).map (fun e => Cond.initialized e.2.2.2.1.2.1.cls) = [(5, 11)].filterMap qpl := by decide +kernel
set_option maxRecDepth 20000 in
theorem qTc16_c : (qTcM 16).map (fun e => Cond.code e.2.2.2.1.2.1 e.2.2.2.1.2.2.1 e.2.2.2.1.2.2.2.1 e.2.2.2.1.2.2.2.2.1) = [(14, 14)].filterMap qpl := by decide +kernel
set_option maxRecDepth 20000 in
theorem qTc13_l : (qTcM 13).map (fun e => Cond.methodLink (qNm e.1) e.2.1 yJ0_checkIndex_df160) = [(16, 12)].filterMap qpl := by decide +kernel
set_option maxRecDepth 20000 in
theorem qTc14_l : (qTcM 14).map (fun e => Cond.methodLink (qNm e.1) e.2.1 arraycopyName) = [(12, 11), (9, 3)].filterMap qpl := by decide +kernel
set_option maxRecDepth 20000 in
theorem qCln_w : [Cond.methodLink RJ7 310 ⟨"[B", "clone", "()Ljava/lang/Object;"⟩, Cond.sameMethod "[B" "java/lang/Object" "clone" "()Ljava/lang/Object;", Cond.native ⟨"java/lang/Object", "clone", "()Ljava/lang/Object;"⟩, Cond.instanceMethod ⟨"java/lang/Object", "clone", "()Ljava/lang/Object;"⟩, Cond.selects "[B" ⟨"[B", "clone", "()Ljava/lang/Object;"⟩ ⟨"java/lang/Object", "clone", "()Ljava/lang/Object;"⟩, Cond.classLink RJ7 311 "[B"] = [(8, 19), (8, 20), (8, 21), (8, 22), (9, 0), (9, 1)].filterMap qpl := by decide +kernel
set_option maxRecDepth 20000 in
theorem qAcp_w : [Cond.native arraycopyName, Cond.static arraycopyName, Cond.initialized "java/lang/System"] = [(9, 4), (9, 5), (9, 6)].filterMap qpl := by decide +kernel
set_option maxRecDepth 20000 in
theorem qToL_w : qToL.map (fun e => Cond.constant (qNm e.1) e.2.1 (Int32.ofInt e.2.2)) = [(8, 5), (8, 11)].filterMap qpl := by decide +kernel
set_option maxRecDepth 20000 in
theorem qTg_w : qTgL.map (fun e => if e.2.2 = 0 then Cond.fieldLink (qNm e.1) e.2.1 "java/lang/String" "COMPACT_STRINGS" "Z" else Cond.fieldLink (qNm e.1) e.2.1 "java/lang/Integer" "DigitOnes" "[B") = [(10, 21), (6, 18), (13, 4)].filterMap qpl := by decide +kernel
set_option maxRecDepth 20000 in
theorem qTn_k : qTnL.map (fun e => Cond.classLink (qNm e.1) e.2.1 (qCl.getD e.2.2 (RX1, TX1, 3)).1) = [(4, 16), (2, 14), (2, 17), (4, 9), (0, 21), (1, 1), (1, 8), (1, 12), (1, 16), (1, 20), (2, 0), (2, 4), (0, 0), (0, 4), (5, 9), (13, 18)].filterMap qpl := by decide +kernel
set_option maxRecDepth 20000 in
theorem qTn_i : qTnL.map (fun e => Cond.instantiable (qCl.getD e.2.2 (RX1, TX1, 3)).1 (qCl.getD e.2.2 (RX1, TX1, 3)).2.2) = [(1, 2), (1, 2), (1, 13), (1, 2), (0, 22), (1, 2), (1, 9), (1, 13), (1, 17), (1, 21), (2, 1), (2, 5), (0, 1), (0, 5), (5, 10), (13, 19)].filterMap qpl := by decide +kernel
set_option maxRecDepth 20000 in
theorem qTn_n : qTnL.map (fun e => Cond.initialized (qCl.getD e.2.2 (RX1, TX1, 3)).1) = [(1, 3), (1, 3), (1, 14), (1, 3), (0, 23), (1, 3), (1, 10), (1, 14), (1, 18), (1, 22), (2, 2), (2, 6), (0, 2), (0, 6), (5, 11), (10, 0)].filterMap qpl := by decide +kernel
set_option maxRecDepth 20000 in
theorem qTa_k : [Cond.classLink RX2 9 RX1, Cond.classLink RL 13 "[[I"] = [(4, 16), (0, 15)].filterMap qpl := by decide +kernel
set_option maxRecDepth 20000 in
theorem qTa_a : [Cond.arrayClass .int, Cond.arrayClass .byte, Cond.arrayClass .char] = [(0, 14), (2, 12), (5, 1)].filterMap qpl := by decide +kernel
def qEx (k : Nat) : String := match k with
  | 0 => "java/lang/IndexOutOfBoundsException"
  | 1 => "java/lang/IllegalArgumentException"
  | _ => "java/util/NoSuchElementException"
set_option maxRecDepth 20000 in
theorem qTx_k : qTxL.map (fun e => Cond.classLink (qNm e.1) e.2.1 (qEx e.2.2.2.2.1)) = [(17, 21), (17, 21), (26, 2), (26, 2), (33, 22)].filterMap qpl := by decide +kernel
set_option maxRecDepth 20000 in
theorem qTx_n : qTxL.map (fun e => Cond.initialized (qEx e.2.2.2.2.1)) = [(17, 22), (17, 22), (26, 3), (26, 3), (33, 23)].filterMap qpl := by decide +kernel
set_option maxRecDepth 20000 in
theorem qTk_k : qTkL.map (fun e => Cond.classLink (qNm e.1) e.2.1 (qEx e.2.2)) = [(32, 14), (32, 18), (33, 13)].filterMap qpl := by decide +kernel
set_option maxRecDepth 20000 in
theorem qTc5_l : (qTcM 5).map (fun e => Cond.methodLink (qNm e.1) e.2.1 Lib.Math.max.name) = [(27, 21), (29, 5), (5, 16), (8, 10)].filterMap qpl := by decide +kernel
set_option maxRecDepth 20000 in
theorem qTc6_l : (qTcM 6).map (fun e => Cond.methodLink (qNm e.1) e.2.1 Lib.Math.min.name) = [(33, 7), (29, 6), (18, 3), (23, 1), (5, 12), (9, 2)].filterMap qpl := by decide +kernel
set_option maxRecDepth 20000 in
theorem qMath_w : [Cond.static Lib.Math.max.name, Cond.static Lib.Math.min.name, Cond.initialized "java/lang/Math", Cond.code Lib.Math.max.name Lib.Math.max.code 2 (some .int), Cond.code Lib.Math.min.name Lib.Math.min.code 2 (some .int)] = [(5, 17), (5, 13), (5, 14), (5, 18), (5, 15)].filterMap qpl := by decide +kernel
set_option maxRecDepth 20000 in
theorem qTc7_l : (qTcM 7).map (fun e => Cond.methodLink (qNm e.1) e.2.1 objectInit) = [(3, 6), (4, 15), (5, 0), (3, 20), (2, 11), (3, 12), (4, 2), (4, 7), (0, 20), (0, 11), (14, 2), (6, 17)].filterMap qpl := by decide +kernel
set_option maxRecDepth 20000 in
theorem qObj_w : [Cond.instanceMethod objectInit, Cond.code objectInit ⟨#[0xb1]⟩ 1 none] = [(0, 12), (0, 13)].filterMap qpl := by decide +kernel
set_option maxRecDepth 20000 in
theorem qTc8_l : (qTcM 8).map (fun e => Cond.methodLink (qNm e.1) e.2.1 yJ0_length_8abf5) = [(19, 21)].filterMap qpl := by decide +kernel
set_option maxRecDepth 20000 in
theorem qTc9_l : (qTcM 9).map (fun e => Cond.methodLink (qNm e.1) e.2.1 yJ0_charAt_5068e) = [(19, 22)].filterMap qpl := by decide +kernel
end
section
def qai (s : qSt) (a : Nat) (t : Nat) : Option (Nat × (Nat → Int32)) := match s.2.2.2 a with
  | .inr (t', n, .inl f) => if t' = t ∧ (qPm a < s.1 ∨ a = 1001000) then some (n, f) else none
  | _ => none
def qaq (s : qSt) (a t : Nat) : Option (Nat × (Nat → Option Nat)) := match s.2.2.2 a with
  | .inr (t', n, .inr (.inr (.inr (.inr f)))) => if t' = t ∧ qPm a < s.1 then some (n, f) else none
  | _ => none
def qob (s : qSt) (a : Nat) (ci : Nat) : Option (List Value) := match s.2.2.2 a with
  | .inl (c', fs) => if c' = ci ∧ qPm a < s.1 then some fs else none
  | _ => none
/-- the number of fields of each kind, and their defaults -/
def qdef (ci : Nat) : List Value := match ci with
  | 0 => (List.range 3).map (fun k => defaultValue (tyX1 k))
  | 1 => (List.range 5).map (fun k => defaultValue (tyX2 k))
  | 2 => (List.range 2).map (fun k => defaultValue (tyX3 k))
  | 3 => (List.range 3).map (fun k => defaultValue (tyX4 k))
  | 4 => (List.range 13).map (fun k => defaultValue (tyX5 k))
  | 5 => (List.range 5).map (fun k => defaultValue (tyX6 k))
  | 6 => (List.range 2).map (fun k => defaultValue (tyX7 k))
  | 7 => (List.range 3).map (fun k => defaultValue (tyX8 k))
  | 8 => (List.range 12).map (fun k => defaultValue (tyX9 k))
  | 9 => (List.range 5).map (fun k => defaultValue (tyL k))
  | 10 => (List.range 4).map (fun k => defaultValue (tyJ0 k))
  | _ => (List.range 4).map (fun k => defaultValue (tyJ4 k))
def qty (ci k : Nat) : FieldType := match ci with
  | 0 => tyX1 k
  | 1 => tyX2 k
  | 2 => tyX3 k
  | 3 => tyX4 k
  | 4 => tyX5 k
  | 5 => tyX6 k
  | 6 => tyX7 k
  | 7 => tyX8 k
  | 8 => tyX9 k
  | 9 => tyL k
  | 10 => tyJ0 k
  | _ => tyJ4 k
/-- may the field be written here: not final, or in its class's constructor -/
def qwr (M : qM) (ci k : Nat) : Bool := ((qCl.getD ci (RX1, TX1, 3)).2.1 k).2.2.2 == false || (M.2.1.name == "<init>" && ((qCl.getD ci (RX1, TX1, 3)).2.1 k).1 == qNm M.1)
def qatype (t : ArrayType) : Option Nat := match t with
  | .int => some 0
  | .byte => some 1
  | .char => some 2
  | _ => none
def qzero (n : Nat) : vp_A := (n, .inl (fun _ => 0))
def qStr (j : Nat) : List Int := qTxB.getD j []
/-- the arguments of a call: n of them off the stack -/
def qargs (n : Nat) (st : List Value) : Option (List Value × List Value) := if n ≤ st.length then some ((st.take n).reverse, st.drop n) else none
def qcat (st : List Value) : Bool := decide ((st.map fun v => v.category).sum ≤ 8)
def qcls (s : qSt) (a : Nat) : Option Nat := match s.2.2.2 a with
  | .inl (c', _) => if qPm a < s.1 then some c' else none
  | _ => none
/-- arrays of bytes that were there before: those of the ten strings, the table of digits -/
def qxl (j : Nat) : Nat := (qStr j).length
def qxt (j k : Nat) : Int32 := Int32.ofInt ((qStr j).getD k 0)
def qxb (a : Nat) : Option (Nat × (Nat → Int32)) := if a = 1000300 then some (100, fun k => Int32.ofNat (48 + k % 10)) else if 1000100 ≤ a ∧ a < 1000110 then some (qxl (a - 1000100), qxt (a - 1000100)) else none
def qby (s : qSt) (a : Nat) : Option (Nat × (Nat → Int32)) := match qai s a 1 with
  | some q => some q
  | none => qxb a
def qistr (a : Nat) : Bool := decide (1000000 ≤ a) && decide (a < 1000010)
def qclx (s : qSt) (a : Nat) : Option Nat := match qcls s a with
  | some c => some c
  | none => if qistr a = true then some 10 else none
/-- the law's rows: an array of six arrays of six numbers -/
def qrow (s : qSt) : qSt := qnew s (.inr (0, 6, .inl (fun _ => 0))) 6
def qman (s : qSt) : qSt := qrow (qrow (qrow (qrow (qrow (qrow (qnew s (.inr (4, 6, .inr (.inr (.inr (.inr (fun i => if i < 6 then some (qPi (s.1 + 1 + i)) else none)))))) 6))))))
def qStep (M : qM) (pc : Nat) (ins : Instr) (len : Nat) (L : qLo) (st : List Value) (s : qSt) : Option qR :=
  match ins with
  | .iload_n k => if len = 1 then (match qld L k with | some (.int x) => qgo (pc + 1) L (.int x :: st) s | _ => none) else none
  | .iload i => if len = 2 then (match qld L i with | some (.int x) => qgo (pc + 2) L (.int x :: st) s | _ => none) else none
  | .aload_n k => if len = 1 then (match qld L k with | some (.ref x) => qgo (pc + 1) L (.ref x :: st) s | _ => none) else none
  | .aload i => if len = 2 then (match qld L i with | some (.ref x) => qgo (pc + 2) L (.ref x :: st) s | _ => none) else none
  | .dload_n k => if len = 1 then (match qld L k with | some (.double x) => qgo (pc + 1) L (.double x :: st) s | _ => none) else none
  | .dload i => if len = 2 then (match qld L i with | some (.double x) => qgo (pc + 2) L (.double x :: st) s | _ => none) else none
  | .istore_n k => if len = 1 then (match st with
      | .int x :: st => (qs1 L k (.int x)).bind fun L' => qgo (pc + 1) L' st s
      | _ => none) else none
  | .istore i => if len = 2 then (match st with
      | .int x :: st => (qs1 L i (.int x)).bind fun L' => qgo (pc + 2) L' st s
      | _ => none) else none
  | .astore_n k => if len = 1 then (match st with
      | .ref x :: st => (qs1 L k (.ref x)).bind fun L' => qgo (pc + 1) L' st s
      | _ => none) else none
  | .astore i => if len = 2 then (match st with
      | .ref x :: st => (qs1 L i (.ref x)).bind fun L' => qgo (pc + 2) L' st s
      | _ => none) else none
  | .dstore_n k => if len = 1 then (match st with
      | .double x :: st => (qs2 L k (.double x)).bind fun L' => qgo (pc + 1) L' st s
      | _ => none) else none
  | .dstore i => if len = 2 then (match st with
      | .double x :: st => (qs2 L i (.double x)).bind fun L' => qgo (pc + 2) L' st s
      | _ => none) else none
  | .iinc i n => if len = 3 then (match qld L i with | some (.int x) => (qs1 L i (.int (x + Int32.ofInt n))).bind fun L' => qgo (pc + 3) L' st s | _ => none) else none
  | .iconst n => if len = 1 then qgo (pc + 1) L (.int (Int32.ofInt n) :: st) s else none
  | .bipush n => if len = 2 then qgo (pc + 2) L (.int (Int8.ofInt n).toInt32 :: st) s else none
  | .sipush n => if len = 3 then qgo (pc + 3) L (.int (Int16.ofInt n).toInt32 :: st) s else none
  | .dconst k => if len = 1 ∧ k = 0 then qgo (pc + 1) L (.double FP.dconst0 :: st) s else none
  | .iadd => if len = 1 then (match st with
      | .int y :: .int x :: st => qgo (pc + 1) L (.int (x + y) :: st) s
      | _ => none) else none
  | .isub => if len = 1 then (match st with
      | .int y :: .int x :: st => qgo (pc + 1) L (.int (x - y) :: st) s
      | _ => none) else none
  | .imul => if len = 1 then (match st with
      | .int y :: .int x :: st => qgo (pc + 1) L (.int (x * y) :: st) s
      | _ => none) else none
  | .iand => if len = 1 then (match st with
      | .int y :: .int x :: st => qgo (pc + 1) L (.int (x &&& y) :: st) s
      | _ => none) else none
  | .ior => if len = 1 then (match st with
      | .int y :: .int x :: st => qgo (pc + 1) L (.int (x ||| y) :: st) s
      | _ => none) else none
  | .ineg => if len = 1 then (match st with
      | .int x :: st => qgo (pc + 1) L (.int (-x) :: st) s
      | _ => none) else none
  | .idiv => if len = 1 then (match st with
      | .int y :: .int x :: st => if y = 0 then none else qgo (pc + 1) L (.int (x / y) :: st) s
      | _ => none) else none
  | .irem => if len = 1 then (match st with
      | .int y :: .int x :: st => if y = 0 then none else qgo (pc + 1) L (.int (x - x / y * y) :: st) s
      | _ => none) else none
  | .ishl => if len = 1 then (match st with
      | .int y :: .int x :: st => qgo (pc + 1) L (.int (x <<< (y &&& 31)) :: st) s
      | _ => none) else none
  | .ishr => if len = 1 then (match st with
      | .int y :: .int x :: st => qgo (pc + 1) L (.int (x >>> (y &&& 31)) :: st) s
      | _ => none) else none
  | .iushr => if len = 1 then (match st with
      | .int y :: .int x :: st => qgo (pc + 1) L (.int ((x.toUInt32 >>> (y.toUInt32 &&& Int32.toUInt32 31)).toInt32) :: st) s
      | _ => none) else none
  | .i2b => if len = 1 then (match st with
      | .int x :: st => qgo (pc + 1) L (.int x.toInt8.toInt32 :: st) s
      | _ => none) else none
  | .i2c => if len = 1 then (match st with
      | .int x :: st => qgo (pc + 1) L (.int ((x.toUInt32 % 65536).toInt32) :: st) s
      | _ => none) else none
  | .i2d => if len = 1 then (match st with
      | .int x :: st => qgo (pc + 1) L (.double (FP.i2d x) :: st) s
      | _ => none) else none
  | .ddiv => if len = 1 then (match st with
      | .double y :: .double x :: st => if (FP.ddiv x y) &&& 0x7fffffffffffffff ≤ 0x7ff0000000000000 then qgo (pc + 1) L (.double (FP.ddiv x y) :: st) s else none
      | _ => none) else none
  | .dcmp op => if len = 1 then (match st with
      | .double y :: .double x :: st => qgo (pc + 1) L (.int (Op.cmpValue (FP.dcmp x y) op) :: st) s
      | _ => none) else none
  | .goto off => if len = 3 then if 0 ≤ (pc : Int) + off then qgo ((pc : Int) + off).toNat L st s else none else none
  | .if_icmp op off => if len = 3 then (match st with
      | .int y :: .int x :: st => qbr pc off 3 (qif op x y = true) L st s
      | _ => none) else none
  | .ifCond op off => if len = 3 then (match st with
      | .int x :: st => qbr pc off 3 (qif op x 0 = true) L st s
      | _ => none) else none
  | .tableswitch d lo hi offs => (match st with
      | .int x :: st => if x.toInt < lo ∨ hi < x.toInt then (if 0 ≤ (pc : Int) + d then qgo ((pc : Int) + d).toNat L st s else none) else (match offs[(x.toInt - lo).toNat]? with | some off => (if 0 ≤ (pc : Int) + off then qgo ((pc : Int) + off).toNat L st s else none) | none => none)
      | _ => none)
  | .dup => if len = 1 then (match st with
      | v :: st => if v.category = 1 then qgo (pc + 1) L (v :: v :: st) s else none
      | _ => none) else none
  | .dup2 => if len = 1 then (match st with
      | v :: w :: st => if v.category = 1 ∧ w.category = 1 then qgo (pc + 1) L (v :: w :: v :: w :: st) s else none
      | _ => none) else none
  | .pop => if len = 1 then (match st with
      | v :: st => if v.category = 1 then qgo (pc + 1) L st s else none
      | _ => none) else none
  | .getfield i => if len = 3 then (match st with
      | .ref a :: st => (match qTf M.1 i with | some (ci, k) => (match qob s a ci with | some fs => (match fs[k]? with | some v => qgo (pc + 3) L (v :: st) s | none => none) | none => (if qistr a = true ∧ ci = 10 ∧ k = 0 then qgo (pc + 3) L (.ref (a + 100) :: st) s else if qistr a = true ∧ ci = 10 ∧ k = 1 then qgo (pc + 3) L (.int 0 :: st) s else none)) | none => none)
      | _ => none) else none
  | .getstatic i => if len = 3 then (match qTg M.1 i with
      | some k => if k = 0 then qgo (pc + 3) L (.int 1 :: st) s else qgo (pc + 3) L (.ref 1000300 :: st) s
      | none => none) else none
  | .aconst_null => if len = 1 then qgo (pc + 1) L (.null :: st) s else none
  | .ifnonnull off => if len = 3 then (match st with
      | .ref _ :: st => if 0 ≤ (pc : Int) + off then qgo ((pc : Int) + off).toNat L st s else none
      | _ => none) else none
  | .checkcast i => if len = 3 then (match st with
      | .ref a :: st => if M.1 = 16 ∧ i = 311 ∧ (qai s a 1).isSome = true ∧ a ≠ 1001000 then qgo (pc + 3) L (.ref a :: st) s else none
      | _ => none) else none
  | .ldc2_w i => if len = 3 ∧ M.1 = 10 ∧ i = 167 then qgo (pc + 3) L (.double 4611686018427387904 :: st) s else none
  | .dmul => if len = 1 then (match st with
      | .double y :: .double x :: st => if (FP.dmul x y) &&& 0x7fffffffffffffff ≤ 0x7ff0000000000000 then qgo (pc + 1) L (.double (FP.dmul x y) :: st) s else none
      | _ => none) else none
  | .putfield i => if len = 3 then (match st with
      | v :: .ref a :: st => (match qTf M.1 i with | some (ci, k) => (match qob s a ci with | some fs => (if narrow (qty ci k) v = v ∧ fits (qty ci k) v = true ∧ k < fs.length ∧ qwr M ci k = true then qgo (pc + 3) L st (qput s a (.inl (ci, fs.set k v))) else none) | none => none) | none => none)
      | _ => none) else none
  | .iaload => if len = 1 then (match st with
      | .int i :: .ref a :: st => (match qai s a 0 with | some (n, f) => (if i < 0 ∨ n ≤ i.toNatClampNeg then none else qgo (pc + 1) L (.int (f i.toNatClampNeg) :: st) s) | none => none)
      | _ => none) else none
  | .baload => if len = 1 then (match st with
      | .int i :: .ref a :: st => (match qby s a with | some (n, f) => (if i < 0 ∨ n ≤ i.toNatClampNeg then none else qgo (pc + 1) L (.int (f i.toNatClampNeg) :: st) s) | none => none)
      | _ => none) else none
  | .caload => if len = 1 then (match st with
      | .int i :: .ref a :: st => (match qai s a 2 with | some (n, f) => (if i < 0 ∨ n ≤ i.toNatClampNeg then none else qgo (pc + 1) L (.int (f i.toNatClampNeg) :: st) s) | none => none)
      | _ => none) else none
  | .aaload => if len = 1 then (match st with
      | .int i :: .ref a :: st => (match qaq s a 5 with | some (n, f) => (if i < 0 ∨ n ≤ i.toNatClampNeg then none else qgo (pc + 1) L (va_rf (f i.toNatClampNeg) :: st) s) | none => (match qaq s a 4 with | some (n, f) => (if i < 0 ∨ n ≤ i.toNatClampNeg then none else qgo (pc + 1) L (va_rf (f i.toNatClampNeg) :: st) s) | none => none))
      | _ => none) else none
  | .iastore => if len = 1 then (match st with
      | .int x :: .int i :: .ref a :: st => (match qai s a 0 with | some (n, f) => (if (i < 0 ∨ n ≤ i.toNatClampNeg) ∨ ¬ qPm a < s.1 then none else qgo (pc + 1) L st (qput s a (.inr (0, n, .inl (upd f i.toNatClampNeg x))))) | none => none)
      | _ => none) else none
  | .bastore => if len = 1 then (match st with
      | .int x :: .int i :: .ref a :: st => (match qai s a 1 with | some (n, f) => (if (i < 0 ∨ n ≤ i.toNatClampNeg) ∨ ¬ qPm a < s.1 then none else qgo (pc + 1) L st (qput s a (.inr (1, n, .inl (upd f i.toNatClampNeg (vp_nar .byte x)))))) | none => none)
      | _ => none) else none
  | .castore => if len = 1 then (match st with
      | .int x :: .int i :: .ref a :: st => (match qai s a 2 with | some (n, f) => (if (i < 0 ∨ n ≤ i.toNatClampNeg) ∨ ¬ qPm a < s.1 then none else qgo (pc + 1) L st (qput s a (.inr (2, n, .inl (upd f i.toNatClampNeg (vp_nar .char x)))))) | none => none)
      | _ => none) else none
  | .aastore => if len = 1 then (match st with
      | .ref v :: .int i :: .ref a :: st => (match qaq s a 5 with | some (n, f) => (if (i < 0 ∨ n ≤ i.toNatClampNeg) ∨ ¬ qcls s v = some 0 then none else qgo (pc + 1) L st (qput s a (.inr (5, n, .inr (.inr (.inr (.inr (va_up f i.toNatClampNeg (some v))))))))) | none => none)
      | _ => none) else none
  | .arraylength => if len = 1 then (match st with
      | .ref a :: st => (match qai s a 0 with | some (n, _) => qgo (pc + 1) L (.int (Int32.ofNat n) :: st) s | none => (match qai s a 2 with | some (n, _) => qgo (pc + 1) L (.int (Int32.ofNat n) :: st) s | none => (match qby s a with | some (n, _) => qgo (pc + 1) L (.int (Int32.ofNat n) :: st) s | none => none)))
      | _ => none) else none
  | .newarray t => if len = 2 then (match st with
      | .int n :: st => (match qatype t with | some k => (if n < 0 ∨ 10000 < n.toNatClampNeg ∨ ¬ s.2.1 = 0 ∨ 1000 ≤ s.1 then none else qgo (pc + 2) L (.ref (qPi s.1) :: st) (qnew s (.inr (k, qzero n.toNatClampNeg)) n.toNatClampNeg)) | none => none)
      | _ => none) else none
  | .anewarray i => if len = 3 then (match st with
      | .int n :: st => if n < 0 ∨ 10000 < n.toNatClampNeg ∨ ¬ s.2.1 = 0 ∨ 1000 ≤ s.1 ∨ ¬ (M.1 = 2 ∧ i = 9) then none else qgo (pc + 3) L (.ref (qPi s.1) :: st) (qnew s (.inr (5, n.toNatClampNeg, .inr (.inr (.inr (.inr (fun _ => none)))))) n.toNatClampNeg)
      | _ => none) else none
  | .multianewarray i d => if len = 4 ∧ M.1 = 10 ∧ i = 13 ∧ d = 2 then (match st with
      | .int y :: .int x :: st => if x = 6 ∧ y = 6 ∧ s.2.1 = 0 ∧ s.1 + 7 ≤ 1000 then qgo (pc + 4) L (.ref (qPi s.1) :: st) (qman s) else none
      | _ => none) else none
  | .ldc i => if len = 2 then (match qTs M.1 i with | some j => qgo (pc + 2) L (.ref (1000000 + j) :: st) s | none => (match qTo M.1 i with | some v => qgo (pc + 2) L (.int (Int32.ofInt v) :: st) s | none => none)) else none
  | .new i => if len = 3 then (match qTn M.1 i with
      | some ci => (if s.2.1 = 0 ∧ s.1 < 1000 then qgo (pc + 3) L (.ref (qPi s.1) :: st) (qnew s (.inl (ci, qdef ci)) (qdef ci).length) else none)
      | none => (match decode M.2.2.1 (pc + 3), decode M.2.2.1 (pc + 4) with
          | .ok (.dup, 1), .ok (.ldc js, 2) => (match decode M.2.2.1 (pc + 6), decode M.2.2.1 (pc + 9) with
              | .ok (.invokespecial jc, 3), .ok (.athrow, 1) => (match qTx M.1 i js jc false with | some E => (if qcat st = true ∧ M.2.2.2.2.2.isEmpty = true then some (.inr (.inl (.inr E, qthr s))) else none) | none => none)
              | _, _ => none)
          | .ok (.dup, 1), .ok (.ldc_w js, 3) => (match decode M.2.2.1 (pc + 7), decode M.2.2.1 (pc + 10) with
              | .ok (.invokespecial jc, 3), .ok (.athrow, 1) => (match qTx M.1 i js jc true with | some E => (if qcat st = true ∧ M.2.2.2.2.2.isEmpty = true then some (.inr (.inl (.inr E, qthr s))) else none) | none => none)
              | _, _ => none)
          | _, _ => none)) else none
  | .ireturn => if len = 1 then (match st with
      | [.int v] => (match M.2.2.2.2.1 with | some rt => (if narrow rt (.int v) = .int v then some (.inr (.inl (.inl (some (.int v)), s))) else none) | none => none)
      | _ => none) else none
  | .dreturn => if len = 1 then (match st with
      | [.double v] => if M.2.2.2.2.1 = some .double then some (.inr (.inl (.inl (some (.double v)), s))) else none
      | _ => none) else none
  | .areturn => if len = 1 then (match st with
      | [.ref v] => (match M.2.2.2.2.1 with | some (.object _) => some (.inr (.inl (.inl (some (.ref v)), s))) | some (.array _) => some (.inr (.inl (.inl (some (.ref v)), s))) | _ => none)
      | _ => none) else none
  | .return_ => if len = 1 then (match st with
      | [] => if M.2.2.2.2.1 = none then some (.inr (.inl (.inl none, s))) else none
      | _ => none) else none
  | .invokestatic i => if len = 3 then (match qTc M.1 i with
      | some (mo, C, n) => (match qargs n st with
          | some (as, rest) => (if qcat rest = true then
              (if mo = 1 ∨ mo = 4 then some (.inr (.inr (i, C, as, rest)))
               else if mo = 5 then (match as with | [.int x, .int y] => qgo (pc + 3) L (.int (if x < y then y else x) :: rest) s | _ => none)
               else if mo = 6 then (match as with | [.int x, .int y] => qgo (pc + 3) L (.int (if y < x then y else x) :: rest) s | _ => none)
               else if mo = 13 then (match as with | [.int k, .int m] => (if ¬ (k < 0 ∨ m ≤ k) then qgo (pc + 3) L rest s else none) | _ => none)
               else if mo = 14 then (match as with | [.ref b, .int sp, .ref a, .int dp, .int w] => (match qby s b, qai s a 1 with | some (nb, f), some (na, g) => (if (sp < 0 ∨ dp < 0 ∨ w < 0 ∨ nb < sp.toNatClampNeg + w.toNatClampNeg ∨ na < dp.toNatClampNeg + w.toNatClampNeg) ∨ a = 1001000 ∨ b = 1001000 ∨ b = a then none else qgo (pc + 3) L rest (qput s a (.inr (1, na, .inl (va_cpy f g sp.toNatClampNeg dp.toNatClampNeg w.toNatClampNeg))))) | _, _ => none) | _ => none)
               else none) else none)
          | none => none)
      | none => none) else none
  | .invokevirtual i => if len = 3 then (match qTc M.1 i with
      | some (mo, C, n) => (match qargs n st with
          | some (as, .ref a :: rest) => (if qcat rest = true then
              (if mo = 0 ∨ mo = 15 ∨ mo = 16 then (match qclx s a with | some ci => (if ci + 1 = C.1 then some (.inr (.inr (i, C, .ref a :: as, rest))) else none) | none => none)
               else if mo = 8 then (if (1000000 ≤ a ∧ a < 1000010) ∧ as = [] then qgo (pc + 3) L (.int (Int32.ofNat (qStr (a - 1000000)).length) :: rest) s else none)
               else if mo = 9 then (match as with | [.int k] => (if (1000000 ≤ a ∧ a < 1000010) ∧ ¬ (k < 0 ∨ (qStr (a - 1000000)).length ≤ k.toNatClampNeg) then qgo (pc + 3) L (.int (Int32.ofInt ((qStr (a - 1000000)).getD k.toNatClampNeg 0)) :: rest) s else none) | _ => none)
               else if mo = 10 then (match qcls s a with | some ci => (if ci = 11 then some (.inr (.inr (i, C, .ref a :: as, rest))) else none) | none => none)
               else if mo = 17 then (match qai s a 1 with | some (m, f) => (if as = [] ∧ a ≠ 1001000 ∧ s.2.1 = 0 ∧ s.1 < 1000 then qgo (pc + 3) L (.ref (qPi s.1) :: rest) (qnew s (.inr (1, m, .inl f)) m) else none) | none => none)
               else none) else none)
          | _ => none)
      | none => none) else none
  | .invokespecial i => if len = 3 then (match qTc M.1 i with
      | some (mo, C, n) => (match qargs n st with
          | some (as, .ref a :: rest) => (if qcat rest = true then
              (if mo = 2 ∨ mo = 3 then (match qcls s a with | some ci => (if ci + 1 = C.1 then some (.inr (.inr (i, C, .ref a :: as, rest))) else none) | none => none)
               else if mo = 7 then (if as = [] then qgo (pc + 3) L rest s else none)
               else if mo = 11 ∨ mo = 12 then (match qcls s a with | some ci => (if ci = 11 then some (.inr (.inr (i, C, .ref a :: as, rest))) else none) | none => none)
               else none) else none)
          | _ => none)
      | none => none) else none
  | _ => none
/-- the handler at pc for exception E: its place -/
def qhan (M : qM) (pc E : Nat) : List (Nat × Nat × Nat × Nat) → Option Nat
  | [] => none
  | (a, b, h, ct) :: r => if a ≤ pc ∧ pc < b then (match qTk M.1 ct with | some E' => (if E' = E then some h else qhan M pc E r) | none => none) else qhan M pc E r
/-- the arguments fit the callee's locals, a slot each -/
def qok (C : qM) (as : List Value) : Bool := as.all (fun v => v.category == 1) && decide (as.length ≤ C.2.2.2.1)
def qExec : Nat → Nat → qM → Nat → qLo → List Value → qSt → Option (qO × qSt)
  | 0, _, _, _, _, _, _ => none
  | n + 1, d, M, pc, L, st, s => match decode M.2.2.1 pc with
    | .error _ => none
    | .ok (ins, len) => match qStep M pc ins len L st s with
      | none => none
      | some (.inl (pc', L', st', s')) => qExec n d M pc' L' st' s'
      | some (.inr (.inl (o, s'))) => some (o, s')
      | some (.inr (.inr (_, C, as, rest))) => if qok C as = true then (match d with
        | 0 => none
        | d' + 1 => (match qExec n d' C 0 (qen C.2.2.2.1 as) [] s with
          | none => none
          | some (.inl v, s') => qExec n d M (pc + 3) L (v.toList ++ rest) s'
          | some (.inr E, s') => (match M.2.2.2.2.2 with
            | [] => some (.inr E, s')
            | hd :: tl => (match qhan M pc E (hd :: tl) with
              | none => none
              | some h => (match decode M.2.2.1 h with
                | .ok (.astore_n k, 1) => if (k : Nat) < L.length then qExec n d M (h + 1) ((qkl L k).set k none) [] s' else none
                | .ok (.astore k, 2) => if k < L.length then qExec n d M (h + 2) ((qkl L k).set k none) [] s' else none
                | _ => none))))) else none
end
section
/-! what the small machine's state is in the heap. G: the law's first size, the addresses of strings and script, those of the strings' bytes, the tables, the array classes, the first heap, the script -/
abbrev qG : Type := Nat × (Nat → Nat) × (Nat → Nat) × va_G × (Nat → ClassId) × Heap × Nat × (Nat → Int32)
def qad (G : qG) (i : Nat) : Nat := if i < 1000000 then G.1 + qPm i else G.2.1 (i - 1000000)
def qV (G : qG) (v : Value) : Value := match v with
  | .ref i => .ref (qad G i)
  | w => w
def qAm (G : qG) (a : vp_A) : vp_A := match a with
  | (n, .inr (.inr (.inr (.inr f)))) => (n, .inr (.inr (.inr (.inr (fun j => (f j).map (qad G))))))
  | a => a
def qE (G : qG) (c : qMC) : va_E := match c with
  | .inl (ci, fs) => .inr (ci, fs.map (qV G))
  | .inr (t, a) => .inl (G.2.2.2.2.1 t, qAm G a)
def qW (G : qG) (s : qSt) : va_W := (List.range s.1).map fun i => (G.1 + i, qE G (s.2.2.2 (qPi i)))
def qtys (G : qG) : List (ClassId × FieldType) := [(G.2.2.2.2.1 0, .int), (G.2.2.2.2.1 1, .byte), (G.2.2.2.2.1 2, .char), (G.2.2.2.2.1 0, .int), (G.2.2.2.2.1 4, .array .int), (G.2.2.2.2.1 5, .object RX1)]
def qA (G : qG) : Nat → Prop := fun q => G.1 ≤ q
def qRel (G : qG) (s : qSt) (H : Heap) : Prop := s.1 ≤ 1000 ∧ (s.2.1 = 0 → H.size = G.1 + s.1) ∧ G.1 + s.1 ≤ H.size ∧ va_P G.2.2.2.1 qCl (qW G s) H ∧ (∀ q, q < G.1 → H[q]? = G.2.2.2.2.2.1[q]?) ∧ s.2.2.2 1001000 = .inr (0, G.2.2.2.2.2.2.1, .inl G.2.2.2.2.2.2.2)
def qpairs (G : qG) (L : qLo) : List (Nat × Value) := (List.range L.length).filterMap fun i => (qld L i).map fun v => (i, qV G v)
def qLs (G : qG) (ls : Array Slot) (nL : Nat) (L : qLo) : Prop := L.length = nL ∧ lv_has ls nL (qpairs G L)
theorem qld_lt {L : qLo} {i : Nat} {v : Value} (h : qld L i = some v) : i < L.length := by
  unfold qld at h
  split at h
  · rename_i w hw
    exact (List.getElem?_eq_some_iff.mp hw).1
  · cases h
theorem mem_qpairs {G : qG} {L : qLo} {q : Nat × Value} : q ∈ qpairs G L ↔ ∃ v, qld L q.1 = some v ∧ q.2 = qV G v := by
  unfold qpairs
  rw [List.mem_filterMap]
  constructor
  · rintro ⟨i, hi, h⟩
    cases hv : qld L i with
    | none => rw [hv] at h; cases h
    | some v => rw [hv] at h; cases h; exact ⟨v, hv, rfl⟩
  · rintro ⟨v, h1, h2⟩
    refine ⟨q.1, List.mem_range.mpr (qld_lt h1), ?_⟩
    rw [h1]
    show some (q.1, qV G v) = some q
    rw [← h2]
theorem qLs_get {G : qG} {ls : Array Slot} {nL i : Nat} {L : qLo} {v : Value} (h : qLs G ls nL L) (hv : qld L i = some v) : ls[i]? = some (.val (qV G v)) := h.2.2.2 (i, qV G v) (mem_qpairs.mpr ⟨v, hv, rfl⟩)
theorem qV_cat (G : qG) (v : Value) : (qV G v).category = v.category := by cases v <;> rfl
theorem qld_eq {L : qLo} {i : Nat} {v : Value} : qld L i = some v ↔ L[i]? = some (some v) := by
  unfold qld
  constructor
  · intro h
    split at h
    · rename_i w hw
      cases h
      exact hw
    · cases h
  · intro h
    rw [h]
theorem qkl_len (L : qLo) (i : Nat) : (qkl L i).length = L.length := by
  unfold qkl
  split
  · rfl
  · split <;> simp
theorem qkl_ld {L : qLo} {i j : Nat} {v : Value} (h : (qkl L i)[j]? = some (some v)) : L[j]? = some (some v) ∧ ¬ (j + 1 = i ∧ v.category = 2) := by
  unfold qkl at h
  split at h
  · exact ⟨h, fun q => by omega⟩
  · rename_i k
    split at h
    · rename_i w hw
      rw [List.getElem?_set] at h
      split at h
      · split at h <;> cases h
      · rename_i hne
        exact ⟨h, fun q => hne (by omega)⟩
    · rename_i w hw
      rw [List.getElem?_set] at h
      split at h
      · split at h <;> cases h
      · rename_i hne
        exact ⟨h, fun q => hne (by omega)⟩
    · rename_i h1 h2
      refine ⟨h, fun q => ?_⟩
      have hj : j = k := by omega
      subst hj
      obtain ⟨-, q2⟩ := q
      cases v with
      | long x => exact h1 x h
      | double x => exact h2 x h
      | _ => cases q2
theorem qLs_st1 {G : qG} {ls ls' : Array Slot} {nL i : Nat} {L L' : qLo} {v : Value} (h : qLs G ls nL L) (hs : qs1 L i v = some L') (h' : lv_has ls' nL ((i, qV G v) :: (qpairs G L).filter (fun q => !(q.1 == i) && !(q.1 + 1 == i && q.2.category == 2)))) : qLs G ls' nL L' := by
  unfold qs1 at hs
  split at hs
  · cases hs
    refine ⟨by rw [List.length_set, qkl_len]; exact h.1, h'.1, h'.2.1, fun q hq => ?_⟩
    obtain ⟨w, hw, hq2⟩ := mem_qpairs.mp hq
    have hw := qld_eq.mp hw
    rw [List.getElem?_set] at hw
    by_cases hqi : i = q.1
    · rw [if_pos hqi] at hw
      split at hw
      · cases hw
        refine h'.2.2 q (List.mem_cons.mpr (Or.inl ?_))
        rw [hqi, ← hq2]
      · cases hw
    · rw [if_neg hqi] at hw
      obtain ⟨h1, h2⟩ := qkl_ld hw
      refine h'.2.2 q (List.mem_cons_of_mem _ (List.mem_filter.mpr ⟨mem_qpairs.mpr ⟨w, qld_eq.mpr h1, hq2⟩, ?_⟩))
      rw [hq2, qV_cat]
      simp only [Bool.and_eq_true, Bool.not_eq_true', beq_eq_false_iff_ne, ne_eq, Bool.and_eq_false_iff]
      refine ⟨fun z => hqi z.symm, ?_⟩
      by_cases z : q.1 + 1 = i
      · exact Or.inr (fun z2 => h2 ⟨z, z2⟩)
      · exact Or.inl z
  · cases hs
theorem qLs_st0 {G : qG} {ls ls' : Array Slot} {nL i : Nat} {L : qLo} {v : Value} (h : qLs G ls nL L) (h' : lv_has ls' nL ((i, v) :: (qpairs G L).filter (fun q => !(q.1 == i) && !(q.1 + 1 == i && q.2.category == 2)))) : qLs G ls' nL ((qkl L i).set i none) := by
  refine ⟨by rw [List.length_set, qkl_len]; exact h.1, h'.1, h'.2.1, fun q hq => ?_⟩
  obtain ⟨w, hw, hq2⟩ := mem_qpairs.mp hq
  have hw := qld_eq.mp hw
  rw [List.getElem?_set] at hw
  by_cases hqi : i = q.1
  · rw [if_pos hqi] at hw
    split at hw <;> cases hw
  · rw [if_neg hqi] at hw
    obtain ⟨h1, h2⟩ := qkl_ld hw
    refine h'.2.2 q (List.mem_cons_of_mem _ (List.mem_filter.mpr ⟨mem_qpairs.mpr ⟨w, qld_eq.mpr h1, hq2⟩, ?_⟩))
    rw [hq2, qV_cat]
    simp only [Bool.and_eq_true, Bool.not_eq_true', beq_eq_false_iff_ne, ne_eq, Bool.and_eq_false_iff]
    refine ⟨fun z => hqi z.symm, ?_⟩
    by_cases z : q.1 + 1 = i
    · exact Or.inr (fun z2 => h2 ⟨z, z2⟩)
    · exact Or.inl z
theorem qLs_st2 {G : qG} {ls ls' : Array Slot} {nL i : Nat} {L L' : qLo} {v : Value} (h : qLs G ls nL L) (hs : qs2 L i v = some L') (h' : lv_has ls' nL ((i, qV G v) :: (qpairs G L).filter (fun q => !(q.1 == i) && (!(q.1 == i + 1) && !(q.1 + 1 == i && q.2.category == 2))))) : qLs G ls' nL L' := by
  unfold qs2 at hs
  split at hs
  · cases hs
    refine ⟨by rw [List.length_set, List.length_set, qkl_len]; exact h.1, h'.1, h'.2.1, fun q hq => ?_⟩
    obtain ⟨w, hw, hq2⟩ := mem_qpairs.mp hq
    have hw := qld_eq.mp hw
    rw [List.getElem?_set] at hw
    by_cases hq1 : i + 1 = q.1
    · rw [if_pos hq1] at hw
      split at hw <;> cases hw
    · rw [if_neg hq1, List.getElem?_set] at hw
      by_cases hqi : i = q.1
      · rw [if_pos hqi] at hw
        split at hw
        · cases hw
          refine h'.2.2 q (List.mem_cons.mpr (Or.inl ?_))
          rw [hqi, ← hq2]
        · cases hw
      · rw [if_neg hqi] at hw
        obtain ⟨h1, h2⟩ := qkl_ld hw
        refine h'.2.2 q (List.mem_cons_of_mem _ (List.mem_filter.mpr ⟨mem_qpairs.mpr ⟨w, qld_eq.mpr h1, hq2⟩, ?_⟩))
        rw [hq2, qV_cat]
        simp only [Bool.and_eq_true, Bool.not_eq_true', beq_eq_false_iff_ne, ne_eq, Bool.and_eq_false_iff]
        refine ⟨fun z => hqi z.symm, fun z => hq1 z.symm, ?_⟩
        by_cases z : q.1 + 1 = i
        · exact Or.inr (fun z2 => h2 ⟨z, z2⟩)
        · exact Or.inl z
  · cases hs
/-! the world as a list -/
theorem qW_pi {G : qG} {s : qSt} {k : Nat} (h : k < s.1) : (qW G s)[k]? = some (G.1 + k, qE G (s.2.2.2 (qPi k))) := by
  unfold qW
  rw [List.getElem?_map, List.getElem?_range h]
  rfl
theorem qW_at {G : qG} {s : qSt} {i : Nat} (h : qPm i < s.1) : (qW G s)[qPm i]? = some (G.1 + qPm i, qE G (s.2.2.2 i)) := by
  rw [qW_pi h, qPi_Pm]
theorem qW_lt {G : qG} {s : qSt} {k : Nat} {q : Nat × va_E} (h : (qW G s)[k]? = some q) : k < s.1 ∧ q = (G.1 + k, qE G (s.2.2.2 (qPi k))) := by
  have hk : k < s.1 := by
    have := (List.getElem?_eq_some_iff.mp h).1
    unfold qW at this
    rwa [List.length_map, List.length_range] at this
  rw [qW_pi hk] at h
  exact ⟨hk, (Option.some.inj h).symm⟩
theorem qW_D (G : qG) (s : qSt) : va_D (qA G) (qW G s) := by
  refine ⟨fun i j p q hi hj hpq => ?_, fun k q hk => ?_⟩
  · obtain ⟨-, rfl⟩ := qW_lt hi
    obtain ⟨-, rfl⟩ := qW_lt hj
    have : G.1 + i = G.1 + j := hpq
    omega
  · obtain ⟨-, rfl⟩ := qW_lt hk
    exact Nat.le_add_right _ _
theorem qad_lt (G : qG) {a : Nat} (h : a < 1000000) : qad G a = G.1 + qPm a := by
  unfold qad
  rw [if_pos h]
theorem qRel_lt {G : qG} {s : qSt} {H : Heap} (h : qRel G s H) {a : Nat} (ha : qPm a < s.1) : qad G a = G.1 + qPm a := qad_lt G (by have := h.1; have := qPm_le ha; omega)
theorem qRel_put {G : qG} {s : qSt} {H H1 : Heap} {a : Nat} {c : qMC} (h : qRel G s H) (ha : qPm a < s.1) (he : va_at G.2.2.2.1 qCl (G.1 + qPm a, qE G c) H1) (hz : H1.size = H.size) (oq : ∀ q : Nat, q ≠ G.1 + qPm a → H1[q]? = H[q]?) : qRel G (qput s a c) H1 := by
  obtain ⟨h1, h2, h3, h4, h5, h6⟩ := h
  refine ⟨h1, fun z => by rw [hz]; exact h2 z, by rw [hz]; exact h3, fun k q hk => ?_, fun q hq => by rw [oq q (by omega)]; exact h5 q hq, ?_⟩
  · obtain ⟨hks, rfl⟩ := qW_lt hk
    by_cases hka : k = qPm a
    · subst hka
      show va_at _ _ (_, qE G (qup s.2.2.2 a c (qPi (qPm a)))) H1
      rw [qPi_Pm, qup, if_pos rfl]
      exact he
    · show va_at _ _ (_, qE G (qup s.2.2.2 a c (qPi k))) H1
      rw [qup, if_neg (fun z => hka (by rw [← z, qPm_Pi]))]
      exact (h4 k _ (qW_pi hks)).kept (oq _ (by show G.1 + k ≠ _; omega))
  · show qup s.2.2.2 a c 1001000 = _
    have := qPm_le ha
    rw [qup, if_neg (by omega)]
    exact h6
theorem qRel_new {G : qG} {s : qSt} {H H1 : Heap} {c : qMC} {n : Nat} (h : qRel G s H) (h0 : s.2.1 = 0) (hs : s.1 < 1000) (he : va_at G.2.2.2.1 qCl (H.size, qE G c) H1) (hz : H1.size = H.size + 1) (oq : ∀ q : Nat, q < H.size → H1[q]? = H[q]?) : qRel G (qnew s c n) H1 := by
  obtain ⟨h1, h2, h3, h4, h5, h6⟩ := h
  have hsz := h2 h0
  refine ⟨Nat.succ_le_of_lt hs, fun _ => by rw [hz, hsz]; rfl, by rw [hz, hsz]; exact Nat.le_refl _, fun k q hk => ?_, fun q hq => by rw [oq q (by omega)]; exact h5 q hq, ?_⟩
  · obtain ⟨hks, rfl⟩ := qW_lt hk
    have hks : k < s.1 + 1 := hks
    by_cases hka : k = s.1
    · subst hka
      show va_at _ _ (_, qE G (qup s.2.2.2 (qPi s.1) c (qPi s.1))) H1
      rw [qup, if_pos rfl, ← hsz]
      exact he
    · show va_at _ _ (_, qE G (qup s.2.2.2 (qPi s.1) c (qPi k))) H1
      rw [qup, if_neg (fun z => hka (qPi_inj z))]
      exact (h4 k _ (qW_pi (by omega))).kept (oq _ (by show G.1 + k < _; omega))
  · show qup s.2.2.2 (qPi s.1) c 1001000 = _
    have : qPi s.1 < 1001000 := by
      unfold qPi
      split <;> (try split) <;> omega
    rw [qup, if_neg (by omega)]
    exact h6
theorem qRel_thr {G : qG} {s : qSt} {H H1 : Heap} (h : qRel G s H) (hz : H.size ≤ H1.size) (oq : ∀ q : Nat, q < H.size → H1[q]? = H[q]?) : qRel G (qthr s) H1 := by
  obtain ⟨h1, h2, h3, h4, h5, h6⟩ := h
  refine ⟨h1, (fun z => by cases z), Nat.le_trans h3 hz, fun k q hk => ?_, fun q hq => by rw [oq q (by omega)]; exact h5 q hq, h6⟩
  obtain ⟨hks, rfl⟩ := qW_lt hk
  have hks : k < s.1 := hks
  exact (h4 k _ (qW_pi hks)).kept (oq _ (by show G.1 + k < _; omega))
theorem qRel_S {G : qG} {s : qSt} {H H0 : Heap} {locs : List Loc} (h : qRel G s H) (hb : ∀ q, q < G.1 → H0[q]? = G.2.2.2.2.2.1[q]?) (hz : H0.size ≤ H.size) (hl : ∀ z ∈ locs, G.1 ≤ z.base) : va_S (qA G) H0 H locs :=
  ⟨hz, fun q _ h2 => by
    have hq : q < G.1 := Nat.not_le.mp h2
    rw [h.2.2.2.2.1 q hq, hb q hq], hl⟩
theorem qV_nar {G : qG} {ty : FieldType} {v : Value} (h : narrow ty v = v) : narrow ty (qV G v) = qV G v := by
  cases v <;> first | exact h | (cases ty <;> rfl)
theorem qV_fit {G : qG} {ty : FieldType} {v : Value} (h : fits ty v = true) : fits ty (qV G v) = true := by
  cases v <;> first | exact h | (cases ty <;> first | rfl | exact h)
theorem qV_int (G : qG) (x : Int32) : qV G (.int x) = .int x := rfl
end
section
/-! RUNS OF THE SMALL MACHINE, whatever the slots hold that are not told -/
def qLe (L L' : qLo) : Prop := L.length = L'.length ∧ ∀ (k : Nat) (v : Value), L[k]? = some (some v) → L'[k]? = some (some v)
theorem qLe_rf (L : qLo) : qLe L L := ⟨rfl, fun _ _ h => h⟩
theorem qLe_tr {L1 L2 L3 : qLo} (h1 : qLe L1 L2) (h2 : qLe L2 L3) : qLe L1 L3 := ⟨h1.1.trans h2.1, fun k v h => h2.2 k v (h1.2 k v h)⟩
theorem qLe_nil : qLe [] [] := qLe_rf []
theorem qLe_eq {a : Option Value} {l l' : qLo} (h : qLe l l') : qLe (a :: l) (a :: l') := by
  refine ⟨by rw [List.length_cons, List.length_cons, h.1], fun k v hk => ?_⟩
  cases k with
  | zero => exact hk
  | succ k => rw [List.getElem?_cons_succ] at hk ⊢; exact h.2 k v hk
theorem qLe_sk {b : Option Value} {l l' : qLo} (h : qLe l l') : qLe (none :: l) (b :: l') := by
  refine ⟨by rw [List.length_cons, List.length_cons, h.1], fun k v hk => ?_⟩
  cases k with
  | zero => cases hk
  | succ k => rw [List.getElem?_cons_succ] at hk ⊢; exact h.2 k v hk
theorem qLe_ld {L L' : qLo} {k : Nat} {v : Value} (h : qLe L L') (hv : qld L k = some v) : qld L' k = some v := qld_eq.mpr (h.2 k v (qld_eq.mp hv))
theorem qkl_kp {L : qLo} {i j : Nat} {v : Value} (h : L[j]? = some (some v)) (hn : ¬ (j + 1 = i ∧ v.category = 2)) : (qkl L i)[j]? = some (some v) := by
  unfold qkl
  split
  · exact h
  · rename_i k
    split
    · rename_i w hw
      rw [List.getElem?_set]
      split
      · rename_i hkj
        subst hkj
        rw [h] at hw
        cases hw
        exact absurd ⟨rfl, rfl⟩ hn
      · exact h
    · rename_i w hw
      rw [List.getElem?_set]
      split
      · rename_i hkj
        subst hkj
        rw [h] at hw
        cases hw
        exact absurd ⟨rfl, rfl⟩ hn
      · exact h
    · exact h
theorem qLe_set {L L' : qLo} (h : qLe L L') (i : Nat) (x : Option Value) : qLe (L.set i x) (L'.set i x) := by
  refine ⟨by rw [List.length_set, List.length_set, h.1], fun k v hk => ?_⟩
  rw [List.getElem?_set] at hk ⊢
  by_cases hik : i = k
  · rw [if_pos hik] at hk ⊢
    rw [← h.1]
    exact hk
  · rw [if_neg hik] at hk ⊢
    exact h.2 k v hk
theorem qLe_kset {L L' : qLo} (h : qLe L L') (i : Nat) (x : Option Value) : qLe ((qkl L i).set i x) ((qkl L' i).set i x) := by
  refine ⟨by rw [List.length_set, List.length_set, qkl_len, qkl_len, h.1], fun k v hk => ?_⟩
  rw [List.getElem?_set] at hk ⊢
  by_cases hik : i = k
  · rw [if_pos hik] at hk ⊢
    rw [qkl_len] at hk ⊢
    rw [← h.1]
    exact hk
  · rw [if_neg hik] at hk ⊢
    obtain ⟨h1, h2⟩ := qkl_ld hk
    exact qkl_kp (h.2 k v h1) h2
theorem qLe_st1 {L L' L1 : qLo} {i : Nat} {v : Value} (h : qLe L L') (hs : qs1 L i v = some L1) : ∃ L1', qs1 L' i v = some L1' ∧ qLe L1 L1' := by
  unfold qs1 at hs
  split at hs
  · rename_i hi
    cases hs
    refine ⟨(qkl L' i).set i (some v), ?_, qLe_kset h i _⟩
    unfold qs1
    rw [if_pos (by rw [← h.1]; exact hi)]
  · cases hs
theorem qLe_st2 {L L' L1 : qLo} {i : Nat} {v : Value} (h : qLe L L') (hs : qs2 L i v = some L1) : ∃ L1', qs2 L' i v = some L1' ∧ qLe L1 L1' := by
  unfold qs2 at hs
  split at hs
  · rename_i hi
    cases hs
    refine ⟨((qkl L' i).set i (some v)).set (i + 1) none, ?_, qLe_set (qLe_kset h i _) _ _⟩
    unfold qs2
    rw [if_pos (by rw [← h.1]; exact hi)]
  · cases hs
theorem qexec_up : ∀ (n m d : Nat) (M : qM) (pc : Nat) (L : qLo) (st : List Value) (s : qSt) (r : qO × qSt), n ≤ m → qExec n d M pc L st s = some r → qExec m d M pc L st s = some r := by
  intro n
  induction n with
  | zero => intro m d M pc L st s r _ h; cases h
  | succ n ih =>
    intro m d M pc L st s r hm h
    cases m with
    | zero => omega
    | succ m =>
      have hm : n ≤ m := by omega
      unfold qExec at h ⊢
      split at h
      · cases h
      · rename_i ins len hd
        try rw [hd]
        try dsimp only
        split at h
        · cases h
        · rename_i pc2 L2 st2 s2 hs
          try rw [hs]
          exact ih m d M pc2 L2 st2 s2 r hm h
        · rename_i o2 s2 hs
          try rw [hs]
          exact h
        · rename_i i C as rest hs
          try rw [hs]
          try dsimp only
          split at h
          · rename_i hok
            rw [if_pos hok]
            split at h
            · cases h
            · rename_i d'
              try dsimp only
              split at h
              · cases h
              · rename_i v s2 hcal
                rw [ih m d' C 0 _ _ s _ hm hcal]
                exact ih m _ M _ _ _ _ r hm h
              · rename_i E s2 hcal
                rw [ih m d' C 0 _ _ s _ hm hcal]
                try dsimp only
                split at h
                · rename_i hM
                  try rw [hM]
                  exact h
                · rename_i hd0 tl0 hM
                  try rw [hM]
                  try dsimp only
                  split at h
                  · cases h
                  · rename_i hpc hhan
                    try rw [hhan]
                    try dsimp only
                    split at h
                    · rename_i kk hdh
                      try rw [hdh]
                      try dsimp only
                      split at h
                      · rename_i hlt
                        rw [if_pos hlt]
                        exact ih m _ M _ _ _ _ r hm h
                      · cases h
                    · rename_i kk hdh
                      try rw [hdh]
                      try dsimp only
                      split at h
                      · rename_i hlt
                        rw [if_pos hlt]
                        exact ih m _ M _ _ _ _ r hm h
                      · cases h
                    · cases h
          · cases h
def Ev (d : Nat) (M : qM) (pc : Nat) (L : qLo) (st : List Value) (s : qSt) (o : qO) (s' : qSt) : Prop := ∀ L' : qLo, qLe L L' → ∃ n, qExec n d M pc L' st s = some (o, s')
def iv (x : Int) : Value := .int (Int32.ofInt x)
def wr (x : Int) : Int := (Int32.ofInt x).toInt
section EV
variable {d : Nat} {M : qM} {pc pc' : Nat} {L L1 : qLo} {st : List Value} {s s1 : qSt} {o : qO} {s' : qSt}
theorem ev_wk {L0 : qLo} (h : qLe L0 L) (k : Ev d M pc L0 st s o s') : Ev d M pc L st s o s' := fun L' hL => k L' (qLe_tr h hL)
theorem ev_one {ins : Instr} {len : Nat} {st' : List Value} (hd : decode M.2.2.1 pc = .ok (ins, len)) (hs : ∀ L', qLe L L' → ∃ L1', qStep M pc ins len L' st s = some (.inl (pc', L1', st', s1)) ∧ qLe L1 L1') (k : Ev d M pc' L1 st' s1 o s') : Ev d M pc L st s o s' := by
  intro L' h
  obtain ⟨L1', h1, h2⟩ := hs L' h
  obtain ⟨n, hn⟩ := k L1' h2
  refine ⟨n + 1, ?_⟩
  unfold qExec
  rw [hd]
  try dsimp only
  rw [h1]
  exact hn
theorem ev_pu {ins : Instr} {len : Nat} {st' : List Value} (hd : decode M.2.2.1 pc = .ok (ins, len)) (hs : ∀ L', qStep M pc ins len L' st s = some (.inl (pc', L', st', s1))) (k : Ev d M pc' L st' s1 o s') : Ev d M pc L st s o s' :=
  ev_one hd (fun L' h => ⟨L', hs L', h⟩) k
theorem ev_end {ins : Instr} {len : Nat} (hd : decode M.2.2.1 pc = .ok (ins, len)) (hs : ∀ L', qStep M pc ins len L' st s = some (.inr (.inl (o, s')))) : Ev d M pc L st s o s' := by
  intro L' h
  refine ⟨1, ?_⟩
  unfold qExec
  rw [hd]
  try dsimp only
  rw [hs L']
/-! slots and numbers -/
theorem ev_iload_n {k : Fin 4} {x : Int} (hd : decode M.2.2.1 pc = .ok (.iload_n k, 1)) (hp : pc + 1 = pc') (hL : qld L k = some (iv x)) (kk : Ev d M pc' L (iv x :: st) s o s') : Ev d M pc L st s o s' := by
  subst hp
  exact ev_one hd (fun L' h => ⟨L', by dsimp only [qStep]; (try rw [if_pos rfl]); rw [qLe_ld h hL]; rfl, h⟩) kk
theorem ev_iload {k : Nat} {x : Int} (hd : decode M.2.2.1 pc = .ok (.iload k, 2)) (hp : pc + 2 = pc') (hL : qld L k = some (iv x)) (kk : Ev d M pc' L (iv x :: st) s o s') : Ev d M pc L st s o s' := by
  subst hp
  exact ev_one hd (fun L' h => ⟨L', by dsimp only [qStep]; (try rw [if_pos rfl]); rw [qLe_ld h hL]; rfl, h⟩) kk
theorem ev_aload_n {k : Fin 4} {a : Nat} (hd : decode M.2.2.1 pc = .ok (.aload_n k, 1)) (hp : pc + 1 = pc') (hL : qld L k = some (.ref a)) (kk : Ev d M pc' L (.ref a :: st) s o s') : Ev d M pc L st s o s' := by
  subst hp
  exact ev_one hd (fun L' h => ⟨L', by dsimp only [qStep]; (try rw [if_pos rfl]); rw [qLe_ld h hL]; rfl, h⟩) kk
theorem ev_aload {k : Nat} {a : Nat} (hd : decode M.2.2.1 pc = .ok (.aload k, 2)) (hp : pc + 2 = pc') (hL : qld L k = some (.ref a)) (kk : Ev d M pc' L (.ref a :: st) s o s') : Ev d M pc L st s o s' := by
  subst hp
  exact ev_one hd (fun L' h => ⟨L', by dsimp only [qStep]; (try rw [if_pos rfl]); rw [qLe_ld h hL]; rfl, h⟩) kk
theorem ev_dload {k : Nat} {x : UInt64} (hd : decode M.2.2.1 pc = .ok (.dload k, 2)) (hp : pc + 2 = pc') (hL : qld L k = some (.double x)) (kk : Ev d M pc' L (.double x :: st) s o s') : Ev d M pc L st s o s' := by
  subst hp
  exact ev_one hd (fun L' h => ⟨L', by dsimp only [qStep]; (try rw [if_pos rfl]); rw [qLe_ld h hL]; rfl, h⟩) kk
theorem ev_istore_n {k : Fin 4} {x : Int} (hd : decode M.2.2.1 pc = .ok (.istore_n k, 1)) (hp : pc + 1 = pc') (hL : qs1 L k (iv x) = some L1) (kk : Ev d M pc' L1 st s o s') : Ev d M pc L (iv x :: st) s o s' := by
  subst hp
  refine ev_one hd (fun L' h => ?_) kk
  obtain ⟨L1', h1, h2⟩ := qLe_st1 h hL
  refine ⟨L1', ?_, h2⟩
  unfold iv
  dsimp only [qStep]
  unfold iv at h1
  try rw [if_pos rfl]
  try dsimp only
  rw [h1]
  rfl
theorem ev_istore {k : Nat} {x : Int} (hd : decode M.2.2.1 pc = .ok (.istore k, 2)) (hp : pc + 2 = pc') (hL : qs1 L k (iv x) = some L1) (kk : Ev d M pc' L1 st s o s') : Ev d M pc L (iv x :: st) s o s' := by
  subst hp
  refine ev_one hd (fun L' h => ?_) kk
  obtain ⟨L1', h1, h2⟩ := qLe_st1 h hL
  refine ⟨L1', ?_, h2⟩
  unfold iv
  dsimp only [qStep]
  unfold iv at h1
  try rw [if_pos rfl]
  try dsimp only
  rw [h1]
  rfl
theorem ev_astore_n {k : Fin 4} {x : Nat} (hd : decode M.2.2.1 pc = .ok (.astore_n k, 1)) (hp : pc + 1 = pc') (hL : qs1 L k (.ref x) = some L1) (kk : Ev d M pc' L1 st s o s') : Ev d M pc L (.ref x :: st) s o s' := by
  subst hp
  refine ev_one hd (fun L' h => ?_) kk
  obtain ⟨L1', h1, h2⟩ := qLe_st1 h hL
  refine ⟨L1', ?_, h2⟩
  dsimp only [qStep]
  try rw [if_pos rfl]
  try dsimp only
  rw [h1]
  rfl
theorem ev_dstore {k : Nat} {x : UInt64} (hd : decode M.2.2.1 pc = .ok (.dstore k, 2)) (hp : pc + 2 = pc') (hL : qs2 L k (.double x) = some L1) (kk : Ev d M pc' L1 st s o s') : Ev d M pc L (.double x :: st) s o s' := by
  subst hp
  refine ev_one hd (fun L' h => ?_) kk
  obtain ⟨L1', h1, h2⟩ := qLe_st2 h hL
  refine ⟨L1', ?_, h2⟩
  dsimp only [qStep]
  try rw [if_pos rfl]
  try dsimp only
  rw [h1]
  rfl
theorem ev_iinc {k : Nat} {x c : Int} (hd : decode M.2.2.1 pc = .ok (.iinc k c, 3)) (hp : pc + 3 = pc') (hx : qld L k = some (iv x)) (hL : qs1 L k (iv (x + c)) = some L1) (kk : Ev d M pc' L1 st s o s') : Ev d M pc L st s o s' := by
  subst hp
  refine ev_one hd (fun L' h => ?_) kk
  obtain ⟨L1', h1, h2⟩ := qLe_st1 h hL
  refine ⟨L1', ?_, h2⟩
  have hx' := qLe_ld h hx
  unfold iv at h1 hx'
  dsimp only [qStep]
  try try rw [if_pos rfl]
  rw [hx']
  try dsimp only
  rw [← Int32.ofInt_add, h1]
  rfl
theorem ev_iconst {c : Int} (hd : decode M.2.2.1 pc = .ok (.iconst c, 1)) (hp : pc + 1 = pc') (kk : Ev d M pc' L (iv c :: st) s o s') : Ev d M pc L st s o s' := by
  subst hp
  exact ev_pu hd (fun L' => rfl) kk
theorem ev_bipush {c : Int} (hd : decode M.2.2.1 pc = .ok (.bipush c, 2)) (hp : pc + 2 = pc') (hc : (Int8.ofInt c).toInt32 = Int32.ofInt c) (kk : Ev d M pc' L (iv c :: st) s o s') : Ev d M pc L st s o s' := by
  subst hp
  refine ev_pu hd (fun L' => ?_) kk
  unfold iv
  dsimp only [qStep]
  try try rw [if_pos rfl]
  rw [hc]
  rfl
theorem ev_sipush {c : Int} (hd : decode M.2.2.1 pc = .ok (.sipush c, 3)) (hp : pc + 3 = pc') (hc : (Int16.ofInt c).toInt32 = Int32.ofInt c) (kk : Ev d M pc' L (iv c :: st) s o s') : Ev d M pc L st s o s' := by
  subst hp
  refine ev_pu hd (fun L' => ?_) kk
  unfold iv
  dsimp only [qStep]
  try try rw [if_pos rfl]
  rw [hc]
  rfl
theorem ev_iadd {x y : Int} (hd : decode M.2.2.1 pc = .ok (.iadd, 1)) (hp : pc + 1 = pc') (kk : Ev d M pc' L (iv (x + y) :: st) s o s') : Ev d M pc L (iv y :: iv x :: st) s o s' := by
  subst hp
  refine ev_pu hd (fun L' => ?_) kk
  unfold iv
  dsimp only [qStep]
  try try rw [if_pos rfl]
  rw [Int32.ofInt_add]
  rfl
theorem ev_isub {x y : Int} (hd : decode M.2.2.1 pc = .ok (.isub, 1)) (hp : pc + 1 = pc') (kk : Ev d M pc' L (iv (x - y) :: st) s o s') : Ev d M pc L (iv y :: iv x :: st) s o s' := by
  subst hp
  refine ev_pu hd (fun L' => ?_) kk
  unfold iv
  dsimp only [qStep]
  try try rw [if_pos rfl]
  rw [Int32.ofInt_sub]
  rfl
theorem ev_imul {x y : Int} (hd : decode M.2.2.1 pc = .ok (.imul, 1)) (hp : pc + 1 = pc') (kk : Ev d M pc' L (iv (x * y) :: st) s o s') : Ev d M pc L (iv y :: iv x :: st) s o s' := by
  subst hp
  refine ev_pu hd (fun L' => ?_) kk
  unfold iv
  dsimp only [qStep]
  try try rw [if_pos rfl]
  rw [Int32.ofInt_mul]
  rfl
theorem ev_ineg {x : Int} (hd : decode M.2.2.1 pc = .ok (.ineg, 1)) (hp : pc + 1 = pc') (kk : Ev d M pc' L (iv (-x) :: st) s o s') : Ev d M pc L (iv x :: st) s o s' := by
  subst hp
  refine ev_pu hd (fun L' => ?_) kk
  unfold iv
  dsimp only [qStep]
  try try rw [if_pos rfl]
  rw [Int32.ofInt_neg]
  rfl
theorem iv_to (X : Int32) : iv X.toInt = .int X := by
  unfold iv
  rw [Int32.ofInt_toInt]
def ian (x y : Int) : Int := (Int32.ofInt x &&& Int32.ofInt y).toInt
def io (x y : Int) : Int := (Int32.ofInt x ||| Int32.ofInt y).toInt
def ishl (x y : Int) : Int := (Int32.ofInt x <<< (Int32.ofInt y &&& 31)).toInt
def ishr (x y : Int) : Int := (Int32.ofInt x >>> (Int32.ofInt y &&& 31)).toInt
def iush (x y : Int) : Int := (((Int32.ofInt x).toUInt32 >>> ((Int32.ofInt y).toUInt32 &&& Int32.toUInt32 31)).toInt32).toInt
def idv (x y : Int) : Int := (Int32.ofInt x / Int32.ofInt y).toInt
def irm (x y : Int) : Int := (Int32.ofInt x - Int32.ofInt x / Int32.ofInt y * Int32.ofInt y).toInt
def i2b (x : Int) : Int := ((Int32.ofInt x).toInt8.toInt32).toInt
def i2c (x : Int) : Int := (((Int32.ofInt x).toUInt32 % 65536).toInt32).toInt
def mx (x y : Int) : Int := if wr x < wr y then y else x
def mn (x y : Int) : Int := if wr y < wr x then y else x
theorem ev_iand {x y : Int} (hd : decode M.2.2.1 pc = .ok (.iand, 1)) (hp : pc + 1 = pc') (kk : Ev d M pc' L (iv (ian x y) :: st) s o s') : Ev d M pc L (iv y :: iv x :: st) s o s' := by
  subst hp
  refine ev_pu hd (fun L' => ?_) kk
  unfold ian
  rw [iv_to]
  rfl
theorem ev_ior {x y : Int} (hd : decode M.2.2.1 pc = .ok (.ior, 1)) (hp : pc + 1 = pc') (kk : Ev d M pc' L (iv (io x y) :: st) s o s') : Ev d M pc L (iv y :: iv x :: st) s o s' := by
  subst hp
  refine ev_pu hd (fun L' => ?_) kk
  unfold io
  rw [iv_to]
  rfl
theorem ev_ishl {x y : Int} (hd : decode M.2.2.1 pc = .ok (.ishl, 1)) (hp : pc + 1 = pc') (kk : Ev d M pc' L (iv (ishl x y) :: st) s o s') : Ev d M pc L (iv y :: iv x :: st) s o s' := by
  subst hp
  refine ev_pu hd (fun L' => ?_) kk
  unfold ishl
  rw [iv_to]
  rfl
theorem ev_ishr {x y : Int} (hd : decode M.2.2.1 pc = .ok (.ishr, 1)) (hp : pc + 1 = pc') (kk : Ev d M pc' L (iv (ishr x y) :: st) s o s') : Ev d M pc L (iv y :: iv x :: st) s o s' := by
  subst hp
  refine ev_pu hd (fun L' => ?_) kk
  unfold ishr
  rw [iv_to]
  rfl
theorem ev_iushr {x y : Int} (hd : decode M.2.2.1 pc = .ok (.iushr, 1)) (hp : pc + 1 = pc') (kk : Ev d M pc' L (iv (iush x y) :: st) s o s') : Ev d M pc L (iv y :: iv x :: st) s o s' := by
  subst hp
  refine ev_pu hd (fun L' => ?_) kk
  unfold iush
  rw [iv_to]
  rfl
theorem ev_idiv {x y : Int} (hd : decode M.2.2.1 pc = .ok (.idiv, 1)) (hp : pc + 1 = pc') (hy : Int32.ofInt y ≠ 0) (kk : Ev d M pc' L (iv (idv x y) :: st) s o s') : Ev d M pc L (iv y :: iv x :: st) s o s' := by
  subst hp
  refine ev_pu hd (fun L' => ?_) kk
  unfold idv
  rw [iv_to]
  unfold iv
  dsimp only [qStep]
  try rw [if_pos rfl]
  try dsimp only
  rw [if_neg hy]
  rfl
theorem ev_irem {x y : Int} (hd : decode M.2.2.1 pc = .ok (.irem, 1)) (hp : pc + 1 = pc') (hy : Int32.ofInt y ≠ 0) (kk : Ev d M pc' L (iv (irm x y) :: st) s o s') : Ev d M pc L (iv y :: iv x :: st) s o s' := by
  subst hp
  refine ev_pu hd (fun L' => ?_) kk
  unfold irm
  rw [iv_to]
  unfold iv
  dsimp only [qStep]
  try rw [if_pos rfl]
  try dsimp only
  rw [if_neg hy]
  rfl
theorem ev_i2b {x : Int} (hd : decode M.2.2.1 pc = .ok (.i2b, 1)) (hp : pc + 1 = pc') (kk : Ev d M pc' L (iv (i2b x) :: st) s o s') : Ev d M pc L (iv x :: st) s o s' := by
  subst hp
  refine ev_pu hd (fun L' => ?_) kk
  unfold i2b
  rw [iv_to]
  rfl
theorem ev_i2c {x : Int} (hd : decode M.2.2.1 pc = .ok (.i2c, 1)) (hp : pc + 1 = pc') (kk : Ev d M pc' L (iv (i2c x) :: st) s o s') : Ev d M pc L (iv x :: st) s o s' := by
  subst hp
  refine ev_pu hd (fun L' => ?_) kk
  unfold i2c
  rw [iv_to]
  rfl
theorem ev_dup {v : Value} (hd : decode M.2.2.1 pc = .ok (.dup, 1)) (hp : pc + 1 = pc') (hv : v.category = 1) (kk : Ev d M pc' L (v :: v :: st) s o s') : Ev d M pc L (v :: st) s o s' := by
  subst hp
  refine ev_pu hd (fun L' => ?_) kk
  dsimp only [qStep]
  try rw [if_pos rfl]
  try dsimp only
  rw [if_pos hv]
  rfl
theorem ev_dup2 {v w : Value} (hd : decode M.2.2.1 pc = .ok (.dup2, 1)) (hp : pc + 1 = pc') (hv : v.category = 1 ∧ w.category = 1) (kk : Ev d M pc' L (v :: w :: v :: w :: st) s o s') : Ev d M pc L (v :: w :: st) s o s' := by
  subst hp
  refine ev_pu hd (fun L' => ?_) kk
  dsimp only [qStep]
  try rw [if_pos rfl]
  try dsimp only
  rw [if_pos hv]
  rfl
theorem ev_pop {v : Value} (hd : decode M.2.2.1 pc = .ok (.pop, 1)) (hp : pc + 1 = pc') (hv : v.category = 1) (kk : Ev d M pc' L st s o s') : Ev d M pc L (v :: st) s o s' := by
  subst hp
  refine ev_pu hd (fun L' => ?_) kk
  dsimp only [qStep]
  try rw [if_pos rfl]
  try dsimp only
  rw [if_pos hv]
  rfl
/-! long and double numbers -/
def dcm (x y : UInt64) (op : CmpOp) : Int := (Op.cmpValue (FP.dcmp x y) op).toInt
theorem ev_dcmp {x y : UInt64} {op : CmpOp} (hd : decode M.2.2.1 pc = .ok (.dcmp op, 1)) (hp : pc + 1 = pc') (kk : Ev d M pc' L (iv (dcm x y op) :: st) s o s') : Ev d M pc L (.double y :: .double x :: st) s o s' := by
  subst hp
  refine ev_pu hd (fun L' => ?_) kk
  unfold dcm
  rw [iv_to]
  rfl
def i2d (x : Int) : UInt64 := FP.i2d (Int32.ofInt x)
theorem ev_i2d {x : Int} (hd : decode M.2.2.1 pc = .ok (.i2d, 1)) (hp : pc + 1 = pc') (kk : Ev d M pc' L (.double (i2d x) :: st) s o s') : Ev d M pc L (iv x :: st) s o s' := by
  subst hp
  exact ev_pu hd (fun L' => rfl) kk
def ddv (x y : UInt64) : Option UInt64 := if (FP.ddiv x y) &&& 0x7fffffffffffffff ≤ 0x7ff0000000000000 then some (FP.ddiv x y) else none
theorem ev_ddiv {x y z : UInt64} (hd : decode M.2.2.1 pc = .ok (.ddiv, 1)) (hp : pc + 1 = pc') (hz : ddv x y = some z) (kk : Ev d M pc' L (.double z :: st) s o s') : Ev d M pc L (.double y :: .double x :: st) s o s' := by
  subst hp
  unfold ddv at hz
  split at hz
  · rename_i hc
    cases hz
    refine ev_pu hd (fun L' => ?_) kk
    dsimp only [qStep]
    try rw [if_pos rfl]
    try dsimp only
    rw [if_pos hc]
    rfl
  · cases hz
theorem ev_dconst0 (hd : decode M.2.2.1 pc = .ok (.dconst 0, 1)) (hp : pc + 1 = pc') (kk : Ev d M pc' L (.double FP.dconst0 :: st) s o s') : Ev d M pc L st s o s' := by
  subst hp
  exact ev_pu hd (fun L' => by dsimp only [qStep]; rw [if_pos ⟨rfl, rfl⟩]; rfl) kk
/-! jumps -/
theorem wr_lt {x y : Int} : Int32.ofInt x < Int32.ofInt y ↔ wr x < wr y := Int32.lt_iff_toInt_lt
theorem wr_le {x y : Int} : Int32.ofInt x ≤ Int32.ofInt y ↔ wr x ≤ wr y := Int32.le_iff_toInt_le
theorem wr_eq {x y : Int} : Int32.ofInt x = Int32.ofInt y ↔ wr x = wr y := Int32.toInt_inj.symm
theorem ev_goto {off : Int} (hd : decode M.2.2.1 pc = .ok (.goto off, 3)) (ht : (pc : Int) + off = (pc' : Int)) (kk : Ev d M pc' L st s o s') : Ev d M pc L st s o s' := by
  refine ev_pu hd (fun L' => ?_) kk
  dsimp only [qStep]
  try try rw [if_pos rfl]
  rw [if_pos (by omega), ht]
  rfl
theorem ev_br {op : ClassFile.Cond} {off : Int} {x y : Int} {tgt : Nat} {p : Prop} (hd : decode M.2.2.1 pc = .ok (.if_icmp op off, 3)) (ht : (pc : Int) + off = (tgt : Int)) (hp : pc + 3 = pc') (hc : qif op (Int32.ofInt x) (Int32.ofInt y) = true ↔ p) (k1 : p → Ev d M tgt L st s o s') (k2 : ¬ p → Ev d M pc' L st s o s') : Ev d M pc L (iv y :: iv x :: st) s o s' := by
  subst hp
  by_cases h : p
  · refine ev_pu hd (fun L' => ?_) (k1 h)
    unfold iv
    dsimp only [qStep]
    try rw [if_pos rfl]
    try dsimp only
    unfold qbr
    rw [if_pos (by omega), if_pos (hc.mpr h), ht]
    rfl
  · refine ev_pu hd (fun L' => ?_) (k2 h)
    unfold iv
    dsimp only [qStep]
    try rw [if_pos rfl]
    try dsimp only
    unfold qbr
    rw [if_pos (by omega), if_neg (fun q => h (hc.mp q))]
    rfl
theorem ev_br0 {op : ClassFile.Cond} {off : Int} {x : Int} {tgt : Nat} {p : Prop} (hd : decode M.2.2.1 pc = .ok (.ifCond op off, 3)) (ht : (pc : Int) + off = (tgt : Int)) (hp : pc + 3 = pc') (hc : qif op (Int32.ofInt x) (Int32.ofInt 0) = true ↔ p) (k1 : p → Ev d M tgt L st s o s') (k2 : ¬ p → Ev d M pc' L st s o s') : Ev d M pc L (iv x :: st) s o s' := by
  subst hp
  have hc : qif op (Int32.ofInt x) 0 = true ↔ p := hc
  by_cases h : p
  · refine ev_pu hd (fun L' => ?_) (k1 h)
    unfold iv
    dsimp only [qStep]
    try rw [if_pos rfl]
    try dsimp only
    unfold qbr
    rw [if_pos (by omega), if_pos (hc.mpr h), ht]
    rfl
  · refine ev_pu hd (fun L' => ?_) (k2 h)
    unfold iv
    dsimp only [qStep]
    try rw [if_pos rfl]
    try dsimp only
    unfold qbr
    rw [if_pos (by omega), if_neg (fun q => h (hc.mp q))]
    rfl
theorem qc_eq {x y : Int} : qif .eq (Int32.ofInt x) (Int32.ofInt y) = true ↔ wr x = wr y := decide_eq_true_iff.trans wr_eq
theorem qc_ne {x y : Int} : qif .ne (Int32.ofInt x) (Int32.ofInt y) = true ↔ ¬ wr x = wr y := decide_eq_true_iff.trans (not_congr wr_eq)
theorem qc_lt {x y : Int} : qif .lt (Int32.ofInt x) (Int32.ofInt y) = true ↔ wr x < wr y := decide_eq_true_iff.trans wr_lt
theorem qc_ge {x y : Int} : qif .ge (Int32.ofInt x) (Int32.ofInt y) = true ↔ ¬ wr x < wr y := decide_eq_true_iff.trans (wr_le.trans Int.not_lt.symm)
theorem qc_gt {x y : Int} : qif .gt (Int32.ofInt x) (Int32.ofInt y) = true ↔ wr y < wr x := decide_eq_true_iff.trans wr_lt
theorem qc_le {x y : Int} : qif .le (Int32.ofInt x) (Int32.ofInt y) = true ↔ ¬ wr y < wr x := decide_eq_true_iff.trans (wr_le.trans Int.not_lt.symm)
theorem ev_icmpeq {off : Int} {x y : Int} {x1 y1 : Int} {tgt : Nat} (hd : decode M.2.2.1 pc = .ok (.if_icmp .eq off, 3)) (ht : (pc : Int) + off = (tgt : Int)) (hp : pc + 3 = pc') (hx : wr x = x1) (hy : wr y = y1) (k1 : x1 = y1 → Ev d M tgt L st s o s') (k2 : ¬ x1 = y1 → Ev d M pc' L st s o s') : Ev d M pc L (iv y :: iv x :: st) s o s' := by
  subst hx hy
  exact ev_br hd ht hp qc_eq k1 k2
theorem ev_icmpne {off : Int} {x y : Int} {x1 y1 : Int} {tgt : Nat} (hd : decode M.2.2.1 pc = .ok (.if_icmp .ne off, 3)) (ht : (pc : Int) + off = (tgt : Int)) (hp : pc + 3 = pc') (hx : wr x = x1) (hy : wr y = y1) (k1 : x1 = y1 → Ev d M pc' L st s o s') (k2 : ¬ x1 = y1 → Ev d M tgt L st s o s') : Ev d M pc L (iv y :: iv x :: st) s o s' := by
  subst hx hy
  exact ev_br hd ht hp qc_ne k2 (fun h => k1 (Decidable.not_not.mp h))
theorem ev_icmplt {off : Int} {x y : Int} {x1 y1 : Int} {tgt : Nat} (hd : decode M.2.2.1 pc = .ok (.if_icmp .lt off, 3)) (ht : (pc : Int) + off = (tgt : Int)) (hp : pc + 3 = pc') (hx : wr x = x1) (hy : wr y = y1) (k1 : x1 < y1 → Ev d M tgt L st s o s') (k2 : ¬ x1 < y1 → Ev d M pc' L st s o s') : Ev d M pc L (iv y :: iv x :: st) s o s' := by
  subst hx hy
  exact ev_br hd ht hp qc_lt k1 k2
theorem ev_icmpge {off : Int} {x y : Int} {x1 y1 : Int} {tgt : Nat} (hd : decode M.2.2.1 pc = .ok (.if_icmp .ge off, 3)) (ht : (pc : Int) + off = (tgt : Int)) (hp : pc + 3 = pc') (hx : wr x = x1) (hy : wr y = y1) (k1 : x1 < y1 → Ev d M pc' L st s o s') (k2 : ¬ x1 < y1 → Ev d M tgt L st s o s') : Ev d M pc L (iv y :: iv x :: st) s o s' := by
  subst hx hy
  exact ev_br hd ht hp qc_ge k2 (fun h => k1 (Decidable.not_not.mp h))
theorem ev_icmpgt {off : Int} {x y : Int} {x1 y1 : Int} {tgt : Nat} (hd : decode M.2.2.1 pc = .ok (.if_icmp .gt off, 3)) (ht : (pc : Int) + off = (tgt : Int)) (hp : pc + 3 = pc') (hx : wr x = x1) (hy : wr y = y1) (k1 : y1 < x1 → Ev d M tgt L st s o s') (k2 : ¬ y1 < x1 → Ev d M pc' L st s o s') : Ev d M pc L (iv y :: iv x :: st) s o s' := by
  subst hx hy
  exact ev_br hd ht hp qc_gt k1 k2
theorem ev_icmple {off : Int} {x y : Int} {x1 y1 : Int} {tgt : Nat} (hd : decode M.2.2.1 pc = .ok (.if_icmp .le off, 3)) (ht : (pc : Int) + off = (tgt : Int)) (hp : pc + 3 = pc') (hx : wr x = x1) (hy : wr y = y1) (k1 : y1 < x1 → Ev d M pc' L st s o s') (k2 : ¬ y1 < x1 → Ev d M tgt L st s o s') : Ev d M pc L (iv y :: iv x :: st) s o s' := by
  subst hx hy
  exact ev_br hd ht hp qc_le k2 (fun h => k1 (Decidable.not_not.mp h))
theorem ev_ifeq {off : Int} {x : Int} {x1 : Int} {tgt : Nat} (hd : decode M.2.2.1 pc = .ok (.ifCond .eq off, 3)) (ht : (pc : Int) + off = (tgt : Int)) (hp : pc + 3 = pc') (hx : wr x = x1) (k1 : x1 = 0 → Ev d M tgt L st s o s') (k2 : ¬ x1 = 0 → Ev d M pc' L st s o s') : Ev d M pc L (iv x :: st) s o s' := by
  subst hx
  exact ev_br0 hd ht hp qc_eq k1 k2
theorem ev_ifne {off : Int} {x : Int} {x1 : Int} {tgt : Nat} (hd : decode M.2.2.1 pc = .ok (.ifCond .ne off, 3)) (ht : (pc : Int) + off = (tgt : Int)) (hp : pc + 3 = pc') (hx : wr x = x1) (k1 : x1 = 0 → Ev d M pc' L st s o s') (k2 : ¬ x1 = 0 → Ev d M tgt L st s o s') : Ev d M pc L (iv x :: st) s o s' := by
  subst hx
  exact ev_br0 hd ht hp qc_ne k2 (fun h => k1 (Decidable.not_not.mp h))
theorem ev_iflt {off : Int} {x : Int} {x1 : Int} {tgt : Nat} (hd : decode M.2.2.1 pc = .ok (.ifCond .lt off, 3)) (ht : (pc : Int) + off = (tgt : Int)) (hp : pc + 3 = pc') (hx : wr x = x1) (k1 : x1 < 0 → Ev d M tgt L st s o s') (k2 : ¬ x1 < 0 → Ev d M pc' L st s o s') : Ev d M pc L (iv x :: st) s o s' := by
  subst hx
  exact ev_br0 hd ht hp qc_lt k1 k2
theorem ev_ifge {off : Int} {x : Int} {x1 : Int} {tgt : Nat} (hd : decode M.2.2.1 pc = .ok (.ifCond .ge off, 3)) (ht : (pc : Int) + off = (tgt : Int)) (hp : pc + 3 = pc') (hx : wr x = x1) (k1 : x1 < 0 → Ev d M pc' L st s o s') (k2 : ¬ x1 < 0 → Ev d M tgt L st s o s') : Ev d M pc L (iv x :: st) s o s' := by
  subst hx
  exact ev_br0 hd ht hp qc_ge k2 (fun h => k1 (Decidable.not_not.mp h))
theorem ev_ifgt {off : Int} {x : Int} {x1 : Int} {tgt : Nat} (hd : decode M.2.2.1 pc = .ok (.ifCond .gt off, 3)) (ht : (pc : Int) + off = (tgt : Int)) (hp : pc + 3 = pc') (hx : wr x = x1) (k1 : 0 < x1 → Ev d M tgt L st s o s') (k2 : ¬ 0 < x1 → Ev d M pc' L st s o s') : Ev d M pc L (iv x :: st) s o s' := by
  subst hx
  exact ev_br0 hd ht hp qc_gt k1 k2
theorem ev_ifle {off : Int} {x : Int} {x1 : Int} {tgt : Nat} (hd : decode M.2.2.1 pc = .ok (.ifCond .le off, 3)) (ht : (pc : Int) + off = (tgt : Int)) (hp : pc + 3 = pc') (hx : wr x = x1) (k1 : 0 < x1 → Ev d M pc' L st s o s') (k2 : ¬ 0 < x1 → Ev d M tgt L st s o s') : Ev d M pc L (iv x :: st) s o s' := by
  subst hx
  exact ev_br0 hd ht hp qc_le k2 (fun h => k1 (Decidable.not_not.mp h))
theorem ev_switch {df lo hi : Int} {offs : Array Int} {len : Nat} {x off : Int} {tgt : Nat} (hd : decode M.2.2.1 pc = .ok (.tableswitch df lo hi offs, len)) (h1 : lo ≤ wr x) (h2 : wr x ≤ hi) (ho : offs[(wr x - lo).toNat]? = some off) (ht : (pc : Int) + off = (tgt : Int)) (kk : Ev d M tgt L st s o s') : Ev d M pc L (iv x :: st) s o s' := by
  refine ev_pu hd (fun L' => ?_) kk
  unfold iv
  dsimp only [qStep]
  try dsimp only
  rw [if_neg (by show ¬ (wr x < lo ∨ hi < wr x); omega), show (Int32.ofInt x).toInt = wr x from rfl, ho]
  try dsimp only
  rw [if_pos (by omega), ht]
  rfl
theorem ev_switchd {df lo hi : Int} {offs : Array Int} {len : Nat} {x : Int} {tgt : Nat} (hd : decode M.2.2.1 pc = .ok (.tableswitch df lo hi offs, len)) (h1 : wr x < lo ∨ hi < wr x) (ht : (pc : Int) + df = (tgt : Int)) (kk : Ev d M tgt L st s o s') : Ev d M pc L (iv x :: st) s o s' := by
  refine ev_pu hd (fun L' => ?_) kk
  unfold iv
  dsimp only [qStep]
  try dsimp only
  rw [if_pos (show (Int32.ofInt x).toInt < lo ∨ hi < (Int32.ofInt x).toInt from h1), if_pos (by omega), ht]
  rfl
/-! ends -/
theorem ev_ireturn {x : Int} {rt : FieldType} (hd : decode M.2.2.1 pc = .ok (.ireturn, 1)) (hr : M.2.2.2.2.1 = some rt) (hn : narrow rt (iv x) = iv x) : Ev d M pc L [iv x] s (.inl (some (iv x))) s := by
  refine ev_end hd (fun L' => ?_)
  unfold iv at hn ⊢
  dsimp only [qStep]
  try rw [if_pos rfl]
  try dsimp only
  rw [hr]
  try dsimp only
  rw [if_pos hn]
theorem ev_dreturn {x : UInt64} (hd : decode M.2.2.1 pc = .ok (.dreturn, 1)) (hr : M.2.2.2.2.1 = some .double) : Ev d M pc L [.double x] s (.inl (some (.double x))) s := by
  refine ev_end hd (fun L' => ?_)
  dsimp only [qStep]
  try rw [if_pos rfl]
  try dsimp only
  rw [if_pos hr]
theorem ev_areturn {x : Nat} {nn : String} (hd : decode M.2.2.1 pc = .ok (.areturn, 1)) (hr : M.2.2.2.2.1 = some (.object nn)) : Ev d M pc L [.ref x] s (.inl (some (.ref x))) s := by
  refine ev_end hd (fun L' => ?_)
  dsimp only [qStep]
  try rw [if_pos rfl]
  try dsimp only
  rw [hr]
theorem ev_return (hd : decode M.2.2.1 pc = .ok (.return_, 1)) (hr : M.2.2.2.2.1 = none) : Ev d M pc L [] s (.inl none) s := by
  refine ev_end hd (fun L' => ?_)
  dsimp only [qStep]
  try rw [if_pos rfl]
  try dsimp only
  rw [if_pos hr]
theorem ev_throw {ik js jc E : Nat} (hd : decode M.2.2.1 pc = .ok (.new ik, 3)) (hn : qTn M.1 ik = none) (h3 : decode M.2.2.1 (pc + 3) = .ok (.dup, 1)) (h4 : decode M.2.2.1 (pc + 4) = .ok (.ldc js, 2)) (h6 : decode M.2.2.1 (pc + 6) = .ok (.invokespecial jc, 3)) (h9 : decode M.2.2.1 (pc + 9) = .ok (.athrow, 1)) (hx : qTx M.1 ik js jc false = some E) (hc : qcat st = true) (hh : M.2.2.2.2.2 = []) : Ev d M pc L st s (.inr E) (qthr s) := by
  refine ev_end hd (fun L' => ?_)
  dsimp only [qStep]
  try try rw [if_pos rfl]
  rw [hn]
  try dsimp only
  rw [h3, h4]
  try dsimp only
  rw [h6, h9]
  show (match qTx M.1 ik js jc false with
    | some E => (if qcat st = true ∧ M.2.2.2.2.2.isEmpty = true then some (Sum.inr (Sum.inl (Sum.inr E, qthr s))) else none)
    | none => none) = _
  rw [hx]
  try dsimp only
  rw [if_pos ⟨hc, by rw [hh]; rfl⟩]
theorem ev_throww {ik js jc E : Nat} (hd : decode M.2.2.1 pc = .ok (.new ik, 3)) (hn : qTn M.1 ik = none) (h3 : decode M.2.2.1 (pc + 3) = .ok (.dup, 1)) (h4 : decode M.2.2.1 (pc + 4) = .ok (.ldc_w js, 3)) (h6 : decode M.2.2.1 (pc + 7) = .ok (.invokespecial jc, 3)) (h9 : decode M.2.2.1 (pc + 10) = .ok (.athrow, 1)) (hx : qTx M.1 ik js jc true = some E) (hc : qcat st = true) (hh : M.2.2.2.2.2 = []) : Ev d M pc L st s (.inr E) (qthr s) := by
  refine ev_end hd (fun L' => ?_)
  dsimp only [qStep]
  try try rw [if_pos rfl]
  rw [hn]
  try dsimp only
  rw [h3, h4]
  try dsimp only
  rw [h6, h9]
  show (match qTx M.1 ik js jc true with
    | some E => (if qcat st = true ∧ M.2.2.2.2.2.isEmpty = true then some (Sum.inr (Sum.inl (Sum.inr E, qthr s))) else none)
    | none => none) = _
  rw [hx]
  try dsimp only
  rw [if_pos ⟨hc, by rw [hh]; rfl⟩]
/-! calls -/
theorem ev_callg {ins : Instr} {len i : Nat} {C : qM} {as rest : List Value} {v : Option Value} {L0 : qLo} (hd : decode M.2.2.1 pc = .ok (ins, len)) (hs : ∀ L', qStep M pc ins len L' st s = some (.inr (.inr (i, C, as, rest)))) (hp : pc + 3 = pc') (hok : qok C as = true) (hc : Ev d C 0 L0 [] s (.inl v) s1) (hL : qen C.2.2.2.1 as = L0) {st2 : List Value} (hv : v.toList ++ rest = st2) (kk : Ev (d + 1) M pc' L st2 s1 o s') : Ev (d + 1) M pc L st s o s' := by
  intro L' h
  subst hp hL hv
  obtain ⟨n1, h1⟩ := hc _ (qLe_rf _)
  obtain ⟨n2, h2⟩ := kk L' h
  refine ⟨max n1 n2 + 1, ?_⟩
  unfold qExec
  rw [hd]
  try dsimp only
  rw [hs L']
  try dsimp only
  rw [if_pos hok, qexec_up n1 (max n1 n2) _ _ _ _ _ _ _ (Nat.le_max_left _ _) h1]
  try dsimp only
  exact qexec_up n2 (max n1 n2) _ _ _ _ _ _ _ (Nat.le_max_right _ _) h2
theorem ev_callx {ins : Instr} {len i E : Nat} {C : qM} {as rest : List Value} {L0 : qLo} (hd : decode M.2.2.1 pc = .ok (ins, len)) (hs : ∀ L', qStep M pc ins len L' st s = some (.inr (.inr (i, C, as, rest)))) (hok : qok C as = true) (hc : Ev d C 0 L0 [] s (.inr E) s1) (hL : qen C.2.2.2.1 as = L0) (hh : M.2.2.2.2.2 = []) : Ev (d + 1) M pc L st s (.inr E) s1 := by
  intro L' h
  subst hL
  obtain ⟨n1, h1⟩ := hc _ (qLe_rf _)
  refine ⟨n1 + 1, ?_⟩
  unfold qExec
  rw [hd]
  try dsimp only
  rw [hs L']
  try dsimp only
  rw [if_pos hok, h1]
  try dsimp only
  rw [hh]
theorem ev_callh {ins : Instr} {len i E hpc k : Nat} {C : qM} {as rest : List Value} {L0 : qLo} (hd : decode M.2.2.1 pc = .ok (ins, len)) (hs : ∀ L', qStep M pc ins len L' st s = some (.inr (.inr (i, C, as, rest)))) (hok : qok C as = true) (hc : Ev d C 0 L0 [] s (.inr E) s1) (hL : qen C.2.2.2.1 as = L0) {a0 : Nat × Nat × Nat × Nat} {t0 : List (Nat × Nat × Nat × Nat)} (hh : M.2.2.2.2.2 = a0 :: t0) (hq : qhan M pc E (a0 :: t0) = some hpc) (hdh : decode M.2.2.1 hpc = .ok (.astore k, 2)) (hk : k < L.length) (hL1 : (qkl L k).set k none = L1) (hp : hpc + 2 = pc') (kk : Ev (d + 1) M pc' L1 [] s1 o s') : Ev (d + 1) M pc L st s o s' := by
  intro L' h
  subst hp hL hL1
  obtain ⟨n1, h1⟩ := hc _ (qLe_rf _)
  obtain ⟨n2, h2⟩ := kk _ (qLe_kset h k none)
  refine ⟨max n1 n2 + 1, ?_⟩
  unfold qExec
  rw [hd]
  try dsimp only
  rw [hs L']
  try dsimp only
  rw [if_pos hok, qexec_up n1 (max n1 n2) _ _ _ _ _ _ _ (Nat.le_max_left _ _) h1]
  try dsimp only
  rw [hh]
  try dsimp only
  rw [hq]
  try dsimp only
  rw [hdh]
  show (if k < List.length L' then qExec (max n1 n2) (d + 1) M (hpc + 2) (List.set (qkl L' k) k none) [] s1 else none) = _
  rw [if_pos (by rw [← h.1]; exact hk)]
  exact qexec_up n2 (max n1 n2) _ _ _ _ _ _ _ (Nat.le_max_right _ _) h2
theorem ev_callhn {ins : Instr} {len i E hpc : Nat} {k : Fin 4} {C : qM} {as rest : List Value} {L0 : qLo} (hd : decode M.2.2.1 pc = .ok (ins, len)) (hs : ∀ L', qStep M pc ins len L' st s = some (.inr (.inr (i, C, as, rest)))) (hok : qok C as = true) (hc : Ev d C 0 L0 [] s (.inr E) s1) (hL : qen C.2.2.2.1 as = L0) {a0 : Nat × Nat × Nat × Nat} {t0 : List (Nat × Nat × Nat × Nat)} (hh : M.2.2.2.2.2 = a0 :: t0) (hq : qhan M pc E (a0 :: t0) = some hpc) (hdh : decode M.2.2.1 hpc = .ok (.astore_n k, 1)) (hk : (k : Nat) < L.length) (hL1 : (qkl L k).set k none = L1) (hp : hpc + 1 = pc') (kk : Ev (d + 1) M pc' L1 [] s1 o s') : Ev (d + 1) M pc L st s o s' := by
  intro L' h
  subst hp hL hL1
  obtain ⟨n1, h1⟩ := hc _ (qLe_rf _)
  obtain ⟨n2, h2⟩ := kk _ (qLe_kset h k none)
  refine ⟨max n1 n2 + 1, ?_⟩
  unfold qExec
  rw [hd]
  try dsimp only
  rw [hs L']
  try dsimp only
  rw [if_pos hok, qexec_up n1 (max n1 n2) _ _ _ _ _ _ _ (Nat.le_max_left _ _) h1]
  try dsimp only
  rw [hh]
  try dsimp only
  rw [hq]
  try dsimp only
  rw [hdh]
  show (if (k : Nat) < List.length L' then qExec (max n1 n2) (d + 1) M (hpc + 1) (List.set (qkl L' k) k none) [] s1 else none) = _
  rw [if_pos (by rw [← h.1]; exact hk)]
  exact qexec_up n2 (max n1 n2) _ _ _ _ _ _ _ (Nat.le_max_right _ _) h2
/-- the call's step: a static method -/
theorem qs_S {i n mo : Nat} {C : qM} {as rest : List Value} (ht : qTc M.1 i = some (mo, C, n)) (hmo : mo = 1 ∨ mo = 4) (ha : qargs n st = some (as, rest)) (hc : qcat rest = true) : ∀ L' : qLo, qStep M pc (.invokestatic i) 3 L' st s = some (.inr (.inr (i, C, as, rest))) := by
  intro L'
  dsimp only [qStep]
  try try rw [if_pos rfl]
  rw [ht]
  try dsimp only
  rw [ha]
  try dsimp only
  rw [if_pos hc, if_pos hmo]
theorem qs_Vx {i n a ci mo : Nat} {C : qM} {as rest : List Value} (ht : qTc M.1 i = some (mo, C, n)) (hmo : mo = 0 ∨ mo = 15 ∨ mo = 16) (ha : qargs n st = some (as, .ref a :: rest)) (hc : qcat rest = true) (hr : qclx s a = some ci) (hC : ci + 1 = C.1) : ∀ L' : qLo, qStep M pc (.invokevirtual i) 3 L' st s = some (.inr (.inr (i, C, .ref a :: as, rest))) := by
  intro L'
  dsimp only [qStep]
  try try rw [if_pos rfl]
  rw [ht]
  try dsimp only
  rw [ha]
  try dsimp only
  rw [if_pos hc, if_pos hmo, hr]
  try dsimp only
  rw [if_pos hC]
theorem qclx_of {a ci : Nat} (h : qcls s a = some ci) : qclx s a = some ci := by
  unfold qclx
  rw [h]
theorem qs_V {i n a ci : Nat} {C : qM} {as rest : List Value} (ht : qTc M.1 i = some (0, C, n)) (ha : qargs n st = some (as, .ref a :: rest)) (hc : qcat rest = true) (hr : qcls s a = some ci) (hC : ci + 1 = C.1) : ∀ L' : qLo, qStep M pc (.invokevirtual i) 3 L' st s = some (.inr (.inr (i, C, .ref a :: as, rest))) :=
  qs_Vx ht (Or.inl rfl) ha hc (qclx_of hr) hC
theorem qs_VH {i n a ci : Nat} {C : qM} {as rest : List Value} (ht : qTc M.1 i = some (15, C, n)) (ha : qargs n st = some (as, .ref a :: rest)) (hc : qcat rest = true) (hr : qcls s a = some ci) (hC : ci + 1 = C.1) : ∀ L' : qLo, qStep M pc (.invokevirtual i) 3 L' st s = some (.inr (.inr (i, C, .ref a :: as, rest))) :=
  qs_Vx ht (Or.inr (Or.inl rfl)) ha hc (qclx_of hr) hC
/-- a method of the builder's superclass -/
theorem qs_U {i n a : Nat} {C : qM} {as rest : List Value} (ht : qTc M.1 i = some (10, C, n)) (ha : qargs n st = some (as, .ref a :: rest)) (hc : qcat rest = true) (hr : qcls s a = some 11) : ∀ L' : qLo, qStep M pc (.invokevirtual i) 3 L' st s = some (.inr (.inr (i, C, .ref a :: as, rest))) := by
  intro L'
  dsimp only [qStep]
  try try rw [if_pos rfl]
  rw [ht]
  try dsimp only
  rw [ha]
  try dsimp only
  rw [if_pos hc, if_neg (by decide), if_neg (by decide), if_neg (by decide), if_pos rfl, hr]
  try dsimp only
  try rw [if_pos rfl]
theorem qs_W {i n a mo : Nat} {C : qM} {as rest : List Value} (ht : qTc M.1 i = some (mo, C, n)) (hmo : mo = 11 ∨ mo = 12) (ha : qargs n st = some (as, .ref a :: rest)) (hc : qcat rest = true) (hr : qcls s a = some 11) : ∀ L' : qLo, qStep M pc (.invokespecial i) 3 L' st s = some (.inr (.inr (i, C, .ref a :: as, rest))) := by
  intro L'
  dsimp only [qStep]
  try try rw [if_pos rfl]
  rw [ht]
  try dsimp only
  rw [ha]
  try dsimp only
  rw [if_pos hc, if_neg (by omega), if_neg (by omega), if_pos hmo, hr]
  try dsimp only
  try rw [if_pos rfl]
theorem qs_I {i n a ci mo : Nat} {C : qM} {as rest : List Value} (ht : qTc M.1 i = some (mo, C, n)) (hmo : mo = 2 ∨ mo = 3) (ha : qargs n st = some (as, .ref a :: rest)) (hc : qcat rest = true) (hr : qcls s a = some ci) (hC : ci + 1 = C.1) : ∀ L' : qLo, qStep M pc (.invokespecial i) 3 L' st s = some (.inr (.inr (i, C, .ref a :: as, rest))) := by
  intro L'
  dsimp only [qStep]
  try try rw [if_pos rfl]
  rw [ht]
  try dsimp only
  rw [ha]
  try dsimp only
  rw [if_pos hc, if_pos hmo, hr]
  try dsimp only
  rw [if_pos hC]
theorem ev_oinit {i a mo n : Nat} {C : qM} (hd : decode M.2.2.1 pc = .ok (.invokespecial i, 3)) (hp : pc + 3 = pc') (ht : qTc M.1 i = some (7, C, 0)) (hc : qcat st = true) (kk : Ev d M pc' L st s o s') : Ev d M pc L (.ref a :: st) s o s' := by
  subst hp
  refine ev_pu hd (fun L' => ?_) kk
  dsimp only [qStep]
  try try rw [if_pos rfl]
  rw [ht]
  try dsimp only
  rw [show qargs 0 (Value.ref a :: st) = some ([], .ref a :: st) by unfold qargs; rw [if_pos (Nat.zero_le _)]; rfl]
  try dsimp only
  rw [if_pos hc, if_neg (by decide), if_pos rfl, if_pos rfl]
  rfl
theorem ev_max {i : Nat} {x y : Int} {C : qM} (hd : decode M.2.2.1 pc = .ok (.invokestatic i, 3)) (hp : pc + 3 = pc') (ht : qTc M.1 i = some (5, C, 2)) (hc : qcat st = true) (kk : Ev d M pc' L (iv (mx x y) :: st) s o s') : Ev d M pc L (iv y :: iv x :: st) s o s' := by
  subst hp
  refine ev_pu hd (fun L' => ?_) kk
  dsimp only [qStep]
  try try rw [if_pos rfl]
  rw [ht]
  try dsimp only
  rw [show qargs 2 (iv y :: iv x :: st) = some ([iv x, iv y], st) by unfold qargs; rw [if_pos (by simp)]; rfl]
  try dsimp only
  rw [if_pos hc, if_neg (by decide), if_pos rfl]
  unfold iv mx
  try dsimp only
  by_cases h : wr x < wr y
  · rw [if_pos h, if_pos (wr_lt.mpr h)]
    rfl
  · rw [if_neg h, if_neg (fun q => h (wr_lt.mp q))]
    rfl
theorem ev_min {i : Nat} {x y : Int} {C : qM} (hd : decode M.2.2.1 pc = .ok (.invokestatic i, 3)) (hp : pc + 3 = pc') (ht : qTc M.1 i = some (6, C, 2)) (hc : qcat st = true) (kk : Ev d M pc' L (iv (mn x y) :: st) s o s') : Ev d M pc L (iv y :: iv x :: st) s o s' := by
  subst hp
  refine ev_pu hd (fun L' => ?_) kk
  dsimp only [qStep]
  try try rw [if_pos rfl]
  rw [ht]
  try dsimp only
  rw [show qargs 2 (iv y :: iv x :: st) = some ([iv x, iv y], st) by unfold qargs; rw [if_pos (by simp)]; rfl]
  try dsimp only
  rw [if_pos hc, if_neg (by decide), if_neg (by decide), if_pos rfl]
  unfold iv mn
  try dsimp only
  by_cases h : wr y < wr x
  · rw [if_pos h, if_pos (wr_lt.mpr h)]
    rfl
  · rw [if_neg h, if_neg (fun q => h (wr_lt.mp q))]
    rfl
theorem ev_ldc {i j : Nat} (hd : decode M.2.2.1 pc = .ok (.ldc i, 2)) (hp : pc + 2 = pc') (ht : qTs M.1 i = some j) (kk : Ev d M pc' L (.ref (1000000 + j) :: st) s o s') : Ev d M pc L st s o s' := by
  subst hp
  refine ev_pu hd (fun L' => ?_) kk
  dsimp only [qStep]
  try try rw [if_pos rfl]
  rw [ht]
  rfl
def qsl (a : Nat) : Int := ((qStr (a - 1000000)).length : Int)
def qsc (a : Nat) (k : Int) : Option Int := if 0 ≤ k ∧ k < qsl a then some (wr ((qStr (a - 1000000)).getD k.toNat 0)) else none
theorem ev_slen {i a : Nat} {C : qM} (hd : decode M.2.2.1 pc = .ok (.invokevirtual i, 3)) (hp : pc + 3 = pc') (ht : qTc M.1 i = some (8, C, 0)) (hc : qcat st = true) (ha : 1000000 ≤ a ∧ a < 1000010) (kk : Ev d M pc' L (iv (qsl a) :: st) s o s') : Ev d M pc L (.ref a :: st) s o s' := by
  subst hp
  refine ev_pu hd (fun L' => ?_) kk
  dsimp only [qStep]
  try try rw [if_pos rfl]
  rw [ht]
  try dsimp only
  rw [show qargs 0 (Value.ref a :: st) = some ([], .ref a :: st) by unfold qargs; rw [if_pos (Nat.zero_le _)]; rfl]
  try dsimp only
  rw [if_pos hc, if_neg (by decide), if_pos rfl, if_pos ⟨ha, rfl⟩]
  unfold iv qsl
  rw [Int32.ofInt_eq_ofNat]
  rfl
theorem qsl_sm (a : Nat) : qsl a < 2 ^ 31 := by
  have h : ∀ j, j < 10 → (qStr j).length < 100 := by decide +kernel
  unfold qsl
  by_cases hj : a - 1000000 < 10
  · have := h _ hj
    omega
  · have e : qStr (a - 1000000) = [] := by
      unfold qStr
      rw [List.getD_eq_getElem?_getD, List.getElem?_eq_none (by show qTxB.length ≤ _; have : qTxB.length = 10 := by decide +kernel
                                                                omega)]
      rfl
    rw [e]
    show ((0 : Nat) : Int) < _
    omega
set_option maxRecDepth 20000 in
theorem ev_charAt {i a : Nat} {k x : Int} {C : qM} (hd : decode M.2.2.1 pc = .ok (.invokevirtual i, 3)) (hp : pc + 3 = pc') (ht : qTc M.1 i = some (9, C, 1)) (hc : qcat st = true) (ha : 1000000 ≤ a ∧ a < 1000010) (hk : qsc a k = some x) (kk : Ev d M pc' L (iv x :: st) s o s') : Ev d M pc L (iv k :: .ref a :: st) s o s' := by
  subst hp
  unfold qsc at hk
  split at hk
  · rename_i h0
    replace hk := Option.some.inj hk
    subst hk
    have hs := qsl_sm a
    have e1 : (Int32.ofInt k).toNatClampNeg = k.toNat := Int32.toNatClampNeg_ofInt_of_le (by omega) (by omega)
    have e2 : ¬ Int32.ofInt k < 0 := by
      intro q
      have : (Int32.ofInt k).toInt < (0 : Int32).toInt := Int32.lt_iff_toInt_lt.mp q
      rw [Int32.toInt_ofInt_of_le (by omega) (by omega)] at this
      have e0 : (0 : Int32).toInt = 0 := rfl
      omega
    refine ev_pu hd (fun L' => ?_) kk
    dsimp only [qStep]
    try try rw [if_pos rfl]
    rw [ht]
    try dsimp only
    rw [show qargs 1 (iv k :: Value.ref a :: st) = some ([iv k], .ref a :: st) by unfold qargs; rw [if_pos (by simp)]; rfl]
    try dsimp only
    rw [if_pos hc, if_neg (by decide), if_neg (by decide), if_pos rfl]
    unfold iv
    try dsimp only
    rw [if_pos ⟨ha, by rintro (q | q); · exact e2 q
                       · rw [e1] at q; have := h0.2; unfold qsl at this; omega⟩, e1]
    unfold wr
    rw [Int32.ofInt_toInt]
    rfl
  · cases hk
theorem ev_areturnA {x : Nat} {nn : FieldType} (hd : decode M.2.2.1 pc = .ok (.areturn, 1)) (hr : M.2.2.2.2.1 = some (.array nn)) : Ev d M pc L [.ref x] s (.inl (some (.ref x))) s := by
  refine ev_end hd (fun L' => ?_)
  dsimp only [qStep]
  try rw [if_pos rfl]
  try dsimp only
  rw [hr]
theorem ev_gst0 {i : Nat} (hd : decode M.2.2.1 pc = .ok (.getstatic i, 3)) (hp : pc + 3 = pc') (ht : qTg M.1 i = some 0) (kk : Ev d M pc' L (iv 1 :: st) s o s') : Ev d M pc L st s o s' := by
  subst hp
  refine ev_pu hd (fun L' => ?_) kk
  dsimp only [qStep]
  try try rw [if_pos rfl]
  rw [ht]
  rfl
theorem ev_gst1 {i : Nat} (hd : decode M.2.2.1 pc = .ok (.getstatic i, 3)) (hp : pc + 3 = pc') (ht : qTg M.1 i = some 1) (kk : Ev d M pc' L (.ref 1000300 :: st) s o s') : Ev d M pc L st s o s' := by
  subst hp
  refine ev_pu hd (fun L' => ?_) kk
  dsimp only [qStep]
  try try rw [if_pos rfl]
  rw [ht]
  rfl
theorem ev_null (hd : decode M.2.2.1 pc = .ok (.aconst_null, 1)) (hp : pc + 1 = pc') (kk : Ev d M pc' L (.null :: st) s o s') : Ev d M pc L st s o s' := by
  subst hp
  exact ev_pu hd (fun L' => rfl) kk
theorem ev_ifnn {a : Nat} {off : Int} (hd : decode M.2.2.1 pc = .ok (.ifnonnull off, 3)) (ht : (pc : Int) + off = (pc' : Int)) (kk : Ev d M pc' L st s o s') : Ev d M pc L (.ref a :: st) s o s' := by
  refine ev_pu hd (fun L' => ?_) kk
  dsimp only [qStep]
  try try rw [if_pos rfl]
  try dsimp only
  rw [if_pos (by omega), ht]
  rfl
theorem ev_ldci {i : Nat} {v : Int} (hd : decode M.2.2.1 pc = .ok (.ldc i, 2)) (hp : pc + 2 = pc') (hs : qTs M.1 i = none) (ht : qTo M.1 i = some v) (kk : Ev d M pc' L (iv v :: st) s o s') : Ev d M pc L st s o s' := by
  subst hp
  refine ev_pu hd (fun L' => ?_) kk
  dsimp only [qStep]
  try try rw [if_pos rfl]
  rw [hs, ht]
  rfl
theorem ev_ldcd {i : Nat} (hd : decode M.2.2.1 pc = .ok (.ldc2_w i, 3)) (hp : pc + 3 = pc') (hM : M.1 = 10 ∧ i = 167) (kk : Ev d M pc' L (.double 4611686018427387904 :: st) s o s') : Ev d M pc L st s o s' := by
  subst hp
  refine ev_pu hd (fun L' => ?_) kk
  dsimp only [qStep]
  rw [if_pos ⟨rfl, hM⟩]
def dmu (x y : UInt64) : Option UInt64 := if (FP.dmul x y) &&& 0x7fffffffffffffff ≤ 0x7ff0000000000000 then some (FP.dmul x y) else none
theorem ev_dmul {x y z : UInt64} (hd : decode M.2.2.1 pc = .ok (.dmul, 1)) (hp : pc + 1 = pc') (hz : dmu x y = some z) (kk : Ev d M pc' L (.double z :: st) s o s') : Ev d M pc L (.double y :: .double x :: st) s o s' := by
  subst hp
  unfold dmu at hz
  split at hz
  · rename_i hc
    cases hz
    refine ev_pu hd (fun L' => ?_) kk
    dsimp only [qStep]
    try rw [if_pos rfl]
    try dsimp only
    rw [if_pos hc]
    rfl
  · cases hz
theorem ev_chkix {i : Nat} {x y : Int} {C : qM} (hd : decode M.2.2.1 pc = .ok (.invokestatic i, 3)) (hp : pc + 3 = pc') (ht : qTc M.1 i = some (13, C, 2)) (hc : qcat st = true) (hx : ¬ (wr x < 0 ∨ wr y ≤ wr x)) (kk : Ev d M pc' L st s o s') : Ev d M pc L (iv y :: iv x :: st) s o s' := by
  subst hp
  refine ev_pu hd (fun L' => ?_) kk
  dsimp only [qStep]
  try try rw [if_pos rfl]
  rw [ht]
  try dsimp only
  rw [show qargs 2 (iv y :: iv x :: st) = some ([iv x, iv y], st) by unfold qargs; rw [if_pos (by simp)]; rfl]
  try dsimp only
  rw [if_pos hc, if_neg (by decide), if_neg (by decide), if_neg (by decide), if_pos rfl]
  unfold iv
  try dsimp only
  rw [if_pos (fun q => hx (q.imp (fun h => by
    have : (Int32.ofInt x).toInt < (0 : Int32).toInt := Int32.lt_iff_toInt_lt.mp h
    exact this) (fun h => wr_le.mp h)))]
end EV
end
