section
-- ===== PART A: goes FIRST, ahead of the names: the tables' words, and 'selects' of the private methods out of them =====
/-- a private method of a class that the tables say can be made, by its rows of tables_1 -/
def lw_okq (q : MethodName × Nat) : Prop := (q.1.cls ≠ "java/lang/invoke/MethodHandle" ∧ q.1.cls ≠ "java/lang/invoke/VarHandle") ∧ Cond.instantiable q.1.cls q.2 ∈ tables_1 ∧ Cond.privateMethod q.1 ∈ tables_1 ∧ Cond.instanceMethod q.1 ∈ tables_1
theorem lw_p0 : lw_okq (⟨"BallotDesk$Poll", "empty", "()V"⟩, 9) := ⟨⟨by decide +kernel, by decide +kernel⟩, List.mem_of_getElem? (i := 32) (by decide +kernel), List.mem_of_getElem? (i := 106) (by decide +kernel), List.mem_of_getElem? (i := 107) (by decide +kernel)⟩
theorem lw_p1 : lw_okq (⟨"BallotDesk$Elimination", "spread", "(LBallotDesk$Poll;)V"⟩, 2) := ⟨⟨by decide +kernel, by decide +kernel⟩, List.mem_of_getElem? (i := 125) (by decide +kernel), List.mem_of_getElem? (i := 254) (by decide +kernel), List.mem_of_getElem? (i := 255) (by decide +kernel)⟩
theorem lw_p2 : lw_okq (⟨"BallotDesk$Elimination", "goers", "(LBallotDesk$Poll;I)I"⟩, 2) := ⟨⟨by decide +kernel, by decide +kernel⟩, List.mem_of_getElem? (i := 125) (by decide +kernel), List.mem_of_getElem? (i := 268) (by decide +kernel), List.mem_of_getElem? (i := 269) (by decide +kernel)⟩
theorem lw_p3 : lw_okq (⟨"BallotDesk$Elimination", "countLeads", "(LBallotDesk$Poll;I)V"⟩, 2) := ⟨⟨by decide +kernel, by decide +kernel⟩, List.mem_of_getElem? (i := 125) (by decide +kernel), List.mem_of_getElem? (i := 272) (by decide +kernel), List.mem_of_getElem? (i := 273) (by decide +kernel)⟩
theorem lw_p4 : lw_okq (⟨"BallotDesk$Agreement", "weigh", "(LBallotDesk$Poll;)V"⟩, 2) := ⟨⟨by decide +kernel, by decide +kernel⟩, List.mem_of_getElem? (i := 167) (by decide +kernel), List.mem_of_getElem? (i := 284) (by decide +kernel), List.mem_of_getElem? (i := 285) (by decide +kernel)⟩
theorem lw_p5 : lw_okq (⟨"BallotDesk$Agreement", "sumAgainst", "(LBallotDesk$Poll;I)V"⟩, 2) := ⟨⟨by decide +kernel, by decide +kernel⟩, List.mem_of_getElem? (i := 167) (by decide +kernel), List.mem_of_getElem? (i := 288) (by decide +kernel), List.mem_of_getElem? (i := 289) (by decide +kernel)⟩
theorem lw_p6 : lw_okq (⟨"BallotDesk$Agreement", "bestLeaders", "(II)I"⟩, 2) := ⟨⟨by decide +kernel, by decide +kernel⟩, List.mem_of_getElem? (i := 167) (by decide +kernel), List.mem_of_getElem? (i := 305) (by decide +kernel), List.mem_of_getElem? (i := 306) (by decide +kernel)⟩
theorem lw_p7 : lw_okq (⟨"java/lang/Throwable", "fillInStackTrace", "(I)Ljava/lang/Throwable;"⟩, 6) := ⟨⟨by decide +kernel, by decide +kernel⟩, List.mem_of_getElem? (i := 373) (by decide +kernel), List.mem_of_getElem? (i := 371) (by decide +kernel), List.mem_of_getElem? (i := 372) (by decide +kernel)⟩
theorem lw_p8 : lw_okq (⟨"BallotDesk$Poll", "tally", "(II)V"⟩, 9) := ⟨⟨by decide +kernel, by decide +kernel⟩, List.mem_of_getElem? (i := 32) (by decide +kernel), List.mem_of_getElem? (i := 433) (by decide +kernel), List.mem_of_getElem? (i := 434) (by decide +kernel)⟩
theorem lw_p9 : lw_okq (⟨"BallotDesk", "isType", "(I)Z"⟩, 5) := ⟨⟨by decide +kernel, by decide +kernel⟩, List.mem_of_getElem? (i := 24) (by decide +kernel), List.mem_of_getElem? (i := 445) (by decide +kernel), List.mem_of_getElem? (i := 446) (by decide +kernel)⟩
theorem lw_p10 : lw_okq (⟨"BallotDesk$Paths", "widen", "(III)V"⟩, 1) := ⟨⟨by decide +kernel, by decide +kernel⟩, List.mem_of_getElem? (i := 139) (by decide +kernel), List.mem_of_getElem? (i := 541) (by decide +kernel), List.mem_of_getElem? (i := 542) (by decide +kernel)⟩
theorem lw_p11 : lw_okq (⟨"BallotDesk$Locks", "collect", "(LBallotDesk$Poll;)V"⟩, 3) := ⟨⟨by decide +kernel, by decide +kernel⟩, List.mem_of_getElem? (i := 151) (by decide +kernel), List.mem_of_getElem? (i := 554) (by decide +kernel), List.mem_of_getElem? (i := 555) (by decide +kernel)⟩
theorem lw_p12 : lw_okq (⟨"BallotDesk$Locks", "insert", "(I)V"⟩, 3) := ⟨⟨by decide +kernel, by decide +kernel⟩, List.mem_of_getElem? (i := 151) (by decide +kernel), List.mem_of_getElem? (i := 560) (by decide +kernel), List.mem_of_getElem? (i := 561) (by decide +kernel)⟩
theorem lw_p13 : lw_okq (⟨"BallotDesk$Locks", "lock", "(III)V"⟩, 3) := ⟨⟨by decide +kernel, by decide +kernel⟩, List.mem_of_getElem? (i := 151) (by decide +kernel), List.mem_of_getElem? (i := 566) (by decide +kernel), List.mem_of_getElem? (i := 567) (by decide +kernel)⟩
theorem lw_p14 : lw_okq (⟨"BallotDesk$Rules", "uncovered", "(LBallotDesk$Poll;)I"⟩, 5) := ⟨⟨by decide +kernel, by decide +kernel⟩, List.mem_of_getElem? (i := 119) (by decide +kernel), List.mem_of_getElem? (i := 574) (by decide +kernel), List.mem_of_getElem? (i := 575) (by decide +kernel)⟩
theorem lw_p15 : lw_okq (⟨"BallotDesk", "isCandidate", "(I)Z"⟩, 5) := ⟨⟨by decide +kernel, by decide +kernel⟩, List.mem_of_getElem? (i := 24) (by decide +kernel), List.mem_of_getElem? (i := 625) (by decide +kernel), List.mem_of_getElem? (i := 626) (by decide +kernel)⟩
def lw_privs_1 : List (MethodName × Nat) := [(⟨"BallotDesk$Poll", "empty", "()V"⟩, 9), (⟨"BallotDesk$Elimination", "spread", "(LBallotDesk$Poll;)V"⟩, 2), (⟨"BallotDesk$Elimination", "goers", "(LBallotDesk$Poll;I)I"⟩, 2), (⟨"BallotDesk$Elimination", "countLeads", "(LBallotDesk$Poll;I)V"⟩, 2), (⟨"BallotDesk$Agreement", "weigh", "(LBallotDesk$Poll;)V"⟩, 2), (⟨"BallotDesk$Agreement", "sumAgainst", "(LBallotDesk$Poll;I)V"⟩, 2), (⟨"BallotDesk$Agreement", "bestLeaders", "(II)I"⟩, 2), (⟨"java/lang/Throwable", "fillInStackTrace", "(I)Ljava/lang/Throwable;"⟩, 6), (⟨"BallotDesk$Poll", "tally", "(II)V"⟩, 9), (⟨"BallotDesk", "isType", "(I)Z"⟩, 5), (⟨"BallotDesk$Paths", "widen", "(III)V"⟩, 1), (⟨"BallotDesk$Locks", "collect", "(LBallotDesk$Poll;)V"⟩, 3), (⟨"BallotDesk$Locks", "insert", "(I)V"⟩, 3), (⟨"BallotDesk$Locks", "lock", "(III)V"⟩, 3), (⟨"BallotDesk$Rules", "uncovered", "(LBallotDesk$Poll;)I"⟩, 5), (⟨"BallotDesk", "isCandidate", "(I)Z"⟩, 5)]
theorem lw_r1 : ∀ q ∈ lw_privs_1, lw_okq q := List.forall_mem_cons.mpr ⟨lw_p0, List.forall_mem_cons.mpr ⟨lw_p1, List.forall_mem_cons.mpr ⟨lw_p2, List.forall_mem_cons.mpr ⟨lw_p3, List.forall_mem_cons.mpr ⟨lw_p4, List.forall_mem_cons.mpr ⟨lw_p5, List.forall_mem_cons.mpr ⟨lw_p6, List.forall_mem_cons.mpr ⟨lw_p7, List.forall_mem_cons.mpr ⟨lw_p8, List.forall_mem_cons.mpr ⟨lw_p9, List.forall_mem_cons.mpr ⟨lw_p10, List.forall_mem_cons.mpr ⟨lw_p11, List.forall_mem_cons.mpr ⟨lw_p12, List.forall_mem_cons.mpr ⟨lw_p13, List.forall_mem_cons.mpr ⟨lw_p14, List.forall_mem_cons.mpr ⟨lw_p15, fun _ h => absurd h List.not_mem_nil⟩⟩⟩⟩⟩⟩⟩⟩⟩⟩⟩⟩⟩⟩⟩⟩
theorem lw_p16 : lw_okq (⟨"BallotDesk$Orders", "swap", "(II)V"⟩, 2) := ⟨⟨by decide +kernel, by decide +kernel⟩, List.mem_of_getElem? (i := 202) (by decide +kernel), List.mem_of_getElem? (i := 700) (by decide +kernel), List.mem_of_getElem? (i := 701) (by decide +kernel)⟩
theorem lw_p17 : lw_okq (⟨"BallotDeskModel", "reset", "()V"⟩, 24) := ⟨⟨by decide +kernel, by decide +kernel⟩, List.mem_of_getElem? (i := 788) (by decide +kernel), List.mem_of_getElem? (i := 794) (by decide +kernel), List.mem_of_getElem? (i := 795) (by decide +kernel)⟩
theorem lw_p18 : lw_okq (⟨"BallotDeskModel", "goes", "(ZZ)Z"⟩, 24) := ⟨⟨by decide +kernel, by decide +kernel⟩, List.mem_of_getElem? (i := 788) (by decide +kernel), List.mem_of_getElem? (i := 883) (by decide +kernel), List.mem_of_getElem? (i := 884) (by decide +kernel)⟩
theorem lw_p19 : lw_okq (⟨"BallotDeskModel", "isOrder", "(I)Z"⟩, 24) := ⟨⟨by decide +kernel, by decide +kernel⟩, List.mem_of_getElem? (i := 788) (by decide +kernel), List.mem_of_getElem? (i := 891) (by decide +kernel), List.mem_of_getElem? (i := 892) (by decide +kernel)⟩
theorem lw_p20 : lw_okq (⟨"BallotDeskModel", "unpack", "(I[II)V"⟩, 24) := ⟨⟨by decide +kernel, by decide +kernel⟩, List.mem_of_getElem? (i := 788) (by decide +kernel), List.mem_of_getElem? (i := 896) (by decide +kernel), List.mem_of_getElem? (i := 897) (by decide +kernel)⟩
theorem lw_p21 : lw_okq (⟨"BallotDeskModel", "isType", "(I)Z"⟩, 24) := ⟨⟨by decide +kernel, by decide +kernel⟩, List.mem_of_getElem? (i := 788) (by decide +kernel), List.mem_of_getElem? (i := 904) (by decide +kernel), List.mem_of_getElem? (i := 905) (by decide +kernel)⟩
theorem lw_p22 : lw_okq (⟨"BallotDeskModel", "packed", "([II)I"⟩, 24) := ⟨⟨by decide +kernel, by decide +kernel⟩, List.mem_of_getElem? (i := 788) (by decide +kernel), List.mem_of_getElem? (i := 916) (by decide +kernel), List.mem_of_getElem? (i := 917) (by decide +kernel)⟩
theorem lw_p23 : lw_okq (⟨"BallotDeskModel", "load", "()V"⟩, 24) := ⟨⟨by decide +kernel, by decide +kernel⟩, List.mem_of_getElem? (i := 788) (by decide +kernel), List.mem_of_getElem? (i := 935) (by decide +kernel), List.mem_of_getElem? (i := 936) (by decide +kernel)⟩
theorem lw_p24 : lw_okq (⟨"BallotDeskModel", "work", "(I)I"⟩, 24) := ⟨⟨by decide +kernel, by decide +kernel⟩, List.mem_of_getElem? (i := 788) (by decide +kernel), List.mem_of_getElem? (i := 939) (by decide +kernel), List.mem_of_getElem? (i := 940) (by decide +kernel)⟩
theorem lw_p25 : lw_okq (⟨"BallotDeskModel", "tally", "()V"⟩, 24) := ⟨⟨by decide +kernel, by decide +kernel⟩, List.mem_of_getElem? (i := 788) (by decide +kernel), List.mem_of_getElem? (i := 943) (by decide +kernel), List.mem_of_getElem? (i := 944) (by decide +kernel)⟩
theorem lw_p26 : lw_okq (⟨"BallotDeskModel", "extreme", "(IZ)I"⟩, 24) := ⟨⟨by decide +kernel, by decide +kernel⟩, List.mem_of_getElem? (i := 788) (by decide +kernel), List.mem_of_getElem? (i := 947) (by decide +kernel), List.mem_of_getElem? (i := 948) (by decide +kernel)⟩
theorem lw_p27 : lw_okq (⟨"BallotDeskModel", "scored", "(II)J"⟩, 24) := ⟨⟨by decide +kernel, by decide +kernel⟩, List.mem_of_getElem? (i := 788) (by decide +kernel), List.mem_of_getElem? (i := 951) (by decide +kernel), List.mem_of_getElem? (i := 952) (by decide +kernel)⟩
theorem lw_p28 : lw_okq (⟨"BallotDeskModel", "all", "()I"⟩, 24) := ⟨⟨by decide +kernel, by decide +kernel⟩, List.mem_of_getElem? (i := 788) (by decide +kernel), List.mem_of_getElem? (i := 955) (by decide +kernel), List.mem_of_getElem? (i := 956) (by decide +kernel)⟩
theorem lw_p29 : lw_okq (⟨"BallotDeskModel", "ahead", "(II)I"⟩, 24) := ⟨⟨by decide +kernel, by decide +kernel⟩, List.mem_of_getElem? (i := 788) (by decide +kernel), List.mem_of_getElem? (i := 959) (by decide +kernel), List.mem_of_getElem? (i := 960) (by decide +kernel)⟩
theorem lw_p30 : lw_okq (⟨"BallotDeskModel", "placeOf", "(II)I"⟩, 24) := ⟨⟨by decide +kernel, by decide +kernel⟩, List.mem_of_getElem? (i := 788) (by decide +kernel), List.mem_of_getElem? (i := 963) (by decide +kernel), List.mem_of_getElem? (i := 964) (by decide +kernel)⟩
theorem lw_p31 : lw_okq (⟨"BallotDeskModel", "beats", "(II)Z"⟩, 24) := ⟨⟨by decide +kernel, by decide +kernel⟩, List.mem_of_getElem? (i := 788) (by decide +kernel), List.mem_of_getElem? (i := 967) (by decide +kernel), List.mem_of_getElem? (i := 968) (by decide +kernel)⟩
def lw_privs_2 : List (MethodName × Nat) := [(⟨"BallotDesk$Orders", "swap", "(II)V"⟩, 2), (⟨"BallotDeskModel", "reset", "()V"⟩, 24), (⟨"BallotDeskModel", "goes", "(ZZ)Z"⟩, 24), (⟨"BallotDeskModel", "isOrder", "(I)Z"⟩, 24), (⟨"BallotDeskModel", "unpack", "(I[II)V"⟩, 24), (⟨"BallotDeskModel", "isType", "(I)Z"⟩, 24), (⟨"BallotDeskModel", "packed", "([II)I"⟩, 24), (⟨"BallotDeskModel", "load", "()V"⟩, 24), (⟨"BallotDeskModel", "work", "(I)I"⟩, 24), (⟨"BallotDeskModel", "tally", "()V"⟩, 24), (⟨"BallotDeskModel", "extreme", "(IZ)I"⟩, 24), (⟨"BallotDeskModel", "scored", "(II)J"⟩, 24), (⟨"BallotDeskModel", "all", "()I"⟩, 24), (⟨"BallotDeskModel", "ahead", "(II)I"⟩, 24), (⟨"BallotDeskModel", "placeOf", "(II)I"⟩, 24), (⟨"BallotDeskModel", "beats", "(II)Z"⟩, 24)]
theorem lw_r2 : ∀ q ∈ lw_privs_2, lw_okq q := List.forall_mem_cons.mpr ⟨lw_p16, List.forall_mem_cons.mpr ⟨lw_p17, List.forall_mem_cons.mpr ⟨lw_p18, List.forall_mem_cons.mpr ⟨lw_p19, List.forall_mem_cons.mpr ⟨lw_p20, List.forall_mem_cons.mpr ⟨lw_p21, List.forall_mem_cons.mpr ⟨lw_p22, List.forall_mem_cons.mpr ⟨lw_p23, List.forall_mem_cons.mpr ⟨lw_p24, List.forall_mem_cons.mpr ⟨lw_p25, List.forall_mem_cons.mpr ⟨lw_p26, List.forall_mem_cons.mpr ⟨lw_p27, List.forall_mem_cons.mpr ⟨lw_p28, List.forall_mem_cons.mpr ⟨lw_p29, List.forall_mem_cons.mpr ⟨lw_p30, List.forall_mem_cons.mpr ⟨lw_p31, fun _ h => absurd h List.not_mem_nil⟩⟩⟩⟩⟩⟩⟩⟩⟩⟩⟩⟩⟩⟩⟩⟩
theorem lw_p32 : lw_okq (⟨"BallotDeskModel", "runoff", "()I"⟩, 24) := ⟨⟨by decide +kernel, by decide +kernel⟩, List.mem_of_getElem? (i := 788) (by decide +kernel), List.mem_of_getElem? (i := 972) (by decide +kernel), List.mem_of_getElem? (i := 973) (by decide +kernel)⟩
theorem lw_p33 : lw_okq (⟨"BallotDeskModel", "eliminate", "()I"⟩, 24) := ⟨⟨by decide +kernel, by decide +kernel⟩, List.mem_of_getElem? (i := 788) (by decide +kernel), List.mem_of_getElem? (i := 976) (by decide +kernel), List.mem_of_getElem? (i := 977) (by decide +kernel)⟩
theorem lw_p34 : lw_okq (⟨"BallotDeskModel", "weakest", "(I)I"⟩, 24) := ⟨⟨by decide +kernel, by decide +kernel⟩, List.mem_of_getElem? (i := 788) (by decide +kernel), List.mem_of_getElem? (i := 983) (by decide +kernel), List.mem_of_getElem? (i := 984) (by decide +kernel)⟩
theorem lw_p35 : lw_okq (⟨"BallotDeskModel", "pathWinners", "()I"⟩, 24) := ⟨⟨by decide +kernel, by decide +kernel⟩, List.mem_of_getElem? (i := 788) (by decide +kernel), List.mem_of_getElem? (i := 987) (by decide +kernel), List.mem_of_getElem? (i := 988) (by decide +kernel)⟩
theorem lw_p36 : lw_okq (⟨"BallotDeskModel", "findPaths", "()V"⟩, 24) := ⟨⟨by decide +kernel, by decide +kernel⟩, List.mem_of_getElem? (i := 788) (by decide +kernel), List.mem_of_getElem? (i := 991) (by decide +kernel), List.mem_of_getElem? (i := 992) (by decide +kernel)⟩
theorem lw_p37 : lw_okq (⟨"BallotDeskModel", "lockWinners", "()I"⟩, 24) := ⟨⟨by decide +kernel, by decide +kernel⟩, List.mem_of_getElem? (i := 788) (by decide +kernel), List.mem_of_getElem? (i := 995) (by decide +kernel), List.mem_of_getElem? (i := 996) (by decide +kernel)⟩
theorem lw_p38 : lw_okq (⟨"BallotDeskModel", "sooner", "(IIII)Z"⟩, 24) := ⟨⟨by decide +kernel, by decide +kernel⟩, List.mem_of_getElem? (i := 788) (by decide +kernel), List.mem_of_getElem? (i := 999) (by decide +kernel), List.mem_of_getElem? (i := 1000) (by decide +kernel)⟩
theorem lw_p39 : lw_okq (⟨"BallotDeskModel", "tiePlace", "(I)I"⟩, 24) := ⟨⟨by decide +kernel, by decide +kernel⟩, List.mem_of_getElem? (i := 788) (by decide +kernel), List.mem_of_getElem? (i := 1003) (by decide +kernel), List.mem_of_getElem? (i := 1004) (by decide +kernel)⟩
theorem lw_p40 : lw_okq (⟨"BallotDeskModel", "leads", "(II)Z"⟩, 24) := ⟨⟨by decide +kernel, by decide +kernel⟩, List.mem_of_getElem? (i := 788) (by decide +kernel), List.mem_of_getElem? (i := 1007) (by decide +kernel), List.mem_of_getElem? (i := 1008) (by decide +kernel)⟩
theorem lw_p41 : lw_okq (⟨"BallotDeskModel", "agreeing", "()I"⟩, 24) := ⟨⟨by decide +kernel, by decide +kernel⟩, List.mem_of_getElem? (i := 788) (by decide +kernel), List.mem_of_getElem? (i := 1011) (by decide +kernel), List.mem_of_getElem? (i := 1012) (by decide +kernel)⟩
theorem lw_p42 : lw_okq (⟨"BallotDeskModel", "findLeast", "()V"⟩, 24) := ⟨⟨by decide +kernel, by decide +kernel⟩, List.mem_of_getElem? (i := 788) (by decide +kernel), List.mem_of_getElem? (i := 1015) (by decide +kernel), List.mem_of_getElem? (i := 1016) (by decide +kernel)⟩
theorem lw_p43 : lw_okq (⟨"BallotDeskModel", "over", "(II)J"⟩, 24) := ⟨⟨by decide +kernel, by decide +kernel⟩, List.mem_of_getElem? (i := 788) (by decide +kernel), List.mem_of_getElem? (i := 1019) (by decide +kernel), List.mem_of_getElem? (i := 1020) (by decide +kernel)⟩
theorem lw_p44 : lw_okq (⟨"BallotDeskModel", "uncovered", "()I"⟩, 24) := ⟨⟨by decide +kernel, by decide +kernel⟩, List.mem_of_getElem? (i := 788) (by decide +kernel), List.mem_of_getElem? (i := 1023) (by decide +kernel), List.mem_of_getElem? (i := 1024) (by decide +kernel)⟩
theorem lw_p45 : lw_okq (⟨"BallotDeskModel", "byAgenda", "()I"⟩, 24) := ⟨⟨by decide +kernel, by decide +kernel⟩, List.mem_of_getElem? (i := 788) (by decide +kernel), List.mem_of_getElem? (i := 1027) (by decide +kernel), List.mem_of_getElem? (i := 1028) (by decide +kernel)⟩
theorem lw_p46 : lw_okq (⟨"BallotDeskModel", "firstOf", "(I)I"⟩, 24) := ⟨⟨by decide +kernel, by decide +kernel⟩, List.mem_of_getElem? (i := 788) (by decide +kernel), List.mem_of_getElem? (i := 1035) (by decide +kernel), List.mem_of_getElem? (i := 1036) (by decide +kernel)⟩
theorem lw_p47 : lw_okq (⟨"BallotDeskModel", "isCandidate", "(I)Z"⟩, 24) := ⟨⟨by decide +kernel, by decide +kernel⟩, List.mem_of_getElem? (i := 788) (by decide +kernel), List.mem_of_getElem? (i := 1043) (by decide +kernel), List.mem_of_getElem? (i := 1044) (by decide +kernel)⟩
def lw_privs_3 : List (MethodName × Nat) := [(⟨"BallotDeskModel", "runoff", "()I"⟩, 24), (⟨"BallotDeskModel", "eliminate", "()I"⟩, 24), (⟨"BallotDeskModel", "weakest", "(I)I"⟩, 24), (⟨"BallotDeskModel", "pathWinners", "()I"⟩, 24), (⟨"BallotDeskModel", "findPaths", "()V"⟩, 24), (⟨"BallotDeskModel", "lockWinners", "()I"⟩, 24), (⟨"BallotDeskModel", "sooner", "(IIII)Z"⟩, 24), (⟨"BallotDeskModel", "tiePlace", "(I)I"⟩, 24), (⟨"BallotDeskModel", "leads", "(II)Z"⟩, 24), (⟨"BallotDeskModel", "agreeing", "()I"⟩, 24), (⟨"BallotDeskModel", "findLeast", "()V"⟩, 24), (⟨"BallotDeskModel", "over", "(II)J"⟩, 24), (⟨"BallotDeskModel", "uncovered", "()I"⟩, 24), (⟨"BallotDeskModel", "byAgenda", "()I"⟩, 24), (⟨"BallotDeskModel", "firstOf", "(I)I"⟩, 24), (⟨"BallotDeskModel", "isCandidate", "(I)Z"⟩, 24)]
theorem lw_r3 : ∀ q ∈ lw_privs_3, lw_okq q := List.forall_mem_cons.mpr ⟨lw_p32, List.forall_mem_cons.mpr ⟨lw_p33, List.forall_mem_cons.mpr ⟨lw_p34, List.forall_mem_cons.mpr ⟨lw_p35, List.forall_mem_cons.mpr ⟨lw_p36, List.forall_mem_cons.mpr ⟨lw_p37, List.forall_mem_cons.mpr ⟨lw_p38, List.forall_mem_cons.mpr ⟨lw_p39, List.forall_mem_cons.mpr ⟨lw_p40, List.forall_mem_cons.mpr ⟨lw_p41, List.forall_mem_cons.mpr ⟨lw_p42, List.forall_mem_cons.mpr ⟨lw_p43, List.forall_mem_cons.mpr ⟨lw_p44, List.forall_mem_cons.mpr ⟨lw_p45, List.forall_mem_cons.mpr ⟨lw_p46, List.forall_mem_cons.mpr ⟨lw_p47, fun _ h => absurd h List.not_mem_nil⟩⟩⟩⟩⟩⟩⟩⟩⟩⟩⟩⟩⟩⟩⟩⟩
theorem lw_p48 : lw_okq (⟨"BallotDeskModel", "findAgreed", "()J"⟩, 24) := ⟨⟨by decide +kernel, by decide +kernel⟩, List.mem_of_getElem? (i := 788) (by decide +kernel), List.mem_of_getElem? (i := 1067) (by decide +kernel), List.mem_of_getElem? (i := 1068) (by decide +kernel)⟩
theorem lw_p49 : lw_okq (⟨"BallotDeskModel", "firstOrder", "()V"⟩, 24) := ⟨⟨by decide +kernel, by decide +kernel⟩, List.mem_of_getElem? (i := 788) (by decide +kernel), List.mem_of_getElem? (i := 1071) (by decide +kernel), List.mem_of_getElem? (i := 1072) (by decide +kernel)⟩
theorem lw_p50 : lw_okq (⟨"BallotDeskModel", "disagreementOf", "()J"⟩, 24) := ⟨⟨by decide +kernel, by decide +kernel⟩, List.mem_of_getElem? (i := 788) (by decide +kernel), List.mem_of_getElem? (i := 1076) (by decide +kernel), List.mem_of_getElem? (i := 1077) (by decide +kernel)⟩
theorem lw_p51 : lw_okq (⟨"BallotDeskModel", "sooner", "()Z"⟩, 24) := ⟨⟨by decide +kernel, by decide +kernel⟩, List.mem_of_getElem? (i := 788) (by decide +kernel), List.mem_of_getElem? (i := 1080) (by decide +kernel), List.mem_of_getElem? (i := 1081) (by decide +kernel)⟩
theorem lw_p52 : lw_okq (⟨"BallotDeskModel", "nextOrder", "()Z"⟩, 24) := ⟨⟨by decide +kernel, by decide +kernel⟩, List.mem_of_getElem? (i := 788) (by decide +kernel), List.mem_of_getElem? (i := 1084) (by decide +kernel), List.mem_of_getElem? (i := 1085) (by decide +kernel)⟩
theorem lw_p53 : lw_okq (⟨"BallotDeskModel", "brokenByPairs", "(II)I"⟩, 24) := ⟨⟨by decide +kernel, by decide +kernel⟩, List.mem_of_getElem? (i := 788) (by decide +kernel), List.mem_of_getElem? (i := 1104) (by decide +kernel), List.mem_of_getElem? (i := 1105) (by decide +kernel)⟩
theorem lw_p54 : lw_okq (⟨"BallotDeskModel", "over", "(IZ)Z"⟩, 24) := ⟨⟨by decide +kernel, by decide +kernel⟩, List.mem_of_getElem? (i := 788) (by decide +kernel), List.mem_of_getElem? (i := 1108) (by decide +kernel), List.mem_of_getElem? (i := 1109) (by decide +kernel)⟩
theorem lw_p55 : lw_okq (⟨"BallotDeskModel", "brokenByType", "(II)I"⟩, 24) := ⟨⟨by decide +kernel, by decide +kernel⟩, List.mem_of_getElem? (i := 788) (by decide +kernel), List.mem_of_getElem? (i := 1112) (by decide +kernel), List.mem_of_getElem? (i := 1113) (by decide +kernel)⟩
theorem lw_p56 : lw_okq (⟨"BallotDeskModel", "brokenByLeaving", "(I)I"⟩, 24) := ⟨⟨by decide +kernel, by decide +kernel⟩, List.mem_of_getElem? (i := 788) (by decide +kernel), List.mem_of_getElem? (i := 1116) (by decide +kernel), List.mem_of_getElem? (i := 1117) (by decide +kernel)⟩
theorem lw_p57 : lw_okq (⟨"BallotDeskModel", "leaveOut", "(I)V"⟩, 24) := ⟨⟨by decide +kernel, by decide +kernel⟩, List.mem_of_getElem? (i := 788) (by decide +kernel), List.mem_of_getElem? (i := 1120) (by decide +kernel), List.mem_of_getElem? (i := 1121) (by decide +kernel)⟩
theorem lw_p58 : lw_okq (⟨"BallotDeskModel", "without", "(I[II)V"⟩, 24) := ⟨⟨by decide +kernel, by decide +kernel⟩, List.mem_of_getElem? (i := 788) (by decide +kernel), List.mem_of_getElem? (i := 1124) (by decide +kernel), List.mem_of_getElem? (i := 1125) (by decide +kernel)⟩
def lw_privs_4 : List (MethodName × Nat) := [(⟨"BallotDeskModel", "findAgreed", "()J"⟩, 24), (⟨"BallotDeskModel", "firstOrder", "()V"⟩, 24), (⟨"BallotDeskModel", "disagreementOf", "()J"⟩, 24), (⟨"BallotDeskModel", "sooner", "()Z"⟩, 24), (⟨"BallotDeskModel", "nextOrder", "()Z"⟩, 24), (⟨"BallotDeskModel", "brokenByPairs", "(II)I"⟩, 24), (⟨"BallotDeskModel", "over", "(IZ)Z"⟩, 24), (⟨"BallotDeskModel", "brokenByType", "(II)I"⟩, 24), (⟨"BallotDeskModel", "brokenByLeaving", "(I)I"⟩, 24), (⟨"BallotDeskModel", "leaveOut", "(I)V"⟩, 24), (⟨"BallotDeskModel", "without", "(I[II)V"⟩, 24)]
theorem lw_r4 : ∀ q ∈ lw_privs_4, lw_okq q := List.forall_mem_cons.mpr ⟨lw_p48, List.forall_mem_cons.mpr ⟨lw_p49, List.forall_mem_cons.mpr ⟨lw_p50, List.forall_mem_cons.mpr ⟨lw_p51, List.forall_mem_cons.mpr ⟨lw_p52, List.forall_mem_cons.mpr ⟨lw_p53, List.forall_mem_cons.mpr ⟨lw_p54, List.forall_mem_cons.mpr ⟨lw_p55, List.forall_mem_cons.mpr ⟨lw_p56, List.forall_mem_cons.mpr ⟨lw_p57, List.forall_mem_cons.mpr ⟨lw_p58, fun _ h => absurd h List.not_mem_nil⟩⟩⟩⟩⟩⟩⟩⟩⟩⟩⟩
def lw_privs : List (MethodName × Nat) := lw_privs_1 ++ (lw_privs_2 ++ (lw_privs_3 ++ (lw_privs_4)))
def lw_tbl : List Cond := k2_sels lw_privs ++ tables_1
theorem lw_privs_ok : ∀ q ∈ lw_privs, lw_okq q := by
  show ∀ q ∈ lw_privs_1 ++ (lw_privs_2 ++ (lw_privs_3 ++ (lw_privs_4))), lw_okq q
  exact List.forall_mem_append.mpr ⟨lw_r1, List.forall_mem_append.mpr ⟨lw_r2, List.forall_mem_append.mpr ⟨lw_r3, lw_r4⟩⟩⟩
end
section
def rc_D : String := "BallotDesk"
def tf_D : u_T := fun k => match k with
  | 0 => ("BallotDesk", "poll", "LBallotDesk$Poll;", true)
  | 1 => ("BallotDesk", "rules", "LBallotDesk$Rules;", true)
  | 2 => ("BallotDesk", "whatIf", "LBallotDesk$WhatIf;", true)
  | 3 => ("BallotDesk", "changedOrder", "I", false)
  | _ => ("BallotDesk", "witnessed", "I", false)
def yf_D : Nat → FieldType := fun k => match k with
  | 0 => .object "BallotDesk$Poll"
  | 1 => .object "BallotDesk$Rules"
  | 2 => .object "BallotDesk$WhatIf"
  | 3 => .int
  | _ => .int
theorem nf_D : ∀ a, a < 5 → ∀ b, b < 5 → a ≠ b → (tf_D a).2.1 ≠ (tf_D b).2.1 := by decide +kernel
theorem of_D : ∀ k, k < 5 → parseFieldDescriptor (tf_D k).2.2.1 = some (yf_D k) := by decide +kernel
def rc_P : String := "BallotDesk$Poll"
def tf_P : u_T := fun k => match k with
  | 0 => ("BallotDesk$Poll", "orders", "[I", true)
  | 1 => ("BallotDesk$Poll", "voters", "[I", true)
  | 2 => ("BallotDesk$Poll", "weights", "[I", true)
  | 3 => ("BallotDesk$Poll", "placed", "[[I", true)
  | 4 => ("BallotDesk$Poll", "ahead", "[[I", true)
  | 5 => ("BallotDesk$Poll", "size", "I", false)
  | 6 => ("BallotDesk$Poll", "types", "I", false)
  | 7 => ("BallotDesk$Poll", "tie", "I", false)
  | _ => ("BallotDesk$Poll", "agenda", "I", false)
def yf_P : Nat → FieldType := fun k => match k with
  | 0 => .array .int
  | 1 => .array .int
  | 2 => .array .int
  | 3 => .array (.array .int)
  | 4 => .array (.array .int)
  | 5 => .int
  | 6 => .int
  | 7 => .int
  | _ => .int
theorem nf_P : ∀ a, a < 9 → ∀ b, b < 9 → a ≠ b → (tf_P a).2.1 ≠ (tf_P b).2.1 := by decide +kernel
theorem of_P : ∀ k, k < 9 → parseFieldDescriptor (tf_P k).2.2.1 = some (yf_P k) := by decide +kernel
def rc_R : String := "BallotDesk$Rules"
def tf_R : u_T := fun k => match k with
  | 0 => ("BallotDesk$Rules", "elimination", "LBallotDesk$Elimination;", true)
  | 1 => ("BallotDesk$Rules", "paths", "LBallotDesk$Paths;", true)
  | 2 => ("BallotDesk$Rules", "locks", "LBallotDesk$Locks;", true)
  | 3 => ("BallotDesk$Rules", "agreement", "LBallotDesk$Agreement;", true)
  | _ => ("BallotDesk$Rules", "beaten", "[I", true)
def yf_R : Nat → FieldType := fun k => match k with
  | 0 => .object "BallotDesk$Elimination"
  | 1 => .object "BallotDesk$Paths"
  | 2 => .object "BallotDesk$Locks"
  | 3 => .object "BallotDesk$Agreement"
  | _ => .array .int
theorem nf_R : ∀ a, a < 5 → ∀ b, b < 5 → a ≠ b → (tf_R a).2.1 ≠ (tf_R b).2.1 := by decide +kernel
theorem of_R : ∀ k, k < 5 → parseFieldDescriptor (tf_R k).2.2.1 = some (yf_R k) := by decide +kernel
def rc_E : String := "BallotDesk$Elimination"
def tf_E : u_T := fun k => match k with
  | 0 => ("BallotDesk$Elimination", "canBeLeft", "[Z", true)
  | _ => ("BallotDesk$Elimination", "leads", "[I", true)
def yf_E : Nat → FieldType := fun k => match k with
  | 0 => .array .boolean
  | _ => .array .int
theorem nf_E : ∀ a, a < 2 → ∀ b, b < 2 → a ≠ b → (tf_E a).2.1 ≠ (tf_E b).2.1 := by decide +kernel
theorem of_E : ∀ k, k < 2 → parseFieldDescriptor (tf_E k).2.2.1 = some (yf_E k) := by decide +kernel
def rc_H : String := "BallotDesk$Paths"
def tf_H : u_T := fun k => match k with
  | _ => ("BallotDesk$Paths", "strength", "[[I", true)
def yf_H : Nat → FieldType := fun k => match k with
  | _ => .array (.array .int)
theorem nf_H : ∀ a, a < 1 → ∀ b, b < 1 → a ≠ b → (tf_H a).2.1 ≠ (tf_H b).2.1 := by decide +kernel
theorem of_H : ∀ k, k < 1 → parseFieldDescriptor (tf_H k).2.2.1 = some (yf_H k) := by decide +kernel
def rc_K : String := "BallotDesk$Locks"
def tf_K : u_T := fun k => match k with
  | 0 => ("BallotDesk$Locks", "keys", "[I", true)
  | 1 => ("BallotDesk$Locks", "under", "[I", true)
  | _ => ("BallotDesk$Locks", "pairs", "I", false)
def yf_K : Nat → FieldType := fun k => match k with
  | 0 => .array .int
  | 1 => .array .int
  | _ => .int
theorem nf_K : ∀ a, a < 3 → ∀ b, b < 3 → a ≠ b → (tf_K a).2.1 ≠ (tf_K b).2.1 := by decide +kernel
theorem of_K : ∀ k, k < 3 → parseFieldDescriptor (tf_K k).2.2.1 = some (yf_K k) := by decide +kernel
def rc_A : String := "BallotDesk$Agreement"
def tf_A : u_T := fun k => match k with
  | 0 => ("BallotDesk$Agreement", "least", "[I", true)
  | _ => ("BallotDesk$Agreement", "against", "[[I", true)
def yf_A : Nat → FieldType := fun k => match k with
  | 0 => .array .int
  | _ => .array (.array .int)
theorem nf_A : ∀ a, a < 2 → ∀ b, b < 2 → a ≠ b → (tf_A a).2.1 ≠ (tf_A b).2.1 := by decide +kernel
theorem of_A : ∀ k, k < 2 → parseFieldDescriptor (tf_A k).2.2.1 = some (yf_A k) := by decide +kernel
def rc_W : String := "BallotDesk$WhatIf"
def tf_W : u_T := fun k => match k with
  | 0 => ("BallotDesk$WhatIf", "rules", "LBallotDesk$Rules;", true)
  | 1 => ("BallotDesk$WhatIf", "trial", "LBallotDesk$Poll;", true)
  | 2 => ("BallotDesk$WhatIf", "orders", "LBallotDesk$Orders;", true)
  | _ => ("BallotDesk$WhatIf", "placeReached", "I", false)
def yf_W : Nat → FieldType := fun k => match k with
  | 0 => .object "BallotDesk$Rules"
  | 1 => .object "BallotDesk$Poll"
  | 2 => .object "BallotDesk$Orders"
  | _ => .int
theorem nf_W : ∀ a, a < 4 → ∀ b, b < 4 → a ≠ b → (tf_W a).2.1 ≠ (tf_W b).2.1 := by decide +kernel
theorem of_W : ∀ k, k < 4 → parseFieldDescriptor (tf_W k).2.2.1 = some (yf_W k) := by decide +kernel
def rc_S : String := "BallotDesk$Orders"
def tf_S : u_T := fun k => match k with
  | 0 => ("BallotDesk$Orders", "row", "[I", true)
  | _ => ("BallotDesk$Orders", "size", "I", false)
def yf_S : Nat → FieldType := fun k => match k with
  | 0 => .array .int
  | _ => .int
theorem nf_S : ∀ a, a < 2 → ∀ b, b < 2 → a ≠ b → (tf_S a).2.1 ≠ (tf_S b).2.1 := by decide +kernel
theorem of_S : ∀ k, k < 2 → parseFieldDescriptor (tf_S k).2.2.1 = some (yf_S k) := by decide +kernel
def rc_M : String := "BallotDeskModel"
def tf_M : u_T := fun k => match k with
  | 0 => ("BallotDeskModel", "thrown", "I", false)
  | 1 => ("BallotDeskModel", "n", "I", false)
  | 2 => ("BallotDeskModel", "types", "I", false)
  | 3 => ("BallotDeskModel", "orders", "[I", true)
  | 4 => ("BallotDeskModel", "amounts", "[I", true)
  | 5 => ("BallotDeskModel", "ties", "[I", true)
  | 6 => ("BallotDeskModel", "agendas", "[I", true)
  | 7 => ("BallotDeskModel", "weights", "[I", true)
  | 8 => ("BallotDeskModel", "m", "I", false)
  | 9 => ("BallotDeskModel", "many", "I", false)
  | 10 => ("BallotDeskModel", "places", "[I", true)
  | 11 => ("BallotDeskModel", "voters", "[I", true)
  | 12 => ("BallotDeskModel", "tie", "[I", true)
  | 13 => ("BallotDeskModel", "turn", "[I", true)
  | 14 => ("BallotDeskModel", "weight", "[I", true)
  | 15 => ("BallotDeskModel", "pairs", "[I", true)
  | 16 => ("BallotDeskModel", "paths", "[I", true)
  | 17 => ("BallotDeskModel", "locked", "[Z", true)
  | 18 => ("BallotDeskModel", "left", "[Z", true)
  | 19 => ("BallotDeskModel", "least", "[J", true)
  | 20 => ("BallotDeskModel", "trial", "[I", true)
  | 21 => ("BallotDeskModel", "best", "[I", true)
  | 22 => ("BallotDeskModel", "changedTo", "I", false)
  | _ => ("BallotDeskModel", "broken", "I", false)
def yf_M : Nat → FieldType := fun k => match k with
  | 0 => .int
  | 1 => .int
  | 2 => .int
  | 3 => .array .int
  | 4 => .array .int
  | 5 => .array .int
  | 6 => .array .int
  | 7 => .array .int
  | 8 => .int
  | 9 => .int
  | 10 => .array .int
  | 11 => .array .int
  | 12 => .array .int
  | 13 => .array .int
  | 14 => .array .int
  | 15 => .array .int
  | 16 => .array .int
  | 17 => .array .boolean
  | 18 => .array .boolean
  | 19 => .array .long
  | 20 => .array .int
  | 21 => .array .int
  | 22 => .int
  | _ => .int
theorem nf_M : ∀ a, a < 24 → ∀ b, b < 24 → a ≠ b → (tf_M a).2.1 ≠ (tf_M b).2.1 := by decide +kernel
theorem of_M : ∀ k, k < 24 → parseFieldDescriptor (tf_M k).2.2.1 = some (yf_M k) := by decide +kernel
abbrev ow_cl : List vw_C := [(rc_D, tf_D, 5), (rc_P, tf_P, 9), (rc_R, tf_R, 5), (rc_E, tf_E, 2), (rc_H, tf_H, 1), (rc_K, tf_K, 3), (rc_A, tf_A, 2), (rc_W, tf_W, 4), (rc_S, tf_S, 2), (rc_M, tf_M, 24)]
abbrev cb_D_init : ByteArray := prog_1_method_1_code
abbrev yn_D_init : MethodName := ⟨"BallotDesk", "<init>", "()V"⟩
abbrev cb_D_candidates : ByteArray := prog_1_method_2_code
abbrev yn_D_candidates : MethodName := ⟨"BallotDesk", "candidates", "(I)I"⟩
abbrev cb_D_ballot : ByteArray := prog_1_method_3_code
abbrev yn_D_ballot : MethodName := ⟨"BallotDesk", "ballot", "(II)I"⟩
abbrev cb_D_amount : ByteArray := prog_1_method_4_code
abbrev yn_D_amount : MethodName := ⟨"BallotDesk", "amount", "(II)I"⟩
abbrev cb_D_drop : ByteArray := prog_1_method_5_code
abbrev yn_D_drop : MethodName := ⟨"BallotDesk", "drop", "(I)I"⟩
abbrev cb_D_tieOrder : ByteArray := prog_1_method_6_code
abbrev yn_D_tieOrder : MethodName := ⟨"BallotDesk", "tieOrder", "(I)I"⟩
abbrev cb_D_agenda : ByteArray := prog_1_method_7_code
abbrev yn_D_agenda : MethodName := ⟨"BallotDesk", "agenda", "(I)I"⟩
abbrev cb_D_weight : ByteArray := prog_1_method_8_code
abbrev yn_D_weight : MethodName := ⟨"BallotDesk", "weight", "(II)I"⟩
abbrev cb_D_winners : ByteArray := prog_1_method_9_code
abbrev yn_D_winners : MethodName := ⟨"BallotDesk", "winners", "(I)I"⟩
abbrev cb_D_winner : ByteArray := prog_1_method_10_code
abbrev yn_D_winner : MethodName := ⟨"BallotDesk", "winner", "(I)I"⟩
abbrev cb_D_score : ByteArray := prog_1_method_11_code
abbrev yn_D_score : MethodName := ⟨"BallotDesk", "score", "(II)J"⟩
abbrev cb_D_pair : ByteArray := prog_1_method_12_code
abbrev yn_D_pair : MethodName := ⟨"BallotDesk", "pair", "(II)I"⟩
abbrev cb_D_path : ByteArray := prog_1_method_13_code
abbrev yn_D_path : MethodName := ⟨"BallotDesk", "path", "(II)I"⟩
abbrev cb_D_branches : ByteArray := prog_1_method_14_code
abbrev yn_D_branches : MethodName := ⟨"BallotDesk", "branches", "()I"⟩
abbrev cb_D_step : ByteArray := prog_1_method_15_code
abbrev yn_D_step : MethodName := ⟨"BallotDesk", "step", "(I)I"⟩
abbrev cb_D_disagreement : ByteArray := prog_1_method_16_code
abbrev yn_D_disagreement : MethodName := ⟨"BallotDesk", "disagreement", "()J"⟩
abbrev cb_D_agreed : ByteArray := prog_1_method_17_code
abbrev yn_D_agreed : MethodName := ⟨"BallotDesk", "agreed", "()I"⟩
abbrev cb_D_change : ByteArray := prog_1_method_18_code
abbrev yn_D_change : MethodName := ⟨"BallotDesk", "change", "(III)I"⟩
abbrev cb_D_changed : ByteArray := prog_1_method_19_code
abbrev yn_D_changed : MethodName := ⟨"BallotDesk", "changed", "()I"⟩
abbrev cb_D_property : ByteArray := prog_1_method_20_code
abbrev yn_D_property : MethodName := ⟨"BallotDesk", "property", "(II)Z"⟩
abbrev cb_D_witness : ByteArray := prog_1_method_21_code
abbrev yn_D_witness : MethodName := ⟨"BallotDesk", "witness", "()I"⟩
abbrev cb_D_circle : ByteArray := prog_1_method_22_code
abbrev yn_D_circle : MethodName := ⟨"BallotDesk", "circle", "(I)I"⟩
abbrev cb_D_clones : ByteArray := prog_1_method_23_code
abbrev yn_D_clones : MethodName := ⟨"BallotDesk", "clones", "(I)Z"⟩
abbrev cb_D_count : ByteArray := prog_1_method_24_code
abbrev yn_D_count : MethodName := ⟨"BallotDesk", "count", "(I)I"⟩
abbrev cb_D_isCandidate : ByteArray := prog_1_method_25_code
abbrev yn_D_isCandidate : MethodName := ⟨"BallotDesk", "isCandidate", "(I)Z"⟩
abbrev cb_D_isType : ByteArray := prog_1_method_26_code
abbrev yn_D_isType : MethodName := ⟨"BallotDesk", "isType", "(I)Z"⟩
abbrev cb_D_isRule : ByteArray := prog_1_method_27_code
abbrev yn_D_isRule : MethodName := ⟨"BallotDesk", "isRule", "(I)Z"⟩
abbrev cb_D_isAmount : ByteArray := prog_1_method_28_code
abbrev yn_D_isAmount : MethodName := ⟨"BallotDesk", "isAmount", "(I)Z"⟩
abbrev cb_D_needElement : ByteArray := prog_1_method_29_code
abbrev yn_D_needElement : MethodName := ⟨"BallotDesk", "needElement", "(Z)V"⟩
abbrev cb_D_needArgument : ByteArray := prog_1_method_30_code
abbrev yn_D_needArgument : MethodName := ⟨"BallotDesk", "needArgument", "(Z)V"⟩
abbrev cb_M_init : ByteArray := prog_13_method_1_code
abbrev yn_M_init : MethodName := ⟨"BallotDeskModel", "<init>", "()V"⟩
abbrev cb_M_reset : ByteArray := prog_13_method_2_code
abbrev yn_M_reset : MethodName := ⟨"BallotDeskModel", "reset", "()V"⟩
abbrev cb_M_thrown : ByteArray := prog_13_method_3_code
abbrev yn_M_thrown : MethodName := ⟨"BallotDeskModel", "thrown", "()I"⟩
abbrev cb_M_goes : ByteArray := prog_13_method_4_code
abbrev yn_M_goes : MethodName := ⟨"BallotDeskModel", "goes", "(ZZ)Z"⟩
abbrev cb_M_within : ByteArray := prog_13_method_5_code
abbrev yn_M_within : MethodName := ⟨"BallotDeskModel", "within", "(III)Z"⟩
abbrev cb_M_isOrder : ByteArray := prog_13_method_6_code
abbrev yn_M_isOrder : MethodName := ⟨"BallotDeskModel", "isOrder", "(I)Z"⟩
abbrev cb_M_unpack : ByteArray := prog_13_method_7_code
abbrev yn_M_unpack : MethodName := ⟨"BallotDeskModel", "unpack", "(I[II)V"⟩
abbrev cb_M_packed : ByteArray := prog_13_method_8_code
abbrev yn_M_packed : MethodName := ⟨"BallotDeskModel", "packed", "([II)I"⟩
abbrev cb_M_candidates : ByteArray := prog_13_method_9_code
abbrev yn_M_candidates : MethodName := ⟨"BallotDeskModel", "candidates", "(I)I"⟩
abbrev cb_M_ballot : ByteArray := prog_13_method_10_code
abbrev yn_M_ballot : MethodName := ⟨"BallotDeskModel", "ballot", "(II)I"⟩
abbrev cb_M_isType : ByteArray := prog_13_method_11_code
abbrev yn_M_isType : MethodName := ⟨"BallotDeskModel", "isType", "(I)Z"⟩
abbrev cb_M_amount : ByteArray := prog_13_method_12_code
abbrev yn_M_amount : MethodName := ⟨"BallotDeskModel", "amount", "(II)I"⟩
abbrev cb_M_drop : ByteArray := prog_13_method_13_code
abbrev yn_M_drop : MethodName := ⟨"BallotDeskModel", "drop", "(I)I"⟩
abbrev cb_M_tieOrder : ByteArray := prog_13_method_14_code
abbrev yn_M_tieOrder : MethodName := ⟨"BallotDeskModel", "tieOrder", "(I)I"⟩
abbrev cb_M_agenda : ByteArray := prog_13_method_15_code
abbrev yn_M_agenda : MethodName := ⟨"BallotDeskModel", "agenda", "(I)I"⟩
abbrev cb_M_weight : ByteArray := prog_13_method_16_code
abbrev yn_M_weight : MethodName := ⟨"BallotDeskModel", "weight", "(II)I"⟩
abbrev cb_M_load : ByteArray := prog_13_method_17_code
abbrev yn_M_load : MethodName := ⟨"BallotDeskModel", "load", "()V"⟩
abbrev cb_M_without : ByteArray := prog_13_method_18_code
abbrev yn_M_without : MethodName := ⟨"BallotDeskModel", "without", "(I[II)V"⟩
abbrev cb_M_leaveOut : ByteArray := prog_13_method_19_code
abbrev yn_M_leaveOut : MethodName := ⟨"BallotDeskModel", "leaveOut", "(I)V"⟩
abbrev cb_M_placeOf : ByteArray := prog_13_method_20_code
abbrev yn_M_placeOf : MethodName := ⟨"BallotDeskModel", "placeOf", "(II)I"⟩
abbrev cb_M_tiePlace : ByteArray := prog_13_method_21_code
abbrev yn_M_tiePlace : MethodName := ⟨"BallotDeskModel", "tiePlace", "(I)I"⟩
abbrev cb_M_tally : ByteArray := prog_13_method_22_code
abbrev yn_M_tally : MethodName := ⟨"BallotDeskModel", "tally", "()V"⟩
abbrev cb_M_beats : ByteArray := prog_13_method_23_code
abbrev yn_M_beats : MethodName := ⟨"BallotDeskModel", "beats", "(II)Z"⟩
abbrev cb_M_ahead : ByteArray := prog_13_method_24_code
abbrev yn_M_ahead : MethodName := ⟨"BallotDeskModel", "ahead", "(II)I"⟩
abbrev cb_M_all : ByteArray := prog_13_method_25_code
abbrev yn_M_all : MethodName := ⟨"BallotDeskModel", "all", "()I"⟩
abbrev cb_M_scored : ByteArray := prog_13_method_26_code
abbrev yn_M_scored : MethodName := ⟨"BallotDeskModel", "scored", "(II)J"⟩
abbrev cb_M_extreme : ByteArray := prog_13_method_27_code
abbrev yn_M_extreme : MethodName := ⟨"BallotDeskModel", "extreme", "(IZ)I"⟩
abbrev cb_M_runoff : ByteArray := prog_13_method_28_code
abbrev yn_M_runoff : MethodName := ⟨"BallotDeskModel", "runoff", "()I"⟩
abbrev cb_M_weakest : ByteArray := prog_13_method_29_code
abbrev yn_M_weakest : MethodName := ⟨"BallotDeskModel", "weakest", "(I)I"⟩
abbrev cb_M_single : ByteArray := prog_13_method_30_code
abbrev yn_M_single : MethodName := ⟨"BallotDeskModel", "single", "(I)Z"⟩
abbrev cb_M_eliminate : ByteArray := prog_13_method_31_code
abbrev yn_M_eliminate : MethodName := ⟨"BallotDeskModel", "eliminate", "()I"⟩
abbrev cb_M_findPaths : ByteArray := prog_13_method_32_code
abbrev yn_M_findPaths : MethodName := ⟨"BallotDeskModel", "findPaths", "()V"⟩
abbrev cb_M_pathWinners : ByteArray := prog_13_method_33_code
abbrev yn_M_pathWinners : MethodName := ⟨"BallotDeskModel", "pathWinners", "()I"⟩
abbrev cb_M_leads : ByteArray := prog_13_method_34_code
abbrev yn_M_leads : MethodName := ⟨"BallotDeskModel", "leads", "(II)Z"⟩
abbrev cb_M_sooner : ByteArray := prog_13_method_35_code
abbrev yn_M_sooner : MethodName := ⟨"BallotDeskModel", "sooner", "(IIII)Z"⟩
abbrev cb_M_lockWinners : ByteArray := prog_13_method_36_code
abbrev yn_M_lockWinners : MethodName := ⟨"BallotDeskModel", "lockWinners", "()I"⟩
abbrev cb_M_over : ByteArray := prog_13_method_37_code
abbrev yn_M_over : MethodName := ⟨"BallotDeskModel", "over", "(II)J"⟩
abbrev cb_M_findLeast : ByteArray := prog_13_method_38_code
abbrev yn_M_findLeast : MethodName := ⟨"BallotDeskModel", "findLeast", "()V"⟩
abbrev cb_M_agreeing : ByteArray := prog_13_method_39_code
abbrev yn_M_agreeing : MethodName := ⟨"BallotDeskModel", "agreeing", "()I"⟩
abbrev cb_M_uncovered : ByteArray := prog_13_method_40_code
abbrev yn_M_uncovered : MethodName := ⟨"BallotDeskModel", "uncovered", "()I"⟩
abbrev cb_M_byAgenda : ByteArray := prog_13_method_41_code
abbrev yn_M_byAgenda : MethodName := ⟨"BallotDeskModel", "byAgenda", "()I"⟩
abbrev cb_M_work : ByteArray := prog_13_method_42_code
abbrev yn_M_work : MethodName := ⟨"BallotDeskModel", "work", "(I)I"⟩
abbrev cb_M_firstOf : ByteArray := prog_13_method_43_code
abbrev yn_M_firstOf : MethodName := ⟨"BallotDeskModel", "firstOf", "(I)I"⟩
abbrev cb_M_isRule : ByteArray := prog_13_method_44_code
abbrev yn_M_isRule : MethodName := ⟨"BallotDeskModel", "isRule", "(I)Z"⟩
abbrev cb_M_isCandidate : ByteArray := prog_13_method_45_code
abbrev yn_M_isCandidate : MethodName := ⟨"BallotDeskModel", "isCandidate", "(I)Z"⟩
abbrev cb_M_winners : ByteArray := prog_13_method_46_code
abbrev yn_M_winners : MethodName := ⟨"BallotDeskModel", "winners", "(I)I"⟩
abbrev cb_M_winner : ByteArray := prog_13_method_47_code
abbrev yn_M_winner : MethodName := ⟨"BallotDeskModel", "winner", "(I)I"⟩
abbrev cb_M_score : ByteArray := prog_13_method_48_code
abbrev yn_M_score : MethodName := ⟨"BallotDeskModel", "score", "(II)J"⟩
abbrev cb_M_pair : ByteArray := prog_13_method_49_code
abbrev yn_M_pair : MethodName := ⟨"BallotDeskModel", "pair", "(II)I"⟩
abbrev cb_M_path : ByteArray := prog_13_method_50_code
abbrev yn_M_path : MethodName := ⟨"BallotDeskModel", "path", "(II)I"⟩
abbrev cb_M_branches : ByteArray := prog_13_method_51_code
abbrev yn_M_branches : MethodName := ⟨"BallotDeskModel", "branches", "()I"⟩
abbrev cb_M_step : ByteArray := prog_13_method_52_code
abbrev yn_M_step : MethodName := ⟨"BallotDeskModel", "step", "(I)I"⟩
abbrev cb_M_firstOrder : ByteArray := prog_13_method_53_code
abbrev yn_M_firstOrder : MethodName := ⟨"BallotDeskModel", "firstOrder", "()V"⟩
abbrev cb_M_nextOrder : ByteArray := prog_13_method_54_code
abbrev yn_M_nextOrder : MethodName := ⟨"BallotDeskModel", "nextOrder", "()Z"⟩
abbrev cb_M_disagreementOf : ByteArray := prog_13_method_55_code
abbrev yn_M_disagreementOf : MethodName := ⟨"BallotDeskModel", "disagreementOf", "()J"⟩
abbrev cb_M_sooner2 : ByteArray := prog_13_method_56_code
abbrev yn_M_sooner2 : MethodName := ⟨"BallotDeskModel", "sooner", "()Z"⟩
abbrev cb_M_findAgreed : ByteArray := prog_13_method_57_code
abbrev yn_M_findAgreed : MethodName := ⟨"BallotDeskModel", "findAgreed", "()J"⟩
abbrev cb_M_disagreement : ByteArray := prog_13_method_58_code
abbrev yn_M_disagreement : MethodName := ⟨"BallotDeskModel", "disagreement", "()J"⟩
abbrev cb_M_agreed : ByteArray := prog_13_method_59_code
abbrev yn_M_agreed : MethodName := ⟨"BallotDeskModel", "agreed", "()I"⟩
abbrev cb_M_change : ByteArray := prog_13_method_60_code
abbrev yn_M_change : MethodName := ⟨"BallotDeskModel", "change", "(III)I"⟩
abbrev cb_M_changed : ByteArray := prog_13_method_61_code
abbrev yn_M_changed : MethodName := ⟨"BallotDeskModel", "changed", "()I"⟩
abbrev cb_M_over2 : ByteArray := prog_13_method_62_code
abbrev yn_M_over2 : MethodName := ⟨"BallotDeskModel", "over", "(IZ)Z"⟩
abbrev cb_M_brokenByPairs : ByteArray := prog_13_method_63_code
abbrev yn_M_brokenByPairs : MethodName := ⟨"BallotDeskModel", "brokenByPairs", "(II)I"⟩
abbrev cb_M_brokenByType : ByteArray := prog_13_method_64_code
abbrev yn_M_brokenByType : MethodName := ⟨"BallotDeskModel", "brokenByType", "(II)I"⟩
abbrev cb_M_brokenByLeaving : ByteArray := prog_13_method_65_code
abbrev yn_M_brokenByLeaving : MethodName := ⟨"BallotDeskModel", "brokenByLeaving", "(I)I"⟩
abbrev cb_M_property : ByteArray := prog_13_method_66_code
abbrev yn_M_property : MethodName := ⟨"BallotDeskModel", "property", "(II)Z"⟩
abbrev cb_M_witness : ByteArray := prog_13_method_67_code
abbrev yn_M_witness : MethodName := ⟨"BallotDeskModel", "witness", "()I"⟩
abbrev cb_M_circle : ByteArray := prog_13_method_68_code
abbrev yn_M_circle : MethodName := ⟨"BallotDeskModel", "circle", "(I)I"⟩
abbrev cb_M_clones : ByteArray := prog_13_method_69_code
abbrev yn_M_clones : MethodName := ⟨"BallotDeskModel", "clones", "(I)Z"⟩
abbrev cb_M_count : ByteArray := prog_13_method_70_code
abbrev yn_M_count : MethodName := ⟨"BallotDeskModel", "count", "(I)I"⟩
abbrev cb_A_init : ByteArray := prog_2_method_1_code
abbrev yn_A_init : MethodName := ⟨"BallotDesk$Agreement", "<init>", "()V"⟩
abbrev cb_A_leastOfAll : ByteArray := prog_2_method_2_code
abbrev yn_A_leastOfAll : MethodName := ⟨"BallotDesk$Agreement", "leastOfAll", "(LBallotDesk$Poll;)J"⟩
abbrev cb_A_winnerSet : ByteArray := prog_2_method_3_code
abbrev yn_A_winnerSet : MethodName := ⟨"BallotDesk$Agreement", "winnerSet", "(LBallotDesk$Poll;)I"⟩
abbrev cb_A_bestOrder : ByteArray := prog_2_method_4_code
abbrev yn_A_bestOrder : MethodName := ⟨"BallotDesk$Agreement", "bestOrder", "(LBallotDesk$Poll;)I"⟩
abbrev cb_A_bestLeaders : ByteArray := prog_2_method_5_code
abbrev yn_A_bestLeaders : MethodName := ⟨"BallotDesk$Agreement", "bestLeaders", "(II)I"⟩
abbrev cb_A_weigh : ByteArray := prog_2_method_6_code
abbrev yn_A_weigh : MethodName := ⟨"BallotDesk$Agreement", "weigh", "(LBallotDesk$Poll;)V"⟩
abbrev cb_A_sumAgainst : ByteArray := prog_2_method_7_code
abbrev yn_A_sumAgainst : MethodName := ⟨"BallotDesk$Agreement", "sumAgainst", "(LBallotDesk$Poll;I)V"⟩
abbrev cb_E_init : ByteArray := prog_3_method_1_code
abbrev yn_E_init : MethodName := ⟨"BallotDesk$Elimination", "<init>", "()V"⟩
abbrev cb_E_winnerSet : ByteArray := prog_3_method_2_code
abbrev yn_E_winnerSet : MethodName := ⟨"BallotDesk$Elimination", "winnerSet", "(LBallotDesk$Poll;)I"⟩
abbrev cb_E_setsThatCanBeLeft : ByteArray := prog_3_method_3_code
abbrev yn_E_setsThatCanBeLeft : MethodName := ⟨"BallotDesk$Elimination", "setsThatCanBeLeft", "(LBallotDesk$Poll;)I"⟩
abbrev cb_E_goerAt : ByteArray := prog_3_method_4_code
abbrev yn_E_goerAt : MethodName := ⟨"BallotDesk$Elimination", "goerAt", "(LBallotDesk$Poll;I)I"⟩
abbrev cb_E_spread : ByteArray := prog_3_method_5_code
abbrev yn_E_spread : MethodName := ⟨"BallotDesk$Elimination", "spread", "(LBallotDesk$Poll;)V"⟩
abbrev cb_E_goers : ByteArray := prog_3_method_6_code
abbrev yn_E_goers : MethodName := ⟨"BallotDesk$Elimination", "goers", "(LBallotDesk$Poll;I)I"⟩
abbrev cb_E_countLeads : ByteArray := prog_3_method_7_code
abbrev yn_E_countLeads : MethodName := ⟨"BallotDesk$Elimination", "countLeads", "(LBallotDesk$Poll;I)V"⟩
abbrev cb_K_init : ByteArray := prog_4_method_1_code
abbrev yn_K_init : MethodName := ⟨"BallotDesk$Locks", "<init>", "()V"⟩
abbrev cb_K_winnerSet : ByteArray := prog_4_method_2_code
abbrev yn_K_winnerSet : MethodName := ⟨"BallotDesk$Locks", "winnerSet", "(LBallotDesk$Poll;)I"⟩
abbrev cb_K_collect : ByteArray := prog_4_method_3_code
abbrev yn_K_collect : MethodName := ⟨"BallotDesk$Locks", "collect", "(LBallotDesk$Poll;)V"⟩
abbrev cb_K_insert : ByteArray := prog_4_method_4_code
abbrev yn_K_insert : MethodName := ⟨"BallotDesk$Locks", "insert", "(I)V"⟩
abbrev cb_K_lock : ByteArray := prog_4_method_5_code
abbrev yn_K_lock : MethodName := ⟨"BallotDesk$Locks", "lock", "(III)V"⟩
abbrev cb_O_at : ByteArray := prog_5_method_2_code
abbrev yn_O_at : MethodName := ⟨"BallotDesk$Order", "at", "(II)I"⟩
abbrev cb_O_isOne : ByteArray := prog_5_method_3_code
abbrev yn_O_isOne : MethodName := ⟨"BallotDesk$Order", "isOne", "(II)Z"⟩
abbrev cb_O_ascending : ByteArray := prog_5_method_4_code
abbrev yn_O_ascending : MethodName := ⟨"BallotDesk$Order", "ascending", "(I)I"⟩
abbrev cb_O_placeOf : ByteArray := prog_5_method_5_code
abbrev yn_O_placeOf : MethodName := ⟨"BallotDesk$Order", "placeOf", "(III)I"⟩
abbrev cb_O_raised : ByteArray := prog_5_method_6_code
abbrev yn_O_raised : MethodName := ⟨"BallotDesk$Order", "raised", "(III)I"⟩
abbrev cb_O_without : ByteArray := prog_5_method_7_code
abbrev yn_O_without : MethodName := ⟨"BallotDesk$Order", "without", "(III)I"⟩
abbrev cb_O_numberWithout : ByteArray := prog_5_method_8_code
abbrev yn_O_numberWithout : MethodName := ⟨"BallotDesk$Order", "numberWithout", "(II)I"⟩
abbrev cb_O_standTogether : ByteArray := prog_5_method_9_code
abbrev yn_O_standTogether : MethodName := ⟨"BallotDesk$Order", "standTogether", "(III)Z"⟩
abbrev cb_S_init : ByteArray := prog_6_method_1_code
abbrev yn_S_init : MethodName := ⟨"BallotDesk$Orders", "<init>", "()V"⟩
abbrev cb_S_start : ByteArray := prog_6_method_2_code
abbrev yn_S_start : MethodName := ⟨"BallotDesk$Orders", "start", "(I)V"⟩
abbrev cb_S_asNumber : ByteArray := prog_6_method_3_code
abbrev yn_S_asNumber : MethodName := ⟨"BallotDesk$Orders", "asNumber", "()I"⟩
abbrev cb_S_advance : ByteArray := prog_6_method_4_code
abbrev yn_S_advance : MethodName := ⟨"BallotDesk$Orders", "advance", "()Z"⟩
abbrev cb_S_swap : ByteArray := prog_6_method_5_code
abbrev yn_S_swap : MethodName := ⟨"BallotDesk$Orders", "swap", "(II)V"⟩
abbrev cb_H_init : ByteArray := prog_7_method_1_code
abbrev yn_H_init : MethodName := ⟨"BallotDesk$Paths", "<init>", "()V"⟩
abbrev cb_H_measure : ByteArray := prog_7_method_2_code
abbrev yn_H_measure : MethodName := ⟨"BallotDesk$Paths", "measure", "(LBallotDesk$Poll;)V"⟩
abbrev cb_H_widen : ByteArray := prog_7_method_3_code
abbrev yn_H_widen : MethodName := ⟨"BallotDesk$Paths", "widen", "(III)V"⟩
abbrev cb_H_winnerSet : ByteArray := prog_7_method_4_code
abbrev yn_H_winnerSet : MethodName := ⟨"BallotDesk$Paths", "winnerSet", "(LBallotDesk$Poll;)I"⟩
abbrev cb_P_init : ByteArray := prog_8_method_1_code
abbrev yn_P_init : MethodName := ⟨"BallotDesk$Poll", "<init>", "()V"⟩
abbrev cb_P_open : ByteArray := prog_8_method_2_code
abbrev yn_P_open : MethodName := ⟨"BallotDesk$Poll", "open", "(I)V"⟩
abbrev cb_P_empty : ByteArray := prog_8_method_3_code
abbrev yn_P_empty : MethodName := ⟨"BallotDesk$Poll", "empty", "()V"⟩
abbrev cb_P_copy : ByteArray := prog_8_method_4_code
abbrev yn_P_copy : MethodName := ⟨"BallotDesk$Poll", "copy", "(LBallotDesk$Poll;)V"⟩
abbrev cb_P_copyWithout : ByteArray := prog_8_method_5_code
abbrev yn_P_copyWithout : MethodName := ⟨"BallotDesk$Poll", "copyWithout", "(LBallotDesk$Poll;I)V"⟩
abbrev cb_P_append : ByteArray := prog_8_method_6_code
abbrev yn_P_append : MethodName := ⟨"BallotDesk$Poll", "append", "(II)I"⟩
abbrev cb_P_replace : ByteArray := prog_8_method_7_code
abbrev yn_P_replace : MethodName := ⟨"BallotDesk$Poll", "replace", "(III)V"⟩
abbrev cb_P_remove : ByteArray := prog_8_method_8_code
abbrev yn_P_remove : MethodName := ⟨"BallotDesk$Poll", "remove", "(I)V"⟩
abbrev cb_P_tally : ByteArray := prog_8_method_9_code
abbrev yn_P_tally : MethodName := ⟨"BallotDesk$Poll", "tally", "(II)V"⟩
abbrev cb_P_beats : ByteArray := prog_8_method_10_code
abbrev yn_P_beats : MethodName := ⟨"BallotDesk$Poll", "beats", "(II)Z"⟩
abbrev cb_P_beatenBy : ByteArray := prog_8_method_11_code
abbrev yn_P_beatenBy : MethodName := ⟨"BallotDesk$Poll", "beatenBy", "(I)I"⟩
abbrev cb_P_everyone : ByteArray := prog_8_method_12_code
abbrev yn_P_everyone : MethodName := ⟨"BallotDesk$Poll", "everyone", "()I"⟩
abbrev cb_P_allVoters : ByteArray := prog_8_method_13_code
abbrev yn_P_allVoters : MethodName := ⟨"BallotDesk$Poll", "allVoters", "()I"⟩
abbrev cb_P_firstInTie : ByteArray := prog_8_method_14_code
abbrev yn_P_firstInTie : MethodName := ⟨"BallotDesk$Poll", "firstInTie", "(I)I"⟩
abbrev cb_P_lastInTie : ByteArray := prog_8_method_15_code
abbrev yn_P_lastInTie : MethodName := ⟨"BallotDesk$Poll", "lastInTie", "(I)I"⟩
abbrev cb_P_leastCircle : ByteArray := prog_8_method_16_code
abbrev yn_P_leastCircle : MethodName := ⟨"BallotDesk$Poll", "leastCircle", "()I"⟩
abbrev cb_R_init : ByteArray := prog_9_method_1_code
abbrev yn_R_init : MethodName := ⟨"BallotDesk$Rules", "<init>", "()V"⟩
abbrev cb_R_theWinner : ByteArray := prog_9_method_2_code
abbrev yn_R_theWinner : MethodName := ⟨"BallotDesk$Rules", "theWinner", "(LBallotDesk$Poll;I)I"⟩
abbrev cb_R_winnerSet : ByteArray := prog_9_method_3_code
abbrev yn_R_winnerSet : MethodName := ⟨"BallotDesk$Rules", "winnerSet", "(LBallotDesk$Poll;I)I"⟩
abbrev cb_R_runoff : ByteArray := prog_9_method_4_code
abbrev yn_R_runoff : MethodName := ⟨"BallotDesk$Rules", "runoff", "(LBallotDesk$Poll;)I"⟩
abbrev cb_R_mayMeet : ByteArray := prog_9_method_5_code
abbrev yn_R_mayMeet : MethodName := ⟨"BallotDesk$Rules", "mayMeet", "(LBallotDesk$Poll;II)Z"⟩
abbrev cb_R_uncovered : ByteArray := prog_9_method_6_code
abbrev yn_R_uncovered : MethodName := ⟨"BallotDesk$Rules", "uncovered", "(LBallotDesk$Poll;)I"⟩
abbrev cb_R_lastToStay : ByteArray := prog_9_method_7_code
abbrev yn_R_lastToStay : MethodName := ⟨"BallotDesk$Rules", "lastToStay", "(LBallotDesk$Poll;)I"⟩
abbrev cb_C_areKeptBy : ByteArray := prog_10_method_2_code
abbrev yn_C_areKeptBy : MethodName := ⟨"BallotDesk$Scores", "areKeptBy", "(I)Z"⟩
abbrev cb_C_of : ByteArray := prog_10_method_3_code
abbrev yn_C_of : MethodName := ⟨"BallotDesk$Scores", "of", "(LBallotDesk$Poll;II)J"⟩
abbrev cb_C_winnerSet : ByteArray := prog_10_method_4_code
abbrev yn_C_winnerSet : MethodName := ⟨"BallotDesk$Scores", "winnerSet", "(LBallotDesk$Poll;I)I"⟩
abbrev cb_C_points : ByteArray := prog_10_method_5_code
abbrev yn_C_points : MethodName := ⟨"BallotDesk$Scores", "points", "(LBallotDesk$Poll;I)J"⟩
abbrev cb_C_greatestDefeat : ByteArray := prog_10_method_6_code
abbrev yn_C_greatestDefeat : MethodName := ⟨"BallotDesk$Scores", "greatestDefeat", "(LBallotDesk$Poll;I)J"⟩
abbrev cb_C_wins : ByteArray := prog_10_method_7_code
abbrev yn_C_wins : MethodName := ⟨"BallotDesk$Scores", "wins", "(LBallotDesk$Poll;I)J"⟩
abbrev cb_W_init : ByteArray := prog_11_method_1_code
abbrev yn_W_init : MethodName := ⟨"BallotDesk$WhatIf", "<init>", "()V"⟩
abbrev cb_W_betterOrder : ByteArray := prog_11_method_2_code
abbrev yn_W_betterOrder : MethodName := ⟨"BallotDesk$WhatIf", "betterOrder", "(LBallotDesk$Poll;III)I"⟩
abbrev cb_W_bestNotAlone : ByteArray := prog_11_method_3_code
abbrev yn_W_bestNotAlone : MethodName := ⟨"BallotDesk$WhatIf", "bestNotAlone", "(LBallotDesk$Poll;I)I"⟩
abbrev cb_W_worstAmongWinners : ByteArray := prog_11_method_4_code
abbrev yn_W_worstAmongWinners : MethodName := ⟨"BallotDesk$WhatIf", "worstAmongWinners", "(LBallotDesk$Poll;I)I"⟩
abbrev cb_W_typeThatHarmsByRaising : ByteArray := prog_11_method_5_code
abbrev yn_W_typeThatHarmsByRaising : MethodName := ⟨"BallotDesk$WhatIf", "typeThatHarmsByRaising", "(LBallotDesk$Poll;I)I"⟩
abbrev cb_W_typeThatHarmsByJoining : ByteArray := prog_11_method_6_code
abbrev yn_W_typeThatHarmsByJoining : MethodName := ⟨"BallotDesk$WhatIf", "typeThatHarmsByJoining", "(LBallotDesk$Poll;I)I"⟩
abbrev cb_W_loserThatHarmsByLeaving : ByteArray := prog_11_method_7_code
abbrev yn_W_loserThatHarmsByLeaving : MethodName := ⟨"BallotDesk$WhatIf", "loserThatHarmsByLeaving", "(LBallotDesk$Poll;I)I"⟩
abbrev cb_L_candidates : ByteArray := method_3_code
abbrev yn_L_candidates : MethodName := ⟨"BallotDeskLaw", "candidates", "(LBallotDesk;I[J)I"⟩
abbrev cb_L_ballot : ByteArray := method_4_code
abbrev yn_L_ballot : MethodName := ⟨"BallotDeskLaw", "ballot", "(LBallotDesk;II[J)I"⟩
abbrev cb_L_amount : ByteArray := method_5_code
abbrev yn_L_amount : MethodName := ⟨"BallotDeskLaw", "amount", "(LBallotDesk;II[J)I"⟩
abbrev cb_L_drop : ByteArray := method_6_code
abbrev yn_L_drop : MethodName := ⟨"BallotDeskLaw", "drop", "(LBallotDesk;I[J)I"⟩
abbrev cb_L_tieOrder : ByteArray := method_7_code
abbrev yn_L_tieOrder : MethodName := ⟨"BallotDeskLaw", "tieOrder", "(LBallotDesk;I[J)I"⟩
abbrev cb_L_agenda : ByteArray := method_8_code
abbrev yn_L_agenda : MethodName := ⟨"BallotDeskLaw", "agenda", "(LBallotDesk;I[J)I"⟩
abbrev cb_L_weight : ByteArray := method_9_code
abbrev yn_L_weight : MethodName := ⟨"BallotDeskLaw", "weight", "(LBallotDesk;II[J)I"⟩
abbrev cb_L_winners : ByteArray := method_10_code
abbrev yn_L_winners : MethodName := ⟨"BallotDeskLaw", "winners", "(LBallotDesk;I[J)I"⟩
abbrev cb_L_winner : ByteArray := method_11_code
abbrev yn_L_winner : MethodName := ⟨"BallotDeskLaw", "winner", "(LBallotDesk;I[J)I"⟩
abbrev cb_L_score : ByteArray := method_12_code
abbrev yn_L_score : MethodName := ⟨"BallotDeskLaw", "score", "(LBallotDesk;II[J)I"⟩
abbrev cb_L_pair : ByteArray := method_13_code
abbrev yn_L_pair : MethodName := ⟨"BallotDeskLaw", "pair", "(LBallotDesk;II[J)I"⟩
abbrev cb_L_path : ByteArray := method_14_code
abbrev yn_L_path : MethodName := ⟨"BallotDeskLaw", "path", "(LBallotDesk;II[J)I"⟩
abbrev cb_L_step : ByteArray := method_15_code
abbrev yn_L_step : MethodName := ⟨"BallotDeskLaw", "step", "(LBallotDesk;I[J)I"⟩
abbrev cb_L_change : ByteArray := method_16_code
abbrev yn_L_change : MethodName := ⟨"BallotDeskLaw", "change", "(LBallotDesk;III[J)I"⟩
abbrev cb_L_property : ByteArray := method_17_code
abbrev yn_L_property : MethodName := ⟨"BallotDeskLaw", "property", "(LBallotDesk;II[J)I"⟩
abbrev cb_L_circle : ByteArray := method_18_code
abbrev yn_L_circle : MethodName := ⟨"BallotDeskLaw", "circle", "(LBallotDesk;I[J)I"⟩
abbrev cb_L_clones : ByteArray := method_19_code
abbrev yn_L_clones : MethodName := ⟨"BallotDeskLaw", "clones", "(LBallotDesk;I[J)I"⟩
abbrev cb_L_count : ByteArray := method_20_code
abbrev yn_L_count : MethodName := ⟨"BallotDeskLaw", "count", "(LBallotDesk;I[J)I"⟩
abbrev cb_JI_bitCount : ByteArray := prog_17_method_49_code
abbrev yn_JI_bitCount : MethodName := ⟨"java/lang/Integer", "bitCount", "(I)I"⟩
abbrev cb_JM_max : ByteArray := prog_18_method_65_code
abbrev yn_JM_max : MethodName := ⟨"java/lang/Math", "max", "(II)I"⟩
abbrev cb_JM_min : ByteArray := prog_18_method_69_code
abbrev yn_JM_min : MethodName := ⟨"java/lang/Math", "min", "(II)I"⟩
abbrev cb_JA_fill : ByteArray := prog_22_method_103_code
abbrev yn_JA_fill : MethodName := ⟨"java/util/Arrays", "fill", "([II)V"⟩
end
section
def lw_g : List Cond := lw_tbl.filter goodWord
theorem tg_of {w : Cond} (h : w ∈ lw_tbl) (g : goodWord w = true) : w ∈ lw_g := List.mem_filter.mpr ⟨h, g⟩
theorem tg_in {w : Cond} (h : w ∈ lw_g) : w ∈ lw_tbl := (List.mem_filter.mp h).1
theorem tg_good {w : Cond} (h : w ∈ lw_g) : goodWord w = true := (List.mem_filter.mp h).2
theorem tw_1 {w : Cond} (h : w ∈ tables_1_1) : w ∈ lw_tbl := List.mem_append_right _ (List.mem_append_left _ h)
theorem tw_2 {w : Cond} (h : w ∈ tables_1_2) : w ∈ lw_tbl := List.mem_append_right _ (List.mem_append_right _ (List.mem_append_left _ h))
theorem tw_3 {w : Cond} (h : w ∈ tables_1_3) : w ∈ lw_tbl := List.mem_append_right _ (List.mem_append_right _ (List.mem_append_right _ (List.mem_append_left _ h)))
theorem tw_4 {w : Cond} (h : w ∈ tables_1_4) : w ∈ lw_tbl := List.mem_append_right _ (List.mem_append_right _ (List.mem_append_right _ (List.mem_append_right _ (List.mem_append_left _ h))))
theorem tw_5 {w : Cond} (h : w ∈ tables_1_5) : w ∈ lw_tbl := List.mem_append_right _ (List.mem_append_right _ (List.mem_append_right _ (List.mem_append_right _ (List.mem_append_right _ h))))
theorem mw_0 : Cond.initialized "BallotDeskLaw" ∈ lw_g := tg_of (tw_1 (List.mem_of_getElem? (i := 0) rfl)) rfl
theorem mw_1 : Cond.initialized "BallotDesk" ∈ lw_g := tg_of (tw_1 (List.mem_of_getElem? (i := 1) rfl)) rfl
theorem mw_2 : Cond.initialized "BallotDesk$Poll" ∈ lw_g := tg_of (tw_1 (List.mem_of_getElem? (i := 2) rfl)) rfl
theorem mw_3 : Cond.initialized "BallotDesk$Order" ∈ lw_g := tg_of (tw_1 (List.mem_of_getElem? (i := 3) rfl)) rfl
theorem mw_4 : Cond.initialized "java/util/Arrays" ∈ lw_g := tg_of (tw_1 (List.mem_of_getElem? (i := 4) rfl)) rfl
theorem mw_5 : Cond.initialized "BallotDesk$WhatIf" ∈ lw_g := tg_of (tw_1 (List.mem_of_getElem? (i := 5) rfl)) rfl
theorem mw_6 : Cond.initialized "BallotDesk$Rules" ∈ lw_g := tg_of (tw_1 (List.mem_of_getElem? (i := 6) rfl)) rfl
theorem mw_7 : Cond.initialized "BallotDesk$Elimination" ∈ lw_g := tg_of (tw_1 (List.mem_of_getElem? (i := 7) rfl)) rfl
theorem mw_8 : Cond.initialized "BallotDesk$Paths" ∈ lw_g := tg_of (tw_1 (List.mem_of_getElem? (i := 8) rfl)) rfl
theorem mw_9 : Cond.initialized "BallotDesk$Locks" ∈ lw_g := tg_of (tw_1 (List.mem_of_getElem? (i := 9) rfl)) rfl
theorem mw_10 : Cond.initialized "BallotDesk$Agreement" ∈ lw_g := tg_of (tw_1 (List.mem_of_getElem? (i := 10) rfl)) rfl
theorem mw_11 : Cond.initialized "BallotDesk$Orders" ∈ lw_g := tg_of (tw_1 (List.mem_of_getElem? (i := 11) rfl)) rfl
theorem mw_12 : Cond.initialized "BallotDeskModel" ∈ lw_g := tg_of (tw_1 (List.mem_of_getElem? (i := 12) rfl)) rfl
theorem mw_13 : Cond.initialized "java/lang/Throwable" ∈ lw_g := tg_of (tw_1 (List.mem_of_getElem? (i := 13) rfl)) rfl
theorem mw_14 : Cond.initialized "java/lang/Exception" ∈ lw_g := tg_of (tw_1 (List.mem_of_getElem? (i := 14) rfl)) rfl
theorem mw_15 : Cond.initialized "java/lang/RuntimeException" ∈ lw_g := tg_of (tw_1 (List.mem_of_getElem? (i := 15) rfl)) rfl
theorem mw_16 : Cond.initialized "java/lang/IllegalArgumentException" ∈ lw_g := tg_of (tw_1 (List.mem_of_getElem? (i := 16) rfl)) rfl
theorem mw_17 : Cond.initialized "java/lang/IllegalStateException" ∈ lw_g := tg_of (tw_1 (List.mem_of_getElem? (i := 17) rfl)) rfl
theorem mw_18 : Cond.initialized "java/util/NoSuchElementException" ∈ lw_g := tg_of (tw_1 (List.mem_of_getElem? (i := 18) rfl)) rfl
theorem mw_19 : Cond.initialized "java/lang/Math" ∈ lw_g := tg_of (tw_1 (List.mem_of_getElem? (i := 19) rfl)) rfl
theorem mw_20 : Cond.initialized "java/lang/Integer" ∈ lw_g := tg_of (tw_1 (List.mem_of_getElem? (i := 20) rfl)) rfl
theorem mw_21 : Cond.initialized "BallotDesk$Scores" ∈ lw_g := tg_of (tw_1 (List.mem_of_getElem? (i := 21) rfl)) rfl
theorem mw_22 : Cond.initialized "java/lang/System" ∈ lw_g := tg_of (tw_1 (List.mem_of_getElem? (i := 22) rfl)) rfl
theorem mw_23 : Cond.classLink "BallotDeskLaw" 8 "BallotDesk" ∈ lw_g := tg_of (tw_1 (List.mem_of_getElem? (i := 23) rfl)) rfl
theorem mw_24 : Cond.instantiable "BallotDesk" 5 ∈ lw_g := tg_of (tw_1 (List.mem_of_getElem? (i := 24) rfl)) rfl
theorem mw_25 : Cond.methodLink "BallotDeskLaw" 75 yn_D_init ∈ lw_g := tg_of (tw_1 (List.mem_of_getElem? (i := 25) rfl)) rfl
theorem mw_26 : Cond.instanceMethod yn_D_init ∈ lw_g := tg_of (tw_1 (List.mem_of_getElem? (i := 26) rfl)) rfl
theorem mw_27 : Cond.code yn_D_init prog_1_method_1_code 1 (Option.none : Option Jvm.ClassFile.FieldType) ∈ lw_g := tg_of (tw_1 (List.mem_of_getElem? (i := 27) rfl)) rfl
theorem mw_28 : Cond.methodLink "BallotDesk" 3 ⟨"java/lang/Object", "<init>", "()V"⟩ ∈ lw_g := tg_of (tw_1 (List.mem_of_getElem? (i := 28) rfl)) rfl
theorem mw_29 : Cond.instanceMethod ⟨"java/lang/Object", "<init>", "()V"⟩ ∈ lw_g := tg_of (tw_1 (List.mem_of_getElem? (i := 29) rfl)) rfl
theorem mw_30 : Cond.code ⟨"java/lang/Object", "<init>", "()V"⟩ object_method_1_code 1 (Option.none : Option Jvm.ClassFile.FieldType) ∈ lw_g := tg_of (tw_1 (List.mem_of_getElem? (i := 30) rfl)) rfl
theorem mw_31 : Cond.classLink "BallotDesk" 9 "BallotDesk$Poll" ∈ lw_g := tg_of (tw_1 (List.mem_of_getElem? (i := 31) rfl)) rfl
theorem mw_32 : Cond.instantiable "BallotDesk$Poll" 9 ∈ lw_g := tg_of (tw_1 (List.mem_of_getElem? (i := 32) rfl)) rfl
theorem mt_33 : Cond.methodLinkNest "BallotDesk" 11 yn_P_init "BallotDesk" ∈ lw_tbl := tw_1 (List.mem_of_getElem? (i := 33) rfl)
theorem mw_34 : Cond.instanceMethod yn_P_init ∈ lw_g := tg_of (tw_1 (List.mem_of_getElem? (i := 34) rfl)) rfl
theorem mw_35 : Cond.code yn_P_init prog_8_method_1_code 1 (Option.none : Option Jvm.ClassFile.FieldType) ∈ lw_g := tg_of (tw_1 (List.mem_of_getElem? (i := 35) rfl)) rfl
theorem mw_36 : Cond.methodLink "BallotDesk$Poll" 3 ⟨"java/lang/Object", "<init>", "()V"⟩ ∈ lw_g := tg_of (tw_1 (List.mem_of_getElem? (i := 36) rfl)) rfl
theorem mw_37 : Cond.classLink "BallotDesk$Poll" 21 "[[I" ∈ lw_g := tg_of (tw_1 (List.mem_of_getElem? (i := 37) rfl)) rfl
theorem mw_39 : Cond.fieldLink "BallotDesk$Poll" 9 "BallotDesk$Poll" "orders" "[I" ∈ lw_g := tg_of (tw_1 (List.mem_of_getElem? (i := 39) rfl)) rfl
theorem mw_40 : Cond.fieldLink "BallotDesk$WhatIf" 32 "BallotDesk$Poll" "orders" "[I" ∈ lw_g := tg_of (tw_1 (List.mem_of_getElem? (i := 40) rfl)) rfl
theorem mw_41 : Cond.fieldLink "BallotDesk" 76 "BallotDesk$Poll" "orders" "[I" ∈ lw_g := tg_of (tw_1 (List.mem_of_getElem? (i := 41) rfl)) rfl
theorem mw_42 : Cond.fieldLink "BallotDesk$Elimination" 53 "BallotDesk$Poll" "orders" "[I" ∈ lw_g := tg_of (tw_1 (List.mem_of_getElem? (i := 42) rfl)) rfl
theorem mw_43 : Cond.fieldLink "BallotDesk$Poll" 15 "BallotDesk$Poll" "voters" "[I" ∈ lw_g := tg_of (tw_1 (List.mem_of_getElem? (i := 43) rfl)) rfl
theorem mw_44 : Cond.fieldLink "BallotDesk$WhatIf" 56 "BallotDesk$Poll" "voters" "[I" ∈ lw_g := tg_of (tw_1 (List.mem_of_getElem? (i := 44) rfl)) rfl
theorem mw_45 : Cond.fieldLink "BallotDesk" 72 "BallotDesk$Poll" "voters" "[I" ∈ lw_g := tg_of (tw_1 (List.mem_of_getElem? (i := 45) rfl)) rfl
theorem mw_46 : Cond.fieldLink "BallotDesk$Elimination" 56 "BallotDesk$Poll" "voters" "[I" ∈ lw_g := tg_of (tw_1 (List.mem_of_getElem? (i := 46) rfl)) rfl
theorem mw_47 : Cond.fieldLink "BallotDesk$Poll" 18 "BallotDesk$Poll" "weights" "[I" ∈ lw_g := tg_of (tw_1 (List.mem_of_getElem? (i := 47) rfl)) rfl
theorem mw_48 : Cond.fieldLink "BallotDesk$Scores" 35 "BallotDesk$Poll" "weights" "[I" ∈ lw_g := tg_of (tw_1 (List.mem_of_getElem? (i := 48) rfl)) rfl
theorem mw_49 : Cond.fieldLink "BallotDesk" 92 "BallotDesk$Poll" "weights" "[I" ∈ lw_g := tg_of (tw_1 (List.mem_of_getElem? (i := 49) rfl)) rfl
theorem mw_50 : Cond.fieldLink "BallotDesk$Poll" 23 "BallotDesk$Poll" "placed" "[[I" ∈ lw_g := tg_of (tw_1 (List.mem_of_getElem? (i := 50) rfl)) rfl
theorem mw_51 : Cond.fieldLink "BallotDesk$Scores" 9 "BallotDesk$Poll" "placed" "[[I" ∈ lw_g := tg_of (tw_1 (List.mem_of_getElem? (i := 51) rfl)) rfl
theorem mw_52 : Cond.fieldLink "BallotDesk$Rules" 83 "BallotDesk$Poll" "placed" "[[I" ∈ lw_g := tg_of (tw_1 (List.mem_of_getElem? (i := 52) rfl)) rfl
theorem mw_53 : Cond.fieldLink "BallotDesk$Poll" 26 "BallotDesk$Poll" "ahead" "[[I" ∈ lw_g := tg_of (tw_1 (List.mem_of_getElem? (i := 53) rfl)) rfl
theorem mw_54 : Cond.fieldLink "BallotDesk$Paths" 26 "BallotDesk$Poll" "ahead" "[[I" ∈ lw_g := tg_of (tw_1 (List.mem_of_getElem? (i := 54) rfl)) rfl
theorem mw_55 : Cond.fieldLink "BallotDesk$Locks" 58 "BallotDesk$Poll" "ahead" "[[I" ∈ lw_g := tg_of (tw_1 (List.mem_of_getElem? (i := 55) rfl)) rfl
theorem mw_56 : Cond.fieldLink "BallotDesk$Scores" 43 "BallotDesk$Poll" "ahead" "[[I" ∈ lw_g := tg_of (tw_1 (List.mem_of_getElem? (i := 56) rfl)) rfl
theorem mw_57 : Cond.fieldLink "BallotDesk$Agreement" 52 "BallotDesk$Poll" "ahead" "[[I" ∈ lw_g := tg_of (tw_1 (List.mem_of_getElem? (i := 57) rfl)) rfl
theorem mw_58 : Cond.fieldLink "BallotDesk" 119 "BallotDesk$Poll" "ahead" "[[I" ∈ lw_g := tg_of (tw_1 (List.mem_of_getElem? (i := 58) rfl)) rfl
theorem mw_59 : Cond.fieldLink "BallotDesk$Poll" 29 "BallotDesk$Poll" "size" "I" ∈ lw_g := tg_of (tw_1 (List.mem_of_getElem? (i := 59) rfl)) rfl
theorem mw_60 : Cond.fieldLink "BallotDesk$Paths" 16 "BallotDesk$Poll" "size" "I" ∈ lw_g := tg_of (tw_1 (List.mem_of_getElem? (i := 60) rfl)) rfl
theorem mw_61 : Cond.fieldLink "BallotDesk$Elimination" 23 "BallotDesk$Poll" "size" "I" ∈ lw_g := tg_of (tw_1 (List.mem_of_getElem? (i := 61) rfl)) rfl
theorem mw_62 : Cond.fieldLink "BallotDesk$WhatIf" 39 "BallotDesk$Poll" "size" "I" ∈ lw_g := tg_of (tw_1 (List.mem_of_getElem? (i := 62) rfl)) rfl
theorem mw_63 : Cond.fieldLink "BallotDesk" 43 "BallotDesk$Poll" "size" "I" ∈ lw_g := tg_of (tw_1 (List.mem_of_getElem? (i := 63) rfl)) rfl
theorem mw_64 : Cond.fieldLink "BallotDesk$Locks" 47 "BallotDesk$Poll" "size" "I" ∈ lw_g := tg_of (tw_1 (List.mem_of_getElem? (i := 64) rfl)) rfl
theorem mw_65 : Cond.fieldLink "BallotDesk$Agreement" 30 "BallotDesk$Poll" "size" "I" ∈ lw_g := tg_of (tw_1 (List.mem_of_getElem? (i := 65) rfl)) rfl
theorem mw_66 : Cond.fieldLink "BallotDesk$Scores" 15 "BallotDesk$Poll" "size" "I" ∈ lw_g := tg_of (tw_1 (List.mem_of_getElem? (i := 66) rfl)) rfl
theorem mw_67 : Cond.fieldLink "BallotDesk$Rules" 71 "BallotDesk$Poll" "size" "I" ∈ lw_g := tg_of (tw_1 (List.mem_of_getElem? (i := 67) rfl)) rfl
theorem mw_68 : Cond.fieldLink "BallotDesk$Poll" 48 "BallotDesk$Poll" "types" "I" ∈ lw_g := tg_of (tw_1 (List.mem_of_getElem? (i := 68) rfl)) rfl
theorem mw_69 : Cond.fieldLink "BallotDesk" 56 "BallotDesk$Poll" "types" "I" ∈ lw_g := tg_of (tw_1 (List.mem_of_getElem? (i := 69) rfl)) rfl
theorem mw_70 : Cond.fieldLink "BallotDesk$WhatIf" 92 "BallotDesk$Poll" "types" "I" ∈ lw_g := tg_of (tw_1 (List.mem_of_getElem? (i := 70) rfl)) rfl
theorem mw_71 : Cond.fieldLink "BallotDesk$Elimination" 50 "BallotDesk$Poll" "types" "I" ∈ lw_g := tg_of (tw_1 (List.mem_of_getElem? (i := 71) rfl)) rfl
theorem mw_72 : Cond.fieldLink "BallotDesk$Poll" 39 "BallotDesk$Poll" "tie" "I" ∈ lw_g := tg_of (tw_1 (List.mem_of_getElem? (i := 72) rfl)) rfl
theorem mw_73 : Cond.fieldLink "BallotDesk$Locks" 38 "BallotDesk$Poll" "tie" "I" ∈ lw_g := tg_of (tw_1 (List.mem_of_getElem? (i := 73) rfl)) rfl
theorem mw_74 : Cond.fieldLink "BallotDesk" 86 "BallotDesk$Poll" "tie" "I" ∈ lw_g := tg_of (tw_1 (List.mem_of_getElem? (i := 74) rfl)) rfl
theorem mw_75 : Cond.fieldLink "BallotDesk$Poll" 42 "BallotDesk$Poll" "agenda" "I" ∈ lw_g := tg_of (tw_1 (List.mem_of_getElem? (i := 75) rfl)) rfl
theorem mw_76 : Cond.fieldLink "BallotDesk$Rules" 100 "BallotDesk$Poll" "agenda" "I" ∈ lw_g := tg_of (tw_1 (List.mem_of_getElem? (i := 76) rfl)) rfl
theorem mw_77 : Cond.fieldLink "BallotDesk" 89 "BallotDesk$Poll" "agenda" "I" ∈ lw_g := tg_of (tw_1 (List.mem_of_getElem? (i := 77) rfl)) rfl
theorem mw_97 : Cond.arrayClass Jvm.ClassFile.FieldType.int ∈ lw_g := tg_of (tw_1 (List.mem_of_getElem? (i := 97) rfl)) rfl
theorem mw_98 : Cond.methodLink "BallotDesk" 16 yn_P_open ∈ lw_g := tg_of (tw_1 (List.mem_of_getElem? (i := 98) rfl)) rfl
theorem mw_99 : Cond.instanceMethod yn_P_open ∈ lw_g := tg_of (tw_1 (List.mem_of_getElem? (i := 99) rfl)) rfl
theorem mw_100 : Cond.selects "BallotDesk$Poll" yn_P_open yn_P_open ∈ lw_g := tg_of (tw_1 (List.mem_of_getElem? (i := 100) rfl)) rfl
theorem mw_101 : Cond.code yn_P_open prog_8_method_2_code 3 (Option.none : Option Jvm.ClassFile.FieldType) ∈ lw_g := tg_of (tw_1 (List.mem_of_getElem? (i := 101) rfl)) rfl
theorem mw_102 : Cond.methodLink "BallotDesk$Poll" 33 yn_O_ascending ∈ lw_g := tg_of (tw_1 (List.mem_of_getElem? (i := 102) rfl)) rfl
theorem mw_103 : Cond.static yn_O_ascending ∈ lw_g := tg_of (tw_1 (List.mem_of_getElem? (i := 103) rfl)) rfl
theorem mw_104 : Cond.code yn_O_ascending prog_5_method_4_code 3 (Option.some Jvm.ClassFile.FieldType.int) ∈ lw_g := tg_of (tw_1 (List.mem_of_getElem? (i := 104) rfl)) rfl
theorem mw_105 : Cond.methodLink "BallotDesk$Poll" 45 yn_P_empty ∈ lw_g := tg_of (tw_1 (List.mem_of_getElem? (i := 105) rfl)) rfl
theorem mw_107 : Cond.instanceMethod yn_P_empty ∈ lw_g := tg_of (tw_1 (List.mem_of_getElem? (i := 107) rfl)) rfl
theorem mw_108 : Cond.code yn_P_empty prog_8_method_3_code 2 (Option.none : Option Jvm.ClassFile.FieldType) ∈ lw_g := tg_of (tw_1 (List.mem_of_getElem? (i := 108) rfl)) rfl
theorem mw_109 : Cond.methodLink "BallotDesk$Poll" 51 yn_JA_fill ∈ lw_g := tg_of (tw_1 (List.mem_of_getElem? (i := 109) rfl)) rfl
theorem mw_110 : Cond.static yn_JA_fill ∈ lw_g := tg_of (tw_1 (List.mem_of_getElem? (i := 110) rfl)) rfl
theorem mw_111 : Cond.code yn_JA_fill prog_22_method_103_code 4 (Option.none : Option Jvm.ClassFile.FieldType) ∈ lw_g := tg_of (tw_1 (List.mem_of_getElem? (i := 111) rfl)) rfl
theorem mw_112 : Cond.classLink "BallotDesk" 20 "BallotDesk$WhatIf" ∈ lw_g := tg_of (tw_1 (List.mem_of_getElem? (i := 112) rfl)) rfl
theorem mw_113 : Cond.instantiable "BallotDesk$WhatIf" 4 ∈ lw_g := tg_of (tw_1 (List.mem_of_getElem? (i := 113) rfl)) rfl
theorem mt_114 : Cond.methodLinkNest "BallotDesk" 22 yn_W_init "BallotDesk" ∈ lw_tbl := tw_1 (List.mem_of_getElem? (i := 114) rfl)
theorem mw_115 : Cond.instanceMethod yn_W_init ∈ lw_g := tg_of (tw_1 (List.mem_of_getElem? (i := 115) rfl)) rfl
theorem mw_116 : Cond.code yn_W_init prog_11_method_1_code 1 (Option.none : Option Jvm.ClassFile.FieldType) ∈ lw_g := tg_of (tw_1 (List.mem_of_getElem? (i := 116) rfl)) rfl
theorem mw_117 : Cond.methodLink "BallotDesk$WhatIf" 3 ⟨"java/lang/Object", "<init>", "()V"⟩ ∈ lw_g := tg_of (tw_1 (List.mem_of_getElem? (i := 117) rfl)) rfl
theorem mw_118 : Cond.classLink "BallotDesk$WhatIf" 9 "BallotDesk$Rules" ∈ lw_g := tg_of (tw_1 (List.mem_of_getElem? (i := 118) rfl)) rfl
theorem mw_119 : Cond.instantiable "BallotDesk$Rules" 5 ∈ lw_g := tg_of (tw_1 (List.mem_of_getElem? (i := 119) rfl)) rfl
theorem mt_120 : Cond.methodLinkNest "BallotDesk$WhatIf" 11 yn_R_init "BallotDesk" ∈ lw_tbl := tw_1 (List.mem_of_getElem? (i := 120) rfl)
theorem mw_121 : Cond.instanceMethod yn_R_init ∈ lw_g := tg_of (tw_1 (List.mem_of_getElem? (i := 121) rfl)) rfl
theorem mw_122 : Cond.code yn_R_init prog_9_method_1_code 1 (Option.none : Option Jvm.ClassFile.FieldType) ∈ lw_g := tg_of (tw_1 (List.mem_of_getElem? (i := 122) rfl)) rfl
theorem mw_123 : Cond.methodLink "BallotDesk$Rules" 3 ⟨"java/lang/Object", "<init>", "()V"⟩ ∈ lw_g := tg_of (tw_1 (List.mem_of_getElem? (i := 123) rfl)) rfl
theorem mw_124 : Cond.classLink "BallotDesk$Rules" 9 "BallotDesk$Elimination" ∈ lw_g := tg_of (tw_1 (List.mem_of_getElem? (i := 124) rfl)) rfl
theorem mw_125 : Cond.instantiable "BallotDesk$Elimination" 2 ∈ lw_g := tg_of (tw_1 (List.mem_of_getElem? (i := 125) rfl)) rfl
theorem mt_126 : Cond.methodLinkNest "BallotDesk$Rules" 11 yn_E_init "BallotDesk" ∈ lw_tbl := tw_1 (List.mem_of_getElem? (i := 126) rfl)
theorem mw_127 : Cond.instanceMethod yn_E_init ∈ lw_g := tg_of (tw_1 (List.mem_of_getElem? (i := 127) rfl)) rfl
theorem mw_128 : Cond.code yn_E_init prog_3_method_1_code 1 (Option.none : Option Jvm.ClassFile.FieldType) ∈ lw_g := tg_of (tw_1 (List.mem_of_getElem? (i := 128) rfl)) rfl
theorem mw_129 : Cond.methodLink "BallotDesk$Elimination" 3 ⟨"java/lang/Object", "<init>", "()V"⟩ ∈ lw_g := tg_of (tw_1 (List.mem_of_getElem? (i := 129) rfl)) rfl
theorem mw_130 : Cond.fieldLink "BallotDesk$Elimination" 9 "BallotDesk$Elimination" "canBeLeft" "[Z" ∈ lw_g := tg_of (tw_1 (List.mem_of_getElem? (i := 130) rfl)) rfl
theorem mw_131 : Cond.fieldLink "BallotDesk$Elimination" 15 "BallotDesk$Elimination" "leads" "[I" ∈ lw_g := tg_of (tw_1 (List.mem_of_getElem? (i := 131) rfl)) rfl
theorem mw_137 : Cond.arrayClass Jvm.ClassFile.FieldType.boolean ∈ lw_g := tg_of (tw_1 (List.mem_of_getElem? (i := 137) rfl)) rfl
theorem mw_138 : Cond.classLink "BallotDesk$Rules" 18 "BallotDesk$Paths" ∈ lw_g := tg_of (tw_1 (List.mem_of_getElem? (i := 138) rfl)) rfl
theorem mw_139 : Cond.instantiable "BallotDesk$Paths" 1 ∈ lw_g := tg_of (tw_1 (List.mem_of_getElem? (i := 139) rfl)) rfl
theorem mt_140 : Cond.methodLinkNest "BallotDesk$Rules" 20 yn_H_init "BallotDesk" ∈ lw_tbl := tw_1 (List.mem_of_getElem? (i := 140) rfl)
theorem mw_141 : Cond.instanceMethod yn_H_init ∈ lw_g := tg_of (tw_1 (List.mem_of_getElem? (i := 141) rfl)) rfl
theorem mw_142 : Cond.code yn_H_init prog_7_method_1_code 1 (Option.none : Option Jvm.ClassFile.FieldType) ∈ lw_g := tg_of (tw_1 (List.mem_of_getElem? (i := 142) rfl)) rfl
theorem mw_143 : Cond.methodLink "BallotDesk$Paths" 3 ⟨"java/lang/Object", "<init>", "()V"⟩ ∈ lw_g := tg_of (tw_1 (List.mem_of_getElem? (i := 143) rfl)) rfl
theorem mw_144 : Cond.classLink "BallotDesk$Paths" 9 "[[I" ∈ lw_g := tg_of (tw_1 (List.mem_of_getElem? (i := 144) rfl)) rfl
theorem mw_145 : Cond.fieldLink "BallotDesk$Paths" 11 "BallotDesk$Paths" "strength" "[[I" ∈ lw_g := tg_of (tw_1 (List.mem_of_getElem? (i := 145) rfl)) rfl
theorem mw_146 : Cond.fieldLink "BallotDesk" 133 "BallotDesk$Paths" "strength" "[[I" ∈ lw_g := tg_of (tw_1 (List.mem_of_getElem? (i := 146) rfl)) rfl
theorem mw_150 : Cond.classLink "BallotDesk$Rules" 25 "BallotDesk$Locks" ∈ lw_g := tg_of (tw_1 (List.mem_of_getElem? (i := 150) rfl)) rfl
theorem mw_151 : Cond.instantiable "BallotDesk$Locks" 3 ∈ lw_g := tg_of (tw_1 (List.mem_of_getElem? (i := 151) rfl)) rfl
theorem mt_152 : Cond.methodLinkNest "BallotDesk$Rules" 27 yn_K_init "BallotDesk" ∈ lw_tbl := tw_1 (List.mem_of_getElem? (i := 152) rfl)
theorem mw_153 : Cond.instanceMethod yn_K_init ∈ lw_g := tg_of (tw_1 (List.mem_of_getElem? (i := 153) rfl)) rfl
theorem mw_154 : Cond.code yn_K_init prog_4_method_1_code 1 (Option.none : Option Jvm.ClassFile.FieldType) ∈ lw_g := tg_of (tw_1 (List.mem_of_getElem? (i := 154) rfl)) rfl
theorem mw_155 : Cond.methodLink "BallotDesk$Locks" 3 ⟨"java/lang/Object", "<init>", "()V"⟩ ∈ lw_g := tg_of (tw_1 (List.mem_of_getElem? (i := 155) rfl)) rfl
theorem mw_156 : Cond.fieldLink "BallotDesk$Locks" 9 "BallotDesk$Locks" "keys" "[I" ∈ lw_g := tg_of (tw_1 (List.mem_of_getElem? (i := 156) rfl)) rfl
theorem mw_157 : Cond.fieldLink "BallotDesk$Locks" 15 "BallotDesk$Locks" "under" "[I" ∈ lw_g := tg_of (tw_1 (List.mem_of_getElem? (i := 157) rfl)) rfl
theorem mw_158 : Cond.fieldLink "BallotDesk$Locks" 34 "BallotDesk$Locks" "pairs" "I" ∈ lw_g := tg_of (tw_1 (List.mem_of_getElem? (i := 158) rfl)) rfl
theorem mw_166 : Cond.classLink "BallotDesk$Rules" 32 "BallotDesk$Agreement" ∈ lw_g := tg_of (tw_1 (List.mem_of_getElem? (i := 166) rfl)) rfl
theorem mw_167 : Cond.instantiable "BallotDesk$Agreement" 2 ∈ lw_g := tg_of (tw_1 (List.mem_of_getElem? (i := 167) rfl)) rfl
theorem mt_168 : Cond.methodLinkNest "BallotDesk$Rules" 34 yn_A_init "BallotDesk" ∈ lw_tbl := tw_1 (List.mem_of_getElem? (i := 168) rfl)
theorem mw_169 : Cond.instanceMethod yn_A_init ∈ lw_g := tg_of (tw_1 (List.mem_of_getElem? (i := 169) rfl)) rfl
theorem mw_170 : Cond.code yn_A_init prog_2_method_1_code 1 (Option.none : Option Jvm.ClassFile.FieldType) ∈ lw_g := tg_of (tw_1 (List.mem_of_getElem? (i := 170) rfl)) rfl
theorem mw_171 : Cond.methodLink "BallotDesk$Agreement" 3 ⟨"java/lang/Object", "<init>", "()V"⟩ ∈ lw_g := tg_of (tw_1 (List.mem_of_getElem? (i := 171) rfl)) rfl
theorem mw_172 : Cond.classLink "BallotDesk$Agreement" 15 "[[I" ∈ lw_g := tg_of (tw_1 (List.mem_of_getElem? (i := 172) rfl)) rfl
theorem mw_173 : Cond.fieldLink "BallotDesk$Agreement" 9 "BallotDesk$Agreement" "least" "[I" ∈ lw_g := tg_of (tw_1 (List.mem_of_getElem? (i := 173) rfl)) rfl
theorem mw_174 : Cond.fieldLink "BallotDesk$Agreement" 17 "BallotDesk$Agreement" "against" "[[I" ∈ lw_g := tg_of (tw_1 (List.mem_of_getElem? (i := 174) rfl)) rfl
theorem mw_180 : Cond.fieldLink "BallotDesk$Rules" 12 "BallotDesk$Rules" "elimination" "LBallotDesk$Elimination;" ∈ lw_g := tg_of (tw_1 (List.mem_of_getElem? (i := 180) rfl)) rfl
theorem mw_181 : Cond.fieldLink "BallotDesk" 136 "BallotDesk$Rules" "elimination" "LBallotDesk$Elimination;" ∈ lw_g := tg_of (tw_1 (List.mem_of_getElem? (i := 181) rfl)) rfl
theorem mw_182 : Cond.fieldLink "BallotDesk$Rules" 21 "BallotDesk$Rules" "paths" "LBallotDesk$Paths;" ∈ lw_g := tg_of (tw_1 (List.mem_of_getElem? (i := 182) rfl)) rfl
theorem mw_183 : Cond.fieldLink "BallotDesk" 123 "BallotDesk$Rules" "paths" "LBallotDesk$Paths;" ∈ lw_g := tg_of (tw_1 (List.mem_of_getElem? (i := 183) rfl)) rfl
theorem mw_184 : Cond.fieldLink "BallotDesk$Rules" 28 "BallotDesk$Rules" "locks" "LBallotDesk$Locks;" ∈ lw_g := tg_of (tw_1 (List.mem_of_getElem? (i := 184) rfl)) rfl
theorem mw_185 : Cond.fieldLink "BallotDesk$Rules" 35 "BallotDesk$Rules" "agreement" "LBallotDesk$Agreement;" ∈ lw_g := tg_of (tw_1 (List.mem_of_getElem? (i := 185) rfl)) rfl
theorem mw_186 : Cond.fieldLink "BallotDesk" 149 "BallotDesk$Rules" "agreement" "LBallotDesk$Agreement;" ∈ lw_g := tg_of (tw_1 (List.mem_of_getElem? (i := 186) rfl)) rfl
theorem mw_187 : Cond.fieldLink "BallotDesk$Rules" 39 "BallotDesk$Rules" "beaten" "[I" ∈ lw_g := tg_of (tw_1 (List.mem_of_getElem? (i := 187) rfl)) rfl
theorem mw_199 : Cond.classLink "BallotDesk$WhatIf" 18 "BallotDesk$Poll" ∈ lw_g := tg_of (tw_1 (List.mem_of_getElem? (i := 199) rfl)) rfl
theorem mt_200 : Cond.methodLinkNest "BallotDesk$WhatIf" 20 yn_P_init "BallotDesk" ∈ lw_tbl := tw_1 (List.mem_of_getElem? (i := 200) rfl)
theorem mw_201 : Cond.classLink "BallotDesk$WhatIf" 25 "BallotDesk$Orders" ∈ lw_g := tg_of (tw_1 (List.mem_of_getElem? (i := 201) rfl)) rfl
theorem mw_202 : Cond.instantiable "BallotDesk$Orders" 2 ∈ lw_g := tg_of (tw_1 (List.mem_of_getElem? (i := 202) rfl)) rfl
theorem mt_203 : Cond.methodLinkNest "BallotDesk$WhatIf" 27 yn_S_init "BallotDesk" ∈ lw_tbl := tw_1 (List.mem_of_getElem? (i := 203) rfl)
theorem mw_204 : Cond.instanceMethod yn_S_init ∈ lw_g := tg_of (tw_1 (List.mem_of_getElem? (i := 204) rfl)) rfl
theorem mw_205 : Cond.code yn_S_init prog_6_method_1_code 1 (Option.none : Option Jvm.ClassFile.FieldType) ∈ lw_g := tg_of (tw_1 (List.mem_of_getElem? (i := 205) rfl)) rfl
theorem mw_206 : Cond.methodLink "BallotDesk$Orders" 3 ⟨"java/lang/Object", "<init>", "()V"⟩ ∈ lw_g := tg_of (tw_1 (List.mem_of_getElem? (i := 206) rfl)) rfl
theorem mw_207 : Cond.fieldLink "BallotDesk$Orders" 9 "BallotDesk$Orders" "row" "[I" ∈ lw_g := tg_of (tw_1 (List.mem_of_getElem? (i := 207) rfl)) rfl
theorem mw_208 : Cond.fieldLink "BallotDesk$Orders" 15 "BallotDesk$Orders" "size" "I" ∈ lw_g := tg_of (tw_1 (List.mem_of_getElem? (i := 208) rfl)) rfl
theorem mw_214 : Cond.fieldLink "BallotDesk$WhatIf" 12 "BallotDesk$WhatIf" "rules" "LBallotDesk$Rules;" ∈ lw_g := tg_of (tw_1 (List.mem_of_getElem? (i := 214) rfl)) rfl
theorem mw_215 : Cond.fieldLink "BallotDesk" 27 "BallotDesk$WhatIf" "rules" "LBallotDesk$Rules;" ∈ lw_g := tg_of (tw_1 (List.mem_of_getElem? (i := 215) rfl)) rfl
theorem mw_216 : Cond.fieldLink "BallotDesk$WhatIf" 21 "BallotDesk$WhatIf" "trial" "LBallotDesk$Poll;" ∈ lw_g := tg_of (tw_1 (List.mem_of_getElem? (i := 216) rfl)) rfl
theorem mw_217 : Cond.fieldLink "BallotDesk$WhatIf" 28 "BallotDesk$WhatIf" "orders" "LBallotDesk$Orders;" ∈ lw_g := tg_of (tw_1 (List.mem_of_getElem? (i := 217) rfl)) rfl
theorem mw_218 : Cond.fieldLink "BallotDesk$WhatIf" 49 "BallotDesk$WhatIf" "placeReached" "I" ∈ lw_g := tg_of (tw_1 (List.mem_of_getElem? (i := 218) rfl)) rfl
theorem mw_219 : Cond.fieldLink "BallotDesk" 166 "BallotDesk$WhatIf" "placeReached" "I" ∈ lw_g := tg_of (tw_1 (List.mem_of_getElem? (i := 219) rfl)) rfl
theorem mw_229 : Cond.fieldLink "BallotDesk" 12 "BallotDesk" "poll" "LBallotDesk$Poll;" ∈ lw_g := tg_of (tw_1 (List.mem_of_getElem? (i := 229) rfl)) rfl
theorem mw_230 : Cond.fieldLink "BallotDesk" 31 "BallotDesk" "rules" "LBallotDesk$Rules;" ∈ lw_g := tg_of (tw_1 (List.mem_of_getElem? (i := 230) rfl)) rfl
theorem mw_231 : Cond.fieldLink "BallotDesk" 23 "BallotDesk" "whatIf" "LBallotDesk$WhatIf;" ∈ lw_g := tg_of (tw_1 (List.mem_of_getElem? (i := 231) rfl)) rfl
theorem mw_232 : Cond.fieldLink "BallotDesk" 32 "BallotDesk" "changedOrder" "I" ∈ lw_g := tg_of (tw_1 (List.mem_of_getElem? (i := 232) rfl)) rfl
theorem mw_233 : Cond.fieldLink "BallotDesk" 36 "BallotDesk" "witnessed" "I" ∈ lw_g := tg_of (tw_1 (List.mem_of_getElem? (i := 233) rfl)) rfl
theorem mw_245 : Cond.methodLink "BallotDeskLaw" 123 yn_D_branches ∈ lw_g := tg_of (tw_2 (List.mem_of_getElem? (i := 5) rfl)) rfl
theorem mw_246 : Cond.instanceMethod yn_D_branches ∈ lw_g := tg_of (tw_2 (List.mem_of_getElem? (i := 6) rfl)) rfl
theorem mw_247 : Cond.selects "BallotDesk" yn_D_branches yn_D_branches ∈ lw_g := tg_of (tw_2 (List.mem_of_getElem? (i := 7) rfl)) rfl
theorem mw_248 : Cond.code yn_D_branches prog_1_method_14_code 1 (Option.some Jvm.ClassFile.FieldType.int) ∈ lw_g := tg_of (tw_2 (List.mem_of_getElem? (i := 8) rfl)) rfl
theorem mw_249 : Cond.methodLink "BallotDesk" 140 yn_E_setsThatCanBeLeft ∈ lw_g := tg_of (tw_2 (List.mem_of_getElem? (i := 9) rfl)) rfl
theorem mw_250 : Cond.instanceMethod yn_E_setsThatCanBeLeft ∈ lw_g := tg_of (tw_2 (List.mem_of_getElem? (i := 10) rfl)) rfl
theorem mw_251 : Cond.selects "BallotDesk$Elimination" yn_E_setsThatCanBeLeft yn_E_setsThatCanBeLeft ∈ lw_g := tg_of (tw_2 (List.mem_of_getElem? (i := 11) rfl)) rfl
theorem mw_252 : Cond.code yn_E_setsThatCanBeLeft prog_3_method_3_code 4 (Option.some Jvm.ClassFile.FieldType.int) ∈ lw_g := tg_of (tw_2 (List.mem_of_getElem? (i := 12) rfl)) rfl
theorem mw_253 : Cond.methodLink "BallotDesk$Elimination" 19 yn_E_spread ∈ lw_g := tg_of (tw_2 (List.mem_of_getElem? (i := 13) rfl)) rfl
theorem mw_255 : Cond.instanceMethod yn_E_spread ∈ lw_g := tg_of (tw_2 (List.mem_of_getElem? (i := 15) rfl)) rfl
theorem mw_256 : Cond.code yn_E_spread prog_3_method_5_code 6 (Option.none : Option Jvm.ClassFile.FieldType) ∈ lw_g := tg_of (tw_2 (List.mem_of_getElem? (i := 16) rfl)) rfl
theorem mw_257 : Cond.methodLink "BallotDesk$Elimination" 29 yn_P_everyone ∈ lw_g := tg_of (tw_2 (List.mem_of_getElem? (i := 17) rfl)) rfl
theorem mw_258 : Cond.instanceMethod yn_P_everyone ∈ lw_g := tg_of (tw_2 (List.mem_of_getElem? (i := 18) rfl)) rfl
theorem mw_259 : Cond.selects "BallotDesk$Poll" yn_P_everyone yn_P_everyone ∈ lw_g := tg_of (tw_2 (List.mem_of_getElem? (i := 19) rfl)) rfl
theorem mw_260 : Cond.code yn_P_everyone prog_8_method_12_code 1 (Option.some Jvm.ClassFile.FieldType.int) ∈ lw_g := tg_of (tw_2 (List.mem_of_getElem? (i := 20) rfl)) rfl
theorem mw_261 : Cond.methodLink "BallotDesk$Elimination" 41 yn_JI_bitCount ∈ lw_g := tg_of (tw_2 (List.mem_of_getElem? (i := 21) rfl)) rfl
theorem mw_262 : Cond.static yn_JI_bitCount ∈ lw_g := tg_of (tw_2 (List.mem_of_getElem? (i := 22) rfl)) rfl
theorem mw_263 : Cond.code yn_JI_bitCount prog_17_method_49_code 1 (Option.some Jvm.ClassFile.FieldType.int) ∈ lw_g := tg_of (tw_2 (List.mem_of_getElem? (i := 23) rfl)) rfl
theorem mw_264 : Cond.constant "java/lang/Integer" 265 1431655765 ∈ lw_g := tg_of (tw_2 (List.mem_of_getElem? (i := 24) rfl)) rfl
theorem mw_265 : Cond.constant "java/lang/Integer" 266 858993459 ∈ lw_g := tg_of (tw_2 (List.mem_of_getElem? (i := 25) rfl)) rfl
theorem mw_266 : Cond.constant "java/lang/Integer" 267 252645135 ∈ lw_g := tg_of (tw_2 (List.mem_of_getElem? (i := 26) rfl)) rfl
theorem mw_267 : Cond.methodLink "BallotDesk$Elimination" 33 yn_E_goers ∈ lw_g := tg_of (tw_2 (List.mem_of_getElem? (i := 27) rfl)) rfl
theorem mw_269 : Cond.instanceMethod yn_E_goers ∈ lw_g := tg_of (tw_2 (List.mem_of_getElem? (i := 29) rfl)) rfl
theorem mw_270 : Cond.code yn_E_goers prog_3_method_6_code 6 (Option.some Jvm.ClassFile.FieldType.int) ∈ lw_g := tg_of (tw_2 (List.mem_of_getElem? (i := 30) rfl)) rfl
theorem mw_271 : Cond.methodLink "BallotDesk$Elimination" 46 yn_E_countLeads ∈ lw_g := tg_of (tw_2 (List.mem_of_getElem? (i := 31) rfl)) rfl
theorem mw_273 : Cond.instanceMethod yn_E_countLeads ∈ lw_g := tg_of (tw_2 (List.mem_of_getElem? (i := 33) rfl)) rfl
theorem mw_274 : Cond.code yn_E_countLeads prog_3_method_7_code 7 (Option.none : Option Jvm.ClassFile.FieldType) ∈ lw_g := tg_of (tw_2 (List.mem_of_getElem? (i := 34) rfl)) rfl
theorem mw_275 : Cond.methodLink "BallotDeskLaw" 130 yn_D_disagreement ∈ lw_g := tg_of (tw_2 (List.mem_of_getElem? (i := 35) rfl)) rfl
theorem mw_276 : Cond.instanceMethod yn_D_disagreement ∈ lw_g := tg_of (tw_2 (List.mem_of_getElem? (i := 36) rfl)) rfl
theorem mw_277 : Cond.selects "BallotDesk" yn_D_disagreement yn_D_disagreement ∈ lw_g := tg_of (tw_2 (List.mem_of_getElem? (i := 37) rfl)) rfl
theorem mw_278 : Cond.code yn_D_disagreement prog_1_method_16_code 1 (Option.some Jvm.ClassFile.FieldType.long) ∈ lw_g := tg_of (tw_2 (List.mem_of_getElem? (i := 38) rfl)) rfl
theorem mw_279 : Cond.methodLink "BallotDesk" 153 yn_A_leastOfAll ∈ lw_g := tg_of (tw_2 (List.mem_of_getElem? (i := 39) rfl)) rfl
theorem mw_280 : Cond.instanceMethod yn_A_leastOfAll ∈ lw_g := tg_of (tw_2 (List.mem_of_getElem? (i := 40) rfl)) rfl
theorem mw_281 : Cond.selects "BallotDesk$Agreement" yn_A_leastOfAll yn_A_leastOfAll ∈ lw_g := tg_of (tw_2 (List.mem_of_getElem? (i := 41) rfl)) rfl
theorem mw_282 : Cond.code yn_A_leastOfAll prog_2_method_2_code 2 (Option.some Jvm.ClassFile.FieldType.long) ∈ lw_g := tg_of (tw_2 (List.mem_of_getElem? (i := 42) rfl)) rfl
theorem mw_283 : Cond.methodLink "BallotDesk$Agreement" 20 yn_A_weigh ∈ lw_g := tg_of (tw_2 (List.mem_of_getElem? (i := 43) rfl)) rfl
theorem mw_285 : Cond.instanceMethod yn_A_weigh ∈ lw_g := tg_of (tw_2 (List.mem_of_getElem? (i := 45) rfl)) rfl
theorem mw_286 : Cond.code yn_A_weigh prog_2_method_6_code 7 (Option.none : Option Jvm.ClassFile.FieldType) ∈ lw_g := tg_of (tw_2 (List.mem_of_getElem? (i := 46) rfl)) rfl
theorem mw_287 : Cond.methodLink "BallotDesk$Agreement" 42 yn_A_sumAgainst ∈ lw_g := tg_of (tw_2 (List.mem_of_getElem? (i := 47) rfl)) rfl
theorem mw_289 : Cond.instanceMethod yn_A_sumAgainst ∈ lw_g := tg_of (tw_2 (List.mem_of_getElem? (i := 49) rfl)) rfl
theorem mw_290 : Cond.code yn_A_sumAgainst prog_2_method_7_code 8 (Option.none : Option Jvm.ClassFile.FieldType) ∈ lw_g := tg_of (tw_2 (List.mem_of_getElem? (i := 50) rfl)) rfl
theorem mw_291 : Cond.methodLink "BallotDesk$Agreement" 24 yn_P_everyone ∈ lw_g := tg_of (tw_2 (List.mem_of_getElem? (i := 51) rfl)) rfl
theorem mw_292 : Cond.constant "BallotDesk$Agreement" 46 42000021 ∈ lw_g := tg_of (tw_2 (List.mem_of_getElem? (i := 52) rfl)) rfl
theorem mw_293 : Cond.methodLink "BallotDesk$Agreement" 47 yn_JM_min ∈ lw_g := tg_of (tw_2 (List.mem_of_getElem? (i := 53) rfl)) rfl
theorem mw_294 : Cond.static yn_JM_min ∈ lw_g := tg_of (tw_2 (List.mem_of_getElem? (i := 54) rfl)) rfl
theorem mw_295 : Cond.code yn_JM_min prog_18_method_69_code 2 (Option.some Jvm.ClassFile.FieldType.int) ∈ lw_g := tg_of (tw_2 (List.mem_of_getElem? (i := 55) rfl)) rfl
theorem mw_296 : Cond.methodLink "BallotDeskLaw" 135 yn_D_agreed ∈ lw_g := tg_of (tw_2 (List.mem_of_getElem? (i := 56) rfl)) rfl
theorem mw_297 : Cond.instanceMethod yn_D_agreed ∈ lw_g := tg_of (tw_2 (List.mem_of_getElem? (i := 57) rfl)) rfl
theorem mw_298 : Cond.selects "BallotDesk" yn_D_agreed yn_D_agreed ∈ lw_g := tg_of (tw_2 (List.mem_of_getElem? (i := 58) rfl)) rfl
theorem mw_299 : Cond.code yn_D_agreed prog_1_method_17_code 1 (Option.some Jvm.ClassFile.FieldType.int) ∈ lw_g := tg_of (tw_2 (List.mem_of_getElem? (i := 59) rfl)) rfl
theorem mw_300 : Cond.methodLink "BallotDesk" 159 yn_A_bestOrder ∈ lw_g := tg_of (tw_2 (List.mem_of_getElem? (i := 60) rfl)) rfl
theorem mw_301 : Cond.instanceMethod yn_A_bestOrder ∈ lw_g := tg_of (tw_2 (List.mem_of_getElem? (i := 61) rfl)) rfl
theorem mw_302 : Cond.selects "BallotDesk$Agreement" yn_A_bestOrder yn_A_bestOrder ∈ lw_g := tg_of (tw_2 (List.mem_of_getElem? (i := 62) rfl)) rfl
theorem mw_303 : Cond.code yn_A_bestOrder prog_2_method_4_code 6 (Option.some Jvm.ClassFile.FieldType.int) ∈ lw_g := tg_of (tw_2 (List.mem_of_getElem? (i := 63) rfl)) rfl
theorem mw_304 : Cond.methodLink "BallotDesk$Agreement" 34 yn_A_bestLeaders ∈ lw_g := tg_of (tw_2 (List.mem_of_getElem? (i := 64) rfl)) rfl
theorem mw_306 : Cond.instanceMethod yn_A_bestLeaders ∈ lw_g := tg_of (tw_2 (List.mem_of_getElem? (i := 66) rfl)) rfl
theorem mw_307 : Cond.code yn_A_bestLeaders prog_2_method_5_code 6 (Option.some Jvm.ClassFile.FieldType.int) ∈ lw_g := tg_of (tw_2 (List.mem_of_getElem? (i := 67) rfl)) rfl
theorem mw_308 : Cond.methodLink "BallotDesk$Agreement" 38 yn_P_firstInTie ∈ lw_g := tg_of (tw_2 (List.mem_of_getElem? (i := 68) rfl)) rfl
theorem mw_309 : Cond.instanceMethod yn_P_firstInTie ∈ lw_g := tg_of (tw_2 (List.mem_of_getElem? (i := 69) rfl)) rfl
theorem mw_310 : Cond.selects "BallotDesk$Poll" yn_P_firstInTie yn_P_firstInTie ∈ lw_g := tg_of (tw_2 (List.mem_of_getElem? (i := 70) rfl)) rfl
theorem mw_311 : Cond.code yn_P_firstInTie prog_8_method_14_code 4 (Option.some Jvm.ClassFile.FieldType.int) ∈ lw_g := tg_of (tw_2 (List.mem_of_getElem? (i := 71) rfl)) rfl
theorem mw_312 : Cond.methodLink "BallotDesk$Poll" 75 yn_O_at ∈ lw_g := tg_of (tw_2 (List.mem_of_getElem? (i := 72) rfl)) rfl
theorem mw_313 : Cond.static yn_O_at ∈ lw_g := tg_of (tw_2 (List.mem_of_getElem? (i := 73) rfl)) rfl
theorem mw_314 : Cond.code yn_O_at prog_5_method_2_code 2 (Option.some Jvm.ClassFile.FieldType.int) ∈ lw_g := tg_of (tw_2 (List.mem_of_getElem? (i := 74) rfl)) rfl
theorem mw_315 : Cond.methodLink "BallotDeskLaw" 143 yn_D_changed ∈ lw_g := tg_of (tw_2 (List.mem_of_getElem? (i := 75) rfl)) rfl
theorem mw_316 : Cond.instanceMethod yn_D_changed ∈ lw_g := tg_of (tw_2 (List.mem_of_getElem? (i := 76) rfl)) rfl
theorem mw_317 : Cond.selects "BallotDesk" yn_D_changed yn_D_changed ∈ lw_g := tg_of (tw_2 (List.mem_of_getElem? (i := 77) rfl)) rfl
theorem mw_318 : Cond.code yn_D_changed prog_1_method_19_code 1 (Option.some Jvm.ClassFile.FieldType.int) ∈ lw_g := tg_of (tw_2 (List.mem_of_getElem? (i := 78) rfl)) rfl
theorem mw_319 : Cond.methodLink "BallotDeskLaw" 150 yn_D_witness ∈ lw_g := tg_of (tw_2 (List.mem_of_getElem? (i := 79) rfl)) rfl
theorem mw_320 : Cond.instanceMethod yn_D_witness ∈ lw_g := tg_of (tw_2 (List.mem_of_getElem? (i := 80) rfl)) rfl
theorem mw_321 : Cond.selects "BallotDesk" yn_D_witness yn_D_witness ∈ lw_g := tg_of (tw_2 (List.mem_of_getElem? (i := 81) rfl)) rfl
theorem mw_322 : Cond.code yn_D_witness prog_1_method_21_code 1 (Option.some Jvm.ClassFile.FieldType.int) ∈ lw_g := tg_of (tw_2 (List.mem_of_getElem? (i := 82) rfl)) rfl
theorem mw_323 : Cond.methodLink "BallotDeskLaw" 79 yn_L_candidates ∈ lw_g := tg_of (tw_2 (List.mem_of_getElem? (i := 83) rfl)) rfl
theorem mw_324 : Cond.static yn_L_candidates ∈ lw_g := tg_of (tw_2 (List.mem_of_getElem? (i := 84) rfl)) rfl
theorem mw_326 : Cond.classLink "BallotDeskLaw" 13 "java/lang/IllegalArgumentException" ∈ lw_g := tg_of (tw_2 (List.mem_of_getElem? (i := 86) rfl)) rfl
theorem mw_327 : Cond.methodLink "BallotDeskLaw" 7 yn_D_candidates ∈ lw_g := tg_of (tw_2 (List.mem_of_getElem? (i := 87) rfl)) rfl
theorem mw_328 : Cond.instanceMethod yn_D_candidates ∈ lw_g := tg_of (tw_2 (List.mem_of_getElem? (i := 88) rfl)) rfl
theorem mw_329 : Cond.selects "BallotDesk" yn_D_candidates yn_D_candidates ∈ lw_g := tg_of (tw_2 (List.mem_of_getElem? (i := 89) rfl)) rfl
theorem mw_330 : Cond.code yn_D_candidates prog_1_method_2_code 3 (Option.some Jvm.ClassFile.FieldType.int) ∈ lw_g := tg_of (tw_2 (List.mem_of_getElem? (i := 90) rfl)) rfl
theorem mw_331 : Cond.methodLink "BallotDesk" 39 yn_D_needArgument ∈ lw_g := tg_of (tw_2 (List.mem_of_getElem? (i := 91) rfl)) rfl
theorem mw_332 : Cond.static yn_D_needArgument ∈ lw_g := tg_of (tw_2 (List.mem_of_getElem? (i := 92) rfl)) rfl
theorem mw_333 : Cond.code yn_D_needArgument prog_1_method_30_code 1 (Option.none : Option Jvm.ClassFile.FieldType) ∈ lw_g := tg_of (tw_2 (List.mem_of_getElem? (i := 93) rfl)) rfl
theorem mw_334 : Cond.classLink "BallotDesk" 211 "java/lang/IllegalArgumentException" ∈ lw_g := tg_of (tw_2 (List.mem_of_getElem? (i := 94) rfl)) rfl
theorem mw_335 : Cond.instantiable "java/lang/IllegalArgumentException" 6 ∈ lw_g := tg_of (tw_2 (List.mem_of_getElem? (i := 95) rfl)) rfl
theorem mw_343 : Cond.selects "java/lang/IllegalArgumentException" ⟨"java/lang/Throwable", "fillInStackTrace", "(I)Ljava/lang/Throwable;"⟩ ⟨"java/lang/Throwable", "fillInStackTrace", "(I)Ljava/lang/Throwable;"⟩ ∈ lw_g := tg_of (tw_2 (List.mem_of_getElem? (i := 103) rfl)) rfl
theorem mw_344 : Cond.selects "java/lang/IllegalArgumentException" ⟨"java/lang/Throwable", "fillInStackTrace", "()Ljava/lang/Throwable;"⟩ ⟨"java/lang/Throwable", "fillInStackTrace", "()Ljava/lang/Throwable;"⟩ ∈ lw_g := tg_of (tw_2 (List.mem_of_getElem? (i := 104) rfl)) rfl
theorem mw_355 : Cond.fieldLink "java/lang/Throwable" 198 "java/lang/Throwable" "backtrace" "Ljava/lang/Object;" ∈ lw_g := tg_of (tw_2 (List.mem_of_getElem? (i := 115) rfl)) rfl
theorem mw_357 : Cond.instanceMethod ⟨"java/lang/Throwable", "<init>", "()V"⟩ ∈ lw_g := tg_of (tw_2 (List.mem_of_getElem? (i := 117) rfl)) rfl
theorem mw_358 : Cond.code ⟨"java/lang/Throwable", "<init>", "()V"⟩ prog_21_method_1_code 1 (Option.none : Option Jvm.ClassFile.FieldType) ∈ lw_g := tg_of (tw_2 (List.mem_of_getElem? (i := 118) rfl)) rfl
theorem mw_359 : Cond.methodLink "java/lang/Throwable" 1 ⟨"java/lang/Object", "<init>", "()V"⟩ ∈ lw_g := tg_of (tw_2 (List.mem_of_getElem? (i := 119) rfl)) rfl
theorem mw_360 : Cond.fieldLink "java/lang/Throwable" 13 "java/lang/Throwable" "UNASSIGNED_STACK" "[Ljava/lang/StackTraceElement;" ∈ lw_g := tg_of (tw_2 (List.mem_of_getElem? (i := 120) rfl)) rfl
theorem mw_362 : Cond.fieldLink "java/lang/Throwable" 20 "java/lang/Throwable" "SUPPRESSED_SENTINEL" "Ljava/util/List;" ∈ lw_g := tg_of (tw_2 (List.mem_of_getElem? (i := 122) rfl)) rfl
theorem mw_364 : Cond.methodLink "java/lang/Throwable" 27 ⟨"java/lang/Throwable", "fillInStackTrace", "()Ljava/lang/Throwable;"⟩ ∈ lw_g := tg_of (tw_2 (List.mem_of_getElem? (i := 124) rfl)) rfl
theorem mw_365 : Cond.instanceMethod ⟨"java/lang/Throwable", "fillInStackTrace", "()Ljava/lang/Throwable;"⟩ ∈ lw_g := tg_of (tw_2 (List.mem_of_getElem? (i := 125) rfl)) rfl
theorem mw_367 : Cond.selects "java/lang/IllegalStateException" ⟨"java/lang/Throwable", "fillInStackTrace", "()Ljava/lang/Throwable;"⟩ ⟨"java/lang/Throwable", "fillInStackTrace", "()Ljava/lang/Throwable;"⟩ ∈ lw_g := tg_of (tw_2 (List.mem_of_getElem? (i := 127) rfl)) rfl
theorem mw_368 : Cond.selects "java/util/NoSuchElementException" ⟨"java/lang/Throwable", "fillInStackTrace", "()Ljava/lang/Throwable;"⟩ ⟨"java/lang/Throwable", "fillInStackTrace", "()Ljava/lang/Throwable;"⟩ ∈ lw_g := tg_of (tw_2 (List.mem_of_getElem? (i := 128) rfl)) rfl
theorem mw_370 : Cond.methodLink "java/lang/Throwable" 202 ⟨"java/lang/Throwable", "fillInStackTrace", "(I)Ljava/lang/Throwable;"⟩ ∈ lw_g := tg_of (tw_2 (List.mem_of_getElem? (i := 130) rfl)) rfl
theorem mw_372 : Cond.instanceMethod ⟨"java/lang/Throwable", "fillInStackTrace", "(I)Ljava/lang/Throwable;"⟩ ∈ lw_g := tg_of (tw_2 (List.mem_of_getElem? (i := 132) rfl)) rfl
theorem mw_373 : Cond.instantiable "java/lang/Throwable" 6 ∈ lw_g := tg_of (tw_2 (List.mem_of_getElem? (i := 133) rfl)) rfl
theorem mw_374 : Cond.native ⟨"java/lang/Throwable", "fillInStackTrace", "(I)Ljava/lang/Throwable;"⟩ ∈ lw_g := tg_of (tw_2 (List.mem_of_getElem? (i := 134) rfl)) rfl
theorem mw_375 : Cond.methodLink "BallotDesk" 213 ⟨"java/lang/IllegalArgumentException", "<init>", "()V"⟩ ∈ lw_g := tg_of (tw_2 (List.mem_of_getElem? (i := 135) rfl)) rfl
theorem mw_376 : Cond.instanceMethod ⟨"java/lang/IllegalArgumentException", "<init>", "()V"⟩ ∈ lw_g := tg_of (tw_2 (List.mem_of_getElem? (i := 136) rfl)) rfl
theorem mw_377 : Cond.code ⟨"java/lang/IllegalArgumentException", "<init>", "()V"⟩ prog_15_method_1_code 1 (Option.none : Option Jvm.ClassFile.FieldType) ∈ lw_g := tg_of (tw_2 (List.mem_of_getElem? (i := 137) rfl)) rfl
theorem mw_378 : Cond.methodLink "java/lang/IllegalArgumentException" 1 ⟨"java/lang/RuntimeException", "<init>", "()V"⟩ ∈ lw_g := tg_of (tw_2 (List.mem_of_getElem? (i := 138) rfl)) rfl
theorem mw_379 : Cond.instanceMethod ⟨"java/lang/RuntimeException", "<init>", "()V"⟩ ∈ lw_g := tg_of (tw_2 (List.mem_of_getElem? (i := 139) rfl)) rfl
theorem mw_380 : Cond.code ⟨"java/lang/RuntimeException", "<init>", "()V"⟩ prog_19_method_1_code 1 (Option.none : Option Jvm.ClassFile.FieldType) ∈ lw_g := tg_of (tw_2 (List.mem_of_getElem? (i := 140) rfl)) rfl
theorem mw_381 : Cond.methodLink "java/lang/RuntimeException" 1 ⟨"java/lang/Exception", "<init>", "()V"⟩ ∈ lw_g := tg_of (tw_2 (List.mem_of_getElem? (i := 141) rfl)) rfl
theorem mw_382 : Cond.instanceMethod ⟨"java/lang/Exception", "<init>", "()V"⟩ ∈ lw_g := tg_of (tw_2 (List.mem_of_getElem? (i := 142) rfl)) rfl
theorem mw_383 : Cond.code ⟨"java/lang/Exception", "<init>", "()V"⟩ prog_14_method_1_code 1 (Option.none : Option Jvm.ClassFile.FieldType) ∈ lw_g := tg_of (tw_2 (List.mem_of_getElem? (i := 143) rfl)) rfl
theorem mw_384 : Cond.methodLink "java/lang/Exception" 1 ⟨"java/lang/Throwable", "<init>", "()V"⟩ ∈ lw_g := tg_of (tw_2 (List.mem_of_getElem? (i := 144) rfl)) rfl
theorem mw_385 : Cond.fieldLink "java/lang/Throwable" 198 "java/lang/Throwable" "backtrace" "Ljava/lang/Object;" ∈ lw_g := tg_of (tw_2 (List.mem_of_getElem? (i := 145) rfl)) rfl
theorem mw_386 : Cond.fieldLink "java/lang/Throwable" 7 "java/lang/Throwable" "cause" "Ljava/lang/Throwable;" ∈ lw_g := tg_of (tw_2 (List.mem_of_getElem? (i := 146) rfl)) rfl
theorem mw_387 : Cond.fieldLink "java/lang/Throwable" 17 "java/lang/Throwable" "stackTrace" "[Ljava/lang/StackTraceElement;" ∈ lw_g := tg_of (tw_2 (List.mem_of_getElem? (i := 147) rfl)) rfl
theorem mw_388 : Cond.fieldLink "java/lang/Throwable" 24 "java/lang/Throwable" "suppressedExceptions" "Ljava/util/List;" ∈ lw_g := tg_of (tw_2 (List.mem_of_getElem? (i := 148) rfl)) rfl
theorem mw_397 : Cond.methodLink "BallotDeskLaw" 89 yn_L_ballot ∈ lw_g := tg_of (tw_2 (List.mem_of_getElem? (i := 157) rfl)) rfl
theorem mw_398 : Cond.static yn_L_ballot ∈ lw_g := tg_of (tw_2 (List.mem_of_getElem? (i := 158) rfl)) rfl
theorem mw_400 : Cond.classLink "BallotDeskLaw" 19 "java/lang/IllegalStateException" ∈ lw_g := tg_of (tw_2 (List.mem_of_getElem? (i := 160) rfl)) rfl
theorem mw_401 : Cond.methodLink "BallotDeskLaw" 15 yn_D_ballot ∈ lw_g := tg_of (tw_2 (List.mem_of_getElem? (i := 161) rfl)) rfl
theorem mw_402 : Cond.instanceMethod yn_D_ballot ∈ lw_g := tg_of (tw_2 (List.mem_of_getElem? (i := 162) rfl)) rfl
theorem mw_403 : Cond.selects "BallotDesk" yn_D_ballot yn_D_ballot ∈ lw_g := tg_of (tw_2 (List.mem_of_getElem? (i := 163) rfl)) rfl
theorem mw_404 : Cond.code yn_D_ballot prog_1_method_3_code 3 (Option.some Jvm.ClassFile.FieldType.int) ∈ lw_g := tg_of (tw_2 (List.mem_of_getElem? (i := 164) rfl)) rfl
theorem mw_405 : Cond.methodLink "BallotDesk" 46 yn_O_isOne ∈ lw_g := tg_of (tw_2 (List.mem_of_getElem? (i := 165) rfl)) rfl
theorem mw_406 : Cond.static yn_O_isOne ∈ lw_g := tg_of (tw_2 (List.mem_of_getElem? (i := 166) rfl)) rfl
theorem mw_407 : Cond.code yn_O_isOne prog_5_method_3_code 4 (Option.some Jvm.ClassFile.FieldType.boolean) ∈ lw_g := tg_of (tw_2 (List.mem_of_getElem? (i := 167) rfl)) rfl
theorem mw_408 : Cond.methodLink "BallotDesk$Order" 7 yn_O_at ∈ lw_g := tg_of (tw_2 (List.mem_of_getElem? (i := 168) rfl)) rfl
theorem mw_409 : Cond.methodLink "BallotDesk" 52 yn_D_isAmount ∈ lw_g := tg_of (tw_2 (List.mem_of_getElem? (i := 169) rfl)) rfl
theorem mw_410 : Cond.static yn_D_isAmount ∈ lw_g := tg_of (tw_2 (List.mem_of_getElem? (i := 170) rfl)) rfl
theorem mw_411 : Cond.code yn_D_isAmount prog_1_method_28_code 1 (Option.some Jvm.ClassFile.FieldType.boolean) ∈ lw_g := tg_of (tw_2 (List.mem_of_getElem? (i := 171) rfl)) rfl
theorem mw_412 : Cond.constant "BallotDesk" 207 100000 ∈ lw_g := tg_of (tw_2 (List.mem_of_getElem? (i := 172) rfl)) rfl
theorem mw_413 : Cond.classLink "BallotDesk" 59 "java/lang/IllegalStateException" ∈ lw_g := tg_of (tw_2 (List.mem_of_getElem? (i := 173) rfl)) rfl
theorem mw_414 : Cond.instantiable "java/lang/IllegalStateException" 6 ∈ lw_g := tg_of (tw_2 (List.mem_of_getElem? (i := 174) rfl)) rfl
theorem mw_416 : Cond.selects "java/lang/IllegalStateException" ⟨"java/lang/Throwable", "fillInStackTrace", "(I)Ljava/lang/Throwable;"⟩ ⟨"java/lang/Throwable", "fillInStackTrace", "(I)Ljava/lang/Throwable;"⟩ ∈ lw_g := tg_of (tw_2 (List.mem_of_getElem? (i := 176) rfl)) rfl
theorem mw_422 : Cond.methodLink "BallotDesk" 61 ⟨"java/lang/IllegalStateException", "<init>", "()V"⟩ ∈ lw_g := tg_of (tw_2 (List.mem_of_getElem? (i := 182) rfl)) rfl
theorem mw_423 : Cond.instanceMethod ⟨"java/lang/IllegalStateException", "<init>", "()V"⟩ ∈ lw_g := tg_of (tw_2 (List.mem_of_getElem? (i := 183) rfl)) rfl
theorem mw_424 : Cond.code ⟨"java/lang/IllegalStateException", "<init>", "()V"⟩ prog_16_method_1_code 1 (Option.none : Option Jvm.ClassFile.FieldType) ∈ lw_g := tg_of (tw_2 (List.mem_of_getElem? (i := 184) rfl)) rfl
theorem mw_425 : Cond.methodLink "java/lang/IllegalStateException" 1 ⟨"java/lang/RuntimeException", "<init>", "()V"⟩ ∈ lw_g := tg_of (tw_2 (List.mem_of_getElem? (i := 185) rfl)) rfl
theorem mw_428 : Cond.methodLink "BallotDesk" 62 yn_P_append ∈ lw_g := tg_of (tw_2 (List.mem_of_getElem? (i := 188) rfl)) rfl
theorem mw_429 : Cond.instanceMethod yn_P_append ∈ lw_g := tg_of (tw_2 (List.mem_of_getElem? (i := 189) rfl)) rfl
theorem mw_430 : Cond.selects "BallotDesk$Poll" yn_P_append yn_P_append ∈ lw_g := tg_of (tw_2 (List.mem_of_getElem? (i := 190) rfl)) rfl
theorem mw_431 : Cond.code yn_P_append prog_8_method_6_code 4 (Option.some Jvm.ClassFile.FieldType.int) ∈ lw_g := tg_of (tw_2 (List.mem_of_getElem? (i := 191) rfl)) rfl
theorem mw_432 : Cond.methodLink "BallotDesk$Poll" 71 yn_P_tally ∈ lw_g := tg_of (tw_2 (List.mem_of_getElem? (i := 192) rfl)) rfl
theorem mw_434 : Cond.instanceMethod yn_P_tally ∈ lw_g := tg_of (tw_2 (List.mem_of_getElem? (i := 194) rfl)) rfl
theorem mw_435 : Cond.code yn_P_tally prog_8_method_9_code 7 (Option.none : Option Jvm.ClassFile.FieldType) ∈ lw_g := tg_of (tw_2 (List.mem_of_getElem? (i := 195) rfl)) rfl
theorem mw_436 : Cond.methodLink "BallotDeskLaw" 93 yn_L_amount ∈ lw_g := tg_of (tw_2 (List.mem_of_getElem? (i := 196) rfl)) rfl
theorem mw_437 : Cond.static yn_L_amount ∈ lw_g := tg_of (tw_2 (List.mem_of_getElem? (i := 197) rfl)) rfl
theorem mw_439 : Cond.classLink "BallotDeskLaw" 24 "java/util/NoSuchElementException" ∈ lw_g := tg_of (tw_2 (List.mem_of_getElem? (i := 199) rfl)) rfl
theorem mw_440 : Cond.methodLink "BallotDeskLaw" 21 yn_D_amount ∈ lw_g := tg_of (tw_2 (List.mem_of_getElem? (i := 200) rfl)) rfl
theorem mw_441 : Cond.instanceMethod yn_D_amount ∈ lw_g := tg_of (tw_2 (List.mem_of_getElem? (i := 201) rfl)) rfl
theorem mw_442 : Cond.selects "BallotDesk" yn_D_amount yn_D_amount ∈ lw_g := tg_of (tw_2 (List.mem_of_getElem? (i := 202) rfl)) rfl
theorem mw_443 : Cond.code yn_D_amount prog_1_method_4_code 4 (Option.some Jvm.ClassFile.FieldType.int) ∈ lw_g := tg_of (tw_2 (List.mem_of_getElem? (i := 203) rfl)) rfl
theorem mw_444 : Cond.methodLink "BallotDesk" 66 yn_D_isType ∈ lw_g := tg_of (tw_2 (List.mem_of_getElem? (i := 204) rfl)) rfl
theorem mw_446 : Cond.instanceMethod yn_D_isType ∈ lw_g := tg_of (tw_2 (List.mem_of_getElem? (i := 206) rfl)) rfl
theorem mw_447 : Cond.code yn_D_isType prog_1_method_26_code 2 (Option.some Jvm.ClassFile.FieldType.boolean) ∈ lw_g := tg_of (tw_2 (List.mem_of_getElem? (i := 207) rfl)) rfl
theorem mw_448 : Cond.methodLink "BallotDesk" 69 yn_D_needElement ∈ lw_g := tg_of (tw_2 (List.mem_of_getElem? (i := 208) rfl)) rfl
theorem mw_449 : Cond.static yn_D_needElement ∈ lw_g := tg_of (tw_2 (List.mem_of_getElem? (i := 209) rfl)) rfl
theorem mw_450 : Cond.code yn_D_needElement prog_1_method_29_code 1 (Option.none : Option Jvm.ClassFile.FieldType) ∈ lw_g := tg_of (tw_2 (List.mem_of_getElem? (i := 210) rfl)) rfl
theorem mw_451 : Cond.classLink "BallotDesk" 208 "java/util/NoSuchElementException" ∈ lw_g := tg_of (tw_2 (List.mem_of_getElem? (i := 211) rfl)) rfl
theorem mw_452 : Cond.instantiable "java/util/NoSuchElementException" 6 ∈ lw_g := tg_of (tw_2 (List.mem_of_getElem? (i := 212) rfl)) rfl
theorem mw_454 : Cond.selects "java/util/NoSuchElementException" ⟨"java/lang/Throwable", "fillInStackTrace", "(I)Ljava/lang/Throwable;"⟩ ⟨"java/lang/Throwable", "fillInStackTrace", "(I)Ljava/lang/Throwable;"⟩ ∈ lw_g := tg_of (tw_2 (List.mem_of_getElem? (i := 214) rfl)) rfl
theorem mw_460 : Cond.methodLink "BallotDesk" 210 ⟨"java/util/NoSuchElementException", "<init>", "()V"⟩ ∈ lw_g := tg_of (tw_2 (List.mem_of_getElem? (i := 220) rfl)) rfl
theorem mw_461 : Cond.instanceMethod ⟨"java/util/NoSuchElementException", "<init>", "()V"⟩ ∈ lw_g := tg_of (tw_2 (List.mem_of_getElem? (i := 221) rfl)) rfl
theorem mw_462 : Cond.code ⟨"java/util/NoSuchElementException", "<init>", "()V"⟩ prog_23_method_1_code 1 (Option.none : Option Jvm.ClassFile.FieldType) ∈ lw_g := tg_of (tw_2 (List.mem_of_getElem? (i := 222) rfl)) rfl
theorem mw_463 : Cond.methodLink "java/util/NoSuchElementException" 1 ⟨"java/lang/RuntimeException", "<init>", "()V"⟩ ∈ lw_g := tg_of (tw_2 (List.mem_of_getElem? (i := 223) rfl)) rfl
theorem mw_466 : Cond.methodLink "BallotDesk" 79 yn_P_replace ∈ lw_g := tg_of (tw_2 (List.mem_of_getElem? (i := 226) rfl)) rfl
theorem mw_467 : Cond.instanceMethod yn_P_replace ∈ lw_g := tg_of (tw_2 (List.mem_of_getElem? (i := 227) rfl)) rfl
theorem mw_468 : Cond.selects "BallotDesk$Poll" yn_P_replace yn_P_replace ∈ lw_g := tg_of (tw_2 (List.mem_of_getElem? (i := 228) rfl)) rfl
theorem mw_469 : Cond.code yn_P_replace prog_8_method_7_code 4 (Option.none : Option Jvm.ClassFile.FieldType) ∈ lw_g := tg_of (tw_2 (List.mem_of_getElem? (i := 229) rfl)) rfl
theorem mw_470 : Cond.methodLink "BallotDeskLaw" 96 yn_L_drop ∈ lw_g := tg_of (tw_2 (List.mem_of_getElem? (i := 230) rfl)) rfl
theorem mw_471 : Cond.static yn_L_drop ∈ lw_g := tg_of (tw_2 (List.mem_of_getElem? (i := 231) rfl)) rfl
theorem mw_473 : Cond.methodLink "BallotDeskLaw" 26 yn_D_drop ∈ lw_g := tg_of (tw_2 (List.mem_of_getElem? (i := 233) rfl)) rfl
theorem mw_474 : Cond.instanceMethod yn_D_drop ∈ lw_g := tg_of (tw_2 (List.mem_of_getElem? (i := 234) rfl)) rfl
theorem mw_475 : Cond.selects "BallotDesk" yn_D_drop yn_D_drop ∈ lw_g := tg_of (tw_2 (List.mem_of_getElem? (i := 235) rfl)) rfl
theorem mw_476 : Cond.code yn_D_drop prog_1_method_5_code 2 (Option.some Jvm.ClassFile.FieldType.int) ∈ lw_g := tg_of (tw_2 (List.mem_of_getElem? (i := 236) rfl)) rfl
theorem mw_477 : Cond.methodLink "BallotDesk" 83 yn_P_remove ∈ lw_g := tg_of (tw_2 (List.mem_of_getElem? (i := 237) rfl)) rfl
theorem mw_478 : Cond.instanceMethod yn_P_remove ∈ lw_g := tg_of (tw_2 (List.mem_of_getElem? (i := 238) rfl)) rfl
theorem mw_479 : Cond.selects "BallotDesk$Poll" yn_P_remove yn_P_remove ∈ lw_g := tg_of (tw_2 (List.mem_of_getElem? (i := 239) rfl)) rfl
theorem mw_480 : Cond.code yn_P_remove prog_8_method_8_code 3 (Option.none : Option Jvm.ClassFile.FieldType) ∈ lw_g := tg_of (tw_3 (List.mem_of_getElem? (i := 0) rfl)) rfl
theorem mw_481 : Cond.methodLink "BallotDeskLaw" 99 yn_L_tieOrder ∈ lw_g := tg_of (tw_3 (List.mem_of_getElem? (i := 1) rfl)) rfl
theorem mw_482 : Cond.static yn_L_tieOrder ∈ lw_g := tg_of (tw_3 (List.mem_of_getElem? (i := 2) rfl)) rfl
theorem mw_484 : Cond.methodLink "BallotDeskLaw" 29 yn_D_tieOrder ∈ lw_g := tg_of (tw_3 (List.mem_of_getElem? (i := 4) rfl)) rfl
theorem mw_485 : Cond.instanceMethod yn_D_tieOrder ∈ lw_g := tg_of (tw_3 (List.mem_of_getElem? (i := 5) rfl)) rfl
theorem mw_486 : Cond.selects "BallotDesk" yn_D_tieOrder yn_D_tieOrder ∈ lw_g := tg_of (tw_3 (List.mem_of_getElem? (i := 6) rfl)) rfl
theorem mw_487 : Cond.code yn_D_tieOrder prog_1_method_6_code 3 (Option.some Jvm.ClassFile.FieldType.int) ∈ lw_g := tg_of (tw_3 (List.mem_of_getElem? (i := 7) rfl)) rfl
theorem mw_488 : Cond.methodLink "BallotDeskLaw" 102 yn_L_agenda ∈ lw_g := tg_of (tw_3 (List.mem_of_getElem? (i := 8) rfl)) rfl
theorem mw_489 : Cond.static yn_L_agenda ∈ lw_g := tg_of (tw_3 (List.mem_of_getElem? (i := 9) rfl)) rfl
theorem mw_491 : Cond.methodLink "BallotDeskLaw" 32 yn_D_agenda ∈ lw_g := tg_of (tw_3 (List.mem_of_getElem? (i := 11) rfl)) rfl
theorem mw_492 : Cond.instanceMethod yn_D_agenda ∈ lw_g := tg_of (tw_3 (List.mem_of_getElem? (i := 12) rfl)) rfl
theorem mw_493 : Cond.selects "BallotDesk" yn_D_agenda yn_D_agenda ∈ lw_g := tg_of (tw_3 (List.mem_of_getElem? (i := 13) rfl)) rfl
theorem mw_494 : Cond.code yn_D_agenda prog_1_method_7_code 3 (Option.some Jvm.ClassFile.FieldType.int) ∈ lw_g := tg_of (tw_3 (List.mem_of_getElem? (i := 14) rfl)) rfl
theorem mw_495 : Cond.methodLink "BallotDeskLaw" 105 yn_L_weight ∈ lw_g := tg_of (tw_3 (List.mem_of_getElem? (i := 15) rfl)) rfl
theorem mw_496 : Cond.static yn_L_weight ∈ lw_g := tg_of (tw_3 (List.mem_of_getElem? (i := 16) rfl)) rfl
theorem mw_498 : Cond.methodLink "BallotDeskLaw" 35 yn_D_weight ∈ lw_g := tg_of (tw_3 (List.mem_of_getElem? (i := 18) rfl)) rfl
theorem mw_499 : Cond.instanceMethod yn_D_weight ∈ lw_g := tg_of (tw_3 (List.mem_of_getElem? (i := 19) rfl)) rfl
theorem mw_500 : Cond.selects "BallotDesk" yn_D_weight yn_D_weight ∈ lw_g := tg_of (tw_3 (List.mem_of_getElem? (i := 20) rfl)) rfl
theorem mw_501 : Cond.code yn_D_weight prog_1_method_8_code 4 (Option.some Jvm.ClassFile.FieldType.int) ∈ lw_g := tg_of (tw_3 (List.mem_of_getElem? (i := 21) rfl)) rfl
theorem mw_502 : Cond.methodLink "BallotDeskLaw" 108 yn_L_winners ∈ lw_g := tg_of (tw_3 (List.mem_of_getElem? (i := 22) rfl)) rfl
theorem mw_503 : Cond.static yn_L_winners ∈ lw_g := tg_of (tw_3 (List.mem_of_getElem? (i := 23) rfl)) rfl
theorem mw_505 : Cond.methodLink "BallotDeskLaw" 38 yn_D_winners ∈ lw_g := tg_of (tw_3 (List.mem_of_getElem? (i := 25) rfl)) rfl
theorem mw_506 : Cond.instanceMethod yn_D_winners ∈ lw_g := tg_of (tw_3 (List.mem_of_getElem? (i := 26) rfl)) rfl
theorem mw_507 : Cond.selects "BallotDesk" yn_D_winners yn_D_winners ∈ lw_g := tg_of (tw_3 (List.mem_of_getElem? (i := 27) rfl)) rfl
theorem mw_508 : Cond.code yn_D_winners prog_1_method_9_code 2 (Option.some Jvm.ClassFile.FieldType.int) ∈ lw_g := tg_of (tw_3 (List.mem_of_getElem? (i := 28) rfl)) rfl
theorem mw_509 : Cond.methodLink "BallotDesk" 95 yn_D_isRule ∈ lw_g := tg_of (tw_3 (List.mem_of_getElem? (i := 29) rfl)) rfl
theorem mw_510 : Cond.static yn_D_isRule ∈ lw_g := tg_of (tw_3 (List.mem_of_getElem? (i := 30) rfl)) rfl
theorem mw_511 : Cond.code yn_D_isRule prog_1_method_27_code 1 (Option.some Jvm.ClassFile.FieldType.boolean) ∈ lw_g := tg_of (tw_3 (List.mem_of_getElem? (i := 31) rfl)) rfl
theorem mw_512 : Cond.methodLink "BallotDesk" 98 yn_R_winnerSet ∈ lw_g := tg_of (tw_3 (List.mem_of_getElem? (i := 32) rfl)) rfl
theorem mw_513 : Cond.instanceMethod yn_R_winnerSet ∈ lw_g := tg_of (tw_3 (List.mem_of_getElem? (i := 33) rfl)) rfl
theorem mw_514 : Cond.selects "BallotDesk$Rules" yn_R_winnerSet yn_R_winnerSet ∈ lw_g := tg_of (tw_3 (List.mem_of_getElem? (i := 34) rfl)) rfl
theorem mw_515 : Cond.code yn_R_winnerSet prog_9_method_3_code 3 (Option.some Jvm.ClassFile.FieldType.int) ∈ lw_g := tg_of (tw_3 (List.mem_of_getElem? (i := 35) rfl)) rfl
theorem mw_516 : Cond.methodLink "BallotDesk$Rules" 53 yn_R_runoff ∈ lw_g := tg_of (tw_3 (List.mem_of_getElem? (i := 36) rfl)) rfl
theorem mw_517 : Cond.static yn_R_runoff ∈ lw_g := tg_of (tw_3 (List.mem_of_getElem? (i := 37) rfl)) rfl
theorem mw_518 : Cond.code yn_R_runoff prog_9_method_4_code 4 (Option.some Jvm.ClassFile.FieldType.int) ∈ lw_g := tg_of (tw_3 (List.mem_of_getElem? (i := 38) rfl)) rfl
theorem mw_519 : Cond.methodLink "BallotDesk$Rules" 75 yn_R_mayMeet ∈ lw_g := tg_of (tw_3 (List.mem_of_getElem? (i := 39) rfl)) rfl
theorem mw_520 : Cond.static yn_R_mayMeet ∈ lw_g := tg_of (tw_3 (List.mem_of_getElem? (i := 40) rfl)) rfl
theorem mw_521 : Cond.code yn_R_mayMeet prog_9_method_5_code 5 (Option.some Jvm.ClassFile.FieldType.boolean) ∈ lw_g := tg_of (tw_3 (List.mem_of_getElem? (i := 41) rfl)) rfl
theorem mw_522 : Cond.methodLink "BallotDesk$Rules" 87 yn_JM_min ∈ lw_g := tg_of (tw_3 (List.mem_of_getElem? (i := 42) rfl)) rfl
theorem mw_523 : Cond.methodLink "BallotDesk$Rules" 79 yn_P_beats ∈ lw_g := tg_of (tw_3 (List.mem_of_getElem? (i := 43) rfl)) rfl
theorem mw_524 : Cond.instanceMethod yn_P_beats ∈ lw_g := tg_of (tw_3 (List.mem_of_getElem? (i := 44) rfl)) rfl
theorem mw_525 : Cond.selects "BallotDesk$Poll" yn_P_beats yn_P_beats ∈ lw_g := tg_of (tw_3 (List.mem_of_getElem? (i := 45) rfl)) rfl
theorem mw_526 : Cond.code yn_P_beats prog_8_method_10_code 3 (Option.some Jvm.ClassFile.FieldType.boolean) ∈ lw_g := tg_of (tw_3 (List.mem_of_getElem? (i := 46) rfl)) rfl
theorem mw_527 : Cond.methodLink "BallotDesk$Rules" 57 yn_E_winnerSet ∈ lw_g := tg_of (tw_3 (List.mem_of_getElem? (i := 47) rfl)) rfl
theorem mw_528 : Cond.instanceMethod yn_E_winnerSet ∈ lw_g := tg_of (tw_3 (List.mem_of_getElem? (i := 48) rfl)) rfl
theorem mw_529 : Cond.selects "BallotDesk$Elimination" yn_E_winnerSet yn_E_winnerSet ∈ lw_g := tg_of (tw_3 (List.mem_of_getElem? (i := 49) rfl)) rfl
theorem mw_530 : Cond.code yn_E_winnerSet prog_3_method_2_code 4 (Option.some Jvm.ClassFile.FieldType.int) ∈ lw_g := tg_of (tw_3 (List.mem_of_getElem? (i := 50) rfl)) rfl
theorem mw_531 : Cond.methodLink "BallotDesk$Rules" 59 yn_H_winnerSet ∈ lw_g := tg_of (tw_3 (List.mem_of_getElem? (i := 51) rfl)) rfl
theorem mw_532 : Cond.instanceMethod yn_H_winnerSet ∈ lw_g := tg_of (tw_3 (List.mem_of_getElem? (i := 52) rfl)) rfl
theorem mw_533 : Cond.selects "BallotDesk$Paths" yn_H_winnerSet yn_H_winnerSet ∈ lw_g := tg_of (tw_3 (List.mem_of_getElem? (i := 53) rfl)) rfl
theorem mw_534 : Cond.code yn_H_winnerSet prog_7_method_4_code 5 (Option.some Jvm.ClassFile.FieldType.int) ∈ lw_g := tg_of (tw_3 (List.mem_of_getElem? (i := 54) rfl)) rfl
theorem mw_535 : Cond.methodLink "BallotDesk$Paths" 42 yn_H_measure ∈ lw_g := tg_of (tw_3 (List.mem_of_getElem? (i := 55) rfl)) rfl
theorem mw_536 : Cond.instanceMethod yn_H_measure ∈ lw_g := tg_of (tw_3 (List.mem_of_getElem? (i := 56) rfl)) rfl
theorem mw_537 : Cond.selects "BallotDesk$Paths" yn_H_measure yn_H_measure ∈ lw_g := tg_of (tw_3 (List.mem_of_getElem? (i := 57) rfl)) rfl
theorem mw_538 : Cond.code yn_H_measure prog_7_method_2_code 4 (Option.none : Option Jvm.ClassFile.FieldType) ∈ lw_g := tg_of (tw_3 (List.mem_of_getElem? (i := 58) rfl)) rfl
theorem mw_539 : Cond.methodLink "BallotDesk$Paths" 22 yn_P_beats ∈ lw_g := tg_of (tw_3 (List.mem_of_getElem? (i := 59) rfl)) rfl
theorem mw_540 : Cond.methodLink "BallotDesk$Paths" 29 yn_H_widen ∈ lw_g := tg_of (tw_3 (List.mem_of_getElem? (i := 60) rfl)) rfl
theorem mw_542 : Cond.instanceMethod yn_H_widen ∈ lw_g := tg_of (tw_3 (List.mem_of_getElem? (i := 62) rfl)) rfl
theorem mw_543 : Cond.code yn_H_widen prog_7_method_3_code 6 (Option.none : Option Jvm.ClassFile.FieldType) ∈ lw_g := tg_of (tw_3 (List.mem_of_getElem? (i := 63) rfl)) rfl
theorem mw_544 : Cond.methodLink "BallotDesk$Paths" 33 yn_JM_min ∈ lw_g := tg_of (tw_3 (List.mem_of_getElem? (i := 64) rfl)) rfl
theorem mw_545 : Cond.methodLink "BallotDesk$Paths" 39 yn_JM_max ∈ lw_g := tg_of (tw_3 (List.mem_of_getElem? (i := 65) rfl)) rfl
theorem mw_546 : Cond.static yn_JM_max ∈ lw_g := tg_of (tw_3 (List.mem_of_getElem? (i := 66) rfl)) rfl
theorem mw_547 : Cond.code yn_JM_max prog_18_method_65_code 2 (Option.some Jvm.ClassFile.FieldType.int) ∈ lw_g := tg_of (tw_3 (List.mem_of_getElem? (i := 67) rfl)) rfl
theorem mw_548 : Cond.methodLink "BallotDesk$Paths" 46 yn_P_everyone ∈ lw_g := tg_of (tw_3 (List.mem_of_getElem? (i := 68) rfl)) rfl
theorem mw_549 : Cond.methodLink "BallotDesk$Rules" 60 yn_K_winnerSet ∈ lw_g := tg_of (tw_3 (List.mem_of_getElem? (i := 69) rfl)) rfl
theorem mw_550 : Cond.instanceMethod yn_K_winnerSet ∈ lw_g := tg_of (tw_3 (List.mem_of_getElem? (i := 70) rfl)) rfl
theorem mw_551 : Cond.selects "BallotDesk$Locks" yn_K_winnerSet yn_K_winnerSet ∈ lw_g := tg_of (tw_3 (List.mem_of_getElem? (i := 71) rfl)) rfl
theorem mw_552 : Cond.code yn_K_winnerSet prog_4_method_2_code 6 (Option.some Jvm.ClassFile.FieldType.int) ∈ lw_g := tg_of (tw_3 (List.mem_of_getElem? (i := 72) rfl)) rfl
theorem mw_553 : Cond.methodLink "BallotDesk$Locks" 18 yn_K_collect ∈ lw_g := tg_of (tw_3 (List.mem_of_getElem? (i := 73) rfl)) rfl
theorem mw_555 : Cond.instanceMethod yn_K_collect ∈ lw_g := tg_of (tw_3 (List.mem_of_getElem? (i := 75) rfl)) rfl
theorem mw_556 : Cond.code yn_K_collect prog_4_method_3_code 6 (Option.none : Option Jvm.ClassFile.FieldType) ∈ lw_g := tg_of (tw_3 (List.mem_of_getElem? (i := 76) rfl)) rfl
theorem mw_557 : Cond.methodLink "BallotDesk$Locks" 41 yn_O_at ∈ lw_g := tg_of (tw_3 (List.mem_of_getElem? (i := 77) rfl)) rfl
theorem mw_558 : Cond.methodLink "BallotDesk$Locks" 54 yn_P_beats ∈ lw_g := tg_of (tw_3 (List.mem_of_getElem? (i := 78) rfl)) rfl
theorem mw_559 : Cond.methodLink "BallotDesk$Locks" 62 yn_K_insert ∈ lw_g := tg_of (tw_3 (List.mem_of_getElem? (i := 79) rfl)) rfl
theorem mw_561 : Cond.instanceMethod yn_K_insert ∈ lw_g := tg_of (tw_3 (List.mem_of_getElem? (i := 81) rfl)) rfl
theorem mw_562 : Cond.code yn_K_insert prog_4_method_4_code 3 (Option.none : Option Jvm.ClassFile.FieldType) ∈ lw_g := tg_of (tw_3 (List.mem_of_getElem? (i := 82) rfl)) rfl
theorem mw_563 : Cond.methodLink "BallotDesk$Locks" 22 yn_JA_fill ∈ lw_g := tg_of (tw_3 (List.mem_of_getElem? (i := 83) rfl)) rfl
theorem mw_564 : Cond.methodLink "BallotDesk$Locks" 28 yn_P_everyone ∈ lw_g := tg_of (tw_3 (List.mem_of_getElem? (i := 84) rfl)) rfl
theorem mw_565 : Cond.methodLink "BallotDesk$Locks" 50 yn_K_lock ∈ lw_g := tg_of (tw_3 (List.mem_of_getElem? (i := 85) rfl)) rfl
theorem mw_567 : Cond.instanceMethod yn_K_lock ∈ lw_g := tg_of (tw_3 (List.mem_of_getElem? (i := 87) rfl)) rfl
theorem mw_568 : Cond.code yn_K_lock prog_4_method_5_code 6 (Option.none : Option Jvm.ClassFile.FieldType) ∈ lw_g := tg_of (tw_3 (List.mem_of_getElem? (i := 88) rfl)) rfl
theorem mw_569 : Cond.methodLink "BallotDesk$Rules" 61 yn_A_winnerSet ∈ lw_g := tg_of (tw_3 (List.mem_of_getElem? (i := 89) rfl)) rfl
theorem mw_570 : Cond.instanceMethod yn_A_winnerSet ∈ lw_g := tg_of (tw_3 (List.mem_of_getElem? (i := 90) rfl)) rfl
theorem mw_571 : Cond.selects "BallotDesk$Agreement" yn_A_winnerSet yn_A_winnerSet ∈ lw_g := tg_of (tw_3 (List.mem_of_getElem? (i := 91) rfl)) rfl
theorem mw_572 : Cond.code yn_A_winnerSet prog_2_method_3_code 2 (Option.some Jvm.ClassFile.FieldType.int) ∈ lw_g := tg_of (tw_3 (List.mem_of_getElem? (i := 92) rfl)) rfl
theorem mw_573 : Cond.methodLink "BallotDesk$Rules" 62 yn_R_uncovered ∈ lw_g := tg_of (tw_3 (List.mem_of_getElem? (i := 93) rfl)) rfl
theorem mw_575 : Cond.instanceMethod yn_R_uncovered ∈ lw_g := tg_of (tw_3 (List.mem_of_getElem? (i := 95) rfl)) rfl
theorem mw_576 : Cond.code yn_R_uncovered prog_9_method_6_code 6 (Option.some Jvm.ClassFile.FieldType.int) ∈ lw_g := tg_of (tw_3 (List.mem_of_getElem? (i := 96) rfl)) rfl
theorem mw_577 : Cond.methodLink "BallotDesk$Rules" 93 yn_P_beatenBy ∈ lw_g := tg_of (tw_3 (List.mem_of_getElem? (i := 97) rfl)) rfl
theorem mw_578 : Cond.instanceMethod yn_P_beatenBy ∈ lw_g := tg_of (tw_3 (List.mem_of_getElem? (i := 98) rfl)) rfl
theorem mw_579 : Cond.selects "BallotDesk$Poll" yn_P_beatenBy yn_P_beatenBy ∈ lw_g := tg_of (tw_3 (List.mem_of_getElem? (i := 99) rfl)) rfl
theorem mw_580 : Cond.code yn_P_beatenBy prog_8_method_11_code 4 (Option.some Jvm.ClassFile.FieldType.int) ∈ lw_g := tg_of (tw_3 (List.mem_of_getElem? (i := 100) rfl)) rfl
theorem mw_581 : Cond.methodLink "BallotDesk$Poll" 78 yn_P_beats ∈ lw_g := tg_of (tw_3 (List.mem_of_getElem? (i := 101) rfl)) rfl
theorem mw_582 : Cond.methodLink "BallotDesk$Rules" 96 yn_P_everyone ∈ lw_g := tg_of (tw_3 (List.mem_of_getElem? (i := 102) rfl)) rfl
theorem mw_583 : Cond.methodLink "BallotDesk$Rules" 65 yn_R_lastToStay ∈ lw_g := tg_of (tw_3 (List.mem_of_getElem? (i := 103) rfl)) rfl
theorem mw_584 : Cond.static yn_R_lastToStay ∈ lw_g := tg_of (tw_3 (List.mem_of_getElem? (i := 104) rfl)) rfl
theorem mw_585 : Cond.code yn_R_lastToStay prog_9_method_7_code 4 (Option.some Jvm.ClassFile.FieldType.int) ∈ lw_g := tg_of (tw_3 (List.mem_of_getElem? (i := 105) rfl)) rfl
theorem mw_586 : Cond.methodLink "BallotDesk$Rules" 103 yn_O_at ∈ lw_g := tg_of (tw_3 (List.mem_of_getElem? (i := 106) rfl)) rfl
theorem mw_587 : Cond.methodLink "BallotDesk$Rules" 47 yn_P_firstInTie ∈ lw_g := tg_of (tw_3 (List.mem_of_getElem? (i := 107) rfl)) rfl
theorem mw_588 : Cond.methodLink "BallotDesk$Rules" 68 yn_C_winnerSet ∈ lw_g := tg_of (tw_3 (List.mem_of_getElem? (i := 108) rfl)) rfl
theorem mw_589 : Cond.static yn_C_winnerSet ∈ lw_g := tg_of (tw_3 (List.mem_of_getElem? (i := 109) rfl)) rfl
theorem mw_590 : Cond.code yn_C_winnerSet prog_10_method_4_code 9 (Option.some Jvm.ClassFile.FieldType.int) ∈ lw_g := tg_of (tw_3 (List.mem_of_getElem? (i := 110) rfl)) rfl
theorem mw_591 : Cond.methodLink "BallotDesk$Scores" 31 yn_C_of ∈ lw_g := tg_of (tw_3 (List.mem_of_getElem? (i := 111) rfl)) rfl
theorem mw_592 : Cond.static yn_C_of ∈ lw_g := tg_of (tw_3 (List.mem_of_getElem? (i := 112) rfl)) rfl
theorem mw_593 : Cond.code yn_C_of prog_10_method_3_code 3 (Option.some Jvm.ClassFile.FieldType.long) ∈ lw_g := tg_of (tw_3 (List.mem_of_getElem? (i := 113) rfl)) rfl
theorem mw_594 : Cond.methodLink "BallotDesk$Scores" 19 yn_C_points ∈ lw_g := tg_of (tw_3 (List.mem_of_getElem? (i := 114) rfl)) rfl
theorem mw_595 : Cond.static yn_C_points ∈ lw_g := tg_of (tw_3 (List.mem_of_getElem? (i := 115) rfl)) rfl
theorem mw_596 : Cond.code yn_C_points prog_10_method_5_code 5 (Option.some Jvm.ClassFile.FieldType.long) ∈ lw_g := tg_of (tw_3 (List.mem_of_getElem? (i := 116) rfl)) rfl
theorem mw_597 : Cond.methodLink "BallotDesk$Scores" 25 yn_C_greatestDefeat ∈ lw_g := tg_of (tw_3 (List.mem_of_getElem? (i := 117) rfl)) rfl
theorem mw_598 : Cond.static yn_C_greatestDefeat ∈ lw_g := tg_of (tw_3 (List.mem_of_getElem? (i := 118) rfl)) rfl
theorem mw_599 : Cond.code yn_C_greatestDefeat prog_10_method_6_code 4 (Option.some Jvm.ClassFile.FieldType.long) ∈ lw_g := tg_of (tw_3 (List.mem_of_getElem? (i := 119) rfl)) rfl
theorem mw_600 : Cond.methodLink "BallotDesk$Scores" 39 yn_P_beats ∈ lw_g := tg_of (tw_3 (List.mem_of_getElem? (i := 120) rfl)) rfl
theorem mw_601 : Cond.methodLink "BallotDesk$Scores" 46 yn_JM_max ∈ lw_g := tg_of (tw_3 (List.mem_of_getElem? (i := 121) rfl)) rfl
theorem mw_602 : Cond.methodLink "BallotDesk$Scores" 28 yn_C_wins ∈ lw_g := tg_of (tw_3 (List.mem_of_getElem? (i := 122) rfl)) rfl
theorem mw_603 : Cond.static yn_C_wins ∈ lw_g := tg_of (tw_3 (List.mem_of_getElem? (i := 123) rfl)) rfl
theorem mw_604 : Cond.code yn_C_wins prog_10_method_7_code 4 (Option.some Jvm.ClassFile.FieldType.long) ∈ lw_g := tg_of (tw_3 (List.mem_of_getElem? (i := 124) rfl)) rfl
theorem mw_605 : Cond.methodLink "BallotDeskLaw" 111 yn_L_winner ∈ lw_g := tg_of (tw_3 (List.mem_of_getElem? (i := 125) rfl)) rfl
theorem mw_606 : Cond.static yn_L_winner ∈ lw_g := tg_of (tw_3 (List.mem_of_getElem? (i := 126) rfl)) rfl
theorem mw_608 : Cond.methodLink "BallotDeskLaw" 41 yn_D_winner ∈ lw_g := tg_of (tw_3 (List.mem_of_getElem? (i := 128) rfl)) rfl
theorem mw_609 : Cond.instanceMethod yn_D_winner ∈ lw_g := tg_of (tw_3 (List.mem_of_getElem? (i := 129) rfl)) rfl
theorem mw_610 : Cond.selects "BallotDesk" yn_D_winner yn_D_winner ∈ lw_g := tg_of (tw_3 (List.mem_of_getElem? (i := 130) rfl)) rfl
theorem mw_611 : Cond.code yn_D_winner prog_1_method_10_code 2 (Option.some Jvm.ClassFile.FieldType.int) ∈ lw_g := tg_of (tw_3 (List.mem_of_getElem? (i := 131) rfl)) rfl
theorem mw_612 : Cond.methodLink "BallotDesk" 104 yn_R_theWinner ∈ lw_g := tg_of (tw_3 (List.mem_of_getElem? (i := 132) rfl)) rfl
theorem mw_613 : Cond.instanceMethod yn_R_theWinner ∈ lw_g := tg_of (tw_3 (List.mem_of_getElem? (i := 133) rfl)) rfl
theorem mw_614 : Cond.selects "BallotDesk$Rules" yn_R_theWinner yn_R_theWinner ∈ lw_g := tg_of (tw_3 (List.mem_of_getElem? (i := 134) rfl)) rfl
theorem mw_615 : Cond.code yn_R_theWinner prog_9_method_2_code 3 (Option.some Jvm.ClassFile.FieldType.int) ∈ lw_g := tg_of (tw_3 (List.mem_of_getElem? (i := 135) rfl)) rfl
theorem mw_616 : Cond.methodLink "BallotDesk$Rules" 43 yn_R_winnerSet ∈ lw_g := tg_of (tw_3 (List.mem_of_getElem? (i := 136) rfl)) rfl
theorem mw_617 : Cond.methodLink "BallotDeskLaw" 114 yn_L_score ∈ lw_g := tg_of (tw_3 (List.mem_of_getElem? (i := 137) rfl)) rfl
theorem mw_618 : Cond.static yn_L_score ∈ lw_g := tg_of (tw_3 (List.mem_of_getElem? (i := 138) rfl)) rfl
theorem mw_620 : Cond.methodLink "BallotDeskLaw" 44 yn_D_score ∈ lw_g := tg_of (tw_3 (List.mem_of_getElem? (i := 140) rfl)) rfl
theorem mw_621 : Cond.instanceMethod yn_D_score ∈ lw_g := tg_of (tw_3 (List.mem_of_getElem? (i := 141) rfl)) rfl
theorem mw_622 : Cond.selects "BallotDesk" yn_D_score yn_D_score ∈ lw_g := tg_of (tw_3 (List.mem_of_getElem? (i := 142) rfl)) rfl
theorem mw_623 : Cond.code yn_D_score prog_1_method_11_code 3 (Option.some Jvm.ClassFile.FieldType.long) ∈ lw_g := tg_of (tw_3 (List.mem_of_getElem? (i := 143) rfl)) rfl
theorem mw_624 : Cond.methodLink "BallotDesk" 107 yn_D_isCandidate ∈ lw_g := tg_of (tw_3 (List.mem_of_getElem? (i := 144) rfl)) rfl
theorem mw_626 : Cond.instanceMethod yn_D_isCandidate ∈ lw_g := tg_of (tw_3 (List.mem_of_getElem? (i := 146) rfl)) rfl
theorem mw_627 : Cond.code yn_D_isCandidate prog_1_method_25_code 2 (Option.some Jvm.ClassFile.FieldType.boolean) ∈ lw_g := tg_of (tw_3 (List.mem_of_getElem? (i := 147) rfl)) rfl
theorem mw_628 : Cond.methodLink "BallotDesk" 110 yn_C_areKeptBy ∈ lw_g := tg_of (tw_3 (List.mem_of_getElem? (i := 148) rfl)) rfl
theorem mw_629 : Cond.static yn_C_areKeptBy ∈ lw_g := tg_of (tw_3 (List.mem_of_getElem? (i := 149) rfl)) rfl
theorem mw_630 : Cond.code yn_C_areKeptBy prog_10_method_2_code 1 (Option.some Jvm.ClassFile.FieldType.boolean) ∈ lw_g := tg_of (tw_3 (List.mem_of_getElem? (i := 150) rfl)) rfl
theorem mw_631 : Cond.methodLink "BallotDesk" 115 yn_C_of ∈ lw_g := tg_of (tw_3 (List.mem_of_getElem? (i := 151) rfl)) rfl
theorem mw_632 : Cond.methodLink "BallotDeskLaw" 117 yn_L_pair ∈ lw_g := tg_of (tw_3 (List.mem_of_getElem? (i := 152) rfl)) rfl
theorem mw_633 : Cond.static yn_L_pair ∈ lw_g := tg_of (tw_3 (List.mem_of_getElem? (i := 153) rfl)) rfl
theorem mw_635 : Cond.methodLink "BallotDeskLaw" 48 yn_D_pair ∈ lw_g := tg_of (tw_3 (List.mem_of_getElem? (i := 155) rfl)) rfl
theorem mw_636 : Cond.instanceMethod yn_D_pair ∈ lw_g := tg_of (tw_3 (List.mem_of_getElem? (i := 156) rfl)) rfl
theorem mw_637 : Cond.selects "BallotDesk" yn_D_pair yn_D_pair ∈ lw_g := tg_of (tw_3 (List.mem_of_getElem? (i := 157) rfl)) rfl
theorem mw_638 : Cond.code yn_D_pair prog_1_method_12_code 3 (Option.some Jvm.ClassFile.FieldType.int) ∈ lw_g := tg_of (tw_3 (List.mem_of_getElem? (i := 158) rfl)) rfl
theorem mw_639 : Cond.methodLink "BallotDeskLaw" 120 yn_L_path ∈ lw_g := tg_of (tw_3 (List.mem_of_getElem? (i := 159) rfl)) rfl
theorem mw_640 : Cond.static yn_L_path ∈ lw_g := tg_of (tw_3 (List.mem_of_getElem? (i := 160) rfl)) rfl
theorem mw_642 : Cond.methodLink "BallotDeskLaw" 51 yn_D_path ∈ lw_g := tg_of (tw_3 (List.mem_of_getElem? (i := 162) rfl)) rfl
theorem mw_643 : Cond.instanceMethod yn_D_path ∈ lw_g := tg_of (tw_3 (List.mem_of_getElem? (i := 163) rfl)) rfl
theorem mw_644 : Cond.selects "BallotDesk" yn_D_path yn_D_path ∈ lw_g := tg_of (tw_3 (List.mem_of_getElem? (i := 164) rfl)) rfl
theorem mw_645 : Cond.code yn_D_path prog_1_method_13_code 3 (Option.some Jvm.ClassFile.FieldType.int) ∈ lw_g := tg_of (tw_3 (List.mem_of_getElem? (i := 165) rfl)) rfl
theorem mw_646 : Cond.methodLink "BallotDesk" 127 yn_H_measure ∈ lw_g := tg_of (tw_3 (List.mem_of_getElem? (i := 166) rfl)) rfl
theorem mw_647 : Cond.methodLink "BallotDeskLaw" 127 yn_L_step ∈ lw_g := tg_of (tw_3 (List.mem_of_getElem? (i := 167) rfl)) rfl
theorem mw_648 : Cond.static yn_L_step ∈ lw_g := tg_of (tw_3 (List.mem_of_getElem? (i := 168) rfl)) rfl
theorem mw_650 : Cond.methodLink "BallotDeskLaw" 54 yn_D_step ∈ lw_g := tg_of (tw_3 (List.mem_of_getElem? (i := 170) rfl)) rfl
theorem mw_651 : Cond.instanceMethod yn_D_step ∈ lw_g := tg_of (tw_3 (List.mem_of_getElem? (i := 171) rfl)) rfl
theorem mw_652 : Cond.selects "BallotDesk" yn_D_step yn_D_step ∈ lw_g := tg_of (tw_3 (List.mem_of_getElem? (i := 172) rfl)) rfl
theorem mw_653 : Cond.code yn_D_step prog_1_method_15_code 2 (Option.some Jvm.ClassFile.FieldType.int) ∈ lw_g := tg_of (tw_3 (List.mem_of_getElem? (i := 173) rfl)) rfl
theorem mw_654 : Cond.methodLink "BallotDesk" 146 yn_E_goerAt ∈ lw_g := tg_of (tw_3 (List.mem_of_getElem? (i := 174) rfl)) rfl
theorem mw_655 : Cond.instanceMethod yn_E_goerAt ∈ lw_g := tg_of (tw_3 (List.mem_of_getElem? (i := 175) rfl)) rfl
theorem mw_656 : Cond.selects "BallotDesk$Elimination" yn_E_goerAt yn_E_goerAt ∈ lw_g := tg_of (tw_3 (List.mem_of_getElem? (i := 176) rfl)) rfl
theorem mw_657 : Cond.code yn_E_goerAt prog_3_method_4_code 5 (Option.some Jvm.ClassFile.FieldType.int) ∈ lw_g := tg_of (tw_3 (List.mem_of_getElem? (i := 177) rfl)) rfl
theorem mw_658 : Cond.methodLink "BallotDesk$Elimination" 37 yn_P_lastInTie ∈ lw_g := tg_of (tw_3 (List.mem_of_getElem? (i := 178) rfl)) rfl
theorem mw_659 : Cond.instanceMethod yn_P_lastInTie ∈ lw_g := tg_of (tw_3 (List.mem_of_getElem? (i := 179) rfl)) rfl
theorem mw_660 : Cond.selects "BallotDesk$Poll" yn_P_lastInTie yn_P_lastInTie ∈ lw_g := tg_of (tw_3 (List.mem_of_getElem? (i := 180) rfl)) rfl
theorem mw_661 : Cond.code yn_P_lastInTie prog_8_method_15_code 4 (Option.some Jvm.ClassFile.FieldType.int) ∈ lw_g := tg_of (tw_3 (List.mem_of_getElem? (i := 181) rfl)) rfl
theorem mw_662 : Cond.methodLink "BallotDeskLaw" 139 yn_L_change ∈ lw_g := tg_of (tw_3 (List.mem_of_getElem? (i := 182) rfl)) rfl
theorem mw_663 : Cond.static yn_L_change ∈ lw_g := tg_of (tw_3 (List.mem_of_getElem? (i := 183) rfl)) rfl
theorem mw_665 : Cond.methodLink "BallotDeskLaw" 57 yn_D_change ∈ lw_g := tg_of (tw_3 (List.mem_of_getElem? (i := 185) rfl)) rfl
theorem mw_666 : Cond.instanceMethod yn_D_change ∈ lw_g := tg_of (tw_3 (List.mem_of_getElem? (i := 186) rfl)) rfl
theorem mw_667 : Cond.selects "BallotDesk" yn_D_change yn_D_change ∈ lw_g := tg_of (tw_3 (List.mem_of_getElem? (i := 187) rfl)) rfl
theorem mw_668 : Cond.code yn_D_change prog_1_method_18_code 4 (Option.some Jvm.ClassFile.FieldType.int) ∈ lw_g := tg_of (tw_3 (List.mem_of_getElem? (i := 188) rfl)) rfl
theorem mw_669 : Cond.methodLink "BallotDesk" 162 yn_W_betterOrder ∈ lw_g := tg_of (tw_3 (List.mem_of_getElem? (i := 189) rfl)) rfl
theorem mw_670 : Cond.instanceMethod yn_W_betterOrder ∈ lw_g := tg_of (tw_3 (List.mem_of_getElem? (i := 190) rfl)) rfl
theorem mw_671 : Cond.selects "BallotDesk$WhatIf" yn_W_betterOrder yn_W_betterOrder ∈ lw_g := tg_of (tw_3 (List.mem_of_getElem? (i := 191) rfl)) rfl
theorem mw_672 : Cond.code yn_W_betterOrder prog_11_method_2_code 12 (Option.some Jvm.ClassFile.FieldType.int) ∈ lw_g := tg_of (tw_3 (List.mem_of_getElem? (i := 192) rfl)) rfl
theorem mw_673 : Cond.methodLink "BallotDesk$WhatIf" 35 yn_R_theWinner ∈ lw_g := tg_of (tw_3 (List.mem_of_getElem? (i := 193) rfl)) rfl
theorem mw_674 : Cond.methodLink "BallotDesk$WhatIf" 43 yn_O_placeOf ∈ lw_g := tg_of (tw_3 (List.mem_of_getElem? (i := 194) rfl)) rfl
theorem mw_675 : Cond.static yn_O_placeOf ∈ lw_g := tg_of (tw_3 (List.mem_of_getElem? (i := 195) rfl)) rfl
theorem mw_676 : Cond.code yn_O_placeOf prog_5_method_5_code 4 (Option.some Jvm.ClassFile.FieldType.int) ∈ lw_g := tg_of (tw_3 (List.mem_of_getElem? (i := 196) rfl)) rfl
theorem mw_677 : Cond.methodLink "BallotDesk$WhatIf" 52 yn_P_copy ∈ lw_g := tg_of (tw_3 (List.mem_of_getElem? (i := 197) rfl)) rfl
theorem mw_678 : Cond.instanceMethod yn_P_copy ∈ lw_g := tg_of (tw_3 (List.mem_of_getElem? (i := 198) rfl)) rfl
theorem mw_679 : Cond.selects "BallotDesk$Poll" yn_P_copy yn_P_copy ∈ lw_g := tg_of (tw_3 (List.mem_of_getElem? (i := 199) rfl)) rfl
theorem mw_680 : Cond.code yn_P_copy prog_8_method_4_code 3 (Option.none : Option Jvm.ClassFile.FieldType) ∈ lw_g := tg_of (tw_3 (List.mem_of_getElem? (i := 200) rfl)) rfl
theorem mw_681 : Cond.methodLink "BallotDesk$Poll" 57 ⟨"java/lang/System", "arraycopy", "(Ljava/lang/Object;ILjava/lang/Object;II)V"⟩ ∈ lw_g := tg_of (tw_3 (List.mem_of_getElem? (i := 201) rfl)) rfl
theorem mw_682 : Cond.static ⟨"java/lang/System", "arraycopy", "(Ljava/lang/Object;ILjava/lang/Object;II)V"⟩ ∈ lw_g := tg_of (tw_3 (List.mem_of_getElem? (i := 202) rfl)) rfl
theorem mw_683 : Cond.native ⟨"java/lang/System", "arraycopy", "(Ljava/lang/Object;ILjava/lang/Object;II)V"⟩ ∈ lw_g := tg_of (tw_3 (List.mem_of_getElem? (i := 203) rfl)) rfl
theorem mw_684 : Cond.methodLink "BallotDesk$Poll" 63 yn_P_append ∈ lw_g := tg_of (tw_3 (List.mem_of_getElem? (i := 204) rfl)) rfl
theorem mw_685 : Cond.methodLink "BallotDesk$WhatIf" 59 yn_P_replace ∈ lw_g := tg_of (tw_3 (List.mem_of_getElem? (i := 205) rfl)) rfl
theorem mw_686 : Cond.methodLink "BallotDesk$WhatIf" 63 yn_P_append ∈ lw_g := tg_of (tw_3 (List.mem_of_getElem? (i := 206) rfl)) rfl
theorem mw_687 : Cond.methodLink "BallotDesk$WhatIf" 67 yn_S_start ∈ lw_g := tg_of (tw_3 (List.mem_of_getElem? (i := 207) rfl)) rfl
theorem mw_688 : Cond.instanceMethod yn_S_start ∈ lw_g := tg_of (tw_3 (List.mem_of_getElem? (i := 208) rfl)) rfl
theorem mw_689 : Cond.selects "BallotDesk$Orders" yn_S_start yn_S_start ∈ lw_g := tg_of (tw_3 (List.mem_of_getElem? (i := 209) rfl)) rfl
theorem mw_690 : Cond.code yn_S_start prog_6_method_2_code 3 (Option.none : Option Jvm.ClassFile.FieldType) ∈ lw_g := tg_of (tw_3 (List.mem_of_getElem? (i := 210) rfl)) rfl
theorem mw_691 : Cond.methodLink "BallotDesk$WhatIf" 71 yn_S_asNumber ∈ lw_g := tg_of (tw_3 (List.mem_of_getElem? (i := 211) rfl)) rfl
theorem mw_692 : Cond.instanceMethod yn_S_asNumber ∈ lw_g := tg_of (tw_3 (List.mem_of_getElem? (i := 212) rfl)) rfl
theorem mw_693 : Cond.selects "BallotDesk$Orders" yn_S_asNumber yn_S_asNumber ∈ lw_g := tg_of (tw_3 (List.mem_of_getElem? (i := 213) rfl)) rfl
theorem mw_694 : Cond.code yn_S_asNumber prog_6_method_3_code 3 (Option.some Jvm.ClassFile.FieldType.int) ∈ lw_g := tg_of (tw_3 (List.mem_of_getElem? (i := 214) rfl)) rfl
theorem mw_695 : Cond.methodLink "BallotDesk$WhatIf" 75 yn_S_advance ∈ lw_g := tg_of (tw_3 (List.mem_of_getElem? (i := 215) rfl)) rfl
theorem mw_696 : Cond.instanceMethod yn_S_advance ∈ lw_g := tg_of (tw_3 (List.mem_of_getElem? (i := 216) rfl)) rfl
theorem mw_697 : Cond.selects "BallotDesk$Orders" yn_S_advance yn_S_advance ∈ lw_g := tg_of (tw_3 (List.mem_of_getElem? (i := 217) rfl)) rfl
theorem mw_698 : Cond.code yn_S_advance prog_6_method_4_code 5 (Option.some Jvm.ClassFile.FieldType.boolean) ∈ lw_g := tg_of (tw_3 (List.mem_of_getElem? (i := 218) rfl)) rfl
theorem mw_699 : Cond.methodLink "BallotDesk$Orders" 19 yn_S_swap ∈ lw_g := tg_of (tw_3 (List.mem_of_getElem? (i := 219) rfl)) rfl
theorem mw_701 : Cond.instanceMethod yn_S_swap ∈ lw_g := tg_of (tw_3 (List.mem_of_getElem? (i := 221) rfl)) rfl
theorem mw_702 : Cond.code yn_S_swap prog_6_method_5_code 4 (Option.none : Option Jvm.ClassFile.FieldType) ∈ lw_g := tg_of (tw_3 (List.mem_of_getElem? (i := 222) rfl)) rfl
theorem mw_703 : Cond.methodLink "BallotDeskLaw" 147 yn_L_property ∈ lw_g := tg_of (tw_3 (List.mem_of_getElem? (i := 223) rfl)) rfl
theorem mw_704 : Cond.static yn_L_property ∈ lw_g := tg_of (tw_3 (List.mem_of_getElem? (i := 224) rfl)) rfl
theorem mw_706 : Cond.methodLink "BallotDeskLaw" 61 yn_D_property ∈ lw_g := tg_of (tw_3 (List.mem_of_getElem? (i := 226) rfl)) rfl
theorem mw_707 : Cond.instanceMethod yn_D_property ∈ lw_g := tg_of (tw_3 (List.mem_of_getElem? (i := 227) rfl)) rfl
theorem mw_708 : Cond.selects "BallotDesk" yn_D_property yn_D_property ∈ lw_g := tg_of (tw_3 (List.mem_of_getElem? (i := 228) rfl)) rfl
theorem mw_709 : Cond.code yn_D_property prog_1_method_20_code 3 (Option.some Jvm.ClassFile.FieldType.boolean) ∈ lw_g := tg_of (tw_3 (List.mem_of_getElem? (i := 229) rfl)) rfl
theorem mw_710 : Cond.methodLink "BallotDesk" 169 yn_W_bestNotAlone ∈ lw_g := tg_of (tw_3 (List.mem_of_getElem? (i := 230) rfl)) rfl
theorem mw_711 : Cond.instanceMethod yn_W_bestNotAlone ∈ lw_g := tg_of (tw_3 (List.mem_of_getElem? (i := 231) rfl)) rfl
theorem mw_712 : Cond.selects "BallotDesk$WhatIf" yn_W_bestNotAlone yn_W_bestNotAlone ∈ lw_g := tg_of (tw_3 (List.mem_of_getElem? (i := 232) rfl)) rfl
theorem mw_713 : Cond.code yn_W_bestNotAlone prog_11_method_3_code 5 (Option.some Jvm.ClassFile.FieldType.int) ∈ lw_g := tg_of (tw_3 (List.mem_of_getElem? (i := 233) rfl)) rfl
theorem mw_714 : Cond.methodLink "BallotDesk$WhatIf" 79 yn_P_beatenBy ∈ lw_g := tg_of (tw_3 (List.mem_of_getElem? (i := 234) rfl)) rfl
theorem mw_715 : Cond.methodLink "BallotDesk$WhatIf" 83 yn_P_everyone ∈ lw_g := tg_of (tw_3 (List.mem_of_getElem? (i := 235) rfl)) rfl
theorem mw_716 : Cond.methodLink "BallotDesk$WhatIf" 86 yn_R_winnerSet ∈ lw_g := tg_of (tw_3 (List.mem_of_getElem? (i := 236) rfl)) rfl
theorem mw_717 : Cond.methodLink "BallotDesk" 172 yn_W_worstAmongWinners ∈ lw_g := tg_of (tw_3 (List.mem_of_getElem? (i := 237) rfl)) rfl
theorem mw_718 : Cond.instanceMethod yn_W_worstAmongWinners ∈ lw_g := tg_of (tw_3 (List.mem_of_getElem? (i := 238) rfl)) rfl
theorem mw_719 : Cond.selects "BallotDesk$WhatIf" yn_W_worstAmongWinners yn_W_worstAmongWinners ∈ lw_g := tg_of (tw_3 (List.mem_of_getElem? (i := 239) rfl)) rfl
theorem mw_720 : Cond.code yn_W_worstAmongWinners prog_11_method_4_code 5 (Option.some Jvm.ClassFile.FieldType.int) ∈ lw_g := tg_of (tw_4 (List.mem_of_getElem? (i := 0) rfl)) rfl
theorem mw_721 : Cond.methodLink "BallotDesk$WhatIf" 89 yn_P_firstInTie ∈ lw_g := tg_of (tw_4 (List.mem_of_getElem? (i := 1) rfl)) rfl
theorem mw_722 : Cond.methodLink "BallotDesk" 175 yn_W_typeThatHarmsByRaising ∈ lw_g := tg_of (tw_4 (List.mem_of_getElem? (i := 2) rfl)) rfl
theorem mw_723 : Cond.instanceMethod yn_W_typeThatHarmsByRaising ∈ lw_g := tg_of (tw_4 (List.mem_of_getElem? (i := 3) rfl)) rfl
theorem mw_724 : Cond.selects "BallotDesk$WhatIf" yn_W_typeThatHarmsByRaising yn_W_typeThatHarmsByRaising ∈ lw_g := tg_of (tw_4 (List.mem_of_getElem? (i := 4) rfl)) rfl
theorem mw_725 : Cond.code yn_W_typeThatHarmsByRaising prog_11_method_5_code 6 (Option.some Jvm.ClassFile.FieldType.int) ∈ lw_g := tg_of (tw_4 (List.mem_of_getElem? (i := 5) rfl)) rfl
theorem mw_726 : Cond.methodLink "BallotDesk$WhatIf" 95 yn_O_raised ∈ lw_g := tg_of (tw_4 (List.mem_of_getElem? (i := 6) rfl)) rfl
theorem mw_727 : Cond.static yn_O_raised ∈ lw_g := tg_of (tw_4 (List.mem_of_getElem? (i := 7) rfl)) rfl
theorem mw_728 : Cond.code yn_O_raised prog_5_method_6_code 5 (Option.some Jvm.ClassFile.FieldType.int) ∈ lw_g := tg_of (tw_4 (List.mem_of_getElem? (i := 8) rfl)) rfl
theorem mw_729 : Cond.methodLink "BallotDesk$Order" 13 yn_O_placeOf ∈ lw_g := tg_of (tw_4 (List.mem_of_getElem? (i := 9) rfl)) rfl
theorem mw_730 : Cond.methodLink "BallotDesk" 178 yn_W_typeThatHarmsByJoining ∈ lw_g := tg_of (tw_4 (List.mem_of_getElem? (i := 10) rfl)) rfl
theorem mw_731 : Cond.instanceMethod yn_W_typeThatHarmsByJoining ∈ lw_g := tg_of (tw_4 (List.mem_of_getElem? (i := 11) rfl)) rfl
theorem mw_732 : Cond.selects "BallotDesk$WhatIf" yn_W_typeThatHarmsByJoining yn_W_typeThatHarmsByJoining ∈ lw_g := tg_of (tw_4 (List.mem_of_getElem? (i := 12) rfl)) rfl
theorem mw_733 : Cond.code yn_W_typeThatHarmsByJoining prog_11_method_6_code 6 (Option.some Jvm.ClassFile.FieldType.int) ∈ lw_g := tg_of (tw_4 (List.mem_of_getElem? (i := 13) rfl)) rfl
theorem mw_734 : Cond.methodLink "BallotDesk$WhatIf" 98 yn_O_at ∈ lw_g := tg_of (tw_4 (List.mem_of_getElem? (i := 14) rfl)) rfl
theorem mw_735 : Cond.methodLink "BallotDesk" 181 yn_W_loserThatHarmsByLeaving ∈ lw_g := tg_of (tw_4 (List.mem_of_getElem? (i := 15) rfl)) rfl
theorem mw_736 : Cond.instanceMethod yn_W_loserThatHarmsByLeaving ∈ lw_g := tg_of (tw_4 (List.mem_of_getElem? (i := 16) rfl)) rfl
theorem mw_737 : Cond.selects "BallotDesk$WhatIf" yn_W_loserThatHarmsByLeaving yn_W_loserThatHarmsByLeaving ∈ lw_g := tg_of (tw_4 (List.mem_of_getElem? (i := 17) rfl)) rfl
theorem mw_738 : Cond.code yn_W_loserThatHarmsByLeaving prog_11_method_7_code 6 (Option.some Jvm.ClassFile.FieldType.int) ∈ lw_g := tg_of (tw_4 (List.mem_of_getElem? (i := 18) rfl)) rfl
theorem mw_739 : Cond.methodLink "BallotDesk$WhatIf" 101 yn_P_copyWithout ∈ lw_g := tg_of (tw_4 (List.mem_of_getElem? (i := 19) rfl)) rfl
theorem mw_740 : Cond.instanceMethod yn_P_copyWithout ∈ lw_g := tg_of (tw_4 (List.mem_of_getElem? (i := 20) rfl)) rfl
theorem mw_741 : Cond.selects "BallotDesk$Poll" yn_P_copyWithout yn_P_copyWithout ∈ lw_g := tg_of (tw_4 (List.mem_of_getElem? (i := 21) rfl)) rfl
theorem mw_742 : Cond.code yn_P_copyWithout prog_8_method_5_code 4 (Option.none : Option Jvm.ClassFile.FieldType) ∈ lw_g := tg_of (tw_4 (List.mem_of_getElem? (i := 22) rfl)) rfl
theorem mw_743 : Cond.methodLink "BallotDesk$Poll" 67 yn_O_without ∈ lw_g := tg_of (tw_4 (List.mem_of_getElem? (i := 23) rfl)) rfl
theorem mw_744 : Cond.static yn_O_without ∈ lw_g := tg_of (tw_4 (List.mem_of_getElem? (i := 24) rfl)) rfl
theorem mw_745 : Cond.code yn_O_without prog_5_method_7_code 7 (Option.some Jvm.ClassFile.FieldType.int) ∈ lw_g := tg_of (tw_4 (List.mem_of_getElem? (i := 25) rfl)) rfl
theorem mw_746 : Cond.methodLink "BallotDesk$Order" 17 yn_O_numberWithout ∈ lw_g := tg_of (tw_4 (List.mem_of_getElem? (i := 26) rfl)) rfl
theorem mw_747 : Cond.static yn_O_numberWithout ∈ lw_g := tg_of (tw_4 (List.mem_of_getElem? (i := 27) rfl)) rfl
theorem mw_748 : Cond.code yn_O_numberWithout prog_5_method_8_code 2 (Option.some Jvm.ClassFile.FieldType.int) ∈ lw_g := tg_of (tw_4 (List.mem_of_getElem? (i := 28) rfl)) rfl
theorem mw_749 : Cond.methodLink "BallotDesk$WhatIf" 105 yn_O_numberWithout ∈ lw_g := tg_of (tw_4 (List.mem_of_getElem? (i := 29) rfl)) rfl
theorem mw_750 : Cond.methodLink "BallotDeskLaw" 154 yn_L_circle ∈ lw_g := tg_of (tw_4 (List.mem_of_getElem? (i := 30) rfl)) rfl
theorem mw_751 : Cond.static yn_L_circle ∈ lw_g := tg_of (tw_4 (List.mem_of_getElem? (i := 31) rfl)) rfl
theorem mw_753 : Cond.methodLink "BallotDeskLaw" 65 yn_D_circle ∈ lw_g := tg_of (tw_4 (List.mem_of_getElem? (i := 33) rfl)) rfl
theorem mw_754 : Cond.instanceMethod yn_D_circle ∈ lw_g := tg_of (tw_4 (List.mem_of_getElem? (i := 34) rfl)) rfl
theorem mw_755 : Cond.selects "BallotDesk" yn_D_circle yn_D_circle ∈ lw_g := tg_of (tw_4 (List.mem_of_getElem? (i := 35) rfl)) rfl
theorem mw_756 : Cond.code yn_D_circle prog_1_method_22_code 3 (Option.some Jvm.ClassFile.FieldType.int) ∈ lw_g := tg_of (tw_4 (List.mem_of_getElem? (i := 36) rfl)) rfl
theorem mw_757 : Cond.methodLink "BallotDesk" 184 yn_P_leastCircle ∈ lw_g := tg_of (tw_4 (List.mem_of_getElem? (i := 37) rfl)) rfl
theorem mw_758 : Cond.instanceMethod yn_P_leastCircle ∈ lw_g := tg_of (tw_4 (List.mem_of_getElem? (i := 38) rfl)) rfl
theorem mw_759 : Cond.selects "BallotDesk$Poll" yn_P_leastCircle yn_P_leastCircle ∈ lw_g := tg_of (tw_4 (List.mem_of_getElem? (i := 39) rfl)) rfl
theorem mw_760 : Cond.code yn_P_leastCircle prog_8_method_16_code 4 (Option.some Jvm.ClassFile.FieldType.int) ∈ lw_g := tg_of (tw_4 (List.mem_of_getElem? (i := 40) rfl)) rfl
theorem mw_761 : Cond.methodLink "BallotDesk" 188 yn_O_at ∈ lw_g := tg_of (tw_4 (List.mem_of_getElem? (i := 41) rfl)) rfl
theorem mw_762 : Cond.methodLink "BallotDeskLaw" 157 yn_L_clones ∈ lw_g := tg_of (tw_4 (List.mem_of_getElem? (i := 42) rfl)) rfl
theorem mw_763 : Cond.static yn_L_clones ∈ lw_g := tg_of (tw_4 (List.mem_of_getElem? (i := 43) rfl)) rfl
theorem mw_765 : Cond.methodLink "BallotDeskLaw" 68 yn_D_clones ∈ lw_g := tg_of (tw_4 (List.mem_of_getElem? (i := 45) rfl)) rfl
theorem mw_766 : Cond.instanceMethod yn_D_clones ∈ lw_g := tg_of (tw_4 (List.mem_of_getElem? (i := 46) rfl)) rfl
theorem mw_767 : Cond.selects "BallotDesk" yn_D_clones yn_D_clones ∈ lw_g := tg_of (tw_4 (List.mem_of_getElem? (i := 47) rfl)) rfl
theorem mw_768 : Cond.code yn_D_clones prog_1_method_23_code 3 (Option.some Jvm.ClassFile.FieldType.boolean) ∈ lw_g := tg_of (tw_4 (List.mem_of_getElem? (i := 48) rfl)) rfl
theorem mw_769 : Cond.methodLink "BallotDesk" 191 yn_P_everyone ∈ lw_g := tg_of (tw_4 (List.mem_of_getElem? (i := 49) rfl)) rfl
theorem mw_770 : Cond.methodLink "BallotDesk" 194 yn_JI_bitCount ∈ lw_g := tg_of (tw_4 (List.mem_of_getElem? (i := 50) rfl)) rfl
theorem mw_771 : Cond.methodLink "BallotDesk" 200 yn_O_standTogether ∈ lw_g := tg_of (tw_4 (List.mem_of_getElem? (i := 51) rfl)) rfl
theorem mw_772 : Cond.static yn_O_standTogether ∈ lw_g := tg_of (tw_4 (List.mem_of_getElem? (i := 52) rfl)) rfl
theorem mw_773 : Cond.code yn_O_standTogether prog_5_method_9_code 6 (Option.some Jvm.ClassFile.FieldType.boolean) ∈ lw_g := tg_of (tw_4 (List.mem_of_getElem? (i := 53) rfl)) rfl
theorem mw_774 : Cond.methodLink "BallotDesk$Order" 20 yn_JM_min ∈ lw_g := tg_of (tw_4 (List.mem_of_getElem? (i := 54) rfl)) rfl
theorem mw_775 : Cond.methodLink "BallotDesk$Order" 25 yn_JI_bitCount ∈ lw_g := tg_of (tw_4 (List.mem_of_getElem? (i := 55) rfl)) rfl
theorem mw_776 : Cond.methodLink "BallotDeskLaw" 160 yn_L_count ∈ lw_g := tg_of (tw_4 (List.mem_of_getElem? (i := 56) rfl)) rfl
theorem mw_777 : Cond.static yn_L_count ∈ lw_g := tg_of (tw_4 (List.mem_of_getElem? (i := 57) rfl)) rfl
theorem mw_779 : Cond.methodLink "BallotDeskLaw" 72 yn_D_count ∈ lw_g := tg_of (tw_4 (List.mem_of_getElem? (i := 59) rfl)) rfl
theorem mw_780 : Cond.instanceMethod yn_D_count ∈ lw_g := tg_of (tw_4 (List.mem_of_getElem? (i := 60) rfl)) rfl
theorem mw_781 : Cond.selects "BallotDesk" yn_D_count yn_D_count ∈ lw_g := tg_of (tw_4 (List.mem_of_getElem? (i := 61) rfl)) rfl
theorem mw_782 : Cond.code yn_D_count prog_1_method_24_code 2 (Option.some Jvm.ClassFile.FieldType.int) ∈ lw_g := tg_of (tw_4 (List.mem_of_getElem? (i := 62) rfl)) rfl
theorem mw_783 : Cond.methodLink "BallotDesk" 204 yn_P_allVoters ∈ lw_g := tg_of (tw_4 (List.mem_of_getElem? (i := 63) rfl)) rfl
theorem mw_784 : Cond.instanceMethod yn_P_allVoters ∈ lw_g := tg_of (tw_4 (List.mem_of_getElem? (i := 64) rfl)) rfl
theorem mw_785 : Cond.selects "BallotDesk$Poll" yn_P_allVoters yn_P_allVoters ∈ lw_g := tg_of (tw_4 (List.mem_of_getElem? (i := 65) rfl)) rfl
theorem mw_786 : Cond.code yn_P_allVoters prog_8_method_13_code 3 (Option.some Jvm.ClassFile.FieldType.int) ∈ lw_g := tg_of (tw_4 (List.mem_of_getElem? (i := 66) rfl)) rfl
theorem mw_787 : Cond.classLink "BallotDeskLaw" 76 "BallotDeskModel" ∈ lw_g := tg_of (tw_4 (List.mem_of_getElem? (i := 67) rfl)) rfl
theorem mw_788 : Cond.instantiable "BallotDeskModel" 24 ∈ lw_g := tg_of (tw_4 (List.mem_of_getElem? (i := 68) rfl)) rfl
theorem mw_789 : Cond.methodLink "BallotDeskLaw" 78 yn_M_init ∈ lw_g := tg_of (tw_4 (List.mem_of_getElem? (i := 69) rfl)) rfl
theorem mw_790 : Cond.instanceMethod yn_M_init ∈ lw_g := tg_of (tw_4 (List.mem_of_getElem? (i := 70) rfl)) rfl
theorem mw_791 : Cond.code yn_M_init prog_13_method_1_code 1 (Option.none : Option Jvm.ClassFile.FieldType) ∈ lw_g := tg_of (tw_4 (List.mem_of_getElem? (i := 71) rfl)) rfl
theorem mw_792 : Cond.methodLink "BallotDeskModel" 1 ⟨"java/lang/Object", "<init>", "()V"⟩ ∈ lw_g := tg_of (tw_4 (List.mem_of_getElem? (i := 72) rfl)) rfl
theorem mw_793 : Cond.methodLink "BallotDeskModel" 73 yn_M_reset ∈ lw_g := tg_of (tw_4 (List.mem_of_getElem? (i := 73) rfl)) rfl
theorem mw_795 : Cond.instanceMethod yn_M_reset ∈ lw_g := tg_of (tw_4 (List.mem_of_getElem? (i := 75) rfl)) rfl
theorem mw_796 : Cond.code yn_M_reset prog_13_method_2_code 2 (Option.none : Option Jvm.ClassFile.FieldType) ∈ lw_g := tg_of (tw_4 (List.mem_of_getElem? (i := 76) rfl)) rfl
theorem mw_797 : Cond.fieldLink "BallotDeskModel" 79 "BallotDeskModel" "thrown" "I" ∈ lw_g := tg_of (tw_4 (List.mem_of_getElem? (i := 77) rfl)) rfl
theorem mw_798 : Cond.fieldLink "BallotDeskModel" 7 "BallotDeskModel" "n" "I" ∈ lw_g := tg_of (tw_4 (List.mem_of_getElem? (i := 78) rfl)) rfl
theorem mw_799 : Cond.fieldLink "BallotDeskModel" 76 "BallotDeskModel" "types" "I" ∈ lw_g := tg_of (tw_4 (List.mem_of_getElem? (i := 79) rfl)) rfl
theorem mw_800 : Cond.fieldLink "BallotDeskModel" 13 "BallotDeskModel" "orders" "[I" ∈ lw_g := tg_of (tw_4 (List.mem_of_getElem? (i := 80) rfl)) rfl
theorem mw_801 : Cond.fieldLink "BallotDeskModel" 17 "BallotDeskModel" "amounts" "[I" ∈ lw_g := tg_of (tw_4 (List.mem_of_getElem? (i := 81) rfl)) rfl
theorem mw_802 : Cond.fieldLink "BallotDeskModel" 20 "BallotDeskModel" "ties" "[I" ∈ lw_g := tg_of (tw_4 (List.mem_of_getElem? (i := 82) rfl)) rfl
theorem mw_803 : Cond.fieldLink "BallotDeskModel" 23 "BallotDeskModel" "agendas" "[I" ∈ lw_g := tg_of (tw_4 (List.mem_of_getElem? (i := 83) rfl)) rfl
theorem mw_804 : Cond.fieldLink "BallotDeskModel" 26 "BallotDeskModel" "weights" "[I" ∈ lw_g := tg_of (tw_4 (List.mem_of_getElem? (i := 84) rfl)) rfl
theorem mw_805 : Cond.fieldLink "BallotDeskModel" 106 "BallotDeskModel" "m" "I" ∈ lw_g := tg_of (tw_4 (List.mem_of_getElem? (i := 85) rfl)) rfl
theorem mw_806 : Cond.fieldLink "BallotDeskModel" 109 "BallotDeskModel" "many" "I" ∈ lw_g := tg_of (tw_4 (List.mem_of_getElem? (i := 86) rfl)) rfl
theorem mw_807 : Cond.fieldLink "BallotDeskModel" 29 "BallotDeskModel" "places" "[I" ∈ lw_g := tg_of (tw_4 (List.mem_of_getElem? (i := 87) rfl)) rfl
theorem mw_808 : Cond.fieldLink "BallotDeskModel" 32 "BallotDeskModel" "voters" "[I" ∈ lw_g := tg_of (tw_4 (List.mem_of_getElem? (i := 88) rfl)) rfl
theorem mw_809 : Cond.fieldLink "BallotDeskModel" 35 "BallotDeskModel" "tie" "[I" ∈ lw_g := tg_of (tw_4 (List.mem_of_getElem? (i := 89) rfl)) rfl
theorem mw_810 : Cond.fieldLink "BallotDeskModel" 38 "BallotDeskModel" "turn" "[I" ∈ lw_g := tg_of (tw_4 (List.mem_of_getElem? (i := 90) rfl)) rfl
theorem mw_811 : Cond.fieldLink "BallotDeskModel" 41 "BallotDeskModel" "weight" "[I" ∈ lw_g := tg_of (tw_4 (List.mem_of_getElem? (i := 91) rfl)) rfl
theorem mw_812 : Cond.fieldLink "BallotDeskModel" 44 "BallotDeskModel" "pairs" "[I" ∈ lw_g := tg_of (tw_4 (List.mem_of_getElem? (i := 92) rfl)) rfl
theorem mw_813 : Cond.fieldLink "BallotDeskModel" 47 "BallotDeskModel" "paths" "[I" ∈ lw_g := tg_of (tw_4 (List.mem_of_getElem? (i := 93) rfl)) rfl
theorem mw_814 : Cond.fieldLink "BallotDeskModel" 50 "BallotDeskModel" "locked" "[Z" ∈ lw_g := tg_of (tw_4 (List.mem_of_getElem? (i := 94) rfl)) rfl
theorem mw_815 : Cond.fieldLink "BallotDeskModel" 54 "BallotDeskModel" "left" "[Z" ∈ lw_g := tg_of (tw_4 (List.mem_of_getElem? (i := 95) rfl)) rfl
theorem mw_816 : Cond.fieldLink "BallotDeskModel" 57 "BallotDeskModel" "least" "[J" ∈ lw_g := tg_of (tw_4 (List.mem_of_getElem? (i := 96) rfl)) rfl
theorem mw_817 : Cond.fieldLink "BallotDeskModel" 61 "BallotDeskModel" "trial" "[I" ∈ lw_g := tg_of (tw_4 (List.mem_of_getElem? (i := 97) rfl)) rfl
theorem mw_818 : Cond.fieldLink "BallotDeskModel" 64 "BallotDeskModel" "best" "[I" ∈ lw_g := tg_of (tw_4 (List.mem_of_getElem? (i := 98) rfl)) rfl
theorem mw_819 : Cond.fieldLink "BallotDeskModel" 67 "BallotDeskModel" "changedTo" "I" ∈ lw_g := tg_of (tw_4 (List.mem_of_getElem? (i := 99) rfl)) rfl
theorem mw_820 : Cond.fieldLink "BallotDeskModel" 70 "BallotDeskModel" "broken" "I" ∈ lw_g := tg_of (tw_4 (List.mem_of_getElem? (i := 100) rfl)) rfl
theorem mw_870 : Cond.arrayClass Jvm.ClassFile.FieldType.long ∈ lw_g := tg_of (tw_4 (List.mem_of_getElem? (i := 150) rfl)) rfl
theorem mw_871 : Cond.methodLink "BallotDeskLaw" 85 yn_M_thrown ∈ lw_g := tg_of (tw_4 (List.mem_of_getElem? (i := 151) rfl)) rfl
theorem mw_872 : Cond.instanceMethod yn_M_thrown ∈ lw_g := tg_of (tw_4 (List.mem_of_getElem? (i := 152) rfl)) rfl
theorem mw_873 : Cond.selects "BallotDeskModel" yn_M_thrown yn_M_thrown ∈ lw_g := tg_of (tw_4 (List.mem_of_getElem? (i := 153) rfl)) rfl
theorem mw_874 : Cond.code yn_M_thrown prog_13_method_3_code 1 (Option.some Jvm.ClassFile.FieldType.int) ∈ lw_g := tg_of (tw_4 (List.mem_of_getElem? (i := 154) rfl)) rfl
theorem mw_875 : Cond.methodLink "BallotDeskLaw" 84 yn_M_candidates ∈ lw_g := tg_of (tw_4 (List.mem_of_getElem? (i := 155) rfl)) rfl
theorem mw_876 : Cond.instanceMethod yn_M_candidates ∈ lw_g := tg_of (tw_4 (List.mem_of_getElem? (i := 156) rfl)) rfl
theorem mw_877 : Cond.selects "BallotDeskModel" yn_M_candidates yn_M_candidates ∈ lw_g := tg_of (tw_4 (List.mem_of_getElem? (i := 157) rfl)) rfl
theorem mw_878 : Cond.code yn_M_candidates prog_13_method_9_code 3 (Option.some Jvm.ClassFile.FieldType.int) ∈ lw_g := tg_of (tw_4 (List.mem_of_getElem? (i := 158) rfl)) rfl
theorem mw_879 : Cond.methodLink "BallotDeskModel" 82 yn_M_within ∈ lw_g := tg_of (tw_4 (List.mem_of_getElem? (i := 159) rfl)) rfl
theorem mw_880 : Cond.static yn_M_within ∈ lw_g := tg_of (tw_4 (List.mem_of_getElem? (i := 160) rfl)) rfl
theorem mw_881 : Cond.code yn_M_within prog_13_method_5_code 3 (Option.some Jvm.ClassFile.FieldType.boolean) ∈ lw_g := tg_of (tw_4 (List.mem_of_getElem? (i := 161) rfl)) rfl
theorem mw_882 : Cond.methodLink "BallotDeskModel" 86 yn_M_goes ∈ lw_g := tg_of (tw_4 (List.mem_of_getElem? (i := 162) rfl)) rfl
theorem mw_884 : Cond.instanceMethod yn_M_goes ∈ lw_g := tg_of (tw_4 (List.mem_of_getElem? (i := 164) rfl)) rfl
theorem mw_885 : Cond.code yn_M_goes prog_13_method_4_code 3 (Option.some Jvm.ClassFile.FieldType.boolean) ∈ lw_g := tg_of (tw_4 (List.mem_of_getElem? (i := 165) rfl)) rfl
theorem mw_886 : Cond.methodLink "BallotDeskLaw" 92 yn_M_ballot ∈ lw_g := tg_of (tw_4 (List.mem_of_getElem? (i := 166) rfl)) rfl
theorem mw_887 : Cond.instanceMethod yn_M_ballot ∈ lw_g := tg_of (tw_4 (List.mem_of_getElem? (i := 167) rfl)) rfl
theorem mw_888 : Cond.selects "BallotDeskModel" yn_M_ballot yn_M_ballot ∈ lw_g := tg_of (tw_4 (List.mem_of_getElem? (i := 168) rfl)) rfl
theorem mw_889 : Cond.code yn_M_ballot prog_13_method_10_code 3 (Option.some Jvm.ClassFile.FieldType.int) ∈ lw_g := tg_of (tw_4 (List.mem_of_getElem? (i := 169) rfl)) rfl
theorem mw_890 : Cond.methodLink "BallotDeskModel" 90 yn_M_isOrder ∈ lw_g := tg_of (tw_4 (List.mem_of_getElem? (i := 170) rfl)) rfl
theorem mw_892 : Cond.instanceMethod yn_M_isOrder ∈ lw_g := tg_of (tw_4 (List.mem_of_getElem? (i := 172) rfl)) rfl
theorem mw_893 : Cond.code yn_M_isOrder prog_13_method_6_code 4 (Option.some Jvm.ClassFile.FieldType.boolean) ∈ lw_g := tg_of (tw_4 (List.mem_of_getElem? (i := 173) rfl)) rfl
theorem mw_894 : Cond.constant "BallotDeskModel" 94 100000 ∈ lw_g := tg_of (tw_4 (List.mem_of_getElem? (i := 174) rfl)) rfl
theorem mw_895 : Cond.methodLink "BallotDeskModel" 95 yn_M_unpack ∈ lw_g := tg_of (tw_4 (List.mem_of_getElem? (i := 175) rfl)) rfl
theorem mw_897 : Cond.instanceMethod yn_M_unpack ∈ lw_g := tg_of (tw_4 (List.mem_of_getElem? (i := 177) rfl)) rfl
theorem mw_898 : Cond.code yn_M_unpack prog_13_method_7_code 5 (Option.none : Option Jvm.ClassFile.FieldType) ∈ lw_g := tg_of (tw_4 (List.mem_of_getElem? (i := 178) rfl)) rfl
theorem mw_899 : Cond.methodLink "BallotDeskLaw" 95 yn_M_amount ∈ lw_g := tg_of (tw_4 (List.mem_of_getElem? (i := 179) rfl)) rfl
theorem mw_900 : Cond.instanceMethod yn_M_amount ∈ lw_g := tg_of (tw_4 (List.mem_of_getElem? (i := 180) rfl)) rfl
theorem mw_901 : Cond.selects "BallotDeskModel" yn_M_amount yn_M_amount ∈ lw_g := tg_of (tw_4 (List.mem_of_getElem? (i := 181) rfl)) rfl
theorem mw_902 : Cond.code yn_M_amount prog_13_method_12_code 4 (Option.some Jvm.ClassFile.FieldType.int) ∈ lw_g := tg_of (tw_4 (List.mem_of_getElem? (i := 182) rfl)) rfl
theorem mw_903 : Cond.methodLink "BallotDeskModel" 99 yn_M_isType ∈ lw_g := tg_of (tw_4 (List.mem_of_getElem? (i := 183) rfl)) rfl
theorem mw_905 : Cond.instanceMethod yn_M_isType ∈ lw_g := tg_of (tw_4 (List.mem_of_getElem? (i := 185) rfl)) rfl
theorem mw_906 : Cond.code yn_M_isType prog_13_method_11_code 2 (Option.some Jvm.ClassFile.FieldType.boolean) ∈ lw_g := tg_of (tw_4 (List.mem_of_getElem? (i := 186) rfl)) rfl
theorem mw_907 : Cond.methodLink "BallotDeskLaw" 98 yn_M_drop ∈ lw_g := tg_of (tw_4 (List.mem_of_getElem? (i := 187) rfl)) rfl
theorem mw_908 : Cond.instanceMethod yn_M_drop ∈ lw_g := tg_of (tw_4 (List.mem_of_getElem? (i := 188) rfl)) rfl
theorem mw_909 : Cond.selects "BallotDeskModel" yn_M_drop yn_M_drop ∈ lw_g := tg_of (tw_4 (List.mem_of_getElem? (i := 189) rfl)) rfl
theorem mw_910 : Cond.code yn_M_drop prog_13_method_13_code 4 (Option.some Jvm.ClassFile.FieldType.int) ∈ lw_g := tg_of (tw_4 (List.mem_of_getElem? (i := 190) rfl)) rfl
theorem mw_911 : Cond.methodLink "BallotDeskLaw" 101 yn_M_tieOrder ∈ lw_g := tg_of (tw_4 (List.mem_of_getElem? (i := 191) rfl)) rfl
theorem mw_912 : Cond.instanceMethod yn_M_tieOrder ∈ lw_g := tg_of (tw_4 (List.mem_of_getElem? (i := 192) rfl)) rfl
theorem mw_913 : Cond.selects "BallotDeskModel" yn_M_tieOrder yn_M_tieOrder ∈ lw_g := tg_of (tw_4 (List.mem_of_getElem? (i := 193) rfl)) rfl
theorem mw_914 : Cond.code yn_M_tieOrder prog_13_method_14_code 3 (Option.some Jvm.ClassFile.FieldType.int) ∈ lw_g := tg_of (tw_4 (List.mem_of_getElem? (i := 194) rfl)) rfl
theorem mw_915 : Cond.methodLink "BallotDeskModel" 102 yn_M_packed ∈ lw_g := tg_of (tw_4 (List.mem_of_getElem? (i := 195) rfl)) rfl
theorem mw_917 : Cond.instanceMethod yn_M_packed ∈ lw_g := tg_of (tw_4 (List.mem_of_getElem? (i := 197) rfl)) rfl
theorem mw_918 : Cond.code yn_M_packed prog_13_method_8_code 5 (Option.some Jvm.ClassFile.FieldType.int) ∈ lw_g := tg_of (tw_4 (List.mem_of_getElem? (i := 198) rfl)) rfl
theorem mw_919 : Cond.methodLink "BallotDeskLaw" 104 yn_M_agenda ∈ lw_g := tg_of (tw_4 (List.mem_of_getElem? (i := 199) rfl)) rfl
theorem mw_920 : Cond.instanceMethod yn_M_agenda ∈ lw_g := tg_of (tw_4 (List.mem_of_getElem? (i := 200) rfl)) rfl
theorem mw_921 : Cond.selects "BallotDeskModel" yn_M_agenda yn_M_agenda ∈ lw_g := tg_of (tw_4 (List.mem_of_getElem? (i := 201) rfl)) rfl
theorem mw_922 : Cond.code yn_M_agenda prog_13_method_15_code 3 (Option.some Jvm.ClassFile.FieldType.int) ∈ lw_g := tg_of (tw_4 (List.mem_of_getElem? (i := 202) rfl)) rfl
theorem mw_923 : Cond.methodLink "BallotDeskLaw" 107 yn_M_weight ∈ lw_g := tg_of (tw_4 (List.mem_of_getElem? (i := 203) rfl)) rfl
theorem mw_924 : Cond.instanceMethod yn_M_weight ∈ lw_g := tg_of (tw_4 (List.mem_of_getElem? (i := 204) rfl)) rfl
theorem mw_925 : Cond.selects "BallotDeskModel" yn_M_weight yn_M_weight ∈ lw_g := tg_of (tw_4 (List.mem_of_getElem? (i := 205) rfl)) rfl
theorem mw_926 : Cond.code yn_M_weight prog_13_method_16_code 4 (Option.some Jvm.ClassFile.FieldType.int) ∈ lw_g := tg_of (tw_4 (List.mem_of_getElem? (i := 206) rfl)) rfl
theorem mw_927 : Cond.methodLink "BallotDeskLaw" 110 yn_M_winners ∈ lw_g := tg_of (tw_4 (List.mem_of_getElem? (i := 207) rfl)) rfl
theorem mw_928 : Cond.instanceMethod yn_M_winners ∈ lw_g := tg_of (tw_4 (List.mem_of_getElem? (i := 208) rfl)) rfl
theorem mw_929 : Cond.selects "BallotDeskModel" yn_M_winners yn_M_winners ∈ lw_g := tg_of (tw_4 (List.mem_of_getElem? (i := 209) rfl)) rfl
theorem mw_930 : Cond.code yn_M_winners prog_13_method_46_code 2 (Option.some Jvm.ClassFile.FieldType.int) ∈ lw_g := tg_of (tw_4 (List.mem_of_getElem? (i := 210) rfl)) rfl
theorem mw_931 : Cond.methodLink "BallotDeskModel" 190 yn_M_isRule ∈ lw_g := tg_of (tw_4 (List.mem_of_getElem? (i := 211) rfl)) rfl
theorem mw_932 : Cond.static yn_M_isRule ∈ lw_g := tg_of (tw_4 (List.mem_of_getElem? (i := 212) rfl)) rfl
theorem mw_933 : Cond.code yn_M_isRule prog_13_method_44_code 1 (Option.some Jvm.ClassFile.FieldType.boolean) ∈ lw_g := tg_of (tw_4 (List.mem_of_getElem? (i := 213) rfl)) rfl
theorem mw_934 : Cond.methodLink "BallotDeskModel" 193 yn_M_load ∈ lw_g := tg_of (tw_4 (List.mem_of_getElem? (i := 214) rfl)) rfl
theorem mw_936 : Cond.instanceMethod yn_M_load ∈ lw_g := tg_of (tw_4 (List.mem_of_getElem? (i := 216) rfl)) rfl
theorem mw_937 : Cond.code yn_M_load prog_13_method_17_code 2 (Option.none : Option Jvm.ClassFile.FieldType) ∈ lw_g := tg_of (tw_4 (List.mem_of_getElem? (i := 217) rfl)) rfl
theorem mw_938 : Cond.methodLink "BallotDeskModel" 196 yn_M_work ∈ lw_g := tg_of (tw_4 (List.mem_of_getElem? (i := 218) rfl)) rfl
theorem mw_940 : Cond.instanceMethod yn_M_work ∈ lw_g := tg_of (tw_4 (List.mem_of_getElem? (i := 220) rfl)) rfl
theorem mw_941 : Cond.code yn_M_work prog_13_method_42_code 2 (Option.some Jvm.ClassFile.FieldType.int) ∈ lw_g := tg_of (tw_4 (List.mem_of_getElem? (i := 221) rfl)) rfl
theorem mw_942 : Cond.methodLink "BallotDeskModel" 162 yn_M_tally ∈ lw_g := tg_of (tw_4 (List.mem_of_getElem? (i := 222) rfl)) rfl
theorem mw_944 : Cond.instanceMethod yn_M_tally ∈ lw_g := tg_of (tw_4 (List.mem_of_getElem? (i := 224) rfl)) rfl
theorem mw_945 : Cond.code yn_M_tally prog_13_method_22_code 5 (Option.none : Option Jvm.ClassFile.FieldType) ∈ lw_g := tg_of (tw_4 (List.mem_of_getElem? (i := 225) rfl)) rfl
theorem mw_946 : Cond.methodLink "BallotDeskModel" 165 yn_M_extreme ∈ lw_g := tg_of (tw_4 (List.mem_of_getElem? (i := 226) rfl)) rfl
theorem mw_948 : Cond.instanceMethod yn_M_extreme ∈ lw_g := tg_of (tw_4 (List.mem_of_getElem? (i := 228) rfl)) rfl
theorem mw_949 : Cond.code yn_M_extreme prog_13_method_27_code 7 (Option.some Jvm.ClassFile.FieldType.int) ∈ lw_g := tg_of (tw_4 (List.mem_of_getElem? (i := 229) rfl)) rfl
theorem mw_950 : Cond.methodLink "BallotDeskModel" 132 yn_M_scored ∈ lw_g := tg_of (tw_4 (List.mem_of_getElem? (i := 230) rfl)) rfl
theorem mw_952 : Cond.instanceMethod yn_M_scored ∈ lw_g := tg_of (tw_4 (List.mem_of_getElem? (i := 232) rfl)) rfl
theorem mw_953 : Cond.code yn_M_scored prog_13_method_26_code 7 (Option.some Jvm.ClassFile.FieldType.long) ∈ lw_g := tg_of (tw_4 (List.mem_of_getElem? (i := 233) rfl)) rfl
theorem mw_954 : Cond.methodLink "BallotDeskModel" 115 yn_M_all ∈ lw_g := tg_of (tw_4 (List.mem_of_getElem? (i := 234) rfl)) rfl
theorem mw_956 : Cond.instanceMethod yn_M_all ∈ lw_g := tg_of (tw_4 (List.mem_of_getElem? (i := 236) rfl)) rfl
theorem mw_957 : Cond.code yn_M_all prog_13_method_25_code 1 (Option.some Jvm.ClassFile.FieldType.int) ∈ lw_g := tg_of (tw_4 (List.mem_of_getElem? (i := 237) rfl)) rfl
theorem mw_958 : Cond.methodLink "BallotDeskModel" 119 yn_M_ahead ∈ lw_g := tg_of (tw_4 (List.mem_of_getElem? (i := 238) rfl)) rfl
theorem mw_960 : Cond.instanceMethod yn_M_ahead ∈ lw_g := tg_of (tw_5 (List.mem_of_getElem? (i := 0) rfl)) rfl
theorem mw_961 : Cond.code yn_M_ahead prog_13_method_24_code 6 (Option.some Jvm.ClassFile.FieldType.int) ∈ lw_g := tg_of (tw_5 (List.mem_of_getElem? (i := 1) rfl)) rfl
theorem mw_962 : Cond.methodLink "BallotDeskModel" 123 yn_M_placeOf ∈ lw_g := tg_of (tw_5 (List.mem_of_getElem? (i := 2) rfl)) rfl
theorem mw_964 : Cond.instanceMethod yn_M_placeOf ∈ lw_g := tg_of (tw_5 (List.mem_of_getElem? (i := 4) rfl)) rfl
theorem mw_965 : Cond.code yn_M_placeOf prog_13_method_20_code 4 (Option.some Jvm.ClassFile.FieldType.int) ∈ lw_g := tg_of (tw_5 (List.mem_of_getElem? (i := 5) rfl)) rfl
theorem mw_966 : Cond.methodLink "BallotDeskModel" 126 yn_M_beats ∈ lw_g := tg_of (tw_5 (List.mem_of_getElem? (i := 6) rfl)) rfl
theorem mw_968 : Cond.instanceMethod yn_M_beats ∈ lw_g := tg_of (tw_5 (List.mem_of_getElem? (i := 8) rfl)) rfl
theorem mw_969 : Cond.code yn_M_beats prog_13_method_23_code 3 (Option.some Jvm.ClassFile.FieldType.boolean) ∈ lw_g := tg_of (tw_5 (List.mem_of_getElem? (i := 9) rfl)) rfl
theorem mw_970 : Cond.constantLong "BallotDeskModel" 130 2 ∈ lw_g := tg_of (tw_5 (List.mem_of_getElem? (i := 10) rfl)) rfl
theorem mw_971 : Cond.methodLink "BallotDeskModel" 169 yn_M_runoff ∈ lw_g := tg_of (tw_5 (List.mem_of_getElem? (i := 11) rfl)) rfl
theorem mw_973 : Cond.instanceMethod yn_M_runoff ∈ lw_g := tg_of (tw_5 (List.mem_of_getElem? (i := 13) rfl)) rfl
theorem mw_974 : Cond.code yn_M_runoff prog_13_method_28_code 8 (Option.some Jvm.ClassFile.FieldType.int) ∈ lw_g := tg_of (tw_5 (List.mem_of_getElem? (i := 14) rfl)) rfl
theorem mw_975 : Cond.methodLink "BallotDeskModel" 172 yn_M_eliminate ∈ lw_g := tg_of (tw_5 (List.mem_of_getElem? (i := 15) rfl)) rfl
theorem mw_977 : Cond.instanceMethod yn_M_eliminate ∈ lw_g := tg_of (tw_5 (List.mem_of_getElem? (i := 17) rfl)) rfl
theorem mw_978 : Cond.code yn_M_eliminate prog_13_method_31_code 5 (Option.some Jvm.ClassFile.FieldType.int) ∈ lw_g := tg_of (tw_5 (List.mem_of_getElem? (i := 18) rfl)) rfl
theorem mw_979 : Cond.methodLink "BallotDeskModel" 136 yn_M_single ∈ lw_g := tg_of (tw_5 (List.mem_of_getElem? (i := 19) rfl)) rfl
theorem mw_980 : Cond.static yn_M_single ∈ lw_g := tg_of (tw_5 (List.mem_of_getElem? (i := 20) rfl)) rfl
theorem mw_981 : Cond.code yn_M_single prog_13_method_30_code 1 (Option.some Jvm.ClassFile.FieldType.boolean) ∈ lw_g := tg_of (tw_5 (List.mem_of_getElem? (i := 21) rfl)) rfl
theorem mw_982 : Cond.methodLink "BallotDeskModel" 139 yn_M_weakest ∈ lw_g := tg_of (tw_5 (List.mem_of_getElem? (i := 22) rfl)) rfl
theorem mw_984 : Cond.instanceMethod yn_M_weakest ∈ lw_g := tg_of (tw_5 (List.mem_of_getElem? (i := 24) rfl)) rfl
theorem mw_985 : Cond.code yn_M_weakest prog_13_method_29_code 6 (Option.some Jvm.ClassFile.FieldType.int) ∈ lw_g := tg_of (tw_5 (List.mem_of_getElem? (i := 25) rfl)) rfl
theorem mw_986 : Cond.methodLink "BallotDeskModel" 175 yn_M_pathWinners ∈ lw_g := tg_of (tw_5 (List.mem_of_getElem? (i := 26) rfl)) rfl
theorem mw_988 : Cond.instanceMethod yn_M_pathWinners ∈ lw_g := tg_of (tw_5 (List.mem_of_getElem? (i := 28) rfl)) rfl
theorem mw_989 : Cond.code yn_M_pathWinners prog_13_method_33_code 5 (Option.some Jvm.ClassFile.FieldType.int) ∈ lw_g := tg_of (tw_5 (List.mem_of_getElem? (i := 29) rfl)) rfl
theorem mw_990 : Cond.methodLink "BallotDeskModel" 143 yn_M_findPaths ∈ lw_g := tg_of (tw_5 (List.mem_of_getElem? (i := 30) rfl)) rfl
theorem mw_992 : Cond.instanceMethod yn_M_findPaths ∈ lw_g := tg_of (tw_5 (List.mem_of_getElem? (i := 32) rfl)) rfl
theorem mw_993 : Cond.code yn_M_findPaths prog_13_method_32_code 6 (Option.none : Option Jvm.ClassFile.FieldType) ∈ lw_g := tg_of (tw_5 (List.mem_of_getElem? (i := 33) rfl)) rfl
theorem mw_994 : Cond.methodLink "BallotDeskModel" 178 yn_M_lockWinners ∈ lw_g := tg_of (tw_5 (List.mem_of_getElem? (i := 34) rfl)) rfl
theorem mw_996 : Cond.instanceMethod yn_M_lockWinners ∈ lw_g := tg_of (tw_5 (List.mem_of_getElem? (i := 36) rfl)) rfl
theorem mw_997 : Cond.code yn_M_lockWinners prog_13_method_36_code 7 (Option.some Jvm.ClassFile.FieldType.int) ∈ lw_g := tg_of (tw_5 (List.mem_of_getElem? (i := 37) rfl)) rfl
theorem mw_998 : Cond.methodLink "BallotDeskModel" 149 yn_M_sooner ∈ lw_g := tg_of (tw_5 (List.mem_of_getElem? (i := 38) rfl)) rfl
theorem mw_1000 : Cond.instanceMethod yn_M_sooner ∈ lw_g := tg_of (tw_5 (List.mem_of_getElem? (i := 40) rfl)) rfl
theorem mw_1001 : Cond.code yn_M_sooner prog_13_method_35_code 7 (Option.some Jvm.ClassFile.FieldType.boolean) ∈ lw_g := tg_of (tw_5 (List.mem_of_getElem? (i := 41) rfl)) rfl
theorem mw_1002 : Cond.methodLink "BallotDeskModel" 146 yn_M_tiePlace ∈ lw_g := tg_of (tw_5 (List.mem_of_getElem? (i := 42) rfl)) rfl
theorem mw_1004 : Cond.instanceMethod yn_M_tiePlace ∈ lw_g := tg_of (tw_5 (List.mem_of_getElem? (i := 44) rfl)) rfl
theorem mw_1005 : Cond.code yn_M_tiePlace prog_13_method_21_code 3 (Option.some Jvm.ClassFile.FieldType.int) ∈ lw_g := tg_of (tw_5 (List.mem_of_getElem? (i := 45) rfl)) rfl
theorem mw_1006 : Cond.methodLink "BallotDeskModel" 153 yn_M_leads ∈ lw_g := tg_of (tw_5 (List.mem_of_getElem? (i := 46) rfl)) rfl
theorem mw_1008 : Cond.instanceMethod yn_M_leads ∈ lw_g := tg_of (tw_5 (List.mem_of_getElem? (i := 48) rfl)) rfl
theorem mw_1009 : Cond.code yn_M_leads prog_13_method_34_code 7 (Option.some Jvm.ClassFile.FieldType.boolean) ∈ lw_g := tg_of (tw_5 (List.mem_of_getElem? (i := 49) rfl)) rfl
theorem mw_1010 : Cond.methodLink "BallotDeskModel" 181 yn_M_agreeing ∈ lw_g := tg_of (tw_5 (List.mem_of_getElem? (i := 50) rfl)) rfl
theorem mw_1012 : Cond.instanceMethod yn_M_agreeing ∈ lw_g := tg_of (tw_5 (List.mem_of_getElem? (i := 52) rfl)) rfl
theorem mw_1013 : Cond.code yn_M_agreeing prog_13_method_39_code 4 (Option.some Jvm.ClassFile.FieldType.int) ∈ lw_g := tg_of (tw_5 (List.mem_of_getElem? (i := 53) rfl)) rfl
theorem mw_1014 : Cond.methodLink "BallotDeskModel" 159 yn_M_findLeast ∈ lw_g := tg_of (tw_5 (List.mem_of_getElem? (i := 54) rfl)) rfl
theorem mw_1016 : Cond.instanceMethod yn_M_findLeast ∈ lw_g := tg_of (tw_5 (List.mem_of_getElem? (i := 56) rfl)) rfl
theorem mw_1017 : Cond.code yn_M_findLeast prog_13_method_38_code 7 (Option.none : Option Jvm.ClassFile.FieldType) ∈ lw_g := tg_of (tw_5 (List.mem_of_getElem? (i := 57) rfl)) rfl
theorem mw_1018 : Cond.methodLink "BallotDeskModel" 156 yn_M_over ∈ lw_g := tg_of (tw_5 (List.mem_of_getElem? (i := 58) rfl)) rfl
theorem mw_1020 : Cond.instanceMethod yn_M_over ∈ lw_g := tg_of (tw_5 (List.mem_of_getElem? (i := 60) rfl)) rfl
theorem mw_1021 : Cond.code yn_M_over prog_13_method_37_code 6 (Option.some Jvm.ClassFile.FieldType.long) ∈ lw_g := tg_of (tw_5 (List.mem_of_getElem? (i := 61) rfl)) rfl
theorem mw_1022 : Cond.methodLink "BallotDeskModel" 184 yn_M_uncovered ∈ lw_g := tg_of (tw_5 (List.mem_of_getElem? (i := 62) rfl)) rfl
theorem mw_1024 : Cond.instanceMethod yn_M_uncovered ∈ lw_g := tg_of (tw_5 (List.mem_of_getElem? (i := 64) rfl)) rfl
theorem mw_1025 : Cond.code yn_M_uncovered prog_13_method_40_code 6 (Option.some Jvm.ClassFile.FieldType.int) ∈ lw_g := tg_of (tw_5 (List.mem_of_getElem? (i := 65) rfl)) rfl
theorem mw_1026 : Cond.methodLink "BallotDeskModel" 187 yn_M_byAgenda ∈ lw_g := tg_of (tw_5 (List.mem_of_getElem? (i := 66) rfl)) rfl
theorem mw_1028 : Cond.instanceMethod yn_M_byAgenda ∈ lw_g := tg_of (tw_5 (List.mem_of_getElem? (i := 68) rfl)) rfl
theorem mw_1029 : Cond.code yn_M_byAgenda prog_13_method_41_code 5 (Option.some Jvm.ClassFile.FieldType.int) ∈ lw_g := tg_of (tw_5 (List.mem_of_getElem? (i := 69) rfl)) rfl
theorem mw_1030 : Cond.methodLink "BallotDeskLaw" 113 yn_M_winner ∈ lw_g := tg_of (tw_5 (List.mem_of_getElem? (i := 70) rfl)) rfl
theorem mw_1031 : Cond.instanceMethod yn_M_winner ∈ lw_g := tg_of (tw_5 (List.mem_of_getElem? (i := 71) rfl)) rfl
theorem mw_1032 : Cond.selects "BallotDeskModel" yn_M_winner yn_M_winner ∈ lw_g := tg_of (tw_5 (List.mem_of_getElem? (i := 72) rfl)) rfl
theorem mw_1033 : Cond.code yn_M_winner prog_13_method_47_code 2 (Option.some Jvm.ClassFile.FieldType.int) ∈ lw_g := tg_of (tw_5 (List.mem_of_getElem? (i := 73) rfl)) rfl
theorem mw_1034 : Cond.methodLink "BallotDeskModel" 199 yn_M_firstOf ∈ lw_g := tg_of (tw_5 (List.mem_of_getElem? (i := 74) rfl)) rfl
theorem mw_1036 : Cond.instanceMethod yn_M_firstOf ∈ lw_g := tg_of (tw_5 (List.mem_of_getElem? (i := 76) rfl)) rfl
theorem mw_1037 : Cond.code yn_M_firstOf prog_13_method_43_code 3 (Option.some Jvm.ClassFile.FieldType.int) ∈ lw_g := tg_of (tw_5 (List.mem_of_getElem? (i := 77) rfl)) rfl
theorem mw_1038 : Cond.methodLink "BallotDeskLaw" 116 yn_M_score ∈ lw_g := tg_of (tw_5 (List.mem_of_getElem? (i := 78) rfl)) rfl
theorem mw_1039 : Cond.instanceMethod yn_M_score ∈ lw_g := tg_of (tw_5 (List.mem_of_getElem? (i := 79) rfl)) rfl
theorem mw_1040 : Cond.selects "BallotDeskModel" yn_M_score yn_M_score ∈ lw_g := tg_of (tw_5 (List.mem_of_getElem? (i := 80) rfl)) rfl
theorem mw_1041 : Cond.code yn_M_score prog_13_method_48_code 3 (Option.some Jvm.ClassFile.FieldType.long) ∈ lw_g := tg_of (tw_5 (List.mem_of_getElem? (i := 81) rfl)) rfl
theorem mw_1042 : Cond.methodLink "BallotDeskModel" 202 yn_M_isCandidate ∈ lw_g := tg_of (tw_5 (List.mem_of_getElem? (i := 82) rfl)) rfl
theorem mw_1044 : Cond.instanceMethod yn_M_isCandidate ∈ lw_g := tg_of (tw_5 (List.mem_of_getElem? (i := 84) rfl)) rfl
theorem mw_1045 : Cond.code yn_M_isCandidate prog_13_method_45_code 2 (Option.some Jvm.ClassFile.FieldType.boolean) ∈ lw_g := tg_of (tw_5 (List.mem_of_getElem? (i := 85) rfl)) rfl
theorem mw_1046 : Cond.methodLink "BallotDeskLaw" 119 yn_M_pair ∈ lw_g := tg_of (tw_5 (List.mem_of_getElem? (i := 86) rfl)) rfl
theorem mw_1047 : Cond.instanceMethod yn_M_pair ∈ lw_g := tg_of (tw_5 (List.mem_of_getElem? (i := 87) rfl)) rfl
theorem mw_1048 : Cond.selects "BallotDeskModel" yn_M_pair yn_M_pair ∈ lw_g := tg_of (tw_5 (List.mem_of_getElem? (i := 88) rfl)) rfl
theorem mw_1049 : Cond.code yn_M_pair prog_13_method_49_code 3 (Option.some Jvm.ClassFile.FieldType.int) ∈ lw_g := tg_of (tw_5 (List.mem_of_getElem? (i := 89) rfl)) rfl
theorem mw_1050 : Cond.methodLink "BallotDeskLaw" 122 yn_M_path ∈ lw_g := tg_of (tw_5 (List.mem_of_getElem? (i := 90) rfl)) rfl
theorem mw_1051 : Cond.instanceMethod yn_M_path ∈ lw_g := tg_of (tw_5 (List.mem_of_getElem? (i := 91) rfl)) rfl
theorem mw_1052 : Cond.selects "BallotDeskModel" yn_M_path yn_M_path ∈ lw_g := tg_of (tw_5 (List.mem_of_getElem? (i := 92) rfl)) rfl
theorem mw_1053 : Cond.code yn_M_path prog_13_method_50_code 3 (Option.some Jvm.ClassFile.FieldType.int) ∈ lw_g := tg_of (tw_5 (List.mem_of_getElem? (i := 93) rfl)) rfl
theorem mw_1054 : Cond.methodLink "BallotDeskLaw" 126 yn_M_branches ∈ lw_g := tg_of (tw_5 (List.mem_of_getElem? (i := 94) rfl)) rfl
theorem mw_1055 : Cond.instanceMethod yn_M_branches ∈ lw_g := tg_of (tw_5 (List.mem_of_getElem? (i := 95) rfl)) rfl
theorem mw_1056 : Cond.selects "BallotDeskModel" yn_M_branches yn_M_branches ∈ lw_g := tg_of (tw_5 (List.mem_of_getElem? (i := 96) rfl)) rfl
theorem mw_1057 : Cond.code yn_M_branches prog_13_method_51_code 4 (Option.some Jvm.ClassFile.FieldType.int) ∈ lw_g := tg_of (tw_5 (List.mem_of_getElem? (i := 97) rfl)) rfl
theorem mw_1058 : Cond.methodLink "BallotDeskLaw" 129 yn_M_step ∈ lw_g := tg_of (tw_5 (List.mem_of_getElem? (i := 98) rfl)) rfl
theorem mw_1059 : Cond.instanceMethod yn_M_step ∈ lw_g := tg_of (tw_5 (List.mem_of_getElem? (i := 99) rfl)) rfl
theorem mw_1060 : Cond.selects "BallotDeskModel" yn_M_step yn_M_step ∈ lw_g := tg_of (tw_5 (List.mem_of_getElem? (i := 100) rfl)) rfl
theorem mw_1061 : Cond.code yn_M_step prog_13_method_52_code 7 (Option.some Jvm.ClassFile.FieldType.int) ∈ lw_g := tg_of (tw_5 (List.mem_of_getElem? (i := 101) rfl)) rfl
theorem mw_1062 : Cond.methodLink "BallotDeskLaw" 134 yn_M_disagreement ∈ lw_g := tg_of (tw_5 (List.mem_of_getElem? (i := 102) rfl)) rfl
theorem mw_1063 : Cond.instanceMethod yn_M_disagreement ∈ lw_g := tg_of (tw_5 (List.mem_of_getElem? (i := 103) rfl)) rfl
theorem mw_1064 : Cond.selects "BallotDeskModel" yn_M_disagreement yn_M_disagreement ∈ lw_g := tg_of (tw_5 (List.mem_of_getElem? (i := 104) rfl)) rfl
theorem mw_1065 : Cond.code yn_M_disagreement prog_13_method_58_code 1 (Option.some Jvm.ClassFile.FieldType.long) ∈ lw_g := tg_of (tw_5 (List.mem_of_getElem? (i := 105) rfl)) rfl
theorem mw_1066 : Cond.methodLink "BallotDeskModel" 220 yn_M_findAgreed ∈ lw_g := tg_of (tw_5 (List.mem_of_getElem? (i := 106) rfl)) rfl
theorem mw_1068 : Cond.instanceMethod yn_M_findAgreed ∈ lw_g := tg_of (tw_5 (List.mem_of_getElem? (i := 108) rfl)) rfl
theorem mw_1069 : Cond.code yn_M_findAgreed prog_13_method_57_code 7 (Option.some Jvm.ClassFile.FieldType.long) ∈ lw_g := tg_of (tw_5 (List.mem_of_getElem? (i := 109) rfl)) rfl
theorem mw_1070 : Cond.methodLink "BallotDeskModel" 205 yn_M_firstOrder ∈ lw_g := tg_of (tw_5 (List.mem_of_getElem? (i := 110) rfl)) rfl
theorem mw_1072 : Cond.instanceMethod yn_M_firstOrder ∈ lw_g := tg_of (tw_5 (List.mem_of_getElem? (i := 112) rfl)) rfl
theorem mw_1073 : Cond.code yn_M_firstOrder prog_13_method_53_code 2 (Option.none : Option Jvm.ClassFile.FieldType) ∈ lw_g := tg_of (tw_5 (List.mem_of_getElem? (i := 113) rfl)) rfl
theorem mw_1074 : Cond.constantLong "BallotDeskModel" 208 (-1) ∈ lw_g := tg_of (tw_5 (List.mem_of_getElem? (i := 114) rfl)) rfl
theorem mw_1075 : Cond.methodLink "BallotDeskModel" 210 yn_M_disagreementOf ∈ lw_g := tg_of (tw_5 (List.mem_of_getElem? (i := 115) rfl)) rfl
theorem mw_1077 : Cond.instanceMethod yn_M_disagreementOf ∈ lw_g := tg_of (tw_5 (List.mem_of_getElem? (i := 117) rfl)) rfl
theorem mw_1078 : Cond.code yn_M_disagreementOf prog_13_method_55_code 5 (Option.some Jvm.ClassFile.FieldType.long) ∈ lw_g := tg_of (tw_5 (List.mem_of_getElem? (i := 118) rfl)) rfl
theorem mw_1079 : Cond.methodLink "BallotDeskModel" 214 yn_M_sooner2 ∈ lw_g := tg_of (tw_5 (List.mem_of_getElem? (i := 119) rfl)) rfl
theorem mw_1081 : Cond.instanceMethod yn_M_sooner2 ∈ lw_g := tg_of (tw_5 (List.mem_of_getElem? (i := 121) rfl)) rfl
theorem mw_1082 : Cond.code yn_M_sooner2 prog_13_method_56_code 2 (Option.some Jvm.ClassFile.FieldType.boolean) ∈ lw_g := tg_of (tw_5 (List.mem_of_getElem? (i := 122) rfl)) rfl
theorem mw_1083 : Cond.methodLink "BallotDeskModel" 217 yn_M_nextOrder ∈ lw_g := tg_of (tw_5 (List.mem_of_getElem? (i := 123) rfl)) rfl
theorem mw_1085 : Cond.instanceMethod yn_M_nextOrder ∈ lw_g := tg_of (tw_5 (List.mem_of_getElem? (i := 125) rfl)) rfl
theorem mw_1086 : Cond.code yn_M_nextOrder prog_13_method_54_code 6 (Option.some Jvm.ClassFile.FieldType.boolean) ∈ lw_g := tg_of (tw_5 (List.mem_of_getElem? (i := 126) rfl)) rfl
theorem mw_1087 : Cond.methodLink "BallotDeskLaw" 138 yn_M_agreed ∈ lw_g := tg_of (tw_5 (List.mem_of_getElem? (i := 127) rfl)) rfl
theorem mw_1088 : Cond.instanceMethod yn_M_agreed ∈ lw_g := tg_of (tw_5 (List.mem_of_getElem? (i := 128) rfl)) rfl
theorem mw_1089 : Cond.selects "BallotDeskModel" yn_M_agreed yn_M_agreed ∈ lw_g := tg_of (tw_5 (List.mem_of_getElem? (i := 129) rfl)) rfl
theorem mw_1090 : Cond.code yn_M_agreed prog_13_method_59_code 3 (Option.some Jvm.ClassFile.FieldType.int) ∈ lw_g := tg_of (tw_5 (List.mem_of_getElem? (i := 130) rfl)) rfl
theorem mw_1091 : Cond.methodLink "BallotDeskLaw" 142 yn_M_change ∈ lw_g := tg_of (tw_5 (List.mem_of_getElem? (i := 131) rfl)) rfl
theorem mw_1092 : Cond.instanceMethod yn_M_change ∈ lw_g := tg_of (tw_5 (List.mem_of_getElem? (i := 132) rfl)) rfl
theorem mw_1093 : Cond.selects "BallotDeskModel" yn_M_change yn_M_change ∈ lw_g := tg_of (tw_5 (List.mem_of_getElem? (i := 133) rfl)) rfl
theorem mw_1094 : Cond.code yn_M_change prog_13_method_60_code 8 (Option.some Jvm.ClassFile.FieldType.int) ∈ lw_g := tg_of (tw_5 (List.mem_of_getElem? (i := 134) rfl)) rfl
theorem mw_1095 : Cond.methodLink "BallotDeskLaw" 146 yn_M_changed ∈ lw_g := tg_of (tw_5 (List.mem_of_getElem? (i := 135) rfl)) rfl
theorem mw_1096 : Cond.instanceMethod yn_M_changed ∈ lw_g := tg_of (tw_5 (List.mem_of_getElem? (i := 136) rfl)) rfl
theorem mw_1097 : Cond.selects "BallotDeskModel" yn_M_changed yn_M_changed ∈ lw_g := tg_of (tw_5 (List.mem_of_getElem? (i := 137) rfl)) rfl
theorem mw_1098 : Cond.code yn_M_changed prog_13_method_61_code 1 (Option.some Jvm.ClassFile.FieldType.int) ∈ lw_g := tg_of (tw_5 (List.mem_of_getElem? (i := 138) rfl)) rfl
theorem mw_1099 : Cond.methodLink "BallotDeskLaw" 149 yn_M_property ∈ lw_g := tg_of (tw_5 (List.mem_of_getElem? (i := 139) rfl)) rfl
theorem mw_1100 : Cond.instanceMethod yn_M_property ∈ lw_g := tg_of (tw_5 (List.mem_of_getElem? (i := 140) rfl)) rfl
theorem mw_1101 : Cond.selects "BallotDeskModel" yn_M_property yn_M_property ∈ lw_g := tg_of (tw_5 (List.mem_of_getElem? (i := 141) rfl)) rfl
theorem mw_1102 : Cond.code yn_M_property prog_13_method_66_code 3 (Option.some Jvm.ClassFile.FieldType.boolean) ∈ lw_g := tg_of (tw_5 (List.mem_of_getElem? (i := 142) rfl)) rfl
theorem mw_1103 : Cond.methodLink "BallotDeskModel" 230 yn_M_brokenByPairs ∈ lw_g := tg_of (tw_5 (List.mem_of_getElem? (i := 143) rfl)) rfl
theorem mw_1105 : Cond.instanceMethod yn_M_brokenByPairs ∈ lw_g := tg_of (tw_5 (List.mem_of_getElem? (i := 145) rfl)) rfl
theorem mw_1106 : Cond.code yn_M_brokenByPairs prog_13_method_63_code 6 (Option.some Jvm.ClassFile.FieldType.int) ∈ lw_g := tg_of (tw_5 (List.mem_of_getElem? (i := 146) rfl)) rfl
theorem mw_1107 : Cond.methodLink "BallotDeskModel" 223 yn_M_over2 ∈ lw_g := tg_of (tw_5 (List.mem_of_getElem? (i := 147) rfl)) rfl
theorem mw_1109 : Cond.instanceMethod yn_M_over2 ∈ lw_g := tg_of (tw_5 (List.mem_of_getElem? (i := 149) rfl)) rfl
theorem mw_1110 : Cond.code yn_M_over2 prog_13_method_62_code 5 (Option.some Jvm.ClassFile.FieldType.boolean) ∈ lw_g := tg_of (tw_5 (List.mem_of_getElem? (i := 150) rfl)) rfl
theorem mw_1111 : Cond.methodLink "BallotDeskModel" 233 yn_M_brokenByType ∈ lw_g := tg_of (tw_5 (List.mem_of_getElem? (i := 151) rfl)) rfl
theorem mw_1113 : Cond.instanceMethod yn_M_brokenByType ∈ lw_g := tg_of (tw_5 (List.mem_of_getElem? (i := 153) rfl)) rfl
theorem mw_1114 : Cond.code yn_M_brokenByType prog_13_method_64_code 6 (Option.some Jvm.ClassFile.FieldType.int) ∈ lw_g := tg_of (tw_5 (List.mem_of_getElem? (i := 154) rfl)) rfl
theorem mw_1115 : Cond.methodLink "BallotDeskModel" 236 yn_M_brokenByLeaving ∈ lw_g := tg_of (tw_5 (List.mem_of_getElem? (i := 155) rfl)) rfl
theorem mw_1117 : Cond.instanceMethod yn_M_brokenByLeaving ∈ lw_g := tg_of (tw_5 (List.mem_of_getElem? (i := 157) rfl)) rfl
theorem mw_1118 : Cond.code yn_M_brokenByLeaving prog_13_method_65_code 5 (Option.some Jvm.ClassFile.FieldType.int) ∈ lw_g := tg_of (tw_5 (List.mem_of_getElem? (i := 158) rfl)) rfl
theorem mw_1119 : Cond.methodLink "BallotDeskModel" 226 yn_M_leaveOut ∈ lw_g := tg_of (tw_5 (List.mem_of_getElem? (i := 159) rfl)) rfl
theorem mw_1121 : Cond.instanceMethod yn_M_leaveOut ∈ lw_g := tg_of (tw_5 (List.mem_of_getElem? (i := 161) rfl)) rfl
theorem mw_1122 : Cond.code yn_M_leaveOut prog_13_method_19_code 3 (Option.none : Option Jvm.ClassFile.FieldType) ∈ lw_g := tg_of (tw_5 (List.mem_of_getElem? (i := 162) rfl)) rfl
theorem mw_1123 : Cond.methodLink "BallotDeskModel" 112 yn_M_without ∈ lw_g := tg_of (tw_5 (List.mem_of_getElem? (i := 163) rfl)) rfl
theorem mw_1125 : Cond.instanceMethod yn_M_without ∈ lw_g := tg_of (tw_5 (List.mem_of_getElem? (i := 165) rfl)) rfl
theorem mw_1126 : Cond.code yn_M_without prog_13_method_18_code 7 (Option.none : Option Jvm.ClassFile.FieldType) ∈ lw_g := tg_of (tw_5 (List.mem_of_getElem? (i := 166) rfl)) rfl
theorem mw_1127 : Cond.methodLink "BallotDeskLaw" 153 yn_M_witness ∈ lw_g := tg_of (tw_5 (List.mem_of_getElem? (i := 167) rfl)) rfl
theorem mw_1128 : Cond.instanceMethod yn_M_witness ∈ lw_g := tg_of (tw_5 (List.mem_of_getElem? (i := 168) rfl)) rfl
theorem mw_1129 : Cond.selects "BallotDeskModel" yn_M_witness yn_M_witness ∈ lw_g := tg_of (tw_5 (List.mem_of_getElem? (i := 169) rfl)) rfl
theorem mw_1130 : Cond.code yn_M_witness prog_13_method_67_code 1 (Option.some Jvm.ClassFile.FieldType.int) ∈ lw_g := tg_of (tw_5 (List.mem_of_getElem? (i := 170) rfl)) rfl
theorem mw_1131 : Cond.methodLink "BallotDeskLaw" 156 yn_M_circle ∈ lw_g := tg_of (tw_5 (List.mem_of_getElem? (i := 171) rfl)) rfl
theorem mw_1132 : Cond.instanceMethod yn_M_circle ∈ lw_g := tg_of (tw_5 (List.mem_of_getElem? (i := 172) rfl)) rfl
theorem mw_1133 : Cond.selects "BallotDeskModel" yn_M_circle yn_M_circle ∈ lw_g := tg_of (tw_5 (List.mem_of_getElem? (i := 173) rfl)) rfl
theorem mw_1134 : Cond.code yn_M_circle prog_13_method_68_code 6 (Option.some Jvm.ClassFile.FieldType.int) ∈ lw_g := tg_of (tw_5 (List.mem_of_getElem? (i := 174) rfl)) rfl
theorem mw_1135 : Cond.methodLink "BallotDeskLaw" 159 yn_M_clones ∈ lw_g := tg_of (tw_5 (List.mem_of_getElem? (i := 175) rfl)) rfl
theorem mw_1136 : Cond.instanceMethod yn_M_clones ∈ lw_g := tg_of (tw_5 (List.mem_of_getElem? (i := 176) rfl)) rfl
theorem mw_1137 : Cond.selects "BallotDeskModel" yn_M_clones yn_M_clones ∈ lw_g := tg_of (tw_5 (List.mem_of_getElem? (i := 177) rfl)) rfl
theorem mw_1138 : Cond.code yn_M_clones prog_13_method_69_code 8 (Option.some Jvm.ClassFile.FieldType.boolean) ∈ lw_g := tg_of (tw_5 (List.mem_of_getElem? (i := 178) rfl)) rfl
theorem mw_1139 : Cond.methodLink "BallotDeskLaw" 162 yn_M_count ∈ lw_g := tg_of (tw_5 (List.mem_of_getElem? (i := 179) rfl)) rfl
theorem mw_1140 : Cond.instanceMethod yn_M_count ∈ lw_g := tg_of (tw_5 (List.mem_of_getElem? (i := 180) rfl)) rfl
theorem mw_1141 : Cond.selects "BallotDeskModel" yn_M_count yn_M_count ∈ lw_g := tg_of (tw_5 (List.mem_of_getElem? (i := 181) rfl)) rfl
theorem mw_1142 : Cond.code yn_M_count prog_13_method_70_code 4 (Option.some Jvm.ClassFile.FieldType.int) ∈ lw_g := tg_of (tw_5 (List.mem_of_getElem? (i := 182) rfl)) rfl
theorem ms_0 : Cond.selects "BallotDesk$Poll" yn_P_empty yn_P_empty ∈ lw_g := tg_of (List.mem_append_left _ (List.mem_of_getElem? (i := 0) rfl)) rfl
theorem ms_1 : Cond.selects "BallotDesk$Elimination" yn_E_spread yn_E_spread ∈ lw_g := tg_of (List.mem_append_left _ (List.mem_of_getElem? (i := 1) rfl)) rfl
theorem ms_2 : Cond.selects "BallotDesk$Elimination" yn_E_goers yn_E_goers ∈ lw_g := tg_of (List.mem_append_left _ (List.mem_of_getElem? (i := 2) rfl)) rfl
theorem ms_3 : Cond.selects "BallotDesk$Elimination" yn_E_countLeads yn_E_countLeads ∈ lw_g := tg_of (List.mem_append_left _ (List.mem_of_getElem? (i := 3) rfl)) rfl
theorem ms_4 : Cond.selects "BallotDesk$Agreement" yn_A_weigh yn_A_weigh ∈ lw_g := tg_of (List.mem_append_left _ (List.mem_of_getElem? (i := 4) rfl)) rfl
theorem ms_5 : Cond.selects "BallotDesk$Agreement" yn_A_sumAgainst yn_A_sumAgainst ∈ lw_g := tg_of (List.mem_append_left _ (List.mem_of_getElem? (i := 5) rfl)) rfl
theorem ms_6 : Cond.selects "BallotDesk$Agreement" yn_A_bestLeaders yn_A_bestLeaders ∈ lw_g := tg_of (List.mem_append_left _ (List.mem_of_getElem? (i := 6) rfl)) rfl
theorem ms_7 : Cond.selects "java/lang/Throwable" ⟨"java/lang/Throwable", "fillInStackTrace", "(I)Ljava/lang/Throwable;"⟩ ⟨"java/lang/Throwable", "fillInStackTrace", "(I)Ljava/lang/Throwable;"⟩ ∈ lw_g := tg_of (List.mem_append_left _ (List.mem_of_getElem? (i := 7) rfl)) rfl
theorem ms_8 : Cond.selects "BallotDesk$Poll" yn_P_tally yn_P_tally ∈ lw_g := tg_of (List.mem_append_left _ (List.mem_of_getElem? (i := 8) rfl)) rfl
theorem ms_9 : Cond.selects "BallotDesk" yn_D_isType yn_D_isType ∈ lw_g := tg_of (List.mem_append_left _ (List.mem_of_getElem? (i := 9) rfl)) rfl
theorem ms_10 : Cond.selects "BallotDesk$Paths" yn_H_widen yn_H_widen ∈ lw_g := tg_of (List.mem_append_left _ (List.mem_of_getElem? (i := 10) rfl)) rfl
theorem ms_11 : Cond.selects "BallotDesk$Locks" yn_K_collect yn_K_collect ∈ lw_g := tg_of (List.mem_append_left _ (List.mem_of_getElem? (i := 11) rfl)) rfl
theorem ms_12 : Cond.selects "BallotDesk$Locks" yn_K_insert yn_K_insert ∈ lw_g := tg_of (List.mem_append_left _ (List.mem_of_getElem? (i := 12) rfl)) rfl
theorem ms_13 : Cond.selects "BallotDesk$Locks" yn_K_lock yn_K_lock ∈ lw_g := tg_of (List.mem_append_left _ (List.mem_of_getElem? (i := 13) rfl)) rfl
theorem ms_14 : Cond.selects "BallotDesk$Rules" yn_R_uncovered yn_R_uncovered ∈ lw_g := tg_of (List.mem_append_left _ (List.mem_of_getElem? (i := 14) rfl)) rfl
theorem ms_15 : Cond.selects "BallotDesk" yn_D_isCandidate yn_D_isCandidate ∈ lw_g := tg_of (List.mem_append_left _ (List.mem_of_getElem? (i := 15) rfl)) rfl
theorem ms_16 : Cond.selects "BallotDesk$Orders" yn_S_swap yn_S_swap ∈ lw_g := tg_of (List.mem_append_left _ (List.mem_of_getElem? (i := 16) rfl)) rfl
theorem ms_17 : Cond.selects "BallotDeskModel" yn_M_reset yn_M_reset ∈ lw_g := tg_of (List.mem_append_left _ (List.mem_of_getElem? (i := 17) rfl)) rfl
theorem ms_18 : Cond.selects "BallotDeskModel" yn_M_goes yn_M_goes ∈ lw_g := tg_of (List.mem_append_left _ (List.mem_of_getElem? (i := 18) rfl)) rfl
theorem ms_19 : Cond.selects "BallotDeskModel" yn_M_isOrder yn_M_isOrder ∈ lw_g := tg_of (List.mem_append_left _ (List.mem_of_getElem? (i := 19) rfl)) rfl
theorem ms_20 : Cond.selects "BallotDeskModel" yn_M_unpack yn_M_unpack ∈ lw_g := tg_of (List.mem_append_left _ (List.mem_of_getElem? (i := 20) rfl)) rfl
theorem ms_21 : Cond.selects "BallotDeskModel" yn_M_isType yn_M_isType ∈ lw_g := tg_of (List.mem_append_left _ (List.mem_of_getElem? (i := 21) rfl)) rfl
theorem ms_22 : Cond.selects "BallotDeskModel" yn_M_packed yn_M_packed ∈ lw_g := tg_of (List.mem_append_left _ (List.mem_of_getElem? (i := 22) rfl)) rfl
theorem ms_23 : Cond.selects "BallotDeskModel" yn_M_load yn_M_load ∈ lw_g := tg_of (List.mem_append_left _ (List.mem_of_getElem? (i := 23) rfl)) rfl
theorem ms_24 : Cond.selects "BallotDeskModel" yn_M_work yn_M_work ∈ lw_g := tg_of (List.mem_append_left _ (List.mem_of_getElem? (i := 24) rfl)) rfl
theorem ms_25 : Cond.selects "BallotDeskModel" yn_M_tally yn_M_tally ∈ lw_g := tg_of (List.mem_append_left _ (List.mem_of_getElem? (i := 25) rfl)) rfl
theorem ms_26 : Cond.selects "BallotDeskModel" yn_M_extreme yn_M_extreme ∈ lw_g := tg_of (List.mem_append_left _ (List.mem_of_getElem? (i := 26) rfl)) rfl
theorem ms_27 : Cond.selects "BallotDeskModel" yn_M_scored yn_M_scored ∈ lw_g := tg_of (List.mem_append_left _ (List.mem_of_getElem? (i := 27) rfl)) rfl
theorem ms_28 : Cond.selects "BallotDeskModel" yn_M_all yn_M_all ∈ lw_g := tg_of (List.mem_append_left _ (List.mem_of_getElem? (i := 28) rfl)) rfl
theorem ms_29 : Cond.selects "BallotDeskModel" yn_M_ahead yn_M_ahead ∈ lw_g := tg_of (List.mem_append_left _ (List.mem_of_getElem? (i := 29) rfl)) rfl
theorem ms_30 : Cond.selects "BallotDeskModel" yn_M_placeOf yn_M_placeOf ∈ lw_g := tg_of (List.mem_append_left _ (List.mem_of_getElem? (i := 30) rfl)) rfl
theorem ms_31 : Cond.selects "BallotDeskModel" yn_M_beats yn_M_beats ∈ lw_g := tg_of (List.mem_append_left _ (List.mem_of_getElem? (i := 31) rfl)) rfl
theorem ms_32 : Cond.selects "BallotDeskModel" yn_M_runoff yn_M_runoff ∈ lw_g := tg_of (List.mem_append_left _ (List.mem_of_getElem? (i := 32) rfl)) rfl
theorem ms_33 : Cond.selects "BallotDeskModel" yn_M_eliminate yn_M_eliminate ∈ lw_g := tg_of (List.mem_append_left _ (List.mem_of_getElem? (i := 33) rfl)) rfl
theorem ms_34 : Cond.selects "BallotDeskModel" yn_M_weakest yn_M_weakest ∈ lw_g := tg_of (List.mem_append_left _ (List.mem_of_getElem? (i := 34) rfl)) rfl
theorem ms_35 : Cond.selects "BallotDeskModel" yn_M_pathWinners yn_M_pathWinners ∈ lw_g := tg_of (List.mem_append_left _ (List.mem_of_getElem? (i := 35) rfl)) rfl
theorem ms_36 : Cond.selects "BallotDeskModel" yn_M_findPaths yn_M_findPaths ∈ lw_g := tg_of (List.mem_append_left _ (List.mem_of_getElem? (i := 36) rfl)) rfl
theorem ms_37 : Cond.selects "BallotDeskModel" yn_M_lockWinners yn_M_lockWinners ∈ lw_g := tg_of (List.mem_append_left _ (List.mem_of_getElem? (i := 37) rfl)) rfl
theorem ms_38 : Cond.selects "BallotDeskModel" yn_M_sooner yn_M_sooner ∈ lw_g := tg_of (List.mem_append_left _ (List.mem_of_getElem? (i := 38) rfl)) rfl
theorem ms_39 : Cond.selects "BallotDeskModel" yn_M_tiePlace yn_M_tiePlace ∈ lw_g := tg_of (List.mem_append_left _ (List.mem_of_getElem? (i := 39) rfl)) rfl
theorem ms_40 : Cond.selects "BallotDeskModel" yn_M_leads yn_M_leads ∈ lw_g := tg_of (List.mem_append_left _ (List.mem_of_getElem? (i := 40) rfl)) rfl
theorem ms_41 : Cond.selects "BallotDeskModel" yn_M_agreeing yn_M_agreeing ∈ lw_g := tg_of (List.mem_append_left _ (List.mem_of_getElem? (i := 41) rfl)) rfl
theorem ms_42 : Cond.selects "BallotDeskModel" yn_M_findLeast yn_M_findLeast ∈ lw_g := tg_of (List.mem_append_left _ (List.mem_of_getElem? (i := 42) rfl)) rfl
theorem ms_43 : Cond.selects "BallotDeskModel" yn_M_over yn_M_over ∈ lw_g := tg_of (List.mem_append_left _ (List.mem_of_getElem? (i := 43) rfl)) rfl
theorem ms_44 : Cond.selects "BallotDeskModel" yn_M_uncovered yn_M_uncovered ∈ lw_g := tg_of (List.mem_append_left _ (List.mem_of_getElem? (i := 44) rfl)) rfl
theorem ms_45 : Cond.selects "BallotDeskModel" yn_M_byAgenda yn_M_byAgenda ∈ lw_g := tg_of (List.mem_append_left _ (List.mem_of_getElem? (i := 45) rfl)) rfl
theorem ms_46 : Cond.selects "BallotDeskModel" yn_M_firstOf yn_M_firstOf ∈ lw_g := tg_of (List.mem_append_left _ (List.mem_of_getElem? (i := 46) rfl)) rfl
theorem ms_47 : Cond.selects "BallotDeskModel" yn_M_isCandidate yn_M_isCandidate ∈ lw_g := tg_of (List.mem_append_left _ (List.mem_of_getElem? (i := 47) rfl)) rfl
theorem ms_48 : Cond.selects "BallotDeskModel" yn_M_findAgreed yn_M_findAgreed ∈ lw_g := tg_of (List.mem_append_left _ (List.mem_of_getElem? (i := 48) rfl)) rfl
theorem ms_49 : Cond.selects "BallotDeskModel" yn_M_firstOrder yn_M_firstOrder ∈ lw_g := tg_of (List.mem_append_left _ (List.mem_of_getElem? (i := 49) rfl)) rfl
theorem ms_50 : Cond.selects "BallotDeskModel" yn_M_disagreementOf yn_M_disagreementOf ∈ lw_g := tg_of (List.mem_append_left _ (List.mem_of_getElem? (i := 50) rfl)) rfl
theorem ms_51 : Cond.selects "BallotDeskModel" yn_M_sooner2 yn_M_sooner2 ∈ lw_g := tg_of (List.mem_append_left _ (List.mem_of_getElem? (i := 51) rfl)) rfl
theorem ms_52 : Cond.selects "BallotDeskModel" yn_M_nextOrder yn_M_nextOrder ∈ lw_g := tg_of (List.mem_append_left _ (List.mem_of_getElem? (i := 52) rfl)) rfl
theorem ms_53 : Cond.selects "BallotDeskModel" yn_M_brokenByPairs yn_M_brokenByPairs ∈ lw_g := tg_of (List.mem_append_left _ (List.mem_of_getElem? (i := 53) rfl)) rfl
theorem ms_54 : Cond.selects "BallotDeskModel" yn_M_over2 yn_M_over2 ∈ lw_g := tg_of (List.mem_append_left _ (List.mem_of_getElem? (i := 54) rfl)) rfl
theorem ms_55 : Cond.selects "BallotDeskModel" yn_M_brokenByType yn_M_brokenByType ∈ lw_g := tg_of (List.mem_append_left _ (List.mem_of_getElem? (i := 55) rfl)) rfl
theorem ms_56 : Cond.selects "BallotDeskModel" yn_M_brokenByLeaving yn_M_brokenByLeaving ∈ lw_g := tg_of (List.mem_append_left _ (List.mem_of_getElem? (i := 56) rfl)) rfl
theorem ms_57 : Cond.selects "BallotDeskModel" yn_M_leaveOut yn_M_leaveOut ∈ lw_g := tg_of (List.mem_append_left _ (List.mem_of_getElem? (i := 57) rfl)) rfl
theorem ms_58 : Cond.selects "BallotDeskModel" yn_M_without yn_M_without ∈ lw_g := tg_of (List.mem_append_left _ (List.mem_of_getElem? (i := 58) rfl)) rfl
theorem iw_D : ∀ w ∈ u_ws rc_D tf_D 5, w ∈ lw_g := fun w h => tg_of ((by decide +kernel : ∀ w ∈ u_ws rc_D tf_D 5, w ∈ lw_tbl) w h) ((by decide +kernel : ∀ w ∈ u_ws rc_D tf_D 5, goodWord w = true) w h)
theorem iw_P : ∀ w ∈ u_ws rc_P tf_P 9, w ∈ lw_g := fun w h => tg_of ((by decide +kernel : ∀ w ∈ u_ws rc_P tf_P 9, w ∈ lw_tbl) w h) ((by decide +kernel : ∀ w ∈ u_ws rc_P tf_P 9, goodWord w = true) w h)
theorem iw_R : ∀ w ∈ u_ws rc_R tf_R 5, w ∈ lw_g := fun w h => tg_of ((by decide +kernel : ∀ w ∈ u_ws rc_R tf_R 5, w ∈ lw_tbl) w h) ((by decide +kernel : ∀ w ∈ u_ws rc_R tf_R 5, goodWord w = true) w h)
theorem iw_E : ∀ w ∈ u_ws rc_E tf_E 2, w ∈ lw_g := fun w h => tg_of ((by decide +kernel : ∀ w ∈ u_ws rc_E tf_E 2, w ∈ lw_tbl) w h) ((by decide +kernel : ∀ w ∈ u_ws rc_E tf_E 2, goodWord w = true) w h)
theorem iw_H : ∀ w ∈ u_ws rc_H tf_H 1, w ∈ lw_g := fun w h => tg_of ((by decide +kernel : ∀ w ∈ u_ws rc_H tf_H 1, w ∈ lw_tbl) w h) ((by decide +kernel : ∀ w ∈ u_ws rc_H tf_H 1, goodWord w = true) w h)
theorem iw_K : ∀ w ∈ u_ws rc_K tf_K 3, w ∈ lw_g := fun w h => tg_of ((by decide +kernel : ∀ w ∈ u_ws rc_K tf_K 3, w ∈ lw_tbl) w h) ((by decide +kernel : ∀ w ∈ u_ws rc_K tf_K 3, goodWord w = true) w h)
theorem iw_A : ∀ w ∈ u_ws rc_A tf_A 2, w ∈ lw_g := fun w h => tg_of ((by decide +kernel : ∀ w ∈ u_ws rc_A tf_A 2, w ∈ lw_tbl) w h) ((by decide +kernel : ∀ w ∈ u_ws rc_A tf_A 2, goodWord w = true) w h)
theorem iw_W : ∀ w ∈ u_ws rc_W tf_W 4, w ∈ lw_g := fun w h => tg_of ((by decide +kernel : ∀ w ∈ u_ws rc_W tf_W 4, w ∈ lw_tbl) w h) ((by decide +kernel : ∀ w ∈ u_ws rc_W tf_W 4, goodWord w = true) w h)
theorem iw_S : ∀ w ∈ u_ws rc_S tf_S 2, w ∈ lw_g := fun w h => tg_of ((by decide +kernel : ∀ w ∈ u_ws rc_S tf_S 2, w ∈ lw_tbl) w h) ((by decide +kernel : ∀ w ∈ u_ws rc_S tf_S 2, goodWord w = true) w h)
theorem iw_M : ∀ w ∈ u_ws rc_M tf_M 24, w ∈ lw_g := fun w h => tg_of ((by decide +kernel : ∀ w ∈ u_ws rc_M tf_M 24, w ∈ lw_tbl) w h) ((by decide +kernel : ∀ w ∈ u_ws rc_M tf_M 24, goodWord w = true) w h)
end
section
theorem dc_D_init_0 : decode cb_D_init 0 = .ok (.aload_n 0, 1) := by decide +kernel
theorem dc_D_init_1 : decode cb_D_init 1 = .ok (.invokespecial 3, 3) := by decide +kernel
theorem dc_D_init_4 : decode cb_D_init 4 = .ok (.aload_n 0, 1) := by decide +kernel
theorem dc_D_init_5 : decode cb_D_init 5 = .ok (.new 9, 3) := by decide +kernel
theorem dc_D_init_8 : decode cb_D_init 8 = .ok (.dup, 1) := by decide +kernel
theorem dc_D_init_9 : decode cb_D_init 9 = .ok (.invokespecial 11, 3) := by decide +kernel
theorem dc_D_init_12 : decode cb_D_init 12 = .ok (.putfield 12, 3) := by decide +kernel
theorem dc_D_init_15 : decode cb_D_init 15 = .ok (.aload_n 0, 1) := by decide +kernel
theorem dc_D_init_16 : decode cb_D_init 16 = .ok (.getfield 12, 3) := by decide +kernel
theorem dc_D_init_19 : decode cb_D_init 19 = .ok (.iconst 4, 1) := by decide +kernel
theorem dc_D_init_20 : decode cb_D_init 20 = .ok (.invokevirtual 16, 3) := by decide +kernel
theorem dc_D_init_23 : decode cb_D_init 23 = .ok (.aload_n 0, 1) := by decide +kernel
theorem dc_D_init_24 : decode cb_D_init 24 = .ok (.new 20, 3) := by decide +kernel
theorem dc_D_init_27 : decode cb_D_init 27 = .ok (.dup, 1) := by decide +kernel
theorem dc_D_init_28 : decode cb_D_init 28 = .ok (.invokespecial 22, 3) := by decide +kernel
theorem dc_D_init_31 : decode cb_D_init 31 = .ok (.putfield 23, 3) := by decide +kernel
theorem dc_D_init_34 : decode cb_D_init 34 = .ok (.aload_n 0, 1) := by decide +kernel
theorem dc_D_init_35 : decode cb_D_init 35 = .ok (.aload_n 0, 1) := by decide +kernel
theorem dc_D_init_36 : decode cb_D_init 36 = .ok (.getfield 23, 3) := by decide +kernel
theorem dc_D_init_39 : decode cb_D_init 39 = .ok (.getfield 27, 3) := by decide +kernel
theorem dc_D_init_42 : decode cb_D_init 42 = .ok (.putfield 31, 3) := by decide +kernel
theorem dc_D_init_45 : decode cb_D_init 45 = .ok (.aload_n 0, 1) := by decide +kernel
theorem dc_D_init_46 : decode cb_D_init 46 = .ok (.iconst (-1), 1) := by decide +kernel
theorem dc_D_init_47 : decode cb_D_init 47 = .ok (.putfield 32, 3) := by decide +kernel
theorem dc_D_init_50 : decode cb_D_init 50 = .ok (.aload_n 0, 1) := by decide +kernel
theorem dc_D_init_51 : decode cb_D_init 51 = .ok (.iconst (-1), 1) := by decide +kernel
theorem dc_D_init_52 : decode cb_D_init 52 = .ok (.putfield 36, 3) := by decide +kernel
theorem dc_D_init_55 : decode cb_D_init 55 = .ok (.return_, 1) := by decide +kernel
theorem dc_D_candidates_0 : decode cb_D_candidates 0 = .ok (.iload_n 1, 1) := by decide +kernel
theorem dc_D_candidates_1 : decode cb_D_candidates 1 = .ok (.iconst 2, 1) := by decide +kernel
theorem dc_D_candidates_2 : decode cb_D_candidates 2 = .ok (.if_icmp .lt 13, 3) := by decide +kernel
theorem dc_D_candidates_5 : decode cb_D_candidates 5 = .ok (.iload_n 1, 1) := by decide +kernel
theorem dc_D_candidates_6 : decode cb_D_candidates 6 = .ok (.bipush 7, 2) := by decide +kernel
theorem dc_D_candidates_8 : decode cb_D_candidates 8 = .ok (.if_icmp .gt 7, 3) := by decide +kernel
theorem dc_D_candidates_11 : decode cb_D_candidates 11 = .ok (.iconst 1, 1) := by decide +kernel
theorem dc_D_candidates_12 : decode cb_D_candidates 12 = .ok (.goto 4, 3) := by decide +kernel
theorem dc_D_candidates_15 : decode cb_D_candidates 15 = .ok (.iconst 0, 1) := by decide +kernel
theorem dc_D_candidates_16 : decode cb_D_candidates 16 = .ok (.invokestatic 39, 3) := by decide +kernel
theorem dc_D_candidates_19 : decode cb_D_candidates 19 = .ok (.aload_n 0, 1) := by decide +kernel
theorem dc_D_candidates_20 : decode cb_D_candidates 20 = .ok (.getfield 12, 3) := by decide +kernel
theorem dc_D_candidates_23 : decode cb_D_candidates 23 = .ok (.getfield 43, 3) := by decide +kernel
theorem dc_D_candidates_26 : decode cb_D_candidates 26 = .ok (.istore_n 2, 1) := by decide +kernel
theorem dc_D_candidates_27 : decode cb_D_candidates 27 = .ok (.aload_n 0, 1) := by decide +kernel
theorem dc_D_candidates_28 : decode cb_D_candidates 28 = .ok (.getfield 12, 3) := by decide +kernel
theorem dc_D_candidates_31 : decode cb_D_candidates 31 = .ok (.iload_n 1, 1) := by decide +kernel
theorem dc_D_candidates_32 : decode cb_D_candidates 32 = .ok (.invokevirtual 16, 3) := by decide +kernel
theorem dc_D_candidates_35 : decode cb_D_candidates 35 = .ok (.iload_n 2, 1) := by decide +kernel
theorem dc_D_candidates_36 : decode cb_D_candidates 36 = .ok (.ireturn, 1) := by decide +kernel
theorem dc_D_ballot_0 : decode cb_D_ballot 0 = .ok (.iload_n 1, 1) := by decide +kernel
theorem dc_D_ballot_1 : decode cb_D_ballot 1 = .ok (.aload_n 0, 1) := by decide +kernel
theorem dc_D_ballot_2 : decode cb_D_ballot 2 = .ok (.getfield 12, 3) := by decide +kernel
theorem dc_D_ballot_5 : decode cb_D_ballot 5 = .ok (.getfield 43, 3) := by decide +kernel
theorem dc_D_ballot_8 : decode cb_D_ballot 8 = .ok (.invokestatic 46, 3) := by decide +kernel
theorem dc_D_ballot_11 : decode cb_D_ballot 11 = .ok (.ifCond .eq 14, 3) := by decide +kernel
theorem dc_D_ballot_14 : decode cb_D_ballot 14 = .ok (.iload_n 2, 1) := by decide +kernel
theorem dc_D_ballot_15 : decode cb_D_ballot 15 = .ok (.invokestatic 52, 3) := by decide +kernel
theorem dc_D_ballot_18 : decode cb_D_ballot 18 = .ok (.ifCond .eq 7, 3) := by decide +kernel
theorem dc_D_ballot_21 : decode cb_D_ballot 21 = .ok (.iconst 1, 1) := by decide +kernel
theorem dc_D_ballot_22 : decode cb_D_ballot 22 = .ok (.goto 4, 3) := by decide +kernel
theorem dc_D_ballot_25 : decode cb_D_ballot 25 = .ok (.iconst 0, 1) := by decide +kernel
theorem dc_D_ballot_26 : decode cb_D_ballot 26 = .ok (.invokestatic 39, 3) := by decide +kernel
theorem dc_D_ballot_29 : decode cb_D_ballot 29 = .ok (.aload_n 0, 1) := by decide +kernel
theorem dc_D_ballot_30 : decode cb_D_ballot 30 = .ok (.getfield 12, 3) := by decide +kernel
theorem dc_D_ballot_33 : decode cb_D_ballot 33 = .ok (.getfield 56, 3) := by decide +kernel
theorem dc_D_ballot_36 : decode cb_D_ballot 36 = .ok (.bipush 20, 2) := by decide +kernel
theorem dc_D_ballot_38 : decode cb_D_ballot 38 = .ok (.if_icmp .lt 11, 3) := by decide +kernel
theorem dc_D_ballot_41 : decode cb_D_ballot 41 = .ok (.new 59, 3) := by decide +kernel
theorem dc_D_ballot_44 : decode cb_D_ballot 44 = .ok (.dup, 1) := by decide +kernel
theorem dc_D_ballot_45 : decode cb_D_ballot 45 = .ok (.invokespecial 61, 3) := by decide +kernel
theorem dc_D_ballot_48 : decode cb_D_ballot 48 = .ok (.athrow, 1) := by decide +kernel
theorem dc_D_ballot_49 : decode cb_D_ballot 49 = .ok (.aload_n 0, 1) := by decide +kernel
theorem dc_D_ballot_50 : decode cb_D_ballot 50 = .ok (.getfield 12, 3) := by decide +kernel
theorem dc_D_ballot_53 : decode cb_D_ballot 53 = .ok (.iload_n 1, 1) := by decide +kernel
theorem dc_D_ballot_54 : decode cb_D_ballot 54 = .ok (.iload_n 2, 1) := by decide +kernel
theorem dc_D_ballot_55 : decode cb_D_ballot 55 = .ok (.invokevirtual 62, 3) := by decide +kernel
theorem dc_D_ballot_58 : decode cb_D_ballot 58 = .ok (.ireturn, 1) := by decide +kernel
theorem dc_D_amount_0 : decode cb_D_amount 0 = .ok (.aload_n 0, 1) := by decide +kernel
theorem dc_D_amount_1 : decode cb_D_amount 1 = .ok (.iload_n 1, 1) := by decide +kernel
theorem dc_D_amount_2 : decode cb_D_amount 2 = .ok (.invokevirtual 66, 3) := by decide +kernel
theorem dc_D_amount_5 : decode cb_D_amount 5 = .ok (.invokestatic 69, 3) := by decide +kernel
theorem dc_D_amount_8 : decode cb_D_amount 8 = .ok (.iload_n 2, 1) := by decide +kernel
theorem dc_D_amount_9 : decode cb_D_amount 9 = .ok (.invokestatic 52, 3) := by decide +kernel
theorem dc_D_amount_12 : decode cb_D_amount 12 = .ok (.invokestatic 39, 3) := by decide +kernel
theorem dc_D_amount_15 : decode cb_D_amount 15 = .ok (.aload_n 0, 1) := by decide +kernel
theorem dc_D_amount_16 : decode cb_D_amount 16 = .ok (.getfield 12, 3) := by decide +kernel
theorem dc_D_amount_19 : decode cb_D_amount 19 = .ok (.getfield 72, 3) := by decide +kernel
theorem dc_D_amount_22 : decode cb_D_amount 22 = .ok (.iload_n 1, 1) := by decide +kernel
theorem dc_D_amount_23 : decode cb_D_amount 23 = .ok (.iaload, 1) := by decide +kernel
theorem dc_D_amount_24 : decode cb_D_amount 24 = .ok (.istore_n 3, 1) := by decide +kernel
theorem dc_D_amount_25 : decode cb_D_amount 25 = .ok (.aload_n 0, 1) := by decide +kernel
theorem dc_D_amount_26 : decode cb_D_amount 26 = .ok (.getfield 12, 3) := by decide +kernel
theorem dc_D_amount_29 : decode cb_D_amount 29 = .ok (.iload_n 1, 1) := by decide +kernel
theorem dc_D_amount_30 : decode cb_D_amount 30 = .ok (.aload_n 0, 1) := by decide +kernel
theorem dc_D_amount_31 : decode cb_D_amount 31 = .ok (.getfield 12, 3) := by decide +kernel
theorem dc_D_amount_34 : decode cb_D_amount 34 = .ok (.getfield 76, 3) := by decide +kernel
theorem dc_D_amount_37 : decode cb_D_amount 37 = .ok (.iload_n 1, 1) := by decide +kernel
theorem dc_D_amount_38 : decode cb_D_amount 38 = .ok (.iaload, 1) := by decide +kernel
theorem dc_D_amount_39 : decode cb_D_amount 39 = .ok (.iload_n 2, 1) := by decide +kernel
theorem dc_D_amount_40 : decode cb_D_amount 40 = .ok (.invokevirtual 79, 3) := by decide +kernel
theorem dc_D_amount_43 : decode cb_D_amount 43 = .ok (.iload_n 3, 1) := by decide +kernel
theorem dc_D_amount_44 : decode cb_D_amount 44 = .ok (.ireturn, 1) := by decide +kernel
theorem dc_D_drop_0 : decode cb_D_drop 0 = .ok (.aload_n 0, 1) := by decide +kernel
theorem dc_D_drop_1 : decode cb_D_drop 1 = .ok (.iload_n 1, 1) := by decide +kernel
theorem dc_D_drop_2 : decode cb_D_drop 2 = .ok (.invokevirtual 66, 3) := by decide +kernel
theorem dc_D_drop_5 : decode cb_D_drop 5 = .ok (.invokestatic 69, 3) := by decide +kernel
theorem dc_D_drop_8 : decode cb_D_drop 8 = .ok (.aload_n 0, 1) := by decide +kernel
theorem dc_D_drop_9 : decode cb_D_drop 9 = .ok (.getfield 12, 3) := by decide +kernel
theorem dc_D_drop_12 : decode cb_D_drop 12 = .ok (.iload_n 1, 1) := by decide +kernel
theorem dc_D_drop_13 : decode cb_D_drop 13 = .ok (.invokevirtual 83, 3) := by decide +kernel
theorem dc_D_drop_16 : decode cb_D_drop 16 = .ok (.aload_n 0, 1) := by decide +kernel
theorem dc_D_drop_17 : decode cb_D_drop 17 = .ok (.getfield 12, 3) := by decide +kernel
theorem dc_D_drop_20 : decode cb_D_drop 20 = .ok (.getfield 56, 3) := by decide +kernel
theorem dc_D_drop_23 : decode cb_D_drop 23 = .ok (.ireturn, 1) := by decide +kernel
theorem dc_D_tieOrder_0 : decode cb_D_tieOrder 0 = .ok (.iload_n 1, 1) := by decide +kernel
theorem dc_D_tieOrder_1 : decode cb_D_tieOrder 1 = .ok (.aload_n 0, 1) := by decide +kernel
theorem dc_D_tieOrder_2 : decode cb_D_tieOrder 2 = .ok (.getfield 12, 3) := by decide +kernel
theorem dc_D_tieOrder_5 : decode cb_D_tieOrder 5 = .ok (.getfield 43, 3) := by decide +kernel
theorem dc_D_tieOrder_8 : decode cb_D_tieOrder 8 = .ok (.invokestatic 46, 3) := by decide +kernel
theorem dc_D_tieOrder_11 : decode cb_D_tieOrder 11 = .ok (.invokestatic 39, 3) := by decide +kernel
theorem dc_D_tieOrder_14 : decode cb_D_tieOrder 14 = .ok (.aload_n 0, 1) := by decide +kernel
theorem dc_D_tieOrder_15 : decode cb_D_tieOrder 15 = .ok (.getfield 12, 3) := by decide +kernel
theorem dc_D_tieOrder_18 : decode cb_D_tieOrder 18 = .ok (.getfield 86, 3) := by decide +kernel
theorem dc_D_tieOrder_21 : decode cb_D_tieOrder 21 = .ok (.istore_n 2, 1) := by decide +kernel
theorem dc_D_tieOrder_22 : decode cb_D_tieOrder 22 = .ok (.aload_n 0, 1) := by decide +kernel
theorem dc_D_tieOrder_23 : decode cb_D_tieOrder 23 = .ok (.getfield 12, 3) := by decide +kernel
theorem dc_D_tieOrder_26 : decode cb_D_tieOrder 26 = .ok (.iload_n 1, 1) := by decide +kernel
theorem dc_D_tieOrder_27 : decode cb_D_tieOrder 27 = .ok (.putfield 86, 3) := by decide +kernel
theorem dc_D_tieOrder_30 : decode cb_D_tieOrder 30 = .ok (.iload_n 2, 1) := by decide +kernel
theorem dc_D_tieOrder_31 : decode cb_D_tieOrder 31 = .ok (.ireturn, 1) := by decide +kernel
theorem dc_D_agenda_0 : decode cb_D_agenda 0 = .ok (.iload_n 1, 1) := by decide +kernel
theorem dc_D_agenda_1 : decode cb_D_agenda 1 = .ok (.aload_n 0, 1) := by decide +kernel
theorem dc_D_agenda_2 : decode cb_D_agenda 2 = .ok (.getfield 12, 3) := by decide +kernel
theorem dc_D_agenda_5 : decode cb_D_agenda 5 = .ok (.getfield 43, 3) := by decide +kernel
theorem dc_D_agenda_8 : decode cb_D_agenda 8 = .ok (.invokestatic 46, 3) := by decide +kernel
theorem dc_D_agenda_11 : decode cb_D_agenda 11 = .ok (.invokestatic 39, 3) := by decide +kernel
theorem dc_D_agenda_14 : decode cb_D_agenda 14 = .ok (.aload_n 0, 1) := by decide +kernel
theorem dc_D_agenda_15 : decode cb_D_agenda 15 = .ok (.getfield 12, 3) := by decide +kernel
theorem dc_D_agenda_18 : decode cb_D_agenda 18 = .ok (.getfield 89, 3) := by decide +kernel
theorem dc_D_agenda_21 : decode cb_D_agenda 21 = .ok (.istore_n 2, 1) := by decide +kernel
theorem dc_D_agenda_22 : decode cb_D_agenda 22 = .ok (.aload_n 0, 1) := by decide +kernel
theorem dc_D_agenda_23 : decode cb_D_agenda 23 = .ok (.getfield 12, 3) := by decide +kernel
theorem dc_D_agenda_26 : decode cb_D_agenda 26 = .ok (.iload_n 1, 1) := by decide +kernel
theorem dc_D_agenda_27 : decode cb_D_agenda 27 = .ok (.putfield 89, 3) := by decide +kernel
theorem dc_D_agenda_30 : decode cb_D_agenda 30 = .ok (.iload_n 2, 1) := by decide +kernel
theorem dc_D_agenda_31 : decode cb_D_agenda 31 = .ok (.ireturn, 1) := by decide +kernel
theorem dc_D_weight_0 : decode cb_D_weight 0 = .ok (.iload_n 1, 1) := by decide +kernel
theorem dc_D_weight_1 : decode cb_D_weight 1 = .ok (.ifCond .lt 18, 3) := by decide +kernel
theorem dc_D_weight_4 : decode cb_D_weight 4 = .ok (.iload_n 1, 1) := by decide +kernel
theorem dc_D_weight_5 : decode cb_D_weight 5 = .ok (.aload_n 0, 1) := by decide +kernel
theorem dc_D_weight_6 : decode cb_D_weight 6 = .ok (.getfield 12, 3) := by decide +kernel
theorem dc_D_weight_9 : decode cb_D_weight 9 = .ok (.getfield 43, 3) := by decide +kernel
theorem dc_D_weight_12 : decode cb_D_weight 12 = .ok (.if_icmp .ge 7, 3) := by decide +kernel
theorem dc_D_weight_15 : decode cb_D_weight 15 = .ok (.iconst 1, 1) := by decide +kernel
theorem dc_D_weight_16 : decode cb_D_weight 16 = .ok (.goto 4, 3) := by decide +kernel
theorem dc_D_weight_19 : decode cb_D_weight 19 = .ok (.iconst 0, 1) := by decide +kernel
theorem dc_D_weight_20 : decode cb_D_weight 20 = .ok (.invokestatic 69, 3) := by decide +kernel
theorem dc_D_weight_23 : decode cb_D_weight 23 = .ok (.iload_n 2, 1) := by decide +kernel
theorem dc_D_weight_24 : decode cb_D_weight 24 = .ok (.ifCond .lt 14, 3) := by decide +kernel
theorem dc_D_weight_27 : decode cb_D_weight 27 = .ok (.iload_n 2, 1) := by decide +kernel
theorem dc_D_weight_28 : decode cb_D_weight 28 = .ok (.sipush 1000, 3) := by decide +kernel
theorem dc_D_weight_31 : decode cb_D_weight 31 = .ok (.if_icmp .gt 7, 3) := by decide +kernel
theorem dc_D_weight_34 : decode cb_D_weight 34 = .ok (.iconst 1, 1) := by decide +kernel
theorem dc_D_weight_35 : decode cb_D_weight 35 = .ok (.goto 4, 3) := by decide +kernel
theorem dc_D_weight_38 : decode cb_D_weight 38 = .ok (.iconst 0, 1) := by decide +kernel
theorem dc_D_weight_39 : decode cb_D_weight 39 = .ok (.invokestatic 39, 3) := by decide +kernel
theorem dc_D_weight_42 : decode cb_D_weight 42 = .ok (.aload_n 0, 1) := by decide +kernel
theorem dc_D_weight_43 : decode cb_D_weight 43 = .ok (.getfield 12, 3) := by decide +kernel
theorem dc_D_weight_46 : decode cb_D_weight 46 = .ok (.getfield 92, 3) := by decide +kernel
theorem dc_D_weight_49 : decode cb_D_weight 49 = .ok (.iload_n 1, 1) := by decide +kernel
theorem dc_D_weight_50 : decode cb_D_weight 50 = .ok (.iaload, 1) := by decide +kernel
theorem dc_D_weight_51 : decode cb_D_weight 51 = .ok (.istore_n 3, 1) := by decide +kernel
theorem dc_D_weight_52 : decode cb_D_weight 52 = .ok (.aload_n 0, 1) := by decide +kernel
theorem dc_D_weight_53 : decode cb_D_weight 53 = .ok (.getfield 12, 3) := by decide +kernel
theorem dc_D_weight_56 : decode cb_D_weight 56 = .ok (.getfield 92, 3) := by decide +kernel
theorem dc_D_weight_59 : decode cb_D_weight 59 = .ok (.iload_n 1, 1) := by decide +kernel
theorem dc_D_weight_60 : decode cb_D_weight 60 = .ok (.iload_n 2, 1) := by decide +kernel
theorem dc_D_weight_61 : decode cb_D_weight 61 = .ok (.iastore, 1) := by decide +kernel
theorem dc_D_weight_62 : decode cb_D_weight 62 = .ok (.iload_n 3, 1) := by decide +kernel
theorem dc_D_weight_63 : decode cb_D_weight 63 = .ok (.ireturn, 1) := by decide +kernel
theorem dc_D_winners_0 : decode cb_D_winners 0 = .ok (.iload_n 1, 1) := by decide +kernel
theorem dc_D_winners_1 : decode cb_D_winners 1 = .ok (.invokestatic 95, 3) := by decide +kernel
theorem dc_D_winners_4 : decode cb_D_winners 4 = .ok (.invokestatic 69, 3) := by decide +kernel
theorem dc_D_winners_7 : decode cb_D_winners 7 = .ok (.aload_n 0, 1) := by decide +kernel
theorem dc_D_winners_8 : decode cb_D_winners 8 = .ok (.getfield 31, 3) := by decide +kernel
theorem dc_D_winners_11 : decode cb_D_winners 11 = .ok (.aload_n 0, 1) := by decide +kernel
theorem dc_D_winners_12 : decode cb_D_winners 12 = .ok (.getfield 12, 3) := by decide +kernel
theorem dc_D_winners_15 : decode cb_D_winners 15 = .ok (.iload_n 1, 1) := by decide +kernel
theorem dc_D_winners_16 : decode cb_D_winners 16 = .ok (.invokevirtual 98, 3) := by decide +kernel
theorem dc_D_winners_19 : decode cb_D_winners 19 = .ok (.ireturn, 1) := by decide +kernel
theorem dc_D_winner_0 : decode cb_D_winner 0 = .ok (.iload_n 1, 1) := by decide +kernel
theorem dc_D_winner_1 : decode cb_D_winner 1 = .ok (.invokestatic 95, 3) := by decide +kernel
theorem dc_D_winner_4 : decode cb_D_winner 4 = .ok (.invokestatic 69, 3) := by decide +kernel
theorem dc_D_winner_7 : decode cb_D_winner 7 = .ok (.aload_n 0, 1) := by decide +kernel
theorem dc_D_winner_8 : decode cb_D_winner 8 = .ok (.getfield 31, 3) := by decide +kernel
theorem dc_D_winner_11 : decode cb_D_winner 11 = .ok (.aload_n 0, 1) := by decide +kernel
theorem dc_D_winner_12 : decode cb_D_winner 12 = .ok (.getfield 12, 3) := by decide +kernel
theorem dc_D_winner_15 : decode cb_D_winner 15 = .ok (.iload_n 1, 1) := by decide +kernel
theorem dc_D_winner_16 : decode cb_D_winner 16 = .ok (.invokevirtual 104, 3) := by decide +kernel
theorem dc_D_winner_19 : decode cb_D_winner 19 = .ok (.ireturn, 1) := by decide +kernel
theorem dc_D_score_0 : decode cb_D_score 0 = .ok (.iload_n 1, 1) := by decide +kernel
theorem dc_D_score_1 : decode cb_D_score 1 = .ok (.invokestatic 95, 3) := by decide +kernel
theorem dc_D_score_4 : decode cb_D_score 4 = .ok (.ifCond .eq 15, 3) := by decide +kernel
theorem dc_D_score_7 : decode cb_D_score 7 = .ok (.aload_n 0, 1) := by decide +kernel
theorem dc_D_score_8 : decode cb_D_score 8 = .ok (.iload_n 2, 1) := by decide +kernel
theorem dc_D_score_9 : decode cb_D_score 9 = .ok (.invokevirtual 107, 3) := by decide +kernel
theorem dc_D_score_12 : decode cb_D_score 12 = .ok (.ifCond .eq 7, 3) := by decide +kernel
theorem dc_D_score_15 : decode cb_D_score 15 = .ok (.iconst 1, 1) := by decide +kernel
theorem dc_D_score_16 : decode cb_D_score 16 = .ok (.goto 4, 3) := by decide +kernel
theorem dc_D_score_19 : decode cb_D_score 19 = .ok (.iconst 0, 1) := by decide +kernel
theorem dc_D_score_20 : decode cb_D_score 20 = .ok (.invokestatic 69, 3) := by decide +kernel
theorem dc_D_score_23 : decode cb_D_score 23 = .ok (.iload_n 1, 1) := by decide +kernel
theorem dc_D_score_24 : decode cb_D_score 24 = .ok (.invokestatic 110, 3) := by decide +kernel
theorem dc_D_score_27 : decode cb_D_score 27 = .ok (.invokestatic 39, 3) := by decide +kernel
theorem dc_D_score_30 : decode cb_D_score 30 = .ok (.aload_n 0, 1) := by decide +kernel
theorem dc_D_score_31 : decode cb_D_score 31 = .ok (.getfield 12, 3) := by decide +kernel
theorem dc_D_score_34 : decode cb_D_score 34 = .ok (.iload_n 1, 1) := by decide +kernel
theorem dc_D_score_35 : decode cb_D_score 35 = .ok (.iload_n 2, 1) := by decide +kernel
theorem dc_D_score_36 : decode cb_D_score 36 = .ok (.invokestatic 115, 3) := by decide +kernel
theorem dc_D_score_39 : decode cb_D_score 39 = .ok (.lreturn, 1) := by decide +kernel
theorem dc_D_pair_0 : decode cb_D_pair 0 = .ok (.aload_n 0, 1) := by decide +kernel
theorem dc_D_pair_1 : decode cb_D_pair 1 = .ok (.iload_n 1, 1) := by decide +kernel
theorem dc_D_pair_2 : decode cb_D_pair 2 = .ok (.invokevirtual 107, 3) := by decide +kernel
theorem dc_D_pair_5 : decode cb_D_pair 5 = .ok (.ifCond .eq 15, 3) := by decide +kernel
theorem dc_D_pair_8 : decode cb_D_pair 8 = .ok (.aload_n 0, 1) := by decide +kernel
theorem dc_D_pair_9 : decode cb_D_pair 9 = .ok (.iload_n 2, 1) := by decide +kernel
theorem dc_D_pair_10 : decode cb_D_pair 10 = .ok (.invokevirtual 107, 3) := by decide +kernel
theorem dc_D_pair_13 : decode cb_D_pair 13 = .ok (.ifCond .eq 7, 3) := by decide +kernel
theorem dc_D_pair_16 : decode cb_D_pair 16 = .ok (.iconst 1, 1) := by decide +kernel
theorem dc_D_pair_17 : decode cb_D_pair 17 = .ok (.goto 4, 3) := by decide +kernel
theorem dc_D_pair_20 : decode cb_D_pair 20 = .ok (.iconst 0, 1) := by decide +kernel
theorem dc_D_pair_21 : decode cb_D_pair 21 = .ok (.invokestatic 69, 3) := by decide +kernel
theorem dc_D_pair_24 : decode cb_D_pair 24 = .ok (.aload_n 0, 1) := by decide +kernel
theorem dc_D_pair_25 : decode cb_D_pair 25 = .ok (.getfield 12, 3) := by decide +kernel
theorem dc_D_pair_28 : decode cb_D_pair 28 = .ok (.getfield 119, 3) := by decide +kernel
theorem dc_D_pair_31 : decode cb_D_pair 31 = .ok (.iload_n 1, 1) := by decide +kernel
theorem dc_D_pair_32 : decode cb_D_pair 32 = .ok (.aaload, 1) := by decide +kernel
theorem dc_D_pair_33 : decode cb_D_pair 33 = .ok (.iload_n 2, 1) := by decide +kernel
theorem dc_D_pair_34 : decode cb_D_pair 34 = .ok (.iaload, 1) := by decide +kernel
theorem dc_D_pair_35 : decode cb_D_pair 35 = .ok (.ireturn, 1) := by decide +kernel
theorem dc_D_path_0 : decode cb_D_path 0 = .ok (.aload_n 0, 1) := by decide +kernel
theorem dc_D_path_1 : decode cb_D_path 1 = .ok (.iload_n 1, 1) := by decide +kernel
theorem dc_D_path_2 : decode cb_D_path 2 = .ok (.invokevirtual 107, 3) := by decide +kernel
theorem dc_D_path_5 : decode cb_D_path 5 = .ok (.ifCond .eq 15, 3) := by decide +kernel
theorem dc_D_path_8 : decode cb_D_path 8 = .ok (.aload_n 0, 1) := by decide +kernel
theorem dc_D_path_9 : decode cb_D_path 9 = .ok (.iload_n 2, 1) := by decide +kernel
theorem dc_D_path_10 : decode cb_D_path 10 = .ok (.invokevirtual 107, 3) := by decide +kernel
theorem dc_D_path_13 : decode cb_D_path 13 = .ok (.ifCond .eq 7, 3) := by decide +kernel
theorem dc_D_path_16 : decode cb_D_path 16 = .ok (.iconst 1, 1) := by decide +kernel
theorem dc_D_path_17 : decode cb_D_path 17 = .ok (.goto 4, 3) := by decide +kernel
theorem dc_D_path_20 : decode cb_D_path 20 = .ok (.iconst 0, 1) := by decide +kernel
theorem dc_D_path_21 : decode cb_D_path 21 = .ok (.invokestatic 69, 3) := by decide +kernel
theorem dc_D_path_24 : decode cb_D_path 24 = .ok (.aload_n 0, 1) := by decide +kernel
theorem dc_D_path_25 : decode cb_D_path 25 = .ok (.getfield 31, 3) := by decide +kernel
theorem dc_D_path_28 : decode cb_D_path 28 = .ok (.getfield 123, 3) := by decide +kernel
theorem dc_D_path_31 : decode cb_D_path 31 = .ok (.aload_n 0, 1) := by decide +kernel
theorem dc_D_path_32 : decode cb_D_path 32 = .ok (.getfield 12, 3) := by decide +kernel
theorem dc_D_path_35 : decode cb_D_path 35 = .ok (.invokevirtual 127, 3) := by decide +kernel
theorem dc_D_path_38 : decode cb_D_path 38 = .ok (.aload_n 0, 1) := by decide +kernel
theorem dc_D_path_39 : decode cb_D_path 39 = .ok (.getfield 31, 3) := by decide +kernel
theorem dc_D_path_42 : decode cb_D_path 42 = .ok (.getfield 123, 3) := by decide +kernel
theorem dc_D_path_45 : decode cb_D_path 45 = .ok (.getfield 133, 3) := by decide +kernel
theorem dc_D_path_48 : decode cb_D_path 48 = .ok (.iload_n 1, 1) := by decide +kernel
theorem dc_D_path_49 : decode cb_D_path 49 = .ok (.aaload, 1) := by decide +kernel
theorem dc_D_path_50 : decode cb_D_path 50 = .ok (.iload_n 2, 1) := by decide +kernel
theorem dc_D_path_51 : decode cb_D_path 51 = .ok (.iaload, 1) := by decide +kernel
theorem dc_D_path_52 : decode cb_D_path 52 = .ok (.ireturn, 1) := by decide +kernel
theorem dc_D_branches_0 : decode cb_D_branches 0 = .ok (.aload_n 0, 1) := by decide +kernel
theorem dc_D_branches_1 : decode cb_D_branches 1 = .ok (.getfield 31, 3) := by decide +kernel
theorem dc_D_branches_4 : decode cb_D_branches 4 = .ok (.getfield 136, 3) := by decide +kernel
theorem dc_D_branches_7 : decode cb_D_branches 7 = .ok (.aload_n 0, 1) := by decide +kernel
theorem dc_D_branches_8 : decode cb_D_branches 8 = .ok (.getfield 12, 3) := by decide +kernel
theorem dc_D_branches_11 : decode cb_D_branches 11 = .ok (.invokevirtual 140, 3) := by decide +kernel
theorem dc_D_branches_14 : decode cb_D_branches 14 = .ok (.ireturn, 1) := by decide +kernel
theorem dc_D_step_0 : decode cb_D_step 0 = .ok (.iload_n 1, 1) := by decide +kernel
theorem dc_D_step_1 : decode cb_D_step 1 = .ok (.ifCond .lt 18, 3) := by decide +kernel
theorem dc_D_step_4 : decode cb_D_step 4 = .ok (.iload_n 1, 1) := by decide +kernel
theorem dc_D_step_5 : decode cb_D_step 5 = .ok (.aload_n 0, 1) := by decide +kernel
theorem dc_D_step_6 : decode cb_D_step 6 = .ok (.getfield 12, 3) := by decide +kernel
theorem dc_D_step_9 : decode cb_D_step 9 = .ok (.getfield 43, 3) := by decide +kernel
theorem dc_D_step_12 : decode cb_D_step 12 = .ok (.if_icmp .ge 7, 3) := by decide +kernel
theorem dc_D_step_15 : decode cb_D_step 15 = .ok (.iconst 1, 1) := by decide +kernel
theorem dc_D_step_16 : decode cb_D_step 16 = .ok (.goto 4, 3) := by decide +kernel
theorem dc_D_step_19 : decode cb_D_step 19 = .ok (.iconst 0, 1) := by decide +kernel
theorem dc_D_step_20 : decode cb_D_step 20 = .ok (.invokestatic 69, 3) := by decide +kernel
theorem dc_D_step_23 : decode cb_D_step 23 = .ok (.aload_n 0, 1) := by decide +kernel
theorem dc_D_step_24 : decode cb_D_step 24 = .ok (.getfield 31, 3) := by decide +kernel
theorem dc_D_step_27 : decode cb_D_step 27 = .ok (.getfield 136, 3) := by decide +kernel
theorem dc_D_step_30 : decode cb_D_step 30 = .ok (.aload_n 0, 1) := by decide +kernel
theorem dc_D_step_31 : decode cb_D_step 31 = .ok (.getfield 12, 3) := by decide +kernel
theorem dc_D_step_34 : decode cb_D_step 34 = .ok (.iload_n 1, 1) := by decide +kernel
theorem dc_D_step_35 : decode cb_D_step 35 = .ok (.invokevirtual 146, 3) := by decide +kernel
theorem dc_D_step_38 : decode cb_D_step 38 = .ok (.ireturn, 1) := by decide +kernel
theorem dc_D_disagreement_0 : decode cb_D_disagreement 0 = .ok (.aload_n 0, 1) := by decide +kernel
theorem dc_D_disagreement_1 : decode cb_D_disagreement 1 = .ok (.getfield 31, 3) := by decide +kernel
theorem dc_D_disagreement_4 : decode cb_D_disagreement 4 = .ok (.getfield 149, 3) := by decide +kernel
theorem dc_D_disagreement_7 : decode cb_D_disagreement 7 = .ok (.aload_n 0, 1) := by decide +kernel
theorem dc_D_disagreement_8 : decode cb_D_disagreement 8 = .ok (.getfield 12, 3) := by decide +kernel
theorem dc_D_disagreement_11 : decode cb_D_disagreement 11 = .ok (.invokevirtual 153, 3) := by decide +kernel
theorem dc_D_disagreement_14 : decode cb_D_disagreement 14 = .ok (.lreturn, 1) := by decide +kernel
theorem dc_D_agreed_0 : decode cb_D_agreed 0 = .ok (.aload_n 0, 1) := by decide +kernel
theorem dc_D_agreed_1 : decode cb_D_agreed 1 = .ok (.getfield 31, 3) := by decide +kernel
theorem dc_D_agreed_4 : decode cb_D_agreed 4 = .ok (.getfield 149, 3) := by decide +kernel
theorem dc_D_agreed_7 : decode cb_D_agreed 7 = .ok (.aload_n 0, 1) := by decide +kernel
theorem dc_D_agreed_8 : decode cb_D_agreed 8 = .ok (.getfield 12, 3) := by decide +kernel
theorem dc_D_agreed_11 : decode cb_D_agreed 11 = .ok (.invokevirtual 159, 3) := by decide +kernel
theorem dc_D_agreed_14 : decode cb_D_agreed 14 = .ok (.ireturn, 1) := by decide +kernel
theorem dc_D_change_0 : decode cb_D_change 0 = .ok (.iload_n 1, 1) := by decide +kernel
theorem dc_D_change_1 : decode cb_D_change 1 = .ok (.invokestatic 95, 3) := by decide +kernel
theorem dc_D_change_4 : decode cb_D_change 4 = .ok (.ifCond .eq 15, 3) := by decide +kernel
theorem dc_D_change_7 : decode cb_D_change 7 = .ok (.aload_n 0, 1) := by decide +kernel
theorem dc_D_change_8 : decode cb_D_change 8 = .ok (.iload_n 2, 1) := by decide +kernel
theorem dc_D_change_9 : decode cb_D_change 9 = .ok (.invokevirtual 66, 3) := by decide +kernel
theorem dc_D_change_12 : decode cb_D_change 12 = .ok (.ifCond .eq 7, 3) := by decide +kernel
theorem dc_D_change_15 : decode cb_D_change 15 = .ok (.iconst 1, 1) := by decide +kernel
theorem dc_D_change_16 : decode cb_D_change 16 = .ok (.goto 4, 3) := by decide +kernel
theorem dc_D_change_19 : decode cb_D_change 19 = .ok (.iconst 0, 1) := by decide +kernel
theorem dc_D_change_20 : decode cb_D_change 20 = .ok (.invokestatic 69, 3) := by decide +kernel
theorem dc_D_change_23 : decode cb_D_change 23 = .ok (.iload_n 3, 1) := by decide +kernel
theorem dc_D_change_24 : decode cb_D_change 24 = .ok (.iconst 1, 1) := by decide +kernel
theorem dc_D_change_25 : decode cb_D_change 25 = .ok (.if_icmp .lt 20, 3) := by decide +kernel
theorem dc_D_change_28 : decode cb_D_change 28 = .ok (.iload_n 3, 1) := by decide +kernel
theorem dc_D_change_29 : decode cb_D_change 29 = .ok (.aload_n 0, 1) := by decide +kernel
theorem dc_D_change_30 : decode cb_D_change 30 = .ok (.getfield 12, 3) := by decide +kernel
theorem dc_D_change_33 : decode cb_D_change 33 = .ok (.getfield 72, 3) := by decide +kernel
theorem dc_D_change_36 : decode cb_D_change 36 = .ok (.iload_n 2, 1) := by decide +kernel
theorem dc_D_change_37 : decode cb_D_change 37 = .ok (.iaload, 1) := by decide +kernel
theorem dc_D_change_38 : decode cb_D_change 38 = .ok (.if_icmp .gt 7, 3) := by decide +kernel
theorem dc_D_change_41 : decode cb_D_change 41 = .ok (.iconst 1, 1) := by decide +kernel
theorem dc_D_change_42 : decode cb_D_change 42 = .ok (.goto 4, 3) := by decide +kernel
theorem dc_D_change_45 : decode cb_D_change 45 = .ok (.iconst 0, 1) := by decide +kernel
theorem dc_D_change_46 : decode cb_D_change 46 = .ok (.invokestatic 39, 3) := by decide +kernel
theorem dc_D_change_49 : decode cb_D_change 49 = .ok (.aload_n 0, 1) := by decide +kernel
theorem dc_D_change_50 : decode cb_D_change 50 = .ok (.aload_n 0, 1) := by decide +kernel
theorem dc_D_change_51 : decode cb_D_change 51 = .ok (.getfield 23, 3) := by decide +kernel
theorem dc_D_change_54 : decode cb_D_change 54 = .ok (.aload_n 0, 1) := by decide +kernel
theorem dc_D_change_55 : decode cb_D_change 55 = .ok (.getfield 12, 3) := by decide +kernel
theorem dc_D_change_58 : decode cb_D_change 58 = .ok (.iload_n 1, 1) := by decide +kernel
theorem dc_D_change_59 : decode cb_D_change 59 = .ok (.iload_n 2, 1) := by decide +kernel
theorem dc_D_change_60 : decode cb_D_change 60 = .ok (.iload_n 3, 1) := by decide +kernel
theorem dc_D_change_61 : decode cb_D_change 61 = .ok (.invokevirtual 162, 3) := by decide +kernel
theorem dc_D_change_64 : decode cb_D_change 64 = .ok (.putfield 32, 3) := by decide +kernel
theorem dc_D_change_67 : decode cb_D_change 67 = .ok (.aload_n 0, 1) := by decide +kernel
theorem dc_D_change_68 : decode cb_D_change 68 = .ok (.getfield 32, 3) := by decide +kernel
theorem dc_D_change_71 : decode cb_D_change 71 = .ok (.iconst (-1), 1) := by decide +kernel
theorem dc_D_change_72 : decode cb_D_change 72 = .ok (.if_icmp .ne 7, 3) := by decide +kernel
theorem dc_D_change_75 : decode cb_D_change 75 = .ok (.iconst 0, 1) := by decide +kernel
theorem dc_D_change_76 : decode cb_D_change 76 = .ok (.goto 12, 3) := by decide +kernel
theorem dc_D_change_79 : decode cb_D_change 79 = .ok (.aload_n 0, 1) := by decide +kernel
theorem dc_D_change_80 : decode cb_D_change 80 = .ok (.getfield 23, 3) := by decide +kernel
theorem dc_D_change_83 : decode cb_D_change 83 = .ok (.getfield 166, 3) := by decide +kernel
theorem dc_D_change_86 : decode cb_D_change 86 = .ok (.iconst 1, 1) := by decide +kernel
theorem dc_D_change_87 : decode cb_D_change 87 = .ok (.iadd, 1) := by decide +kernel
theorem dc_D_change_88 : decode cb_D_change 88 = .ok (.ireturn, 1) := by decide +kernel
theorem dc_D_changed_0 : decode cb_D_changed 0 = .ok (.aload_n 0, 1) := by decide +kernel
theorem dc_D_changed_1 : decode cb_D_changed 1 = .ok (.getfield 32, 3) := by decide +kernel
theorem dc_D_changed_4 : decode cb_D_changed 4 = .ok (.ireturn, 1) := by decide +kernel
theorem dc_D_property_0 : decode cb_D_property 0 = .ok (.iload_n 1, 1) := by decide +kernel
theorem dc_D_property_1 : decode cb_D_property 1 = .ok (.invokestatic 95, 3) := by decide +kernel
theorem dc_D_property_4 : decode cb_D_property 4 = .ok (.ifCond .eq 16, 3) := by decide +kernel
theorem dc_D_property_7 : decode cb_D_property 7 = .ok (.iload_n 2, 1) := by decide +kernel
theorem dc_D_property_8 : decode cb_D_property 8 = .ok (.ifCond .lt 12, 3) := by decide +kernel
theorem dc_D_property_11 : decode cb_D_property 11 = .ok (.iload_n 2, 1) := by decide +kernel
theorem dc_D_property_12 : decode cb_D_property 12 = .ok (.iconst 5, 1) := by decide +kernel
theorem dc_D_property_13 : decode cb_D_property 13 = .ok (.if_icmp .ge 7, 3) := by decide +kernel
theorem dc_D_property_16 : decode cb_D_property 16 = .ok (.iconst 1, 1) := by decide +kernel
theorem dc_D_property_17 : decode cb_D_property 17 = .ok (.goto 4, 3) := by decide +kernel
theorem dc_D_property_20 : decode cb_D_property 20 = .ok (.iconst 0, 1) := by decide +kernel
theorem dc_D_property_21 : decode cb_D_property 21 = .ok (.invokestatic 69, 3) := by decide +kernel
theorem dc_D_property_24 : decode cb_D_property 24 = .ok (.iload_n 2, 1) := by decide +kernel
theorem dc_D_property_25 : decode cb_D_property 25 = .ok (.tableswitch 111 0 4 #[35, 54, 73, 92, 111], 35) := by decide +kernel
theorem dc_D_property_60 : decode cb_D_property 60 = .ok (.aload_n 0, 1) := by decide +kernel
theorem dc_D_property_61 : decode cb_D_property 61 = .ok (.aload_n 0, 1) := by decide +kernel
theorem dc_D_property_62 : decode cb_D_property 62 = .ok (.getfield 23, 3) := by decide +kernel
theorem dc_D_property_65 : decode cb_D_property 65 = .ok (.aload_n 0, 1) := by decide +kernel
theorem dc_D_property_66 : decode cb_D_property 66 = .ok (.getfield 12, 3) := by decide +kernel
theorem dc_D_property_69 : decode cb_D_property 69 = .ok (.iload_n 1, 1) := by decide +kernel
theorem dc_D_property_70 : decode cb_D_property 70 = .ok (.invokevirtual 169, 3) := by decide +kernel
theorem dc_D_property_73 : decode cb_D_property 73 = .ok (.putfield 36, 3) := by decide +kernel
theorem dc_D_property_76 : decode cb_D_property 76 = .ok (.goto 76, 3) := by decide +kernel
theorem dc_D_property_79 : decode cb_D_property 79 = .ok (.aload_n 0, 1) := by decide +kernel
theorem dc_D_property_80 : decode cb_D_property 80 = .ok (.aload_n 0, 1) := by decide +kernel
theorem dc_D_property_81 : decode cb_D_property 81 = .ok (.getfield 23, 3) := by decide +kernel
theorem dc_D_property_84 : decode cb_D_property 84 = .ok (.aload_n 0, 1) := by decide +kernel
theorem dc_D_property_85 : decode cb_D_property 85 = .ok (.getfield 12, 3) := by decide +kernel
theorem dc_D_property_88 : decode cb_D_property 88 = .ok (.iload_n 1, 1) := by decide +kernel
theorem dc_D_property_89 : decode cb_D_property 89 = .ok (.invokevirtual 172, 3) := by decide +kernel
theorem dc_D_property_92 : decode cb_D_property 92 = .ok (.putfield 36, 3) := by decide +kernel
theorem dc_D_property_95 : decode cb_D_property 95 = .ok (.goto 57, 3) := by decide +kernel
theorem dc_D_property_98 : decode cb_D_property 98 = .ok (.aload_n 0, 1) := by decide +kernel
theorem dc_D_property_99 : decode cb_D_property 99 = .ok (.aload_n 0, 1) := by decide +kernel
theorem dc_D_property_100 : decode cb_D_property 100 = .ok (.getfield 23, 3) := by decide +kernel
theorem dc_D_property_103 : decode cb_D_property 103 = .ok (.aload_n 0, 1) := by decide +kernel
theorem dc_D_property_104 : decode cb_D_property 104 = .ok (.getfield 12, 3) := by decide +kernel
theorem dc_D_property_107 : decode cb_D_property 107 = .ok (.iload_n 1, 1) := by decide +kernel
theorem dc_D_property_108 : decode cb_D_property 108 = .ok (.invokevirtual 175, 3) := by decide +kernel
theorem dc_D_property_111 : decode cb_D_property 111 = .ok (.putfield 36, 3) := by decide +kernel
theorem dc_D_property_114 : decode cb_D_property 114 = .ok (.goto 38, 3) := by decide +kernel
theorem dc_D_property_117 : decode cb_D_property 117 = .ok (.aload_n 0, 1) := by decide +kernel
theorem dc_D_property_118 : decode cb_D_property 118 = .ok (.aload_n 0, 1) := by decide +kernel
theorem dc_D_property_119 : decode cb_D_property 119 = .ok (.getfield 23, 3) := by decide +kernel
theorem dc_D_property_122 : decode cb_D_property 122 = .ok (.aload_n 0, 1) := by decide +kernel
theorem dc_D_property_123 : decode cb_D_property 123 = .ok (.getfield 12, 3) := by decide +kernel
theorem dc_D_property_126 : decode cb_D_property 126 = .ok (.iload_n 1, 1) := by decide +kernel
theorem dc_D_property_127 : decode cb_D_property 127 = .ok (.invokevirtual 178, 3) := by decide +kernel
theorem dc_D_property_130 : decode cb_D_property 130 = .ok (.putfield 36, 3) := by decide +kernel
theorem dc_D_property_133 : decode cb_D_property 133 = .ok (.goto 19, 3) := by decide +kernel
theorem dc_D_property_136 : decode cb_D_property 136 = .ok (.aload_n 0, 1) := by decide +kernel
theorem dc_D_property_137 : decode cb_D_property 137 = .ok (.aload_n 0, 1) := by decide +kernel
theorem dc_D_property_138 : decode cb_D_property 138 = .ok (.getfield 23, 3) := by decide +kernel
theorem dc_D_property_141 : decode cb_D_property 141 = .ok (.aload_n 0, 1) := by decide +kernel
theorem dc_D_property_142 : decode cb_D_property 142 = .ok (.getfield 12, 3) := by decide +kernel
theorem dc_D_property_145 : decode cb_D_property 145 = .ok (.iload_n 1, 1) := by decide +kernel
theorem dc_D_property_146 : decode cb_D_property 146 = .ok (.invokevirtual 181, 3) := by decide +kernel
theorem dc_D_property_149 : decode cb_D_property 149 = .ok (.putfield 36, 3) := by decide +kernel
theorem dc_D_property_152 : decode cb_D_property 152 = .ok (.aload_n 0, 1) := by decide +kernel
theorem dc_D_property_153 : decode cb_D_property 153 = .ok (.getfield 36, 3) := by decide +kernel
theorem dc_D_property_156 : decode cb_D_property 156 = .ok (.iconst (-1), 1) := by decide +kernel
theorem dc_D_property_157 : decode cb_D_property 157 = .ok (.if_icmp .ne 7, 3) := by decide +kernel
theorem dc_D_property_160 : decode cb_D_property 160 = .ok (.iconst 1, 1) := by decide +kernel
theorem dc_D_property_161 : decode cb_D_property 161 = .ok (.goto 4, 3) := by decide +kernel
theorem dc_D_property_164 : decode cb_D_property 164 = .ok (.iconst 0, 1) := by decide +kernel
theorem dc_D_property_165 : decode cb_D_property 165 = .ok (.ireturn, 1) := by decide +kernel
theorem dc_D_witness_0 : decode cb_D_witness 0 = .ok (.aload_n 0, 1) := by decide +kernel
theorem dc_D_witness_1 : decode cb_D_witness 1 = .ok (.getfield 36, 3) := by decide +kernel
theorem dc_D_witness_4 : decode cb_D_witness 4 = .ok (.ireturn, 1) := by decide +kernel
theorem dc_D_circle_0 : decode cb_D_circle 0 = .ok (.iload_n 1, 1) := by decide +kernel
theorem dc_D_circle_1 : decode cb_D_circle 1 = .ok (.ifCond .lt 12, 3) := by decide +kernel
theorem dc_D_circle_4 : decode cb_D_circle 4 = .ok (.iload_n 1, 1) := by decide +kernel
theorem dc_D_circle_5 : decode cb_D_circle 5 = .ok (.iconst 3, 1) := by decide +kernel
theorem dc_D_circle_6 : decode cb_D_circle 6 = .ok (.if_icmp .ge 7, 3) := by decide +kernel
theorem dc_D_circle_9 : decode cb_D_circle 9 = .ok (.iconst 1, 1) := by decide +kernel
theorem dc_D_circle_10 : decode cb_D_circle 10 = .ok (.goto 4, 3) := by decide +kernel
theorem dc_D_circle_13 : decode cb_D_circle 13 = .ok (.iconst 0, 1) := by decide +kernel
theorem dc_D_circle_14 : decode cb_D_circle 14 = .ok (.invokestatic 69, 3) := by decide +kernel
theorem dc_D_circle_17 : decode cb_D_circle 17 = .ok (.aload_n 0, 1) := by decide +kernel
theorem dc_D_circle_18 : decode cb_D_circle 18 = .ok (.getfield 12, 3) := by decide +kernel
theorem dc_D_circle_21 : decode cb_D_circle 21 = .ok (.invokevirtual 184, 3) := by decide +kernel
theorem dc_D_circle_24 : decode cb_D_circle 24 = .ok (.istore_n 2, 1) := by decide +kernel
theorem dc_D_circle_25 : decode cb_D_circle 25 = .ok (.iload_n 2, 1) := by decide +kernel
theorem dc_D_circle_26 : decode cb_D_circle 26 = .ok (.iconst (-1), 1) := by decide +kernel
theorem dc_D_circle_27 : decode cb_D_circle 27 = .ok (.if_icmp .ne 7, 3) := by decide +kernel
theorem dc_D_circle_30 : decode cb_D_circle 30 = .ok (.iconst (-1), 1) := by decide +kernel
theorem dc_D_circle_31 : decode cb_D_circle 31 = .ok (.goto 8, 3) := by decide +kernel
theorem dc_D_circle_34 : decode cb_D_circle 34 = .ok (.iload_n 2, 1) := by decide +kernel
theorem dc_D_circle_35 : decode cb_D_circle 35 = .ok (.iload_n 1, 1) := by decide +kernel
theorem dc_D_circle_36 : decode cb_D_circle 36 = .ok (.invokestatic 188, 3) := by decide +kernel
theorem dc_D_circle_39 : decode cb_D_circle 39 = .ok (.ireturn, 1) := by decide +kernel
theorem dc_D_clones_0 : decode cb_D_clones 0 = .ok (.iload_n 1, 1) := by decide +kernel
theorem dc_D_clones_1 : decode cb_D_clones 1 = .ok (.ifCond .lt 26, 3) := by decide +kernel
theorem dc_D_clones_4 : decode cb_D_clones 4 = .ok (.iload_n 1, 1) := by decide +kernel
theorem dc_D_clones_5 : decode cb_D_clones 5 = .ok (.aload_n 0, 1) := by decide +kernel
theorem dc_D_clones_6 : decode cb_D_clones 6 = .ok (.getfield 12, 3) := by decide +kernel
theorem dc_D_clones_9 : decode cb_D_clones 9 = .ok (.invokevirtual 191, 3) := by decide +kernel
theorem dc_D_clones_12 : decode cb_D_clones 12 = .ok (.if_icmp .gt 15, 3) := by decide +kernel
theorem dc_D_clones_15 : decode cb_D_clones 15 = .ok (.iload_n 1, 1) := by decide +kernel
theorem dc_D_clones_16 : decode cb_D_clones 16 = .ok (.invokestatic 194, 3) := by decide +kernel
theorem dc_D_clones_19 : decode cb_D_clones 19 = .ok (.iconst 2, 1) := by decide +kernel
theorem dc_D_clones_20 : decode cb_D_clones 20 = .ok (.if_icmp .lt 7, 3) := by decide +kernel
theorem dc_D_clones_23 : decode cb_D_clones 23 = .ok (.iconst 1, 1) := by decide +kernel
theorem dc_D_clones_24 : decode cb_D_clones 24 = .ok (.goto 4, 3) := by decide +kernel
theorem dc_D_clones_27 : decode cb_D_clones 27 = .ok (.iconst 0, 1) := by decide +kernel
theorem dc_D_clones_28 : decode cb_D_clones 28 = .ok (.invokestatic 39, 3) := by decide +kernel
theorem dc_D_clones_31 : decode cb_D_clones 31 = .ok (.iconst 0, 1) := by decide +kernel
theorem dc_D_clones_32 : decode cb_D_clones 32 = .ok (.istore_n 2, 1) := by decide +kernel
theorem dc_D_clones_33 : decode cb_D_clones 33 = .ok (.iload_n 2, 1) := by decide +kernel
theorem dc_D_clones_34 : decode cb_D_clones 34 = .ok (.aload_n 0, 1) := by decide +kernel
theorem dc_D_clones_35 : decode cb_D_clones 35 = .ok (.getfield 12, 3) := by decide +kernel
theorem dc_D_clones_38 : decode cb_D_clones 38 = .ok (.getfield 56, 3) := by decide +kernel
theorem dc_D_clones_41 : decode cb_D_clones 41 = .ok (.if_icmp .ge 46, 3) := by decide +kernel
theorem dc_D_clones_44 : decode cb_D_clones 44 = .ok (.aload_n 0, 1) := by decide +kernel
theorem dc_D_clones_45 : decode cb_D_clones 45 = .ok (.getfield 12, 3) := by decide +kernel
theorem dc_D_clones_48 : decode cb_D_clones 48 = .ok (.getfield 72, 3) := by decide +kernel
theorem dc_D_clones_51 : decode cb_D_clones 51 = .ok (.iload_n 2, 1) := by decide +kernel
theorem dc_D_clones_52 : decode cb_D_clones 52 = .ok (.iaload, 1) := by decide +kernel
theorem dc_D_clones_53 : decode cb_D_clones 53 = .ok (.ifCond .le 28, 3) := by decide +kernel
theorem dc_D_clones_56 : decode cb_D_clones 56 = .ok (.aload_n 0, 1) := by decide +kernel
theorem dc_D_clones_57 : decode cb_D_clones 57 = .ok (.getfield 12, 3) := by decide +kernel
theorem dc_D_clones_60 : decode cb_D_clones 60 = .ok (.getfield 76, 3) := by decide +kernel
theorem dc_D_clones_63 : decode cb_D_clones 63 = .ok (.iload_n 2, 1) := by decide +kernel
theorem dc_D_clones_64 : decode cb_D_clones 64 = .ok (.iaload, 1) := by decide +kernel
theorem dc_D_clones_65 : decode cb_D_clones 65 = .ok (.iload_n 1, 1) := by decide +kernel
theorem dc_D_clones_66 : decode cb_D_clones 66 = .ok (.aload_n 0, 1) := by decide +kernel
theorem dc_D_clones_67 : decode cb_D_clones 67 = .ok (.getfield 12, 3) := by decide +kernel
theorem dc_D_clones_70 : decode cb_D_clones 70 = .ok (.getfield 43, 3) := by decide +kernel
theorem dc_D_clones_73 : decode cb_D_clones 73 = .ok (.invokestatic 200, 3) := by decide +kernel
theorem dc_D_clones_76 : decode cb_D_clones 76 = .ok (.ifCond .ne 5, 3) := by decide +kernel
theorem dc_D_clones_79 : decode cb_D_clones 79 = .ok (.iconst 0, 1) := by decide +kernel
theorem dc_D_clones_80 : decode cb_D_clones 80 = .ok (.ireturn, 1) := by decide +kernel
theorem dc_D_clones_81 : decode cb_D_clones 81 = .ok (.iinc 2 1, 3) := by decide +kernel
theorem dc_D_clones_84 : decode cb_D_clones 84 = .ok (.goto (-51), 3) := by decide +kernel
theorem dc_D_clones_87 : decode cb_D_clones 87 = .ok (.iconst 1, 1) := by decide +kernel
theorem dc_D_clones_88 : decode cb_D_clones 88 = .ok (.ireturn, 1) := by decide +kernel
theorem dc_D_count_0 : decode cb_D_count 0 = .ok (.iload_n 1, 1) := by decide +kernel
theorem dc_D_count_1 : decode cb_D_count 1 = .ok (.ifCond .lt 12, 3) := by decide +kernel
theorem dc_D_count_4 : decode cb_D_count 4 = .ok (.iload_n 1, 1) := by decide +kernel
theorem dc_D_count_5 : decode cb_D_count 5 = .ok (.iconst 2, 1) := by decide +kernel
theorem dc_D_count_6 : decode cb_D_count 6 = .ok (.if_icmp .gt 7, 3) := by decide +kernel
theorem dc_D_count_9 : decode cb_D_count 9 = .ok (.iconst 1, 1) := by decide +kernel
theorem dc_D_count_10 : decode cb_D_count 10 = .ok (.goto 4, 3) := by decide +kernel
theorem dc_D_count_13 : decode cb_D_count 13 = .ok (.iconst 0, 1) := by decide +kernel
theorem dc_D_count_14 : decode cb_D_count 14 = .ok (.invokestatic 39, 3) := by decide +kernel
theorem dc_D_count_17 : decode cb_D_count 17 = .ok (.iload_n 1, 1) := by decide +kernel
theorem dc_D_count_18 : decode cb_D_count 18 = .ok (.ifCond .ne 11, 3) := by decide +kernel
theorem dc_D_count_21 : decode cb_D_count 21 = .ok (.aload_n 0, 1) := by decide +kernel
theorem dc_D_count_22 : decode cb_D_count 22 = .ok (.getfield 12, 3) := by decide +kernel
theorem dc_D_count_25 : decode cb_D_count 25 = .ok (.getfield 43, 3) := by decide +kernel
theorem dc_D_count_28 : decode cb_D_count 28 = .ok (.ireturn, 1) := by decide +kernel
theorem dc_D_count_29 : decode cb_D_count 29 = .ok (.iload_n 1, 1) := by decide +kernel
theorem dc_D_count_30 : decode cb_D_count 30 = .ok (.iconst 1, 1) := by decide +kernel
theorem dc_D_count_31 : decode cb_D_count 31 = .ok (.if_icmp .ne 13, 3) := by decide +kernel
theorem dc_D_count_34 : decode cb_D_count 34 = .ok (.aload_n 0, 1) := by decide +kernel
theorem dc_D_count_35 : decode cb_D_count 35 = .ok (.getfield 12, 3) := by decide +kernel
theorem dc_D_count_38 : decode cb_D_count 38 = .ok (.getfield 56, 3) := by decide +kernel
theorem dc_D_count_41 : decode cb_D_count 41 = .ok (.goto 10, 3) := by decide +kernel
theorem dc_D_count_44 : decode cb_D_count 44 = .ok (.aload_n 0, 1) := by decide +kernel
theorem dc_D_count_45 : decode cb_D_count 45 = .ok (.getfield 12, 3) := by decide +kernel
theorem dc_D_count_48 : decode cb_D_count 48 = .ok (.invokevirtual 204, 3) := by decide +kernel
theorem dc_D_count_51 : decode cb_D_count 51 = .ok (.ireturn, 1) := by decide +kernel
theorem dc_D_isCandidate_0 : decode cb_D_isCandidate 0 = .ok (.iload_n 1, 1) := by decide +kernel
theorem dc_D_isCandidate_1 : decode cb_D_isCandidate 1 = .ok (.ifCond .lt 18, 3) := by decide +kernel
theorem dc_D_isCandidate_4 : decode cb_D_isCandidate 4 = .ok (.iload_n 1, 1) := by decide +kernel
theorem dc_D_isCandidate_5 : decode cb_D_isCandidate 5 = .ok (.aload_n 0, 1) := by decide +kernel
theorem dc_D_isCandidate_6 : decode cb_D_isCandidate 6 = .ok (.getfield 12, 3) := by decide +kernel
theorem dc_D_isCandidate_9 : decode cb_D_isCandidate 9 = .ok (.getfield 43, 3) := by decide +kernel
theorem dc_D_isCandidate_12 : decode cb_D_isCandidate 12 = .ok (.if_icmp .ge 7, 3) := by decide +kernel
theorem dc_D_isCandidate_15 : decode cb_D_isCandidate 15 = .ok (.iconst 1, 1) := by decide +kernel
theorem dc_D_isCandidate_16 : decode cb_D_isCandidate 16 = .ok (.goto 4, 3) := by decide +kernel
theorem dc_D_isCandidate_19 : decode cb_D_isCandidate 19 = .ok (.iconst 0, 1) := by decide +kernel
theorem dc_D_isCandidate_20 : decode cb_D_isCandidate 20 = .ok (.ireturn, 1) := by decide +kernel
theorem dc_D_isType_0 : decode cb_D_isType 0 = .ok (.iload_n 1, 1) := by decide +kernel
theorem dc_D_isType_1 : decode cb_D_isType 1 = .ok (.ifCond .lt 18, 3) := by decide +kernel
theorem dc_D_isType_4 : decode cb_D_isType 4 = .ok (.iload_n 1, 1) := by decide +kernel
theorem dc_D_isType_5 : decode cb_D_isType 5 = .ok (.aload_n 0, 1) := by decide +kernel
theorem dc_D_isType_6 : decode cb_D_isType 6 = .ok (.getfield 12, 3) := by decide +kernel
theorem dc_D_isType_9 : decode cb_D_isType 9 = .ok (.getfield 56, 3) := by decide +kernel
theorem dc_D_isType_12 : decode cb_D_isType 12 = .ok (.if_icmp .ge 7, 3) := by decide +kernel
theorem dc_D_isType_15 : decode cb_D_isType 15 = .ok (.iconst 1, 1) := by decide +kernel
theorem dc_D_isType_16 : decode cb_D_isType 16 = .ok (.goto 4, 3) := by decide +kernel
theorem dc_D_isType_19 : decode cb_D_isType 19 = .ok (.iconst 0, 1) := by decide +kernel
theorem dc_D_isType_20 : decode cb_D_isType 20 = .ok (.ireturn, 1) := by decide +kernel
theorem dc_D_isRule_0 : decode cb_D_isRule 0 = .ok (.iload_n 0, 1) := by decide +kernel
theorem dc_D_isRule_1 : decode cb_D_isRule 1 = .ok (.ifCond .lt 13, 3) := by decide +kernel
theorem dc_D_isRule_4 : decode cb_D_isRule 4 = .ok (.iload_n 0, 1) := by decide +kernel
theorem dc_D_isRule_5 : decode cb_D_isRule 5 = .ok (.bipush 12, 2) := by decide +kernel
theorem dc_D_isRule_7 : decode cb_D_isRule 7 = .ok (.if_icmp .ge 7, 3) := by decide +kernel
theorem dc_D_isRule_10 : decode cb_D_isRule 10 = .ok (.iconst 1, 1) := by decide +kernel
theorem dc_D_isRule_11 : decode cb_D_isRule 11 = .ok (.goto 4, 3) := by decide +kernel
theorem dc_D_isRule_14 : decode cb_D_isRule 14 = .ok (.iconst 0, 1) := by decide +kernel
theorem dc_D_isRule_15 : decode cb_D_isRule 15 = .ok (.ireturn, 1) := by decide +kernel
theorem dc_D_isAmount_0 : decode cb_D_isAmount 0 = .ok (.iload_n 0, 1) := by decide +kernel
theorem dc_D_isAmount_1 : decode cb_D_isAmount 1 = .ok (.ifCond .lt 13, 3) := by decide +kernel
theorem dc_D_isAmount_4 : decode cb_D_isAmount 4 = .ok (.iload_n 0, 1) := by decide +kernel
theorem dc_D_isAmount_5 : decode cb_D_isAmount 5 = .ok (.ldc 207, 2) := by decide +kernel
theorem dc_D_isAmount_7 : decode cb_D_isAmount 7 = .ok (.if_icmp .gt 7, 3) := by decide +kernel
theorem dc_D_isAmount_10 : decode cb_D_isAmount 10 = .ok (.iconst 1, 1) := by decide +kernel
theorem dc_D_isAmount_11 : decode cb_D_isAmount 11 = .ok (.goto 4, 3) := by decide +kernel
theorem dc_D_isAmount_14 : decode cb_D_isAmount 14 = .ok (.iconst 0, 1) := by decide +kernel
theorem dc_D_isAmount_15 : decode cb_D_isAmount 15 = .ok (.ireturn, 1) := by decide +kernel
theorem dc_D_needElement_0 : decode cb_D_needElement 0 = .ok (.iload_n 0, 1) := by decide +kernel
theorem dc_D_needElement_1 : decode cb_D_needElement 1 = .ok (.ifCond .ne 11, 3) := by decide +kernel
theorem dc_D_needElement_4 : decode cb_D_needElement 4 = .ok (.new 208, 3) := by decide +kernel
theorem dc_D_needElement_7 : decode cb_D_needElement 7 = .ok (.dup, 1) := by decide +kernel
theorem dc_D_needElement_8 : decode cb_D_needElement 8 = .ok (.invokespecial 210, 3) := by decide +kernel
theorem dc_D_needElement_11 : decode cb_D_needElement 11 = .ok (.athrow, 1) := by decide +kernel
theorem dc_D_needElement_12 : decode cb_D_needElement 12 = .ok (.return_, 1) := by decide +kernel
theorem dc_D_needArgument_0 : decode cb_D_needArgument 0 = .ok (.iload_n 0, 1) := by decide +kernel
theorem dc_D_needArgument_1 : decode cb_D_needArgument 1 = .ok (.ifCond .ne 11, 3) := by decide +kernel
theorem dc_D_needArgument_4 : decode cb_D_needArgument 4 = .ok (.new 211, 3) := by decide +kernel
theorem dc_D_needArgument_7 : decode cb_D_needArgument 7 = .ok (.dup, 1) := by decide +kernel
theorem dc_D_needArgument_8 : decode cb_D_needArgument 8 = .ok (.invokespecial 213, 3) := by decide +kernel
theorem dc_D_needArgument_11 : decode cb_D_needArgument 11 = .ok (.athrow, 1) := by decide +kernel
theorem dc_D_needArgument_12 : decode cb_D_needArgument 12 = .ok (.return_, 1) := by decide +kernel
theorem dc_M_init_0 : decode cb_M_init 0 = .ok (.aload_n 0, 1) := by decide +kernel
theorem dc_M_init_1 : decode cb_M_init 1 = .ok (.invokespecial 1, 3) := by decide +kernel
theorem dc_M_init_4 : decode cb_M_init 4 = .ok (.aload_n 0, 1) := by decide +kernel
theorem dc_M_init_5 : decode cb_M_init 5 = .ok (.iconst 4, 1) := by decide +kernel
theorem dc_M_init_6 : decode cb_M_init 6 = .ok (.putfield 7, 3) := by decide +kernel
theorem dc_M_init_9 : decode cb_M_init 9 = .ok (.aload_n 0, 1) := by decide +kernel
theorem dc_M_init_10 : decode cb_M_init 10 = .ok (.sipush 140, 3) := by decide +kernel
theorem dc_M_init_13 : decode cb_M_init 13 = .ok (.newarray .int, 2) := by decide +kernel
theorem dc_M_init_15 : decode cb_M_init 15 = .ok (.putfield 13, 3) := by decide +kernel
theorem dc_M_init_18 : decode cb_M_init 18 = .ok (.aload_n 0, 1) := by decide +kernel
theorem dc_M_init_19 : decode cb_M_init 19 = .ok (.bipush 20, 2) := by decide +kernel
theorem dc_M_init_21 : decode cb_M_init 21 = .ok (.newarray .int, 2) := by decide +kernel
theorem dc_M_init_23 : decode cb_M_init 23 = .ok (.putfield 17, 3) := by decide +kernel
theorem dc_M_init_26 : decode cb_M_init 26 = .ok (.aload_n 0, 1) := by decide +kernel
theorem dc_M_init_27 : decode cb_M_init 27 = .ok (.bipush 7, 2) := by decide +kernel
theorem dc_M_init_29 : decode cb_M_init 29 = .ok (.newarray .int, 2) := by decide +kernel
theorem dc_M_init_31 : decode cb_M_init 31 = .ok (.putfield 20, 3) := by decide +kernel
theorem dc_M_init_34 : decode cb_M_init 34 = .ok (.aload_n 0, 1) := by decide +kernel
theorem dc_M_init_35 : decode cb_M_init 35 = .ok (.bipush 7, 2) := by decide +kernel
theorem dc_M_init_37 : decode cb_M_init 37 = .ok (.newarray .int, 2) := by decide +kernel
theorem dc_M_init_39 : decode cb_M_init 39 = .ok (.putfield 23, 3) := by decide +kernel
theorem dc_M_init_42 : decode cb_M_init 42 = .ok (.aload_n 0, 1) := by decide +kernel
theorem dc_M_init_43 : decode cb_M_init 43 = .ok (.bipush 7, 2) := by decide +kernel
theorem dc_M_init_45 : decode cb_M_init 45 = .ok (.newarray .int, 2) := by decide +kernel
theorem dc_M_init_47 : decode cb_M_init 47 = .ok (.putfield 26, 3) := by decide +kernel
theorem dc_M_init_50 : decode cb_M_init 50 = .ok (.aload_n 0, 1) := by decide +kernel
theorem dc_M_init_51 : decode cb_M_init 51 = .ok (.sipush 154, 3) := by decide +kernel
theorem dc_M_init_54 : decode cb_M_init 54 = .ok (.newarray .int, 2) := by decide +kernel
theorem dc_M_init_56 : decode cb_M_init 56 = .ok (.putfield 29, 3) := by decide +kernel
theorem dc_M_init_59 : decode cb_M_init 59 = .ok (.aload_n 0, 1) := by decide +kernel
theorem dc_M_init_60 : decode cb_M_init 60 = .ok (.bipush 22, 2) := by decide +kernel
theorem dc_M_init_62 : decode cb_M_init 62 = .ok (.newarray .int, 2) := by decide +kernel
theorem dc_M_init_64 : decode cb_M_init 64 = .ok (.putfield 32, 3) := by decide +kernel
theorem dc_M_init_67 : decode cb_M_init 67 = .ok (.aload_n 0, 1) := by decide +kernel
theorem dc_M_init_68 : decode cb_M_init 68 = .ok (.bipush 7, 2) := by decide +kernel
theorem dc_M_init_70 : decode cb_M_init 70 = .ok (.newarray .int, 2) := by decide +kernel
theorem dc_M_init_72 : decode cb_M_init 72 = .ok (.putfield 35, 3) := by decide +kernel
theorem dc_M_init_75 : decode cb_M_init 75 = .ok (.aload_n 0, 1) := by decide +kernel
theorem dc_M_init_76 : decode cb_M_init 76 = .ok (.bipush 7, 2) := by decide +kernel
theorem dc_M_init_78 : decode cb_M_init 78 = .ok (.newarray .int, 2) := by decide +kernel
theorem dc_M_init_80 : decode cb_M_init 80 = .ok (.putfield 38, 3) := by decide +kernel
theorem dc_M_init_83 : decode cb_M_init 83 = .ok (.aload_n 0, 1) := by decide +kernel
theorem dc_M_init_84 : decode cb_M_init 84 = .ok (.bipush 7, 2) := by decide +kernel
theorem dc_M_init_86 : decode cb_M_init 86 = .ok (.newarray .int, 2) := by decide +kernel
theorem dc_M_init_88 : decode cb_M_init 88 = .ok (.putfield 41, 3) := by decide +kernel
theorem dc_M_init_91 : decode cb_M_init 91 = .ok (.aload_n 0, 1) := by decide +kernel
theorem dc_M_init_92 : decode cb_M_init 92 = .ok (.bipush 49, 2) := by decide +kernel
theorem dc_M_init_94 : decode cb_M_init 94 = .ok (.newarray .int, 2) := by decide +kernel
theorem dc_M_init_96 : decode cb_M_init 96 = .ok (.putfield 44, 3) := by decide +kernel
theorem dc_M_init_99 : decode cb_M_init 99 = .ok (.aload_n 0, 1) := by decide +kernel
theorem dc_M_init_100 : decode cb_M_init 100 = .ok (.bipush 49, 2) := by decide +kernel
theorem dc_M_init_102 : decode cb_M_init 102 = .ok (.newarray .int, 2) := by decide +kernel
theorem dc_M_init_104 : decode cb_M_init 104 = .ok (.putfield 47, 3) := by decide +kernel
theorem dc_M_init_107 : decode cb_M_init 107 = .ok (.aload_n 0, 1) := by decide +kernel
theorem dc_M_init_108 : decode cb_M_init 108 = .ok (.bipush 49, 2) := by decide +kernel
theorem dc_M_init_110 : decode cb_M_init 110 = .ok (.newarray .boolean, 2) := by decide +kernel
theorem dc_M_init_112 : decode cb_M_init 112 = .ok (.putfield 50, 3) := by decide +kernel
theorem dc_M_init_115 : decode cb_M_init 115 = .ok (.aload_n 0, 1) := by decide +kernel
theorem dc_M_init_116 : decode cb_M_init 116 = .ok (.sipush 128, 3) := by decide +kernel
theorem dc_M_init_119 : decode cb_M_init 119 = .ok (.newarray .boolean, 2) := by decide +kernel
theorem dc_M_init_121 : decode cb_M_init 121 = .ok (.putfield 54, 3) := by decide +kernel
theorem dc_M_init_124 : decode cb_M_init 124 = .ok (.aload_n 0, 1) := by decide +kernel
theorem dc_M_init_125 : decode cb_M_init 125 = .ok (.sipush 128, 3) := by decide +kernel
theorem dc_M_init_128 : decode cb_M_init 128 = .ok (.newarray .long, 2) := by decide +kernel
theorem dc_M_init_130 : decode cb_M_init 130 = .ok (.putfield 57, 3) := by decide +kernel
theorem dc_M_init_133 : decode cb_M_init 133 = .ok (.aload_n 0, 1) := by decide +kernel
theorem dc_M_init_134 : decode cb_M_init 134 = .ok (.bipush 7, 2) := by decide +kernel
theorem dc_M_init_136 : decode cb_M_init 136 = .ok (.newarray .int, 2) := by decide +kernel
theorem dc_M_init_138 : decode cb_M_init 138 = .ok (.putfield 61, 3) := by decide +kernel
theorem dc_M_init_141 : decode cb_M_init 141 = .ok (.aload_n 0, 1) := by decide +kernel
theorem dc_M_init_142 : decode cb_M_init 142 = .ok (.bipush 7, 2) := by decide +kernel
theorem dc_M_init_144 : decode cb_M_init 144 = .ok (.newarray .int, 2) := by decide +kernel
theorem dc_M_init_146 : decode cb_M_init 146 = .ok (.putfield 64, 3) := by decide +kernel
theorem dc_M_init_149 : decode cb_M_init 149 = .ok (.aload_n 0, 1) := by decide +kernel
theorem dc_M_init_150 : decode cb_M_init 150 = .ok (.iconst (-1), 1) := by decide +kernel
theorem dc_M_init_151 : decode cb_M_init 151 = .ok (.putfield 67, 3) := by decide +kernel
theorem dc_M_init_154 : decode cb_M_init 154 = .ok (.aload_n 0, 1) := by decide +kernel
theorem dc_M_init_155 : decode cb_M_init 155 = .ok (.iconst (-1), 1) := by decide +kernel
theorem dc_M_init_156 : decode cb_M_init 156 = .ok (.putfield 70, 3) := by decide +kernel
theorem dc_M_init_159 : decode cb_M_init 159 = .ok (.aload_n 0, 1) := by decide +kernel
theorem dc_M_init_160 : decode cb_M_init 160 = .ok (.invokevirtual 73, 3) := by decide +kernel
theorem dc_M_init_163 : decode cb_M_init 163 = .ok (.return_, 1) := by decide +kernel
theorem dc_M_reset_0 : decode cb_M_reset 0 = .ok (.aload_n 0, 1) := by decide +kernel
theorem dc_M_reset_1 : decode cb_M_reset 1 = .ok (.iconst 0, 1) := by decide +kernel
theorem dc_M_reset_2 : decode cb_M_reset 2 = .ok (.putfield 76, 3) := by decide +kernel
theorem dc_M_reset_5 : decode cb_M_reset 5 = .ok (.iconst 0, 1) := by decide +kernel
theorem dc_M_reset_6 : decode cb_M_reset 6 = .ok (.istore_n 1, 1) := by decide +kernel
theorem dc_M_reset_7 : decode cb_M_reset 7 = .ok (.iload_n 1, 1) := by decide +kernel
theorem dc_M_reset_8 : decode cb_M_reset 8 = .ok (.bipush 7, 2) := by decide +kernel
theorem dc_M_reset_10 : decode cb_M_reset 10 = .ok (.if_icmp .ge 49, 3) := by decide +kernel
theorem dc_M_reset_13 : decode cb_M_reset 13 = .ok (.aload_n 0, 1) := by decide +kernel
theorem dc_M_reset_14 : decode cb_M_reset 14 = .ok (.getfield 20, 3) := by decide +kernel
theorem dc_M_reset_17 : decode cb_M_reset 17 = .ok (.iload_n 1, 1) := by decide +kernel
theorem dc_M_reset_18 : decode cb_M_reset 18 = .ok (.iload_n 1, 1) := by decide +kernel
theorem dc_M_reset_19 : decode cb_M_reset 19 = .ok (.iastore, 1) := by decide +kernel
theorem dc_M_reset_20 : decode cb_M_reset 20 = .ok (.aload_n 0, 1) := by decide +kernel
theorem dc_M_reset_21 : decode cb_M_reset 21 = .ok (.getfield 23, 3) := by decide +kernel
theorem dc_M_reset_24 : decode cb_M_reset 24 = .ok (.iload_n 1, 1) := by decide +kernel
theorem dc_M_reset_25 : decode cb_M_reset 25 = .ok (.iload_n 1, 1) := by decide +kernel
theorem dc_M_reset_26 : decode cb_M_reset 26 = .ok (.iastore, 1) := by decide +kernel
theorem dc_M_reset_27 : decode cb_M_reset 27 = .ok (.aload_n 0, 1) := by decide +kernel
theorem dc_M_reset_28 : decode cb_M_reset 28 = .ok (.getfield 26, 3) := by decide +kernel
theorem dc_M_reset_31 : decode cb_M_reset 31 = .ok (.iload_n 1, 1) := by decide +kernel
theorem dc_M_reset_32 : decode cb_M_reset 32 = .ok (.iload_n 1, 1) := by decide +kernel
theorem dc_M_reset_33 : decode cb_M_reset 33 = .ok (.aload_n 0, 1) := by decide +kernel
theorem dc_M_reset_34 : decode cb_M_reset 34 = .ok (.getfield 7, 3) := by decide +kernel
theorem dc_M_reset_37 : decode cb_M_reset 37 = .ok (.if_icmp .ge 14, 3) := by decide +kernel
theorem dc_M_reset_40 : decode cb_M_reset 40 = .ok (.aload_n 0, 1) := by decide +kernel
theorem dc_M_reset_41 : decode cb_M_reset 41 = .ok (.getfield 7, 3) := by decide +kernel
theorem dc_M_reset_44 : decode cb_M_reset 44 = .ok (.iconst 1, 1) := by decide +kernel
theorem dc_M_reset_45 : decode cb_M_reset 45 = .ok (.isub, 1) := by decide +kernel
theorem dc_M_reset_46 : decode cb_M_reset 46 = .ok (.iload_n 1, 1) := by decide +kernel
theorem dc_M_reset_47 : decode cb_M_reset 47 = .ok (.isub, 1) := by decide +kernel
theorem dc_M_reset_48 : decode cb_M_reset 48 = .ok (.goto 4, 3) := by decide +kernel
theorem dc_M_reset_51 : decode cb_M_reset 51 = .ok (.iconst 0, 1) := by decide +kernel
theorem dc_M_reset_52 : decode cb_M_reset 52 = .ok (.iastore, 1) := by decide +kernel
theorem dc_M_reset_53 : decode cb_M_reset 53 = .ok (.iinc 1 1, 3) := by decide +kernel
theorem dc_M_reset_56 : decode cb_M_reset 56 = .ok (.goto (-49), 3) := by decide +kernel
theorem dc_M_reset_59 : decode cb_M_reset 59 = .ok (.return_, 1) := by decide +kernel
theorem dc_M_thrown_0 : decode cb_M_thrown 0 = .ok (.aload_n 0, 1) := by decide +kernel
theorem dc_M_thrown_1 : decode cb_M_thrown 1 = .ok (.getfield 79, 3) := by decide +kernel
theorem dc_M_thrown_4 : decode cb_M_thrown 4 = .ok (.ireturn, 1) := by decide +kernel
theorem dc_M_goes_0 : decode cb_M_goes 0 = .ok (.aload_n 0, 1) := by decide +kernel
theorem dc_M_goes_1 : decode cb_M_goes 1 = .ok (.iload_n 1, 1) := by decide +kernel
theorem dc_M_goes_2 : decode cb_M_goes 2 = .ok (.ifCond .ne 7, 3) := by decide +kernel
theorem dc_M_goes_5 : decode cb_M_goes 5 = .ok (.iconst 1, 1) := by decide +kernel
theorem dc_M_goes_6 : decode cb_M_goes 6 = .ok (.goto 12, 3) := by decide +kernel
theorem dc_M_goes_9 : decode cb_M_goes 9 = .ok (.iload_n 2, 1) := by decide +kernel
theorem dc_M_goes_10 : decode cb_M_goes 10 = .ok (.ifCond .ne 7, 3) := by decide +kernel
theorem dc_M_goes_13 : decode cb_M_goes 13 = .ok (.iconst 2, 1) := by decide +kernel
theorem dc_M_goes_14 : decode cb_M_goes 14 = .ok (.goto 4, 3) := by decide +kernel
theorem dc_M_goes_17 : decode cb_M_goes 17 = .ok (.iconst 0, 1) := by decide +kernel
theorem dc_M_goes_18 : decode cb_M_goes 18 = .ok (.putfield 79, 3) := by decide +kernel
theorem dc_M_goes_21 : decode cb_M_goes 21 = .ok (.aload_n 0, 1) := by decide +kernel
theorem dc_M_goes_22 : decode cb_M_goes 22 = .ok (.getfield 79, 3) := by decide +kernel
theorem dc_M_goes_25 : decode cb_M_goes 25 = .ok (.ifCond .ne 7, 3) := by decide +kernel
theorem dc_M_goes_28 : decode cb_M_goes 28 = .ok (.iconst 1, 1) := by decide +kernel
theorem dc_M_goes_29 : decode cb_M_goes 29 = .ok (.goto 4, 3) := by decide +kernel
theorem dc_M_goes_32 : decode cb_M_goes 32 = .ok (.iconst 0, 1) := by decide +kernel
theorem dc_M_goes_33 : decode cb_M_goes 33 = .ok (.ireturn, 1) := by decide +kernel
theorem dc_M_within_0 : decode cb_M_within 0 = .ok (.iload_n 0, 1) := by decide +kernel
theorem dc_M_within_1 : decode cb_M_within 1 = .ok (.iload_n 1, 1) := by decide +kernel
theorem dc_M_within_2 : decode cb_M_within 2 = .ok (.if_icmp .lt 12, 3) := by decide +kernel
theorem dc_M_within_5 : decode cb_M_within 5 = .ok (.iload_n 0, 1) := by decide +kernel
theorem dc_M_within_6 : decode cb_M_within 6 = .ok (.iload_n 2, 1) := by decide +kernel
theorem dc_M_within_7 : decode cb_M_within 7 = .ok (.if_icmp .gt 7, 3) := by decide +kernel
theorem dc_M_within_10 : decode cb_M_within 10 = .ok (.iconst 1, 1) := by decide +kernel
theorem dc_M_within_11 : decode cb_M_within 11 = .ok (.goto 4, 3) := by decide +kernel
theorem dc_M_within_14 : decode cb_M_within 14 = .ok (.iconst 0, 1) := by decide +kernel
theorem dc_M_within_15 : decode cb_M_within 15 = .ok (.ireturn, 1) := by decide +kernel
theorem dc_M_isOrder_0 : decode cb_M_isOrder 0 = .ok (.iconst 0, 1) := by decide +kernel
theorem dc_M_isOrder_1 : decode cb_M_isOrder 1 = .ok (.istore_n 2, 1) := by decide +kernel
theorem dc_M_isOrder_2 : decode cb_M_isOrder 2 = .ok (.iconst 0, 1) := by decide +kernel
theorem dc_M_isOrder_3 : decode cb_M_isOrder 3 = .ok (.istore_n 3, 1) := by decide +kernel
theorem dc_M_isOrder_4 : decode cb_M_isOrder 4 = .ok (.iload_n 3, 1) := by decide +kernel
theorem dc_M_isOrder_5 : decode cb_M_isOrder 5 = .ok (.aload_n 0, 1) := by decide +kernel
theorem dc_M_isOrder_6 : decode cb_M_isOrder 6 = .ok (.getfield 7, 3) := by decide +kernel
theorem dc_M_isOrder_9 : decode cb_M_isOrder 9 = .ok (.if_icmp .ge 22, 3) := by decide +kernel
theorem dc_M_isOrder_12 : decode cb_M_isOrder 12 = .ok (.iload_n 2, 1) := by decide +kernel
theorem dc_M_isOrder_13 : decode cb_M_isOrder 13 = .ok (.iconst 1, 1) := by decide +kernel
theorem dc_M_isOrder_14 : decode cb_M_isOrder 14 = .ok (.iload_n 1, 1) := by decide +kernel
theorem dc_M_isOrder_15 : decode cb_M_isOrder 15 = .ok (.iconst 3, 1) := by decide +kernel
theorem dc_M_isOrder_16 : decode cb_M_isOrder 16 = .ok (.iload_n 3, 1) := by decide +kernel
theorem dc_M_isOrder_17 : decode cb_M_isOrder 17 = .ok (.imul, 1) := by decide +kernel
theorem dc_M_isOrder_18 : decode cb_M_isOrder 18 = .ok (.ishr, 1) := by decide +kernel
theorem dc_M_isOrder_19 : decode cb_M_isOrder 19 = .ok (.bipush 7, 2) := by decide +kernel
theorem dc_M_isOrder_21 : decode cb_M_isOrder 21 = .ok (.iand, 1) := by decide +kernel
theorem dc_M_isOrder_22 : decode cb_M_isOrder 22 = .ok (.ishl, 1) := by decide +kernel
theorem dc_M_isOrder_23 : decode cb_M_isOrder 23 = .ok (.ior, 1) := by decide +kernel
theorem dc_M_isOrder_24 : decode cb_M_isOrder 24 = .ok (.istore_n 2, 1) := by decide +kernel
theorem dc_M_isOrder_25 : decode cb_M_isOrder 25 = .ok (.iinc 3 1, 3) := by decide +kernel
theorem dc_M_isOrder_28 : decode cb_M_isOrder 28 = .ok (.goto (-24), 3) := by decide +kernel
theorem dc_M_isOrder_31 : decode cb_M_isOrder 31 = .ok (.iload_n 1, 1) := by decide +kernel
theorem dc_M_isOrder_32 : decode cb_M_isOrder 32 = .ok (.ifCond .lt 30, 3) := by decide +kernel
theorem dc_M_isOrder_35 : decode cb_M_isOrder 35 = .ok (.iload_n 1, 1) := by decide +kernel
theorem dc_M_isOrder_36 : decode cb_M_isOrder 36 = .ok (.iconst 3, 1) := by decide +kernel
theorem dc_M_isOrder_37 : decode cb_M_isOrder 37 = .ok (.aload_n 0, 1) := by decide +kernel
theorem dc_M_isOrder_38 : decode cb_M_isOrder 38 = .ok (.getfield 7, 3) := by decide +kernel
theorem dc_M_isOrder_41 : decode cb_M_isOrder 41 = .ok (.imul, 1) := by decide +kernel
theorem dc_M_isOrder_42 : decode cb_M_isOrder 42 = .ok (.ishr, 1) := by decide +kernel
theorem dc_M_isOrder_43 : decode cb_M_isOrder 43 = .ok (.ifCond .ne 19, 3) := by decide +kernel
theorem dc_M_isOrder_46 : decode cb_M_isOrder 46 = .ok (.iload_n 2, 1) := by decide +kernel
theorem dc_M_isOrder_47 : decode cb_M_isOrder 47 = .ok (.iconst 1, 1) := by decide +kernel
theorem dc_M_isOrder_48 : decode cb_M_isOrder 48 = .ok (.aload_n 0, 1) := by decide +kernel
theorem dc_M_isOrder_49 : decode cb_M_isOrder 49 = .ok (.getfield 7, 3) := by decide +kernel
theorem dc_M_isOrder_52 : decode cb_M_isOrder 52 = .ok (.ishl, 1) := by decide +kernel
theorem dc_M_isOrder_53 : decode cb_M_isOrder 53 = .ok (.iconst 1, 1) := by decide +kernel
theorem dc_M_isOrder_54 : decode cb_M_isOrder 54 = .ok (.isub, 1) := by decide +kernel
theorem dc_M_isOrder_55 : decode cb_M_isOrder 55 = .ok (.if_icmp .ne 7, 3) := by decide +kernel
theorem dc_M_isOrder_58 : decode cb_M_isOrder 58 = .ok (.iconst 1, 1) := by decide +kernel
theorem dc_M_isOrder_59 : decode cb_M_isOrder 59 = .ok (.goto 4, 3) := by decide +kernel
theorem dc_M_isOrder_62 : decode cb_M_isOrder 62 = .ok (.iconst 0, 1) := by decide +kernel
theorem dc_M_isOrder_63 : decode cb_M_isOrder 63 = .ok (.ireturn, 1) := by decide +kernel
theorem dc_M_unpack_0 : decode cb_M_unpack 0 = .ok (.iconst 0, 1) := by decide +kernel
theorem dc_M_unpack_1 : decode cb_M_unpack 1 = .ok (.istore 4, 2) := by decide +kernel
theorem dc_M_unpack_3 : decode cb_M_unpack 3 = .ok (.iload 4, 2) := by decide +kernel
theorem dc_M_unpack_5 : decode cb_M_unpack 5 = .ok (.aload_n 0, 1) := by decide +kernel
theorem dc_M_unpack_6 : decode cb_M_unpack 6 = .ok (.getfield 7, 3) := by decide +kernel
theorem dc_M_unpack_9 : decode cb_M_unpack 9 = .ok (.if_icmp .ge 24, 3) := by decide +kernel
theorem dc_M_unpack_12 : decode cb_M_unpack 12 = .ok (.aload_n 2, 1) := by decide +kernel
theorem dc_M_unpack_13 : decode cb_M_unpack 13 = .ok (.iload_n 3, 1) := by decide +kernel
theorem dc_M_unpack_14 : decode cb_M_unpack 14 = .ok (.iload 4, 2) := by decide +kernel
theorem dc_M_unpack_16 : decode cb_M_unpack 16 = .ok (.iadd, 1) := by decide +kernel
theorem dc_M_unpack_17 : decode cb_M_unpack 17 = .ok (.iload_n 1, 1) := by decide +kernel
theorem dc_M_unpack_18 : decode cb_M_unpack 18 = .ok (.iconst 3, 1) := by decide +kernel
theorem dc_M_unpack_19 : decode cb_M_unpack 19 = .ok (.iload 4, 2) := by decide +kernel
theorem dc_M_unpack_21 : decode cb_M_unpack 21 = .ok (.imul, 1) := by decide +kernel
theorem dc_M_unpack_22 : decode cb_M_unpack 22 = .ok (.ishr, 1) := by decide +kernel
theorem dc_M_unpack_23 : decode cb_M_unpack 23 = .ok (.bipush 7, 2) := by decide +kernel
theorem dc_M_unpack_25 : decode cb_M_unpack 25 = .ok (.iand, 1) := by decide +kernel
theorem dc_M_unpack_26 : decode cb_M_unpack 26 = .ok (.iastore, 1) := by decide +kernel
theorem dc_M_unpack_27 : decode cb_M_unpack 27 = .ok (.iinc 4 1, 3) := by decide +kernel
theorem dc_M_unpack_30 : decode cb_M_unpack 30 = .ok (.goto (-27), 3) := by decide +kernel
theorem dc_M_unpack_33 : decode cb_M_unpack 33 = .ok (.return_, 1) := by decide +kernel
theorem dc_M_packed_0 : decode cb_M_packed 0 = .ok (.iconst 0, 1) := by decide +kernel
theorem dc_M_packed_1 : decode cb_M_packed 1 = .ok (.istore_n 3, 1) := by decide +kernel
theorem dc_M_packed_2 : decode cb_M_packed 2 = .ok (.iconst 0, 1) := by decide +kernel
theorem dc_M_packed_3 : decode cb_M_packed 3 = .ok (.istore 4, 2) := by decide +kernel
theorem dc_M_packed_5 : decode cb_M_packed 5 = .ok (.iload 4, 2) := by decide +kernel
theorem dc_M_packed_7 : decode cb_M_packed 7 = .ok (.aload_n 0, 1) := by decide +kernel
theorem dc_M_packed_8 : decode cb_M_packed 8 = .ok (.getfield 7, 3) := by decide +kernel
theorem dc_M_packed_11 : decode cb_M_packed 11 = .ok (.if_icmp .ge 23, 3) := by decide +kernel
theorem dc_M_packed_14 : decode cb_M_packed 14 = .ok (.iload_n 3, 1) := by decide +kernel
theorem dc_M_packed_15 : decode cb_M_packed 15 = .ok (.aload_n 1, 1) := by decide +kernel
theorem dc_M_packed_16 : decode cb_M_packed 16 = .ok (.iload_n 2, 1) := by decide +kernel
theorem dc_M_packed_17 : decode cb_M_packed 17 = .ok (.iload 4, 2) := by decide +kernel
theorem dc_M_packed_19 : decode cb_M_packed 19 = .ok (.iadd, 1) := by decide +kernel
theorem dc_M_packed_20 : decode cb_M_packed 20 = .ok (.iaload, 1) := by decide +kernel
theorem dc_M_packed_21 : decode cb_M_packed 21 = .ok (.iconst 3, 1) := by decide +kernel
theorem dc_M_packed_22 : decode cb_M_packed 22 = .ok (.iload 4, 2) := by decide +kernel
theorem dc_M_packed_24 : decode cb_M_packed 24 = .ok (.imul, 1) := by decide +kernel
theorem dc_M_packed_25 : decode cb_M_packed 25 = .ok (.ishl, 1) := by decide +kernel
theorem dc_M_packed_26 : decode cb_M_packed 26 = .ok (.ior, 1) := by decide +kernel
theorem dc_M_packed_27 : decode cb_M_packed 27 = .ok (.istore_n 3, 1) := by decide +kernel
theorem dc_M_packed_28 : decode cb_M_packed 28 = .ok (.iinc 4 1, 3) := by decide +kernel
theorem dc_M_packed_31 : decode cb_M_packed 31 = .ok (.goto (-26), 3) := by decide +kernel
theorem dc_M_packed_34 : decode cb_M_packed 34 = .ok (.iload_n 3, 1) := by decide +kernel
theorem dc_M_packed_35 : decode cb_M_packed 35 = .ok (.ireturn, 1) := by decide +kernel
theorem dc_M_candidates_0 : decode cb_M_candidates 0 = .ok (.aload_n 0, 1) := by decide +kernel
theorem dc_M_candidates_1 : decode cb_M_candidates 1 = .ok (.iload_n 1, 1) := by decide +kernel
theorem dc_M_candidates_2 : decode cb_M_candidates 2 = .ok (.iconst 2, 1) := by decide +kernel
theorem dc_M_candidates_3 : decode cb_M_candidates 3 = .ok (.bipush 7, 2) := by decide +kernel
theorem dc_M_candidates_5 : decode cb_M_candidates 5 = .ok (.invokestatic 82, 3) := by decide +kernel
theorem dc_M_candidates_8 : decode cb_M_candidates 8 = .ok (.iconst 1, 1) := by decide +kernel
theorem dc_M_candidates_9 : decode cb_M_candidates 9 = .ok (.invokevirtual 86, 3) := by decide +kernel
theorem dc_M_candidates_12 : decode cb_M_candidates 12 = .ok (.ifCond .ne 5, 3) := by decide +kernel
theorem dc_M_candidates_15 : decode cb_M_candidates 15 = .ok (.iconst 0, 1) := by decide +kernel
theorem dc_M_candidates_16 : decode cb_M_candidates 16 = .ok (.ireturn, 1) := by decide +kernel
theorem dc_M_candidates_17 : decode cb_M_candidates 17 = .ok (.aload_n 0, 1) := by decide +kernel
theorem dc_M_candidates_18 : decode cb_M_candidates 18 = .ok (.getfield 7, 3) := by decide +kernel
theorem dc_M_candidates_21 : decode cb_M_candidates 21 = .ok (.istore_n 2, 1) := by decide +kernel
theorem dc_M_candidates_22 : decode cb_M_candidates 22 = .ok (.aload_n 0, 1) := by decide +kernel
theorem dc_M_candidates_23 : decode cb_M_candidates 23 = .ok (.iload_n 1, 1) := by decide +kernel
theorem dc_M_candidates_24 : decode cb_M_candidates 24 = .ok (.putfield 7, 3) := by decide +kernel
theorem dc_M_candidates_27 : decode cb_M_candidates 27 = .ok (.aload_n 0, 1) := by decide +kernel
theorem dc_M_candidates_28 : decode cb_M_candidates 28 = .ok (.invokevirtual 73, 3) := by decide +kernel
theorem dc_M_candidates_31 : decode cb_M_candidates 31 = .ok (.iload_n 2, 1) := by decide +kernel
theorem dc_M_candidates_32 : decode cb_M_candidates 32 = .ok (.ireturn, 1) := by decide +kernel
theorem dc_M_ballot_0 : decode cb_M_ballot 0 = .ok (.aload_n 0, 1) := by decide +kernel
theorem dc_M_ballot_1 : decode cb_M_ballot 1 = .ok (.aload_n 0, 1) := by decide +kernel
theorem dc_M_ballot_2 : decode cb_M_ballot 2 = .ok (.iload_n 1, 1) := by decide +kernel
theorem dc_M_ballot_3 : decode cb_M_ballot 3 = .ok (.invokevirtual 90, 3) := by decide +kernel
theorem dc_M_ballot_6 : decode cb_M_ballot 6 = .ok (.ifCond .eq 17, 3) := by decide +kernel
theorem dc_M_ballot_9 : decode cb_M_ballot 9 = .ok (.iload_n 2, 1) := by decide +kernel
theorem dc_M_ballot_10 : decode cb_M_ballot 10 = .ok (.iconst 0, 1) := by decide +kernel
theorem dc_M_ballot_11 : decode cb_M_ballot 11 = .ok (.ldc 94, 2) := by decide +kernel
theorem dc_M_ballot_13 : decode cb_M_ballot 13 = .ok (.invokestatic 82, 3) := by decide +kernel
theorem dc_M_ballot_16 : decode cb_M_ballot 16 = .ok (.ifCond .eq 7, 3) := by decide +kernel
theorem dc_M_ballot_19 : decode cb_M_ballot 19 = .ok (.iconst 1, 1) := by decide +kernel
theorem dc_M_ballot_20 : decode cb_M_ballot 20 = .ok (.goto 4, 3) := by decide +kernel
theorem dc_M_ballot_23 : decode cb_M_ballot 23 = .ok (.iconst 0, 1) := by decide +kernel
theorem dc_M_ballot_24 : decode cb_M_ballot 24 = .ok (.aload_n 0, 1) := by decide +kernel
theorem dc_M_ballot_25 : decode cb_M_ballot 25 = .ok (.getfield 76, 3) := by decide +kernel
theorem dc_M_ballot_28 : decode cb_M_ballot 28 = .ok (.bipush 20, 2) := by decide +kernel
theorem dc_M_ballot_30 : decode cb_M_ballot 30 = .ok (.if_icmp .ge 7, 3) := by decide +kernel
theorem dc_M_ballot_33 : decode cb_M_ballot 33 = .ok (.iconst 1, 1) := by decide +kernel
theorem dc_M_ballot_34 : decode cb_M_ballot 34 = .ok (.goto 4, 3) := by decide +kernel
theorem dc_M_ballot_37 : decode cb_M_ballot 37 = .ok (.iconst 0, 1) := by decide +kernel
theorem dc_M_ballot_38 : decode cb_M_ballot 38 = .ok (.invokevirtual 86, 3) := by decide +kernel
theorem dc_M_ballot_41 : decode cb_M_ballot 41 = .ok (.ifCond .ne 5, 3) := by decide +kernel
theorem dc_M_ballot_44 : decode cb_M_ballot 44 = .ok (.iconst 0, 1) := by decide +kernel
theorem dc_M_ballot_45 : decode cb_M_ballot 45 = .ok (.ireturn, 1) := by decide +kernel
theorem dc_M_ballot_46 : decode cb_M_ballot 46 = .ok (.aload_n 0, 1) := by decide +kernel
theorem dc_M_ballot_47 : decode cb_M_ballot 47 = .ok (.iload_n 1, 1) := by decide +kernel
theorem dc_M_ballot_48 : decode cb_M_ballot 48 = .ok (.aload_n 0, 1) := by decide +kernel
theorem dc_M_ballot_49 : decode cb_M_ballot 49 = .ok (.getfield 13, 3) := by decide +kernel
theorem dc_M_ballot_52 : decode cb_M_ballot 52 = .ok (.bipush 7, 2) := by decide +kernel
theorem dc_M_ballot_54 : decode cb_M_ballot 54 = .ok (.aload_n 0, 1) := by decide +kernel
theorem dc_M_ballot_55 : decode cb_M_ballot 55 = .ok (.getfield 76, 3) := by decide +kernel
theorem dc_M_ballot_58 : decode cb_M_ballot 58 = .ok (.imul, 1) := by decide +kernel
theorem dc_M_ballot_59 : decode cb_M_ballot 59 = .ok (.invokevirtual 95, 3) := by decide +kernel
theorem dc_M_ballot_62 : decode cb_M_ballot 62 = .ok (.aload_n 0, 1) := by decide +kernel
theorem dc_M_ballot_63 : decode cb_M_ballot 63 = .ok (.getfield 17, 3) := by decide +kernel
theorem dc_M_ballot_66 : decode cb_M_ballot 66 = .ok (.aload_n 0, 1) := by decide +kernel
theorem dc_M_ballot_67 : decode cb_M_ballot 67 = .ok (.getfield 76, 3) := by decide +kernel
theorem dc_M_ballot_70 : decode cb_M_ballot 70 = .ok (.iload_n 2, 1) := by decide +kernel
theorem dc_M_ballot_71 : decode cb_M_ballot 71 = .ok (.iastore, 1) := by decide +kernel
theorem dc_M_ballot_72 : decode cb_M_ballot 72 = .ok (.aload_n 0, 1) := by decide +kernel
theorem dc_M_ballot_73 : decode cb_M_ballot 73 = .ok (.dup, 1) := by decide +kernel
theorem dc_M_ballot_74 : decode cb_M_ballot 74 = .ok (.getfield 76, 3) := by decide +kernel
theorem dc_M_ballot_77 : decode cb_M_ballot 77 = .ok (.iconst 1, 1) := by decide +kernel
theorem dc_M_ballot_78 : decode cb_M_ballot 78 = .ok (.iadd, 1) := by decide +kernel
theorem dc_M_ballot_79 : decode cb_M_ballot 79 = .ok (.putfield 76, 3) := by decide +kernel
theorem dc_M_ballot_82 : decode cb_M_ballot 82 = .ok (.aload_n 0, 1) := by decide +kernel
theorem dc_M_ballot_83 : decode cb_M_ballot 83 = .ok (.getfield 76, 3) := by decide +kernel
theorem dc_M_ballot_86 : decode cb_M_ballot 86 = .ok (.iconst 1, 1) := by decide +kernel
theorem dc_M_ballot_87 : decode cb_M_ballot 87 = .ok (.isub, 1) := by decide +kernel
theorem dc_M_ballot_88 : decode cb_M_ballot 88 = .ok (.ireturn, 1) := by decide +kernel
theorem dc_M_isType_0 : decode cb_M_isType 0 = .ok (.iload_n 1, 1) := by decide +kernel
theorem dc_M_isType_1 : decode cb_M_isType 1 = .ok (.ifCond .lt 15, 3) := by decide +kernel
theorem dc_M_isType_4 : decode cb_M_isType 4 = .ok (.iload_n 1, 1) := by decide +kernel
theorem dc_M_isType_5 : decode cb_M_isType 5 = .ok (.aload_n 0, 1) := by decide +kernel
theorem dc_M_isType_6 : decode cb_M_isType 6 = .ok (.getfield 76, 3) := by decide +kernel
theorem dc_M_isType_9 : decode cb_M_isType 9 = .ok (.if_icmp .ge 7, 3) := by decide +kernel
theorem dc_M_isType_12 : decode cb_M_isType 12 = .ok (.iconst 1, 1) := by decide +kernel
theorem dc_M_isType_13 : decode cb_M_isType 13 = .ok (.goto 4, 3) := by decide +kernel
theorem dc_M_isType_16 : decode cb_M_isType 16 = .ok (.iconst 0, 1) := by decide +kernel
theorem dc_M_isType_17 : decode cb_M_isType 17 = .ok (.ireturn, 1) := by decide +kernel
theorem dc_M_amount_0 : decode cb_M_amount 0 = .ok (.aload_n 0, 1) := by decide +kernel
theorem dc_M_amount_1 : decode cb_M_amount 1 = .ok (.aload_n 0, 1) := by decide +kernel
theorem dc_M_amount_2 : decode cb_M_amount 2 = .ok (.iload_n 1, 1) := by decide +kernel
theorem dc_M_amount_3 : decode cb_M_amount 3 = .ok (.invokevirtual 99, 3) := by decide +kernel
theorem dc_M_amount_6 : decode cb_M_amount 6 = .ok (.iload_n 2, 1) := by decide +kernel
theorem dc_M_amount_7 : decode cb_M_amount 7 = .ok (.iconst 0, 1) := by decide +kernel
theorem dc_M_amount_8 : decode cb_M_amount 8 = .ok (.ldc 94, 2) := by decide +kernel
theorem dc_M_amount_10 : decode cb_M_amount 10 = .ok (.invokestatic 82, 3) := by decide +kernel
theorem dc_M_amount_13 : decode cb_M_amount 13 = .ok (.invokevirtual 86, 3) := by decide +kernel
theorem dc_M_amount_16 : decode cb_M_amount 16 = .ok (.ifCond .ne 5, 3) := by decide +kernel
end
section
theorem dc_M_amount_19 : decode cb_M_amount 19 = .ok (.iconst 0, 1) := by decide +kernel
theorem dc_M_amount_20 : decode cb_M_amount 20 = .ok (.ireturn, 1) := by decide +kernel
theorem dc_M_amount_21 : decode cb_M_amount 21 = .ok (.aload_n 0, 1) := by decide +kernel
theorem dc_M_amount_22 : decode cb_M_amount 22 = .ok (.getfield 17, 3) := by decide +kernel
theorem dc_M_amount_25 : decode cb_M_amount 25 = .ok (.iload_n 1, 1) := by decide +kernel
theorem dc_M_amount_26 : decode cb_M_amount 26 = .ok (.iaload, 1) := by decide +kernel
theorem dc_M_amount_27 : decode cb_M_amount 27 = .ok (.istore_n 3, 1) := by decide +kernel
theorem dc_M_amount_28 : decode cb_M_amount 28 = .ok (.aload_n 0, 1) := by decide +kernel
theorem dc_M_amount_29 : decode cb_M_amount 29 = .ok (.getfield 17, 3) := by decide +kernel
theorem dc_M_amount_32 : decode cb_M_amount 32 = .ok (.iload_n 1, 1) := by decide +kernel
theorem dc_M_amount_33 : decode cb_M_amount 33 = .ok (.iload_n 2, 1) := by decide +kernel
theorem dc_M_amount_34 : decode cb_M_amount 34 = .ok (.iastore, 1) := by decide +kernel
theorem dc_M_amount_35 : decode cb_M_amount 35 = .ok (.iload_n 3, 1) := by decide +kernel
theorem dc_M_amount_36 : decode cb_M_amount 36 = .ok (.ireturn, 1) := by decide +kernel
theorem dc_M_drop_0 : decode cb_M_drop 0 = .ok (.aload_n 0, 1) := by decide +kernel
theorem dc_M_drop_1 : decode cb_M_drop 1 = .ok (.aload_n 0, 1) := by decide +kernel
theorem dc_M_drop_2 : decode cb_M_drop 2 = .ok (.iload_n 1, 1) := by decide +kernel
theorem dc_M_drop_3 : decode cb_M_drop 3 = .ok (.invokevirtual 99, 3) := by decide +kernel
theorem dc_M_drop_6 : decode cb_M_drop 6 = .ok (.iconst 1, 1) := by decide +kernel
theorem dc_M_drop_7 : decode cb_M_drop 7 = .ok (.invokevirtual 86, 3) := by decide +kernel
theorem dc_M_drop_10 : decode cb_M_drop 10 = .ok (.ifCond .ne 5, 3) := by decide +kernel
theorem dc_M_drop_13 : decode cb_M_drop 13 = .ok (.iconst 0, 1) := by decide +kernel
theorem dc_M_drop_14 : decode cb_M_drop 14 = .ok (.ireturn, 1) := by decide +kernel
theorem dc_M_drop_15 : decode cb_M_drop 15 = .ok (.iload_n 1, 1) := by decide +kernel
theorem dc_M_drop_16 : decode cb_M_drop 16 = .ok (.istore_n 2, 1) := by decide +kernel
theorem dc_M_drop_17 : decode cb_M_drop 17 = .ok (.iload_n 2, 1) := by decide +kernel
theorem dc_M_drop_18 : decode cb_M_drop 18 = .ok (.iconst 1, 1) := by decide +kernel
theorem dc_M_drop_19 : decode cb_M_drop 19 = .ok (.iadd, 1) := by decide +kernel
theorem dc_M_drop_20 : decode cb_M_drop 20 = .ok (.aload_n 0, 1) := by decide +kernel
theorem dc_M_drop_21 : decode cb_M_drop 21 = .ok (.getfield 76, 3) := by decide +kernel
theorem dc_M_drop_24 : decode cb_M_drop 24 = .ok (.if_icmp .ge 62, 3) := by decide +kernel
theorem dc_M_drop_27 : decode cb_M_drop 27 = .ok (.aload_n 0, 1) := by decide +kernel
theorem dc_M_drop_28 : decode cb_M_drop 28 = .ok (.getfield 17, 3) := by decide +kernel
theorem dc_M_drop_31 : decode cb_M_drop 31 = .ok (.iload_n 2, 1) := by decide +kernel
theorem dc_M_drop_32 : decode cb_M_drop 32 = .ok (.aload_n 0, 1) := by decide +kernel
theorem dc_M_drop_33 : decode cb_M_drop 33 = .ok (.getfield 17, 3) := by decide +kernel
theorem dc_M_drop_36 : decode cb_M_drop 36 = .ok (.iload_n 2, 1) := by decide +kernel
theorem dc_M_drop_37 : decode cb_M_drop 37 = .ok (.iconst 1, 1) := by decide +kernel
theorem dc_M_drop_38 : decode cb_M_drop 38 = .ok (.iadd, 1) := by decide +kernel
theorem dc_M_drop_39 : decode cb_M_drop 39 = .ok (.iaload, 1) := by decide +kernel
theorem dc_M_drop_40 : decode cb_M_drop 40 = .ok (.iastore, 1) := by decide +kernel
theorem dc_M_drop_41 : decode cb_M_drop 41 = .ok (.iconst 0, 1) := by decide +kernel
theorem dc_M_drop_42 : decode cb_M_drop 42 = .ok (.istore_n 3, 1) := by decide +kernel
theorem dc_M_drop_43 : decode cb_M_drop 43 = .ok (.iload_n 3, 1) := by decide +kernel
theorem dc_M_drop_44 : decode cb_M_drop 44 = .ok (.bipush 7, 2) := by decide +kernel
theorem dc_M_drop_46 : decode cb_M_drop 46 = .ok (.if_icmp .ge 34, 3) := by decide +kernel
theorem dc_M_drop_49 : decode cb_M_drop 49 = .ok (.aload_n 0, 1) := by decide +kernel
theorem dc_M_drop_50 : decode cb_M_drop 50 = .ok (.getfield 13, 3) := by decide +kernel
theorem dc_M_drop_53 : decode cb_M_drop 53 = .ok (.bipush 7, 2) := by decide +kernel
theorem dc_M_drop_55 : decode cb_M_drop 55 = .ok (.iload_n 2, 1) := by decide +kernel
theorem dc_M_drop_56 : decode cb_M_drop 56 = .ok (.imul, 1) := by decide +kernel
theorem dc_M_drop_57 : decode cb_M_drop 57 = .ok (.iload_n 3, 1) := by decide +kernel
theorem dc_M_drop_58 : decode cb_M_drop 58 = .ok (.iadd, 1) := by decide +kernel
theorem dc_M_drop_59 : decode cb_M_drop 59 = .ok (.aload_n 0, 1) := by decide +kernel
theorem dc_M_drop_60 : decode cb_M_drop 60 = .ok (.getfield 13, 3) := by decide +kernel
theorem dc_M_drop_63 : decode cb_M_drop 63 = .ok (.bipush 7, 2) := by decide +kernel
theorem dc_M_drop_65 : decode cb_M_drop 65 = .ok (.iload_n 2, 1) := by decide +kernel
theorem dc_M_drop_66 : decode cb_M_drop 66 = .ok (.imul, 1) := by decide +kernel
theorem dc_M_drop_67 : decode cb_M_drop 67 = .ok (.bipush 7, 2) := by decide +kernel
theorem dc_M_drop_69 : decode cb_M_drop 69 = .ok (.iadd, 1) := by decide +kernel
theorem dc_M_drop_70 : decode cb_M_drop 70 = .ok (.iload_n 3, 1) := by decide +kernel
theorem dc_M_drop_71 : decode cb_M_drop 71 = .ok (.iadd, 1) := by decide +kernel
theorem dc_M_drop_72 : decode cb_M_drop 72 = .ok (.iaload, 1) := by decide +kernel
theorem dc_M_drop_73 : decode cb_M_drop 73 = .ok (.iastore, 1) := by decide +kernel
theorem dc_M_drop_74 : decode cb_M_drop 74 = .ok (.iinc 3 1, 3) := by decide +kernel
theorem dc_M_drop_77 : decode cb_M_drop 77 = .ok (.goto (-34), 3) := by decide +kernel
theorem dc_M_drop_80 : decode cb_M_drop 80 = .ok (.iinc 2 1, 3) := by decide +kernel
theorem dc_M_drop_83 : decode cb_M_drop 83 = .ok (.goto (-66), 3) := by decide +kernel
theorem dc_M_drop_86 : decode cb_M_drop 86 = .ok (.aload_n 0, 1) := by decide +kernel
theorem dc_M_drop_87 : decode cb_M_drop 87 = .ok (.dup, 1) := by decide +kernel
theorem dc_M_drop_88 : decode cb_M_drop 88 = .ok (.getfield 76, 3) := by decide +kernel
theorem dc_M_drop_91 : decode cb_M_drop 91 = .ok (.iconst 1, 1) := by decide +kernel
theorem dc_M_drop_92 : decode cb_M_drop 92 = .ok (.isub, 1) := by decide +kernel
theorem dc_M_drop_93 : decode cb_M_drop 93 = .ok (.putfield 76, 3) := by decide +kernel
theorem dc_M_drop_96 : decode cb_M_drop 96 = .ok (.aload_n 0, 1) := by decide +kernel
theorem dc_M_drop_97 : decode cb_M_drop 97 = .ok (.getfield 76, 3) := by decide +kernel
theorem dc_M_drop_100 : decode cb_M_drop 100 = .ok (.ireturn, 1) := by decide +kernel
theorem dc_M_tieOrder_0 : decode cb_M_tieOrder 0 = .ok (.aload_n 0, 1) := by decide +kernel
theorem dc_M_tieOrder_1 : decode cb_M_tieOrder 1 = .ok (.aload_n 0, 1) := by decide +kernel
theorem dc_M_tieOrder_2 : decode cb_M_tieOrder 2 = .ok (.iload_n 1, 1) := by decide +kernel
theorem dc_M_tieOrder_3 : decode cb_M_tieOrder 3 = .ok (.invokevirtual 90, 3) := by decide +kernel
theorem dc_M_tieOrder_6 : decode cb_M_tieOrder 6 = .ok (.iconst 1, 1) := by decide +kernel
theorem dc_M_tieOrder_7 : decode cb_M_tieOrder 7 = .ok (.invokevirtual 86, 3) := by decide +kernel
theorem dc_M_tieOrder_10 : decode cb_M_tieOrder 10 = .ok (.ifCond .ne 5, 3) := by decide +kernel
theorem dc_M_tieOrder_13 : decode cb_M_tieOrder 13 = .ok (.iconst 0, 1) := by decide +kernel
theorem dc_M_tieOrder_14 : decode cb_M_tieOrder 14 = .ok (.ireturn, 1) := by decide +kernel
theorem dc_M_tieOrder_15 : decode cb_M_tieOrder 15 = .ok (.aload_n 0, 1) := by decide +kernel
theorem dc_M_tieOrder_16 : decode cb_M_tieOrder 16 = .ok (.aload_n 0, 1) := by decide +kernel
theorem dc_M_tieOrder_17 : decode cb_M_tieOrder 17 = .ok (.getfield 20, 3) := by decide +kernel
theorem dc_M_tieOrder_20 : decode cb_M_tieOrder 20 = .ok (.iconst 0, 1) := by decide +kernel
theorem dc_M_tieOrder_21 : decode cb_M_tieOrder 21 = .ok (.invokevirtual 102, 3) := by decide +kernel
theorem dc_M_tieOrder_24 : decode cb_M_tieOrder 24 = .ok (.istore_n 2, 1) := by decide +kernel
theorem dc_M_tieOrder_25 : decode cb_M_tieOrder 25 = .ok (.aload_n 0, 1) := by decide +kernel
theorem dc_M_tieOrder_26 : decode cb_M_tieOrder 26 = .ok (.iload_n 1, 1) := by decide +kernel
theorem dc_M_tieOrder_27 : decode cb_M_tieOrder 27 = .ok (.aload_n 0, 1) := by decide +kernel
theorem dc_M_tieOrder_28 : decode cb_M_tieOrder 28 = .ok (.getfield 20, 3) := by decide +kernel
theorem dc_M_tieOrder_31 : decode cb_M_tieOrder 31 = .ok (.iconst 0, 1) := by decide +kernel
theorem dc_M_tieOrder_32 : decode cb_M_tieOrder 32 = .ok (.invokevirtual 95, 3) := by decide +kernel
theorem dc_M_tieOrder_35 : decode cb_M_tieOrder 35 = .ok (.iload_n 2, 1) := by decide +kernel
theorem dc_M_tieOrder_36 : decode cb_M_tieOrder 36 = .ok (.ireturn, 1) := by decide +kernel
theorem dc_M_agenda_0 : decode cb_M_agenda 0 = .ok (.aload_n 0, 1) := by decide +kernel
theorem dc_M_agenda_1 : decode cb_M_agenda 1 = .ok (.aload_n 0, 1) := by decide +kernel
theorem dc_M_agenda_2 : decode cb_M_agenda 2 = .ok (.iload_n 1, 1) := by decide +kernel
theorem dc_M_agenda_3 : decode cb_M_agenda 3 = .ok (.invokevirtual 90, 3) := by decide +kernel
theorem dc_M_agenda_6 : decode cb_M_agenda 6 = .ok (.iconst 1, 1) := by decide +kernel
theorem dc_M_agenda_7 : decode cb_M_agenda 7 = .ok (.invokevirtual 86, 3) := by decide +kernel
theorem dc_M_agenda_10 : decode cb_M_agenda 10 = .ok (.ifCond .ne 5, 3) := by decide +kernel
theorem dc_M_agenda_13 : decode cb_M_agenda 13 = .ok (.iconst 0, 1) := by decide +kernel
theorem dc_M_agenda_14 : decode cb_M_agenda 14 = .ok (.ireturn, 1) := by decide +kernel
theorem dc_M_agenda_15 : decode cb_M_agenda 15 = .ok (.aload_n 0, 1) := by decide +kernel
theorem dc_M_agenda_16 : decode cb_M_agenda 16 = .ok (.aload_n 0, 1) := by decide +kernel
theorem dc_M_agenda_17 : decode cb_M_agenda 17 = .ok (.getfield 23, 3) := by decide +kernel
theorem dc_M_agenda_20 : decode cb_M_agenda 20 = .ok (.iconst 0, 1) := by decide +kernel
theorem dc_M_agenda_21 : decode cb_M_agenda 21 = .ok (.invokevirtual 102, 3) := by decide +kernel
theorem dc_M_agenda_24 : decode cb_M_agenda 24 = .ok (.istore_n 2, 1) := by decide +kernel
theorem dc_M_agenda_25 : decode cb_M_agenda 25 = .ok (.aload_n 0, 1) := by decide +kernel
theorem dc_M_agenda_26 : decode cb_M_agenda 26 = .ok (.iload_n 1, 1) := by decide +kernel
theorem dc_M_agenda_27 : decode cb_M_agenda 27 = .ok (.aload_n 0, 1) := by decide +kernel
theorem dc_M_agenda_28 : decode cb_M_agenda 28 = .ok (.getfield 23, 3) := by decide +kernel
theorem dc_M_agenda_31 : decode cb_M_agenda 31 = .ok (.iconst 0, 1) := by decide +kernel
theorem dc_M_agenda_32 : decode cb_M_agenda 32 = .ok (.invokevirtual 95, 3) := by decide +kernel
theorem dc_M_agenda_35 : decode cb_M_agenda 35 = .ok (.iload_n 2, 1) := by decide +kernel
theorem dc_M_agenda_36 : decode cb_M_agenda 36 = .ok (.ireturn, 1) := by decide +kernel
theorem dc_M_weight_0 : decode cb_M_weight 0 = .ok (.aload_n 0, 1) := by decide +kernel
theorem dc_M_weight_1 : decode cb_M_weight 1 = .ok (.iload_n 1, 1) := by decide +kernel
theorem dc_M_weight_2 : decode cb_M_weight 2 = .ok (.iconst 0, 1) := by decide +kernel
theorem dc_M_weight_3 : decode cb_M_weight 3 = .ok (.aload_n 0, 1) := by decide +kernel
theorem dc_M_weight_4 : decode cb_M_weight 4 = .ok (.getfield 7, 3) := by decide +kernel
theorem dc_M_weight_7 : decode cb_M_weight 7 = .ok (.iconst 1, 1) := by decide +kernel
theorem dc_M_weight_8 : decode cb_M_weight 8 = .ok (.isub, 1) := by decide +kernel
theorem dc_M_weight_9 : decode cb_M_weight 9 = .ok (.invokestatic 82, 3) := by decide +kernel
theorem dc_M_weight_12 : decode cb_M_weight 12 = .ok (.iload_n 2, 1) := by decide +kernel
theorem dc_M_weight_13 : decode cb_M_weight 13 = .ok (.iconst 0, 1) := by decide +kernel
theorem dc_M_weight_14 : decode cb_M_weight 14 = .ok (.sipush 1000, 3) := by decide +kernel
theorem dc_M_weight_17 : decode cb_M_weight 17 = .ok (.invokestatic 82, 3) := by decide +kernel
theorem dc_M_weight_20 : decode cb_M_weight 20 = .ok (.invokevirtual 86, 3) := by decide +kernel
theorem dc_M_weight_23 : decode cb_M_weight 23 = .ok (.ifCond .ne 5, 3) := by decide +kernel
theorem dc_M_weight_26 : decode cb_M_weight 26 = .ok (.iconst 0, 1) := by decide +kernel
theorem dc_M_weight_27 : decode cb_M_weight 27 = .ok (.ireturn, 1) := by decide +kernel
theorem dc_M_weight_28 : decode cb_M_weight 28 = .ok (.aload_n 0, 1) := by decide +kernel
theorem dc_M_weight_29 : decode cb_M_weight 29 = .ok (.getfield 26, 3) := by decide +kernel
theorem dc_M_weight_32 : decode cb_M_weight 32 = .ok (.iload_n 1, 1) := by decide +kernel
theorem dc_M_weight_33 : decode cb_M_weight 33 = .ok (.iaload, 1) := by decide +kernel
theorem dc_M_weight_34 : decode cb_M_weight 34 = .ok (.istore_n 3, 1) := by decide +kernel
theorem dc_M_weight_35 : decode cb_M_weight 35 = .ok (.aload_n 0, 1) := by decide +kernel
theorem dc_M_weight_36 : decode cb_M_weight 36 = .ok (.getfield 26, 3) := by decide +kernel
theorem dc_M_weight_39 : decode cb_M_weight 39 = .ok (.iload_n 1, 1) := by decide +kernel
theorem dc_M_weight_40 : decode cb_M_weight 40 = .ok (.iload_n 2, 1) := by decide +kernel
theorem dc_M_weight_41 : decode cb_M_weight 41 = .ok (.iastore, 1) := by decide +kernel
theorem dc_M_weight_42 : decode cb_M_weight 42 = .ok (.iload_n 3, 1) := by decide +kernel
theorem dc_M_weight_43 : decode cb_M_weight 43 = .ok (.ireturn, 1) := by decide +kernel
theorem dc_M_load_0 : decode cb_M_load 0 = .ok (.aload_n 0, 1) := by decide +kernel
theorem dc_M_load_1 : decode cb_M_load 1 = .ok (.aload_n 0, 1) := by decide +kernel
theorem dc_M_load_2 : decode cb_M_load 2 = .ok (.getfield 7, 3) := by decide +kernel
theorem dc_M_load_5 : decode cb_M_load 5 = .ok (.putfield 106, 3) := by decide +kernel
theorem dc_M_load_8 : decode cb_M_load 8 = .ok (.aload_n 0, 1) := by decide +kernel
theorem dc_M_load_9 : decode cb_M_load 9 = .ok (.aload_n 0, 1) := by decide +kernel
theorem dc_M_load_10 : decode cb_M_load 10 = .ok (.getfield 76, 3) := by decide +kernel
theorem dc_M_load_13 : decode cb_M_load 13 = .ok (.putfield 109, 3) := by decide +kernel
theorem dc_M_load_16 : decode cb_M_load 16 = .ok (.iconst 0, 1) := by decide +kernel
theorem dc_M_load_17 : decode cb_M_load 17 = .ok (.istore_n 1, 1) := by decide +kernel
theorem dc_M_load_18 : decode cb_M_load 18 = .ok (.iload_n 1, 1) := by decide +kernel
theorem dc_M_load_19 : decode cb_M_load 19 = .ok (.bipush 7, 2) := by decide +kernel
theorem dc_M_load_21 : decode cb_M_load 21 = .ok (.aload_n 0, 1) := by decide +kernel
theorem dc_M_load_22 : decode cb_M_load 22 = .ok (.getfield 76, 3) := by decide +kernel
theorem dc_M_load_25 : decode cb_M_load 25 = .ok (.imul, 1) := by decide +kernel
theorem dc_M_load_26 : decode cb_M_load 26 = .ok (.if_icmp .ge 21, 3) := by decide +kernel
theorem dc_M_load_29 : decode cb_M_load 29 = .ok (.aload_n 0, 1) := by decide +kernel
theorem dc_M_load_30 : decode cb_M_load 30 = .ok (.getfield 29, 3) := by decide +kernel
theorem dc_M_load_33 : decode cb_M_load 33 = .ok (.iload_n 1, 1) := by decide +kernel
theorem dc_M_load_34 : decode cb_M_load 34 = .ok (.aload_n 0, 1) := by decide +kernel
theorem dc_M_load_35 : decode cb_M_load 35 = .ok (.getfield 13, 3) := by decide +kernel
theorem dc_M_load_38 : decode cb_M_load 38 = .ok (.iload_n 1, 1) := by decide +kernel
theorem dc_M_load_39 : decode cb_M_load 39 = .ok (.iaload, 1) := by decide +kernel
theorem dc_M_load_40 : decode cb_M_load 40 = .ok (.iastore, 1) := by decide +kernel
theorem dc_M_load_41 : decode cb_M_load 41 = .ok (.iinc 1 1, 3) := by decide +kernel
theorem dc_M_load_44 : decode cb_M_load 44 = .ok (.goto (-26), 3) := by decide +kernel
theorem dc_M_load_47 : decode cb_M_load 47 = .ok (.iconst 0, 1) := by decide +kernel
theorem dc_M_load_48 : decode cb_M_load 48 = .ok (.istore_n 1, 1) := by decide +kernel
theorem dc_M_load_49 : decode cb_M_load 49 = .ok (.iload_n 1, 1) := by decide +kernel
theorem dc_M_load_50 : decode cb_M_load 50 = .ok (.aload_n 0, 1) := by decide +kernel
theorem dc_M_load_51 : decode cb_M_load 51 = .ok (.getfield 76, 3) := by decide +kernel
theorem dc_M_load_54 : decode cb_M_load 54 = .ok (.if_icmp .ge 21, 3) := by decide +kernel
theorem dc_M_load_57 : decode cb_M_load 57 = .ok (.aload_n 0, 1) := by decide +kernel
theorem dc_M_load_58 : decode cb_M_load 58 = .ok (.getfield 32, 3) := by decide +kernel
theorem dc_M_load_61 : decode cb_M_load 61 = .ok (.iload_n 1, 1) := by decide +kernel
theorem dc_M_load_62 : decode cb_M_load 62 = .ok (.aload_n 0, 1) := by decide +kernel
theorem dc_M_load_63 : decode cb_M_load 63 = .ok (.getfield 17, 3) := by decide +kernel
theorem dc_M_load_66 : decode cb_M_load 66 = .ok (.iload_n 1, 1) := by decide +kernel
theorem dc_M_load_67 : decode cb_M_load 67 = .ok (.iaload, 1) := by decide +kernel
theorem dc_M_load_68 : decode cb_M_load 68 = .ok (.iastore, 1) := by decide +kernel
theorem dc_M_load_69 : decode cb_M_load 69 = .ok (.iinc 1 1, 3) := by decide +kernel
theorem dc_M_load_72 : decode cb_M_load 72 = .ok (.goto (-23), 3) := by decide +kernel
theorem dc_M_load_75 : decode cb_M_load 75 = .ok (.iconst 0, 1) := by decide +kernel
theorem dc_M_load_76 : decode cb_M_load 76 = .ok (.istore_n 1, 1) := by decide +kernel
theorem dc_M_load_77 : decode cb_M_load 77 = .ok (.iload_n 1, 1) := by decide +kernel
theorem dc_M_load_78 : decode cb_M_load 78 = .ok (.bipush 7, 2) := by decide +kernel
theorem dc_M_load_80 : decode cb_M_load 80 = .ok (.if_icmp .ge 45, 3) := by decide +kernel
theorem dc_M_load_83 : decode cb_M_load 83 = .ok (.aload_n 0, 1) := by decide +kernel
theorem dc_M_load_84 : decode cb_M_load 84 = .ok (.getfield 35, 3) := by decide +kernel
theorem dc_M_load_87 : decode cb_M_load 87 = .ok (.iload_n 1, 1) := by decide +kernel
theorem dc_M_load_88 : decode cb_M_load 88 = .ok (.aload_n 0, 1) := by decide +kernel
theorem dc_M_load_89 : decode cb_M_load 89 = .ok (.getfield 20, 3) := by decide +kernel
theorem dc_M_load_92 : decode cb_M_load 92 = .ok (.iload_n 1, 1) := by decide +kernel
theorem dc_M_load_93 : decode cb_M_load 93 = .ok (.iaload, 1) := by decide +kernel
theorem dc_M_load_94 : decode cb_M_load 94 = .ok (.iastore, 1) := by decide +kernel
theorem dc_M_load_95 : decode cb_M_load 95 = .ok (.aload_n 0, 1) := by decide +kernel
theorem dc_M_load_96 : decode cb_M_load 96 = .ok (.getfield 38, 3) := by decide +kernel
theorem dc_M_load_99 : decode cb_M_load 99 = .ok (.iload_n 1, 1) := by decide +kernel
theorem dc_M_load_100 : decode cb_M_load 100 = .ok (.aload_n 0, 1) := by decide +kernel
theorem dc_M_load_101 : decode cb_M_load 101 = .ok (.getfield 23, 3) := by decide +kernel
theorem dc_M_load_104 : decode cb_M_load 104 = .ok (.iload_n 1, 1) := by decide +kernel
theorem dc_M_load_105 : decode cb_M_load 105 = .ok (.iaload, 1) := by decide +kernel
theorem dc_M_load_106 : decode cb_M_load 106 = .ok (.iastore, 1) := by decide +kernel
theorem dc_M_load_107 : decode cb_M_load 107 = .ok (.aload_n 0, 1) := by decide +kernel
theorem dc_M_load_108 : decode cb_M_load 108 = .ok (.getfield 41, 3) := by decide +kernel
theorem dc_M_load_111 : decode cb_M_load 111 = .ok (.iload_n 1, 1) := by decide +kernel
theorem dc_M_load_112 : decode cb_M_load 112 = .ok (.aload_n 0, 1) := by decide +kernel
theorem dc_M_load_113 : decode cb_M_load 113 = .ok (.getfield 26, 3) := by decide +kernel
theorem dc_M_load_116 : decode cb_M_load 116 = .ok (.iload_n 1, 1) := by decide +kernel
theorem dc_M_load_117 : decode cb_M_load 117 = .ok (.iaload, 1) := by decide +kernel
theorem dc_M_load_118 : decode cb_M_load 118 = .ok (.iastore, 1) := by decide +kernel
theorem dc_M_load_119 : decode cb_M_load 119 = .ok (.iinc 1 1, 3) := by decide +kernel
theorem dc_M_load_122 : decode cb_M_load 122 = .ok (.goto (-45), 3) := by decide +kernel
theorem dc_M_load_125 : decode cb_M_load 125 = .ok (.return_, 1) := by decide +kernel
theorem dc_M_without_0 : decode cb_M_without 0 = .ok (.iload_n 3, 1) := by decide +kernel
theorem dc_M_without_1 : decode cb_M_without 1 = .ok (.istore 4, 2) := by decide +kernel
theorem dc_M_without_3 : decode cb_M_without 3 = .ok (.iload_n 3, 1) := by decide +kernel
theorem dc_M_without_4 : decode cb_M_without 4 = .ok (.istore 5, 2) := by decide +kernel
theorem dc_M_without_6 : decode cb_M_without 6 = .ok (.iload 5, 2) := by decide +kernel
theorem dc_M_without_8 : decode cb_M_without 8 = .ok (.iload_n 3, 1) := by decide +kernel
theorem dc_M_without_9 : decode cb_M_without 9 = .ok (.aload_n 0, 1) := by decide +kernel
theorem dc_M_without_10 : decode cb_M_without 10 = .ok (.getfield 106, 3) := by decide +kernel
theorem dc_M_without_13 : decode cb_M_without 13 = .ok (.iadd, 1) := by decide +kernel
theorem dc_M_without_14 : decode cb_M_without 14 = .ok (.if_icmp .ge 43, 3) := by decide +kernel
theorem dc_M_without_17 : decode cb_M_without 17 = .ok (.aload_n 2, 1) := by decide +kernel
theorem dc_M_without_18 : decode cb_M_without 18 = .ok (.iload 5, 2) := by decide +kernel
theorem dc_M_without_20 : decode cb_M_without 20 = .ok (.iaload, 1) := by decide +kernel
theorem dc_M_without_21 : decode cb_M_without 21 = .ok (.istore 6, 2) := by decide +kernel
theorem dc_M_without_23 : decode cb_M_without 23 = .ok (.iload 6, 2) := by decide +kernel
theorem dc_M_without_25 : decode cb_M_without 25 = .ok (.iload_n 1, 1) := by decide +kernel
theorem dc_M_without_26 : decode cb_M_without 26 = .ok (.if_icmp .eq 25, 3) := by decide +kernel
theorem dc_M_without_29 : decode cb_M_without 29 = .ok (.aload_n 2, 1) := by decide +kernel
theorem dc_M_without_30 : decode cb_M_without 30 = .ok (.iload 4, 2) := by decide +kernel
theorem dc_M_without_32 : decode cb_M_without 32 = .ok (.iload 6, 2) := by decide +kernel
theorem dc_M_without_34 : decode cb_M_without 34 = .ok (.iload_n 1, 1) := by decide +kernel
theorem dc_M_without_35 : decode cb_M_without 35 = .ok (.if_icmp .le 10, 3) := by decide +kernel
theorem dc_M_without_38 : decode cb_M_without 38 = .ok (.iload 6, 2) := by decide +kernel
theorem dc_M_without_40 : decode cb_M_without 40 = .ok (.iconst 1, 1) := by decide +kernel
theorem dc_M_without_41 : decode cb_M_without 41 = .ok (.isub, 1) := by decide +kernel
theorem dc_M_without_42 : decode cb_M_without 42 = .ok (.goto 5, 3) := by decide +kernel
theorem dc_M_without_45 : decode cb_M_without 45 = .ok (.iload 6, 2) := by decide +kernel
theorem dc_M_without_47 : decode cb_M_without 47 = .ok (.iastore, 1) := by decide +kernel
theorem dc_M_without_48 : decode cb_M_without 48 = .ok (.iinc 4 1, 3) := by decide +kernel
theorem dc_M_without_51 : decode cb_M_without 51 = .ok (.iinc 5 1, 3) := by decide +kernel
theorem dc_M_without_54 : decode cb_M_without 54 = .ok (.goto (-48), 3) := by decide +kernel
theorem dc_M_without_57 : decode cb_M_without 57 = .ok (.return_, 1) := by decide +kernel
theorem dc_M_leaveOut_0 : decode cb_M_leaveOut 0 = .ok (.iconst 0, 1) := by decide +kernel
theorem dc_M_leaveOut_1 : decode cb_M_leaveOut 1 = .ok (.istore_n 2, 1) := by decide +kernel
theorem dc_M_leaveOut_2 : decode cb_M_leaveOut 2 = .ok (.iload_n 2, 1) := by decide +kernel
theorem dc_M_leaveOut_3 : decode cb_M_leaveOut 3 = .ok (.aload_n 0, 1) := by decide +kernel
theorem dc_M_leaveOut_4 : decode cb_M_leaveOut 4 = .ok (.getfield 109, 3) := by decide +kernel
theorem dc_M_leaveOut_7 : decode cb_M_leaveOut 7 = .ok (.if_icmp .ge 22, 3) := by decide +kernel
theorem dc_M_leaveOut_10 : decode cb_M_leaveOut 10 = .ok (.aload_n 0, 1) := by decide +kernel
theorem dc_M_leaveOut_11 : decode cb_M_leaveOut 11 = .ok (.iload_n 1, 1) := by decide +kernel
theorem dc_M_leaveOut_12 : decode cb_M_leaveOut 12 = .ok (.aload_n 0, 1) := by decide +kernel
theorem dc_M_leaveOut_13 : decode cb_M_leaveOut 13 = .ok (.getfield 29, 3) := by decide +kernel
theorem dc_M_leaveOut_16 : decode cb_M_leaveOut 16 = .ok (.bipush 7, 2) := by decide +kernel
theorem dc_M_leaveOut_18 : decode cb_M_leaveOut 18 = .ok (.iload_n 2, 1) := by decide +kernel
theorem dc_M_leaveOut_19 : decode cb_M_leaveOut 19 = .ok (.imul, 1) := by decide +kernel
theorem dc_M_leaveOut_20 : decode cb_M_leaveOut 20 = .ok (.invokevirtual 112, 3) := by decide +kernel
theorem dc_M_leaveOut_23 : decode cb_M_leaveOut 23 = .ok (.iinc 2 1, 3) := by decide +kernel
theorem dc_M_leaveOut_26 : decode cb_M_leaveOut 26 = .ok (.goto (-24), 3) := by decide +kernel
theorem dc_M_leaveOut_29 : decode cb_M_leaveOut 29 = .ok (.aload_n 0, 1) := by decide +kernel
theorem dc_M_leaveOut_30 : decode cb_M_leaveOut 30 = .ok (.iload_n 1, 1) := by decide +kernel
theorem dc_M_leaveOut_31 : decode cb_M_leaveOut 31 = .ok (.aload_n 0, 1) := by decide +kernel
theorem dc_M_leaveOut_32 : decode cb_M_leaveOut 32 = .ok (.getfield 35, 3) := by decide +kernel
theorem dc_M_leaveOut_35 : decode cb_M_leaveOut 35 = .ok (.iconst 0, 1) := by decide +kernel
theorem dc_M_leaveOut_36 : decode cb_M_leaveOut 36 = .ok (.invokevirtual 112, 3) := by decide +kernel
theorem dc_M_leaveOut_39 : decode cb_M_leaveOut 39 = .ok (.aload_n 0, 1) := by decide +kernel
theorem dc_M_leaveOut_40 : decode cb_M_leaveOut 40 = .ok (.iload_n 1, 1) := by decide +kernel
theorem dc_M_leaveOut_41 : decode cb_M_leaveOut 41 = .ok (.aload_n 0, 1) := by decide +kernel
theorem dc_M_leaveOut_42 : decode cb_M_leaveOut 42 = .ok (.getfield 38, 3) := by decide +kernel
theorem dc_M_leaveOut_45 : decode cb_M_leaveOut 45 = .ok (.iconst 0, 1) := by decide +kernel
theorem dc_M_leaveOut_46 : decode cb_M_leaveOut 46 = .ok (.invokevirtual 112, 3) := by decide +kernel
theorem dc_M_leaveOut_49 : decode cb_M_leaveOut 49 = .ok (.aload_n 0, 1) := by decide +kernel
theorem dc_M_leaveOut_50 : decode cb_M_leaveOut 50 = .ok (.dup, 1) := by decide +kernel
theorem dc_M_leaveOut_51 : decode cb_M_leaveOut 51 = .ok (.getfield 106, 3) := by decide +kernel
theorem dc_M_leaveOut_54 : decode cb_M_leaveOut 54 = .ok (.iconst 1, 1) := by decide +kernel
theorem dc_M_leaveOut_55 : decode cb_M_leaveOut 55 = .ok (.isub, 1) := by decide +kernel
theorem dc_M_leaveOut_56 : decode cb_M_leaveOut 56 = .ok (.putfield 106, 3) := by decide +kernel
theorem dc_M_leaveOut_59 : decode cb_M_leaveOut 59 = .ok (.return_, 1) := by decide +kernel
theorem dc_M_placeOf_0 : decode cb_M_placeOf 0 = .ok (.iconst 0, 1) := by decide +kernel
theorem dc_M_placeOf_1 : decode cb_M_placeOf 1 = .ok (.istore_n 3, 1) := by decide +kernel
theorem dc_M_placeOf_2 : decode cb_M_placeOf 2 = .ok (.aload_n 0, 1) := by decide +kernel
theorem dc_M_placeOf_3 : decode cb_M_placeOf 3 = .ok (.getfield 29, 3) := by decide +kernel
theorem dc_M_placeOf_6 : decode cb_M_placeOf 6 = .ok (.bipush 7, 2) := by decide +kernel
theorem dc_M_placeOf_8 : decode cb_M_placeOf 8 = .ok (.iload_n 1, 1) := by decide +kernel
theorem dc_M_placeOf_9 : decode cb_M_placeOf 9 = .ok (.imul, 1) := by decide +kernel
theorem dc_M_placeOf_10 : decode cb_M_placeOf 10 = .ok (.iload_n 3, 1) := by decide +kernel
theorem dc_M_placeOf_11 : decode cb_M_placeOf 11 = .ok (.iadd, 1) := by decide +kernel
theorem dc_M_placeOf_12 : decode cb_M_placeOf 12 = .ok (.iaload, 1) := by decide +kernel
theorem dc_M_placeOf_13 : decode cb_M_placeOf 13 = .ok (.iload_n 2, 1) := by decide +kernel
theorem dc_M_placeOf_14 : decode cb_M_placeOf 14 = .ok (.if_icmp .eq 9, 3) := by decide +kernel
theorem dc_M_placeOf_17 : decode cb_M_placeOf 17 = .ok (.iinc 3 1, 3) := by decide +kernel
theorem dc_M_placeOf_20 : decode cb_M_placeOf 20 = .ok (.goto (-18), 3) := by decide +kernel
theorem dc_M_placeOf_23 : decode cb_M_placeOf 23 = .ok (.iload_n 3, 1) := by decide +kernel
theorem dc_M_placeOf_24 : decode cb_M_placeOf 24 = .ok (.ireturn, 1) := by decide +kernel
theorem dc_M_tiePlace_0 : decode cb_M_tiePlace 0 = .ok (.iconst 0, 1) := by decide +kernel
theorem dc_M_tiePlace_1 : decode cb_M_tiePlace 1 = .ok (.istore_n 2, 1) := by decide +kernel
theorem dc_M_tiePlace_2 : decode cb_M_tiePlace 2 = .ok (.aload_n 0, 1) := by decide +kernel
theorem dc_M_tiePlace_3 : decode cb_M_tiePlace 3 = .ok (.getfield 35, 3) := by decide +kernel
theorem dc_M_tiePlace_6 : decode cb_M_tiePlace 6 = .ok (.iload_n 2, 1) := by decide +kernel
theorem dc_M_tiePlace_7 : decode cb_M_tiePlace 7 = .ok (.iaload, 1) := by decide +kernel
theorem dc_M_tiePlace_8 : decode cb_M_tiePlace 8 = .ok (.iload_n 1, 1) := by decide +kernel
theorem dc_M_tiePlace_9 : decode cb_M_tiePlace 9 = .ok (.if_icmp .eq 9, 3) := by decide +kernel
theorem dc_M_tiePlace_12 : decode cb_M_tiePlace 12 = .ok (.iinc 2 1, 3) := by decide +kernel
theorem dc_M_tiePlace_15 : decode cb_M_tiePlace 15 = .ok (.goto (-13), 3) := by decide +kernel
theorem dc_M_tiePlace_18 : decode cb_M_tiePlace 18 = .ok (.iload_n 2, 1) := by decide +kernel
theorem dc_M_tiePlace_19 : decode cb_M_tiePlace 19 = .ok (.ireturn, 1) := by decide +kernel
theorem dc_M_tally_0 : decode cb_M_tally 0 = .ok (.iconst 0, 1) := by decide +kernel
theorem dc_M_tally_1 : decode cb_M_tally 1 = .ok (.istore_n 1, 1) := by decide +kernel
theorem dc_M_tally_2 : decode cb_M_tally 2 = .ok (.iload_n 1, 1) := by decide +kernel
theorem dc_M_tally_3 : decode cb_M_tally 3 = .ok (.bipush 49, 2) := by decide +kernel
theorem dc_M_tally_5 : decode cb_M_tally 5 = .ok (.if_icmp .ge 16, 3) := by decide +kernel
theorem dc_M_tally_8 : decode cb_M_tally 8 = .ok (.aload_n 0, 1) := by decide +kernel
theorem dc_M_tally_9 : decode cb_M_tally 9 = .ok (.getfield 44, 3) := by decide +kernel
theorem dc_M_tally_12 : decode cb_M_tally 12 = .ok (.iload_n 1, 1) := by decide +kernel
theorem dc_M_tally_13 : decode cb_M_tally 13 = .ok (.iconst 0, 1) := by decide +kernel
theorem dc_M_tally_14 : decode cb_M_tally 14 = .ok (.iastore, 1) := by decide +kernel
theorem dc_M_tally_15 : decode cb_M_tally 15 = .ok (.iinc 1 1, 3) := by decide +kernel
theorem dc_M_tally_18 : decode cb_M_tally 18 = .ok (.goto (-16), 3) := by decide +kernel
theorem dc_M_tally_21 : decode cb_M_tally 21 = .ok (.iconst 0, 1) := by decide +kernel
theorem dc_M_tally_22 : decode cb_M_tally 22 = .ok (.istore_n 1, 1) := by decide +kernel
theorem dc_M_tally_23 : decode cb_M_tally 23 = .ok (.iload_n 1, 1) := by decide +kernel
theorem dc_M_tally_24 : decode cb_M_tally 24 = .ok (.aload_n 0, 1) := by decide +kernel
theorem dc_M_tally_25 : decode cb_M_tally 25 = .ok (.getfield 109, 3) := by decide +kernel
theorem dc_M_tally_28 : decode cb_M_tally 28 = .ok (.if_icmp .ge 92, 3) := by decide +kernel
theorem dc_M_tally_31 : decode cb_M_tally 31 = .ok (.iconst 0, 1) := by decide +kernel
theorem dc_M_tally_32 : decode cb_M_tally 32 = .ok (.istore_n 2, 1) := by decide +kernel
theorem dc_M_tally_33 : decode cb_M_tally 33 = .ok (.iload_n 2, 1) := by decide +kernel
theorem dc_M_tally_34 : decode cb_M_tally 34 = .ok (.aload_n 0, 1) := by decide +kernel
theorem dc_M_tally_35 : decode cb_M_tally 35 = .ok (.getfield 106, 3) := by decide +kernel
theorem dc_M_tally_38 : decode cb_M_tally 38 = .ok (.if_icmp .ge 76, 3) := by decide +kernel
theorem dc_M_tally_41 : decode cb_M_tally 41 = .ok (.iload_n 2, 1) := by decide +kernel
theorem dc_M_tally_42 : decode cb_M_tally 42 = .ok (.iconst 1, 1) := by decide +kernel
theorem dc_M_tally_43 : decode cb_M_tally 43 = .ok (.iadd, 1) := by decide +kernel
theorem dc_M_tally_44 : decode cb_M_tally 44 = .ok (.istore_n 3, 1) := by decide +kernel
theorem dc_M_tally_45 : decode cb_M_tally 45 = .ok (.iload_n 3, 1) := by decide +kernel
theorem dc_M_tally_46 : decode cb_M_tally 46 = .ok (.aload_n 0, 1) := by decide +kernel
theorem dc_M_tally_47 : decode cb_M_tally 47 = .ok (.getfield 106, 3) := by decide +kernel
theorem dc_M_tally_50 : decode cb_M_tally 50 = .ok (.if_icmp .ge 58, 3) := by decide +kernel
theorem dc_M_tally_53 : decode cb_M_tally 53 = .ok (.bipush 7, 2) := by decide +kernel
theorem dc_M_tally_55 : decode cb_M_tally 55 = .ok (.aload_n 0, 1) := by decide +kernel
theorem dc_M_tally_56 : decode cb_M_tally 56 = .ok (.getfield 29, 3) := by decide +kernel
theorem dc_M_tally_59 : decode cb_M_tally 59 = .ok (.bipush 7, 2) := by decide +kernel
theorem dc_M_tally_61 : decode cb_M_tally 61 = .ok (.iload_n 1, 1) := by decide +kernel
theorem dc_M_tally_62 : decode cb_M_tally 62 = .ok (.imul, 1) := by decide +kernel
theorem dc_M_tally_63 : decode cb_M_tally 63 = .ok (.iload_n 2, 1) := by decide +kernel
theorem dc_M_tally_64 : decode cb_M_tally 64 = .ok (.iadd, 1) := by decide +kernel
theorem dc_M_tally_65 : decode cb_M_tally 65 = .ok (.iaload, 1) := by decide +kernel
theorem dc_M_tally_66 : decode cb_M_tally 66 = .ok (.imul, 1) := by decide +kernel
theorem dc_M_tally_67 : decode cb_M_tally 67 = .ok (.aload_n 0, 1) := by decide +kernel
theorem dc_M_tally_68 : decode cb_M_tally 68 = .ok (.getfield 29, 3) := by decide +kernel
theorem dc_M_tally_71 : decode cb_M_tally 71 = .ok (.bipush 7, 2) := by decide +kernel
theorem dc_M_tally_73 : decode cb_M_tally 73 = .ok (.iload_n 1, 1) := by decide +kernel
theorem dc_M_tally_74 : decode cb_M_tally 74 = .ok (.imul, 1) := by decide +kernel
theorem dc_M_tally_75 : decode cb_M_tally 75 = .ok (.iload_n 3, 1) := by decide +kernel
theorem dc_M_tally_76 : decode cb_M_tally 76 = .ok (.iadd, 1) := by decide +kernel
theorem dc_M_tally_77 : decode cb_M_tally 77 = .ok (.iaload, 1) := by decide +kernel
theorem dc_M_tally_78 : decode cb_M_tally 78 = .ok (.iadd, 1) := by decide +kernel
theorem dc_M_tally_79 : decode cb_M_tally 79 = .ok (.istore 4, 2) := by decide +kernel
theorem dc_M_tally_81 : decode cb_M_tally 81 = .ok (.aload_n 0, 1) := by decide +kernel
theorem dc_M_tally_82 : decode cb_M_tally 82 = .ok (.getfield 44, 3) := by decide +kernel
theorem dc_M_tally_85 : decode cb_M_tally 85 = .ok (.iload 4, 2) := by decide +kernel
theorem dc_M_tally_87 : decode cb_M_tally 87 = .ok (.aload_n 0, 1) := by decide +kernel
theorem dc_M_tally_88 : decode cb_M_tally 88 = .ok (.getfield 44, 3) := by decide +kernel
theorem dc_M_tally_91 : decode cb_M_tally 91 = .ok (.iload 4, 2) := by decide +kernel
theorem dc_M_tally_93 : decode cb_M_tally 93 = .ok (.iaload, 1) := by decide +kernel
theorem dc_M_tally_94 : decode cb_M_tally 94 = .ok (.aload_n 0, 1) := by decide +kernel
theorem dc_M_tally_95 : decode cb_M_tally 95 = .ok (.getfield 32, 3) := by decide +kernel
theorem dc_M_tally_98 : decode cb_M_tally 98 = .ok (.iload_n 1, 1) := by decide +kernel
theorem dc_M_tally_99 : decode cb_M_tally 99 = .ok (.iaload, 1) := by decide +kernel
theorem dc_M_tally_100 : decode cb_M_tally 100 = .ok (.iadd, 1) := by decide +kernel
theorem dc_M_tally_101 : decode cb_M_tally 101 = .ok (.iastore, 1) := by decide +kernel
theorem dc_M_tally_102 : decode cb_M_tally 102 = .ok (.iinc 3 1, 3) := by decide +kernel
theorem dc_M_tally_105 : decode cb_M_tally 105 = .ok (.goto (-60), 3) := by decide +kernel
theorem dc_M_tally_108 : decode cb_M_tally 108 = .ok (.iinc 2 1, 3) := by decide +kernel
theorem dc_M_tally_111 : decode cb_M_tally 111 = .ok (.goto (-78), 3) := by decide +kernel
theorem dc_M_tally_114 : decode cb_M_tally 114 = .ok (.iinc 1 1, 3) := by decide +kernel
theorem dc_M_tally_117 : decode cb_M_tally 117 = .ok (.goto (-94), 3) := by decide +kernel
theorem dc_M_tally_120 : decode cb_M_tally 120 = .ok (.return_, 1) := by decide +kernel
theorem dc_M_beats_0 : decode cb_M_beats 0 = .ok (.aload_n 0, 1) := by decide +kernel
theorem dc_M_beats_1 : decode cb_M_beats 1 = .ok (.getfield 44, 3) := by decide +kernel
theorem dc_M_beats_4 : decode cb_M_beats 4 = .ok (.bipush 7, 2) := by decide +kernel
theorem dc_M_beats_6 : decode cb_M_beats 6 = .ok (.iload_n 1, 1) := by decide +kernel
theorem dc_M_beats_7 : decode cb_M_beats 7 = .ok (.imul, 1) := by decide +kernel
theorem dc_M_beats_8 : decode cb_M_beats 8 = .ok (.iload_n 2, 1) := by decide +kernel
theorem dc_M_beats_9 : decode cb_M_beats 9 = .ok (.iadd, 1) := by decide +kernel
theorem dc_M_beats_10 : decode cb_M_beats 10 = .ok (.iaload, 1) := by decide +kernel
theorem dc_M_beats_11 : decode cb_M_beats 11 = .ok (.aload_n 0, 1) := by decide +kernel
theorem dc_M_beats_12 : decode cb_M_beats 12 = .ok (.getfield 44, 3) := by decide +kernel
theorem dc_M_beats_15 : decode cb_M_beats 15 = .ok (.bipush 7, 2) := by decide +kernel
theorem dc_M_beats_17 : decode cb_M_beats 17 = .ok (.iload_n 2, 1) := by decide +kernel
theorem dc_M_beats_18 : decode cb_M_beats 18 = .ok (.imul, 1) := by decide +kernel
theorem dc_M_beats_19 : decode cb_M_beats 19 = .ok (.iload_n 1, 1) := by decide +kernel
theorem dc_M_beats_20 : decode cb_M_beats 20 = .ok (.iadd, 1) := by decide +kernel
theorem dc_M_beats_21 : decode cb_M_beats 21 = .ok (.iaload, 1) := by decide +kernel
theorem dc_M_beats_22 : decode cb_M_beats 22 = .ok (.if_icmp .le 7, 3) := by decide +kernel
theorem dc_M_beats_25 : decode cb_M_beats 25 = .ok (.iconst 1, 1) := by decide +kernel
theorem dc_M_beats_26 : decode cb_M_beats 26 = .ok (.goto 4, 3) := by decide +kernel
theorem dc_M_beats_29 : decode cb_M_beats 29 = .ok (.iconst 0, 1) := by decide +kernel
theorem dc_M_beats_30 : decode cb_M_beats 30 = .ok (.ireturn, 1) := by decide +kernel
theorem dc_M_ahead_0 : decode cb_M_ahead 0 = .ok (.iconst 0, 1) := by decide +kernel
theorem dc_M_ahead_1 : decode cb_M_ahead 1 = .ok (.istore_n 3, 1) := by decide +kernel
theorem dc_M_ahead_2 : decode cb_M_ahead 2 = .ok (.iconst 0, 1) := by decide +kernel
theorem dc_M_ahead_3 : decode cb_M_ahead 3 = .ok (.istore 4, 2) := by decide +kernel
theorem dc_M_ahead_5 : decode cb_M_ahead 5 = .ok (.iload 4, 2) := by decide +kernel
theorem dc_M_ahead_7 : decode cb_M_ahead 7 = .ok (.aload_n 0, 1) := by decide +kernel
theorem dc_M_ahead_8 : decode cb_M_ahead 8 = .ok (.getfield 109, 3) := by decide +kernel
theorem dc_M_ahead_11 : decode cb_M_ahead 11 = .ok (.if_icmp .ge 69, 3) := by decide +kernel
theorem dc_M_ahead_14 : decode cb_M_ahead 14 = .ok (.iconst 0, 1) := by decide +kernel
theorem dc_M_ahead_15 : decode cb_M_ahead 15 = .ok (.istore 5, 2) := by decide +kernel
theorem dc_M_ahead_17 : decode cb_M_ahead 17 = .ok (.iload_n 2, 1) := by decide +kernel
theorem dc_M_ahead_18 : decode cb_M_ahead 18 = .ok (.aload_n 0, 1) := by decide +kernel
theorem dc_M_ahead_19 : decode cb_M_ahead 19 = .ok (.getfield 29, 3) := by decide +kernel
theorem dc_M_ahead_22 : decode cb_M_ahead 22 = .ok (.bipush 7, 2) := by decide +kernel
theorem dc_M_ahead_24 : decode cb_M_ahead 24 = .ok (.iload 4, 2) := by decide +kernel
theorem dc_M_ahead_26 : decode cb_M_ahead 26 = .ok (.imul, 1) := by decide +kernel
theorem dc_M_ahead_27 : decode cb_M_ahead 27 = .ok (.iload 5, 2) := by decide +kernel
theorem dc_M_ahead_29 : decode cb_M_ahead 29 = .ok (.iadd, 1) := by decide +kernel
theorem dc_M_ahead_30 : decode cb_M_ahead 30 = .ok (.iaload, 1) := by decide +kernel
theorem dc_M_ahead_31 : decode cb_M_ahead 31 = .ok (.ishr, 1) := by decide +kernel
theorem dc_M_ahead_32 : decode cb_M_ahead 32 = .ok (.iconst 1, 1) := by decide +kernel
theorem dc_M_ahead_33 : decode cb_M_ahead 33 = .ok (.iand, 1) := by decide +kernel
theorem dc_M_ahead_34 : decode cb_M_ahead 34 = .ok (.ifCond .ne 9, 3) := by decide +kernel
theorem dc_M_ahead_37 : decode cb_M_ahead 37 = .ok (.iinc 5 1, 3) := by decide +kernel
theorem dc_M_ahead_40 : decode cb_M_ahead 40 = .ok (.goto (-23), 3) := by decide +kernel
theorem dc_M_ahead_43 : decode cb_M_ahead 43 = .ok (.aload_n 0, 1) := by decide +kernel
theorem dc_M_ahead_44 : decode cb_M_ahead 44 = .ok (.getfield 29, 3) := by decide +kernel
theorem dc_M_ahead_47 : decode cb_M_ahead 47 = .ok (.bipush 7, 2) := by decide +kernel
theorem dc_M_ahead_49 : decode cb_M_ahead 49 = .ok (.iload 4, 2) := by decide +kernel
theorem dc_M_ahead_51 : decode cb_M_ahead 51 = .ok (.imul, 1) := by decide +kernel
theorem dc_M_ahead_52 : decode cb_M_ahead 52 = .ok (.iload 5, 2) := by decide +kernel
theorem dc_M_ahead_54 : decode cb_M_ahead 54 = .ok (.iadd, 1) := by decide +kernel
theorem dc_M_ahead_55 : decode cb_M_ahead 55 = .ok (.iaload, 1) := by decide +kernel
theorem dc_M_ahead_56 : decode cb_M_ahead 56 = .ok (.iload_n 1, 1) := by decide +kernel
theorem dc_M_ahead_57 : decode cb_M_ahead 57 = .ok (.if_icmp .ne 15, 3) := by decide +kernel
theorem dc_M_ahead_60 : decode cb_M_ahead 60 = .ok (.iload_n 3, 1) := by decide +kernel
theorem dc_M_ahead_61 : decode cb_M_ahead 61 = .ok (.aload_n 0, 1) := by decide +kernel
theorem dc_M_ahead_62 : decode cb_M_ahead 62 = .ok (.getfield 32, 3) := by decide +kernel
theorem dc_M_ahead_65 : decode cb_M_ahead 65 = .ok (.iload 4, 2) := by decide +kernel
theorem dc_M_ahead_67 : decode cb_M_ahead 67 = .ok (.iaload, 1) := by decide +kernel
theorem dc_M_ahead_68 : decode cb_M_ahead 68 = .ok (.iadd, 1) := by decide +kernel
theorem dc_M_ahead_69 : decode cb_M_ahead 69 = .ok (.goto 4, 3) := by decide +kernel
theorem dc_M_ahead_72 : decode cb_M_ahead 72 = .ok (.iload_n 3, 1) := by decide +kernel
theorem dc_M_ahead_73 : decode cb_M_ahead 73 = .ok (.istore_n 3, 1) := by decide +kernel
theorem dc_M_ahead_74 : decode cb_M_ahead 74 = .ok (.iinc 4 1, 3) := by decide +kernel
theorem dc_M_ahead_77 : decode cb_M_ahead 77 = .ok (.goto (-72), 3) := by decide +kernel
theorem dc_M_ahead_80 : decode cb_M_ahead 80 = .ok (.iload_n 3, 1) := by decide +kernel
theorem dc_M_ahead_81 : decode cb_M_ahead 81 = .ok (.ireturn, 1) := by decide +kernel
theorem dc_M_all_0 : decode cb_M_all 0 = .ok (.iconst 1, 1) := by decide +kernel
theorem dc_M_all_1 : decode cb_M_all 1 = .ok (.aload_n 0, 1) := by decide +kernel
theorem dc_M_all_2 : decode cb_M_all 2 = .ok (.getfield 106, 3) := by decide +kernel
theorem dc_M_all_5 : decode cb_M_all 5 = .ok (.ishl, 1) := by decide +kernel
theorem dc_M_all_6 : decode cb_M_all 6 = .ok (.iconst 1, 1) := by decide +kernel
theorem dc_M_all_7 : decode cb_M_all 7 = .ok (.isub, 1) := by decide +kernel
theorem dc_M_all_8 : decode cb_M_all 8 = .ok (.ireturn, 1) := by decide +kernel
theorem dc_M_scored_0 : decode cb_M_scored 0 = .ok (.lconst 0, 1) := by decide +kernel
theorem dc_M_scored_1 : decode cb_M_scored 1 = .ok (.lstore_n 3, 1) := by decide +kernel
theorem dc_M_scored_2 : decode cb_M_scored 2 = .ok (.iload_n 1, 1) := by decide +kernel
theorem dc_M_scored_3 : decode cb_M_scored 3 = .ok (.ifCond .ne 14, 3) := by decide +kernel
theorem dc_M_scored_6 : decode cb_M_scored 6 = .ok (.aload_n 0, 1) := by decide +kernel
theorem dc_M_scored_7 : decode cb_M_scored 7 = .ok (.iload_n 2, 1) := by decide +kernel
theorem dc_M_scored_8 : decode cb_M_scored 8 = .ok (.aload_n 0, 1) := by decide +kernel
theorem dc_M_scored_9 : decode cb_M_scored 9 = .ok (.invokevirtual 115, 3) := by decide +kernel
theorem dc_M_scored_12 : decode cb_M_scored 12 = .ok (.invokevirtual 119, 3) := by decide +kernel
theorem dc_M_scored_15 : decode cb_M_scored 15 = .ok (.i2l, 1) := by decide +kernel
theorem dc_M_scored_16 : decode cb_M_scored 16 = .ok (.lreturn, 1) := by decide +kernel
theorem dc_M_scored_17 : decode cb_M_scored 17 = .ok (.iconst 0, 1) := by decide +kernel
theorem dc_M_scored_18 : decode cb_M_scored 18 = .ok (.istore 5, 2) := by decide +kernel
theorem dc_M_scored_20 : decode cb_M_scored 20 = .ok (.iload 5, 2) := by decide +kernel
theorem dc_M_scored_22 : decode cb_M_scored 22 = .ok (.aload_n 0, 1) := by decide +kernel
theorem dc_M_scored_23 : decode cb_M_scored 23 = .ok (.getfield 109, 3) := by decide +kernel
theorem dc_M_scored_26 : decode cb_M_scored 26 = .ok (.if_icmp .ge 74, 3) := by decide +kernel
theorem dc_M_scored_29 : decode cb_M_scored 29 = .ok (.iload_n 1, 1) := by decide +kernel
theorem dc_M_scored_30 : decode cb_M_scored 30 = .ok (.iconst 3, 1) := by decide +kernel
theorem dc_M_scored_31 : decode cb_M_scored 31 = .ok (.if_icmp .ge 69, 3) := by decide +kernel
theorem dc_M_scored_34 : decode cb_M_scored 34 = .ok (.aload_n 0, 1) := by decide +kernel
theorem dc_M_scored_35 : decode cb_M_scored 35 = .ok (.iload 5, 2) := by decide +kernel
theorem dc_M_scored_37 : decode cb_M_scored 37 = .ok (.iload_n 2, 1) := by decide +kernel
theorem dc_M_scored_38 : decode cb_M_scored 38 = .ok (.invokevirtual 123, 3) := by decide +kernel
theorem dc_M_scored_41 : decode cb_M_scored 41 = .ok (.istore 6, 2) := by decide +kernel
theorem dc_M_scored_43 : decode cb_M_scored 43 = .ok (.lload_n 3, 1) := by decide +kernel
theorem dc_M_scored_44 : decode cb_M_scored 44 = .ok (.iload_n 1, 1) := by decide +kernel
theorem dc_M_scored_45 : decode cb_M_scored 45 = .ok (.iconst 1, 1) := by decide +kernel
theorem dc_M_scored_46 : decode cb_M_scored 46 = .ok (.if_icmp .ne 29, 3) := by decide +kernel
theorem dc_M_scored_49 : decode cb_M_scored 49 = .ok (.iload 6, 2) := by decide +kernel
theorem dc_M_scored_51 : decode cb_M_scored 51 = .ok (.aload_n 0, 1) := by decide +kernel
theorem dc_M_scored_52 : decode cb_M_scored 52 = .ok (.getfield 106, 3) := by decide +kernel
theorem dc_M_scored_55 : decode cb_M_scored 55 = .ok (.iconst 1, 1) := by decide +kernel
theorem dc_M_scored_56 : decode cb_M_scored 56 = .ok (.isub, 1) := by decide +kernel
theorem dc_M_scored_57 : decode cb_M_scored 57 = .ok (.if_icmp .ne 14, 3) := by decide +kernel
theorem dc_M_scored_60 : decode cb_M_scored 60 = .ok (.aload_n 0, 1) := by decide +kernel
theorem dc_M_scored_61 : decode cb_M_scored 61 = .ok (.getfield 32, 3) := by decide +kernel
theorem dc_M_scored_64 : decode cb_M_scored 64 = .ok (.iload 5, 2) := by decide +kernel
theorem dc_M_scored_66 : decode cb_M_scored 66 = .ok (.iaload, 1) := by decide +kernel
theorem dc_M_scored_67 : decode cb_M_scored 67 = .ok (.i2l, 1) := by decide +kernel
theorem dc_M_scored_68 : decode cb_M_scored 68 = .ok (.goto 24, 3) := by decide +kernel
theorem dc_M_scored_71 : decode cb_M_scored 71 = .ok (.lconst 0, 1) := by decide +kernel
theorem dc_M_scored_72 : decode cb_M_scored 72 = .ok (.goto 20, 3) := by decide +kernel
theorem dc_M_scored_75 : decode cb_M_scored 75 = .ok (.aload_n 0, 1) := by decide +kernel
theorem dc_M_scored_76 : decode cb_M_scored 76 = .ok (.getfield 41, 3) := by decide +kernel
theorem dc_M_scored_79 : decode cb_M_scored 79 = .ok (.iload 6, 2) := by decide +kernel
theorem dc_M_scored_81 : decode cb_M_scored 81 = .ok (.iaload, 1) := by decide +kernel
theorem dc_M_scored_82 : decode cb_M_scored 82 = .ok (.i2l, 1) := by decide +kernel
theorem dc_M_scored_83 : decode cb_M_scored 83 = .ok (.aload_n 0, 1) := by decide +kernel
theorem dc_M_scored_84 : decode cb_M_scored 84 = .ok (.getfield 32, 3) := by decide +kernel
theorem dc_M_scored_87 : decode cb_M_scored 87 = .ok (.iload 5, 2) := by decide +kernel
theorem dc_M_scored_89 : decode cb_M_scored 89 = .ok (.iaload, 1) := by decide +kernel
theorem dc_M_scored_90 : decode cb_M_scored 90 = .ok (.i2l, 1) := by decide +kernel
theorem dc_M_scored_91 : decode cb_M_scored 91 = .ok (.lmul, 1) := by decide +kernel
theorem dc_M_scored_92 : decode cb_M_scored 92 = .ok (.ladd, 1) := by decide +kernel
theorem dc_M_scored_93 : decode cb_M_scored 93 = .ok (.lstore_n 3, 1) := by decide +kernel
theorem dc_M_scored_94 : decode cb_M_scored 94 = .ok (.iinc 5 1, 3) := by decide +kernel
theorem dc_M_scored_97 : decode cb_M_scored 97 = .ok (.goto (-77), 3) := by decide +kernel
theorem dc_M_scored_100 : decode cb_M_scored 100 = .ok (.iconst 0, 1) := by decide +kernel
theorem dc_M_scored_101 : decode cb_M_scored 101 = .ok (.istore 5, 2) := by decide +kernel
theorem dc_M_scored_103 : decode cb_M_scored 103 = .ok (.iload 5, 2) := by decide +kernel
theorem dc_M_scored_105 : decode cb_M_scored 105 = .ok (.aload_n 0, 1) := by decide +kernel
theorem dc_M_scored_106 : decode cb_M_scored 106 = .ok (.getfield 106, 3) := by decide +kernel
theorem dc_M_scored_109 : decode cb_M_scored 109 = .ok (.if_icmp .ge 119, 3) := by decide +kernel
theorem dc_M_scored_112 : decode cb_M_scored 112 = .ok (.iload_n 1, 1) := by decide +kernel
theorem dc_M_scored_113 : decode cb_M_scored 113 = .ok (.iconst 5, 1) := by decide +kernel
theorem dc_M_scored_114 : decode cb_M_scored 114 = .ok (.if_icmp .lt 114, 3) := by decide +kernel
theorem dc_M_scored_117 : decode cb_M_scored 117 = .ok (.iload_n 1, 1) := by decide +kernel
theorem dc_M_scored_118 : decode cb_M_scored 118 = .ok (.iconst 5, 1) := by decide +kernel
theorem dc_M_scored_119 : decode cb_M_scored 119 = .ok (.if_icmp .ne 55, 3) := by decide +kernel
theorem dc_M_scored_122 : decode cb_M_scored 122 = .ok (.iload 5, 2) := by decide +kernel
theorem dc_M_scored_124 : decode cb_M_scored 124 = .ok (.iload_n 2, 1) := by decide +kernel
theorem dc_M_scored_125 : decode cb_M_scored 125 = .ok (.if_icmp .eq 49, 3) := by decide +kernel
theorem dc_M_scored_128 : decode cb_M_scored 128 = .ok (.aload_n 0, 1) := by decide +kernel
theorem dc_M_scored_129 : decode cb_M_scored 129 = .ok (.iload 5, 2) := by decide +kernel
theorem dc_M_scored_131 : decode cb_M_scored 131 = .ok (.iload_n 2, 1) := by decide +kernel
theorem dc_M_scored_132 : decode cb_M_scored 132 = .ok (.invokevirtual 126, 3) := by decide +kernel
theorem dc_M_scored_135 : decode cb_M_scored 135 = .ok (.ifCond .eq 39, 3) := by decide +kernel
theorem dc_M_scored_138 : decode cb_M_scored 138 = .ok (.aload_n 0, 1) := by decide +kernel
theorem dc_M_scored_139 : decode cb_M_scored 139 = .ok (.getfield 44, 3) := by decide +kernel
theorem dc_M_scored_142 : decode cb_M_scored 142 = .ok (.bipush 7, 2) := by decide +kernel
theorem dc_M_scored_144 : decode cb_M_scored 144 = .ok (.iload 5, 2) := by decide +kernel
theorem dc_M_scored_146 : decode cb_M_scored 146 = .ok (.imul, 1) := by decide +kernel
theorem dc_M_scored_147 : decode cb_M_scored 147 = .ok (.iload_n 2, 1) := by decide +kernel
theorem dc_M_scored_148 : decode cb_M_scored 148 = .ok (.iadd, 1) := by decide +kernel
theorem dc_M_scored_149 : decode cb_M_scored 149 = .ok (.iaload, 1) := by decide +kernel
theorem dc_M_scored_150 : decode cb_M_scored 150 = .ok (.i2l, 1) := by decide +kernel
theorem dc_M_scored_151 : decode cb_M_scored 151 = .ok (.lload_n 3, 1) := by decide +kernel
theorem dc_M_scored_152 : decode cb_M_scored 152 = .ok (.lcmp, 1) := by decide +kernel
theorem dc_M_scored_153 : decode cb_M_scored 153 = .ok (.ifCond .le 19, 3) := by decide +kernel
theorem dc_M_scored_156 : decode cb_M_scored 156 = .ok (.aload_n 0, 1) := by decide +kernel
theorem dc_M_scored_157 : decode cb_M_scored 157 = .ok (.getfield 44, 3) := by decide +kernel
theorem dc_M_scored_160 : decode cb_M_scored 160 = .ok (.bipush 7, 2) := by decide +kernel
theorem dc_M_scored_162 : decode cb_M_scored 162 = .ok (.iload 5, 2) := by decide +kernel
theorem dc_M_scored_164 : decode cb_M_scored 164 = .ok (.imul, 1) := by decide +kernel
theorem dc_M_scored_165 : decode cb_M_scored 165 = .ok (.iload_n 2, 1) := by decide +kernel
theorem dc_M_scored_166 : decode cb_M_scored 166 = .ok (.iadd, 1) := by decide +kernel
theorem dc_M_scored_167 : decode cb_M_scored 167 = .ok (.iaload, 1) := by decide +kernel
theorem dc_M_scored_168 : decode cb_M_scored 168 = .ok (.i2l, 1) := by decide +kernel
theorem dc_M_scored_169 : decode cb_M_scored 169 = .ok (.goto 4, 3) := by decide +kernel
theorem dc_M_scored_172 : decode cb_M_scored 172 = .ok (.lload_n 3, 1) := by decide +kernel
theorem dc_M_scored_173 : decode cb_M_scored 173 = .ok (.lstore_n 3, 1) := by decide +kernel
theorem dc_M_scored_174 : decode cb_M_scored 174 = .ok (.iload_n 1, 1) := by decide +kernel
theorem dc_M_scored_175 : decode cb_M_scored 175 = .ok (.bipush 6, 2) := by decide +kernel
theorem dc_M_scored_177 : decode cb_M_scored 177 = .ok (.if_icmp .ne 45, 3) := by decide +kernel
theorem dc_M_scored_180 : decode cb_M_scored 180 = .ok (.iload 5, 2) := by decide +kernel
theorem dc_M_scored_182 : decode cb_M_scored 182 = .ok (.iload_n 2, 1) := by decide +kernel
theorem dc_M_scored_183 : decode cb_M_scored 183 = .ok (.if_icmp .eq 39, 3) := by decide +kernel
theorem dc_M_scored_186 : decode cb_M_scored 186 = .ok (.aload_n 0, 1) := by decide +kernel
theorem dc_M_scored_187 : decode cb_M_scored 187 = .ok (.iload_n 2, 1) := by decide +kernel
theorem dc_M_scored_188 : decode cb_M_scored 188 = .ok (.iload 5, 2) := by decide +kernel
theorem dc_M_scored_190 : decode cb_M_scored 190 = .ok (.invokevirtual 126, 3) := by decide +kernel
theorem dc_M_scored_193 : decode cb_M_scored 193 = .ok (.ifCond .eq 11, 3) := by decide +kernel
theorem dc_M_scored_196 : decode cb_M_scored 196 = .ok (.lload_n 3, 1) := by decide +kernel
theorem dc_M_scored_197 : decode cb_M_scored 197 = .ok (.ldc2_w 130, 3) := by decide +kernel
theorem dc_M_scored_200 : decode cb_M_scored 200 = .ok (.ladd, 1) := by decide +kernel
theorem dc_M_scored_201 : decode cb_M_scored 201 = .ok (.goto 20, 3) := by decide +kernel
theorem dc_M_scored_204 : decode cb_M_scored 204 = .ok (.aload_n 0, 1) := by decide +kernel
theorem dc_M_scored_205 : decode cb_M_scored 205 = .ok (.iload 5, 2) := by decide +kernel
theorem dc_M_scored_207 : decode cb_M_scored 207 = .ok (.iload_n 2, 1) := by decide +kernel
theorem dc_M_scored_208 : decode cb_M_scored 208 = .ok (.invokevirtual 126, 3) := by decide +kernel
theorem dc_M_scored_211 : decode cb_M_scored 211 = .ok (.ifCond .eq 7, 3) := by decide +kernel
theorem dc_M_scored_214 : decode cb_M_scored 214 = .ok (.lload_n 3, 1) := by decide +kernel
theorem dc_M_scored_215 : decode cb_M_scored 215 = .ok (.goto 6, 3) := by decide +kernel
theorem dc_M_scored_218 : decode cb_M_scored 218 = .ok (.lload_n 3, 1) := by decide +kernel
theorem dc_M_scored_219 : decode cb_M_scored 219 = .ok (.lconst 1, 1) := by decide +kernel
theorem dc_M_scored_220 : decode cb_M_scored 220 = .ok (.ladd, 1) := by decide +kernel
theorem dc_M_scored_221 : decode cb_M_scored 221 = .ok (.lstore_n 3, 1) := by decide +kernel
theorem dc_M_scored_222 : decode cb_M_scored 222 = .ok (.iinc 5 1, 3) := by decide +kernel
theorem dc_M_scored_225 : decode cb_M_scored 225 = .ok (.goto (-122), 3) := by decide +kernel
theorem dc_M_scored_228 : decode cb_M_scored 228 = .ok (.lload_n 3, 1) := by decide +kernel
theorem dc_M_scored_229 : decode cb_M_scored 229 = .ok (.lreturn, 1) := by decide +kernel
theorem dc_M_extreme_0 : decode cb_M_extreme 0 = .ok (.iconst 0, 1) := by decide +kernel
theorem dc_M_extreme_1 : decode cb_M_extreme 1 = .ok (.istore_n 3, 1) := by decide +kernel
theorem dc_M_extreme_2 : decode cb_M_extreme 2 = .ok (.iconst 0, 1) := by decide +kernel
theorem dc_M_extreme_3 : decode cb_M_extreme 3 = .ok (.istore 4, 2) := by decide +kernel
theorem dc_M_extreme_5 : decode cb_M_extreme 5 = .ok (.iload 4, 2) := by decide +kernel
theorem dc_M_extreme_7 : decode cb_M_extreme 7 = .ok (.aload_n 0, 1) := by decide +kernel
theorem dc_M_extreme_8 : decode cb_M_extreme 8 = .ok (.getfield 106, 3) := by decide +kernel
theorem dc_M_extreme_11 : decode cb_M_extreme 11 = .ok (.if_icmp .ge 101, 3) := by decide +kernel
theorem dc_M_extreme_14 : decode cb_M_extreme 14 = .ok (.iconst 1, 1) := by decide +kernel
theorem dc_M_extreme_15 : decode cb_M_extreme 15 = .ok (.istore 5, 2) := by decide +kernel
theorem dc_M_extreme_17 : decode cb_M_extreme 17 = .ok (.iconst 0, 1) := by decide +kernel
theorem dc_M_extreme_18 : decode cb_M_extreme 18 = .ok (.istore 6, 2) := by decide +kernel
theorem dc_M_extreme_20 : decode cb_M_extreme 20 = .ok (.iload 6, 2) := by decide +kernel
theorem dc_M_extreme_22 : decode cb_M_extreme 22 = .ok (.aload_n 0, 1) := by decide +kernel
theorem dc_M_extreme_23 : decode cb_M_extreme 23 = .ok (.getfield 106, 3) := by decide +kernel
theorem dc_M_extreme_26 : decode cb_M_extreme 26 = .ok (.if_icmp .ge 64, 3) := by decide +kernel
theorem dc_M_extreme_29 : decode cb_M_extreme 29 = .ok (.iload 5, 2) := by decide +kernel
theorem dc_M_extreme_31 : decode cb_M_extreme 31 = .ok (.ifCond .eq 50, 3) := by decide +kernel
theorem dc_M_extreme_34 : decode cb_M_extreme 34 = .ok (.iload_n 2, 1) := by decide +kernel
theorem dc_M_extreme_35 : decode cb_M_extreme 35 = .ok (.ifCond .eq 24, 3) := by decide +kernel
theorem dc_M_extreme_38 : decode cb_M_extreme 38 = .ok (.aload_n 0, 1) := by decide +kernel
theorem dc_M_extreme_39 : decode cb_M_extreme 39 = .ok (.iload_n 1, 1) := by decide +kernel
theorem dc_M_extreme_40 : decode cb_M_extreme 40 = .ok (.iload 6, 2) := by decide +kernel
theorem dc_M_extreme_42 : decode cb_M_extreme 42 = .ok (.invokevirtual 132, 3) := by decide +kernel
theorem dc_M_extreme_45 : decode cb_M_extreme 45 = .ok (.aload_n 0, 1) := by decide +kernel
theorem dc_M_extreme_46 : decode cb_M_extreme 46 = .ok (.iload_n 1, 1) := by decide +kernel
theorem dc_M_extreme_47 : decode cb_M_extreme 47 = .ok (.iload 4, 2) := by decide +kernel
theorem dc_M_extreme_49 : decode cb_M_extreme 49 = .ok (.invokevirtual 132, 3) := by decide +kernel
theorem dc_M_extreme_52 : decode cb_M_extreme 52 = .ok (.lcmp, 1) := by decide +kernel
theorem dc_M_extreme_53 : decode cb_M_extreme 53 = .ok (.ifCond .gt 28, 3) := by decide +kernel
theorem dc_M_extreme_56 : decode cb_M_extreme 56 = .ok (.goto 21, 3) := by decide +kernel
theorem dc_M_extreme_59 : decode cb_M_extreme 59 = .ok (.aload_n 0, 1) := by decide +kernel
theorem dc_M_extreme_60 : decode cb_M_extreme 60 = .ok (.iload_n 1, 1) := by decide +kernel
theorem dc_M_extreme_61 : decode cb_M_extreme 61 = .ok (.iload 6, 2) := by decide +kernel
theorem dc_M_extreme_63 : decode cb_M_extreme 63 = .ok (.invokevirtual 132, 3) := by decide +kernel
theorem dc_M_extreme_66 : decode cb_M_extreme 66 = .ok (.aload_n 0, 1) := by decide +kernel
theorem dc_M_extreme_67 : decode cb_M_extreme 67 = .ok (.iload_n 1, 1) := by decide +kernel
theorem dc_M_extreme_68 : decode cb_M_extreme 68 = .ok (.iload 4, 2) := by decide +kernel
theorem dc_M_extreme_70 : decode cb_M_extreme 70 = .ok (.invokevirtual 132, 3) := by decide +kernel
theorem dc_M_extreme_73 : decode cb_M_extreme 73 = .ok (.lcmp, 1) := by decide +kernel
theorem dc_M_extreme_74 : decode cb_M_extreme 74 = .ok (.ifCond .lt 7, 3) := by decide +kernel
theorem dc_M_extreme_77 : decode cb_M_extreme 77 = .ok (.iconst 1, 1) := by decide +kernel
theorem dc_M_extreme_78 : decode cb_M_extreme 78 = .ok (.goto 4, 3) := by decide +kernel
theorem dc_M_extreme_81 : decode cb_M_extreme 81 = .ok (.iconst 0, 1) := by decide +kernel
theorem dc_M_extreme_82 : decode cb_M_extreme 82 = .ok (.istore 5, 2) := by decide +kernel
theorem dc_M_extreme_84 : decode cb_M_extreme 84 = .ok (.iinc 6 1, 3) := by decide +kernel
theorem dc_M_extreme_87 : decode cb_M_extreme 87 = .ok (.goto (-67), 3) := by decide +kernel
theorem dc_M_extreme_90 : decode cb_M_extreme 90 = .ok (.iload 5, 2) := by decide +kernel
theorem dc_M_extreme_92 : decode cb_M_extreme 92 = .ok (.ifCond .eq 12, 3) := by decide +kernel
theorem dc_M_extreme_95 : decode cb_M_extreme 95 = .ok (.iload_n 3, 1) := by decide +kernel
theorem dc_M_extreme_96 : decode cb_M_extreme 96 = .ok (.iconst 1, 1) := by decide +kernel
theorem dc_M_extreme_97 : decode cb_M_extreme 97 = .ok (.iload 4, 2) := by decide +kernel
theorem dc_M_extreme_99 : decode cb_M_extreme 99 = .ok (.ishl, 1) := by decide +kernel
theorem dc_M_extreme_100 : decode cb_M_extreme 100 = .ok (.ior, 1) := by decide +kernel
theorem dc_M_extreme_101 : decode cb_M_extreme 101 = .ok (.goto 4, 3) := by decide +kernel
theorem dc_M_extreme_104 : decode cb_M_extreme 104 = .ok (.iload_n 3, 1) := by decide +kernel
theorem dc_M_extreme_105 : decode cb_M_extreme 105 = .ok (.istore_n 3, 1) := by decide +kernel
theorem dc_M_extreme_106 : decode cb_M_extreme 106 = .ok (.iinc 4 1, 3) := by decide +kernel
theorem dc_M_extreme_109 : decode cb_M_extreme 109 = .ok (.goto (-104), 3) := by decide +kernel
theorem dc_M_extreme_112 : decode cb_M_extreme 112 = .ok (.iload_n 3, 1) := by decide +kernel
theorem dc_M_extreme_113 : decode cb_M_extreme 113 = .ok (.ireturn, 1) := by decide +kernel
theorem dc_M_runoff_0 : decode cb_M_runoff 0 = .ok (.iconst 0, 1) := by decide +kernel
theorem dc_M_runoff_1 : decode cb_M_runoff 1 = .ok (.istore_n 1, 1) := by decide +kernel
theorem dc_M_runoff_2 : decode cb_M_runoff 2 = .ok (.iconst 0, 1) := by decide +kernel
theorem dc_M_runoff_3 : decode cb_M_runoff 3 = .ok (.istore_n 2, 1) := by decide +kernel
theorem dc_M_runoff_4 : decode cb_M_runoff 4 = .ok (.iload_n 2, 1) := by decide +kernel
theorem dc_M_runoff_5 : decode cb_M_runoff 5 = .ok (.aload_n 0, 1) := by decide +kernel
theorem dc_M_runoff_6 : decode cb_M_runoff 6 = .ok (.getfield 106, 3) := by decide +kernel
theorem dc_M_runoff_9 : decode cb_M_runoff 9 = .ok (.if_icmp .ge 148, 3) := by decide +kernel
theorem dc_M_runoff_12 : decode cb_M_runoff 12 = .ok (.iload_n 2, 1) := by decide +kernel
theorem dc_M_runoff_13 : decode cb_M_runoff 13 = .ok (.iconst 1, 1) := by decide +kernel
theorem dc_M_runoff_14 : decode cb_M_runoff 14 = .ok (.iadd, 1) := by decide +kernel
theorem dc_M_runoff_15 : decode cb_M_runoff 15 = .ok (.istore_n 3, 1) := by decide +kernel
theorem dc_M_runoff_16 : decode cb_M_runoff 16 = .ok (.iload_n 3, 1) := by decide +kernel
theorem dc_M_runoff_17 : decode cb_M_runoff 17 = .ok (.aload_n 0, 1) := by decide +kernel
theorem dc_M_runoff_18 : decode cb_M_runoff 18 = .ok (.getfield 106, 3) := by decide +kernel
theorem dc_M_runoff_21 : decode cb_M_runoff 21 = .ok (.if_icmp .ge 130, 3) := by decide +kernel
theorem dc_M_runoff_24 : decode cb_M_runoff 24 = .ok (.iconst 1, 1) := by decide +kernel
theorem dc_M_runoff_25 : decode cb_M_runoff 25 = .ok (.istore 4, 2) := by decide +kernel
theorem dc_M_runoff_27 : decode cb_M_runoff 27 = .ok (.iconst 0, 1) := by decide +kernel
theorem dc_M_runoff_28 : decode cb_M_runoff 28 = .ok (.istore 5, 2) := by decide +kernel
theorem dc_M_runoff_30 : decode cb_M_runoff 30 = .ok (.iload 5, 2) := by decide +kernel
theorem dc_M_runoff_32 : decode cb_M_runoff 32 = .ok (.aload_n 0, 1) := by decide +kernel
theorem dc_M_runoff_33 : decode cb_M_runoff 33 = .ok (.getfield 106, 3) := by decide +kernel
theorem dc_M_runoff_36 : decode cb_M_runoff 36 = .ok (.if_icmp .ge 66, 3) := by decide +kernel
theorem dc_M_runoff_39 : decode cb_M_runoff 39 = .ok (.aload_n 0, 1) := by decide +kernel
theorem dc_M_runoff_40 : decode cb_M_runoff 40 = .ok (.iconst 0, 1) := by decide +kernel
theorem dc_M_runoff_41 : decode cb_M_runoff 41 = .ok (.iload 5, 2) := by decide +kernel
theorem dc_M_runoff_43 : decode cb_M_runoff 43 = .ok (.invokevirtual 132, 3) := by decide +kernel
theorem dc_M_runoff_46 : decode cb_M_runoff 46 = .ok (.lstore 6, 2) := by decide +kernel
theorem dc_M_runoff_48 : decode cb_M_runoff 48 = .ok (.iload 4, 2) := by decide +kernel
theorem dc_M_runoff_50 : decode cb_M_runoff 50 = .ok (.ifCond .eq 43, 3) := by decide +kernel
theorem dc_M_runoff_53 : decode cb_M_runoff 53 = .ok (.iload 5, 2) := by decide +kernel
theorem dc_M_runoff_55 : decode cb_M_runoff 55 = .ok (.iload_n 2, 1) := by decide +kernel
theorem dc_M_runoff_56 : decode cb_M_runoff 56 = .ok (.if_icmp .eq 33, 3) := by decide +kernel
theorem dc_M_runoff_59 : decode cb_M_runoff 59 = .ok (.iload 5, 2) := by decide +kernel
theorem dc_M_runoff_61 : decode cb_M_runoff 61 = .ok (.iload_n 3, 1) := by decide +kernel
theorem dc_M_runoff_62 : decode cb_M_runoff 62 = .ok (.if_icmp .eq 27, 3) := by decide +kernel
theorem dc_M_runoff_65 : decode cb_M_runoff 65 = .ok (.lload 6, 2) := by decide +kernel
theorem dc_M_runoff_67 : decode cb_M_runoff 67 = .ok (.aload_n 0, 1) := by decide +kernel
theorem dc_M_runoff_68 : decode cb_M_runoff 68 = .ok (.iconst 0, 1) := by decide +kernel
theorem dc_M_runoff_69 : decode cb_M_runoff 69 = .ok (.iload_n 2, 1) := by decide +kernel
theorem dc_M_runoff_70 : decode cb_M_runoff 70 = .ok (.invokevirtual 132, 3) := by decide +kernel
theorem dc_M_runoff_73 : decode cb_M_runoff 73 = .ok (.lcmp, 1) := by decide +kernel
theorem dc_M_runoff_74 : decode cb_M_runoff 74 = .ok (.ifCond .gt 19, 3) := by decide +kernel
theorem dc_M_runoff_77 : decode cb_M_runoff 77 = .ok (.lload 6, 2) := by decide +kernel
theorem dc_M_runoff_79 : decode cb_M_runoff 79 = .ok (.aload_n 0, 1) := by decide +kernel
theorem dc_M_runoff_80 : decode cb_M_runoff 80 = .ok (.iconst 0, 1) := by decide +kernel
theorem dc_M_runoff_81 : decode cb_M_runoff 81 = .ok (.iload_n 3, 1) := by decide +kernel
theorem dc_M_runoff_82 : decode cb_M_runoff 82 = .ok (.invokevirtual 132, 3) := by decide +kernel
theorem dc_M_runoff_85 : decode cb_M_runoff 85 = .ok (.lcmp, 1) := by decide +kernel
theorem dc_M_runoff_86 : decode cb_M_runoff 86 = .ok (.ifCond .gt 7, 3) := by decide +kernel
theorem dc_M_runoff_89 : decode cb_M_runoff 89 = .ok (.iconst 1, 1) := by decide +kernel
theorem dc_M_runoff_90 : decode cb_M_runoff 90 = .ok (.goto 4, 3) := by decide +kernel
theorem dc_M_runoff_93 : decode cb_M_runoff 93 = .ok (.iconst 0, 1) := by decide +kernel
theorem dc_M_runoff_94 : decode cb_M_runoff 94 = .ok (.istore 4, 2) := by decide +kernel
theorem dc_M_runoff_96 : decode cb_M_runoff 96 = .ok (.iinc 5 1, 3) := by decide +kernel
theorem dc_M_runoff_99 : decode cb_M_runoff 99 = .ok (.goto (-69), 3) := by decide +kernel
theorem dc_M_runoff_102 : decode cb_M_runoff 102 = .ok (.iload 4, 2) := by decide +kernel
theorem dc_M_runoff_104 : decode cb_M_runoff 104 = .ok (.ifCond .eq 41, 3) := by decide +kernel
theorem dc_M_runoff_107 : decode cb_M_runoff 107 = .ok (.aload_n 0, 1) := by decide +kernel
theorem dc_M_runoff_108 : decode cb_M_runoff 108 = .ok (.iload_n 3, 1) := by decide +kernel
theorem dc_M_runoff_109 : decode cb_M_runoff 109 = .ok (.iload_n 2, 1) := by decide +kernel
theorem dc_M_runoff_110 : decode cb_M_runoff 110 = .ok (.invokevirtual 126, 3) := by decide +kernel
theorem dc_M_runoff_113 : decode cb_M_runoff 113 = .ok (.ifCond .eq 7, 3) := by decide +kernel
theorem dc_M_runoff_116 : decode cb_M_runoff 116 = .ok (.iload_n 1, 1) := by decide +kernel
theorem dc_M_runoff_117 : decode cb_M_runoff 117 = .ok (.goto 8, 3) := by decide +kernel
theorem dc_M_runoff_120 : decode cb_M_runoff 120 = .ok (.iload_n 1, 1) := by decide +kernel
theorem dc_M_runoff_121 : decode cb_M_runoff 121 = .ok (.iconst 1, 1) := by decide +kernel
theorem dc_M_runoff_122 : decode cb_M_runoff 122 = .ok (.iload_n 2, 1) := by decide +kernel
theorem dc_M_runoff_123 : decode cb_M_runoff 123 = .ok (.ishl, 1) := by decide +kernel
theorem dc_M_runoff_124 : decode cb_M_runoff 124 = .ok (.ior, 1) := by decide +kernel
theorem dc_M_runoff_125 : decode cb_M_runoff 125 = .ok (.istore_n 1, 1) := by decide +kernel
theorem dc_M_runoff_126 : decode cb_M_runoff 126 = .ok (.aload_n 0, 1) := by decide +kernel
theorem dc_M_runoff_127 : decode cb_M_runoff 127 = .ok (.iload_n 2, 1) := by decide +kernel
theorem dc_M_runoff_128 : decode cb_M_runoff 128 = .ok (.iload_n 3, 1) := by decide +kernel
theorem dc_M_runoff_129 : decode cb_M_runoff 129 = .ok (.invokevirtual 126, 3) := by decide +kernel
theorem dc_M_runoff_132 : decode cb_M_runoff 132 = .ok (.ifCond .eq 7, 3) := by decide +kernel
theorem dc_M_runoff_135 : decode cb_M_runoff 135 = .ok (.iload_n 1, 1) := by decide +kernel
theorem dc_M_runoff_136 : decode cb_M_runoff 136 = .ok (.goto 8, 3) := by decide +kernel
theorem dc_M_runoff_139 : decode cb_M_runoff 139 = .ok (.iload_n 1, 1) := by decide +kernel
theorem dc_M_runoff_140 : decode cb_M_runoff 140 = .ok (.iconst 1, 1) := by decide +kernel
theorem dc_M_runoff_141 : decode cb_M_runoff 141 = .ok (.iload_n 3, 1) := by decide +kernel
theorem dc_M_runoff_142 : decode cb_M_runoff 142 = .ok (.ishl, 1) := by decide +kernel
theorem dc_M_runoff_143 : decode cb_M_runoff 143 = .ok (.ior, 1) := by decide +kernel
theorem dc_M_runoff_144 : decode cb_M_runoff 144 = .ok (.istore_n 1, 1) := by decide +kernel
theorem dc_M_runoff_145 : decode cb_M_runoff 145 = .ok (.iinc 3 1, 3) := by decide +kernel
theorem dc_M_runoff_148 : decode cb_M_runoff 148 = .ok (.goto (-132), 3) := by decide +kernel
theorem dc_M_runoff_151 : decode cb_M_runoff 151 = .ok (.iinc 2 1, 3) := by decide +kernel
theorem dc_M_runoff_154 : decode cb_M_runoff 154 = .ok (.goto (-150), 3) := by decide +kernel
theorem dc_M_runoff_157 : decode cb_M_runoff 157 = .ok (.iload_n 1, 1) := by decide +kernel
theorem dc_M_runoff_158 : decode cb_M_runoff 158 = .ok (.ireturn, 1) := by decide +kernel
theorem dc_M_weakest_0 : decode cb_M_weakest 0 = .ok (.iconst 0, 1) := by decide +kernel
theorem dc_M_weakest_1 : decode cb_M_weakest 1 = .ok (.istore_n 2, 1) := by decide +kernel
theorem dc_M_weakest_2 : decode cb_M_weakest 2 = .ok (.iconst 0, 1) := by decide +kernel
theorem dc_M_weakest_3 : decode cb_M_weakest 3 = .ok (.istore_n 3, 1) := by decide +kernel
theorem dc_M_weakest_4 : decode cb_M_weakest 4 = .ok (.iload_n 3, 1) := by decide +kernel
theorem dc_M_weakest_5 : decode cb_M_weakest 5 = .ok (.aload_n 0, 1) := by decide +kernel
theorem dc_M_weakest_6 : decode cb_M_weakest 6 = .ok (.getfield 106, 3) := by decide +kernel
theorem dc_M_weakest_9 : decode cb_M_weakest 9 = .ok (.if_icmp .ge 95, 3) := by decide +kernel
theorem dc_M_weakest_12 : decode cb_M_weakest 12 = .ok (.iload_n 1, 1) := by decide +kernel
theorem dc_M_weakest_13 : decode cb_M_weakest 13 = .ok (.iload_n 3, 1) := by decide +kernel
theorem dc_M_weakest_14 : decode cb_M_weakest 14 = .ok (.ishr, 1) := by decide +kernel
theorem dc_M_weakest_15 : decode cb_M_weakest 15 = .ok (.iconst 1, 1) := by decide +kernel
theorem dc_M_weakest_16 : decode cb_M_weakest 16 = .ok (.iand, 1) := by decide +kernel
theorem dc_M_weakest_17 : decode cb_M_weakest 17 = .ok (.iconst 1, 1) := by decide +kernel
theorem dc_M_weakest_18 : decode cb_M_weakest 18 = .ok (.if_icmp .ne 7, 3) := by decide +kernel
theorem dc_M_weakest_21 : decode cb_M_weakest 21 = .ok (.iconst 1, 1) := by decide +kernel
theorem dc_M_weakest_22 : decode cb_M_weakest 22 = .ok (.goto 4, 3) := by decide +kernel
theorem dc_M_weakest_25 : decode cb_M_weakest 25 = .ok (.iconst 0, 1) := by decide +kernel
theorem dc_M_weakest_26 : decode cb_M_weakest 26 = .ok (.istore 4, 2) := by decide +kernel
theorem dc_M_weakest_28 : decode cb_M_weakest 28 = .ok (.iconst 0, 1) := by decide +kernel
theorem dc_M_weakest_29 : decode cb_M_weakest 29 = .ok (.istore 5, 2) := by decide +kernel
theorem dc_M_weakest_31 : decode cb_M_weakest 31 = .ok (.iload 5, 2) := by decide +kernel
theorem dc_M_weakest_33 : decode cb_M_weakest 33 = .ok (.aload_n 0, 1) := by decide +kernel
theorem dc_M_weakest_34 : decode cb_M_weakest 34 = .ok (.getfield 106, 3) := by decide +kernel
theorem dc_M_weakest_37 : decode cb_M_weakest 37 = .ok (.if_icmp .ge 46, 3) := by decide +kernel
theorem dc_M_weakest_40 : decode cb_M_weakest 40 = .ok (.iload 4, 2) := by decide +kernel
theorem dc_M_weakest_42 : decode cb_M_weakest 42 = .ok (.ifCond .eq 41, 3) := by decide +kernel
theorem dc_M_weakest_45 : decode cb_M_weakest 45 = .ok (.iload_n 1, 1) := by decide +kernel
theorem dc_M_weakest_46 : decode cb_M_weakest 46 = .ok (.iload 5, 2) := by decide +kernel
theorem dc_M_weakest_48 : decode cb_M_weakest 48 = .ok (.ishr, 1) := by decide +kernel
theorem dc_M_weakest_49 : decode cb_M_weakest 49 = .ok (.iconst 1, 1) := by decide +kernel
theorem dc_M_weakest_50 : decode cb_M_weakest 50 = .ok (.iand, 1) := by decide +kernel
theorem dc_M_weakest_51 : decode cb_M_weakest 51 = .ok (.ifCond .eq 19, 3) := by decide +kernel
theorem dc_M_weakest_54 : decode cb_M_weakest 54 = .ok (.aload_n 0, 1) := by decide +kernel
theorem dc_M_weakest_55 : decode cb_M_weakest 55 = .ok (.iload 5, 2) := by decide +kernel
theorem dc_M_weakest_57 : decode cb_M_weakest 57 = .ok (.iload_n 1, 1) := by decide +kernel
theorem dc_M_weakest_58 : decode cb_M_weakest 58 = .ok (.invokevirtual 119, 3) := by decide +kernel
theorem dc_M_weakest_61 : decode cb_M_weakest 61 = .ok (.aload_n 0, 1) := by decide +kernel
theorem dc_M_weakest_62 : decode cb_M_weakest 62 = .ok (.iload_n 3, 1) := by decide +kernel
theorem dc_M_weakest_63 : decode cb_M_weakest 63 = .ok (.iload_n 1, 1) := by decide +kernel
theorem dc_M_weakest_64 : decode cb_M_weakest 64 = .ok (.invokevirtual 119, 3) := by decide +kernel
theorem dc_M_weakest_67 : decode cb_M_weakest 67 = .ok (.if_icmp .lt 7, 3) := by decide +kernel
theorem dc_M_weakest_70 : decode cb_M_weakest 70 = .ok (.iconst 1, 1) := by decide +kernel
theorem dc_M_weakest_71 : decode cb_M_weakest 71 = .ok (.goto 4, 3) := by decide +kernel
theorem dc_M_weakest_74 : decode cb_M_weakest 74 = .ok (.iconst 0, 1) := by decide +kernel
theorem dc_M_weakest_75 : decode cb_M_weakest 75 = .ok (.istore 4, 2) := by decide +kernel
theorem dc_M_weakest_77 : decode cb_M_weakest 77 = .ok (.iinc 5 1, 3) := by decide +kernel
theorem dc_M_weakest_80 : decode cb_M_weakest 80 = .ok (.goto (-49), 3) := by decide +kernel
theorem dc_M_weakest_83 : decode cb_M_weakest 83 = .ok (.iload 4, 2) := by decide +kernel
theorem dc_M_weakest_85 : decode cb_M_weakest 85 = .ok (.ifCond .eq 11, 3) := by decide +kernel
theorem dc_M_weakest_88 : decode cb_M_weakest 88 = .ok (.iload_n 2, 1) := by decide +kernel
theorem dc_M_weakest_89 : decode cb_M_weakest 89 = .ok (.iconst 1, 1) := by decide +kernel
theorem dc_M_weakest_90 : decode cb_M_weakest 90 = .ok (.iload_n 3, 1) := by decide +kernel
theorem dc_M_weakest_91 : decode cb_M_weakest 91 = .ok (.ishl, 1) := by decide +kernel
theorem dc_M_weakest_92 : decode cb_M_weakest 92 = .ok (.ior, 1) := by decide +kernel
theorem dc_M_weakest_93 : decode cb_M_weakest 93 = .ok (.goto 4, 3) := by decide +kernel
theorem dc_M_weakest_96 : decode cb_M_weakest 96 = .ok (.iload_n 2, 1) := by decide +kernel
theorem dc_M_weakest_97 : decode cb_M_weakest 97 = .ok (.istore_n 2, 1) := by decide +kernel
theorem dc_M_weakest_98 : decode cb_M_weakest 98 = .ok (.iinc 3 1, 3) := by decide +kernel
theorem dc_M_weakest_101 : decode cb_M_weakest 101 = .ok (.goto (-97), 3) := by decide +kernel
theorem dc_M_weakest_104 : decode cb_M_weakest 104 = .ok (.iload_n 2, 1) := by decide +kernel
theorem dc_M_weakest_105 : decode cb_M_weakest 105 = .ok (.ireturn, 1) := by decide +kernel
theorem dc_M_single_0 : decode cb_M_single 0 = .ok (.iload_n 0, 1) := by decide +kernel
theorem dc_M_single_1 : decode cb_M_single 1 = .ok (.iload_n 0, 1) := by decide +kernel
theorem dc_M_single_2 : decode cb_M_single 2 = .ok (.iconst 1, 1) := by decide +kernel
theorem dc_M_single_3 : decode cb_M_single 3 = .ok (.isub, 1) := by decide +kernel
theorem dc_M_single_4 : decode cb_M_single 4 = .ok (.iand, 1) := by decide +kernel
theorem dc_M_single_5 : decode cb_M_single 5 = .ok (.ifCond .ne 7, 3) := by decide +kernel
theorem dc_M_single_8 : decode cb_M_single 8 = .ok (.iconst 1, 1) := by decide +kernel
theorem dc_M_single_9 : decode cb_M_single 9 = .ok (.goto 4, 3) := by decide +kernel
theorem dc_M_single_12 : decode cb_M_single 12 = .ok (.iconst 0, 1) := by decide +kernel
theorem dc_M_single_13 : decode cb_M_single 13 = .ok (.ireturn, 1) := by decide +kernel
theorem dc_M_eliminate_0 : decode cb_M_eliminate 0 = .ok (.iconst 0, 1) := by decide +kernel
theorem dc_M_eliminate_1 : decode cb_M_eliminate 1 = .ok (.istore_n 1, 1) := by decide +kernel
theorem dc_M_eliminate_2 : decode cb_M_eliminate 2 = .ok (.aload_n 0, 1) := by decide +kernel
theorem dc_M_eliminate_3 : decode cb_M_eliminate 3 = .ok (.invokevirtual 115, 3) := by decide +kernel
theorem dc_M_eliminate_6 : decode cb_M_eliminate 6 = .ok (.istore_n 2, 1) := by decide +kernel
theorem dc_M_eliminate_7 : decode cb_M_eliminate 7 = .ok (.iload_n 2, 1) := by decide +kernel
theorem dc_M_eliminate_8 : decode cb_M_eliminate 8 = .ok (.ifCond .le 28, 3) := by decide +kernel
theorem dc_M_eliminate_11 : decode cb_M_eliminate 11 = .ok (.aload_n 0, 1) := by decide +kernel
theorem dc_M_eliminate_12 : decode cb_M_eliminate 12 = .ok (.getfield 54, 3) := by decide +kernel
theorem dc_M_eliminate_15 : decode cb_M_eliminate 15 = .ok (.iload_n 2, 1) := by decide +kernel
theorem dc_M_eliminate_16 : decode cb_M_eliminate 16 = .ok (.iload_n 2, 1) := by decide +kernel
theorem dc_M_eliminate_17 : decode cb_M_eliminate 17 = .ok (.aload_n 0, 1) := by decide +kernel
theorem dc_M_eliminate_18 : decode cb_M_eliminate 18 = .ok (.invokevirtual 115, 3) := by decide +kernel
theorem dc_M_eliminate_21 : decode cb_M_eliminate 21 = .ok (.if_icmp .ne 7, 3) := by decide +kernel
theorem dc_M_eliminate_24 : decode cb_M_eliminate 24 = .ok (.iconst 1, 1) := by decide +kernel
theorem dc_M_eliminate_25 : decode cb_M_eliminate 25 = .ok (.goto 4, 3) := by decide +kernel
theorem dc_M_eliminate_28 : decode cb_M_eliminate 28 = .ok (.iconst 0, 1) := by decide +kernel
theorem dc_M_eliminate_29 : decode cb_M_eliminate 29 = .ok (.bastore, 1) := by decide +kernel
theorem dc_M_eliminate_30 : decode cb_M_eliminate 30 = .ok (.iinc 2 (-1), 3) := by decide +kernel
theorem dc_M_eliminate_33 : decode cb_M_eliminate 33 = .ok (.goto (-26), 3) := by decide +kernel
theorem dc_M_eliminate_36 : decode cb_M_eliminate 36 = .ok (.aload_n 0, 1) := by decide +kernel
theorem dc_M_eliminate_37 : decode cb_M_eliminate 37 = .ok (.invokevirtual 115, 3) := by decide +kernel
theorem dc_M_eliminate_40 : decode cb_M_eliminate 40 = .ok (.istore_n 2, 1) := by decide +kernel
theorem dc_M_eliminate_41 : decode cb_M_eliminate 41 = .ok (.iload_n 2, 1) := by decide +kernel
theorem dc_M_eliminate_42 : decode cb_M_eliminate 42 = .ok (.ifCond .le 89, 3) := by decide +kernel
theorem dc_M_eliminate_45 : decode cb_M_eliminate 45 = .ok (.aload_n 0, 1) := by decide +kernel
theorem dc_M_eliminate_46 : decode cb_M_eliminate 46 = .ok (.getfield 54, 3) := by decide +kernel
theorem dc_M_eliminate_49 : decode cb_M_eliminate 49 = .ok (.iload_n 2, 1) := by decide +kernel
theorem dc_M_eliminate_50 : decode cb_M_eliminate 50 = .ok (.baload, 1) := by decide +kernel
theorem dc_M_eliminate_51 : decode cb_M_eliminate 51 = .ok (.ifCond .eq 17, 3) := by decide +kernel
theorem dc_M_eliminate_54 : decode cb_M_eliminate 54 = .ok (.iload_n 2, 1) := by decide +kernel
theorem dc_M_eliminate_55 : decode cb_M_eliminate 55 = .ok (.invokestatic 136, 3) := by decide +kernel
theorem dc_M_eliminate_58 : decode cb_M_eliminate 58 = .ok (.ifCond .eq 10, 3) := by decide +kernel
theorem dc_M_eliminate_61 : decode cb_M_eliminate 61 = .ok (.iload_n 1, 1) := by decide +kernel
theorem dc_M_eliminate_62 : decode cb_M_eliminate 62 = .ok (.iload_n 2, 1) := by decide +kernel
theorem dc_M_eliminate_63 : decode cb_M_eliminate 63 = .ok (.ior, 1) := by decide +kernel
theorem dc_M_eliminate_64 : decode cb_M_eliminate 64 = .ok (.istore_n 1, 1) := by decide +kernel
theorem dc_M_eliminate_65 : decode cb_M_eliminate 65 = .ok (.goto 60, 3) := by decide +kernel
theorem dc_M_eliminate_68 : decode cb_M_eliminate 68 = .ok (.aload_n 0, 1) := by decide +kernel
theorem dc_M_eliminate_69 : decode cb_M_eliminate 69 = .ok (.getfield 54, 3) := by decide +kernel
theorem dc_M_eliminate_72 : decode cb_M_eliminate 72 = .ok (.iload_n 2, 1) := by decide +kernel
theorem dc_M_eliminate_73 : decode cb_M_eliminate 73 = .ok (.baload, 1) := by decide +kernel
theorem dc_M_eliminate_74 : decode cb_M_eliminate 74 = .ok (.ifCond .eq 51, 3) := by decide +kernel
theorem dc_M_eliminate_77 : decode cb_M_eliminate 77 = .ok (.aload_n 0, 1) := by decide +kernel
theorem dc_M_eliminate_78 : decode cb_M_eliminate 78 = .ok (.iload_n 2, 1) := by decide +kernel
theorem dc_M_eliminate_79 : decode cb_M_eliminate 79 = .ok (.invokevirtual 139, 3) := by decide +kernel
theorem dc_M_eliminate_82 : decode cb_M_eliminate 82 = .ok (.istore_n 3, 1) := by decide +kernel
theorem dc_M_eliminate_83 : decode cb_M_eliminate 83 = .ok (.iconst 0, 1) := by decide +kernel
theorem dc_M_eliminate_84 : decode cb_M_eliminate 84 = .ok (.istore 4, 2) := by decide +kernel
theorem dc_M_eliminate_86 : decode cb_M_eliminate 86 = .ok (.iload 4, 2) := by decide +kernel
theorem dc_M_eliminate_88 : decode cb_M_eliminate 88 = .ok (.aload_n 0, 1) := by decide +kernel
theorem dc_M_eliminate_89 : decode cb_M_eliminate 89 = .ok (.getfield 106, 3) := by decide +kernel
theorem dc_M_eliminate_92 : decode cb_M_eliminate 92 = .ok (.if_icmp .ge 33, 3) := by decide +kernel
theorem dc_M_eliminate_95 : decode cb_M_eliminate 95 = .ok (.iload_n 3, 1) := by decide +kernel
theorem dc_M_eliminate_96 : decode cb_M_eliminate 96 = .ok (.iload 4, 2) := by decide +kernel
theorem dc_M_eliminate_98 : decode cb_M_eliminate 98 = .ok (.ishr, 1) := by decide +kernel
theorem dc_M_eliminate_99 : decode cb_M_eliminate 99 = .ok (.iconst 1, 1) := by decide +kernel
theorem dc_M_eliminate_100 : decode cb_M_eliminate 100 = .ok (.iand, 1) := by decide +kernel
theorem dc_M_eliminate_101 : decode cb_M_eliminate 101 = .ok (.iconst 1, 1) := by decide +kernel
theorem dc_M_eliminate_102 : decode cb_M_eliminate 102 = .ok (.if_icmp .ne 17, 3) := by decide +kernel
theorem dc_M_eliminate_105 : decode cb_M_eliminate 105 = .ok (.aload_n 0, 1) := by decide +kernel
theorem dc_M_eliminate_106 : decode cb_M_eliminate 106 = .ok (.getfield 54, 3) := by decide +kernel
theorem dc_M_eliminate_109 : decode cb_M_eliminate 109 = .ok (.iload_n 2, 1) := by decide +kernel
theorem dc_M_eliminate_110 : decode cb_M_eliminate 110 = .ok (.iconst 1, 1) := by decide +kernel
theorem dc_M_eliminate_111 : decode cb_M_eliminate 111 = .ok (.iload 4, 2) := by decide +kernel
theorem dc_M_eliminate_113 : decode cb_M_eliminate 113 = .ok (.ishl, 1) := by decide +kernel
theorem dc_M_eliminate_114 : decode cb_M_eliminate 114 = .ok (.iconst (-1), 1) := by decide +kernel
theorem dc_M_eliminate_115 : decode cb_M_eliminate 115 = .ok (.ixor, 1) := by decide +kernel
theorem dc_M_eliminate_116 : decode cb_M_eliminate 116 = .ok (.iand, 1) := by decide +kernel
theorem dc_M_eliminate_117 : decode cb_M_eliminate 117 = .ok (.iconst 1, 1) := by decide +kernel
theorem dc_M_eliminate_118 : decode cb_M_eliminate 118 = .ok (.bastore, 1) := by decide +kernel
theorem dc_M_eliminate_119 : decode cb_M_eliminate 119 = .ok (.iinc 4 1, 3) := by decide +kernel
theorem dc_M_eliminate_122 : decode cb_M_eliminate 122 = .ok (.goto (-36), 3) := by decide +kernel
theorem dc_M_eliminate_125 : decode cb_M_eliminate 125 = .ok (.iinc 2 (-1), 3) := by decide +kernel
theorem dc_M_eliminate_128 : decode cb_M_eliminate 128 = .ok (.goto (-87), 3) := by decide +kernel
theorem dc_M_eliminate_131 : decode cb_M_eliminate 131 = .ok (.iload_n 1, 1) := by decide +kernel
end
section
theorem dc_M_eliminate_132 : decode cb_M_eliminate 132 = .ok (.ireturn, 1) := by decide +kernel
theorem dc_M_findPaths_0 : decode cb_M_findPaths 0 = .ok (.iconst 0, 1) := by decide +kernel
theorem dc_M_findPaths_1 : decode cb_M_findPaths 1 = .ok (.istore_n 1, 1) := by decide +kernel
theorem dc_M_findPaths_2 : decode cb_M_findPaths 2 = .ok (.iload_n 1, 1) := by decide +kernel
theorem dc_M_findPaths_3 : decode cb_M_findPaths 3 = .ok (.aload_n 0, 1) := by decide +kernel
theorem dc_M_findPaths_4 : decode cb_M_findPaths 4 = .ok (.getfield 106, 3) := by decide +kernel
theorem dc_M_findPaths_7 : decode cb_M_findPaths 7 = .ok (.if_icmp .ge 65, 3) := by decide +kernel
theorem dc_M_findPaths_10 : decode cb_M_findPaths 10 = .ok (.iconst 0, 1) := by decide +kernel
theorem dc_M_findPaths_11 : decode cb_M_findPaths 11 = .ok (.istore_n 2, 1) := by decide +kernel
theorem dc_M_findPaths_12 : decode cb_M_findPaths 12 = .ok (.iload_n 2, 1) := by decide +kernel
theorem dc_M_findPaths_13 : decode cb_M_findPaths 13 = .ok (.aload_n 0, 1) := by decide +kernel
theorem dc_M_findPaths_14 : decode cb_M_findPaths 14 = .ok (.getfield 106, 3) := by decide +kernel
theorem dc_M_findPaths_17 : decode cb_M_findPaths 17 = .ok (.if_icmp .ge 49, 3) := by decide +kernel
theorem dc_M_findPaths_20 : decode cb_M_findPaths 20 = .ok (.aload_n 0, 1) := by decide +kernel
theorem dc_M_findPaths_21 : decode cb_M_findPaths 21 = .ok (.getfield 47, 3) := by decide +kernel
theorem dc_M_findPaths_24 : decode cb_M_findPaths 24 = .ok (.bipush 7, 2) := by decide +kernel
theorem dc_M_findPaths_26 : decode cb_M_findPaths 26 = .ok (.iload_n 1, 1) := by decide +kernel
theorem dc_M_findPaths_27 : decode cb_M_findPaths 27 = .ok (.imul, 1) := by decide +kernel
theorem dc_M_findPaths_28 : decode cb_M_findPaths 28 = .ok (.iload_n 2, 1) := by decide +kernel
theorem dc_M_findPaths_29 : decode cb_M_findPaths 29 = .ok (.iadd, 1) := by decide +kernel
theorem dc_M_findPaths_30 : decode cb_M_findPaths 30 = .ok (.iload_n 1, 1) := by decide +kernel
theorem dc_M_findPaths_31 : decode cb_M_findPaths 31 = .ok (.iload_n 2, 1) := by decide +kernel
theorem dc_M_findPaths_32 : decode cb_M_findPaths 32 = .ok (.if_icmp .eq 26, 3) := by decide +kernel
theorem dc_M_findPaths_35 : decode cb_M_findPaths 35 = .ok (.aload_n 0, 1) := by decide +kernel
theorem dc_M_findPaths_36 : decode cb_M_findPaths 36 = .ok (.iload_n 1, 1) := by decide +kernel
theorem dc_M_findPaths_37 : decode cb_M_findPaths 37 = .ok (.iload_n 2, 1) := by decide +kernel
theorem dc_M_findPaths_38 : decode cb_M_findPaths 38 = .ok (.invokevirtual 126, 3) := by decide +kernel
theorem dc_M_findPaths_41 : decode cb_M_findPaths 41 = .ok (.ifCond .eq 17, 3) := by decide +kernel
theorem dc_M_findPaths_44 : decode cb_M_findPaths 44 = .ok (.aload_n 0, 1) := by decide +kernel
theorem dc_M_findPaths_45 : decode cb_M_findPaths 45 = .ok (.getfield 44, 3) := by decide +kernel
theorem dc_M_findPaths_48 : decode cb_M_findPaths 48 = .ok (.bipush 7, 2) := by decide +kernel
theorem dc_M_findPaths_50 : decode cb_M_findPaths 50 = .ok (.iload_n 1, 1) := by decide +kernel
theorem dc_M_findPaths_51 : decode cb_M_findPaths 51 = .ok (.imul, 1) := by decide +kernel
theorem dc_M_findPaths_52 : decode cb_M_findPaths 52 = .ok (.iload_n 2, 1) := by decide +kernel
theorem dc_M_findPaths_53 : decode cb_M_findPaths 53 = .ok (.iadd, 1) := by decide +kernel
theorem dc_M_findPaths_54 : decode cb_M_findPaths 54 = .ok (.iaload, 1) := by decide +kernel
theorem dc_M_findPaths_55 : decode cb_M_findPaths 55 = .ok (.goto 4, 3) := by decide +kernel
theorem dc_M_findPaths_58 : decode cb_M_findPaths 58 = .ok (.iconst 0, 1) := by decide +kernel
theorem dc_M_findPaths_59 : decode cb_M_findPaths 59 = .ok (.iastore, 1) := by decide +kernel
theorem dc_M_findPaths_60 : decode cb_M_findPaths 60 = .ok (.iinc 2 1, 3) := by decide +kernel
theorem dc_M_findPaths_63 : decode cb_M_findPaths 63 = .ok (.goto (-51), 3) := by decide +kernel
theorem dc_M_findPaths_66 : decode cb_M_findPaths 66 = .ok (.iinc 1 1, 3) := by decide +kernel
theorem dc_M_findPaths_69 : decode cb_M_findPaths 69 = .ok (.goto (-67), 3) := by decide +kernel
theorem dc_M_findPaths_72 : decode cb_M_findPaths 72 = .ok (.iconst 1, 1) := by decide +kernel
theorem dc_M_findPaths_73 : decode cb_M_findPaths 73 = .ok (.istore_n 1, 1) := by decide +kernel
theorem dc_M_findPaths_74 : decode cb_M_findPaths 74 = .ok (.iload_n 1, 1) := by decide +kernel
theorem dc_M_findPaths_75 : decode cb_M_findPaths 75 = .ok (.ifCond .eq 150, 3) := by decide +kernel
theorem dc_M_findPaths_78 : decode cb_M_findPaths 78 = .ok (.iconst 0, 1) := by decide +kernel
theorem dc_M_findPaths_79 : decode cb_M_findPaths 79 = .ok (.istore_n 1, 1) := by decide +kernel
theorem dc_M_findPaths_80 : decode cb_M_findPaths 80 = .ok (.iconst 0, 1) := by decide +kernel
theorem dc_M_findPaths_81 : decode cb_M_findPaths 81 = .ok (.istore_n 2, 1) := by decide +kernel
theorem dc_M_findPaths_82 : decode cb_M_findPaths 82 = .ok (.iload_n 2, 1) := by decide +kernel
theorem dc_M_findPaths_83 : decode cb_M_findPaths 83 = .ok (.aload_n 0, 1) := by decide +kernel
theorem dc_M_findPaths_84 : decode cb_M_findPaths 84 = .ok (.getfield 106, 3) := by decide +kernel
theorem dc_M_findPaths_87 : decode cb_M_findPaths 87 = .ok (.if_icmp .ge 135, 3) := by decide +kernel
theorem dc_M_findPaths_90 : decode cb_M_findPaths 90 = .ok (.iconst 0, 1) := by decide +kernel
theorem dc_M_findPaths_91 : decode cb_M_findPaths 91 = .ok (.istore_n 3, 1) := by decide +kernel
theorem dc_M_findPaths_92 : decode cb_M_findPaths 92 = .ok (.iload_n 3, 1) := by decide +kernel
theorem dc_M_findPaths_93 : decode cb_M_findPaths 93 = .ok (.aload_n 0, 1) := by decide +kernel
theorem dc_M_findPaths_94 : decode cb_M_findPaths 94 = .ok (.getfield 106, 3) := by decide +kernel
theorem dc_M_findPaths_97 : decode cb_M_findPaths 97 = .ok (.if_icmp .ge 119, 3) := by decide +kernel
theorem dc_M_findPaths_100 : decode cb_M_findPaths 100 = .ok (.iconst 0, 1) := by decide +kernel
theorem dc_M_findPaths_101 : decode cb_M_findPaths 101 = .ok (.istore 4, 2) := by decide +kernel
theorem dc_M_findPaths_103 : decode cb_M_findPaths 103 = .ok (.iload 4, 2) := by decide +kernel
theorem dc_M_findPaths_105 : decode cb_M_findPaths 105 = .ok (.aload_n 0, 1) := by decide +kernel
theorem dc_M_findPaths_106 : decode cb_M_findPaths 106 = .ok (.getfield 106, 3) := by decide +kernel
theorem dc_M_findPaths_109 : decode cb_M_findPaths 109 = .ok (.if_icmp .ge 101, 3) := by decide +kernel
theorem dc_M_findPaths_112 : decode cb_M_findPaths 112 = .ok (.iload_n 2, 1) := by decide +kernel
theorem dc_M_findPaths_113 : decode cb_M_findPaths 113 = .ok (.iload_n 3, 1) := by decide +kernel
theorem dc_M_findPaths_114 : decode cb_M_findPaths 114 = .ok (.if_icmp .eq 96, 3) := by decide +kernel
theorem dc_M_findPaths_117 : decode cb_M_findPaths 117 = .ok (.aload_n 0, 1) := by decide +kernel
theorem dc_M_findPaths_118 : decode cb_M_findPaths 118 = .ok (.getfield 47, 3) := by decide +kernel
theorem dc_M_findPaths_121 : decode cb_M_findPaths 121 = .ok (.bipush 7, 2) := by decide +kernel
theorem dc_M_findPaths_123 : decode cb_M_findPaths 123 = .ok (.iload_n 2, 1) := by decide +kernel
theorem dc_M_findPaths_124 : decode cb_M_findPaths 124 = .ok (.imul, 1) := by decide +kernel
theorem dc_M_findPaths_125 : decode cb_M_findPaths 125 = .ok (.iload 4, 2) := by decide +kernel
theorem dc_M_findPaths_127 : decode cb_M_findPaths 127 = .ok (.iadd, 1) := by decide +kernel
theorem dc_M_findPaths_128 : decode cb_M_findPaths 128 = .ok (.iaload, 1) := by decide +kernel
theorem dc_M_findPaths_129 : decode cb_M_findPaths 129 = .ok (.aload_n 0, 1) := by decide +kernel
theorem dc_M_findPaths_130 : decode cb_M_findPaths 130 = .ok (.getfield 47, 3) := by decide +kernel
theorem dc_M_findPaths_133 : decode cb_M_findPaths 133 = .ok (.bipush 7, 2) := by decide +kernel
theorem dc_M_findPaths_135 : decode cb_M_findPaths 135 = .ok (.iload 4, 2) := by decide +kernel
theorem dc_M_findPaths_137 : decode cb_M_findPaths 137 = .ok (.imul, 1) := by decide +kernel
theorem dc_M_findPaths_138 : decode cb_M_findPaths 138 = .ok (.iload_n 3, 1) := by decide +kernel
theorem dc_M_findPaths_139 : decode cb_M_findPaths 139 = .ok (.iadd, 1) := by decide +kernel
theorem dc_M_findPaths_140 : decode cb_M_findPaths 140 = .ok (.iaload, 1) := by decide +kernel
theorem dc_M_findPaths_141 : decode cb_M_findPaths 141 = .ok (.if_icmp .ge 18, 3) := by decide +kernel
theorem dc_M_findPaths_144 : decode cb_M_findPaths 144 = .ok (.aload_n 0, 1) := by decide +kernel
theorem dc_M_findPaths_145 : decode cb_M_findPaths 145 = .ok (.getfield 47, 3) := by decide +kernel
theorem dc_M_findPaths_148 : decode cb_M_findPaths 148 = .ok (.bipush 7, 2) := by decide +kernel
theorem dc_M_findPaths_150 : decode cb_M_findPaths 150 = .ok (.iload_n 2, 1) := by decide +kernel
theorem dc_M_findPaths_151 : decode cb_M_findPaths 151 = .ok (.imul, 1) := by decide +kernel
theorem dc_M_findPaths_152 : decode cb_M_findPaths 152 = .ok (.iload 4, 2) := by decide +kernel
theorem dc_M_findPaths_154 : decode cb_M_findPaths 154 = .ok (.iadd, 1) := by decide +kernel
theorem dc_M_findPaths_155 : decode cb_M_findPaths 155 = .ok (.iaload, 1) := by decide +kernel
theorem dc_M_findPaths_156 : decode cb_M_findPaths 156 = .ok (.goto 15, 3) := by decide +kernel
theorem dc_M_findPaths_159 : decode cb_M_findPaths 159 = .ok (.aload_n 0, 1) := by decide +kernel
theorem dc_M_findPaths_160 : decode cb_M_findPaths 160 = .ok (.getfield 47, 3) := by decide +kernel
theorem dc_M_findPaths_163 : decode cb_M_findPaths 163 = .ok (.bipush 7, 2) := by decide +kernel
theorem dc_M_findPaths_165 : decode cb_M_findPaths 165 = .ok (.iload 4, 2) := by decide +kernel
theorem dc_M_findPaths_167 : decode cb_M_findPaths 167 = .ok (.imul, 1) := by decide +kernel
theorem dc_M_findPaths_168 : decode cb_M_findPaths 168 = .ok (.iload_n 3, 1) := by decide +kernel
theorem dc_M_findPaths_169 : decode cb_M_findPaths 169 = .ok (.iadd, 1) := by decide +kernel
theorem dc_M_findPaths_170 : decode cb_M_findPaths 170 = .ok (.iaload, 1) := by decide +kernel
theorem dc_M_findPaths_171 : decode cb_M_findPaths 171 = .ok (.istore 5, 2) := by decide +kernel
theorem dc_M_findPaths_173 : decode cb_M_findPaths 173 = .ok (.iload 5, 2) := by decide +kernel
theorem dc_M_findPaths_175 : decode cb_M_findPaths 175 = .ok (.aload_n 0, 1) := by decide +kernel
theorem dc_M_findPaths_176 : decode cb_M_findPaths 176 = .ok (.getfield 47, 3) := by decide +kernel
theorem dc_M_findPaths_179 : decode cb_M_findPaths 179 = .ok (.bipush 7, 2) := by decide +kernel
theorem dc_M_findPaths_181 : decode cb_M_findPaths 181 = .ok (.iload_n 2, 1) := by decide +kernel
theorem dc_M_findPaths_182 : decode cb_M_findPaths 182 = .ok (.imul, 1) := by decide +kernel
theorem dc_M_findPaths_183 : decode cb_M_findPaths 183 = .ok (.iload_n 3, 1) := by decide +kernel
theorem dc_M_findPaths_184 : decode cb_M_findPaths 184 = .ok (.iadd, 1) := by decide +kernel
theorem dc_M_findPaths_185 : decode cb_M_findPaths 185 = .ok (.iaload, 1) := by decide +kernel
theorem dc_M_findPaths_186 : decode cb_M_findPaths 186 = .ok (.if_icmp .le 18, 3) := by decide +kernel
theorem dc_M_findPaths_189 : decode cb_M_findPaths 189 = .ok (.aload_n 0, 1) := by decide +kernel
theorem dc_M_findPaths_190 : decode cb_M_findPaths 190 = .ok (.getfield 47, 3) := by decide +kernel
theorem dc_M_findPaths_193 : decode cb_M_findPaths 193 = .ok (.bipush 7, 2) := by decide +kernel
theorem dc_M_findPaths_195 : decode cb_M_findPaths 195 = .ok (.iload_n 2, 1) := by decide +kernel
theorem dc_M_findPaths_196 : decode cb_M_findPaths 196 = .ok (.imul, 1) := by decide +kernel
theorem dc_M_findPaths_197 : decode cb_M_findPaths 197 = .ok (.iload_n 3, 1) := by decide +kernel
theorem dc_M_findPaths_198 : decode cb_M_findPaths 198 = .ok (.iadd, 1) := by decide +kernel
theorem dc_M_findPaths_199 : decode cb_M_findPaths 199 = .ok (.iload 5, 2) := by decide +kernel
theorem dc_M_findPaths_201 : decode cb_M_findPaths 201 = .ok (.iastore, 1) := by decide +kernel
theorem dc_M_findPaths_202 : decode cb_M_findPaths 202 = .ok (.iconst 1, 1) := by decide +kernel
theorem dc_M_findPaths_203 : decode cb_M_findPaths 203 = .ok (.istore_n 1, 1) := by decide +kernel
theorem dc_M_findPaths_204 : decode cb_M_findPaths 204 = .ok (.iinc 4 1, 3) := by decide +kernel
theorem dc_M_findPaths_207 : decode cb_M_findPaths 207 = .ok (.goto (-104), 3) := by decide +kernel
theorem dc_M_findPaths_210 : decode cb_M_findPaths 210 = .ok (.iinc 3 1, 3) := by decide +kernel
theorem dc_M_findPaths_213 : decode cb_M_findPaths 213 = .ok (.goto (-121), 3) := by decide +kernel
theorem dc_M_findPaths_216 : decode cb_M_findPaths 216 = .ok (.iinc 2 1, 3) := by decide +kernel
theorem dc_M_findPaths_219 : decode cb_M_findPaths 219 = .ok (.goto (-137), 3) := by decide +kernel
theorem dc_M_findPaths_222 : decode cb_M_findPaths 222 = .ok (.goto (-148), 3) := by decide +kernel
theorem dc_M_findPaths_225 : decode cb_M_findPaths 225 = .ok (.return_, 1) := by decide +kernel
theorem dc_M_pathWinners_0 : decode cb_M_pathWinners 0 = .ok (.aload_n 0, 1) := by decide +kernel
theorem dc_M_pathWinners_1 : decode cb_M_pathWinners 1 = .ok (.invokevirtual 143, 3) := by decide +kernel
theorem dc_M_pathWinners_4 : decode cb_M_pathWinners 4 = .ok (.iconst 0, 1) := by decide +kernel
theorem dc_M_pathWinners_5 : decode cb_M_pathWinners 5 = .ok (.istore_n 1, 1) := by decide +kernel
theorem dc_M_pathWinners_6 : decode cb_M_pathWinners 6 = .ok (.iconst 0, 1) := by decide +kernel
theorem dc_M_pathWinners_7 : decode cb_M_pathWinners 7 = .ok (.istore_n 2, 1) := by decide +kernel
theorem dc_M_pathWinners_8 : decode cb_M_pathWinners 8 = .ok (.iload_n 2, 1) := by decide +kernel
theorem dc_M_pathWinners_9 : decode cb_M_pathWinners 9 = .ok (.aload_n 0, 1) := by decide +kernel
theorem dc_M_pathWinners_10 : decode cb_M_pathWinners 10 = .ok (.getfield 106, 3) := by decide +kernel
theorem dc_M_pathWinners_13 : decode cb_M_pathWinners 13 = .ok (.if_icmp .ge 86, 3) := by decide +kernel
theorem dc_M_pathWinners_16 : decode cb_M_pathWinners 16 = .ok (.iconst 1, 1) := by decide +kernel
theorem dc_M_pathWinners_17 : decode cb_M_pathWinners 17 = .ok (.istore_n 3, 1) := by decide +kernel
theorem dc_M_pathWinners_18 : decode cb_M_pathWinners 18 = .ok (.iconst 0, 1) := by decide +kernel
theorem dc_M_pathWinners_19 : decode cb_M_pathWinners 19 = .ok (.istore 4, 2) := by decide +kernel
theorem dc_M_pathWinners_21 : decode cb_M_pathWinners 21 = .ok (.iload 4, 2) := by decide +kernel
theorem dc_M_pathWinners_23 : decode cb_M_pathWinners 23 = .ok (.aload_n 0, 1) := by decide +kernel
theorem dc_M_pathWinners_24 : decode cb_M_pathWinners 24 = .ok (.getfield 106, 3) := by decide +kernel
theorem dc_M_pathWinners_27 : decode cb_M_pathWinners 27 = .ok (.if_icmp .ge 52, 3) := by decide +kernel
theorem dc_M_pathWinners_30 : decode cb_M_pathWinners 30 = .ok (.iload_n 3, 1) := by decide +kernel
theorem dc_M_pathWinners_31 : decode cb_M_pathWinners 31 = .ok (.ifCond .eq 40, 3) := by decide +kernel
theorem dc_M_pathWinners_34 : decode cb_M_pathWinners 34 = .ok (.iload_n 2, 1) := by decide +kernel
theorem dc_M_pathWinners_35 : decode cb_M_pathWinners 35 = .ok (.iload 4, 2) := by decide +kernel
theorem dc_M_pathWinners_37 : decode cb_M_pathWinners 37 = .ok (.if_icmp .eq 30, 3) := by decide +kernel
theorem dc_M_pathWinners_40 : decode cb_M_pathWinners 40 = .ok (.aload_n 0, 1) := by decide +kernel
theorem dc_M_pathWinners_41 : decode cb_M_pathWinners 41 = .ok (.getfield 47, 3) := by decide +kernel
theorem dc_M_pathWinners_44 : decode cb_M_pathWinners 44 = .ok (.bipush 7, 2) := by decide +kernel
theorem dc_M_pathWinners_46 : decode cb_M_pathWinners 46 = .ok (.iload_n 2, 1) := by decide +kernel
theorem dc_M_pathWinners_47 : decode cb_M_pathWinners 47 = .ok (.imul, 1) := by decide +kernel
theorem dc_M_pathWinners_48 : decode cb_M_pathWinners 48 = .ok (.iload 4, 2) := by decide +kernel
theorem dc_M_pathWinners_50 : decode cb_M_pathWinners 50 = .ok (.iadd, 1) := by decide +kernel
theorem dc_M_pathWinners_51 : decode cb_M_pathWinners 51 = .ok (.iaload, 1) := by decide +kernel
theorem dc_M_pathWinners_52 : decode cb_M_pathWinners 52 = .ok (.aload_n 0, 1) := by decide +kernel
theorem dc_M_pathWinners_53 : decode cb_M_pathWinners 53 = .ok (.getfield 47, 3) := by decide +kernel
theorem dc_M_pathWinners_56 : decode cb_M_pathWinners 56 = .ok (.bipush 7, 2) := by decide +kernel
theorem dc_M_pathWinners_58 : decode cb_M_pathWinners 58 = .ok (.iload 4, 2) := by decide +kernel
theorem dc_M_pathWinners_60 : decode cb_M_pathWinners 60 = .ok (.imul, 1) := by decide +kernel
theorem dc_M_pathWinners_61 : decode cb_M_pathWinners 61 = .ok (.iload_n 2, 1) := by decide +kernel
theorem dc_M_pathWinners_62 : decode cb_M_pathWinners 62 = .ok (.iadd, 1) := by decide +kernel
theorem dc_M_pathWinners_63 : decode cb_M_pathWinners 63 = .ok (.iaload, 1) := by decide +kernel
theorem dc_M_pathWinners_64 : decode cb_M_pathWinners 64 = .ok (.if_icmp .lt 7, 3) := by decide +kernel
theorem dc_M_pathWinners_67 : decode cb_M_pathWinners 67 = .ok (.iconst 1, 1) := by decide +kernel
theorem dc_M_pathWinners_68 : decode cb_M_pathWinners 68 = .ok (.goto 4, 3) := by decide +kernel
theorem dc_M_pathWinners_71 : decode cb_M_pathWinners 71 = .ok (.iconst 0, 1) := by decide +kernel
theorem dc_M_pathWinners_72 : decode cb_M_pathWinners 72 = .ok (.istore_n 3, 1) := by decide +kernel
theorem dc_M_pathWinners_73 : decode cb_M_pathWinners 73 = .ok (.iinc 4 1, 3) := by decide +kernel
theorem dc_M_pathWinners_76 : decode cb_M_pathWinners 76 = .ok (.goto (-55), 3) := by decide +kernel
theorem dc_M_pathWinners_79 : decode cb_M_pathWinners 79 = .ok (.iload_n 3, 1) := by decide +kernel
theorem dc_M_pathWinners_80 : decode cb_M_pathWinners 80 = .ok (.ifCond .eq 11, 3) := by decide +kernel
theorem dc_M_pathWinners_83 : decode cb_M_pathWinners 83 = .ok (.iload_n 1, 1) := by decide +kernel
theorem dc_M_pathWinners_84 : decode cb_M_pathWinners 84 = .ok (.iconst 1, 1) := by decide +kernel
theorem dc_M_pathWinners_85 : decode cb_M_pathWinners 85 = .ok (.iload_n 2, 1) := by decide +kernel
theorem dc_M_pathWinners_86 : decode cb_M_pathWinners 86 = .ok (.ishl, 1) := by decide +kernel
theorem dc_M_pathWinners_87 : decode cb_M_pathWinners 87 = .ok (.ior, 1) := by decide +kernel
theorem dc_M_pathWinners_88 : decode cb_M_pathWinners 88 = .ok (.goto 4, 3) := by decide +kernel
theorem dc_M_pathWinners_91 : decode cb_M_pathWinners 91 = .ok (.iload_n 1, 1) := by decide +kernel
theorem dc_M_pathWinners_92 : decode cb_M_pathWinners 92 = .ok (.istore_n 1, 1) := by decide +kernel
theorem dc_M_pathWinners_93 : decode cb_M_pathWinners 93 = .ok (.iinc 2 1, 3) := by decide +kernel
theorem dc_M_pathWinners_96 : decode cb_M_pathWinners 96 = .ok (.goto (-88), 3) := by decide +kernel
theorem dc_M_pathWinners_99 : decode cb_M_pathWinners 99 = .ok (.iload_n 1, 1) := by decide +kernel
theorem dc_M_pathWinners_100 : decode cb_M_pathWinners 100 = .ok (.ireturn, 1) := by decide +kernel
theorem dc_M_leads_0 : decode cb_M_leads 0 = .ok (.iconst 1, 1) := by decide +kernel
theorem dc_M_leads_1 : decode cb_M_leads 1 = .ok (.iload_n 1, 1) := by decide +kernel
theorem dc_M_leads_2 : decode cb_M_leads 2 = .ok (.ishl, 1) := by decide +kernel
theorem dc_M_leads_3 : decode cb_M_leads 3 = .ok (.istore_n 3, 1) := by decide +kernel
theorem dc_M_leads_4 : decode cb_M_leads 4 = .ok (.iconst 0, 1) := by decide +kernel
theorem dc_M_leads_5 : decode cb_M_leads 5 = .ok (.istore 4, 2) := by decide +kernel
theorem dc_M_leads_7 : decode cb_M_leads 7 = .ok (.iload 4, 2) := by decide +kernel
theorem dc_M_leads_9 : decode cb_M_leads 9 = .ok (.aload_n 0, 1) := by decide +kernel
theorem dc_M_leads_10 : decode cb_M_leads 10 = .ok (.getfield 106, 3) := by decide +kernel
theorem dc_M_leads_13 : decode cb_M_leads 13 = .ok (.if_icmp .ge 82, 3) := by decide +kernel
theorem dc_M_leads_16 : decode cb_M_leads 16 = .ok (.iconst 0, 1) := by decide +kernel
theorem dc_M_leads_17 : decode cb_M_leads 17 = .ok (.istore 5, 2) := by decide +kernel
theorem dc_M_leads_19 : decode cb_M_leads 19 = .ok (.iload 5, 2) := by decide +kernel
theorem dc_M_leads_21 : decode cb_M_leads 21 = .ok (.aload_n 0, 1) := by decide +kernel
theorem dc_M_leads_22 : decode cb_M_leads 22 = .ok (.getfield 106, 3) := by decide +kernel
theorem dc_M_leads_25 : decode cb_M_leads 25 = .ok (.if_icmp .ge 64, 3) := by decide +kernel
theorem dc_M_leads_28 : decode cb_M_leads 28 = .ok (.iconst 0, 1) := by decide +kernel
theorem dc_M_leads_29 : decode cb_M_leads 29 = .ok (.istore 6, 2) := by decide +kernel
theorem dc_M_leads_31 : decode cb_M_leads 31 = .ok (.iload 6, 2) := by decide +kernel
theorem dc_M_leads_33 : decode cb_M_leads 33 = .ok (.aload_n 0, 1) := by decide +kernel
theorem dc_M_leads_34 : decode cb_M_leads 34 = .ok (.getfield 106, 3) := by decide +kernel
theorem dc_M_leads_37 : decode cb_M_leads 37 = .ok (.if_icmp .ge 46, 3) := by decide +kernel
theorem dc_M_leads_40 : decode cb_M_leads 40 = .ok (.iload_n 3, 1) := by decide +kernel
theorem dc_M_leads_41 : decode cb_M_leads 41 = .ok (.iload 5, 2) := by decide +kernel
theorem dc_M_leads_43 : decode cb_M_leads 43 = .ok (.ishr, 1) := by decide +kernel
theorem dc_M_leads_44 : decode cb_M_leads 44 = .ok (.iconst 1, 1) := by decide +kernel
theorem dc_M_leads_45 : decode cb_M_leads 45 = .ok (.iand, 1) := by decide +kernel
theorem dc_M_leads_46 : decode cb_M_leads 46 = .ok (.iconst 1, 1) := by decide +kernel
theorem dc_M_leads_47 : decode cb_M_leads 47 = .ok (.if_icmp .ne 28, 3) := by decide +kernel
theorem dc_M_leads_50 : decode cb_M_leads 50 = .ok (.aload_n 0, 1) := by decide +kernel
theorem dc_M_leads_51 : decode cb_M_leads 51 = .ok (.getfield 50, 3) := by decide +kernel
theorem dc_M_leads_54 : decode cb_M_leads 54 = .ok (.bipush 7, 2) := by decide +kernel
theorem dc_M_leads_56 : decode cb_M_leads 56 = .ok (.iload 5, 2) := by decide +kernel
theorem dc_M_leads_58 : decode cb_M_leads 58 = .ok (.imul, 1) := by decide +kernel
theorem dc_M_leads_59 : decode cb_M_leads 59 = .ok (.iload 6, 2) := by decide +kernel
theorem dc_M_leads_61 : decode cb_M_leads 61 = .ok (.iadd, 1) := by decide +kernel
theorem dc_M_leads_62 : decode cb_M_leads 62 = .ok (.baload, 1) := by decide +kernel
theorem dc_M_leads_63 : decode cb_M_leads 63 = .ok (.ifCond .eq 12, 3) := by decide +kernel
theorem dc_M_leads_66 : decode cb_M_leads 66 = .ok (.iload_n 3, 1) := by decide +kernel
theorem dc_M_leads_67 : decode cb_M_leads 67 = .ok (.iconst 1, 1) := by decide +kernel
theorem dc_M_leads_68 : decode cb_M_leads 68 = .ok (.iload 6, 2) := by decide +kernel
theorem dc_M_leads_70 : decode cb_M_leads 70 = .ok (.ishl, 1) := by decide +kernel
theorem dc_M_leads_71 : decode cb_M_leads 71 = .ok (.ior, 1) := by decide +kernel
theorem dc_M_leads_72 : decode cb_M_leads 72 = .ok (.goto 4, 3) := by decide +kernel
theorem dc_M_leads_75 : decode cb_M_leads 75 = .ok (.iload_n 3, 1) := by decide +kernel
theorem dc_M_leads_76 : decode cb_M_leads 76 = .ok (.istore_n 3, 1) := by decide +kernel
theorem dc_M_leads_77 : decode cb_M_leads 77 = .ok (.iinc 6 1, 3) := by decide +kernel
theorem dc_M_leads_80 : decode cb_M_leads 80 = .ok (.goto (-49), 3) := by decide +kernel
theorem dc_M_leads_83 : decode cb_M_leads 83 = .ok (.iinc 5 1, 3) := by decide +kernel
theorem dc_M_leads_86 : decode cb_M_leads 86 = .ok (.goto (-67), 3) := by decide +kernel
theorem dc_M_leads_89 : decode cb_M_leads 89 = .ok (.iinc 4 1, 3) := by decide +kernel
theorem dc_M_leads_92 : decode cb_M_leads 92 = .ok (.goto (-85), 3) := by decide +kernel
theorem dc_M_leads_95 : decode cb_M_leads 95 = .ok (.iload_n 3, 1) := by decide +kernel
theorem dc_M_leads_96 : decode cb_M_leads 96 = .ok (.iload_n 2, 1) := by decide +kernel
theorem dc_M_leads_97 : decode cb_M_leads 97 = .ok (.ishr, 1) := by decide +kernel
theorem dc_M_leads_98 : decode cb_M_leads 98 = .ok (.iconst 1, 1) := by decide +kernel
theorem dc_M_leads_99 : decode cb_M_leads 99 = .ok (.iand, 1) := by decide +kernel
theorem dc_M_leads_100 : decode cb_M_leads 100 = .ok (.iconst 1, 1) := by decide +kernel
theorem dc_M_leads_101 : decode cb_M_leads 101 = .ok (.if_icmp .ne 7, 3) := by decide +kernel
theorem dc_M_leads_104 : decode cb_M_leads 104 = .ok (.iconst 1, 1) := by decide +kernel
theorem dc_M_leads_105 : decode cb_M_leads 105 = .ok (.goto 4, 3) := by decide +kernel
theorem dc_M_leads_108 : decode cb_M_leads 108 = .ok (.iconst 0, 1) := by decide +kernel
theorem dc_M_leads_109 : decode cb_M_leads 109 = .ok (.ireturn, 1) := by decide +kernel
theorem dc_M_sooner_0 : decode cb_M_sooner 0 = .ok (.aload_n 0, 1) := by decide +kernel
theorem dc_M_sooner_1 : decode cb_M_sooner 1 = .ok (.getfield 44, 3) := by decide +kernel
theorem dc_M_sooner_4 : decode cb_M_sooner 4 = .ok (.bipush 7, 2) := by decide +kernel
theorem dc_M_sooner_6 : decode cb_M_sooner 6 = .ok (.iload_n 1, 1) := by decide +kernel
theorem dc_M_sooner_7 : decode cb_M_sooner 7 = .ok (.imul, 1) := by decide +kernel
theorem dc_M_sooner_8 : decode cb_M_sooner 8 = .ok (.iload_n 2, 1) := by decide +kernel
theorem dc_M_sooner_9 : decode cb_M_sooner 9 = .ok (.iadd, 1) := by decide +kernel
theorem dc_M_sooner_10 : decode cb_M_sooner 10 = .ok (.iaload, 1) := by decide +kernel
theorem dc_M_sooner_11 : decode cb_M_sooner 11 = .ok (.istore 5, 2) := by decide +kernel
theorem dc_M_sooner_13 : decode cb_M_sooner 13 = .ok (.aload_n 0, 1) := by decide +kernel
theorem dc_M_sooner_14 : decode cb_M_sooner 14 = .ok (.getfield 44, 3) := by decide +kernel
theorem dc_M_sooner_17 : decode cb_M_sooner 17 = .ok (.bipush 7, 2) := by decide +kernel
theorem dc_M_sooner_19 : decode cb_M_sooner 19 = .ok (.iload_n 3, 1) := by decide +kernel
theorem dc_M_sooner_20 : decode cb_M_sooner 20 = .ok (.imul, 1) := by decide +kernel
theorem dc_M_sooner_21 : decode cb_M_sooner 21 = .ok (.iload 4, 2) := by decide +kernel
theorem dc_M_sooner_23 : decode cb_M_sooner 23 = .ok (.iadd, 1) := by decide +kernel
theorem dc_M_sooner_24 : decode cb_M_sooner 24 = .ok (.iaload, 1) := by decide +kernel
theorem dc_M_sooner_25 : decode cb_M_sooner 25 = .ok (.istore 6, 2) := by decide +kernel
theorem dc_M_sooner_27 : decode cb_M_sooner 27 = .ok (.iload 5, 2) := by decide +kernel
theorem dc_M_sooner_29 : decode cb_M_sooner 29 = .ok (.iload 6, 2) := by decide +kernel
theorem dc_M_sooner_31 : decode cb_M_sooner 31 = .ok (.if_icmp .eq 18, 3) := by decide +kernel
theorem dc_M_sooner_34 : decode cb_M_sooner 34 = .ok (.iload 5, 2) := by decide +kernel
theorem dc_M_sooner_36 : decode cb_M_sooner 36 = .ok (.iload 6, 2) := by decide +kernel
theorem dc_M_sooner_38 : decode cb_M_sooner 38 = .ok (.if_icmp .le 7, 3) := by decide +kernel
theorem dc_M_sooner_41 : decode cb_M_sooner 41 = .ok (.iconst 1, 1) := by decide +kernel
theorem dc_M_sooner_42 : decode cb_M_sooner 42 = .ok (.goto 52, 3) := by decide +kernel
theorem dc_M_sooner_45 : decode cb_M_sooner 45 = .ok (.iconst 0, 1) := by decide +kernel
theorem dc_M_sooner_46 : decode cb_M_sooner 46 = .ok (.goto 48, 3) := by decide +kernel
theorem dc_M_sooner_49 : decode cb_M_sooner 49 = .ok (.iload_n 1, 1) := by decide +kernel
theorem dc_M_sooner_50 : decode cb_M_sooner 50 = .ok (.iload_n 3, 1) := by decide +kernel
theorem dc_M_sooner_51 : decode cb_M_sooner 51 = .ok (.if_icmp .eq 24, 3) := by decide +kernel
theorem dc_M_sooner_54 : decode cb_M_sooner 54 = .ok (.aload_n 0, 1) := by decide +kernel
theorem dc_M_sooner_55 : decode cb_M_sooner 55 = .ok (.iload_n 1, 1) := by decide +kernel
theorem dc_M_sooner_56 : decode cb_M_sooner 56 = .ok (.invokevirtual 146, 3) := by decide +kernel
theorem dc_M_sooner_59 : decode cb_M_sooner 59 = .ok (.aload_n 0, 1) := by decide +kernel
theorem dc_M_sooner_60 : decode cb_M_sooner 60 = .ok (.iload_n 3, 1) := by decide +kernel
theorem dc_M_sooner_61 : decode cb_M_sooner 61 = .ok (.invokevirtual 146, 3) := by decide +kernel
theorem dc_M_sooner_64 : decode cb_M_sooner 64 = .ok (.if_icmp .ge 7, 3) := by decide +kernel
theorem dc_M_sooner_67 : decode cb_M_sooner 67 = .ok (.iconst 1, 1) := by decide +kernel
theorem dc_M_sooner_68 : decode cb_M_sooner 68 = .ok (.goto 26, 3) := by decide +kernel
theorem dc_M_sooner_71 : decode cb_M_sooner 71 = .ok (.iconst 0, 1) := by decide +kernel
theorem dc_M_sooner_72 : decode cb_M_sooner 72 = .ok (.goto 22, 3) := by decide +kernel
theorem dc_M_sooner_75 : decode cb_M_sooner 75 = .ok (.aload_n 0, 1) := by decide +kernel
theorem dc_M_sooner_76 : decode cb_M_sooner 76 = .ok (.iload_n 2, 1) := by decide +kernel
theorem dc_M_sooner_77 : decode cb_M_sooner 77 = .ok (.invokevirtual 146, 3) := by decide +kernel
theorem dc_M_sooner_80 : decode cb_M_sooner 80 = .ok (.aload_n 0, 1) := by decide +kernel
theorem dc_M_sooner_81 : decode cb_M_sooner 81 = .ok (.iload 4, 2) := by decide +kernel
theorem dc_M_sooner_83 : decode cb_M_sooner 83 = .ok (.invokevirtual 146, 3) := by decide +kernel
theorem dc_M_sooner_86 : decode cb_M_sooner 86 = .ok (.if_icmp .ge 7, 3) := by decide +kernel
theorem dc_M_sooner_89 : decode cb_M_sooner 89 = .ok (.iconst 1, 1) := by decide +kernel
theorem dc_M_sooner_90 : decode cb_M_sooner 90 = .ok (.goto 4, 3) := by decide +kernel
theorem dc_M_sooner_93 : decode cb_M_sooner 93 = .ok (.iconst 0, 1) := by decide +kernel
theorem dc_M_sooner_94 : decode cb_M_sooner 94 = .ok (.ireturn, 1) := by decide +kernel
theorem dc_M_lockWinners_0 : decode cb_M_lockWinners 0 = .ok (.iconst 0, 1) := by decide +kernel
theorem dc_M_lockWinners_1 : decode cb_M_lockWinners 1 = .ok (.istore_n 1, 1) := by decide +kernel
theorem dc_M_lockWinners_2 : decode cb_M_lockWinners 2 = .ok (.iload_n 1, 1) := by decide +kernel
theorem dc_M_lockWinners_3 : decode cb_M_lockWinners 3 = .ok (.bipush 49, 2) := by decide +kernel
theorem dc_M_lockWinners_5 : decode cb_M_lockWinners 5 = .ok (.if_icmp .ge 16, 3) := by decide +kernel
theorem dc_M_lockWinners_8 : decode cb_M_lockWinners 8 = .ok (.aload_n 0, 1) := by decide +kernel
theorem dc_M_lockWinners_9 : decode cb_M_lockWinners 9 = .ok (.getfield 50, 3) := by decide +kernel
theorem dc_M_lockWinners_12 : decode cb_M_lockWinners 12 = .ok (.iload_n 1, 1) := by decide +kernel
theorem dc_M_lockWinners_13 : decode cb_M_lockWinners 13 = .ok (.iconst 0, 1) := by decide +kernel
theorem dc_M_lockWinners_14 : decode cb_M_lockWinners 14 = .ok (.bastore, 1) := by decide +kernel
theorem dc_M_lockWinners_15 : decode cb_M_lockWinners 15 = .ok (.iinc 1 1, 3) := by decide +kernel
theorem dc_M_lockWinners_18 : decode cb_M_lockWinners 18 = .ok (.goto (-16), 3) := by decide +kernel
theorem dc_M_lockWinners_21 : decode cb_M_lockWinners 21 = .ok (.lconst 0, 1) := by decide +kernel
theorem dc_M_lockWinners_22 : decode cb_M_lockWinners 22 = .ok (.lstore_n 1, 1) := by decide +kernel
theorem dc_M_lockWinners_23 : decode cb_M_lockWinners 23 = .ok (.iconst 0, 1) := by decide +kernel
theorem dc_M_lockWinners_24 : decode cb_M_lockWinners 24 = .ok (.istore_n 3, 1) := by decide +kernel
theorem dc_M_lockWinners_25 : decode cb_M_lockWinners 25 = .ok (.iload_n 3, 1) := by decide +kernel
theorem dc_M_lockWinners_26 : decode cb_M_lockWinners 26 = .ok (.bipush 49, 2) := by decide +kernel
theorem dc_M_lockWinners_28 : decode cb_M_lockWinners 28 = .ok (.if_icmp .ge 187, 3) := by decide +kernel
theorem dc_M_lockWinners_31 : decode cb_M_lockWinners 31 = .ok (.iconst (-1), 1) := by decide +kernel
theorem dc_M_lockWinners_32 : decode cb_M_lockWinners 32 = .ok (.istore 4, 2) := by decide +kernel
theorem dc_M_lockWinners_34 : decode cb_M_lockWinners 34 = .ok (.iconst 0, 1) := by decide +kernel
theorem dc_M_lockWinners_35 : decode cb_M_lockWinners 35 = .ok (.istore 5, 2) := by decide +kernel
theorem dc_M_lockWinners_37 : decode cb_M_lockWinners 37 = .ok (.iload 5, 2) := by decide +kernel
theorem dc_M_lockWinners_39 : decode cb_M_lockWinners 39 = .ok (.bipush 49, 2) := by decide +kernel
theorem dc_M_lockWinners_41 : decode cb_M_lockWinners 41 = .ok (.if_icmp .ge 127, 3) := by decide +kernel
theorem dc_M_lockWinners_44 : decode cb_M_lockWinners 44 = .ok (.iload 5, 2) := by decide +kernel
theorem dc_M_lockWinners_46 : decode cb_M_lockWinners 46 = .ok (.bipush 7, 2) := by decide +kernel
theorem dc_M_lockWinners_48 : decode cb_M_lockWinners 48 = .ok (.idiv, 1) := by decide +kernel
theorem dc_M_lockWinners_49 : decode cb_M_lockWinners 49 = .ok (.aload_n 0, 1) := by decide +kernel
theorem dc_M_lockWinners_50 : decode cb_M_lockWinners 50 = .ok (.getfield 106, 3) := by decide +kernel
theorem dc_M_lockWinners_53 : decode cb_M_lockWinners 53 = .ok (.if_icmp .ge 60, 3) := by decide +kernel
theorem dc_M_lockWinners_56 : decode cb_M_lockWinners 56 = .ok (.iload 5, 2) := by decide +kernel
theorem dc_M_lockWinners_58 : decode cb_M_lockWinners 58 = .ok (.bipush 7, 2) := by decide +kernel
theorem dc_M_lockWinners_60 : decode cb_M_lockWinners 60 = .ok (.irem, 1) := by decide +kernel
theorem dc_M_lockWinners_61 : decode cb_M_lockWinners 61 = .ok (.aload_n 0, 1) := by decide +kernel
theorem dc_M_lockWinners_62 : decode cb_M_lockWinners 62 = .ok (.getfield 106, 3) := by decide +kernel
theorem dc_M_lockWinners_65 : decode cb_M_lockWinners 65 = .ok (.if_icmp .ge 48, 3) := by decide +kernel
theorem dc_M_lockWinners_68 : decode cb_M_lockWinners 68 = .ok (.iload 5, 2) := by decide +kernel
theorem dc_M_lockWinners_70 : decode cb_M_lockWinners 70 = .ok (.bipush 7, 2) := by decide +kernel
theorem dc_M_lockWinners_72 : decode cb_M_lockWinners 72 = .ok (.idiv, 1) := by decide +kernel
theorem dc_M_lockWinners_73 : decode cb_M_lockWinners 73 = .ok (.iload 5, 2) := by decide +kernel
theorem dc_M_lockWinners_75 : decode cb_M_lockWinners 75 = .ok (.bipush 7, 2) := by decide +kernel
theorem dc_M_lockWinners_77 : decode cb_M_lockWinners 77 = .ok (.irem, 1) := by decide +kernel
theorem dc_M_lockWinners_78 : decode cb_M_lockWinners 78 = .ok (.if_icmp .eq 35, 3) := by decide +kernel
theorem dc_M_lockWinners_81 : decode cb_M_lockWinners 81 = .ok (.aload_n 0, 1) := by decide +kernel
theorem dc_M_lockWinners_82 : decode cb_M_lockWinners 82 = .ok (.iload 5, 2) := by decide +kernel
theorem dc_M_lockWinners_84 : decode cb_M_lockWinners 84 = .ok (.bipush 7, 2) := by decide +kernel
theorem dc_M_lockWinners_86 : decode cb_M_lockWinners 86 = .ok (.idiv, 1) := by decide +kernel
theorem dc_M_lockWinners_87 : decode cb_M_lockWinners 87 = .ok (.iload 5, 2) := by decide +kernel
theorem dc_M_lockWinners_89 : decode cb_M_lockWinners 89 = .ok (.bipush 7, 2) := by decide +kernel
theorem dc_M_lockWinners_91 : decode cb_M_lockWinners 91 = .ok (.irem, 1) := by decide +kernel
theorem dc_M_lockWinners_92 : decode cb_M_lockWinners 92 = .ok (.invokevirtual 126, 3) := by decide +kernel
theorem dc_M_lockWinners_95 : decode cb_M_lockWinners 95 = .ok (.ifCond .eq 18, 3) := by decide +kernel
theorem dc_M_lockWinners_98 : decode cb_M_lockWinners 98 = .ok (.lload_n 1, 1) := by decide +kernel
theorem dc_M_lockWinners_99 : decode cb_M_lockWinners 99 = .ok (.iload 5, 2) := by decide +kernel
theorem dc_M_lockWinners_101 : decode cb_M_lockWinners 101 = .ok (.lshr, 1) := by decide +kernel
theorem dc_M_lockWinners_102 : decode cb_M_lockWinners 102 = .ok (.lconst 1, 1) := by decide +kernel
theorem dc_M_lockWinners_103 : decode cb_M_lockWinners 103 = .ok (.land, 1) := by decide +kernel
theorem dc_M_lockWinners_104 : decode cb_M_lockWinners 104 = .ok (.lconst 0, 1) := by decide +kernel
theorem dc_M_lockWinners_105 : decode cb_M_lockWinners 105 = .ok (.lcmp, 1) := by decide +kernel
theorem dc_M_lockWinners_106 : decode cb_M_lockWinners 106 = .ok (.ifCond .ne 7, 3) := by decide +kernel
theorem dc_M_lockWinners_109 : decode cb_M_lockWinners 109 = .ok (.iconst 1, 1) := by decide +kernel
theorem dc_M_lockWinners_110 : decode cb_M_lockWinners 110 = .ok (.goto 4, 3) := by decide +kernel
theorem dc_M_lockWinners_113 : decode cb_M_lockWinners 113 = .ok (.iconst 0, 1) := by decide +kernel
theorem dc_M_lockWinners_114 : decode cb_M_lockWinners 114 = .ok (.istore 6, 2) := by decide +kernel
theorem dc_M_lockWinners_116 : decode cb_M_lockWinners 116 = .ok (.iload 6, 2) := by decide +kernel
theorem dc_M_lockWinners_118 : decode cb_M_lockWinners 118 = .ok (.ifCond .eq 40, 3) := by decide +kernel
theorem dc_M_lockWinners_121 : decode cb_M_lockWinners 121 = .ok (.iload 4, 2) := by decide +kernel
theorem dc_M_lockWinners_123 : decode cb_M_lockWinners 123 = .ok (.ifCond .lt 30, 3) := by decide +kernel
theorem dc_M_lockWinners_126 : decode cb_M_lockWinners 126 = .ok (.aload_n 0, 1) := by decide +kernel
theorem dc_M_lockWinners_127 : decode cb_M_lockWinners 127 = .ok (.iload 5, 2) := by decide +kernel
theorem dc_M_lockWinners_129 : decode cb_M_lockWinners 129 = .ok (.bipush 7, 2) := by decide +kernel
theorem dc_M_lockWinners_131 : decode cb_M_lockWinners 131 = .ok (.idiv, 1) := by decide +kernel
theorem dc_M_lockWinners_132 : decode cb_M_lockWinners 132 = .ok (.iload 5, 2) := by decide +kernel
theorem dc_M_lockWinners_134 : decode cb_M_lockWinners 134 = .ok (.bipush 7, 2) := by decide +kernel
theorem dc_M_lockWinners_136 : decode cb_M_lockWinners 136 = .ok (.irem, 1) := by decide +kernel
theorem dc_M_lockWinners_137 : decode cb_M_lockWinners 137 = .ok (.iload 4, 2) := by decide +kernel
theorem dc_M_lockWinners_139 : decode cb_M_lockWinners 139 = .ok (.bipush 7, 2) := by decide +kernel
theorem dc_M_lockWinners_141 : decode cb_M_lockWinners 141 = .ok (.idiv, 1) := by decide +kernel
theorem dc_M_lockWinners_142 : decode cb_M_lockWinners 142 = .ok (.iload 4, 2) := by decide +kernel
theorem dc_M_lockWinners_144 : decode cb_M_lockWinners 144 = .ok (.bipush 7, 2) := by decide +kernel
theorem dc_M_lockWinners_146 : decode cb_M_lockWinners 146 = .ok (.irem, 1) := by decide +kernel
theorem dc_M_lockWinners_147 : decode cb_M_lockWinners 147 = .ok (.invokevirtual 149, 3) := by decide +kernel
theorem dc_M_lockWinners_150 : decode cb_M_lockWinners 150 = .ok (.ifCond .eq 8, 3) := by decide +kernel
theorem dc_M_lockWinners_153 : decode cb_M_lockWinners 153 = .ok (.iload 5, 2) := by decide +kernel
theorem dc_M_lockWinners_155 : decode cb_M_lockWinners 155 = .ok (.goto 5, 3) := by decide +kernel
theorem dc_M_lockWinners_158 : decode cb_M_lockWinners 158 = .ok (.iload 4, 2) := by decide +kernel
theorem dc_M_lockWinners_160 : decode cb_M_lockWinners 160 = .ok (.istore 4, 2) := by decide +kernel
theorem dc_M_lockWinners_162 : decode cb_M_lockWinners 162 = .ok (.iinc 5 1, 3) := by decide +kernel
theorem dc_M_lockWinners_165 : decode cb_M_lockWinners 165 = .ok (.goto (-128), 3) := by decide +kernel
theorem dc_M_lockWinners_168 : decode cb_M_lockWinners 168 = .ok (.iload 4, 2) := by decide +kernel
theorem dc_M_lockWinners_170 : decode cb_M_lockWinners 170 = .ok (.ifCond .lt 39, 3) := by decide +kernel
theorem dc_M_lockWinners_173 : decode cb_M_lockWinners 173 = .ok (.lload_n 1, 1) := by decide +kernel
theorem dc_M_lockWinners_174 : decode cb_M_lockWinners 174 = .ok (.lconst 1, 1) := by decide +kernel
theorem dc_M_lockWinners_175 : decode cb_M_lockWinners 175 = .ok (.iload 4, 2) := by decide +kernel
theorem dc_M_lockWinners_177 : decode cb_M_lockWinners 177 = .ok (.lshl, 1) := by decide +kernel
theorem dc_M_lockWinners_178 : decode cb_M_lockWinners 178 = .ok (.lor, 1) := by decide +kernel
theorem dc_M_lockWinners_179 : decode cb_M_lockWinners 179 = .ok (.lstore_n 1, 1) := by decide +kernel
theorem dc_M_lockWinners_180 : decode cb_M_lockWinners 180 = .ok (.aload_n 0, 1) := by decide +kernel
theorem dc_M_lockWinners_181 : decode cb_M_lockWinners 181 = .ok (.getfield 50, 3) := by decide +kernel
theorem dc_M_lockWinners_184 : decode cb_M_lockWinners 184 = .ok (.iload 4, 2) := by decide +kernel
theorem dc_M_lockWinners_186 : decode cb_M_lockWinners 186 = .ok (.aload_n 0, 1) := by decide +kernel
theorem dc_M_lockWinners_187 : decode cb_M_lockWinners 187 = .ok (.iload 4, 2) := by decide +kernel
theorem dc_M_lockWinners_189 : decode cb_M_lockWinners 189 = .ok (.bipush 7, 2) := by decide +kernel
theorem dc_M_lockWinners_191 : decode cb_M_lockWinners 191 = .ok (.irem, 1) := by decide +kernel
theorem dc_M_lockWinners_192 : decode cb_M_lockWinners 192 = .ok (.iload 4, 2) := by decide +kernel
theorem dc_M_lockWinners_194 : decode cb_M_lockWinners 194 = .ok (.bipush 7, 2) := by decide +kernel
theorem dc_M_lockWinners_196 : decode cb_M_lockWinners 196 = .ok (.idiv, 1) := by decide +kernel
theorem dc_M_lockWinners_197 : decode cb_M_lockWinners 197 = .ok (.invokevirtual 153, 3) := by decide +kernel
theorem dc_M_lockWinners_200 : decode cb_M_lockWinners 200 = .ok (.ifCond .ne 7, 3) := by decide +kernel
theorem dc_M_lockWinners_203 : decode cb_M_lockWinners 203 = .ok (.iconst 1, 1) := by decide +kernel
theorem dc_M_lockWinners_204 : decode cb_M_lockWinners 204 = .ok (.goto 4, 3) := by decide +kernel
theorem dc_M_lockWinners_207 : decode cb_M_lockWinners 207 = .ok (.iconst 0, 1) := by decide +kernel
theorem dc_M_lockWinners_208 : decode cb_M_lockWinners 208 = .ok (.bastore, 1) := by decide +kernel
theorem dc_M_lockWinners_209 : decode cb_M_lockWinners 209 = .ok (.iinc 3 1, 3) := by decide +kernel
theorem dc_M_lockWinners_212 : decode cb_M_lockWinners 212 = .ok (.goto (-187), 3) := by decide +kernel
theorem dc_M_lockWinners_215 : decode cb_M_lockWinners 215 = .ok (.aload_n 0, 1) := by decide +kernel
theorem dc_M_lockWinners_216 : decode cb_M_lockWinners 216 = .ok (.invokevirtual 115, 3) := by decide +kernel
theorem dc_M_lockWinners_219 : decode cb_M_lockWinners 219 = .ok (.istore_n 3, 1) := by decide +kernel
theorem dc_M_lockWinners_220 : decode cb_M_lockWinners 220 = .ok (.iconst 0, 1) := by decide +kernel
theorem dc_M_lockWinners_221 : decode cb_M_lockWinners 221 = .ok (.istore 4, 2) := by decide +kernel
theorem dc_M_lockWinners_223 : decode cb_M_lockWinners 223 = .ok (.iload 4, 2) := by decide +kernel
theorem dc_M_lockWinners_225 : decode cb_M_lockWinners 225 = .ok (.bipush 49, 2) := by decide +kernel
theorem dc_M_lockWinners_227 : decode cb_M_lockWinners 227 = .ok (.if_icmp .ge 35, 3) := by decide +kernel
theorem dc_M_lockWinners_230 : decode cb_M_lockWinners 230 = .ok (.aload_n 0, 1) := by decide +kernel
theorem dc_M_lockWinners_231 : decode cb_M_lockWinners 231 = .ok (.getfield 50, 3) := by decide +kernel
theorem dc_M_lockWinners_234 : decode cb_M_lockWinners 234 = .ok (.iload 4, 2) := by decide +kernel
theorem dc_M_lockWinners_236 : decode cb_M_lockWinners 236 = .ok (.baload, 1) := by decide +kernel
theorem dc_M_lockWinners_237 : decode cb_M_lockWinners 237 = .ok (.ifCond .eq 17, 3) := by decide +kernel
theorem dc_M_lockWinners_240 : decode cb_M_lockWinners 240 = .ok (.iload_n 3, 1) := by decide +kernel
theorem dc_M_lockWinners_241 : decode cb_M_lockWinners 241 = .ok (.iconst 1, 1) := by decide +kernel
theorem dc_M_lockWinners_242 : decode cb_M_lockWinners 242 = .ok (.iload 4, 2) := by decide +kernel
theorem dc_M_lockWinners_244 : decode cb_M_lockWinners 244 = .ok (.bipush 7, 2) := by decide +kernel
theorem dc_M_lockWinners_246 : decode cb_M_lockWinners 246 = .ok (.irem, 1) := by decide +kernel
theorem dc_M_lockWinners_247 : decode cb_M_lockWinners 247 = .ok (.ishl, 1) := by decide +kernel
theorem dc_M_lockWinners_248 : decode cb_M_lockWinners 248 = .ok (.iconst (-1), 1) := by decide +kernel
theorem dc_M_lockWinners_249 : decode cb_M_lockWinners 249 = .ok (.ixor, 1) := by decide +kernel
theorem dc_M_lockWinners_250 : decode cb_M_lockWinners 250 = .ok (.iand, 1) := by decide +kernel
theorem dc_M_lockWinners_251 : decode cb_M_lockWinners 251 = .ok (.goto 4, 3) := by decide +kernel
theorem dc_M_lockWinners_254 : decode cb_M_lockWinners 254 = .ok (.iload_n 3, 1) := by decide +kernel
theorem dc_M_lockWinners_255 : decode cb_M_lockWinners 255 = .ok (.istore_n 3, 1) := by decide +kernel
theorem dc_M_lockWinners_256 : decode cb_M_lockWinners 256 = .ok (.iinc 4 1, 3) := by decide +kernel
theorem dc_M_lockWinners_259 : decode cb_M_lockWinners 259 = .ok (.goto (-36), 3) := by decide +kernel
theorem dc_M_lockWinners_262 : decode cb_M_lockWinners 262 = .ok (.iload_n 3, 1) := by decide +kernel
theorem dc_M_lockWinners_263 : decode cb_M_lockWinners 263 = .ok (.ireturn, 1) := by decide +kernel
theorem dc_M_over_0 : decode cb_M_over 0 = .ok (.lconst 0, 1) := by decide +kernel
theorem dc_M_over_1 : decode cb_M_over 1 = .ok (.lstore_n 3, 1) := by decide +kernel
theorem dc_M_over_2 : decode cb_M_over 2 = .ok (.iconst 0, 1) := by decide +kernel
theorem dc_M_over_3 : decode cb_M_over 3 = .ok (.istore 5, 2) := by decide +kernel
theorem dc_M_over_5 : decode cb_M_over 5 = .ok (.iload 5, 2) := by decide +kernel
theorem dc_M_over_7 : decode cb_M_over 7 = .ok (.aload_n 0, 1) := by decide +kernel
theorem dc_M_over_8 : decode cb_M_over 8 = .ok (.getfield 106, 3) := by decide +kernel
theorem dc_M_over_11 : decode cb_M_over 11 = .ok (.if_icmp .ge 39, 3) := by decide +kernel
theorem dc_M_over_14 : decode cb_M_over 14 = .ok (.iload_n 2, 1) := by decide +kernel
theorem dc_M_over_15 : decode cb_M_over 15 = .ok (.iload 5, 2) := by decide +kernel
theorem dc_M_over_17 : decode cb_M_over 17 = .ok (.ishr, 1) := by decide +kernel
theorem dc_M_over_18 : decode cb_M_over 18 = .ok (.iconst 1, 1) := by decide +kernel
theorem dc_M_over_19 : decode cb_M_over 19 = .ok (.iand, 1) := by decide +kernel
theorem dc_M_over_20 : decode cb_M_over 20 = .ok (.iconst 1, 1) := by decide +kernel
theorem dc_M_over_21 : decode cb_M_over 21 = .ok (.if_icmp .ne 21, 3) := by decide +kernel
theorem dc_M_over_24 : decode cb_M_over 24 = .ok (.lload_n 3, 1) := by decide +kernel
theorem dc_M_over_25 : decode cb_M_over 25 = .ok (.aload_n 0, 1) := by decide +kernel
theorem dc_M_over_26 : decode cb_M_over 26 = .ok (.getfield 44, 3) := by decide +kernel
theorem dc_M_over_29 : decode cb_M_over 29 = .ok (.bipush 7, 2) := by decide +kernel
theorem dc_M_over_31 : decode cb_M_over 31 = .ok (.iload 5, 2) := by decide +kernel
theorem dc_M_over_33 : decode cb_M_over 33 = .ok (.imul, 1) := by decide +kernel
theorem dc_M_over_34 : decode cb_M_over 34 = .ok (.iload_n 1, 1) := by decide +kernel
theorem dc_M_over_35 : decode cb_M_over 35 = .ok (.iadd, 1) := by decide +kernel
theorem dc_M_over_36 : decode cb_M_over 36 = .ok (.iaload, 1) := by decide +kernel
theorem dc_M_over_37 : decode cb_M_over 37 = .ok (.i2l, 1) := by decide +kernel
theorem dc_M_over_38 : decode cb_M_over 38 = .ok (.ladd, 1) := by decide +kernel
theorem dc_M_over_39 : decode cb_M_over 39 = .ok (.goto 4, 3) := by decide +kernel
theorem dc_M_over_42 : decode cb_M_over 42 = .ok (.lload_n 3, 1) := by decide +kernel
theorem dc_M_over_43 : decode cb_M_over 43 = .ok (.lstore_n 3, 1) := by decide +kernel
theorem dc_M_over_44 : decode cb_M_over 44 = .ok (.iinc 5 1, 3) := by decide +kernel
theorem dc_M_over_47 : decode cb_M_over 47 = .ok (.goto (-42), 3) := by decide +kernel
theorem dc_M_over_50 : decode cb_M_over 50 = .ok (.lload_n 3, 1) := by decide +kernel
theorem dc_M_over_51 : decode cb_M_over 51 = .ok (.lreturn, 1) := by decide +kernel
theorem dc_M_findLeast_0 : decode cb_M_findLeast 0 = .ok (.aload_n 0, 1) := by decide +kernel
theorem dc_M_findLeast_1 : decode cb_M_findLeast 1 = .ok (.getfield 57, 3) := by decide +kernel
theorem dc_M_findLeast_4 : decode cb_M_findLeast 4 = .ok (.iconst 0, 1) := by decide +kernel
theorem dc_M_findLeast_5 : decode cb_M_findLeast 5 = .ok (.lconst 0, 1) := by decide +kernel
theorem dc_M_findLeast_6 : decode cb_M_findLeast 6 = .ok (.lastore, 1) := by decide +kernel
theorem dc_M_findLeast_7 : decode cb_M_findLeast 7 = .ok (.iconst 1, 1) := by decide +kernel
theorem dc_M_findLeast_8 : decode cb_M_findLeast 8 = .ok (.istore_n 1, 1) := by decide +kernel
theorem dc_M_findLeast_9 : decode cb_M_findLeast 9 = .ok (.iload_n 1, 1) := by decide +kernel
theorem dc_M_findLeast_10 : decode cb_M_findLeast 10 = .ok (.aload_n 0, 1) := by decide +kernel
theorem dc_M_findLeast_11 : decode cb_M_findLeast 11 = .ok (.invokevirtual 115, 3) := by decide +kernel
theorem dc_M_findLeast_14 : decode cb_M_findLeast 14 = .ok (.if_icmp .gt 94, 3) := by decide +kernel
theorem dc_M_findLeast_17 : decode cb_M_findLeast 17 = .ok (.iconst 1, 1) := by decide +kernel
theorem dc_M_findLeast_18 : decode cb_M_findLeast 18 = .ok (.istore_n 2, 1) := by decide +kernel
theorem dc_M_findLeast_19 : decode cb_M_findLeast 19 = .ok (.iconst 0, 1) := by decide +kernel
theorem dc_M_findLeast_20 : decode cb_M_findLeast 20 = .ok (.istore_n 3, 1) := by decide +kernel
theorem dc_M_findLeast_21 : decode cb_M_findLeast 21 = .ok (.iload_n 3, 1) := by decide +kernel
theorem dc_M_findLeast_22 : decode cb_M_findLeast 22 = .ok (.aload_n 0, 1) := by decide +kernel
theorem dc_M_findLeast_23 : decode cb_M_findLeast 23 = .ok (.getfield 106, 3) := by decide +kernel
theorem dc_M_findLeast_26 : decode cb_M_findLeast 26 = .ok (.if_icmp .ge 76, 3) := by decide +kernel
theorem dc_M_findLeast_29 : decode cb_M_findLeast 29 = .ok (.iload_n 1, 1) := by decide +kernel
theorem dc_M_findLeast_30 : decode cb_M_findLeast 30 = .ok (.iconst 1, 1) := by decide +kernel
theorem dc_M_findLeast_31 : decode cb_M_findLeast 31 = .ok (.iload_n 3, 1) := by decide +kernel
theorem dc_M_findLeast_32 : decode cb_M_findLeast 32 = .ok (.ishl, 1) := by decide +kernel
theorem dc_M_findLeast_33 : decode cb_M_findLeast 33 = .ok (.iconst (-1), 1) := by decide +kernel
theorem dc_M_findLeast_34 : decode cb_M_findLeast 34 = .ok (.ixor, 1) := by decide +kernel
theorem dc_M_findLeast_35 : decode cb_M_findLeast 35 = .ok (.iand, 1) := by decide +kernel
theorem dc_M_findLeast_36 : decode cb_M_findLeast 36 = .ok (.istore 4, 2) := by decide +kernel
theorem dc_M_findLeast_38 : decode cb_M_findLeast 38 = .ok (.iload 4, 2) := by decide +kernel
theorem dc_M_findLeast_40 : decode cb_M_findLeast 40 = .ok (.iload_n 1, 1) := by decide +kernel
theorem dc_M_findLeast_41 : decode cb_M_findLeast 41 = .ok (.if_icmp .eq 55, 3) := by decide +kernel
theorem dc_M_findLeast_44 : decode cb_M_findLeast 44 = .ok (.aload_n 0, 1) := by decide +kernel
theorem dc_M_findLeast_45 : decode cb_M_findLeast 45 = .ok (.iload_n 3, 1) := by decide +kernel
theorem dc_M_findLeast_46 : decode cb_M_findLeast 46 = .ok (.iload 4, 2) := by decide +kernel
theorem dc_M_findLeast_48 : decode cb_M_findLeast 48 = .ok (.invokevirtual 156, 3) := by decide +kernel
theorem dc_M_findLeast_51 : decode cb_M_findLeast 51 = .ok (.aload_n 0, 1) := by decide +kernel
theorem dc_M_findLeast_52 : decode cb_M_findLeast 52 = .ok (.getfield 57, 3) := by decide +kernel
theorem dc_M_findLeast_55 : decode cb_M_findLeast 55 = .ok (.iload 4, 2) := by decide +kernel
theorem dc_M_findLeast_57 : decode cb_M_findLeast 57 = .ok (.laload, 1) := by decide +kernel
theorem dc_M_findLeast_58 : decode cb_M_findLeast 58 = .ok (.ladd, 1) := by decide +kernel
theorem dc_M_findLeast_59 : decode cb_M_findLeast 59 = .ok (.lstore 5, 2) := by decide +kernel
theorem dc_M_findLeast_61 : decode cb_M_findLeast 61 = .ok (.aload_n 0, 1) := by decide +kernel
theorem dc_M_findLeast_62 : decode cb_M_findLeast 62 = .ok (.getfield 57, 3) := by decide +kernel
theorem dc_M_findLeast_65 : decode cb_M_findLeast 65 = .ok (.iload_n 1, 1) := by decide +kernel
theorem dc_M_findLeast_66 : decode cb_M_findLeast 66 = .ok (.iload_n 2, 1) := by decide +kernel
theorem dc_M_findLeast_67 : decode cb_M_findLeast 67 = .ok (.ifCond .ne 15, 3) := by decide +kernel
theorem dc_M_findLeast_70 : decode cb_M_findLeast 70 = .ok (.lload 5, 2) := by decide +kernel
theorem dc_M_findLeast_72 : decode cb_M_findLeast 72 = .ok (.aload_n 0, 1) := by decide +kernel
theorem dc_M_findLeast_73 : decode cb_M_findLeast 73 = .ok (.getfield 57, 3) := by decide +kernel
theorem dc_M_findLeast_76 : decode cb_M_findLeast 76 = .ok (.iload_n 1, 1) := by decide +kernel
theorem dc_M_findLeast_77 : decode cb_M_findLeast 77 = .ok (.laload, 1) := by decide +kernel
theorem dc_M_findLeast_78 : decode cb_M_findLeast 78 = .ok (.lcmp, 1) := by decide +kernel
theorem dc_M_findLeast_79 : decode cb_M_findLeast 79 = .ok (.ifCond .ge 8, 3) := by decide +kernel
theorem dc_M_findLeast_82 : decode cb_M_findLeast 82 = .ok (.lload 5, 2) := by decide +kernel
theorem dc_M_findLeast_84 : decode cb_M_findLeast 84 = .ok (.goto 9, 3) := by decide +kernel
theorem dc_M_findLeast_87 : decode cb_M_findLeast 87 = .ok (.aload_n 0, 1) := by decide +kernel
theorem dc_M_findLeast_88 : decode cb_M_findLeast 88 = .ok (.getfield 57, 3) := by decide +kernel
theorem dc_M_findLeast_91 : decode cb_M_findLeast 91 = .ok (.iload_n 1, 1) := by decide +kernel
theorem dc_M_findLeast_92 : decode cb_M_findLeast 92 = .ok (.laload, 1) := by decide +kernel
theorem dc_M_findLeast_93 : decode cb_M_findLeast 93 = .ok (.lastore, 1) := by decide +kernel
theorem dc_M_findLeast_94 : decode cb_M_findLeast 94 = .ok (.iconst 0, 1) := by decide +kernel
theorem dc_M_findLeast_95 : decode cb_M_findLeast 95 = .ok (.istore_n 2, 1) := by decide +kernel
theorem dc_M_findLeast_96 : decode cb_M_findLeast 96 = .ok (.iinc 3 1, 3) := by decide +kernel
theorem dc_M_findLeast_99 : decode cb_M_findLeast 99 = .ok (.goto (-78), 3) := by decide +kernel
theorem dc_M_findLeast_102 : decode cb_M_findLeast 102 = .ok (.iinc 1 1, 3) := by decide +kernel
theorem dc_M_findLeast_105 : decode cb_M_findLeast 105 = .ok (.goto (-96), 3) := by decide +kernel
theorem dc_M_findLeast_108 : decode cb_M_findLeast 108 = .ok (.return_, 1) := by decide +kernel
theorem dc_M_agreeing_0 : decode cb_M_agreeing 0 = .ok (.aload_n 0, 1) := by decide +kernel
theorem dc_M_agreeing_1 : decode cb_M_agreeing 1 = .ok (.invokevirtual 159, 3) := by decide +kernel
theorem dc_M_agreeing_4 : decode cb_M_agreeing 4 = .ok (.iconst 0, 1) := by decide +kernel
theorem dc_M_agreeing_5 : decode cb_M_agreeing 5 = .ok (.istore_n 1, 1) := by decide +kernel
theorem dc_M_agreeing_6 : decode cb_M_agreeing 6 = .ok (.iconst 0, 1) := by decide +kernel
theorem dc_M_agreeing_7 : decode cb_M_agreeing 7 = .ok (.istore_n 2, 1) := by decide +kernel
theorem dc_M_agreeing_8 : decode cb_M_agreeing 8 = .ok (.iload_n 2, 1) := by decide +kernel
theorem dc_M_agreeing_9 : decode cb_M_agreeing 9 = .ok (.aload_n 0, 1) := by decide +kernel
theorem dc_M_agreeing_10 : decode cb_M_agreeing 10 = .ok (.getfield 106, 3) := by decide +kernel
theorem dc_M_agreeing_13 : decode cb_M_agreeing 13 = .ok (.if_icmp .ge 56, 3) := by decide +kernel
theorem dc_M_agreeing_16 : decode cb_M_agreeing 16 = .ok (.aload_n 0, 1) := by decide +kernel
theorem dc_M_agreeing_17 : decode cb_M_agreeing 17 = .ok (.invokevirtual 115, 3) := by decide +kernel
theorem dc_M_agreeing_20 : decode cb_M_agreeing 20 = .ok (.iconst 1, 1) := by decide +kernel
theorem dc_M_agreeing_21 : decode cb_M_agreeing 21 = .ok (.iload_n 2, 1) := by decide +kernel
theorem dc_M_agreeing_22 : decode cb_M_agreeing 22 = .ok (.ishl, 1) := by decide +kernel
theorem dc_M_agreeing_23 : decode cb_M_agreeing 23 = .ok (.iconst (-1), 1) := by decide +kernel
theorem dc_M_agreeing_24 : decode cb_M_agreeing 24 = .ok (.ixor, 1) := by decide +kernel
theorem dc_M_agreeing_25 : decode cb_M_agreeing 25 = .ok (.iand, 1) := by decide +kernel
theorem dc_M_agreeing_26 : decode cb_M_agreeing 26 = .ok (.istore_n 3, 1) := by decide +kernel
theorem dc_M_agreeing_27 : decode cb_M_agreeing 27 = .ok (.aload_n 0, 1) := by decide +kernel
theorem dc_M_agreeing_28 : decode cb_M_agreeing 28 = .ok (.iload_n 2, 1) := by decide +kernel
theorem dc_M_agreeing_29 : decode cb_M_agreeing 29 = .ok (.iload_n 3, 1) := by decide +kernel
theorem dc_M_agreeing_30 : decode cb_M_agreeing 30 = .ok (.invokevirtual 156, 3) := by decide +kernel
theorem dc_M_agreeing_33 : decode cb_M_agreeing 33 = .ok (.aload_n 0, 1) := by decide +kernel
theorem dc_M_agreeing_34 : decode cb_M_agreeing 34 = .ok (.getfield 57, 3) := by decide +kernel
theorem dc_M_agreeing_37 : decode cb_M_agreeing 37 = .ok (.iload_n 3, 1) := by decide +kernel
theorem dc_M_agreeing_38 : decode cb_M_agreeing 38 = .ok (.laload, 1) := by decide +kernel
theorem dc_M_agreeing_39 : decode cb_M_agreeing 39 = .ok (.ladd, 1) := by decide +kernel
theorem dc_M_agreeing_40 : decode cb_M_agreeing 40 = .ok (.aload_n 0, 1) := by decide +kernel
theorem dc_M_agreeing_41 : decode cb_M_agreeing 41 = .ok (.getfield 57, 3) := by decide +kernel
theorem dc_M_agreeing_44 : decode cb_M_agreeing 44 = .ok (.aload_n 0, 1) := by decide +kernel
theorem dc_M_agreeing_45 : decode cb_M_agreeing 45 = .ok (.invokevirtual 115, 3) := by decide +kernel
theorem dc_M_agreeing_48 : decode cb_M_agreeing 48 = .ok (.laload, 1) := by decide +kernel
theorem dc_M_agreeing_49 : decode cb_M_agreeing 49 = .ok (.lcmp, 1) := by decide +kernel
theorem dc_M_agreeing_50 : decode cb_M_agreeing 50 = .ok (.ifCond .ne 11, 3) := by decide +kernel
theorem dc_M_agreeing_53 : decode cb_M_agreeing 53 = .ok (.iload_n 1, 1) := by decide +kernel
theorem dc_M_agreeing_54 : decode cb_M_agreeing 54 = .ok (.iconst 1, 1) := by decide +kernel
theorem dc_M_agreeing_55 : decode cb_M_agreeing 55 = .ok (.iload_n 2, 1) := by decide +kernel
theorem dc_M_agreeing_56 : decode cb_M_agreeing 56 = .ok (.ishl, 1) := by decide +kernel
theorem dc_M_agreeing_57 : decode cb_M_agreeing 57 = .ok (.ior, 1) := by decide +kernel
theorem dc_M_agreeing_58 : decode cb_M_agreeing 58 = .ok (.goto 4, 3) := by decide +kernel
theorem dc_M_agreeing_61 : decode cb_M_agreeing 61 = .ok (.iload_n 1, 1) := by decide +kernel
theorem dc_M_agreeing_62 : decode cb_M_agreeing 62 = .ok (.istore_n 1, 1) := by decide +kernel
theorem dc_M_agreeing_63 : decode cb_M_agreeing 63 = .ok (.iinc 2 1, 3) := by decide +kernel
theorem dc_M_agreeing_66 : decode cb_M_agreeing 66 = .ok (.goto (-58), 3) := by decide +kernel
theorem dc_M_agreeing_69 : decode cb_M_agreeing 69 = .ok (.iload_n 1, 1) := by decide +kernel
theorem dc_M_agreeing_70 : decode cb_M_agreeing 70 = .ok (.ireturn, 1) := by decide +kernel
theorem dc_M_uncovered_0 : decode cb_M_uncovered 0 = .ok (.aload_n 0, 1) := by decide +kernel
theorem dc_M_uncovered_1 : decode cb_M_uncovered 1 = .ok (.invokevirtual 115, 3) := by decide +kernel
theorem dc_M_uncovered_4 : decode cb_M_uncovered 4 = .ok (.istore_n 1, 1) := by decide +kernel
theorem dc_M_uncovered_5 : decode cb_M_uncovered 5 = .ok (.iconst 0, 1) := by decide +kernel
theorem dc_M_uncovered_6 : decode cb_M_uncovered 6 = .ok (.istore_n 2, 1) := by decide +kernel
theorem dc_M_uncovered_7 : decode cb_M_uncovered 7 = .ok (.iload_n 2, 1) := by decide +kernel
theorem dc_M_uncovered_8 : decode cb_M_uncovered 8 = .ok (.aload_n 0, 1) := by decide +kernel
theorem dc_M_uncovered_9 : decode cb_M_uncovered 9 = .ok (.getfield 106, 3) := by decide +kernel
theorem dc_M_uncovered_12 : decode cb_M_uncovered 12 = .ok (.if_icmp .ge 125, 3) := by decide +kernel
theorem dc_M_uncovered_15 : decode cb_M_uncovered 15 = .ok (.iconst 0, 1) := by decide +kernel
theorem dc_M_uncovered_16 : decode cb_M_uncovered 16 = .ok (.istore_n 3, 1) := by decide +kernel
theorem dc_M_uncovered_17 : decode cb_M_uncovered 17 = .ok (.iload_n 3, 1) := by decide +kernel
theorem dc_M_uncovered_18 : decode cb_M_uncovered 18 = .ok (.aload_n 0, 1) := by decide +kernel
theorem dc_M_uncovered_19 : decode cb_M_uncovered 19 = .ok (.getfield 106, 3) := by decide +kernel
theorem dc_M_uncovered_22 : decode cb_M_uncovered 22 = .ok (.if_icmp .ge 109, 3) := by decide +kernel
theorem dc_M_uncovered_25 : decode cb_M_uncovered 25 = .ok (.iload_n 2, 1) := by decide +kernel
theorem dc_M_uncovered_26 : decode cb_M_uncovered 26 = .ok (.iload_n 3, 1) := by decide +kernel
theorem dc_M_uncovered_27 : decode cb_M_uncovered 27 = .ok (.if_icmp .eq 16, 3) := by decide +kernel
theorem dc_M_uncovered_30 : decode cb_M_uncovered 30 = .ok (.aload_n 0, 1) := by decide +kernel
theorem dc_M_uncovered_31 : decode cb_M_uncovered 31 = .ok (.iload_n 2, 1) := by decide +kernel
theorem dc_M_uncovered_32 : decode cb_M_uncovered 32 = .ok (.iload_n 3, 1) := by decide +kernel
theorem dc_M_uncovered_33 : decode cb_M_uncovered 33 = .ok (.invokevirtual 126, 3) := by decide +kernel
theorem dc_M_uncovered_36 : decode cb_M_uncovered 36 = .ok (.ifCond .eq 7, 3) := by decide +kernel
theorem dc_M_uncovered_39 : decode cb_M_uncovered 39 = .ok (.iconst 1, 1) := by decide +kernel
theorem dc_M_uncovered_40 : decode cb_M_uncovered 40 = .ok (.goto 4, 3) := by decide +kernel
theorem dc_M_uncovered_43 : decode cb_M_uncovered 43 = .ok (.iconst 0, 1) := by decide +kernel
theorem dc_M_uncovered_44 : decode cb_M_uncovered 44 = .ok (.istore 4, 2) := by decide +kernel
theorem dc_M_uncovered_46 : decode cb_M_uncovered 46 = .ok (.iconst 0, 1) := by decide +kernel
theorem dc_M_uncovered_47 : decode cb_M_uncovered 47 = .ok (.istore 5, 2) := by decide +kernel
theorem dc_M_uncovered_49 : decode cb_M_uncovered 49 = .ok (.iload 5, 2) := by decide +kernel
theorem dc_M_uncovered_51 : decode cb_M_uncovered 51 = .ok (.aload_n 0, 1) := by decide +kernel
theorem dc_M_uncovered_52 : decode cb_M_uncovered 52 = .ok (.getfield 106, 3) := by decide +kernel
theorem dc_M_uncovered_55 : decode cb_M_uncovered 55 = .ok (.if_icmp .ge 53, 3) := by decide +kernel
theorem dc_M_uncovered_58 : decode cb_M_uncovered 58 = .ok (.iload 4, 2) := by decide +kernel
theorem dc_M_uncovered_60 : decode cb_M_uncovered 60 = .ok (.ifCond .eq 39, 3) := by decide +kernel
theorem dc_M_uncovered_63 : decode cb_M_uncovered 63 = .ok (.iload 5, 2) := by decide +kernel
theorem dc_M_uncovered_65 : decode cb_M_uncovered 65 = .ok (.iload_n 2, 1) := by decide +kernel
theorem dc_M_uncovered_66 : decode cb_M_uncovered 66 = .ok (.if_icmp .eq 29, 3) := by decide +kernel
theorem dc_M_uncovered_69 : decode cb_M_uncovered 69 = .ok (.iload 5, 2) := by decide +kernel
theorem dc_M_uncovered_71 : decode cb_M_uncovered 71 = .ok (.iload_n 3, 1) := by decide +kernel
theorem dc_M_uncovered_72 : decode cb_M_uncovered 72 = .ok (.if_icmp .eq 23, 3) := by decide +kernel
theorem dc_M_uncovered_75 : decode cb_M_uncovered 75 = .ok (.aload_n 0, 1) := by decide +kernel
theorem dc_M_uncovered_76 : decode cb_M_uncovered 76 = .ok (.iload_n 3, 1) := by decide +kernel
theorem dc_M_uncovered_77 : decode cb_M_uncovered 77 = .ok (.iload 5, 2) := by decide +kernel
theorem dc_M_uncovered_79 : decode cb_M_uncovered 79 = .ok (.invokevirtual 126, 3) := by decide +kernel
theorem dc_M_uncovered_82 : decode cb_M_uncovered 82 = .ok (.ifCond .eq 13, 3) := by decide +kernel
theorem dc_M_uncovered_85 : decode cb_M_uncovered 85 = .ok (.aload_n 0, 1) := by decide +kernel
theorem dc_M_uncovered_86 : decode cb_M_uncovered 86 = .ok (.iload_n 2, 1) := by decide +kernel
theorem dc_M_uncovered_87 : decode cb_M_uncovered 87 = .ok (.iload 5, 2) := by decide +kernel
theorem dc_M_uncovered_89 : decode cb_M_uncovered 89 = .ok (.invokevirtual 126, 3) := by decide +kernel
theorem dc_M_uncovered_92 : decode cb_M_uncovered 92 = .ok (.ifCond .eq 7, 3) := by decide +kernel
theorem dc_M_uncovered_95 : decode cb_M_uncovered 95 = .ok (.iconst 1, 1) := by decide +kernel
theorem dc_M_uncovered_96 : decode cb_M_uncovered 96 = .ok (.goto 4, 3) := by decide +kernel
theorem dc_M_uncovered_99 : decode cb_M_uncovered 99 = .ok (.iconst 0, 1) := by decide +kernel
theorem dc_M_uncovered_100 : decode cb_M_uncovered 100 = .ok (.istore 4, 2) := by decide +kernel
theorem dc_M_uncovered_102 : decode cb_M_uncovered 102 = .ok (.iinc 5 1, 3) := by decide +kernel
theorem dc_M_uncovered_105 : decode cb_M_uncovered 105 = .ok (.goto (-56), 3) := by decide +kernel
theorem dc_M_uncovered_108 : decode cb_M_uncovered 108 = .ok (.iload 4, 2) := by decide +kernel
theorem dc_M_uncovered_110 : decode cb_M_uncovered 110 = .ok (.ifCond .eq 13, 3) := by decide +kernel
theorem dc_M_uncovered_113 : decode cb_M_uncovered 113 = .ok (.iload_n 1, 1) := by decide +kernel
theorem dc_M_uncovered_114 : decode cb_M_uncovered 114 = .ok (.iconst 1, 1) := by decide +kernel
theorem dc_M_uncovered_115 : decode cb_M_uncovered 115 = .ok (.iload_n 3, 1) := by decide +kernel
theorem dc_M_uncovered_116 : decode cb_M_uncovered 116 = .ok (.ishl, 1) := by decide +kernel
theorem dc_M_uncovered_117 : decode cb_M_uncovered 117 = .ok (.iconst (-1), 1) := by decide +kernel
theorem dc_M_uncovered_118 : decode cb_M_uncovered 118 = .ok (.ixor, 1) := by decide +kernel
theorem dc_M_uncovered_119 : decode cb_M_uncovered 119 = .ok (.iand, 1) := by decide +kernel
theorem dc_M_uncovered_120 : decode cb_M_uncovered 120 = .ok (.goto 4, 3) := by decide +kernel
theorem dc_M_uncovered_123 : decode cb_M_uncovered 123 = .ok (.iload_n 1, 1) := by decide +kernel
theorem dc_M_uncovered_124 : decode cb_M_uncovered 124 = .ok (.istore_n 1, 1) := by decide +kernel
theorem dc_M_uncovered_125 : decode cb_M_uncovered 125 = .ok (.iinc 3 1, 3) := by decide +kernel
theorem dc_M_uncovered_128 : decode cb_M_uncovered 128 = .ok (.goto (-111), 3) := by decide +kernel
theorem dc_M_uncovered_131 : decode cb_M_uncovered 131 = .ok (.iinc 2 1, 3) := by decide +kernel
theorem dc_M_uncovered_134 : decode cb_M_uncovered 134 = .ok (.goto (-127), 3) := by decide +kernel
theorem dc_M_uncovered_137 : decode cb_M_uncovered 137 = .ok (.iload_n 1, 1) := by decide +kernel
theorem dc_M_uncovered_138 : decode cb_M_uncovered 138 = .ok (.ireturn, 1) := by decide +kernel
theorem dc_M_byAgenda_0 : decode cb_M_byAgenda 0 = .ok (.aload_n 0, 1) := by decide +kernel
theorem dc_M_byAgenda_1 : decode cb_M_byAgenda 1 = .ok (.getfield 38, 3) := by decide +kernel
theorem dc_M_byAgenda_4 : decode cb_M_byAgenda 4 = .ok (.iconst 0, 1) := by decide +kernel
theorem dc_M_byAgenda_5 : decode cb_M_byAgenda 5 = .ok (.iaload, 1) := by decide +kernel
theorem dc_M_byAgenda_6 : decode cb_M_byAgenda 6 = .ok (.istore_n 1, 1) := by decide +kernel
theorem dc_M_byAgenda_7 : decode cb_M_byAgenda 7 = .ok (.iconst 1, 1) := by decide +kernel
theorem dc_M_byAgenda_8 : decode cb_M_byAgenda 8 = .ok (.istore_n 2, 1) := by decide +kernel
theorem dc_M_byAgenda_9 : decode cb_M_byAgenda 9 = .ok (.iload_n 2, 1) := by decide +kernel
theorem dc_M_byAgenda_10 : decode cb_M_byAgenda 10 = .ok (.aload_n 0, 1) := by decide +kernel
theorem dc_M_byAgenda_11 : decode cb_M_byAgenda 11 = .ok (.getfield 106, 3) := by decide +kernel
theorem dc_M_byAgenda_14 : decode cb_M_byAgenda 14 = .ok (.if_icmp .ge 65, 3) := by decide +kernel
theorem dc_M_byAgenda_17 : decode cb_M_byAgenda 17 = .ok (.aload_n 0, 1) := by decide +kernel
theorem dc_M_byAgenda_18 : decode cb_M_byAgenda 18 = .ok (.getfield 38, 3) := by decide +kernel
theorem dc_M_byAgenda_21 : decode cb_M_byAgenda 21 = .ok (.iload_n 2, 1) := by decide +kernel
theorem dc_M_byAgenda_22 : decode cb_M_byAgenda 22 = .ok (.iaload, 1) := by decide +kernel
theorem dc_M_byAgenda_23 : decode cb_M_byAgenda 23 = .ok (.istore_n 3, 1) := by decide +kernel
theorem dc_M_byAgenda_24 : decode cb_M_byAgenda 24 = .ok (.aload_n 0, 1) := by decide +kernel
theorem dc_M_byAgenda_25 : decode cb_M_byAgenda 25 = .ok (.iload_n 3, 1) := by decide +kernel
theorem dc_M_byAgenda_26 : decode cb_M_byAgenda 26 = .ok (.iload_n 1, 1) := by decide +kernel
theorem dc_M_byAgenda_27 : decode cb_M_byAgenda 27 = .ok (.invokevirtual 126, 3) := by decide +kernel
theorem dc_M_byAgenda_30 : decode cb_M_byAgenda 30 = .ok (.ifCond .ne 25, 3) := by decide +kernel
theorem dc_M_byAgenda_33 : decode cb_M_byAgenda 33 = .ok (.aload_n 0, 1) := by decide +kernel
theorem dc_M_byAgenda_34 : decode cb_M_byAgenda 34 = .ok (.iload_n 1, 1) := by decide +kernel
theorem dc_M_byAgenda_35 : decode cb_M_byAgenda 35 = .ok (.iload_n 3, 1) := by decide +kernel
theorem dc_M_byAgenda_36 : decode cb_M_byAgenda 36 = .ok (.invokevirtual 126, 3) := by decide +kernel
theorem dc_M_byAgenda_39 : decode cb_M_byAgenda 39 = .ok (.ifCond .ne 20, 3) := by decide +kernel
theorem dc_M_byAgenda_42 : decode cb_M_byAgenda 42 = .ok (.aload_n 0, 1) := by decide +kernel
theorem dc_M_byAgenda_43 : decode cb_M_byAgenda 43 = .ok (.iload_n 3, 1) := by decide +kernel
theorem dc_M_byAgenda_44 : decode cb_M_byAgenda 44 = .ok (.invokevirtual 146, 3) := by decide +kernel
theorem dc_M_byAgenda_47 : decode cb_M_byAgenda 47 = .ok (.aload_n 0, 1) := by decide +kernel
theorem dc_M_byAgenda_48 : decode cb_M_byAgenda 48 = .ok (.iload_n 1, 1) := by decide +kernel
theorem dc_M_byAgenda_49 : decode cb_M_byAgenda 49 = .ok (.invokevirtual 146, 3) := by decide +kernel
theorem dc_M_byAgenda_52 : decode cb_M_byAgenda 52 = .ok (.if_icmp .ge 7, 3) := by decide +kernel
theorem dc_M_byAgenda_55 : decode cb_M_byAgenda 55 = .ok (.iconst 1, 1) := by decide +kernel
theorem dc_M_byAgenda_56 : decode cb_M_byAgenda 56 = .ok (.goto 4, 3) := by decide +kernel
theorem dc_M_byAgenda_59 : decode cb_M_byAgenda 59 = .ok (.iconst 0, 1) := by decide +kernel
theorem dc_M_byAgenda_60 : decode cb_M_byAgenda 60 = .ok (.istore 4, 2) := by decide +kernel
theorem dc_M_byAgenda_62 : decode cb_M_byAgenda 62 = .ok (.iload 4, 2) := by decide +kernel
theorem dc_M_byAgenda_64 : decode cb_M_byAgenda 64 = .ok (.ifCond .eq 7, 3) := by decide +kernel
theorem dc_M_byAgenda_67 : decode cb_M_byAgenda 67 = .ok (.iload_n 3, 1) := by decide +kernel
theorem dc_M_byAgenda_68 : decode cb_M_byAgenda 68 = .ok (.goto 4, 3) := by decide +kernel
theorem dc_M_byAgenda_71 : decode cb_M_byAgenda 71 = .ok (.iload_n 1, 1) := by decide +kernel
theorem dc_M_byAgenda_72 : decode cb_M_byAgenda 72 = .ok (.istore_n 1, 1) := by decide +kernel
theorem dc_M_byAgenda_73 : decode cb_M_byAgenda 73 = .ok (.iinc 2 1, 3) := by decide +kernel
theorem dc_M_byAgenda_76 : decode cb_M_byAgenda 76 = .ok (.goto (-67), 3) := by decide +kernel
theorem dc_M_byAgenda_79 : decode cb_M_byAgenda 79 = .ok (.iconst 1, 1) := by decide +kernel
theorem dc_M_byAgenda_80 : decode cb_M_byAgenda 80 = .ok (.iload_n 1, 1) := by decide +kernel
theorem dc_M_byAgenda_81 : decode cb_M_byAgenda 81 = .ok (.ishl, 1) := by decide +kernel
theorem dc_M_byAgenda_82 : decode cb_M_byAgenda 82 = .ok (.ireturn, 1) := by decide +kernel
theorem dc_M_work_0 : decode cb_M_work 0 = .ok (.aload_n 0, 1) := by decide +kernel
theorem dc_M_work_1 : decode cb_M_work 1 = .ok (.invokevirtual 162, 3) := by decide +kernel
theorem dc_M_work_4 : decode cb_M_work 4 = .ok (.iload_n 1, 1) := by decide +kernel
theorem dc_M_work_5 : decode cb_M_work 5 = .ok (.tableswitch 103 0 10 #[59, 66, 59, 73, 78, 66, 59, 83, 88, 93, 98], 59) := by decide +kernel
theorem dc_M_work_64 : decode cb_M_work 64 = .ok (.aload_n 0, 1) := by decide +kernel
theorem dc_M_work_65 : decode cb_M_work 65 = .ok (.iload_n 1, 1) := by decide +kernel
theorem dc_M_work_66 : decode cb_M_work 66 = .ok (.iconst 1, 1) := by decide +kernel
theorem dc_M_work_67 : decode cb_M_work 67 = .ok (.invokevirtual 165, 3) := by decide +kernel
theorem dc_M_work_70 : decode cb_M_work 70 = .ok (.ireturn, 1) := by decide +kernel
theorem dc_M_work_71 : decode cb_M_work 71 = .ok (.aload_n 0, 1) := by decide +kernel
theorem dc_M_work_72 : decode cb_M_work 72 = .ok (.iload_n 1, 1) := by decide +kernel
theorem dc_M_work_73 : decode cb_M_work 73 = .ok (.iconst 0, 1) := by decide +kernel
theorem dc_M_work_74 : decode cb_M_work 74 = .ok (.invokevirtual 165, 3) := by decide +kernel
theorem dc_M_work_77 : decode cb_M_work 77 = .ok (.ireturn, 1) := by decide +kernel
theorem dc_M_work_78 : decode cb_M_work 78 = .ok (.aload_n 0, 1) := by decide +kernel
theorem dc_M_work_79 : decode cb_M_work 79 = .ok (.invokevirtual 169, 3) := by decide +kernel
theorem dc_M_work_82 : decode cb_M_work 82 = .ok (.ireturn, 1) := by decide +kernel
theorem dc_M_work_83 : decode cb_M_work 83 = .ok (.aload_n 0, 1) := by decide +kernel
theorem dc_M_work_84 : decode cb_M_work 84 = .ok (.invokevirtual 172, 3) := by decide +kernel
theorem dc_M_work_87 : decode cb_M_work 87 = .ok (.ireturn, 1) := by decide +kernel
theorem dc_M_work_88 : decode cb_M_work 88 = .ok (.aload_n 0, 1) := by decide +kernel
theorem dc_M_work_89 : decode cb_M_work 89 = .ok (.invokevirtual 175, 3) := by decide +kernel
theorem dc_M_work_92 : decode cb_M_work 92 = .ok (.ireturn, 1) := by decide +kernel
theorem dc_M_work_93 : decode cb_M_work 93 = .ok (.aload_n 0, 1) := by decide +kernel
theorem dc_M_work_94 : decode cb_M_work 94 = .ok (.invokevirtual 178, 3) := by decide +kernel
theorem dc_M_work_97 : decode cb_M_work 97 = .ok (.ireturn, 1) := by decide +kernel
theorem dc_M_work_98 : decode cb_M_work 98 = .ok (.aload_n 0, 1) := by decide +kernel
theorem dc_M_work_99 : decode cb_M_work 99 = .ok (.invokevirtual 181, 3) := by decide +kernel
theorem dc_M_work_102 : decode cb_M_work 102 = .ok (.ireturn, 1) := by decide +kernel
theorem dc_M_work_103 : decode cb_M_work 103 = .ok (.aload_n 0, 1) := by decide +kernel
theorem dc_M_work_104 : decode cb_M_work 104 = .ok (.invokevirtual 184, 3) := by decide +kernel
theorem dc_M_work_107 : decode cb_M_work 107 = .ok (.ireturn, 1) := by decide +kernel
theorem dc_M_work_108 : decode cb_M_work 108 = .ok (.aload_n 0, 1) := by decide +kernel
theorem dc_M_work_109 : decode cb_M_work 109 = .ok (.invokevirtual 187, 3) := by decide +kernel
theorem dc_M_work_112 : decode cb_M_work 112 = .ok (.ireturn, 1) := by decide +kernel
theorem dc_M_firstOf_0 : decode cb_M_firstOf 0 = .ok (.iconst 0, 1) := by decide +kernel
theorem dc_M_firstOf_1 : decode cb_M_firstOf 1 = .ok (.istore_n 2, 1) := by decide +kernel
theorem dc_M_firstOf_2 : decode cb_M_firstOf 2 = .ok (.iload_n 1, 1) := by decide +kernel
theorem dc_M_firstOf_3 : decode cb_M_firstOf 3 = .ok (.aload_n 0, 1) := by decide +kernel
theorem dc_M_firstOf_4 : decode cb_M_firstOf 4 = .ok (.getfield 35, 3) := by decide +kernel
theorem dc_M_firstOf_7 : decode cb_M_firstOf 7 = .ok (.iload_n 2, 1) := by decide +kernel
theorem dc_M_firstOf_8 : decode cb_M_firstOf 8 = .ok (.iaload, 1) := by decide +kernel
theorem dc_M_firstOf_9 : decode cb_M_firstOf 9 = .ok (.ishr, 1) := by decide +kernel
theorem dc_M_firstOf_10 : decode cb_M_firstOf 10 = .ok (.iconst 1, 1) := by decide +kernel
theorem dc_M_firstOf_11 : decode cb_M_firstOf 11 = .ok (.iand, 1) := by decide +kernel
theorem dc_M_firstOf_12 : decode cb_M_firstOf 12 = .ok (.ifCond .ne 9, 3) := by decide +kernel
theorem dc_M_firstOf_15 : decode cb_M_firstOf 15 = .ok (.iinc 2 1, 3) := by decide +kernel
theorem dc_M_firstOf_18 : decode cb_M_firstOf 18 = .ok (.goto (-16), 3) := by decide +kernel
theorem dc_M_firstOf_21 : decode cb_M_firstOf 21 = .ok (.aload_n 0, 1) := by decide +kernel
theorem dc_M_firstOf_22 : decode cb_M_firstOf 22 = .ok (.getfield 35, 3) := by decide +kernel
theorem dc_M_firstOf_25 : decode cb_M_firstOf 25 = .ok (.iload_n 2, 1) := by decide +kernel
theorem dc_M_firstOf_26 : decode cb_M_firstOf 26 = .ok (.iaload, 1) := by decide +kernel
theorem dc_M_firstOf_27 : decode cb_M_firstOf 27 = .ok (.ireturn, 1) := by decide +kernel
theorem dc_M_isRule_0 : decode cb_M_isRule 0 = .ok (.iload_n 0, 1) := by decide +kernel
theorem dc_M_isRule_1 : decode cb_M_isRule 1 = .ok (.iconst 0, 1) := by decide +kernel
theorem dc_M_isRule_2 : decode cb_M_isRule 2 = .ok (.bipush 11, 2) := by decide +kernel
theorem dc_M_isRule_4 : decode cb_M_isRule 4 = .ok (.invokestatic 82, 3) := by decide +kernel
theorem dc_M_isRule_7 : decode cb_M_isRule 7 = .ok (.ireturn, 1) := by decide +kernel
theorem dc_M_isCandidate_0 : decode cb_M_isCandidate 0 = .ok (.iload_n 1, 1) := by decide +kernel
theorem dc_M_isCandidate_1 : decode cb_M_isCandidate 1 = .ok (.iconst 0, 1) := by decide +kernel
theorem dc_M_isCandidate_2 : decode cb_M_isCandidate 2 = .ok (.aload_n 0, 1) := by decide +kernel
theorem dc_M_isCandidate_3 : decode cb_M_isCandidate 3 = .ok (.getfield 7, 3) := by decide +kernel
theorem dc_M_isCandidate_6 : decode cb_M_isCandidate 6 = .ok (.iconst 1, 1) := by decide +kernel
theorem dc_M_isCandidate_7 : decode cb_M_isCandidate 7 = .ok (.isub, 1) := by decide +kernel
theorem dc_M_isCandidate_8 : decode cb_M_isCandidate 8 = .ok (.invokestatic 82, 3) := by decide +kernel
theorem dc_M_isCandidate_11 : decode cb_M_isCandidate 11 = .ok (.ireturn, 1) := by decide +kernel
theorem dc_M_winners_0 : decode cb_M_winners 0 = .ok (.aload_n 0, 1) := by decide +kernel
theorem dc_M_winners_1 : decode cb_M_winners 1 = .ok (.iload_n 1, 1) := by decide +kernel
theorem dc_M_winners_2 : decode cb_M_winners 2 = .ok (.invokestatic 190, 3) := by decide +kernel
theorem dc_M_winners_5 : decode cb_M_winners 5 = .ok (.iconst 1, 1) := by decide +kernel
theorem dc_M_winners_6 : decode cb_M_winners 6 = .ok (.invokevirtual 86, 3) := by decide +kernel
theorem dc_M_winners_9 : decode cb_M_winners 9 = .ok (.ifCond .ne 5, 3) := by decide +kernel
theorem dc_M_winners_12 : decode cb_M_winners 12 = .ok (.iconst 0, 1) := by decide +kernel
theorem dc_M_winners_13 : decode cb_M_winners 13 = .ok (.ireturn, 1) := by decide +kernel
theorem dc_M_winners_14 : decode cb_M_winners 14 = .ok (.aload_n 0, 1) := by decide +kernel
theorem dc_M_winners_15 : decode cb_M_winners 15 = .ok (.invokevirtual 193, 3) := by decide +kernel
theorem dc_M_winners_18 : decode cb_M_winners 18 = .ok (.aload_n 0, 1) := by decide +kernel
theorem dc_M_winners_19 : decode cb_M_winners 19 = .ok (.iload_n 1, 1) := by decide +kernel
theorem dc_M_winners_20 : decode cb_M_winners 20 = .ok (.invokevirtual 196, 3) := by decide +kernel
theorem dc_M_winners_23 : decode cb_M_winners 23 = .ok (.ireturn, 1) := by decide +kernel
theorem dc_M_winner_0 : decode cb_M_winner 0 = .ok (.aload_n 0, 1) := by decide +kernel
theorem dc_M_winner_1 : decode cb_M_winner 1 = .ok (.iload_n 1, 1) := by decide +kernel
theorem dc_M_winner_2 : decode cb_M_winner 2 = .ok (.invokestatic 190, 3) := by decide +kernel
theorem dc_M_winner_5 : decode cb_M_winner 5 = .ok (.iconst 1, 1) := by decide +kernel
theorem dc_M_winner_6 : decode cb_M_winner 6 = .ok (.invokevirtual 86, 3) := by decide +kernel
theorem dc_M_winner_9 : decode cb_M_winner 9 = .ok (.ifCond .ne 5, 3) := by decide +kernel
theorem dc_M_winner_12 : decode cb_M_winner 12 = .ok (.iconst 0, 1) := by decide +kernel
theorem dc_M_winner_13 : decode cb_M_winner 13 = .ok (.ireturn, 1) := by decide +kernel
theorem dc_M_winner_14 : decode cb_M_winner 14 = .ok (.aload_n 0, 1) := by decide +kernel
theorem dc_M_winner_15 : decode cb_M_winner 15 = .ok (.invokevirtual 193, 3) := by decide +kernel
theorem dc_M_winner_18 : decode cb_M_winner 18 = .ok (.aload_n 0, 1) := by decide +kernel
theorem dc_M_winner_19 : decode cb_M_winner 19 = .ok (.aload_n 0, 1) := by decide +kernel
theorem dc_M_winner_20 : decode cb_M_winner 20 = .ok (.iload_n 1, 1) := by decide +kernel
theorem dc_M_winner_21 : decode cb_M_winner 21 = .ok (.invokevirtual 196, 3) := by decide +kernel
theorem dc_M_winner_24 : decode cb_M_winner 24 = .ok (.invokevirtual 199, 3) := by decide +kernel
theorem dc_M_winner_27 : decode cb_M_winner 27 = .ok (.ireturn, 1) := by decide +kernel
theorem dc_M_score_0 : decode cb_M_score 0 = .ok (.aload_n 0, 1) := by decide +kernel
theorem dc_M_score_1 : decode cb_M_score 1 = .ok (.iload_n 1, 1) := by decide +kernel
theorem dc_M_score_2 : decode cb_M_score 2 = .ok (.invokestatic 190, 3) := by decide +kernel
theorem dc_M_score_5 : decode cb_M_score 5 = .ok (.ifCond .eq 15, 3) := by decide +kernel
theorem dc_M_score_8 : decode cb_M_score 8 = .ok (.aload_n 0, 1) := by decide +kernel
theorem dc_M_score_9 : decode cb_M_score 9 = .ok (.iload_n 2, 1) := by decide +kernel
theorem dc_M_score_10 : decode cb_M_score 10 = .ok (.invokevirtual 202, 3) := by decide +kernel
theorem dc_M_score_13 : decode cb_M_score 13 = .ok (.ifCond .eq 7, 3) := by decide +kernel
theorem dc_M_score_16 : decode cb_M_score 16 = .ok (.iconst 1, 1) := by decide +kernel
theorem dc_M_score_17 : decode cb_M_score 17 = .ok (.goto 4, 3) := by decide +kernel
theorem dc_M_score_20 : decode cb_M_score 20 = .ok (.iconst 0, 1) := by decide +kernel
theorem dc_M_score_21 : decode cb_M_score 21 = .ok (.iload_n 1, 1) := by decide +kernel
theorem dc_M_score_22 : decode cb_M_score 22 = .ok (.iconst 0, 1) := by decide +kernel
theorem dc_M_score_23 : decode cb_M_score 23 = .ok (.iconst 2, 1) := by decide +kernel
theorem dc_M_score_24 : decode cb_M_score 24 = .ok (.invokestatic 82, 3) := by decide +kernel
theorem dc_M_score_27 : decode cb_M_score 27 = .ok (.ifCond .ne 13, 3) := by decide +kernel
theorem dc_M_score_30 : decode cb_M_score 30 = .ok (.iload_n 1, 1) := by decide +kernel
theorem dc_M_score_31 : decode cb_M_score 31 = .ok (.iconst 5, 1) := by decide +kernel
theorem dc_M_score_32 : decode cb_M_score 32 = .ok (.bipush 6, 2) := by decide +kernel
theorem dc_M_score_34 : decode cb_M_score 34 = .ok (.invokestatic 82, 3) := by decide +kernel
theorem dc_M_score_37 : decode cb_M_score 37 = .ok (.ifCond .eq 7, 3) := by decide +kernel
theorem dc_M_score_40 : decode cb_M_score 40 = .ok (.iconst 1, 1) := by decide +kernel
theorem dc_M_score_41 : decode cb_M_score 41 = .ok (.goto 4, 3) := by decide +kernel
theorem dc_M_score_44 : decode cb_M_score 44 = .ok (.iconst 0, 1) := by decide +kernel
theorem dc_M_score_45 : decode cb_M_score 45 = .ok (.invokevirtual 86, 3) := by decide +kernel
theorem dc_M_score_48 : decode cb_M_score 48 = .ok (.ifCond .ne 5, 3) := by decide +kernel
theorem dc_M_score_51 : decode cb_M_score 51 = .ok (.lconst 0, 1) := by decide +kernel
theorem dc_M_score_52 : decode cb_M_score 52 = .ok (.lreturn, 1) := by decide +kernel
theorem dc_M_score_53 : decode cb_M_score 53 = .ok (.aload_n 0, 1) := by decide +kernel
theorem dc_M_score_54 : decode cb_M_score 54 = .ok (.invokevirtual 193, 3) := by decide +kernel
theorem dc_M_score_57 : decode cb_M_score 57 = .ok (.aload_n 0, 1) := by decide +kernel
theorem dc_M_score_58 : decode cb_M_score 58 = .ok (.invokevirtual 162, 3) := by decide +kernel
theorem dc_M_score_61 : decode cb_M_score 61 = .ok (.aload_n 0, 1) := by decide +kernel
theorem dc_M_score_62 : decode cb_M_score 62 = .ok (.iload_n 1, 1) := by decide +kernel
theorem dc_M_score_63 : decode cb_M_score 63 = .ok (.iload_n 2, 1) := by decide +kernel
theorem dc_M_score_64 : decode cb_M_score 64 = .ok (.invokevirtual 132, 3) := by decide +kernel
theorem dc_M_score_67 : decode cb_M_score 67 = .ok (.lreturn, 1) := by decide +kernel
theorem dc_M_pair_0 : decode cb_M_pair 0 = .ok (.aload_n 0, 1) := by decide +kernel
theorem dc_M_pair_1 : decode cb_M_pair 1 = .ok (.aload_n 0, 1) := by decide +kernel
theorem dc_M_pair_2 : decode cb_M_pair 2 = .ok (.iload_n 1, 1) := by decide +kernel
theorem dc_M_pair_3 : decode cb_M_pair 3 = .ok (.invokevirtual 202, 3) := by decide +kernel
theorem dc_M_pair_6 : decode cb_M_pair 6 = .ok (.ifCond .eq 15, 3) := by decide +kernel
theorem dc_M_pair_9 : decode cb_M_pair 9 = .ok (.aload_n 0, 1) := by decide +kernel
theorem dc_M_pair_10 : decode cb_M_pair 10 = .ok (.iload_n 2, 1) := by decide +kernel
theorem dc_M_pair_11 : decode cb_M_pair 11 = .ok (.invokevirtual 202, 3) := by decide +kernel
theorem dc_M_pair_14 : decode cb_M_pair 14 = .ok (.ifCond .eq 7, 3) := by decide +kernel
theorem dc_M_pair_17 : decode cb_M_pair 17 = .ok (.iconst 1, 1) := by decide +kernel
theorem dc_M_pair_18 : decode cb_M_pair 18 = .ok (.goto 4, 3) := by decide +kernel
theorem dc_M_pair_21 : decode cb_M_pair 21 = .ok (.iconst 0, 1) := by decide +kernel
theorem dc_M_pair_22 : decode cb_M_pair 22 = .ok (.iconst 1, 1) := by decide +kernel
theorem dc_M_pair_23 : decode cb_M_pair 23 = .ok (.invokevirtual 86, 3) := by decide +kernel
theorem dc_M_pair_26 : decode cb_M_pair 26 = .ok (.ifCond .ne 5, 3) := by decide +kernel
theorem dc_M_pair_29 : decode cb_M_pair 29 = .ok (.iconst 0, 1) := by decide +kernel
theorem dc_M_pair_30 : decode cb_M_pair 30 = .ok (.ireturn, 1) := by decide +kernel
theorem dc_M_pair_31 : decode cb_M_pair 31 = .ok (.aload_n 0, 1) := by decide +kernel
theorem dc_M_pair_32 : decode cb_M_pair 32 = .ok (.invokevirtual 193, 3) := by decide +kernel
theorem dc_M_pair_35 : decode cb_M_pair 35 = .ok (.aload_n 0, 1) := by decide +kernel
theorem dc_M_pair_36 : decode cb_M_pair 36 = .ok (.invokevirtual 162, 3) := by decide +kernel
theorem dc_M_pair_39 : decode cb_M_pair 39 = .ok (.aload_n 0, 1) := by decide +kernel
theorem dc_M_pair_40 : decode cb_M_pair 40 = .ok (.getfield 44, 3) := by decide +kernel
theorem dc_M_pair_43 : decode cb_M_pair 43 = .ok (.bipush 7, 2) := by decide +kernel
theorem dc_M_pair_45 : decode cb_M_pair 45 = .ok (.iload_n 1, 1) := by decide +kernel
theorem dc_M_pair_46 : decode cb_M_pair 46 = .ok (.imul, 1) := by decide +kernel
theorem dc_M_pair_47 : decode cb_M_pair 47 = .ok (.iload_n 2, 1) := by decide +kernel
theorem dc_M_pair_48 : decode cb_M_pair 48 = .ok (.iadd, 1) := by decide +kernel
theorem dc_M_pair_49 : decode cb_M_pair 49 = .ok (.iaload, 1) := by decide +kernel
theorem dc_M_pair_50 : decode cb_M_pair 50 = .ok (.ireturn, 1) := by decide +kernel
theorem dc_M_path_0 : decode cb_M_path 0 = .ok (.aload_n 0, 1) := by decide +kernel
theorem dc_M_path_1 : decode cb_M_path 1 = .ok (.aload_n 0, 1) := by decide +kernel
theorem dc_M_path_2 : decode cb_M_path 2 = .ok (.iload_n 1, 1) := by decide +kernel
theorem dc_M_path_3 : decode cb_M_path 3 = .ok (.invokevirtual 202, 3) := by decide +kernel
theorem dc_M_path_6 : decode cb_M_path 6 = .ok (.ifCond .eq 15, 3) := by decide +kernel
theorem dc_M_path_9 : decode cb_M_path 9 = .ok (.aload_n 0, 1) := by decide +kernel
theorem dc_M_path_10 : decode cb_M_path 10 = .ok (.iload_n 2, 1) := by decide +kernel
theorem dc_M_path_11 : decode cb_M_path 11 = .ok (.invokevirtual 202, 3) := by decide +kernel
theorem dc_M_path_14 : decode cb_M_path 14 = .ok (.ifCond .eq 7, 3) := by decide +kernel
theorem dc_M_path_17 : decode cb_M_path 17 = .ok (.iconst 1, 1) := by decide +kernel
theorem dc_M_path_18 : decode cb_M_path 18 = .ok (.goto 4, 3) := by decide +kernel
end
section
theorem dc_M_path_21 : decode cb_M_path 21 = .ok (.iconst 0, 1) := by decide +kernel
theorem dc_M_path_22 : decode cb_M_path 22 = .ok (.iconst 1, 1) := by decide +kernel
theorem dc_M_path_23 : decode cb_M_path 23 = .ok (.invokevirtual 86, 3) := by decide +kernel
theorem dc_M_path_26 : decode cb_M_path 26 = .ok (.ifCond .ne 5, 3) := by decide +kernel
theorem dc_M_path_29 : decode cb_M_path 29 = .ok (.iconst 0, 1) := by decide +kernel
theorem dc_M_path_30 : decode cb_M_path 30 = .ok (.ireturn, 1) := by decide +kernel
theorem dc_M_path_31 : decode cb_M_path 31 = .ok (.aload_n 0, 1) := by decide +kernel
theorem dc_M_path_32 : decode cb_M_path 32 = .ok (.invokevirtual 193, 3) := by decide +kernel
theorem dc_M_path_35 : decode cb_M_path 35 = .ok (.aload_n 0, 1) := by decide +kernel
theorem dc_M_path_36 : decode cb_M_path 36 = .ok (.invokevirtual 162, 3) := by decide +kernel
theorem dc_M_path_39 : decode cb_M_path 39 = .ok (.aload_n 0, 1) := by decide +kernel
theorem dc_M_path_40 : decode cb_M_path 40 = .ok (.invokevirtual 143, 3) := by decide +kernel
theorem dc_M_path_43 : decode cb_M_path 43 = .ok (.iload_n 1, 1) := by decide +kernel
theorem dc_M_path_44 : decode cb_M_path 44 = .ok (.iload_n 2, 1) := by decide +kernel
theorem dc_M_path_45 : decode cb_M_path 45 = .ok (.if_icmp .ne 7, 3) := by decide +kernel
theorem dc_M_path_48 : decode cb_M_path 48 = .ok (.iconst 0, 1) := by decide +kernel
theorem dc_M_path_49 : decode cb_M_path 49 = .ok (.goto 14, 3) := by decide +kernel
theorem dc_M_path_52 : decode cb_M_path 52 = .ok (.aload_n 0, 1) := by decide +kernel
theorem dc_M_path_53 : decode cb_M_path 53 = .ok (.getfield 47, 3) := by decide +kernel
theorem dc_M_path_56 : decode cb_M_path 56 = .ok (.bipush 7, 2) := by decide +kernel
theorem dc_M_path_58 : decode cb_M_path 58 = .ok (.iload_n 1, 1) := by decide +kernel
theorem dc_M_path_59 : decode cb_M_path 59 = .ok (.imul, 1) := by decide +kernel
theorem dc_M_path_60 : decode cb_M_path 60 = .ok (.iload_n 2, 1) := by decide +kernel
theorem dc_M_path_61 : decode cb_M_path 61 = .ok (.iadd, 1) := by decide +kernel
theorem dc_M_path_62 : decode cb_M_path 62 = .ok (.iaload, 1) := by decide +kernel
theorem dc_M_path_63 : decode cb_M_path 63 = .ok (.ireturn, 1) := by decide +kernel
theorem dc_M_branches_0 : decode cb_M_branches 0 = .ok (.aload_n 0, 1) := by decide +kernel
theorem dc_M_branches_1 : decode cb_M_branches 1 = .ok (.iconst 0, 1) := by decide +kernel
theorem dc_M_branches_2 : decode cb_M_branches 2 = .ok (.putfield 79, 3) := by decide +kernel
theorem dc_M_branches_5 : decode cb_M_branches 5 = .ok (.aload_n 0, 1) := by decide +kernel
theorem dc_M_branches_6 : decode cb_M_branches 6 = .ok (.invokevirtual 193, 3) := by decide +kernel
theorem dc_M_branches_9 : decode cb_M_branches 9 = .ok (.aload_n 0, 1) := by decide +kernel
theorem dc_M_branches_10 : decode cb_M_branches 10 = .ok (.iconst 4, 1) := by decide +kernel
theorem dc_M_branches_11 : decode cb_M_branches 11 = .ok (.invokevirtual 196, 3) := by decide +kernel
theorem dc_M_branches_14 : decode cb_M_branches 14 = .ok (.istore_n 1, 1) := by decide +kernel
theorem dc_M_branches_15 : decode cb_M_branches 15 = .ok (.iconst 0, 1) := by decide +kernel
theorem dc_M_branches_16 : decode cb_M_branches 16 = .ok (.istore_n 2, 1) := by decide +kernel
theorem dc_M_branches_17 : decode cb_M_branches 17 = .ok (.iconst 1, 1) := by decide +kernel
theorem dc_M_branches_18 : decode cb_M_branches 18 = .ok (.istore_n 3, 1) := by decide +kernel
theorem dc_M_branches_19 : decode cb_M_branches 19 = .ok (.iload_n 3, 1) := by decide +kernel
theorem dc_M_branches_20 : decode cb_M_branches 20 = .ok (.aload_n 0, 1) := by decide +kernel
theorem dc_M_branches_21 : decode cb_M_branches 21 = .ok (.invokevirtual 115, 3) := by decide +kernel
theorem dc_M_branches_24 : decode cb_M_branches 24 = .ok (.if_icmp .gt 26, 3) := by decide +kernel
theorem dc_M_branches_27 : decode cb_M_branches 27 = .ok (.aload_n 0, 1) := by decide +kernel
theorem dc_M_branches_28 : decode cb_M_branches 28 = .ok (.getfield 54, 3) := by decide +kernel
theorem dc_M_branches_31 : decode cb_M_branches 31 = .ok (.iload_n 3, 1) := by decide +kernel
theorem dc_M_branches_32 : decode cb_M_branches 32 = .ok (.baload, 1) := by decide +kernel
theorem dc_M_branches_33 : decode cb_M_branches 33 = .ok (.ifCond .eq 9, 3) := by decide +kernel
theorem dc_M_branches_36 : decode cb_M_branches 36 = .ok (.iload_n 2, 1) := by decide +kernel
theorem dc_M_branches_37 : decode cb_M_branches 37 = .ok (.iconst 1, 1) := by decide +kernel
theorem dc_M_branches_38 : decode cb_M_branches 38 = .ok (.iadd, 1) := by decide +kernel
theorem dc_M_branches_39 : decode cb_M_branches 39 = .ok (.goto 4, 3) := by decide +kernel
theorem dc_M_branches_42 : decode cb_M_branches 42 = .ok (.iload_n 2, 1) := by decide +kernel
theorem dc_M_branches_43 : decode cb_M_branches 43 = .ok (.istore_n 2, 1) := by decide +kernel
theorem dc_M_branches_44 : decode cb_M_branches 44 = .ok (.iinc 3 1, 3) := by decide +kernel
theorem dc_M_branches_47 : decode cb_M_branches 47 = .ok (.goto (-28), 3) := by decide +kernel
theorem dc_M_branches_50 : decode cb_M_branches 50 = .ok (.iload_n 2, 1) := by decide +kernel
theorem dc_M_branches_51 : decode cb_M_branches 51 = .ok (.ireturn, 1) := by decide +kernel
theorem dc_M_step_0 : decode cb_M_step 0 = .ok (.aload_n 0, 1) := by decide +kernel
theorem dc_M_step_1 : decode cb_M_step 1 = .ok (.iload_n 1, 1) := by decide +kernel
theorem dc_M_step_2 : decode cb_M_step 2 = .ok (.iconst 0, 1) := by decide +kernel
theorem dc_M_step_3 : decode cb_M_step 3 = .ok (.aload_n 0, 1) := by decide +kernel
theorem dc_M_step_4 : decode cb_M_step 4 = .ok (.getfield 7, 3) := by decide +kernel
theorem dc_M_step_7 : decode cb_M_step 7 = .ok (.iconst 1, 1) := by decide +kernel
theorem dc_M_step_8 : decode cb_M_step 8 = .ok (.isub, 1) := by decide +kernel
theorem dc_M_step_9 : decode cb_M_step 9 = .ok (.invokestatic 82, 3) := by decide +kernel
theorem dc_M_step_12 : decode cb_M_step 12 = .ok (.iconst 1, 1) := by decide +kernel
theorem dc_M_step_13 : decode cb_M_step 13 = .ok (.invokevirtual 86, 3) := by decide +kernel
theorem dc_M_step_16 : decode cb_M_step 16 = .ok (.ifCond .ne 5, 3) := by decide +kernel
theorem dc_M_step_19 : decode cb_M_step 19 = .ok (.iconst 0, 1) := by decide +kernel
theorem dc_M_step_20 : decode cb_M_step 20 = .ok (.ireturn, 1) := by decide +kernel
theorem dc_M_step_21 : decode cb_M_step 21 = .ok (.aload_n 0, 1) := by decide +kernel
theorem dc_M_step_22 : decode cb_M_step 22 = .ok (.invokevirtual 193, 3) := by decide +kernel
theorem dc_M_step_25 : decode cb_M_step 25 = .ok (.aload_n 0, 1) := by decide +kernel
theorem dc_M_step_26 : decode cb_M_step 26 = .ok (.invokevirtual 115, 3) := by decide +kernel
theorem dc_M_step_29 : decode cb_M_step 29 = .ok (.istore_n 2, 1) := by decide +kernel
theorem dc_M_step_30 : decode cb_M_step 30 = .ok (.iconst (-1), 1) := by decide +kernel
theorem dc_M_step_31 : decode cb_M_step 31 = .ok (.istore_n 3, 1) := by decide +kernel
theorem dc_M_step_32 : decode cb_M_step 32 = .ok (.iconst 0, 1) := by decide +kernel
theorem dc_M_step_33 : decode cb_M_step 33 = .ok (.istore 4, 2) := by decide +kernel
theorem dc_M_step_35 : decode cb_M_step 35 = .ok (.iload 4, 2) := by decide +kernel
theorem dc_M_step_37 : decode cb_M_step 37 = .ok (.iload_n 1, 1) := by decide +kernel
theorem dc_M_step_38 : decode cb_M_step 38 = .ok (.if_icmp .gt 70, 3) := by decide +kernel
theorem dc_M_step_41 : decode cb_M_step 41 = .ok (.aload_n 0, 1) := by decide +kernel
theorem dc_M_step_42 : decode cb_M_step 42 = .ok (.iload_n 2, 1) := by decide +kernel
theorem dc_M_step_43 : decode cb_M_step 43 = .ok (.invokevirtual 139, 3) := by decide +kernel
theorem dc_M_step_46 : decode cb_M_step 46 = .ok (.istore 5, 2) := by decide +kernel
theorem dc_M_step_48 : decode cb_M_step 48 = .ok (.iconst 0, 1) := by decide +kernel
theorem dc_M_step_49 : decode cb_M_step 49 = .ok (.istore 6, 2) := by decide +kernel
theorem dc_M_step_51 : decode cb_M_step 51 = .ok (.iload 6, 2) := by decide +kernel
theorem dc_M_step_53 : decode cb_M_step 53 = .ok (.aload_n 0, 1) := by decide +kernel
theorem dc_M_step_54 : decode cb_M_step 54 = .ok (.getfield 106, 3) := by decide +kernel
theorem dc_M_step_57 : decode cb_M_step 57 = .ok (.if_icmp .ge 37, 3) := by decide +kernel
theorem dc_M_step_60 : decode cb_M_step 60 = .ok (.iload 5, 2) := by decide +kernel
theorem dc_M_step_62 : decode cb_M_step 62 = .ok (.aload_n 0, 1) := by decide +kernel
theorem dc_M_step_63 : decode cb_M_step 63 = .ok (.getfield 35, 3) := by decide +kernel
theorem dc_M_step_66 : decode cb_M_step 66 = .ok (.iload 6, 2) := by decide +kernel
theorem dc_M_step_68 : decode cb_M_step 68 = .ok (.iaload, 1) := by decide +kernel
theorem dc_M_step_69 : decode cb_M_step 69 = .ok (.ishr, 1) := by decide +kernel
theorem dc_M_step_70 : decode cb_M_step 70 = .ok (.iconst 1, 1) := by decide +kernel
theorem dc_M_step_71 : decode cb_M_step 71 = .ok (.iand, 1) := by decide +kernel
theorem dc_M_step_72 : decode cb_M_step 72 = .ok (.iconst 1, 1) := by decide +kernel
theorem dc_M_step_73 : decode cb_M_step 73 = .ok (.if_icmp .ne 13, 3) := by decide +kernel
theorem dc_M_step_76 : decode cb_M_step 76 = .ok (.aload_n 0, 1) := by decide +kernel
theorem dc_M_step_77 : decode cb_M_step 77 = .ok (.getfield 35, 3) := by decide +kernel
theorem dc_M_step_80 : decode cb_M_step 80 = .ok (.iload 6, 2) := by decide +kernel
theorem dc_M_step_82 : decode cb_M_step 82 = .ok (.iaload, 1) := by decide +kernel
theorem dc_M_step_83 : decode cb_M_step 83 = .ok (.goto 4, 3) := by decide +kernel
theorem dc_M_step_86 : decode cb_M_step 86 = .ok (.iload_n 3, 1) := by decide +kernel
theorem dc_M_step_87 : decode cb_M_step 87 = .ok (.istore_n 3, 1) := by decide +kernel
theorem dc_M_step_88 : decode cb_M_step 88 = .ok (.iinc 6 1, 3) := by decide +kernel
theorem dc_M_step_91 : decode cb_M_step 91 = .ok (.goto (-40), 3) := by decide +kernel
theorem dc_M_step_94 : decode cb_M_step 94 = .ok (.iload_n 2, 1) := by decide +kernel
theorem dc_M_step_95 : decode cb_M_step 95 = .ok (.iconst 1, 1) := by decide +kernel
theorem dc_M_step_96 : decode cb_M_step 96 = .ok (.iload_n 3, 1) := by decide +kernel
theorem dc_M_step_97 : decode cb_M_step 97 = .ok (.ishl, 1) := by decide +kernel
theorem dc_M_step_98 : decode cb_M_step 98 = .ok (.iconst (-1), 1) := by decide +kernel
theorem dc_M_step_99 : decode cb_M_step 99 = .ok (.ixor, 1) := by decide +kernel
theorem dc_M_step_100 : decode cb_M_step 100 = .ok (.iand, 1) := by decide +kernel
theorem dc_M_step_101 : decode cb_M_step 101 = .ok (.istore_n 2, 1) := by decide +kernel
theorem dc_M_step_102 : decode cb_M_step 102 = .ok (.iinc 4 1, 3) := by decide +kernel
theorem dc_M_step_105 : decode cb_M_step 105 = .ok (.goto (-70), 3) := by decide +kernel
theorem dc_M_step_108 : decode cb_M_step 108 = .ok (.iload_n 3, 1) := by decide +kernel
theorem dc_M_step_109 : decode cb_M_step 109 = .ok (.ireturn, 1) := by decide +kernel
theorem dc_M_firstOrder_0 : decode cb_M_firstOrder 0 = .ok (.iconst 0, 1) := by decide +kernel
theorem dc_M_firstOrder_1 : decode cb_M_firstOrder 1 = .ok (.istore_n 1, 1) := by decide +kernel
theorem dc_M_firstOrder_2 : decode cb_M_firstOrder 2 = .ok (.iload_n 1, 1) := by decide +kernel
theorem dc_M_firstOrder_3 : decode cb_M_firstOrder 3 = .ok (.bipush 7, 2) := by decide +kernel
theorem dc_M_firstOrder_5 : decode cb_M_firstOrder 5 = .ok (.if_icmp .ge 16, 3) := by decide +kernel
theorem dc_M_firstOrder_8 : decode cb_M_firstOrder 8 = .ok (.aload_n 0, 1) := by decide +kernel
theorem dc_M_firstOrder_9 : decode cb_M_firstOrder 9 = .ok (.getfield 61, 3) := by decide +kernel
theorem dc_M_firstOrder_12 : decode cb_M_firstOrder 12 = .ok (.iload_n 1, 1) := by decide +kernel
theorem dc_M_firstOrder_13 : decode cb_M_firstOrder 13 = .ok (.iload_n 1, 1) := by decide +kernel
theorem dc_M_firstOrder_14 : decode cb_M_firstOrder 14 = .ok (.iastore, 1) := by decide +kernel
theorem dc_M_firstOrder_15 : decode cb_M_firstOrder 15 = .ok (.iinc 1 1, 3) := by decide +kernel
theorem dc_M_firstOrder_18 : decode cb_M_firstOrder 18 = .ok (.goto (-16), 3) := by decide +kernel
theorem dc_M_firstOrder_21 : decode cb_M_firstOrder 21 = .ok (.return_, 1) := by decide +kernel
theorem dc_M_nextOrder_0 : decode cb_M_nextOrder 0 = .ok (.aload_n 0, 1) := by decide +kernel
theorem dc_M_nextOrder_1 : decode cb_M_nextOrder 1 = .ok (.getfield 7, 3) := by decide +kernel
theorem dc_M_nextOrder_4 : decode cb_M_nextOrder 4 = .ok (.iconst 2, 1) := by decide +kernel
theorem dc_M_nextOrder_5 : decode cb_M_nextOrder 5 = .ok (.isub, 1) := by decide +kernel
theorem dc_M_nextOrder_6 : decode cb_M_nextOrder 6 = .ok (.istore_n 1, 1) := by decide +kernel
theorem dc_M_nextOrder_7 : decode cb_M_nextOrder 7 = .ok (.iload_n 1, 1) := by decide +kernel
theorem dc_M_nextOrder_8 : decode cb_M_nextOrder 8 = .ok (.ifCond .lt 26, 3) := by decide +kernel
theorem dc_M_nextOrder_11 : decode cb_M_nextOrder 11 = .ok (.aload_n 0, 1) := by decide +kernel
theorem dc_M_nextOrder_12 : decode cb_M_nextOrder 12 = .ok (.getfield 61, 3) := by decide +kernel
theorem dc_M_nextOrder_15 : decode cb_M_nextOrder 15 = .ok (.iload_n 1, 1) := by decide +kernel
theorem dc_M_nextOrder_16 : decode cb_M_nextOrder 16 = .ok (.iaload, 1) := by decide +kernel
theorem dc_M_nextOrder_17 : decode cb_M_nextOrder 17 = .ok (.aload_n 0, 1) := by decide +kernel
theorem dc_M_nextOrder_18 : decode cb_M_nextOrder 18 = .ok (.getfield 61, 3) := by decide +kernel
theorem dc_M_nextOrder_21 : decode cb_M_nextOrder 21 = .ok (.iload_n 1, 1) := by decide +kernel
theorem dc_M_nextOrder_22 : decode cb_M_nextOrder 22 = .ok (.iconst 1, 1) := by decide +kernel
theorem dc_M_nextOrder_23 : decode cb_M_nextOrder 23 = .ok (.iadd, 1) := by decide +kernel
theorem dc_M_nextOrder_24 : decode cb_M_nextOrder 24 = .ok (.iaload, 1) := by decide +kernel
theorem dc_M_nextOrder_25 : decode cb_M_nextOrder 25 = .ok (.if_icmp .le 9, 3) := by decide +kernel
theorem dc_M_nextOrder_28 : decode cb_M_nextOrder 28 = .ok (.iinc 1 (-1), 3) := by decide +kernel
theorem dc_M_nextOrder_31 : decode cb_M_nextOrder 31 = .ok (.goto (-24), 3) := by decide +kernel
theorem dc_M_nextOrder_34 : decode cb_M_nextOrder 34 = .ok (.iload_n 1, 1) := by decide +kernel
theorem dc_M_nextOrder_35 : decode cb_M_nextOrder 35 = .ok (.ifCond .ge 5, 3) := by decide +kernel
theorem dc_M_nextOrder_38 : decode cb_M_nextOrder 38 = .ok (.iconst 0, 1) := by decide +kernel
theorem dc_M_nextOrder_39 : decode cb_M_nextOrder 39 = .ok (.ireturn, 1) := by decide +kernel
theorem dc_M_nextOrder_40 : decode cb_M_nextOrder 40 = .ok (.aload_n 0, 1) := by decide +kernel
theorem dc_M_nextOrder_41 : decode cb_M_nextOrder 41 = .ok (.getfield 7, 3) := by decide +kernel
theorem dc_M_nextOrder_44 : decode cb_M_nextOrder 44 = .ok (.iconst 1, 1) := by decide +kernel
theorem dc_M_nextOrder_45 : decode cb_M_nextOrder 45 = .ok (.isub, 1) := by decide +kernel
theorem dc_M_nextOrder_46 : decode cb_M_nextOrder 46 = .ok (.istore_n 2, 1) := by decide +kernel
theorem dc_M_nextOrder_47 : decode cb_M_nextOrder 47 = .ok (.aload_n 0, 1) := by decide +kernel
theorem dc_M_nextOrder_48 : decode cb_M_nextOrder 48 = .ok (.getfield 61, 3) := by decide +kernel
theorem dc_M_nextOrder_51 : decode cb_M_nextOrder 51 = .ok (.iload_n 2, 1) := by decide +kernel
theorem dc_M_nextOrder_52 : decode cb_M_nextOrder 52 = .ok (.iaload, 1) := by decide +kernel
theorem dc_M_nextOrder_53 : decode cb_M_nextOrder 53 = .ok (.aload_n 0, 1) := by decide +kernel
theorem dc_M_nextOrder_54 : decode cb_M_nextOrder 54 = .ok (.getfield 61, 3) := by decide +kernel
theorem dc_M_nextOrder_57 : decode cb_M_nextOrder 57 = .ok (.iload_n 1, 1) := by decide +kernel
theorem dc_M_nextOrder_58 : decode cb_M_nextOrder 58 = .ok (.iaload, 1) := by decide +kernel
theorem dc_M_nextOrder_59 : decode cb_M_nextOrder 59 = .ok (.if_icmp .ge 9, 3) := by decide +kernel
theorem dc_M_nextOrder_62 : decode cb_M_nextOrder 62 = .ok (.iinc 2 (-1), 3) := by decide +kernel
theorem dc_M_nextOrder_65 : decode cb_M_nextOrder 65 = .ok (.goto (-18), 3) := by decide +kernel
theorem dc_M_nextOrder_68 : decode cb_M_nextOrder 68 = .ok (.aload_n 0, 1) := by decide +kernel
theorem dc_M_nextOrder_69 : decode cb_M_nextOrder 69 = .ok (.getfield 61, 3) := by decide +kernel
theorem dc_M_nextOrder_72 : decode cb_M_nextOrder 72 = .ok (.iload_n 1, 1) := by decide +kernel
theorem dc_M_nextOrder_73 : decode cb_M_nextOrder 73 = .ok (.iaload, 1) := by decide +kernel
theorem dc_M_nextOrder_74 : decode cb_M_nextOrder 74 = .ok (.istore_n 3, 1) := by decide +kernel
theorem dc_M_nextOrder_75 : decode cb_M_nextOrder 75 = .ok (.aload_n 0, 1) := by decide +kernel
theorem dc_M_nextOrder_76 : decode cb_M_nextOrder 76 = .ok (.getfield 61, 3) := by decide +kernel
theorem dc_M_nextOrder_79 : decode cb_M_nextOrder 79 = .ok (.iload_n 1, 1) := by decide +kernel
theorem dc_M_nextOrder_80 : decode cb_M_nextOrder 80 = .ok (.aload_n 0, 1) := by decide +kernel
theorem dc_M_nextOrder_81 : decode cb_M_nextOrder 81 = .ok (.getfield 61, 3) := by decide +kernel
theorem dc_M_nextOrder_84 : decode cb_M_nextOrder 84 = .ok (.iload_n 2, 1) := by decide +kernel
theorem dc_M_nextOrder_85 : decode cb_M_nextOrder 85 = .ok (.iaload, 1) := by decide +kernel
theorem dc_M_nextOrder_86 : decode cb_M_nextOrder 86 = .ok (.iastore, 1) := by decide +kernel
theorem dc_M_nextOrder_87 : decode cb_M_nextOrder 87 = .ok (.aload_n 0, 1) := by decide +kernel
theorem dc_M_nextOrder_88 : decode cb_M_nextOrder 88 = .ok (.getfield 61, 3) := by decide +kernel
theorem dc_M_nextOrder_91 : decode cb_M_nextOrder 91 = .ok (.iload_n 2, 1) := by decide +kernel
theorem dc_M_nextOrder_92 : decode cb_M_nextOrder 92 = .ok (.iload_n 3, 1) := by decide +kernel
theorem dc_M_nextOrder_93 : decode cb_M_nextOrder 93 = .ok (.iastore, 1) := by decide +kernel
theorem dc_M_nextOrder_94 : decode cb_M_nextOrder 94 = .ok (.iload_n 1, 1) := by decide +kernel
theorem dc_M_nextOrder_95 : decode cb_M_nextOrder 95 = .ok (.iconst 1, 1) := by decide +kernel
theorem dc_M_nextOrder_96 : decode cb_M_nextOrder 96 = .ok (.iadd, 1) := by decide +kernel
theorem dc_M_nextOrder_97 : decode cb_M_nextOrder 97 = .ok (.istore 4, 2) := by decide +kernel
theorem dc_M_nextOrder_99 : decode cb_M_nextOrder 99 = .ok (.aload_n 0, 1) := by decide +kernel
theorem dc_M_nextOrder_100 : decode cb_M_nextOrder 100 = .ok (.getfield 7, 3) := by decide +kernel
theorem dc_M_nextOrder_103 : decode cb_M_nextOrder 103 = .ok (.iconst 1, 1) := by decide +kernel
theorem dc_M_nextOrder_104 : decode cb_M_nextOrder 104 = .ok (.isub, 1) := by decide +kernel
theorem dc_M_nextOrder_105 : decode cb_M_nextOrder 105 = .ok (.istore 5, 2) := by decide +kernel
theorem dc_M_nextOrder_107 : decode cb_M_nextOrder 107 = .ok (.iload 4, 2) := by decide +kernel
theorem dc_M_nextOrder_109 : decode cb_M_nextOrder 109 = .ok (.iload 5, 2) := by decide +kernel
theorem dc_M_nextOrder_111 : decode cb_M_nextOrder 111 = .ok (.if_icmp .ge 42, 3) := by decide +kernel
theorem dc_M_nextOrder_114 : decode cb_M_nextOrder 114 = .ok (.aload_n 0, 1) := by decide +kernel
theorem dc_M_nextOrder_115 : decode cb_M_nextOrder 115 = .ok (.getfield 61, 3) := by decide +kernel
theorem dc_M_nextOrder_118 : decode cb_M_nextOrder 118 = .ok (.iload 4, 2) := by decide +kernel
theorem dc_M_nextOrder_120 : decode cb_M_nextOrder 120 = .ok (.iaload, 1) := by decide +kernel
theorem dc_M_nextOrder_121 : decode cb_M_nextOrder 121 = .ok (.istore_n 3, 1) := by decide +kernel
theorem dc_M_nextOrder_122 : decode cb_M_nextOrder 122 = .ok (.aload_n 0, 1) := by decide +kernel
theorem dc_M_nextOrder_123 : decode cb_M_nextOrder 123 = .ok (.getfield 61, 3) := by decide +kernel
theorem dc_M_nextOrder_126 : decode cb_M_nextOrder 126 = .ok (.iload 4, 2) := by decide +kernel
theorem dc_M_nextOrder_128 : decode cb_M_nextOrder 128 = .ok (.aload_n 0, 1) := by decide +kernel
theorem dc_M_nextOrder_129 : decode cb_M_nextOrder 129 = .ok (.getfield 61, 3) := by decide +kernel
theorem dc_M_nextOrder_132 : decode cb_M_nextOrder 132 = .ok (.iload 5, 2) := by decide +kernel
theorem dc_M_nextOrder_134 : decode cb_M_nextOrder 134 = .ok (.iaload, 1) := by decide +kernel
theorem dc_M_nextOrder_135 : decode cb_M_nextOrder 135 = .ok (.iastore, 1) := by decide +kernel
theorem dc_M_nextOrder_136 : decode cb_M_nextOrder 136 = .ok (.aload_n 0, 1) := by decide +kernel
theorem dc_M_nextOrder_137 : decode cb_M_nextOrder 137 = .ok (.getfield 61, 3) := by decide +kernel
theorem dc_M_nextOrder_140 : decode cb_M_nextOrder 140 = .ok (.iload 5, 2) := by decide +kernel
theorem dc_M_nextOrder_142 : decode cb_M_nextOrder 142 = .ok (.iload_n 3, 1) := by decide +kernel
theorem dc_M_nextOrder_143 : decode cb_M_nextOrder 143 = .ok (.iastore, 1) := by decide +kernel
theorem dc_M_nextOrder_144 : decode cb_M_nextOrder 144 = .ok (.iinc 4 1, 3) := by decide +kernel
theorem dc_M_nextOrder_147 : decode cb_M_nextOrder 147 = .ok (.iinc 5 (-1), 3) := by decide +kernel
theorem dc_M_nextOrder_150 : decode cb_M_nextOrder 150 = .ok (.goto (-43), 3) := by decide +kernel
theorem dc_M_nextOrder_153 : decode cb_M_nextOrder 153 = .ok (.iconst 1, 1) := by decide +kernel
theorem dc_M_nextOrder_154 : decode cb_M_nextOrder 154 = .ok (.ireturn, 1) := by decide +kernel
theorem dc_M_disagreementOf_0 : decode cb_M_disagreementOf 0 = .ok (.lconst 0, 1) := by decide +kernel
theorem dc_M_disagreementOf_1 : decode cb_M_disagreementOf 1 = .ok (.lstore_n 1, 1) := by decide +kernel
theorem dc_M_disagreementOf_2 : decode cb_M_disagreementOf 2 = .ok (.iconst 0, 1) := by decide +kernel
theorem dc_M_disagreementOf_3 : decode cb_M_disagreementOf 3 = .ok (.istore_n 3, 1) := by decide +kernel
theorem dc_M_disagreementOf_4 : decode cb_M_disagreementOf 4 = .ok (.iload_n 3, 1) := by decide +kernel
theorem dc_M_disagreementOf_5 : decode cb_M_disagreementOf 5 = .ok (.aload_n 0, 1) := by decide +kernel
theorem dc_M_disagreementOf_6 : decode cb_M_disagreementOf 6 = .ok (.getfield 7, 3) := by decide +kernel
theorem dc_M_disagreementOf_9 : decode cb_M_disagreementOf 9 = .ok (.if_icmp .ge 55, 3) := by decide +kernel
theorem dc_M_disagreementOf_12 : decode cb_M_disagreementOf 12 = .ok (.iload_n 3, 1) := by decide +kernel
theorem dc_M_disagreementOf_13 : decode cb_M_disagreementOf 13 = .ok (.iconst 1, 1) := by decide +kernel
theorem dc_M_disagreementOf_14 : decode cb_M_disagreementOf 14 = .ok (.iadd, 1) := by decide +kernel
theorem dc_M_disagreementOf_15 : decode cb_M_disagreementOf 15 = .ok (.istore 4, 2) := by decide +kernel
theorem dc_M_disagreementOf_17 : decode cb_M_disagreementOf 17 = .ok (.iload 4, 2) := by decide +kernel
theorem dc_M_disagreementOf_19 : decode cb_M_disagreementOf 19 = .ok (.aload_n 0, 1) := by decide +kernel
theorem dc_M_disagreementOf_20 : decode cb_M_disagreementOf 20 = .ok (.getfield 7, 3) := by decide +kernel
theorem dc_M_disagreementOf_23 : decode cb_M_disagreementOf 23 = .ok (.if_icmp .ge 35, 3) := by decide +kernel
theorem dc_M_disagreementOf_26 : decode cb_M_disagreementOf 26 = .ok (.lload_n 1, 1) := by decide +kernel
theorem dc_M_disagreementOf_27 : decode cb_M_disagreementOf 27 = .ok (.aload_n 0, 1) := by decide +kernel
theorem dc_M_disagreementOf_28 : decode cb_M_disagreementOf 28 = .ok (.getfield 44, 3) := by decide +kernel
theorem dc_M_disagreementOf_31 : decode cb_M_disagreementOf 31 = .ok (.bipush 7, 2) := by decide +kernel
theorem dc_M_disagreementOf_33 : decode cb_M_disagreementOf 33 = .ok (.aload_n 0, 1) := by decide +kernel
theorem dc_M_disagreementOf_34 : decode cb_M_disagreementOf 34 = .ok (.getfield 61, 3) := by decide +kernel
theorem dc_M_disagreementOf_37 : decode cb_M_disagreementOf 37 = .ok (.iload 4, 2) := by decide +kernel
theorem dc_M_disagreementOf_39 : decode cb_M_disagreementOf 39 = .ok (.iaload, 1) := by decide +kernel
theorem dc_M_disagreementOf_40 : decode cb_M_disagreementOf 40 = .ok (.imul, 1) := by decide +kernel
theorem dc_M_disagreementOf_41 : decode cb_M_disagreementOf 41 = .ok (.aload_n 0, 1) := by decide +kernel
theorem dc_M_disagreementOf_42 : decode cb_M_disagreementOf 42 = .ok (.getfield 61, 3) := by decide +kernel
theorem dc_M_disagreementOf_45 : decode cb_M_disagreementOf 45 = .ok (.iload_n 3, 1) := by decide +kernel
theorem dc_M_disagreementOf_46 : decode cb_M_disagreementOf 46 = .ok (.iaload, 1) := by decide +kernel
theorem dc_M_disagreementOf_47 : decode cb_M_disagreementOf 47 = .ok (.iadd, 1) := by decide +kernel
theorem dc_M_disagreementOf_48 : decode cb_M_disagreementOf 48 = .ok (.iaload, 1) := by decide +kernel
theorem dc_M_disagreementOf_49 : decode cb_M_disagreementOf 49 = .ok (.i2l, 1) := by decide +kernel
theorem dc_M_disagreementOf_50 : decode cb_M_disagreementOf 50 = .ok (.ladd, 1) := by decide +kernel
theorem dc_M_disagreementOf_51 : decode cb_M_disagreementOf 51 = .ok (.lstore_n 1, 1) := by decide +kernel
theorem dc_M_disagreementOf_52 : decode cb_M_disagreementOf 52 = .ok (.iinc 4 1, 3) := by decide +kernel
theorem dc_M_disagreementOf_55 : decode cb_M_disagreementOf 55 = .ok (.goto (-38), 3) := by decide +kernel
theorem dc_M_disagreementOf_58 : decode cb_M_disagreementOf 58 = .ok (.iinc 3 1, 3) := by decide +kernel
theorem dc_M_disagreementOf_61 : decode cb_M_disagreementOf 61 = .ok (.goto (-57), 3) := by decide +kernel
theorem dc_M_disagreementOf_64 : decode cb_M_disagreementOf 64 = .ok (.lload_n 1, 1) := by decide +kernel
theorem dc_M_disagreementOf_65 : decode cb_M_disagreementOf 65 = .ok (.lreturn, 1) := by decide +kernel
theorem dc_M_sooner2_0 : decode cb_M_sooner2 0 = .ok (.iconst 0, 1) := by decide +kernel
theorem dc_M_sooner2_1 : decode cb_M_sooner2 1 = .ok (.istore_n 1, 1) := by decide +kernel
theorem dc_M_sooner2_2 : decode cb_M_sooner2 2 = .ok (.iload_n 1, 1) := by decide +kernel
theorem dc_M_sooner2_3 : decode cb_M_sooner2 3 = .ok (.aload_n 0, 1) := by decide +kernel
theorem dc_M_sooner2_4 : decode cb_M_sooner2 4 = .ok (.getfield 7, 3) := by decide +kernel
theorem dc_M_sooner2_7 : decode cb_M_sooner2 7 = .ok (.if_icmp .ge 24, 3) := by decide +kernel
theorem dc_M_sooner2_10 : decode cb_M_sooner2 10 = .ok (.aload_n 0, 1) := by decide +kernel
theorem dc_M_sooner2_11 : decode cb_M_sooner2 11 = .ok (.getfield 61, 3) := by decide +kernel
theorem dc_M_sooner2_14 : decode cb_M_sooner2 14 = .ok (.iload_n 1, 1) := by decide +kernel
theorem dc_M_sooner2_15 : decode cb_M_sooner2 15 = .ok (.iaload, 1) := by decide +kernel
theorem dc_M_sooner2_16 : decode cb_M_sooner2 16 = .ok (.aload_n 0, 1) := by decide +kernel
theorem dc_M_sooner2_17 : decode cb_M_sooner2 17 = .ok (.getfield 64, 3) := by decide +kernel
theorem dc_M_sooner2_20 : decode cb_M_sooner2 20 = .ok (.iload_n 1, 1) := by decide +kernel
theorem dc_M_sooner2_21 : decode cb_M_sooner2 21 = .ok (.iaload, 1) := by decide +kernel
theorem dc_M_sooner2_22 : decode cb_M_sooner2 22 = .ok (.if_icmp .ne 9, 3) := by decide +kernel
theorem dc_M_sooner2_25 : decode cb_M_sooner2 25 = .ok (.iinc 1 1, 3) := by decide +kernel
theorem dc_M_sooner2_28 : decode cb_M_sooner2 28 = .ok (.goto (-26), 3) := by decide +kernel
theorem dc_M_sooner2_31 : decode cb_M_sooner2 31 = .ok (.iload_n 1, 1) := by decide +kernel
theorem dc_M_sooner2_32 : decode cb_M_sooner2 32 = .ok (.aload_n 0, 1) := by decide +kernel
theorem dc_M_sooner2_33 : decode cb_M_sooner2 33 = .ok (.getfield 7, 3) := by decide +kernel
theorem dc_M_sooner2_36 : decode cb_M_sooner2 36 = .ok (.if_icmp .ge 30, 3) := by decide +kernel
theorem dc_M_sooner2_39 : decode cb_M_sooner2 39 = .ok (.aload_n 0, 1) := by decide +kernel
theorem dc_M_sooner2_40 : decode cb_M_sooner2 40 = .ok (.aload_n 0, 1) := by decide +kernel
theorem dc_M_sooner2_41 : decode cb_M_sooner2 41 = .ok (.getfield 61, 3) := by decide +kernel
theorem dc_M_sooner2_44 : decode cb_M_sooner2 44 = .ok (.iload_n 1, 1) := by decide +kernel
theorem dc_M_sooner2_45 : decode cb_M_sooner2 45 = .ok (.iaload, 1) := by decide +kernel
theorem dc_M_sooner2_46 : decode cb_M_sooner2 46 = .ok (.invokevirtual 146, 3) := by decide +kernel
theorem dc_M_sooner2_49 : decode cb_M_sooner2 49 = .ok (.aload_n 0, 1) := by decide +kernel
theorem dc_M_sooner2_50 : decode cb_M_sooner2 50 = .ok (.aload_n 0, 1) := by decide +kernel
theorem dc_M_sooner2_51 : decode cb_M_sooner2 51 = .ok (.getfield 64, 3) := by decide +kernel
theorem dc_M_sooner2_54 : decode cb_M_sooner2 54 = .ok (.iload_n 1, 1) := by decide +kernel
theorem dc_M_sooner2_55 : decode cb_M_sooner2 55 = .ok (.iaload, 1) := by decide +kernel
theorem dc_M_sooner2_56 : decode cb_M_sooner2 56 = .ok (.invokevirtual 146, 3) := by decide +kernel
theorem dc_M_sooner2_59 : decode cb_M_sooner2 59 = .ok (.if_icmp .ge 7, 3) := by decide +kernel
theorem dc_M_sooner2_62 : decode cb_M_sooner2 62 = .ok (.iconst 1, 1) := by decide +kernel
theorem dc_M_sooner2_63 : decode cb_M_sooner2 63 = .ok (.goto 4, 3) := by decide +kernel
theorem dc_M_sooner2_66 : decode cb_M_sooner2 66 = .ok (.iconst 0, 1) := by decide +kernel
theorem dc_M_sooner2_67 : decode cb_M_sooner2 67 = .ok (.ireturn, 1) := by decide +kernel
theorem dc_M_findAgreed_0 : decode cb_M_findAgreed 0 = .ok (.aload_n 0, 1) := by decide +kernel
theorem dc_M_findAgreed_1 : decode cb_M_findAgreed 1 = .ok (.invokevirtual 193, 3) := by decide +kernel
theorem dc_M_findAgreed_4 : decode cb_M_findAgreed 4 = .ok (.aload_n 0, 1) := by decide +kernel
theorem dc_M_findAgreed_5 : decode cb_M_findAgreed 5 = .ok (.invokevirtual 162, 3) := by decide +kernel
theorem dc_M_findAgreed_8 : decode cb_M_findAgreed 8 = .ok (.aload_n 0, 1) := by decide +kernel
theorem dc_M_findAgreed_9 : decode cb_M_findAgreed 9 = .ok (.invokevirtual 205, 3) := by decide +kernel
theorem dc_M_findAgreed_12 : decode cb_M_findAgreed 12 = .ok (.ldc2_w 208, 3) := by decide +kernel
theorem dc_M_findAgreed_15 : decode cb_M_findAgreed 15 = .ok (.lstore_n 1, 1) := by decide +kernel
theorem dc_M_findAgreed_16 : decode cb_M_findAgreed 16 = .ok (.iconst 1, 1) := by decide +kernel
theorem dc_M_findAgreed_17 : decode cb_M_findAgreed 17 = .ok (.istore_n 3, 1) := by decide +kernel
theorem dc_M_findAgreed_18 : decode cb_M_findAgreed 18 = .ok (.iload_n 3, 1) := by decide +kernel
theorem dc_M_findAgreed_19 : decode cb_M_findAgreed 19 = .ok (.ifCond .eq 77, 3) := by decide +kernel
theorem dc_M_findAgreed_22 : decode cb_M_findAgreed 22 = .ok (.aload_n 0, 1) := by decide +kernel
theorem dc_M_findAgreed_23 : decode cb_M_findAgreed 23 = .ok (.invokevirtual 210, 3) := by decide +kernel
theorem dc_M_findAgreed_26 : decode cb_M_findAgreed 26 = .ok (.lstore 4, 2) := by decide +kernel
theorem dc_M_findAgreed_28 : decode cb_M_findAgreed 28 = .ok (.lload_n 1, 1) := by decide +kernel
theorem dc_M_findAgreed_29 : decode cb_M_findAgreed 29 = .ok (.lconst 0, 1) := by decide +kernel
theorem dc_M_findAgreed_30 : decode cb_M_findAgreed 30 = .ok (.lcmp, 1) := by decide +kernel
theorem dc_M_findAgreed_31 : decode cb_M_findAgreed 31 = .ok (.ifCond .lt 24, 3) := by decide +kernel
theorem dc_M_findAgreed_34 : decode cb_M_findAgreed 34 = .ok (.lload 4, 2) := by decide +kernel
theorem dc_M_findAgreed_36 : decode cb_M_findAgreed 36 = .ok (.lload_n 1, 1) := by decide +kernel
theorem dc_M_findAgreed_37 : decode cb_M_findAgreed 37 = .ok (.lcmp, 1) := by decide +kernel
theorem dc_M_findAgreed_38 : decode cb_M_findAgreed 38 = .ok (.ifCond .lt 17, 3) := by decide +kernel
theorem dc_M_findAgreed_41 : decode cb_M_findAgreed 41 = .ok (.lload 4, 2) := by decide +kernel
theorem dc_M_findAgreed_43 : decode cb_M_findAgreed 43 = .ok (.lload_n 1, 1) := by decide +kernel
theorem dc_M_findAgreed_44 : decode cb_M_findAgreed 44 = .ok (.lcmp, 1) := by decide +kernel
theorem dc_M_findAgreed_45 : decode cb_M_findAgreed 45 = .ok (.ifCond .ne 43, 3) := by decide +kernel
theorem dc_M_findAgreed_48 : decode cb_M_findAgreed 48 = .ok (.aload_n 0, 1) := by decide +kernel
theorem dc_M_findAgreed_49 : decode cb_M_findAgreed 49 = .ok (.invokevirtual 214, 3) := by decide +kernel
theorem dc_M_findAgreed_52 : decode cb_M_findAgreed 52 = .ok (.ifCond .eq 36, 3) := by decide +kernel
theorem dc_M_findAgreed_55 : decode cb_M_findAgreed 55 = .ok (.lload 4, 2) := by decide +kernel
theorem dc_M_findAgreed_57 : decode cb_M_findAgreed 57 = .ok (.lstore_n 1, 1) := by decide +kernel
theorem dc_M_findAgreed_58 : decode cb_M_findAgreed 58 = .ok (.iconst 0, 1) := by decide +kernel
theorem dc_M_findAgreed_59 : decode cb_M_findAgreed 59 = .ok (.istore 6, 2) := by decide +kernel
theorem dc_M_findAgreed_61 : decode cb_M_findAgreed 61 = .ok (.iload 6, 2) := by decide +kernel
theorem dc_M_findAgreed_63 : decode cb_M_findAgreed 63 = .ok (.bipush 7, 2) := by decide +kernel
theorem dc_M_findAgreed_65 : decode cb_M_findAgreed 65 = .ok (.if_icmp .ge 23, 3) := by decide +kernel
theorem dc_M_findAgreed_68 : decode cb_M_findAgreed 68 = .ok (.aload_n 0, 1) := by decide +kernel
theorem dc_M_findAgreed_69 : decode cb_M_findAgreed 69 = .ok (.getfield 64, 3) := by decide +kernel
theorem dc_M_findAgreed_72 : decode cb_M_findAgreed 72 = .ok (.iload 6, 2) := by decide +kernel
theorem dc_M_findAgreed_74 : decode cb_M_findAgreed 74 = .ok (.aload_n 0, 1) := by decide +kernel
theorem dc_M_findAgreed_75 : decode cb_M_findAgreed 75 = .ok (.getfield 61, 3) := by decide +kernel
theorem dc_M_findAgreed_78 : decode cb_M_findAgreed 78 = .ok (.iload 6, 2) := by decide +kernel
theorem dc_M_findAgreed_80 : decode cb_M_findAgreed 80 = .ok (.iaload, 1) := by decide +kernel
theorem dc_M_findAgreed_81 : decode cb_M_findAgreed 81 = .ok (.iastore, 1) := by decide +kernel
theorem dc_M_findAgreed_82 : decode cb_M_findAgreed 82 = .ok (.iinc 6 1, 3) := by decide +kernel
theorem dc_M_findAgreed_85 : decode cb_M_findAgreed 85 = .ok (.goto (-24), 3) := by decide +kernel
theorem dc_M_findAgreed_88 : decode cb_M_findAgreed 88 = .ok (.aload_n 0, 1) := by decide +kernel
theorem dc_M_findAgreed_89 : decode cb_M_findAgreed 89 = .ok (.invokevirtual 217, 3) := by decide +kernel
theorem dc_M_findAgreed_92 : decode cb_M_findAgreed 92 = .ok (.istore_n 3, 1) := by decide +kernel
theorem dc_M_findAgreed_93 : decode cb_M_findAgreed 93 = .ok (.goto (-75), 3) := by decide +kernel
theorem dc_M_findAgreed_96 : decode cb_M_findAgreed 96 = .ok (.lload_n 1, 1) := by decide +kernel
theorem dc_M_findAgreed_97 : decode cb_M_findAgreed 97 = .ok (.lreturn, 1) := by decide +kernel
theorem dc_M_disagreement_0 : decode cb_M_disagreement 0 = .ok (.aload_n 0, 1) := by decide +kernel
theorem dc_M_disagreement_1 : decode cb_M_disagreement 1 = .ok (.iconst 0, 1) := by decide +kernel
theorem dc_M_disagreement_2 : decode cb_M_disagreement 2 = .ok (.putfield 79, 3) := by decide +kernel
theorem dc_M_disagreement_5 : decode cb_M_disagreement 5 = .ok (.aload_n 0, 1) := by decide +kernel
theorem dc_M_disagreement_6 : decode cb_M_disagreement 6 = .ok (.invokevirtual 220, 3) := by decide +kernel
theorem dc_M_disagreement_9 : decode cb_M_disagreement 9 = .ok (.lreturn, 1) := by decide +kernel
theorem dc_M_agreed_0 : decode cb_M_agreed 0 = .ok (.aload_n 0, 1) := by decide +kernel
theorem dc_M_agreed_1 : decode cb_M_agreed 1 = .ok (.iconst 0, 1) := by decide +kernel
theorem dc_M_agreed_2 : decode cb_M_agreed 2 = .ok (.putfield 79, 3) := by decide +kernel
theorem dc_M_agreed_5 : decode cb_M_agreed 5 = .ok (.aload_n 0, 1) := by decide +kernel
theorem dc_M_agreed_6 : decode cb_M_agreed 6 = .ok (.invokevirtual 220, 3) := by decide +kernel
theorem dc_M_agreed_9 : decode cb_M_agreed 9 = .ok (.lstore_n 1, 1) := by decide +kernel
theorem dc_M_agreed_10 : decode cb_M_agreed 10 = .ok (.aload_n 0, 1) := by decide +kernel
theorem dc_M_agreed_11 : decode cb_M_agreed 11 = .ok (.aload_n 0, 1) := by decide +kernel
theorem dc_M_agreed_12 : decode cb_M_agreed 12 = .ok (.getfield 64, 3) := by decide +kernel
theorem dc_M_agreed_15 : decode cb_M_agreed 15 = .ok (.iconst 0, 1) := by decide +kernel
theorem dc_M_agreed_16 : decode cb_M_agreed 16 = .ok (.invokevirtual 102, 3) := by decide +kernel
theorem dc_M_agreed_19 : decode cb_M_agreed 19 = .ok (.ireturn, 1) := by decide +kernel
theorem dc_M_change_0 : decode cb_M_change 0 = .ok (.aload_n 0, 1) := by decide +kernel
theorem dc_M_change_1 : decode cb_M_change 1 = .ok (.iload_n 1, 1) := by decide +kernel
theorem dc_M_change_2 : decode cb_M_change 2 = .ok (.invokestatic 190, 3) := by decide +kernel
theorem dc_M_change_5 : decode cb_M_change 5 = .ok (.ifCond .eq 15, 3) := by decide +kernel
theorem dc_M_change_8 : decode cb_M_change 8 = .ok (.aload_n 0, 1) := by decide +kernel
theorem dc_M_change_9 : decode cb_M_change 9 = .ok (.iload_n 2, 1) := by decide +kernel
theorem dc_M_change_10 : decode cb_M_change 10 = .ok (.invokevirtual 99, 3) := by decide +kernel
theorem dc_M_change_13 : decode cb_M_change 13 = .ok (.ifCond .eq 7, 3) := by decide +kernel
theorem dc_M_change_16 : decode cb_M_change 16 = .ok (.iconst 1, 1) := by decide +kernel
theorem dc_M_change_17 : decode cb_M_change 17 = .ok (.goto 4, 3) := by decide +kernel
theorem dc_M_change_20 : decode cb_M_change 20 = .ok (.iconst 0, 1) := by decide +kernel
theorem dc_M_change_21 : decode cb_M_change 21 = .ok (.aload_n 0, 1) := by decide +kernel
theorem dc_M_change_22 : decode cb_M_change 22 = .ok (.iload_n 2, 1) := by decide +kernel
theorem dc_M_change_23 : decode cb_M_change 23 = .ok (.invokevirtual 99, 3) := by decide +kernel
theorem dc_M_change_26 : decode cb_M_change 26 = .ok (.ifCond .eq 22, 3) := by decide +kernel
theorem dc_M_change_29 : decode cb_M_change 29 = .ok (.iload_n 3, 1) := by decide +kernel
theorem dc_M_change_30 : decode cb_M_change 30 = .ok (.iconst 1, 1) := by decide +kernel
theorem dc_M_change_31 : decode cb_M_change 31 = .ok (.if_icmp .lt 17, 3) := by decide +kernel
theorem dc_M_change_34 : decode cb_M_change 34 = .ok (.iload_n 3, 1) := by decide +kernel
theorem dc_M_change_35 : decode cb_M_change 35 = .ok (.aload_n 0, 1) := by decide +kernel
theorem dc_M_change_36 : decode cb_M_change 36 = .ok (.getfield 17, 3) := by decide +kernel
theorem dc_M_change_39 : decode cb_M_change 39 = .ok (.iload_n 2, 1) := by decide +kernel
theorem dc_M_change_40 : decode cb_M_change 40 = .ok (.iaload, 1) := by decide +kernel
theorem dc_M_change_41 : decode cb_M_change 41 = .ok (.if_icmp .gt 7, 3) := by decide +kernel
theorem dc_M_change_44 : decode cb_M_change 44 = .ok (.iconst 1, 1) := by decide +kernel
theorem dc_M_change_45 : decode cb_M_change 45 = .ok (.goto 4, 3) := by decide +kernel
theorem dc_M_change_48 : decode cb_M_change 48 = .ok (.iconst 0, 1) := by decide +kernel
theorem dc_M_change_49 : decode cb_M_change 49 = .ok (.invokevirtual 86, 3) := by decide +kernel
theorem dc_M_change_52 : decode cb_M_change 52 = .ok (.ifCond .ne 5, 3) := by decide +kernel
theorem dc_M_change_55 : decode cb_M_change 55 = .ok (.iconst 0, 1) := by decide +kernel
theorem dc_M_change_56 : decode cb_M_change 56 = .ok (.ireturn, 1) := by decide +kernel
theorem dc_M_change_57 : decode cb_M_change 57 = .ok (.aload_n 0, 1) := by decide +kernel
theorem dc_M_change_58 : decode cb_M_change 58 = .ok (.invokevirtual 193, 3) := by decide +kernel
theorem dc_M_change_61 : decode cb_M_change 61 = .ok (.aload_n 0, 1) := by decide +kernel
theorem dc_M_change_62 : decode cb_M_change 62 = .ok (.iload_n 2, 1) := by decide +kernel
theorem dc_M_change_63 : decode cb_M_change 63 = .ok (.aload_n 0, 1) := by decide +kernel
theorem dc_M_change_64 : decode cb_M_change 64 = .ok (.aload_n 0, 1) := by decide +kernel
theorem dc_M_change_65 : decode cb_M_change 65 = .ok (.iload_n 1, 1) := by decide +kernel
theorem dc_M_change_66 : decode cb_M_change 66 = .ok (.invokevirtual 196, 3) := by decide +kernel
theorem dc_M_change_69 : decode cb_M_change 69 = .ok (.invokevirtual 199, 3) := by decide +kernel
theorem dc_M_change_72 : decode cb_M_change 72 = .ok (.invokevirtual 123, 3) := by decide +kernel
theorem dc_M_change_75 : decode cb_M_change 75 = .ok (.istore 4, 2) := by decide +kernel
theorem dc_M_change_77 : decode cb_M_change 77 = .ok (.iload 4, 2) := by decide +kernel
theorem dc_M_change_79 : decode cb_M_change 79 = .ok (.istore 5, 2) := by decide +kernel
theorem dc_M_change_81 : decode cb_M_change 81 = .ok (.aload_n 0, 1) := by decide +kernel
theorem dc_M_change_82 : decode cb_M_change 82 = .ok (.iconst (-1), 1) := by decide +kernel
theorem dc_M_change_83 : decode cb_M_change 83 = .ok (.putfield 67, 3) := by decide +kernel
theorem dc_M_change_86 : decode cb_M_change 86 = .ok (.aload_n 0, 1) := by decide +kernel
theorem dc_M_change_87 : decode cb_M_change 87 = .ok (.invokevirtual 205, 3) := by decide +kernel
theorem dc_M_change_90 : decode cb_M_change 90 = .ok (.iconst 1, 1) := by decide +kernel
theorem dc_M_change_91 : decode cb_M_change 91 = .ok (.istore 6, 2) := by decide +kernel
theorem dc_M_change_93 : decode cb_M_change 93 = .ok (.iload 6, 2) := by decide +kernel
theorem dc_M_change_95 : decode cb_M_change 95 = .ok (.ifCond .eq 141, 3) := by decide +kernel
theorem dc_M_change_98 : decode cb_M_change 98 = .ok (.aload_n 0, 1) := by decide +kernel
theorem dc_M_change_99 : decode cb_M_change 99 = .ok (.invokevirtual 193, 3) := by decide +kernel
theorem dc_M_change_102 : decode cb_M_change 102 = .ok (.aload_n 0, 1) := by decide +kernel
theorem dc_M_change_103 : decode cb_M_change 103 = .ok (.getfield 32, 3) := by decide +kernel
theorem dc_M_change_106 : decode cb_M_change 106 = .ok (.iload_n 2, 1) := by decide +kernel
theorem dc_M_change_107 : decode cb_M_change 107 = .ok (.aload_n 0, 1) := by decide +kernel
theorem dc_M_change_108 : decode cb_M_change 108 = .ok (.getfield 32, 3) := by decide +kernel
theorem dc_M_change_111 : decode cb_M_change 111 = .ok (.iload_n 2, 1) := by decide +kernel
theorem dc_M_change_112 : decode cb_M_change 112 = .ok (.iaload, 1) := by decide +kernel
theorem dc_M_change_113 : decode cb_M_change 113 = .ok (.iload_n 3, 1) := by decide +kernel
theorem dc_M_change_114 : decode cb_M_change 114 = .ok (.isub, 1) := by decide +kernel
theorem dc_M_change_115 : decode cb_M_change 115 = .ok (.iastore, 1) := by decide +kernel
theorem dc_M_change_116 : decode cb_M_change 116 = .ok (.aload_n 0, 1) := by decide +kernel
theorem dc_M_change_117 : decode cb_M_change 117 = .ok (.getfield 32, 3) := by decide +kernel
theorem dc_M_change_120 : decode cb_M_change 120 = .ok (.aload_n 0, 1) := by decide +kernel
theorem dc_M_change_121 : decode cb_M_change 121 = .ok (.getfield 109, 3) := by decide +kernel
theorem dc_M_change_124 : decode cb_M_change 124 = .ok (.iload_n 3, 1) := by decide +kernel
theorem dc_M_change_125 : decode cb_M_change 125 = .ok (.iastore, 1) := by decide +kernel
theorem dc_M_change_126 : decode cb_M_change 126 = .ok (.iconst 0, 1) := by decide +kernel
theorem dc_M_change_127 : decode cb_M_change 127 = .ok (.istore 7, 2) := by decide +kernel
theorem dc_M_change_129 : decode cb_M_change 129 = .ok (.iload 7, 2) := by decide +kernel
theorem dc_M_change_131 : decode cb_M_change 131 = .ok (.bipush 7, 2) := by decide +kernel
theorem dc_M_change_133 : decode cb_M_change 133 = .ok (.if_icmp .ge 31, 3) := by decide +kernel
theorem dc_M_change_136 : decode cb_M_change 136 = .ok (.aload_n 0, 1) := by decide +kernel
theorem dc_M_change_137 : decode cb_M_change 137 = .ok (.getfield 29, 3) := by decide +kernel
theorem dc_M_change_140 : decode cb_M_change 140 = .ok (.bipush 7, 2) := by decide +kernel
theorem dc_M_change_142 : decode cb_M_change 142 = .ok (.aload_n 0, 1) := by decide +kernel
theorem dc_M_change_143 : decode cb_M_change 143 = .ok (.getfield 109, 3) := by decide +kernel
theorem dc_M_change_146 : decode cb_M_change 146 = .ok (.imul, 1) := by decide +kernel
theorem dc_M_change_147 : decode cb_M_change 147 = .ok (.iload 7, 2) := by decide +kernel
theorem dc_M_change_149 : decode cb_M_change 149 = .ok (.iadd, 1) := by decide +kernel
theorem dc_M_change_150 : decode cb_M_change 150 = .ok (.aload_n 0, 1) := by decide +kernel
theorem dc_M_change_151 : decode cb_M_change 151 = .ok (.getfield 61, 3) := by decide +kernel
theorem dc_M_change_154 : decode cb_M_change 154 = .ok (.iload 7, 2) := by decide +kernel
theorem dc_M_change_156 : decode cb_M_change 156 = .ok (.iaload, 1) := by decide +kernel
theorem dc_M_change_157 : decode cb_M_change 157 = .ok (.iastore, 1) := by decide +kernel
theorem dc_M_change_158 : decode cb_M_change 158 = .ok (.iinc 7 1, 3) := by decide +kernel
theorem dc_M_change_161 : decode cb_M_change 161 = .ok (.goto (-32), 3) := by decide +kernel
theorem dc_M_change_164 : decode cb_M_change 164 = .ok (.aload_n 0, 1) := by decide +kernel
theorem dc_M_change_165 : decode cb_M_change 165 = .ok (.dup, 1) := by decide +kernel
theorem dc_M_change_166 : decode cb_M_change 166 = .ok (.getfield 109, 3) := by decide +kernel
theorem dc_M_change_169 : decode cb_M_change 169 = .ok (.iconst 1, 1) := by decide +kernel
theorem dc_M_change_170 : decode cb_M_change 170 = .ok (.iadd, 1) := by decide +kernel
theorem dc_M_change_171 : decode cb_M_change 171 = .ok (.putfield 109, 3) := by decide +kernel
theorem dc_M_change_174 : decode cb_M_change 174 = .ok (.aload_n 0, 1) := by decide +kernel
theorem dc_M_change_175 : decode cb_M_change 175 = .ok (.iload_n 2, 1) := by decide +kernel
theorem dc_M_change_176 : decode cb_M_change 176 = .ok (.aload_n 0, 1) := by decide +kernel
theorem dc_M_change_177 : decode cb_M_change 177 = .ok (.aload_n 0, 1) := by decide +kernel
theorem dc_M_change_178 : decode cb_M_change 178 = .ok (.iload_n 1, 1) := by decide +kernel
theorem dc_M_change_179 : decode cb_M_change 179 = .ok (.invokevirtual 196, 3) := by decide +kernel
theorem dc_M_change_182 : decode cb_M_change 182 = .ok (.invokevirtual 199, 3) := by decide +kernel
theorem dc_M_change_185 : decode cb_M_change 185 = .ok (.invokevirtual 123, 3) := by decide +kernel
theorem dc_M_change_188 : decode cb_M_change 188 = .ok (.istore 7, 2) := by decide +kernel
theorem dc_M_change_190 : decode cb_M_change 190 = .ok (.iload 7, 2) := by decide +kernel
theorem dc_M_change_192 : decode cb_M_change 192 = .ok (.iload 5, 2) := by decide +kernel
theorem dc_M_change_194 : decode cb_M_change 194 = .ok (.if_icmp .ge 20, 3) := by decide +kernel
theorem dc_M_change_197 : decode cb_M_change 197 = .ok (.iload 7, 2) := by decide +kernel
theorem dc_M_change_199 : decode cb_M_change 199 = .ok (.istore 5, 2) := by decide +kernel
theorem dc_M_change_201 : decode cb_M_change 201 = .ok (.aload_n 0, 1) := by decide +kernel
theorem dc_M_change_202 : decode cb_M_change 202 = .ok (.aload_n 0, 1) := by decide +kernel
theorem dc_M_change_203 : decode cb_M_change 203 = .ok (.aload_n 0, 1) := by decide +kernel
theorem dc_M_change_204 : decode cb_M_change 204 = .ok (.getfield 61, 3) := by decide +kernel
theorem dc_M_change_207 : decode cb_M_change 207 = .ok (.iconst 0, 1) := by decide +kernel
theorem dc_M_change_208 : decode cb_M_change 208 = .ok (.invokevirtual 102, 3) := by decide +kernel
theorem dc_M_change_211 : decode cb_M_change 211 = .ok (.putfield 67, 3) := by decide +kernel
theorem dc_M_change_214 : decode cb_M_change 214 = .ok (.iload 5, 2) := by decide +kernel
theorem dc_M_change_216 : decode cb_M_change 216 = .ok (.ifCond .le 14, 3) := by decide +kernel
theorem dc_M_change_219 : decode cb_M_change 219 = .ok (.aload_n 0, 1) := by decide +kernel
theorem dc_M_change_220 : decode cb_M_change 220 = .ok (.invokevirtual 217, 3) := by decide +kernel
theorem dc_M_change_223 : decode cb_M_change 223 = .ok (.ifCond .eq 7, 3) := by decide +kernel
theorem dc_M_change_226 : decode cb_M_change 226 = .ok (.iconst 1, 1) := by decide +kernel
theorem dc_M_change_227 : decode cb_M_change 227 = .ok (.goto 4, 3) := by decide +kernel
theorem dc_M_change_230 : decode cb_M_change 230 = .ok (.iconst 0, 1) := by decide +kernel
theorem dc_M_change_231 : decode cb_M_change 231 = .ok (.istore 6, 2) := by decide +kernel
theorem dc_M_change_233 : decode cb_M_change 233 = .ok (.goto (-140), 3) := by decide +kernel
theorem dc_M_change_236 : decode cb_M_change 236 = .ok (.iload 5, 2) := by decide +kernel
theorem dc_M_change_238 : decode cb_M_change 238 = .ok (.iload 4, 2) := by decide +kernel
theorem dc_M_change_240 : decode cb_M_change 240 = .ok (.if_icmp .ge 10, 3) := by decide +kernel
theorem dc_M_change_243 : decode cb_M_change 243 = .ok (.iload 5, 2) := by decide +kernel
theorem dc_M_change_245 : decode cb_M_change 245 = .ok (.iconst 1, 1) := by decide +kernel
theorem dc_M_change_246 : decode cb_M_change 246 = .ok (.iadd, 1) := by decide +kernel
theorem dc_M_change_247 : decode cb_M_change 247 = .ok (.goto 4, 3) := by decide +kernel
theorem dc_M_change_250 : decode cb_M_change 250 = .ok (.iconst 0, 1) := by decide +kernel
theorem dc_M_change_251 : decode cb_M_change 251 = .ok (.ireturn, 1) := by decide +kernel
theorem dc_M_changed_0 : decode cb_M_changed 0 = .ok (.aload_n 0, 1) := by decide +kernel
theorem dc_M_changed_1 : decode cb_M_changed 1 = .ok (.iconst 0, 1) := by decide +kernel
theorem dc_M_changed_2 : decode cb_M_changed 2 = .ok (.putfield 79, 3) := by decide +kernel
theorem dc_M_changed_5 : decode cb_M_changed 5 = .ok (.aload_n 0, 1) := by decide +kernel
theorem dc_M_changed_6 : decode cb_M_changed 6 = .ok (.getfield 67, 3) := by decide +kernel
theorem dc_M_changed_9 : decode cb_M_changed 9 = .ok (.ireturn, 1) := by decide +kernel
theorem dc_M_over2_0 : decode cb_M_over2 0 = .ok (.iconst 1, 1) := by decide +kernel
theorem dc_M_over2_1 : decode cb_M_over2 1 = .ok (.istore_n 3, 1) := by decide +kernel
theorem dc_M_over2_2 : decode cb_M_over2 2 = .ok (.iconst 0, 1) := by decide +kernel
theorem dc_M_over2_3 : decode cb_M_over2 3 = .ok (.istore 4, 2) := by decide +kernel
theorem dc_M_over2_5 : decode cb_M_over2 5 = .ok (.iload 4, 2) := by decide +kernel
theorem dc_M_over2_7 : decode cb_M_over2 7 = .ok (.aload_n 0, 1) := by decide +kernel
theorem dc_M_over2_8 : decode cb_M_over2 8 = .ok (.getfield 106, 3) := by decide +kernel
theorem dc_M_over2_11 : decode cb_M_over2 11 = .ok (.if_icmp .ge 52, 3) := by decide +kernel
theorem dc_M_over2_14 : decode cb_M_over2 14 = .ok (.iload_n 3, 1) := by decide +kernel
theorem dc_M_over2_15 : decode cb_M_over2 15 = .ok (.ifCond .eq 40, 3) := by decide +kernel
theorem dc_M_over2_18 : decode cb_M_over2 18 = .ok (.iload 4, 2) := by decide +kernel
theorem dc_M_over2_20 : decode cb_M_over2 20 = .ok (.iload_n 1, 1) := by decide +kernel
theorem dc_M_over2_21 : decode cb_M_over2 21 = .ok (.if_icmp .eq 30, 3) := by decide +kernel
theorem dc_M_over2_24 : decode cb_M_over2 24 = .ok (.iload_n 2, 1) := by decide +kernel
theorem dc_M_over2_25 : decode cb_M_over2 25 = .ok (.ifCond .eq 16, 3) := by decide +kernel
theorem dc_M_over2_28 : decode cb_M_over2 28 = .ok (.aload_n 0, 1) := by decide +kernel
theorem dc_M_over2_29 : decode cb_M_over2 29 = .ok (.iload_n 1, 1) := by decide +kernel
theorem dc_M_over2_30 : decode cb_M_over2 30 = .ok (.iload 4, 2) := by decide +kernel
theorem dc_M_over2_32 : decode cb_M_over2 32 = .ok (.invokevirtual 126, 3) := by decide +kernel
theorem dc_M_over2_35 : decode cb_M_over2 35 = .ok (.ifCond .eq 20, 3) := by decide +kernel
theorem dc_M_over2_38 : decode cb_M_over2 38 = .ok (.goto 13, 3) := by decide +kernel
theorem dc_M_over2_41 : decode cb_M_over2 41 = .ok (.aload_n 0, 1) := by decide +kernel
theorem dc_M_over2_42 : decode cb_M_over2 42 = .ok (.iload 4, 2) := by decide +kernel
theorem dc_M_over2_44 : decode cb_M_over2 44 = .ok (.iload_n 1, 1) := by decide +kernel
theorem dc_M_over2_45 : decode cb_M_over2 45 = .ok (.invokevirtual 126, 3) := by decide +kernel
theorem dc_M_over2_48 : decode cb_M_over2 48 = .ok (.ifCond .eq 7, 3) := by decide +kernel
theorem dc_M_over2_51 : decode cb_M_over2 51 = .ok (.iconst 1, 1) := by decide +kernel
theorem dc_M_over2_52 : decode cb_M_over2 52 = .ok (.goto 4, 3) := by decide +kernel
theorem dc_M_over2_55 : decode cb_M_over2 55 = .ok (.iconst 0, 1) := by decide +kernel
theorem dc_M_over2_56 : decode cb_M_over2 56 = .ok (.istore_n 3, 1) := by decide +kernel
theorem dc_M_over2_57 : decode cb_M_over2 57 = .ok (.iinc 4 1, 3) := by decide +kernel
theorem dc_M_over2_60 : decode cb_M_over2 60 = .ok (.goto (-55), 3) := by decide +kernel
theorem dc_M_over2_63 : decode cb_M_over2 63 = .ok (.iload_n 3, 1) := by decide +kernel
theorem dc_M_over2_64 : decode cb_M_over2 64 = .ok (.ireturn, 1) := by decide +kernel
theorem dc_M_brokenByPairs_0 : decode cb_M_brokenByPairs 0 = .ok (.aload_n 0, 1) := by decide +kernel
theorem dc_M_brokenByPairs_1 : decode cb_M_brokenByPairs 1 = .ok (.invokevirtual 193, 3) := by decide +kernel
theorem dc_M_brokenByPairs_4 : decode cb_M_brokenByPairs 4 = .ok (.aload_n 0, 1) := by decide +kernel
theorem dc_M_brokenByPairs_5 : decode cb_M_brokenByPairs 5 = .ok (.iload_n 1, 1) := by decide +kernel
theorem dc_M_brokenByPairs_6 : decode cb_M_brokenByPairs 6 = .ok (.invokevirtual 196, 3) := by decide +kernel
theorem dc_M_brokenByPairs_9 : decode cb_M_brokenByPairs 9 = .ok (.istore_n 3, 1) := by decide +kernel
theorem dc_M_brokenByPairs_10 : decode cb_M_brokenByPairs 10 = .ok (.iconst 0, 1) := by decide +kernel
theorem dc_M_brokenByPairs_11 : decode cb_M_brokenByPairs 11 = .ok (.istore 4, 2) := by decide +kernel
theorem dc_M_brokenByPairs_13 : decode cb_M_brokenByPairs 13 = .ok (.iload 4, 2) := by decide +kernel
theorem dc_M_brokenByPairs_15 : decode cb_M_brokenByPairs 15 = .ok (.aload_n 0, 1) := by decide +kernel
theorem dc_M_brokenByPairs_16 : decode cb_M_brokenByPairs 16 = .ok (.getfield 7, 3) := by decide +kernel
theorem dc_M_brokenByPairs_19 : decode cb_M_brokenByPairs 19 = .ok (.if_icmp .ge 74, 3) := by decide +kernel
theorem dc_M_brokenByPairs_22 : decode cb_M_brokenByPairs 22 = .ok (.iload_n 2, 1) := by decide +kernel
theorem dc_M_brokenByPairs_23 : decode cb_M_brokenByPairs 23 = .ok (.ifCond .ne 29, 3) := by decide +kernel
theorem dc_M_brokenByPairs_26 : decode cb_M_brokenByPairs 26 = .ok (.aload_n 0, 1) := by decide +kernel
theorem dc_M_brokenByPairs_27 : decode cb_M_brokenByPairs 27 = .ok (.iload 4, 2) := by decide +kernel
theorem dc_M_brokenByPairs_29 : decode cb_M_brokenByPairs 29 = .ok (.iconst 1, 1) := by decide +kernel
theorem dc_M_brokenByPairs_30 : decode cb_M_brokenByPairs 30 = .ok (.invokevirtual 223, 3) := by decide +kernel
theorem dc_M_brokenByPairs_33 : decode cb_M_brokenByPairs 33 = .ok (.ifCond .eq 15, 3) := by decide +kernel
theorem dc_M_brokenByPairs_36 : decode cb_M_brokenByPairs 36 = .ok (.iload_n 3, 1) := by decide +kernel
theorem dc_M_brokenByPairs_37 : decode cb_M_brokenByPairs 37 = .ok (.iconst 1, 1) := by decide +kernel
theorem dc_M_brokenByPairs_38 : decode cb_M_brokenByPairs 38 = .ok (.iload 4, 2) := by decide +kernel
theorem dc_M_brokenByPairs_40 : decode cb_M_brokenByPairs 40 = .ok (.ishl, 1) := by decide +kernel
theorem dc_M_brokenByPairs_41 : decode cb_M_brokenByPairs 41 = .ok (.if_icmp .eq 7, 3) := by decide +kernel
theorem dc_M_brokenByPairs_44 : decode cb_M_brokenByPairs 44 = .ok (.iconst 1, 1) := by decide +kernel
theorem dc_M_brokenByPairs_45 : decode cb_M_brokenByPairs 45 = .ok (.goto 32, 3) := by decide +kernel
theorem dc_M_brokenByPairs_48 : decode cb_M_brokenByPairs 48 = .ok (.iconst 0, 1) := by decide +kernel
theorem dc_M_brokenByPairs_49 : decode cb_M_brokenByPairs 49 = .ok (.goto 28, 3) := by decide +kernel
theorem dc_M_brokenByPairs_52 : decode cb_M_brokenByPairs 52 = .ok (.aload_n 0, 1) := by decide +kernel
theorem dc_M_brokenByPairs_53 : decode cb_M_brokenByPairs 53 = .ok (.iload 4, 2) := by decide +kernel
theorem dc_M_brokenByPairs_55 : decode cb_M_brokenByPairs 55 = .ok (.iconst 0, 1) := by decide +kernel
theorem dc_M_brokenByPairs_56 : decode cb_M_brokenByPairs 56 = .ok (.invokevirtual 223, 3) := by decide +kernel
theorem dc_M_brokenByPairs_59 : decode cb_M_brokenByPairs 59 = .ok (.ifCond .eq 17, 3) := by decide +kernel
theorem dc_M_brokenByPairs_62 : decode cb_M_brokenByPairs 62 = .ok (.iload_n 3, 1) := by decide +kernel
theorem dc_M_brokenByPairs_63 : decode cb_M_brokenByPairs 63 = .ok (.iload 4, 2) := by decide +kernel
theorem dc_M_brokenByPairs_65 : decode cb_M_brokenByPairs 65 = .ok (.ishr, 1) := by decide +kernel
theorem dc_M_brokenByPairs_66 : decode cb_M_brokenByPairs 66 = .ok (.iconst 1, 1) := by decide +kernel
theorem dc_M_brokenByPairs_67 : decode cb_M_brokenByPairs 67 = .ok (.iand, 1) := by decide +kernel
theorem dc_M_brokenByPairs_68 : decode cb_M_brokenByPairs 68 = .ok (.iconst 1, 1) := by decide +kernel
theorem dc_M_brokenByPairs_69 : decode cb_M_brokenByPairs 69 = .ok (.if_icmp .ne 7, 3) := by decide +kernel
theorem dc_M_brokenByPairs_72 : decode cb_M_brokenByPairs 72 = .ok (.iconst 1, 1) := by decide +kernel
theorem dc_M_brokenByPairs_73 : decode cb_M_brokenByPairs 73 = .ok (.goto 4, 3) := by decide +kernel
theorem dc_M_brokenByPairs_76 : decode cb_M_brokenByPairs 76 = .ok (.iconst 0, 1) := by decide +kernel
theorem dc_M_brokenByPairs_77 : decode cb_M_brokenByPairs 77 = .ok (.istore 5, 2) := by decide +kernel
theorem dc_M_brokenByPairs_79 : decode cb_M_brokenByPairs 79 = .ok (.iload 5, 2) := by decide +kernel
theorem dc_M_brokenByPairs_81 : decode cb_M_brokenByPairs 81 = .ok (.ifCond .eq 6, 3) := by decide +kernel
theorem dc_M_brokenByPairs_84 : decode cb_M_brokenByPairs 84 = .ok (.iload 4, 2) := by decide +kernel
theorem dc_M_brokenByPairs_86 : decode cb_M_brokenByPairs 86 = .ok (.ireturn, 1) := by decide +kernel
theorem dc_M_brokenByPairs_87 : decode cb_M_brokenByPairs 87 = .ok (.iinc 4 1, 3) := by decide +kernel
theorem dc_M_brokenByPairs_90 : decode cb_M_brokenByPairs 90 = .ok (.goto (-77), 3) := by decide +kernel
theorem dc_M_brokenByPairs_93 : decode cb_M_brokenByPairs 93 = .ok (.iconst (-1), 1) := by decide +kernel
theorem dc_M_brokenByPairs_94 : decode cb_M_brokenByPairs 94 = .ok (.ireturn, 1) := by decide +kernel
theorem dc_M_brokenByType_0 : decode cb_M_brokenByType 0 = .ok (.aload_n 0, 1) := by decide +kernel
theorem dc_M_brokenByType_1 : decode cb_M_brokenByType 1 = .ok (.invokevirtual 193, 3) := by decide +kernel
theorem dc_M_brokenByType_4 : decode cb_M_brokenByType 4 = .ok (.aload_n 0, 1) := by decide +kernel
theorem dc_M_brokenByType_5 : decode cb_M_brokenByType 5 = .ok (.aload_n 0, 1) := by decide +kernel
theorem dc_M_brokenByType_6 : decode cb_M_brokenByType 6 = .ok (.iload_n 1, 1) := by decide +kernel
theorem dc_M_brokenByType_7 : decode cb_M_brokenByType 7 = .ok (.invokevirtual 196, 3) := by decide +kernel
theorem dc_M_brokenByType_10 : decode cb_M_brokenByType 10 = .ok (.invokevirtual 199, 3) := by decide +kernel
theorem dc_M_brokenByType_13 : decode cb_M_brokenByType 13 = .ok (.istore_n 3, 1) := by decide +kernel
theorem dc_M_brokenByType_14 : decode cb_M_brokenByType 14 = .ok (.iconst 0, 1) := by decide +kernel
theorem dc_M_brokenByType_15 : decode cb_M_brokenByType 15 = .ok (.istore 4, 2) := by decide +kernel
theorem dc_M_brokenByType_17 : decode cb_M_brokenByType 17 = .ok (.iload 4, 2) := by decide +kernel
theorem dc_M_brokenByType_19 : decode cb_M_brokenByType 19 = .ok (.aload_n 0, 1) := by decide +kernel
theorem dc_M_brokenByType_20 : decode cb_M_brokenByType 20 = .ok (.getfield 76, 3) := by decide +kernel
theorem dc_M_brokenByType_23 : decode cb_M_brokenByType 23 = .ok (.if_icmp .ge 128, 3) := by decide +kernel
theorem dc_M_brokenByType_26 : decode cb_M_brokenByType 26 = .ok (.aload_n 0, 1) := by decide +kernel
theorem dc_M_brokenByType_27 : decode cb_M_brokenByType 27 = .ok (.invokevirtual 193, 3) := by decide +kernel
theorem dc_M_brokenByType_30 : decode cb_M_brokenByType 30 = .ok (.aload_n 0, 1) := by decide +kernel
theorem dc_M_brokenByType_31 : decode cb_M_brokenByType 31 = .ok (.iload 4, 2) := by decide +kernel
theorem dc_M_brokenByType_33 : decode cb_M_brokenByType 33 = .ok (.iload_n 3, 1) := by decide +kernel
theorem dc_M_brokenByType_34 : decode cb_M_brokenByType 34 = .ok (.invokevirtual 123, 3) := by decide +kernel
theorem dc_M_brokenByType_37 : decode cb_M_brokenByType 37 = .ok (.istore 5, 2) := by decide +kernel
theorem dc_M_brokenByType_39 : decode cb_M_brokenByType 39 = .ok (.iload_n 2, 1) := by decide +kernel
theorem dc_M_brokenByType_40 : decode cb_M_brokenByType 40 = .ok (.iconst 2, 1) := by decide +kernel
theorem dc_M_brokenByType_41 : decode cb_M_brokenByType 41 = .ok (.if_icmp .ne 52, 3) := by decide +kernel
theorem dc_M_brokenByType_44 : decode cb_M_brokenByType 44 = .ok (.iload 5, 2) := by decide +kernel
theorem dc_M_brokenByType_46 : decode cb_M_brokenByType 46 = .ok (.ifCond .le 47, 3) := by decide +kernel
theorem dc_M_brokenByType_49 : decode cb_M_brokenByType 49 = .ok (.aload_n 0, 1) := by decide +kernel
theorem dc_M_brokenByType_50 : decode cb_M_brokenByType 50 = .ok (.getfield 29, 3) := by decide +kernel
theorem dc_M_brokenByType_53 : decode cb_M_brokenByType 53 = .ok (.bipush 7, 2) := by decide +kernel
theorem dc_M_brokenByType_55 : decode cb_M_brokenByType 55 = .ok (.iload 4, 2) := by decide +kernel
theorem dc_M_brokenByType_57 : decode cb_M_brokenByType 57 = .ok (.imul, 1) := by decide +kernel
theorem dc_M_brokenByType_58 : decode cb_M_brokenByType 58 = .ok (.iload 5, 2) := by decide +kernel
theorem dc_M_brokenByType_60 : decode cb_M_brokenByType 60 = .ok (.iadd, 1) := by decide +kernel
theorem dc_M_brokenByType_61 : decode cb_M_brokenByType 61 = .ok (.aload_n 0, 1) := by decide +kernel
theorem dc_M_brokenByType_62 : decode cb_M_brokenByType 62 = .ok (.getfield 29, 3) := by decide +kernel
theorem dc_M_brokenByType_65 : decode cb_M_brokenByType 65 = .ok (.bipush 7, 2) := by decide +kernel
theorem dc_M_brokenByType_67 : decode cb_M_brokenByType 67 = .ok (.iload 4, 2) := by decide +kernel
theorem dc_M_brokenByType_69 : decode cb_M_brokenByType 69 = .ok (.imul, 1) := by decide +kernel
theorem dc_M_brokenByType_70 : decode cb_M_brokenByType 70 = .ok (.iload 5, 2) := by decide +kernel
theorem dc_M_brokenByType_72 : decode cb_M_brokenByType 72 = .ok (.iadd, 1) := by decide +kernel
theorem dc_M_brokenByType_73 : decode cb_M_brokenByType 73 = .ok (.iconst 1, 1) := by decide +kernel
theorem dc_M_brokenByType_74 : decode cb_M_brokenByType 74 = .ok (.isub, 1) := by decide +kernel
theorem dc_M_brokenByType_75 : decode cb_M_brokenByType 75 = .ok (.iaload, 1) := by decide +kernel
theorem dc_M_brokenByType_76 : decode cb_M_brokenByType 76 = .ok (.iastore, 1) := by decide +kernel
theorem dc_M_brokenByType_77 : decode cb_M_brokenByType 77 = .ok (.aload_n 0, 1) := by decide +kernel
theorem dc_M_brokenByType_78 : decode cb_M_brokenByType 78 = .ok (.getfield 29, 3) := by decide +kernel
theorem dc_M_brokenByType_81 : decode cb_M_brokenByType 81 = .ok (.bipush 7, 2) := by decide +kernel
theorem dc_M_brokenByType_83 : decode cb_M_brokenByType 83 = .ok (.iload 4, 2) := by decide +kernel
theorem dc_M_brokenByType_85 : decode cb_M_brokenByType 85 = .ok (.imul, 1) := by decide +kernel
theorem dc_M_brokenByType_86 : decode cb_M_brokenByType 86 = .ok (.iload 5, 2) := by decide +kernel
theorem dc_M_brokenByType_88 : decode cb_M_brokenByType 88 = .ok (.iadd, 1) := by decide +kernel
theorem dc_M_brokenByType_89 : decode cb_M_brokenByType 89 = .ok (.iconst 1, 1) := by decide +kernel
theorem dc_M_brokenByType_90 : decode cb_M_brokenByType 90 = .ok (.isub, 1) := by decide +kernel
theorem dc_M_brokenByType_91 : decode cb_M_brokenByType 91 = .ok (.iload_n 3, 1) := by decide +kernel
theorem dc_M_brokenByType_92 : decode cb_M_brokenByType 92 = .ok (.iastore, 1) := by decide +kernel
theorem dc_M_brokenByType_93 : decode cb_M_brokenByType 93 = .ok (.aload_n 0, 1) := by decide +kernel
theorem dc_M_brokenByType_94 : decode cb_M_brokenByType 94 = .ok (.getfield 32, 3) := by decide +kernel
theorem dc_M_brokenByType_97 : decode cb_M_brokenByType 97 = .ok (.iload 4, 2) := by decide +kernel
theorem dc_M_brokenByType_99 : decode cb_M_brokenByType 99 = .ok (.iload_n 2, 1) := by decide +kernel
theorem dc_M_brokenByType_100 : decode cb_M_brokenByType 100 = .ok (.iconst 3, 1) := by decide +kernel
theorem dc_M_brokenByType_101 : decode cb_M_brokenByType 101 = .ok (.if_icmp .ne 20, 3) := by decide +kernel
theorem dc_M_brokenByType_104 : decode cb_M_brokenByType 104 = .ok (.iload 5, 2) := by decide +kernel
theorem dc_M_brokenByType_106 : decode cb_M_brokenByType 106 = .ok (.ifCond .ne 15, 3) := by decide +kernel
theorem dc_M_brokenByType_109 : decode cb_M_brokenByType 109 = .ok (.aload_n 0, 1) := by decide +kernel
theorem dc_M_brokenByType_110 : decode cb_M_brokenByType 110 = .ok (.getfield 32, 3) := by decide +kernel
theorem dc_M_brokenByType_113 : decode cb_M_brokenByType 113 = .ok (.iload 4, 2) := by decide +kernel
theorem dc_M_brokenByType_115 : decode cb_M_brokenByType 115 = .ok (.iaload, 1) := by decide +kernel
theorem dc_M_brokenByType_116 : decode cb_M_brokenByType 116 = .ok (.iconst 1, 1) := by decide +kernel
theorem dc_M_brokenByType_117 : decode cb_M_brokenByType 117 = .ok (.iadd, 1) := by decide +kernel
theorem dc_M_brokenByType_118 : decode cb_M_brokenByType 118 = .ok (.goto 10, 3) := by decide +kernel
theorem dc_M_brokenByType_121 : decode cb_M_brokenByType 121 = .ok (.aload_n 0, 1) := by decide +kernel
theorem dc_M_brokenByType_122 : decode cb_M_brokenByType 122 = .ok (.getfield 32, 3) := by decide +kernel
theorem dc_M_brokenByType_125 : decode cb_M_brokenByType 125 = .ok (.iload 4, 2) := by decide +kernel
theorem dc_M_brokenByType_127 : decode cb_M_brokenByType 127 = .ok (.iaload, 1) := by decide +kernel
theorem dc_M_brokenByType_128 : decode cb_M_brokenByType 128 = .ok (.iastore, 1) := by decide +kernel
theorem dc_M_brokenByType_129 : decode cb_M_brokenByType 129 = .ok (.aload_n 0, 1) := by decide +kernel
theorem dc_M_brokenByType_130 : decode cb_M_brokenByType 130 = .ok (.aload_n 0, 1) := by decide +kernel
theorem dc_M_brokenByType_131 : decode cb_M_brokenByType 131 = .ok (.iload_n 1, 1) := by decide +kernel
theorem dc_M_brokenByType_132 : decode cb_M_brokenByType 132 = .ok (.invokevirtual 196, 3) := by decide +kernel
theorem dc_M_brokenByType_135 : decode cb_M_brokenByType 135 = .ok (.invokevirtual 199, 3) := by decide +kernel
theorem dc_M_brokenByType_138 : decode cb_M_brokenByType 138 = .ok (.iload_n 3, 1) := by decide +kernel
theorem dc_M_brokenByType_139 : decode cb_M_brokenByType 139 = .ok (.if_icmp .eq 6, 3) := by decide +kernel
theorem dc_M_brokenByType_142 : decode cb_M_brokenByType 142 = .ok (.iload 4, 2) := by decide +kernel
theorem dc_M_brokenByType_144 : decode cb_M_brokenByType 144 = .ok (.ireturn, 1) := by decide +kernel
theorem dc_M_brokenByType_145 : decode cb_M_brokenByType 145 = .ok (.iinc 4 1, 3) := by decide +kernel
theorem dc_M_brokenByType_148 : decode cb_M_brokenByType 148 = .ok (.goto (-131), 3) := by decide +kernel
theorem dc_M_brokenByType_151 : decode cb_M_brokenByType 151 = .ok (.iconst (-1), 1) := by decide +kernel
theorem dc_M_brokenByType_152 : decode cb_M_brokenByType 152 = .ok (.ireturn, 1) := by decide +kernel
theorem dc_M_brokenByLeaving_0 : decode cb_M_brokenByLeaving 0 = .ok (.aload_n 0, 1) := by decide +kernel
theorem dc_M_brokenByLeaving_1 : decode cb_M_brokenByLeaving 1 = .ok (.invokevirtual 193, 3) := by decide +kernel
theorem dc_M_brokenByLeaving_4 : decode cb_M_brokenByLeaving 4 = .ok (.aload_n 0, 1) := by decide +kernel
theorem dc_M_brokenByLeaving_5 : decode cb_M_brokenByLeaving 5 = .ok (.iload_n 1, 1) := by decide +kernel
theorem dc_M_brokenByLeaving_6 : decode cb_M_brokenByLeaving 6 = .ok (.invokevirtual 196, 3) := by decide +kernel
theorem dc_M_brokenByLeaving_9 : decode cb_M_brokenByLeaving 9 = .ok (.istore_n 2, 1) := by decide +kernel
theorem dc_M_brokenByLeaving_10 : decode cb_M_brokenByLeaving 10 = .ok (.aload_n 0, 1) := by decide +kernel
theorem dc_M_brokenByLeaving_11 : decode cb_M_brokenByLeaving 11 = .ok (.iload_n 2, 1) := by decide +kernel
theorem dc_M_brokenByLeaving_12 : decode cb_M_brokenByLeaving 12 = .ok (.invokevirtual 199, 3) := by decide +kernel
theorem dc_M_brokenByLeaving_15 : decode cb_M_brokenByLeaving 15 = .ok (.istore_n 3, 1) := by decide +kernel
theorem dc_M_brokenByLeaving_16 : decode cb_M_brokenByLeaving 16 = .ok (.iconst 0, 1) := by decide +kernel
theorem dc_M_brokenByLeaving_17 : decode cb_M_brokenByLeaving 17 = .ok (.istore 4, 2) := by decide +kernel
theorem dc_M_brokenByLeaving_19 : decode cb_M_brokenByLeaving 19 = .ok (.iload 4, 2) := by decide +kernel
theorem dc_M_brokenByLeaving_21 : decode cb_M_brokenByLeaving 21 = .ok (.aload_n 0, 1) := by decide +kernel
theorem dc_M_brokenByLeaving_22 : decode cb_M_brokenByLeaving 22 = .ok (.getfield 7, 3) := by decide +kernel
theorem dc_M_brokenByLeaving_25 : decode cb_M_brokenByLeaving 25 = .ok (.if_icmp .ge 64, 3) := by decide +kernel
theorem dc_M_brokenByLeaving_28 : decode cb_M_brokenByLeaving 28 = .ok (.aload_n 0, 1) := by decide +kernel
theorem dc_M_brokenByLeaving_29 : decode cb_M_brokenByLeaving 29 = .ok (.getfield 7, 3) := by decide +kernel
theorem dc_M_brokenByLeaving_32 : decode cb_M_brokenByLeaving 32 = .ok (.iconst 2, 1) := by decide +kernel
theorem dc_M_brokenByLeaving_33 : decode cb_M_brokenByLeaving 33 = .ok (.if_icmp .le 56, 3) := by decide +kernel
theorem dc_M_brokenByLeaving_36 : decode cb_M_brokenByLeaving 36 = .ok (.iload_n 2, 1) := by decide +kernel
theorem dc_M_brokenByLeaving_37 : decode cb_M_brokenByLeaving 37 = .ok (.iload 4, 2) := by decide +kernel
theorem dc_M_brokenByLeaving_39 : decode cb_M_brokenByLeaving 39 = .ok (.ishr, 1) := by decide +kernel
theorem dc_M_brokenByLeaving_40 : decode cb_M_brokenByLeaving 40 = .ok (.iconst 1, 1) := by decide +kernel
theorem dc_M_brokenByLeaving_41 : decode cb_M_brokenByLeaving 41 = .ok (.iand, 1) := by decide +kernel
theorem dc_M_brokenByLeaving_42 : decode cb_M_brokenByLeaving 42 = .ok (.ifCond .ne 41, 3) := by decide +kernel
theorem dc_M_brokenByLeaving_45 : decode cb_M_brokenByLeaving 45 = .ok (.aload_n 0, 1) := by decide +kernel
theorem dc_M_brokenByLeaving_46 : decode cb_M_brokenByLeaving 46 = .ok (.invokevirtual 193, 3) := by decide +kernel
theorem dc_M_brokenByLeaving_49 : decode cb_M_brokenByLeaving 49 = .ok (.aload_n 0, 1) := by decide +kernel
theorem dc_M_brokenByLeaving_50 : decode cb_M_brokenByLeaving 50 = .ok (.iload 4, 2) := by decide +kernel
theorem dc_M_brokenByLeaving_52 : decode cb_M_brokenByLeaving 52 = .ok (.invokevirtual 226, 3) := by decide +kernel
theorem dc_M_brokenByLeaving_55 : decode cb_M_brokenByLeaving 55 = .ok (.aload_n 0, 1) := by decide +kernel
theorem dc_M_brokenByLeaving_56 : decode cb_M_brokenByLeaving 56 = .ok (.aload_n 0, 1) := by decide +kernel
theorem dc_M_brokenByLeaving_57 : decode cb_M_brokenByLeaving 57 = .ok (.iload_n 1, 1) := by decide +kernel
theorem dc_M_brokenByLeaving_58 : decode cb_M_brokenByLeaving 58 = .ok (.invokevirtual 196, 3) := by decide +kernel
theorem dc_M_brokenByLeaving_61 : decode cb_M_brokenByLeaving 61 = .ok (.invokevirtual 199, 3) := by decide +kernel
theorem dc_M_brokenByLeaving_64 : decode cb_M_brokenByLeaving 64 = .ok (.iload_n 3, 1) := by decide +kernel
theorem dc_M_brokenByLeaving_65 : decode cb_M_brokenByLeaving 65 = .ok (.iload 4, 2) := by decide +kernel
theorem dc_M_brokenByLeaving_67 : decode cb_M_brokenByLeaving 67 = .ok (.if_icmp .le 9, 3) := by decide +kernel
theorem dc_M_brokenByLeaving_70 : decode cb_M_brokenByLeaving 70 = .ok (.iload_n 3, 1) := by decide +kernel
theorem dc_M_brokenByLeaving_71 : decode cb_M_brokenByLeaving 71 = .ok (.iconst 1, 1) := by decide +kernel
theorem dc_M_brokenByLeaving_72 : decode cb_M_brokenByLeaving 72 = .ok (.isub, 1) := by decide +kernel
theorem dc_M_brokenByLeaving_73 : decode cb_M_brokenByLeaving 73 = .ok (.goto 4, 3) := by decide +kernel
theorem dc_M_brokenByLeaving_76 : decode cb_M_brokenByLeaving 76 = .ok (.iload_n 3, 1) := by decide +kernel
theorem dc_M_brokenByLeaving_77 : decode cb_M_brokenByLeaving 77 = .ok (.if_icmp .eq 6, 3) := by decide +kernel
theorem dc_M_brokenByLeaving_80 : decode cb_M_brokenByLeaving 80 = .ok (.iload 4, 2) := by decide +kernel
theorem dc_M_brokenByLeaving_82 : decode cb_M_brokenByLeaving 82 = .ok (.ireturn, 1) := by decide +kernel
theorem dc_M_brokenByLeaving_83 : decode cb_M_brokenByLeaving 83 = .ok (.iinc 4 1, 3) := by decide +kernel
theorem dc_M_brokenByLeaving_86 : decode cb_M_brokenByLeaving 86 = .ok (.goto (-67), 3) := by decide +kernel
theorem dc_M_brokenByLeaving_89 : decode cb_M_brokenByLeaving 89 = .ok (.iconst (-1), 1) := by decide +kernel
theorem dc_M_brokenByLeaving_90 : decode cb_M_brokenByLeaving 90 = .ok (.ireturn, 1) := by decide +kernel
theorem dc_M_property_0 : decode cb_M_property 0 = .ok (.aload_n 0, 1) := by decide +kernel
theorem dc_M_property_1 : decode cb_M_property 1 = .ok (.iload_n 1, 1) := by decide +kernel
theorem dc_M_property_2 : decode cb_M_property 2 = .ok (.invokestatic 190, 3) := by decide +kernel
theorem dc_M_property_5 : decode cb_M_property 5 = .ok (.ifCond .eq 16, 3) := by decide +kernel
theorem dc_M_property_8 : decode cb_M_property 8 = .ok (.iload_n 2, 1) := by decide +kernel
theorem dc_M_property_9 : decode cb_M_property 9 = .ok (.iconst 0, 1) := by decide +kernel
theorem dc_M_property_10 : decode cb_M_property 10 = .ok (.iconst 4, 1) := by decide +kernel
theorem dc_M_property_11 : decode cb_M_property 11 = .ok (.invokestatic 82, 3) := by decide +kernel
theorem dc_M_property_14 : decode cb_M_property 14 = .ok (.ifCond .eq 7, 3) := by decide +kernel
theorem dc_M_property_17 : decode cb_M_property 17 = .ok (.iconst 1, 1) := by decide +kernel
theorem dc_M_property_18 : decode cb_M_property 18 = .ok (.goto 4, 3) := by decide +kernel
theorem dc_M_property_21 : decode cb_M_property 21 = .ok (.iconst 0, 1) := by decide +kernel
theorem dc_M_property_22 : decode cb_M_property 22 = .ok (.iconst 1, 1) := by decide +kernel
theorem dc_M_property_23 : decode cb_M_property 23 = .ok (.invokevirtual 86, 3) := by decide +kernel
theorem dc_M_property_26 : decode cb_M_property 26 = .ok (.ifCond .ne 5, 3) := by decide +kernel
theorem dc_M_property_29 : decode cb_M_property 29 = .ok (.iconst 0, 1) := by decide +kernel
theorem dc_M_property_30 : decode cb_M_property 30 = .ok (.ireturn, 1) := by decide +kernel
theorem dc_M_property_31 : decode cb_M_property 31 = .ok (.aload_n 0, 1) := by decide +kernel
theorem dc_M_property_32 : decode cb_M_property 32 = .ok (.iload_n 2, 1) := by decide +kernel
theorem dc_M_property_33 : decode cb_M_property 33 = .ok (.iconst 2, 1) := by decide +kernel
theorem dc_M_property_34 : decode cb_M_property 34 = .ok (.if_icmp .ge 12, 3) := by decide +kernel
theorem dc_M_property_37 : decode cb_M_property 37 = .ok (.aload_n 0, 1) := by decide +kernel
theorem dc_M_property_38 : decode cb_M_property 38 = .ok (.iload_n 1, 1) := by decide +kernel
theorem dc_M_property_39 : decode cb_M_property 39 = .ok (.iload_n 2, 1) := by decide +kernel
theorem dc_M_property_40 : decode cb_M_property 40 = .ok (.invokevirtual 230, 3) := by decide +kernel
theorem dc_M_property_43 : decode cb_M_property 43 = .ok (.goto 22, 3) := by decide +kernel
theorem dc_M_property_46 : decode cb_M_property 46 = .ok (.iload_n 2, 1) := by decide +kernel
theorem dc_M_property_47 : decode cb_M_property 47 = .ok (.iconst 4, 1) := by decide +kernel
theorem dc_M_property_48 : decode cb_M_property 48 = .ok (.if_icmp .ge 12, 3) := by decide +kernel
theorem dc_M_property_51 : decode cb_M_property 51 = .ok (.aload_n 0, 1) := by decide +kernel
theorem dc_M_property_52 : decode cb_M_property 52 = .ok (.iload_n 1, 1) := by decide +kernel
theorem dc_M_property_53 : decode cb_M_property 53 = .ok (.iload_n 2, 1) := by decide +kernel
theorem dc_M_property_54 : decode cb_M_property 54 = .ok (.invokevirtual 233, 3) := by decide +kernel
theorem dc_M_property_57 : decode cb_M_property 57 = .ok (.goto 8, 3) := by decide +kernel
theorem dc_M_property_60 : decode cb_M_property 60 = .ok (.aload_n 0, 1) := by decide +kernel
theorem dc_M_property_61 : decode cb_M_property 61 = .ok (.iload_n 1, 1) := by decide +kernel
theorem dc_M_property_62 : decode cb_M_property 62 = .ok (.invokevirtual 236, 3) := by decide +kernel
theorem dc_M_property_65 : decode cb_M_property 65 = .ok (.putfield 70, 3) := by decide +kernel
theorem dc_M_property_68 : decode cb_M_property 68 = .ok (.aload_n 0, 1) := by decide +kernel
theorem dc_M_property_69 : decode cb_M_property 69 = .ok (.getfield 70, 3) := by decide +kernel
theorem dc_M_property_72 : decode cb_M_property 72 = .ok (.iconst (-1), 1) := by decide +kernel
theorem dc_M_property_73 : decode cb_M_property 73 = .ok (.if_icmp .ne 7, 3) := by decide +kernel
theorem dc_M_property_76 : decode cb_M_property 76 = .ok (.iconst 1, 1) := by decide +kernel
theorem dc_M_property_77 : decode cb_M_property 77 = .ok (.goto 4, 3) := by decide +kernel
theorem dc_M_property_80 : decode cb_M_property 80 = .ok (.iconst 0, 1) := by decide +kernel
theorem dc_M_property_81 : decode cb_M_property 81 = .ok (.ireturn, 1) := by decide +kernel
theorem dc_M_witness_0 : decode cb_M_witness 0 = .ok (.aload_n 0, 1) := by decide +kernel
theorem dc_M_witness_1 : decode cb_M_witness 1 = .ok (.iconst 0, 1) := by decide +kernel
theorem dc_M_witness_2 : decode cb_M_witness 2 = .ok (.putfield 79, 3) := by decide +kernel
theorem dc_M_witness_5 : decode cb_M_witness 5 = .ok (.aload_n 0, 1) := by decide +kernel
theorem dc_M_witness_6 : decode cb_M_witness 6 = .ok (.getfield 70, 3) := by decide +kernel
theorem dc_M_witness_9 : decode cb_M_witness 9 = .ok (.ireturn, 1) := by decide +kernel
theorem dc_M_circle_0 : decode cb_M_circle 0 = .ok (.aload_n 0, 1) := by decide +kernel
theorem dc_M_circle_1 : decode cb_M_circle 1 = .ok (.iload_n 1, 1) := by decide +kernel
theorem dc_M_circle_2 : decode cb_M_circle 2 = .ok (.iconst 0, 1) := by decide +kernel
theorem dc_M_circle_3 : decode cb_M_circle 3 = .ok (.iconst 2, 1) := by decide +kernel
theorem dc_M_circle_4 : decode cb_M_circle 4 = .ok (.invokestatic 82, 3) := by decide +kernel
theorem dc_M_circle_7 : decode cb_M_circle 7 = .ok (.iconst 1, 1) := by decide +kernel
theorem dc_M_circle_8 : decode cb_M_circle 8 = .ok (.invokevirtual 86, 3) := by decide +kernel
theorem dc_M_circle_11 : decode cb_M_circle 11 = .ok (.ifCond .ne 5, 3) := by decide +kernel
theorem dc_M_circle_14 : decode cb_M_circle 14 = .ok (.iconst 0, 1) := by decide +kernel
theorem dc_M_circle_15 : decode cb_M_circle 15 = .ok (.ireturn, 1) := by decide +kernel
theorem dc_M_circle_16 : decode cb_M_circle 16 = .ok (.aload_n 0, 1) := by decide +kernel
theorem dc_M_circle_17 : decode cb_M_circle 17 = .ok (.invokevirtual 193, 3) := by decide +kernel
theorem dc_M_circle_20 : decode cb_M_circle 20 = .ok (.aload_n 0, 1) := by decide +kernel
theorem dc_M_circle_21 : decode cb_M_circle 21 = .ok (.invokevirtual 162, 3) := by decide +kernel
theorem dc_M_circle_24 : decode cb_M_circle 24 = .ok (.iconst 0, 1) := by decide +kernel
theorem dc_M_circle_25 : decode cb_M_circle 25 = .ok (.istore_n 2, 1) := by decide +kernel
theorem dc_M_circle_26 : decode cb_M_circle 26 = .ok (.iload_n 2, 1) := by decide +kernel
theorem dc_M_circle_27 : decode cb_M_circle 27 = .ok (.sipush 343, 3) := by decide +kernel
theorem dc_M_circle_30 : decode cb_M_circle 30 = .ok (.if_icmp .ge 107, 3) := by decide +kernel
theorem dc_M_circle_33 : decode cb_M_circle 33 = .ok (.iload_n 2, 1) := by decide +kernel
theorem dc_M_circle_34 : decode cb_M_circle 34 = .ok (.bipush 49, 2) := by decide +kernel
theorem dc_M_circle_36 : decode cb_M_circle 36 = .ok (.idiv, 1) := by decide +kernel
theorem dc_M_circle_37 : decode cb_M_circle 37 = .ok (.istore_n 3, 1) := by decide +kernel
theorem dc_M_circle_38 : decode cb_M_circle 38 = .ok (.iload_n 2, 1) := by decide +kernel
theorem dc_M_circle_39 : decode cb_M_circle 39 = .ok (.bipush 7, 2) := by decide +kernel
theorem dc_M_circle_41 : decode cb_M_circle 41 = .ok (.idiv, 1) := by decide +kernel
theorem dc_M_circle_42 : decode cb_M_circle 42 = .ok (.bipush 7, 2) := by decide +kernel
theorem dc_M_circle_44 : decode cb_M_circle 44 = .ok (.irem, 1) := by decide +kernel
theorem dc_M_circle_45 : decode cb_M_circle 45 = .ok (.istore 4, 2) := by decide +kernel
theorem dc_M_circle_47 : decode cb_M_circle 47 = .ok (.iload_n 2, 1) := by decide +kernel
theorem dc_M_circle_48 : decode cb_M_circle 48 = .ok (.bipush 7, 2) := by decide +kernel
theorem dc_M_circle_50 : decode cb_M_circle 50 = .ok (.irem, 1) := by decide +kernel
theorem dc_M_circle_51 : decode cb_M_circle 51 = .ok (.istore 5, 2) := by decide +kernel
theorem dc_M_circle_53 : decode cb_M_circle 53 = .ok (.iload_n 3, 1) := by decide +kernel
theorem dc_M_circle_54 : decode cb_M_circle 54 = .ok (.aload_n 0, 1) := by decide +kernel
theorem dc_M_circle_55 : decode cb_M_circle 55 = .ok (.getfield 7, 3) := by decide +kernel
theorem dc_M_circle_58 : decode cb_M_circle 58 = .ok (.if_icmp .ge 73, 3) := by decide +kernel
theorem dc_M_circle_61 : decode cb_M_circle 61 = .ok (.iload 4, 2) := by decide +kernel
theorem dc_M_circle_63 : decode cb_M_circle 63 = .ok (.aload_n 0, 1) := by decide +kernel
theorem dc_M_circle_64 : decode cb_M_circle 64 = .ok (.getfield 7, 3) := by decide +kernel
theorem dc_M_circle_67 : decode cb_M_circle 67 = .ok (.if_icmp .ge 64, 3) := by decide +kernel
theorem dc_M_circle_70 : decode cb_M_circle 70 = .ok (.iload 5, 2) := by decide +kernel
theorem dc_M_circle_72 : decode cb_M_circle 72 = .ok (.aload_n 0, 1) := by decide +kernel
theorem dc_M_circle_73 : decode cb_M_circle 73 = .ok (.getfield 7, 3) := by decide +kernel
theorem dc_M_circle_76 : decode cb_M_circle 76 = .ok (.if_icmp .ge 55, 3) := by decide +kernel
theorem dc_M_circle_79 : decode cb_M_circle 79 = .ok (.aload_n 0, 1) := by decide +kernel
theorem dc_M_circle_80 : decode cb_M_circle 80 = .ok (.iload_n 3, 1) := by decide +kernel
theorem dc_M_circle_81 : decode cb_M_circle 81 = .ok (.iload 4, 2) := by decide +kernel
theorem dc_M_circle_83 : decode cb_M_circle 83 = .ok (.invokevirtual 126, 3) := by decide +kernel
theorem dc_M_circle_86 : decode cb_M_circle 86 = .ok (.ifCond .eq 45, 3) := by decide +kernel
theorem dc_M_circle_89 : decode cb_M_circle 89 = .ok (.aload_n 0, 1) := by decide +kernel
theorem dc_M_circle_90 : decode cb_M_circle 90 = .ok (.iload 4, 2) := by decide +kernel
theorem dc_M_circle_92 : decode cb_M_circle 92 = .ok (.iload 5, 2) := by decide +kernel
theorem dc_M_circle_94 : decode cb_M_circle 94 = .ok (.invokevirtual 126, 3) := by decide +kernel
theorem dc_M_circle_97 : decode cb_M_circle 97 = .ok (.ifCond .eq 34, 3) := by decide +kernel
theorem dc_M_circle_100 : decode cb_M_circle 100 = .ok (.aload_n 0, 1) := by decide +kernel
theorem dc_M_circle_101 : decode cb_M_circle 101 = .ok (.iload 5, 2) := by decide +kernel
theorem dc_M_circle_103 : decode cb_M_circle 103 = .ok (.iload_n 3, 1) := by decide +kernel
theorem dc_M_circle_104 : decode cb_M_circle 104 = .ok (.invokevirtual 126, 3) := by decide +kernel
theorem dc_M_circle_107 : decode cb_M_circle 107 = .ok (.ifCond .eq 24, 3) := by decide +kernel
theorem dc_M_circle_110 : decode cb_M_circle 110 = .ok (.iload_n 1, 1) := by decide +kernel
theorem dc_M_circle_111 : decode cb_M_circle 111 = .ok (.ifCond .ne 7, 3) := by decide +kernel
theorem dc_M_circle_114 : decode cb_M_circle 114 = .ok (.iload_n 3, 1) := by decide +kernel
theorem dc_M_circle_115 : decode cb_M_circle 115 = .ok (.goto 15, 3) := by decide +kernel
theorem dc_M_circle_118 : decode cb_M_circle 118 = .ok (.iload_n 1, 1) := by decide +kernel
theorem dc_M_circle_119 : decode cb_M_circle 119 = .ok (.iconst 1, 1) := by decide +kernel
theorem dc_M_circle_120 : decode cb_M_circle 120 = .ok (.if_icmp .ne 8, 3) := by decide +kernel
theorem dc_M_circle_123 : decode cb_M_circle 123 = .ok (.iload 4, 2) := by decide +kernel
theorem dc_M_circle_125 : decode cb_M_circle 125 = .ok (.goto 5, 3) := by decide +kernel
theorem dc_M_circle_128 : decode cb_M_circle 128 = .ok (.iload 5, 2) := by decide +kernel
theorem dc_M_circle_130 : decode cb_M_circle 130 = .ok (.ireturn, 1) := by decide +kernel
theorem dc_M_circle_131 : decode cb_M_circle 131 = .ok (.iinc 2 1, 3) := by decide +kernel
theorem dc_M_circle_134 : decode cb_M_circle 134 = .ok (.goto (-108), 3) := by decide +kernel
theorem dc_M_circle_137 : decode cb_M_circle 137 = .ok (.iconst (-1), 1) := by decide +kernel
theorem dc_M_circle_138 : decode cb_M_circle 138 = .ok (.ireturn, 1) := by decide +kernel
theorem dc_M_clones_0 : decode cb_M_clones 0 = .ok (.aload_n 0, 1) := by decide +kernel
theorem dc_M_clones_1 : decode cb_M_clones 1 = .ok (.iload_n 1, 1) := by decide +kernel
theorem dc_M_clones_2 : decode cb_M_clones 2 = .ok (.ifCond .le 24, 3) := by decide +kernel
theorem dc_M_clones_5 : decode cb_M_clones 5 = .ok (.iload_n 1, 1) := by decide +kernel
theorem dc_M_clones_6 : decode cb_M_clones 6 = .ok (.iconst 1, 1) := by decide +kernel
theorem dc_M_clones_7 : decode cb_M_clones 7 = .ok (.aload_n 0, 1) := by decide +kernel
theorem dc_M_clones_8 : decode cb_M_clones 8 = .ok (.getfield 7, 3) := by decide +kernel
theorem dc_M_clones_11 : decode cb_M_clones 11 = .ok (.ishl, 1) := by decide +kernel
theorem dc_M_clones_12 : decode cb_M_clones 12 = .ok (.if_icmp .ge 14, 3) := by decide +kernel
theorem dc_M_clones_15 : decode cb_M_clones 15 = .ok (.iload_n 1, 1) := by decide +kernel
theorem dc_M_clones_16 : decode cb_M_clones 16 = .ok (.invokestatic 136, 3) := by decide +kernel
theorem dc_M_clones_19 : decode cb_M_clones 19 = .ok (.ifCond .ne 7, 3) := by decide +kernel
theorem dc_M_clones_22 : decode cb_M_clones 22 = .ok (.iconst 1, 1) := by decide +kernel
theorem dc_M_clones_23 : decode cb_M_clones 23 = .ok (.goto 4, 3) := by decide +kernel
theorem dc_M_clones_26 : decode cb_M_clones 26 = .ok (.iconst 0, 1) := by decide +kernel
theorem dc_M_clones_27 : decode cb_M_clones 27 = .ok (.iconst 1, 1) := by decide +kernel
theorem dc_M_clones_28 : decode cb_M_clones 28 = .ok (.invokevirtual 86, 3) := by decide +kernel
theorem dc_M_clones_31 : decode cb_M_clones 31 = .ok (.ifCond .ne 5, 3) := by decide +kernel
theorem dc_M_clones_34 : decode cb_M_clones 34 = .ok (.iconst 0, 1) := by decide +kernel
theorem dc_M_clones_35 : decode cb_M_clones 35 = .ok (.ireturn, 1) := by decide +kernel
theorem dc_M_clones_36 : decode cb_M_clones 36 = .ok (.iconst 1, 1) := by decide +kernel
theorem dc_M_clones_37 : decode cb_M_clones 37 = .ok (.istore_n 2, 1) := by decide +kernel
theorem dc_M_clones_38 : decode cb_M_clones 38 = .ok (.iconst 0, 1) := by decide +kernel
theorem dc_M_clones_39 : decode cb_M_clones 39 = .ok (.istore_n 3, 1) := by decide +kernel
theorem dc_M_clones_40 : decode cb_M_clones 40 = .ok (.iload_n 3, 1) := by decide +kernel
theorem dc_M_clones_41 : decode cb_M_clones 41 = .ok (.aload_n 0, 1) := by decide +kernel
end
section
theorem dc_M_clones_42 : decode cb_M_clones 42 = .ok (.getfield 76, 3) := by decide +kernel
theorem dc_M_clones_45 : decode cb_M_clones 45 = .ok (.if_icmp .ge 137, 3) := by decide +kernel
theorem dc_M_clones_48 : decode cb_M_clones 48 = .ok (.iconst 0, 1) := by decide +kernel
theorem dc_M_clones_49 : decode cb_M_clones 49 = .ok (.istore 4, 2) := by decide +kernel
theorem dc_M_clones_51 : decode cb_M_clones 51 = .ok (.iconst 0, 1) := by decide +kernel
theorem dc_M_clones_52 : decode cb_M_clones 52 = .ok (.istore 5, 2) := by decide +kernel
theorem dc_M_clones_54 : decode cb_M_clones 54 = .ok (.iload 5, 2) := by decide +kernel
theorem dc_M_clones_56 : decode cb_M_clones 56 = .ok (.aload_n 0, 1) := by decide +kernel
theorem dc_M_clones_57 : decode cb_M_clones 57 = .ok (.getfield 7, 3) := by decide +kernel
theorem dc_M_clones_60 : decode cb_M_clones 60 = .ok (.if_icmp .ge 91, 3) := by decide +kernel
theorem dc_M_clones_63 : decode cb_M_clones 63 = .ok (.iload_n 1, 1) := by decide +kernel
theorem dc_M_clones_64 : decode cb_M_clones 64 = .ok (.aload_n 0, 1) := by decide +kernel
theorem dc_M_clones_65 : decode cb_M_clones 65 = .ok (.getfield 13, 3) := by decide +kernel
theorem dc_M_clones_68 : decode cb_M_clones 68 = .ok (.bipush 7, 2) := by decide +kernel
theorem dc_M_clones_70 : decode cb_M_clones 70 = .ok (.iload_n 3, 1) := by decide +kernel
theorem dc_M_clones_71 : decode cb_M_clones 71 = .ok (.imul, 1) := by decide +kernel
theorem dc_M_clones_72 : decode cb_M_clones 72 = .ok (.iload 5, 2) := by decide +kernel
theorem dc_M_clones_74 : decode cb_M_clones 74 = .ok (.iadd, 1) := by decide +kernel
theorem dc_M_clones_75 : decode cb_M_clones 75 = .ok (.iaload, 1) := by decide +kernel
theorem dc_M_clones_76 : decode cb_M_clones 76 = .ok (.ishr, 1) := by decide +kernel
theorem dc_M_clones_77 : decode cb_M_clones 77 = .ok (.iconst 1, 1) := by decide +kernel
theorem dc_M_clones_78 : decode cb_M_clones 78 = .ok (.iand, 1) := by decide +kernel
theorem dc_M_clones_79 : decode cb_M_clones 79 = .ok (.iconst 1, 1) := by decide +kernel
theorem dc_M_clones_80 : decode cb_M_clones 80 = .ok (.if_icmp .ne 7, 3) := by decide +kernel
theorem dc_M_clones_83 : decode cb_M_clones 83 = .ok (.iconst 1, 1) := by decide +kernel
theorem dc_M_clones_84 : decode cb_M_clones 84 = .ok (.goto 4, 3) := by decide +kernel
theorem dc_M_clones_87 : decode cb_M_clones 87 = .ok (.iconst 0, 1) := by decide +kernel
theorem dc_M_clones_88 : decode cb_M_clones 88 = .ok (.istore 6, 2) := by decide +kernel
theorem dc_M_clones_90 : decode cb_M_clones 90 = .ok (.iload 5, 2) := by decide +kernel
theorem dc_M_clones_92 : decode cb_M_clones 92 = .ok (.ifCond .le 29, 3) := by decide +kernel
theorem dc_M_clones_95 : decode cb_M_clones 95 = .ok (.iload_n 1, 1) := by decide +kernel
theorem dc_M_clones_96 : decode cb_M_clones 96 = .ok (.aload_n 0, 1) := by decide +kernel
theorem dc_M_clones_97 : decode cb_M_clones 97 = .ok (.getfield 13, 3) := by decide +kernel
theorem dc_M_clones_100 : decode cb_M_clones 100 = .ok (.bipush 7, 2) := by decide +kernel
theorem dc_M_clones_102 : decode cb_M_clones 102 = .ok (.iload_n 3, 1) := by decide +kernel
theorem dc_M_clones_103 : decode cb_M_clones 103 = .ok (.imul, 1) := by decide +kernel
theorem dc_M_clones_104 : decode cb_M_clones 104 = .ok (.iload 5, 2) := by decide +kernel
theorem dc_M_clones_106 : decode cb_M_clones 106 = .ok (.iadd, 1) := by decide +kernel
theorem dc_M_clones_107 : decode cb_M_clones 107 = .ok (.iconst 1, 1) := by decide +kernel
theorem dc_M_clones_108 : decode cb_M_clones 108 = .ok (.isub, 1) := by decide +kernel
theorem dc_M_clones_109 : decode cb_M_clones 109 = .ok (.iaload, 1) := by decide +kernel
theorem dc_M_clones_110 : decode cb_M_clones 110 = .ok (.ishr, 1) := by decide +kernel
theorem dc_M_clones_111 : decode cb_M_clones 111 = .ok (.iconst 1, 1) := by decide +kernel
theorem dc_M_clones_112 : decode cb_M_clones 112 = .ok (.iand, 1) := by decide +kernel
theorem dc_M_clones_113 : decode cb_M_clones 113 = .ok (.iconst 1, 1) := by decide +kernel
theorem dc_M_clones_114 : decode cb_M_clones 114 = .ok (.if_icmp .ne 7, 3) := by decide +kernel
theorem dc_M_clones_117 : decode cb_M_clones 117 = .ok (.iconst 1, 1) := by decide +kernel
theorem dc_M_clones_118 : decode cb_M_clones 118 = .ok (.goto 4, 3) := by decide +kernel
theorem dc_M_clones_121 : decode cb_M_clones 121 = .ok (.iconst 0, 1) := by decide +kernel
theorem dc_M_clones_122 : decode cb_M_clones 122 = .ok (.istore 7, 2) := by decide +kernel
theorem dc_M_clones_124 : decode cb_M_clones 124 = .ok (.iload 6, 2) := by decide +kernel
theorem dc_M_clones_126 : decode cb_M_clones 126 = .ok (.ifCond .eq 15, 3) := by decide +kernel
theorem dc_M_clones_129 : decode cb_M_clones 129 = .ok (.iload 7, 2) := by decide +kernel
theorem dc_M_clones_131 : decode cb_M_clones 131 = .ok (.ifCond .ne 10, 3) := by decide +kernel
theorem dc_M_clones_134 : decode cb_M_clones 134 = .ok (.iload 4, 2) := by decide +kernel
theorem dc_M_clones_136 : decode cb_M_clones 136 = .ok (.iconst 1, 1) := by decide +kernel
theorem dc_M_clones_137 : decode cb_M_clones 137 = .ok (.iadd, 1) := by decide +kernel
theorem dc_M_clones_138 : decode cb_M_clones 138 = .ok (.goto 5, 3) := by decide +kernel
theorem dc_M_clones_141 : decode cb_M_clones 141 = .ok (.iload 4, 2) := by decide +kernel
theorem dc_M_clones_143 : decode cb_M_clones 143 = .ok (.istore 4, 2) := by decide +kernel
theorem dc_M_clones_145 : decode cb_M_clones 145 = .ok (.iinc 5 1, 3) := by decide +kernel
theorem dc_M_clones_148 : decode cb_M_clones 148 = .ok (.goto (-94), 3) := by decide +kernel
theorem dc_M_clones_151 : decode cb_M_clones 151 = .ok (.iload_n 2, 1) := by decide +kernel
theorem dc_M_clones_152 : decode cb_M_clones 152 = .ok (.ifCond .eq 22, 3) := by decide +kernel
theorem dc_M_clones_155 : decode cb_M_clones 155 = .ok (.aload_n 0, 1) := by decide +kernel
theorem dc_M_clones_156 : decode cb_M_clones 156 = .ok (.getfield 17, 3) := by decide +kernel
theorem dc_M_clones_159 : decode cb_M_clones 159 = .ok (.iload_n 3, 1) := by decide +kernel
theorem dc_M_clones_160 : decode cb_M_clones 160 = .ok (.iaload, 1) := by decide +kernel
theorem dc_M_clones_161 : decode cb_M_clones 161 = .ok (.ifCond .eq 9, 3) := by decide +kernel
theorem dc_M_clones_164 : decode cb_M_clones 164 = .ok (.iload 4, 2) := by decide +kernel
theorem dc_M_clones_166 : decode cb_M_clones 166 = .ok (.iconst 1, 1) := by decide +kernel
theorem dc_M_clones_167 : decode cb_M_clones 167 = .ok (.if_icmp .ne 7, 3) := by decide +kernel
theorem dc_M_clones_170 : decode cb_M_clones 170 = .ok (.iconst 1, 1) := by decide +kernel
theorem dc_M_clones_171 : decode cb_M_clones 171 = .ok (.goto 4, 3) := by decide +kernel
theorem dc_M_clones_174 : decode cb_M_clones 174 = .ok (.iconst 0, 1) := by decide +kernel
theorem dc_M_clones_175 : decode cb_M_clones 175 = .ok (.istore_n 2, 1) := by decide +kernel
theorem dc_M_clones_176 : decode cb_M_clones 176 = .ok (.iinc 3 1, 3) := by decide +kernel
theorem dc_M_clones_179 : decode cb_M_clones 179 = .ok (.goto (-139), 3) := by decide +kernel
theorem dc_M_clones_182 : decode cb_M_clones 182 = .ok (.iload_n 2, 1) := by decide +kernel
theorem dc_M_clones_183 : decode cb_M_clones 183 = .ok (.ireturn, 1) := by decide +kernel
theorem dc_M_count_0 : decode cb_M_count 0 = .ok (.aload_n 0, 1) := by decide +kernel
theorem dc_M_count_1 : decode cb_M_count 1 = .ok (.iload_n 1, 1) := by decide +kernel
theorem dc_M_count_2 : decode cb_M_count 2 = .ok (.iconst 0, 1) := by decide +kernel
theorem dc_M_count_3 : decode cb_M_count 3 = .ok (.iconst 2, 1) := by decide +kernel
theorem dc_M_count_4 : decode cb_M_count 4 = .ok (.invokestatic 82, 3) := by decide +kernel
theorem dc_M_count_7 : decode cb_M_count 7 = .ok (.iconst 1, 1) := by decide +kernel
theorem dc_M_count_8 : decode cb_M_count 8 = .ok (.invokevirtual 86, 3) := by decide +kernel
theorem dc_M_count_11 : decode cb_M_count 11 = .ok (.ifCond .ne 5, 3) := by decide +kernel
theorem dc_M_count_14 : decode cb_M_count 14 = .ok (.iconst 0, 1) := by decide +kernel
theorem dc_M_count_15 : decode cb_M_count 15 = .ok (.ireturn, 1) := by decide +kernel
theorem dc_M_count_16 : decode cb_M_count 16 = .ok (.iconst 0, 1) := by decide +kernel
theorem dc_M_count_17 : decode cb_M_count 17 = .ok (.istore_n 2, 1) := by decide +kernel
theorem dc_M_count_18 : decode cb_M_count 18 = .ok (.iconst 0, 1) := by decide +kernel
theorem dc_M_count_19 : decode cb_M_count 19 = .ok (.istore_n 3, 1) := by decide +kernel
theorem dc_M_count_20 : decode cb_M_count 20 = .ok (.iload_n 3, 1) := by decide +kernel
theorem dc_M_count_21 : decode cb_M_count 21 = .ok (.aload_n 0, 1) := by decide +kernel
theorem dc_M_count_22 : decode cb_M_count 22 = .ok (.getfield 76, 3) := by decide +kernel
theorem dc_M_count_25 : decode cb_M_count 25 = .ok (.if_icmp .ge 18, 3) := by decide +kernel
theorem dc_M_count_28 : decode cb_M_count 28 = .ok (.iload_n 2, 1) := by decide +kernel
theorem dc_M_count_29 : decode cb_M_count 29 = .ok (.aload_n 0, 1) := by decide +kernel
theorem dc_M_count_30 : decode cb_M_count 30 = .ok (.getfield 17, 3) := by decide +kernel
theorem dc_M_count_33 : decode cb_M_count 33 = .ok (.iload_n 3, 1) := by decide +kernel
theorem dc_M_count_34 : decode cb_M_count 34 = .ok (.iaload, 1) := by decide +kernel
theorem dc_M_count_35 : decode cb_M_count 35 = .ok (.iadd, 1) := by decide +kernel
theorem dc_M_count_36 : decode cb_M_count 36 = .ok (.istore_n 2, 1) := by decide +kernel
theorem dc_M_count_37 : decode cb_M_count 37 = .ok (.iinc 3 1, 3) := by decide +kernel
theorem dc_M_count_40 : decode cb_M_count 40 = .ok (.goto (-20), 3) := by decide +kernel
theorem dc_M_count_43 : decode cb_M_count 43 = .ok (.iload_n 1, 1) := by decide +kernel
theorem dc_M_count_44 : decode cb_M_count 44 = .ok (.ifCond .ne 10, 3) := by decide +kernel
theorem dc_M_count_47 : decode cb_M_count 47 = .ok (.aload_n 0, 1) := by decide +kernel
theorem dc_M_count_48 : decode cb_M_count 48 = .ok (.getfield 7, 3) := by decide +kernel
theorem dc_M_count_51 : decode cb_M_count 51 = .ok (.goto 16, 3) := by decide +kernel
theorem dc_M_count_54 : decode cb_M_count 54 = .ok (.iload_n 1, 1) := by decide +kernel
theorem dc_M_count_55 : decode cb_M_count 55 = .ok (.iconst 1, 1) := by decide +kernel
theorem dc_M_count_56 : decode cb_M_count 56 = .ok (.if_icmp .ne 10, 3) := by decide +kernel
theorem dc_M_count_59 : decode cb_M_count 59 = .ok (.aload_n 0, 1) := by decide +kernel
theorem dc_M_count_60 : decode cb_M_count 60 = .ok (.getfield 76, 3) := by decide +kernel
theorem dc_M_count_63 : decode cb_M_count 63 = .ok (.goto 4, 3) := by decide +kernel
theorem dc_M_count_66 : decode cb_M_count 66 = .ok (.iload_n 2, 1) := by decide +kernel
theorem dc_M_count_67 : decode cb_M_count 67 = .ok (.ireturn, 1) := by decide +kernel
theorem dc_A_init_0 : decode cb_A_init 0 = .ok (.aload_n 0, 1) := by decide +kernel
theorem dc_A_init_1 : decode cb_A_init 1 = .ok (.invokespecial 3, 3) := by decide +kernel
theorem dc_A_init_4 : decode cb_A_init 4 = .ok (.aload_n 0, 1) := by decide +kernel
theorem dc_A_init_5 : decode cb_A_init 5 = .ok (.sipush 128, 3) := by decide +kernel
theorem dc_A_init_8 : decode cb_A_init 8 = .ok (.newarray .int, 2) := by decide +kernel
theorem dc_A_init_10 : decode cb_A_init 10 = .ok (.putfield 9, 3) := by decide +kernel
theorem dc_A_init_13 : decode cb_A_init 13 = .ok (.aload_n 0, 1) := by decide +kernel
theorem dc_A_init_14 : decode cb_A_init 14 = .ok (.bipush 7, 2) := by decide +kernel
theorem dc_A_init_16 : decode cb_A_init 16 = .ok (.sipush 128, 3) := by decide +kernel
theorem dc_A_init_19 : decode cb_A_init 19 = .ok (.multianewarray 15 2, 4) := by decide +kernel
theorem dc_A_init_23 : decode cb_A_init 23 = .ok (.putfield 17, 3) := by decide +kernel
theorem dc_A_init_26 : decode cb_A_init 26 = .ok (.return_, 1) := by decide +kernel
theorem dc_A_leastOfAll_0 : decode cb_A_leastOfAll 0 = .ok (.aload_n 0, 1) := by decide +kernel
theorem dc_A_leastOfAll_1 : decode cb_A_leastOfAll 1 = .ok (.aload_n 1, 1) := by decide +kernel
theorem dc_A_leastOfAll_2 : decode cb_A_leastOfAll 2 = .ok (.invokevirtual 20, 3) := by decide +kernel
theorem dc_A_leastOfAll_5 : decode cb_A_leastOfAll 5 = .ok (.aload_n 0, 1) := by decide +kernel
theorem dc_A_leastOfAll_6 : decode cb_A_leastOfAll 6 = .ok (.getfield 9, 3) := by decide +kernel
theorem dc_A_leastOfAll_9 : decode cb_A_leastOfAll 9 = .ok (.aload_n 1, 1) := by decide +kernel
theorem dc_A_leastOfAll_10 : decode cb_A_leastOfAll 10 = .ok (.invokevirtual 24, 3) := by decide +kernel
theorem dc_A_leastOfAll_13 : decode cb_A_leastOfAll 13 = .ok (.iaload, 1) := by decide +kernel
theorem dc_A_leastOfAll_14 : decode cb_A_leastOfAll 14 = .ok (.i2l, 1) := by decide +kernel
theorem dc_A_leastOfAll_15 : decode cb_A_leastOfAll 15 = .ok (.lreturn, 1) := by decide +kernel
theorem dc_A_winnerSet_0 : decode cb_A_winnerSet 0 = .ok (.aload_n 0, 1) := by decide +kernel
theorem dc_A_winnerSet_1 : decode cb_A_winnerSet 1 = .ok (.aload_n 1, 1) := by decide +kernel
theorem dc_A_winnerSet_2 : decode cb_A_winnerSet 2 = .ok (.invokevirtual 20, 3) := by decide +kernel
theorem dc_A_winnerSet_5 : decode cb_A_winnerSet 5 = .ok (.aload_n 0, 1) := by decide +kernel
theorem dc_A_winnerSet_6 : decode cb_A_winnerSet 6 = .ok (.aload_n 1, 1) := by decide +kernel
theorem dc_A_winnerSet_7 : decode cb_A_winnerSet 7 = .ok (.invokevirtual 24, 3) := by decide +kernel
theorem dc_A_winnerSet_10 : decode cb_A_winnerSet 10 = .ok (.aload_n 1, 1) := by decide +kernel
theorem dc_A_winnerSet_11 : decode cb_A_winnerSet 11 = .ok (.getfield 30, 3) := by decide +kernel
theorem dc_A_winnerSet_14 : decode cb_A_winnerSet 14 = .ok (.invokevirtual 34, 3) := by decide +kernel
theorem dc_A_winnerSet_17 : decode cb_A_winnerSet 17 = .ok (.ireturn, 1) := by decide +kernel
theorem dc_A_bestOrder_0 : decode cb_A_bestOrder 0 = .ok (.aload_n 0, 1) := by decide +kernel
theorem dc_A_bestOrder_1 : decode cb_A_bestOrder 1 = .ok (.aload_n 1, 1) := by decide +kernel
theorem dc_A_bestOrder_2 : decode cb_A_bestOrder 2 = .ok (.invokevirtual 20, 3) := by decide +kernel
theorem dc_A_bestOrder_5 : decode cb_A_bestOrder 5 = .ok (.iconst 0, 1) := by decide +kernel
theorem dc_A_bestOrder_6 : decode cb_A_bestOrder 6 = .ok (.istore_n 2, 1) := by decide +kernel
theorem dc_A_bestOrder_7 : decode cb_A_bestOrder 7 = .ok (.aload_n 1, 1) := by decide +kernel
theorem dc_A_bestOrder_8 : decode cb_A_bestOrder 8 = .ok (.invokevirtual 24, 3) := by decide +kernel
theorem dc_A_bestOrder_11 : decode cb_A_bestOrder 11 = .ok (.istore_n 3, 1) := by decide +kernel
theorem dc_A_bestOrder_12 : decode cb_A_bestOrder 12 = .ok (.iconst 0, 1) := by decide +kernel
theorem dc_A_bestOrder_13 : decode cb_A_bestOrder 13 = .ok (.istore 4, 2) := by decide +kernel
theorem dc_A_bestOrder_15 : decode cb_A_bestOrder 15 = .ok (.iload 4, 2) := by decide +kernel
theorem dc_A_bestOrder_17 : decode cb_A_bestOrder 17 = .ok (.aload_n 1, 1) := by decide +kernel
theorem dc_A_bestOrder_18 : decode cb_A_bestOrder 18 = .ok (.getfield 30, 3) := by decide +kernel
theorem dc_A_bestOrder_21 : decode cb_A_bestOrder 21 = .ok (.if_icmp .ge 43, 3) := by decide +kernel
theorem dc_A_bestOrder_24 : decode cb_A_bestOrder 24 = .ok (.aload_n 1, 1) := by decide +kernel
theorem dc_A_bestOrder_25 : decode cb_A_bestOrder 25 = .ok (.aload_n 0, 1) := by decide +kernel
theorem dc_A_bestOrder_26 : decode cb_A_bestOrder 26 = .ok (.iload_n 3, 1) := by decide +kernel
theorem dc_A_bestOrder_27 : decode cb_A_bestOrder 27 = .ok (.aload_n 1, 1) := by decide +kernel
theorem dc_A_bestOrder_28 : decode cb_A_bestOrder 28 = .ok (.getfield 30, 3) := by decide +kernel
theorem dc_A_bestOrder_31 : decode cb_A_bestOrder 31 = .ok (.invokevirtual 34, 3) := by decide +kernel
theorem dc_A_bestOrder_34 : decode cb_A_bestOrder 34 = .ok (.invokevirtual 38, 3) := by decide +kernel
theorem dc_A_bestOrder_37 : decode cb_A_bestOrder 37 = .ok (.istore 5, 2) := by decide +kernel
theorem dc_A_bestOrder_39 : decode cb_A_bestOrder 39 = .ok (.iload_n 2, 1) := by decide +kernel
theorem dc_A_bestOrder_40 : decode cb_A_bestOrder 40 = .ok (.iload 5, 2) := by decide +kernel
theorem dc_A_bestOrder_42 : decode cb_A_bestOrder 42 = .ok (.iconst 3, 1) := by decide +kernel
theorem dc_A_bestOrder_43 : decode cb_A_bestOrder 43 = .ok (.iload 4, 2) := by decide +kernel
theorem dc_A_bestOrder_45 : decode cb_A_bestOrder 45 = .ok (.imul, 1) := by decide +kernel
theorem dc_A_bestOrder_46 : decode cb_A_bestOrder 46 = .ok (.ishl, 1) := by decide +kernel
theorem dc_A_bestOrder_47 : decode cb_A_bestOrder 47 = .ok (.ior, 1) := by decide +kernel
theorem dc_A_bestOrder_48 : decode cb_A_bestOrder 48 = .ok (.istore_n 2, 1) := by decide +kernel
theorem dc_A_bestOrder_49 : decode cb_A_bestOrder 49 = .ok (.iload_n 3, 1) := by decide +kernel
theorem dc_A_bestOrder_50 : decode cb_A_bestOrder 50 = .ok (.iconst 1, 1) := by decide +kernel
theorem dc_A_bestOrder_51 : decode cb_A_bestOrder 51 = .ok (.iload 5, 2) := by decide +kernel
theorem dc_A_bestOrder_53 : decode cb_A_bestOrder 53 = .ok (.ishl, 1) := by decide +kernel
theorem dc_A_bestOrder_54 : decode cb_A_bestOrder 54 = .ok (.iconst (-1), 1) := by decide +kernel
theorem dc_A_bestOrder_55 : decode cb_A_bestOrder 55 = .ok (.ixor, 1) := by decide +kernel
theorem dc_A_bestOrder_56 : decode cb_A_bestOrder 56 = .ok (.iand, 1) := by decide +kernel
theorem dc_A_bestOrder_57 : decode cb_A_bestOrder 57 = .ok (.istore_n 3, 1) := by decide +kernel
theorem dc_A_bestOrder_58 : decode cb_A_bestOrder 58 = .ok (.iinc 4 1, 3) := by decide +kernel
theorem dc_A_bestOrder_61 : decode cb_A_bestOrder 61 = .ok (.goto (-46), 3) := by decide +kernel
theorem dc_A_bestOrder_64 : decode cb_A_bestOrder 64 = .ok (.iload_n 2, 1) := by decide +kernel
theorem dc_A_bestOrder_65 : decode cb_A_bestOrder 65 = .ok (.ireturn, 1) := by decide +kernel
theorem dc_A_bestLeaders_0 : decode cb_A_bestLeaders 0 = .ok (.iconst 0, 1) := by decide +kernel
theorem dc_A_bestLeaders_1 : decode cb_A_bestLeaders 1 = .ok (.istore_n 3, 1) := by decide +kernel
theorem dc_A_bestLeaders_2 : decode cb_A_bestLeaders 2 = .ok (.iconst 0, 1) := by decide +kernel
theorem dc_A_bestLeaders_3 : decode cb_A_bestLeaders 3 = .ok (.istore 4, 2) := by decide +kernel
theorem dc_A_bestLeaders_5 : decode cb_A_bestLeaders 5 = .ok (.iload 4, 2) := by decide +kernel
theorem dc_A_bestLeaders_7 : decode cb_A_bestLeaders 7 = .ok (.iload_n 2, 1) := by decide +kernel
theorem dc_A_bestLeaders_8 : decode cb_A_bestLeaders 8 = .ok (.if_icmp .ge 59, 3) := by decide +kernel
theorem dc_A_bestLeaders_11 : decode cb_A_bestLeaders 11 = .ok (.iload_n 1, 1) := by decide +kernel
theorem dc_A_bestLeaders_12 : decode cb_A_bestLeaders 12 = .ok (.iconst 1, 1) := by decide +kernel
theorem dc_A_bestLeaders_13 : decode cb_A_bestLeaders 13 = .ok (.iload 4, 2) := by decide +kernel
theorem dc_A_bestLeaders_15 : decode cb_A_bestLeaders 15 = .ok (.ishl, 1) := by decide +kernel
theorem dc_A_bestLeaders_16 : decode cb_A_bestLeaders 16 = .ok (.iconst (-1), 1) := by decide +kernel
theorem dc_A_bestLeaders_17 : decode cb_A_bestLeaders 17 = .ok (.ixor, 1) := by decide +kernel
theorem dc_A_bestLeaders_18 : decode cb_A_bestLeaders 18 = .ok (.iand, 1) := by decide +kernel
theorem dc_A_bestLeaders_19 : decode cb_A_bestLeaders 19 = .ok (.istore 5, 2) := by decide +kernel
theorem dc_A_bestLeaders_21 : decode cb_A_bestLeaders 21 = .ok (.iload 5, 2) := by decide +kernel
theorem dc_A_bestLeaders_23 : decode cb_A_bestLeaders 23 = .ok (.iload_n 1, 1) := by decide +kernel
theorem dc_A_bestLeaders_24 : decode cb_A_bestLeaders 24 = .ok (.if_icmp .eq 37, 3) := by decide +kernel
theorem dc_A_bestLeaders_27 : decode cb_A_bestLeaders 27 = .ok (.aload_n 0, 1) := by decide +kernel
theorem dc_A_bestLeaders_28 : decode cb_A_bestLeaders 28 = .ok (.getfield 9, 3) := by decide +kernel
theorem dc_A_bestLeaders_31 : decode cb_A_bestLeaders 31 = .ok (.iload 5, 2) := by decide +kernel
theorem dc_A_bestLeaders_33 : decode cb_A_bestLeaders 33 = .ok (.iaload, 1) := by decide +kernel
theorem dc_A_bestLeaders_34 : decode cb_A_bestLeaders 34 = .ok (.aload_n 0, 1) := by decide +kernel
theorem dc_A_bestLeaders_35 : decode cb_A_bestLeaders 35 = .ok (.getfield 17, 3) := by decide +kernel
theorem dc_A_bestLeaders_38 : decode cb_A_bestLeaders 38 = .ok (.iload 4, 2) := by decide +kernel
theorem dc_A_bestLeaders_40 : decode cb_A_bestLeaders 40 = .ok (.aaload, 1) := by decide +kernel
theorem dc_A_bestLeaders_41 : decode cb_A_bestLeaders 41 = .ok (.iload 5, 2) := by decide +kernel
theorem dc_A_bestLeaders_43 : decode cb_A_bestLeaders 43 = .ok (.iaload, 1) := by decide +kernel
theorem dc_A_bestLeaders_44 : decode cb_A_bestLeaders 44 = .ok (.iadd, 1) := by decide +kernel
theorem dc_A_bestLeaders_45 : decode cb_A_bestLeaders 45 = .ok (.aload_n 0, 1) := by decide +kernel
theorem dc_A_bestLeaders_46 : decode cb_A_bestLeaders 46 = .ok (.getfield 9, 3) := by decide +kernel
theorem dc_A_bestLeaders_49 : decode cb_A_bestLeaders 49 = .ok (.iload_n 1, 1) := by decide +kernel
theorem dc_A_bestLeaders_50 : decode cb_A_bestLeaders 50 = .ok (.iaload, 1) := by decide +kernel
theorem dc_A_bestLeaders_51 : decode cb_A_bestLeaders 51 = .ok (.if_icmp .ne 10, 3) := by decide +kernel
theorem dc_A_bestLeaders_54 : decode cb_A_bestLeaders 54 = .ok (.iload_n 3, 1) := by decide +kernel
theorem dc_A_bestLeaders_55 : decode cb_A_bestLeaders 55 = .ok (.iconst 1, 1) := by decide +kernel
theorem dc_A_bestLeaders_56 : decode cb_A_bestLeaders 56 = .ok (.iload 4, 2) := by decide +kernel
theorem dc_A_bestLeaders_58 : decode cb_A_bestLeaders 58 = .ok (.ishl, 1) := by decide +kernel
theorem dc_A_bestLeaders_59 : decode cb_A_bestLeaders 59 = .ok (.ior, 1) := by decide +kernel
theorem dc_A_bestLeaders_60 : decode cb_A_bestLeaders 60 = .ok (.istore_n 3, 1) := by decide +kernel
theorem dc_A_bestLeaders_61 : decode cb_A_bestLeaders 61 = .ok (.iinc 4 1, 3) := by decide +kernel
theorem dc_A_bestLeaders_64 : decode cb_A_bestLeaders 64 = .ok (.goto (-59), 3) := by decide +kernel
theorem dc_A_bestLeaders_67 : decode cb_A_bestLeaders 67 = .ok (.iload_n 3, 1) := by decide +kernel
theorem dc_A_bestLeaders_68 : decode cb_A_bestLeaders 68 = .ok (.ireturn, 1) := by decide +kernel
theorem dc_A_weigh_0 : decode cb_A_weigh 0 = .ok (.iconst 0, 1) := by decide +kernel
theorem dc_A_weigh_1 : decode cb_A_weigh 1 = .ok (.istore_n 2, 1) := by decide +kernel
theorem dc_A_weigh_2 : decode cb_A_weigh 2 = .ok (.iload_n 2, 1) := by decide +kernel
theorem dc_A_weigh_3 : decode cb_A_weigh 3 = .ok (.aload_n 1, 1) := by decide +kernel
theorem dc_A_weigh_4 : decode cb_A_weigh 4 = .ok (.getfield 30, 3) := by decide +kernel
theorem dc_A_weigh_7 : decode cb_A_weigh 7 = .ok (.if_icmp .ge 15, 3) := by decide +kernel
theorem dc_A_weigh_10 : decode cb_A_weigh 10 = .ok (.aload_n 0, 1) := by decide +kernel
theorem dc_A_weigh_11 : decode cb_A_weigh 11 = .ok (.aload_n 1, 1) := by decide +kernel
theorem dc_A_weigh_12 : decode cb_A_weigh 12 = .ok (.iload_n 2, 1) := by decide +kernel
theorem dc_A_weigh_13 : decode cb_A_weigh 13 = .ok (.invokevirtual 42, 3) := by decide +kernel
theorem dc_A_weigh_16 : decode cb_A_weigh 16 = .ok (.iinc 2 1, 3) := by decide +kernel
theorem dc_A_weigh_19 : decode cb_A_weigh 19 = .ok (.goto (-17), 3) := by decide +kernel
theorem dc_A_weigh_22 : decode cb_A_weigh 22 = .ok (.aload_n 1, 1) := by decide +kernel
theorem dc_A_weigh_23 : decode cb_A_weigh 23 = .ok (.invokevirtual 24, 3) := by decide +kernel
theorem dc_A_weigh_26 : decode cb_A_weigh 26 = .ok (.istore_n 2, 1) := by decide +kernel
theorem dc_A_weigh_27 : decode cb_A_weigh 27 = .ok (.iconst 1, 1) := by decide +kernel
theorem dc_A_weigh_28 : decode cb_A_weigh 28 = .ok (.istore_n 3, 1) := by decide +kernel
theorem dc_A_weigh_29 : decode cb_A_weigh 29 = .ok (.iload_n 3, 1) := by decide +kernel
theorem dc_A_weigh_30 : decode cb_A_weigh 30 = .ok (.iload_n 2, 1) := by decide +kernel
theorem dc_A_weigh_31 : decode cb_A_weigh 31 = .ok (.if_icmp .gt 80, 3) := by decide +kernel
theorem dc_A_weigh_34 : decode cb_A_weigh 34 = .ok (.ldc 46, 2) := by decide +kernel
theorem dc_A_weigh_36 : decode cb_A_weigh 36 = .ok (.istore 4, 2) := by decide +kernel
theorem dc_A_weigh_38 : decode cb_A_weigh 38 = .ok (.iconst 0, 1) := by decide +kernel
theorem dc_A_weigh_39 : decode cb_A_weigh 39 = .ok (.istore 5, 2) := by decide +kernel
theorem dc_A_weigh_41 : decode cb_A_weigh 41 = .ok (.iload 5, 2) := by decide +kernel
theorem dc_A_weigh_43 : decode cb_A_weigh 43 = .ok (.aload_n 1, 1) := by decide +kernel
theorem dc_A_weigh_44 : decode cb_A_weigh 44 = .ok (.getfield 30, 3) := by decide +kernel
theorem dc_A_weigh_47 : decode cb_A_weigh 47 = .ok (.if_icmp .ge 50, 3) := by decide +kernel
theorem dc_A_weigh_50 : decode cb_A_weigh 50 = .ok (.iload_n 3, 1) := by decide +kernel
theorem dc_A_weigh_51 : decode cb_A_weigh 51 = .ok (.iconst 1, 1) := by decide +kernel
theorem dc_A_weigh_52 : decode cb_A_weigh 52 = .ok (.iload 5, 2) := by decide +kernel
theorem dc_A_weigh_54 : decode cb_A_weigh 54 = .ok (.ishl, 1) := by decide +kernel
theorem dc_A_weigh_55 : decode cb_A_weigh 55 = .ok (.iconst (-1), 1) := by decide +kernel
theorem dc_A_weigh_56 : decode cb_A_weigh 56 = .ok (.ixor, 1) := by decide +kernel
theorem dc_A_weigh_57 : decode cb_A_weigh 57 = .ok (.iand, 1) := by decide +kernel
theorem dc_A_weigh_58 : decode cb_A_weigh 58 = .ok (.istore 6, 2) := by decide +kernel
theorem dc_A_weigh_60 : decode cb_A_weigh 60 = .ok (.iload 6, 2) := by decide +kernel
theorem dc_A_weigh_62 : decode cb_A_weigh 62 = .ok (.iload_n 3, 1) := by decide +kernel
theorem dc_A_weigh_63 : decode cb_A_weigh 63 = .ok (.if_icmp .eq 28, 3) := by decide +kernel
theorem dc_A_weigh_66 : decode cb_A_weigh 66 = .ok (.iload 4, 2) := by decide +kernel
theorem dc_A_weigh_68 : decode cb_A_weigh 68 = .ok (.aload_n 0, 1) := by decide +kernel
theorem dc_A_weigh_69 : decode cb_A_weigh 69 = .ok (.getfield 9, 3) := by decide +kernel
theorem dc_A_weigh_72 : decode cb_A_weigh 72 = .ok (.iload 6, 2) := by decide +kernel
theorem dc_A_weigh_74 : decode cb_A_weigh 74 = .ok (.iaload, 1) := by decide +kernel
theorem dc_A_weigh_75 : decode cb_A_weigh 75 = .ok (.aload_n 0, 1) := by decide +kernel
theorem dc_A_weigh_76 : decode cb_A_weigh 76 = .ok (.getfield 17, 3) := by decide +kernel
theorem dc_A_weigh_79 : decode cb_A_weigh 79 = .ok (.iload 5, 2) := by decide +kernel
theorem dc_A_weigh_81 : decode cb_A_weigh 81 = .ok (.aaload, 1) := by decide +kernel
theorem dc_A_weigh_82 : decode cb_A_weigh 82 = .ok (.iload 6, 2) := by decide +kernel
theorem dc_A_weigh_84 : decode cb_A_weigh 84 = .ok (.iaload, 1) := by decide +kernel
theorem dc_A_weigh_85 : decode cb_A_weigh 85 = .ok (.iadd, 1) := by decide +kernel
theorem dc_A_weigh_86 : decode cb_A_weigh 86 = .ok (.invokestatic 47, 3) := by decide +kernel
theorem dc_A_weigh_89 : decode cb_A_weigh 89 = .ok (.istore 4, 2) := by decide +kernel
theorem dc_A_weigh_91 : decode cb_A_weigh 91 = .ok (.iinc 5 1, 3) := by decide +kernel
theorem dc_A_weigh_94 : decode cb_A_weigh 94 = .ok (.goto (-53), 3) := by decide +kernel
theorem dc_A_weigh_97 : decode cb_A_weigh 97 = .ok (.aload_n 0, 1) := by decide +kernel
theorem dc_A_weigh_98 : decode cb_A_weigh 98 = .ok (.getfield 9, 3) := by decide +kernel
theorem dc_A_weigh_101 : decode cb_A_weigh 101 = .ok (.iload_n 3, 1) := by decide +kernel
theorem dc_A_weigh_102 : decode cb_A_weigh 102 = .ok (.iload 4, 2) := by decide +kernel
theorem dc_A_weigh_104 : decode cb_A_weigh 104 = .ok (.iastore, 1) := by decide +kernel
theorem dc_A_weigh_105 : decode cb_A_weigh 105 = .ok (.iinc 3 1, 3) := by decide +kernel
theorem dc_A_weigh_108 : decode cb_A_weigh 108 = .ok (.goto (-79), 3) := by decide +kernel
theorem dc_A_weigh_111 : decode cb_A_weigh 111 = .ok (.return_, 1) := by decide +kernel
theorem dc_A_sumAgainst_0 : decode cb_A_sumAgainst 0 = .ok (.aload_n 0, 1) := by decide +kernel
theorem dc_A_sumAgainst_1 : decode cb_A_sumAgainst 1 = .ok (.getfield 17, 3) := by decide +kernel
theorem dc_A_sumAgainst_4 : decode cb_A_sumAgainst 4 = .ok (.iload_n 2, 1) := by decide +kernel
theorem dc_A_sumAgainst_5 : decode cb_A_sumAgainst 5 = .ok (.aaload, 1) := by decide +kernel
theorem dc_A_sumAgainst_6 : decode cb_A_sumAgainst 6 = .ok (.astore_n 3, 1) := by decide +kernel
theorem dc_A_sumAgainst_7 : decode cb_A_sumAgainst 7 = .ok (.iconst 0, 1) := by decide +kernel
theorem dc_A_sumAgainst_8 : decode cb_A_sumAgainst 8 = .ok (.istore 4, 2) := by decide +kernel
theorem dc_A_sumAgainst_10 : decode cb_A_sumAgainst 10 = .ok (.iload 4, 2) := by decide +kernel
theorem dc_A_sumAgainst_12 : decode cb_A_sumAgainst 12 = .ok (.aload_n 1, 1) := by decide +kernel
theorem dc_A_sumAgainst_13 : decode cb_A_sumAgainst 13 = .ok (.getfield 30, 3) := by decide +kernel
theorem dc_A_sumAgainst_16 : decode cb_A_sumAgainst 16 = .ok (.if_icmp .ge 56, 3) := by decide +kernel
theorem dc_A_sumAgainst_19 : decode cb_A_sumAgainst 19 = .ok (.iconst 1, 1) := by decide +kernel
theorem dc_A_sumAgainst_20 : decode cb_A_sumAgainst 20 = .ok (.iload 4, 2) := by decide +kernel
theorem dc_A_sumAgainst_22 : decode cb_A_sumAgainst 22 = .ok (.ishl, 1) := by decide +kernel
theorem dc_A_sumAgainst_23 : decode cb_A_sumAgainst 23 = .ok (.istore 5, 2) := by decide +kernel
theorem dc_A_sumAgainst_25 : decode cb_A_sumAgainst 25 = .ok (.aload_n 1, 1) := by decide +kernel
theorem dc_A_sumAgainst_26 : decode cb_A_sumAgainst 26 = .ok (.getfield 52, 3) := by decide +kernel
theorem dc_A_sumAgainst_29 : decode cb_A_sumAgainst 29 = .ok (.iload 4, 2) := by decide +kernel
theorem dc_A_sumAgainst_31 : decode cb_A_sumAgainst 31 = .ok (.aaload, 1) := by decide +kernel
theorem dc_A_sumAgainst_32 : decode cb_A_sumAgainst 32 = .ok (.iload_n 2, 1) := by decide +kernel
theorem dc_A_sumAgainst_33 : decode cb_A_sumAgainst 33 = .ok (.iaload, 1) := by decide +kernel
theorem dc_A_sumAgainst_34 : decode cb_A_sumAgainst 34 = .ok (.istore 6, 2) := by decide +kernel
theorem dc_A_sumAgainst_36 : decode cb_A_sumAgainst 36 = .ok (.iconst 0, 1) := by decide +kernel
theorem dc_A_sumAgainst_37 : decode cb_A_sumAgainst 37 = .ok (.istore 7, 2) := by decide +kernel
theorem dc_A_sumAgainst_39 : decode cb_A_sumAgainst 39 = .ok (.iload 7, 2) := by decide +kernel
theorem dc_A_sumAgainst_41 : decode cb_A_sumAgainst 41 = .ok (.iload 5, 2) := by decide +kernel
theorem dc_A_sumAgainst_43 : decode cb_A_sumAgainst 43 = .ok (.if_icmp .ge 23, 3) := by decide +kernel
theorem dc_A_sumAgainst_46 : decode cb_A_sumAgainst 46 = .ok (.aload_n 3, 1) := by decide +kernel
theorem dc_A_sumAgainst_47 : decode cb_A_sumAgainst 47 = .ok (.iload 5, 2) := by decide +kernel
theorem dc_A_sumAgainst_49 : decode cb_A_sumAgainst 49 = .ok (.iload 7, 2) := by decide +kernel
theorem dc_A_sumAgainst_51 : decode cb_A_sumAgainst 51 = .ok (.iadd, 1) := by decide +kernel
theorem dc_A_sumAgainst_52 : decode cb_A_sumAgainst 52 = .ok (.aload_n 3, 1) := by decide +kernel
theorem dc_A_sumAgainst_53 : decode cb_A_sumAgainst 53 = .ok (.iload 7, 2) := by decide +kernel
theorem dc_A_sumAgainst_55 : decode cb_A_sumAgainst 55 = .ok (.iaload, 1) := by decide +kernel
theorem dc_A_sumAgainst_56 : decode cb_A_sumAgainst 56 = .ok (.iload 6, 2) := by decide +kernel
theorem dc_A_sumAgainst_58 : decode cb_A_sumAgainst 58 = .ok (.iadd, 1) := by decide +kernel
theorem dc_A_sumAgainst_59 : decode cb_A_sumAgainst 59 = .ok (.iastore, 1) := by decide +kernel
theorem dc_A_sumAgainst_60 : decode cb_A_sumAgainst 60 = .ok (.iinc 7 1, 3) := by decide +kernel
theorem dc_A_sumAgainst_63 : decode cb_A_sumAgainst 63 = .ok (.goto (-24), 3) := by decide +kernel
theorem dc_A_sumAgainst_66 : decode cb_A_sumAgainst 66 = .ok (.iinc 4 1, 3) := by decide +kernel
theorem dc_A_sumAgainst_69 : decode cb_A_sumAgainst 69 = .ok (.goto (-59), 3) := by decide +kernel
theorem dc_A_sumAgainst_72 : decode cb_A_sumAgainst 72 = .ok (.return_, 1) := by decide +kernel
theorem dc_E_init_0 : decode cb_E_init 0 = .ok (.aload_n 0, 1) := by decide +kernel
theorem dc_E_init_1 : decode cb_E_init 1 = .ok (.invokespecial 3, 3) := by decide +kernel
theorem dc_E_init_4 : decode cb_E_init 4 = .ok (.aload_n 0, 1) := by decide +kernel
theorem dc_E_init_5 : decode cb_E_init 5 = .ok (.sipush 128, 3) := by decide +kernel
theorem dc_E_init_8 : decode cb_E_init 8 = .ok (.newarray .boolean, 2) := by decide +kernel
theorem dc_E_init_10 : decode cb_E_init 10 = .ok (.putfield 9, 3) := by decide +kernel
theorem dc_E_init_13 : decode cb_E_init 13 = .ok (.aload_n 0, 1) := by decide +kernel
theorem dc_E_init_14 : decode cb_E_init 14 = .ok (.bipush 7, 2) := by decide +kernel
theorem dc_E_init_16 : decode cb_E_init 16 = .ok (.newarray .int, 2) := by decide +kernel
theorem dc_E_init_18 : decode cb_E_init 18 = .ok (.putfield 15, 3) := by decide +kernel
theorem dc_E_init_21 : decode cb_E_init 21 = .ok (.return_, 1) := by decide +kernel
theorem dc_E_winnerSet_0 : decode cb_E_winnerSet 0 = .ok (.aload_n 0, 1) := by decide +kernel
theorem dc_E_winnerSet_1 : decode cb_E_winnerSet 1 = .ok (.aload_n 1, 1) := by decide +kernel
theorem dc_E_winnerSet_2 : decode cb_E_winnerSet 2 = .ok (.invokevirtual 19, 3) := by decide +kernel
theorem dc_E_winnerSet_5 : decode cb_E_winnerSet 5 = .ok (.iconst 0, 1) := by decide +kernel
theorem dc_E_winnerSet_6 : decode cb_E_winnerSet 6 = .ok (.istore_n 2, 1) := by decide +kernel
theorem dc_E_winnerSet_7 : decode cb_E_winnerSet 7 = .ok (.iconst 0, 1) := by decide +kernel
theorem dc_E_winnerSet_8 : decode cb_E_winnerSet 8 = .ok (.istore_n 3, 1) := by decide +kernel
theorem dc_E_winnerSet_9 : decode cb_E_winnerSet 9 = .ok (.iload_n 3, 1) := by decide +kernel
theorem dc_E_winnerSet_10 : decode cb_E_winnerSet 10 = .ok (.aload_n 1, 1) := by decide +kernel
theorem dc_E_winnerSet_11 : decode cb_E_winnerSet 11 = .ok (.getfield 23, 3) := by decide +kernel
theorem dc_E_winnerSet_14 : decode cb_E_winnerSet 14 = .ok (.if_icmp .ge 26, 3) := by decide +kernel
theorem dc_E_winnerSet_17 : decode cb_E_winnerSet 17 = .ok (.aload_n 0, 1) := by decide +kernel
theorem dc_E_winnerSet_18 : decode cb_E_winnerSet 18 = .ok (.getfield 9, 3) := by decide +kernel
theorem dc_E_winnerSet_21 : decode cb_E_winnerSet 21 = .ok (.iconst 1, 1) := by decide +kernel
theorem dc_E_winnerSet_22 : decode cb_E_winnerSet 22 = .ok (.iload_n 3, 1) := by decide +kernel
theorem dc_E_winnerSet_23 : decode cb_E_winnerSet 23 = .ok (.ishl, 1) := by decide +kernel
theorem dc_E_winnerSet_24 : decode cb_E_winnerSet 24 = .ok (.baload, 1) := by decide +kernel
theorem dc_E_winnerSet_25 : decode cb_E_winnerSet 25 = .ok (.ifCond .eq 9, 3) := by decide +kernel
theorem dc_E_winnerSet_28 : decode cb_E_winnerSet 28 = .ok (.iload_n 2, 1) := by decide +kernel
theorem dc_E_winnerSet_29 : decode cb_E_winnerSet 29 = .ok (.iconst 1, 1) := by decide +kernel
theorem dc_E_winnerSet_30 : decode cb_E_winnerSet 30 = .ok (.iload_n 3, 1) := by decide +kernel
theorem dc_E_winnerSet_31 : decode cb_E_winnerSet 31 = .ok (.ishl, 1) := by decide +kernel
theorem dc_E_winnerSet_32 : decode cb_E_winnerSet 32 = .ok (.ior, 1) := by decide +kernel
theorem dc_E_winnerSet_33 : decode cb_E_winnerSet 33 = .ok (.istore_n 2, 1) := by decide +kernel
theorem dc_E_winnerSet_34 : decode cb_E_winnerSet 34 = .ok (.iinc 3 1, 3) := by decide +kernel
theorem dc_E_winnerSet_37 : decode cb_E_winnerSet 37 = .ok (.goto (-28), 3) := by decide +kernel
theorem dc_E_winnerSet_40 : decode cb_E_winnerSet 40 = .ok (.iload_n 2, 1) := by decide +kernel
theorem dc_E_winnerSet_41 : decode cb_E_winnerSet 41 = .ok (.ireturn, 1) := by decide +kernel
theorem dc_E_setsThatCanBeLeft_0 : decode cb_E_setsThatCanBeLeft 0 = .ok (.aload_n 0, 1) := by decide +kernel
theorem dc_E_setsThatCanBeLeft_1 : decode cb_E_setsThatCanBeLeft 1 = .ok (.aload_n 1, 1) := by decide +kernel
theorem dc_E_setsThatCanBeLeft_2 : decode cb_E_setsThatCanBeLeft 2 = .ok (.invokevirtual 19, 3) := by decide +kernel
theorem dc_E_setsThatCanBeLeft_5 : decode cb_E_setsThatCanBeLeft 5 = .ok (.iconst 0, 1) := by decide +kernel
theorem dc_E_setsThatCanBeLeft_6 : decode cb_E_setsThatCanBeLeft 6 = .ok (.istore_n 2, 1) := by decide +kernel
theorem dc_E_setsThatCanBeLeft_7 : decode cb_E_setsThatCanBeLeft 7 = .ok (.iconst 1, 1) := by decide +kernel
theorem dc_E_setsThatCanBeLeft_8 : decode cb_E_setsThatCanBeLeft 8 = .ok (.istore_n 3, 1) := by decide +kernel
theorem dc_E_setsThatCanBeLeft_9 : decode cb_E_setsThatCanBeLeft 9 = .ok (.iload_n 3, 1) := by decide +kernel
theorem dc_E_setsThatCanBeLeft_10 : decode cb_E_setsThatCanBeLeft 10 = .ok (.aload_n 1, 1) := by decide +kernel
theorem dc_E_setsThatCanBeLeft_11 : decode cb_E_setsThatCanBeLeft 11 = .ok (.invokevirtual 29, 3) := by decide +kernel
theorem dc_E_setsThatCanBeLeft_14 : decode cb_E_setsThatCanBeLeft 14 = .ok (.if_icmp .gt 21, 3) := by decide +kernel
theorem dc_E_setsThatCanBeLeft_17 : decode cb_E_setsThatCanBeLeft 17 = .ok (.aload_n 0, 1) := by decide +kernel
theorem dc_E_setsThatCanBeLeft_18 : decode cb_E_setsThatCanBeLeft 18 = .ok (.getfield 9, 3) := by decide +kernel
theorem dc_E_setsThatCanBeLeft_21 : decode cb_E_setsThatCanBeLeft 21 = .ok (.iload_n 3, 1) := by decide +kernel
theorem dc_E_setsThatCanBeLeft_22 : decode cb_E_setsThatCanBeLeft 22 = .ok (.baload, 1) := by decide +kernel
theorem dc_E_setsThatCanBeLeft_23 : decode cb_E_setsThatCanBeLeft 23 = .ok (.ifCond .eq 6, 3) := by decide +kernel
theorem dc_E_setsThatCanBeLeft_26 : decode cb_E_setsThatCanBeLeft 26 = .ok (.iinc 2 1, 3) := by decide +kernel
theorem dc_E_setsThatCanBeLeft_29 : decode cb_E_setsThatCanBeLeft 29 = .ok (.iinc 3 1, 3) := by decide +kernel
theorem dc_E_setsThatCanBeLeft_32 : decode cb_E_setsThatCanBeLeft 32 = .ok (.goto (-23), 3) := by decide +kernel
theorem dc_E_setsThatCanBeLeft_35 : decode cb_E_setsThatCanBeLeft 35 = .ok (.iload_n 2, 1) := by decide +kernel
theorem dc_E_setsThatCanBeLeft_36 : decode cb_E_setsThatCanBeLeft 36 = .ok (.ireturn, 1) := by decide +kernel
theorem dc_E_goerAt_0 : decode cb_E_goerAt 0 = .ok (.aload_n 1, 1) := by decide +kernel
theorem dc_E_goerAt_1 : decode cb_E_goerAt 1 = .ok (.invokevirtual 29, 3) := by decide +kernel
theorem dc_E_goerAt_4 : decode cb_E_goerAt 4 = .ok (.istore_n 3, 1) := by decide +kernel
theorem dc_E_goerAt_5 : decode cb_E_goerAt 5 = .ok (.iconst 0, 1) := by decide +kernel
theorem dc_E_goerAt_6 : decode cb_E_goerAt 6 = .ok (.istore 4, 2) := by decide +kernel
theorem dc_E_goerAt_8 : decode cb_E_goerAt 8 = .ok (.iload 4, 2) := by decide +kernel
theorem dc_E_goerAt_10 : decode cb_E_goerAt 10 = .ok (.iload_n 2, 1) := by decide +kernel
theorem dc_E_goerAt_11 : decode cb_E_goerAt 11 = .ok (.if_icmp .ge 26, 3) := by decide +kernel
theorem dc_E_goerAt_14 : decode cb_E_goerAt 14 = .ok (.iload_n 3, 1) := by decide +kernel
theorem dc_E_goerAt_15 : decode cb_E_goerAt 15 = .ok (.iconst 1, 1) := by decide +kernel
theorem dc_E_goerAt_16 : decode cb_E_goerAt 16 = .ok (.aload_n 1, 1) := by decide +kernel
theorem dc_E_goerAt_17 : decode cb_E_goerAt 17 = .ok (.aload_n 0, 1) := by decide +kernel
theorem dc_E_goerAt_18 : decode cb_E_goerAt 18 = .ok (.aload_n 1, 1) := by decide +kernel
theorem dc_E_goerAt_19 : decode cb_E_goerAt 19 = .ok (.iload_n 3, 1) := by decide +kernel
theorem dc_E_goerAt_20 : decode cb_E_goerAt 20 = .ok (.invokevirtual 33, 3) := by decide +kernel
theorem dc_E_goerAt_23 : decode cb_E_goerAt 23 = .ok (.invokevirtual 37, 3) := by decide +kernel
theorem dc_E_goerAt_26 : decode cb_E_goerAt 26 = .ok (.ishl, 1) := by decide +kernel
theorem dc_E_goerAt_27 : decode cb_E_goerAt 27 = .ok (.iconst (-1), 1) := by decide +kernel
theorem dc_E_goerAt_28 : decode cb_E_goerAt 28 = .ok (.ixor, 1) := by decide +kernel
theorem dc_E_goerAt_29 : decode cb_E_goerAt 29 = .ok (.iand, 1) := by decide +kernel
theorem dc_E_goerAt_30 : decode cb_E_goerAt 30 = .ok (.istore_n 3, 1) := by decide +kernel
theorem dc_E_goerAt_31 : decode cb_E_goerAt 31 = .ok (.iinc 4 1, 3) := by decide +kernel
theorem dc_E_goerAt_34 : decode cb_E_goerAt 34 = .ok (.goto (-26), 3) := by decide +kernel
theorem dc_E_goerAt_37 : decode cb_E_goerAt 37 = .ok (.aload_n 1, 1) := by decide +kernel
theorem dc_E_goerAt_38 : decode cb_E_goerAt 38 = .ok (.aload_n 0, 1) := by decide +kernel
theorem dc_E_goerAt_39 : decode cb_E_goerAt 39 = .ok (.aload_n 1, 1) := by decide +kernel
theorem dc_E_goerAt_40 : decode cb_E_goerAt 40 = .ok (.iload_n 3, 1) := by decide +kernel
theorem dc_E_goerAt_41 : decode cb_E_goerAt 41 = .ok (.invokevirtual 33, 3) := by decide +kernel
theorem dc_E_goerAt_44 : decode cb_E_goerAt 44 = .ok (.invokevirtual 37, 3) := by decide +kernel
theorem dc_E_goerAt_47 : decode cb_E_goerAt 47 = .ok (.ireturn, 1) := by decide +kernel
theorem dc_E_spread_0 : decode cb_E_spread 0 = .ok (.aload_n 1, 1) := by decide +kernel
theorem dc_E_spread_1 : decode cb_E_spread 1 = .ok (.invokevirtual 29, 3) := by decide +kernel
theorem dc_E_spread_4 : decode cb_E_spread 4 = .ok (.istore_n 2, 1) := by decide +kernel
theorem dc_E_spread_5 : decode cb_E_spread 5 = .ok (.iconst 0, 1) := by decide +kernel
theorem dc_E_spread_6 : decode cb_E_spread 6 = .ok (.istore_n 3, 1) := by decide +kernel
theorem dc_E_spread_7 : decode cb_E_spread 7 = .ok (.iload_n 3, 1) := by decide +kernel
theorem dc_E_spread_8 : decode cb_E_spread 8 = .ok (.iload_n 2, 1) := by decide +kernel
theorem dc_E_spread_9 : decode cb_E_spread 9 = .ok (.if_icmp .ge 16, 3) := by decide +kernel
theorem dc_E_spread_12 : decode cb_E_spread 12 = .ok (.aload_n 0, 1) := by decide +kernel
theorem dc_E_spread_13 : decode cb_E_spread 13 = .ok (.getfield 9, 3) := by decide +kernel
theorem dc_E_spread_16 : decode cb_E_spread 16 = .ok (.iload_n 3, 1) := by decide +kernel
theorem dc_E_spread_17 : decode cb_E_spread 17 = .ok (.iconst 0, 1) := by decide +kernel
theorem dc_E_spread_18 : decode cb_E_spread 18 = .ok (.bastore, 1) := by decide +kernel
theorem dc_E_spread_19 : decode cb_E_spread 19 = .ok (.iinc 3 1, 3) := by decide +kernel
theorem dc_E_spread_22 : decode cb_E_spread 22 = .ok (.goto (-15), 3) := by decide +kernel
theorem dc_E_spread_25 : decode cb_E_spread 25 = .ok (.aload_n 0, 1) := by decide +kernel
theorem dc_E_spread_26 : decode cb_E_spread 26 = .ok (.getfield 9, 3) := by decide +kernel
theorem dc_E_spread_29 : decode cb_E_spread 29 = .ok (.iload_n 2, 1) := by decide +kernel
theorem dc_E_spread_30 : decode cb_E_spread 30 = .ok (.iconst 1, 1) := by decide +kernel
theorem dc_E_spread_31 : decode cb_E_spread 31 = .ok (.bastore, 1) := by decide +kernel
theorem dc_E_spread_32 : decode cb_E_spread 32 = .ok (.iload_n 2, 1) := by decide +kernel
theorem dc_E_spread_33 : decode cb_E_spread 33 = .ok (.istore_n 3, 1) := by decide +kernel
theorem dc_E_spread_34 : decode cb_E_spread 34 = .ok (.iload_n 3, 1) := by decide +kernel
theorem dc_E_spread_35 : decode cb_E_spread 35 = .ok (.ifCond .le 74, 3) := by decide +kernel
theorem dc_E_spread_38 : decode cb_E_spread 38 = .ok (.aload_n 0, 1) := by decide +kernel
theorem dc_E_spread_39 : decode cb_E_spread 39 = .ok (.getfield 9, 3) := by decide +kernel
theorem dc_E_spread_42 : decode cb_E_spread 42 = .ok (.iload_n 3, 1) := by decide +kernel
theorem dc_E_spread_43 : decode cb_E_spread 43 = .ok (.baload, 1) := by decide +kernel
theorem dc_E_spread_44 : decode cb_E_spread 44 = .ok (.ifCond .eq 59, 3) := by decide +kernel
theorem dc_E_spread_47 : decode cb_E_spread 47 = .ok (.iload_n 3, 1) := by decide +kernel
theorem dc_E_spread_48 : decode cb_E_spread 48 = .ok (.invokestatic 41, 3) := by decide +kernel
theorem dc_E_spread_51 : decode cb_E_spread 51 = .ok (.iconst 2, 1) := by decide +kernel
theorem dc_E_spread_52 : decode cb_E_spread 52 = .ok (.if_icmp .lt 51, 3) := by decide +kernel
theorem dc_E_spread_55 : decode cb_E_spread 55 = .ok (.aload_n 0, 1) := by decide +kernel
theorem dc_E_spread_56 : decode cb_E_spread 56 = .ok (.aload_n 1, 1) := by decide +kernel
theorem dc_E_spread_57 : decode cb_E_spread 57 = .ok (.iload_n 3, 1) := by decide +kernel
theorem dc_E_spread_58 : decode cb_E_spread 58 = .ok (.invokevirtual 33, 3) := by decide +kernel
theorem dc_E_spread_61 : decode cb_E_spread 61 = .ok (.istore 4, 2) := by decide +kernel
theorem dc_E_spread_63 : decode cb_E_spread 63 = .ok (.iconst 0, 1) := by decide +kernel
theorem dc_E_spread_64 : decode cb_E_spread 64 = .ok (.istore 5, 2) := by decide +kernel
theorem dc_E_spread_66 : decode cb_E_spread 66 = .ok (.iload 5, 2) := by decide +kernel
theorem dc_E_spread_68 : decode cb_E_spread 68 = .ok (.aload_n 1, 1) := by decide +kernel
theorem dc_E_spread_69 : decode cb_E_spread 69 = .ok (.getfield 23, 3) := by decide +kernel
theorem dc_E_spread_72 : decode cb_E_spread 72 = .ok (.if_icmp .ge 31, 3) := by decide +kernel
theorem dc_E_spread_75 : decode cb_E_spread 75 = .ok (.iload 4, 2) := by decide +kernel
theorem dc_E_spread_77 : decode cb_E_spread 77 = .ok (.iload 5, 2) := by decide +kernel
theorem dc_E_spread_79 : decode cb_E_spread 79 = .ok (.ishr, 1) := by decide +kernel
theorem dc_E_spread_80 : decode cb_E_spread 80 = .ok (.iconst 1, 1) := by decide +kernel
theorem dc_E_spread_81 : decode cb_E_spread 81 = .ok (.iand, 1) := by decide +kernel
theorem dc_E_spread_82 : decode cb_E_spread 82 = .ok (.ifCond .eq 15, 3) := by decide +kernel
theorem dc_E_spread_85 : decode cb_E_spread 85 = .ok (.aload_n 0, 1) := by decide +kernel
theorem dc_E_spread_86 : decode cb_E_spread 86 = .ok (.getfield 9, 3) := by decide +kernel
theorem dc_E_spread_89 : decode cb_E_spread 89 = .ok (.iload_n 3, 1) := by decide +kernel
theorem dc_E_spread_90 : decode cb_E_spread 90 = .ok (.iconst 1, 1) := by decide +kernel
theorem dc_E_spread_91 : decode cb_E_spread 91 = .ok (.iload 5, 2) := by decide +kernel
theorem dc_E_spread_93 : decode cb_E_spread 93 = .ok (.ishl, 1) := by decide +kernel
theorem dc_E_spread_94 : decode cb_E_spread 94 = .ok (.isub, 1) := by decide +kernel
theorem dc_E_spread_95 : decode cb_E_spread 95 = .ok (.iconst 1, 1) := by decide +kernel
theorem dc_E_spread_96 : decode cb_E_spread 96 = .ok (.bastore, 1) := by decide +kernel
theorem dc_E_spread_97 : decode cb_E_spread 97 = .ok (.iinc 5 1, 3) := by decide +kernel
theorem dc_E_spread_100 : decode cb_E_spread 100 = .ok (.goto (-34), 3) := by decide +kernel
theorem dc_E_spread_103 : decode cb_E_spread 103 = .ok (.iinc 3 (-1), 3) := by decide +kernel
theorem dc_E_spread_106 : decode cb_E_spread 106 = .ok (.goto (-72), 3) := by decide +kernel
theorem dc_E_spread_109 : decode cb_E_spread 109 = .ok (.return_, 1) := by decide +kernel
theorem dc_E_goers_0 : decode cb_E_goers 0 = .ok (.aload_n 0, 1) := by decide +kernel
theorem dc_E_goers_1 : decode cb_E_goers 1 = .ok (.aload_n 1, 1) := by decide +kernel
theorem dc_E_goers_2 : decode cb_E_goers 2 = .ok (.iload_n 2, 1) := by decide +kernel
theorem dc_E_goers_3 : decode cb_E_goers 3 = .ok (.invokevirtual 46, 3) := by decide +kernel
theorem dc_E_goers_6 : decode cb_E_goers 6 = .ok (.iconst 0, 1) := by decide +kernel
theorem dc_E_goers_7 : decode cb_E_goers 7 = .ok (.istore_n 3, 1) := by decide +kernel
theorem dc_E_goers_8 : decode cb_E_goers 8 = .ok (.iconst 0, 1) := by decide +kernel
theorem dc_E_goers_9 : decode cb_E_goers 9 = .ok (.istore 4, 2) := by decide +kernel
theorem dc_E_goers_11 : decode cb_E_goers 11 = .ok (.iconst 0, 1) := by decide +kernel
theorem dc_E_goers_12 : decode cb_E_goers 12 = .ok (.istore 5, 2) := by decide +kernel
theorem dc_E_goers_14 : decode cb_E_goers 14 = .ok (.iload 5, 2) := by decide +kernel
theorem dc_E_goers_16 : decode cb_E_goers 16 = .ok (.aload_n 1, 1) := by decide +kernel
theorem dc_E_goers_17 : decode cb_E_goers 17 = .ok (.getfield 23, 3) := by decide +kernel
theorem dc_E_goers_20 : decode cb_E_goers 20 = .ok (.if_icmp .ge 70, 3) := by decide +kernel
theorem dc_E_goers_23 : decode cb_E_goers 23 = .ok (.iload_n 2, 1) := by decide +kernel
theorem dc_E_goers_24 : decode cb_E_goers 24 = .ok (.iload 5, 2) := by decide +kernel
theorem dc_E_goers_26 : decode cb_E_goers 26 = .ok (.ishr, 1) := by decide +kernel
theorem dc_E_goers_27 : decode cb_E_goers 27 = .ok (.iconst 1, 1) := by decide +kernel
theorem dc_E_goers_28 : decode cb_E_goers 28 = .ok (.iand, 1) := by decide +kernel
theorem dc_E_goers_29 : decode cb_E_goers 29 = .ok (.ifCond .eq 55, 3) := by decide +kernel
theorem dc_E_goers_32 : decode cb_E_goers 32 = .ok (.iload_n 3, 1) := by decide +kernel
theorem dc_E_goers_33 : decode cb_E_goers 33 = .ok (.ifCond .eq 15, 3) := by decide +kernel
theorem dc_E_goers_36 : decode cb_E_goers 36 = .ok (.aload_n 0, 1) := by decide +kernel
theorem dc_E_goers_37 : decode cb_E_goers 37 = .ok (.getfield 15, 3) := by decide +kernel
theorem dc_E_goers_40 : decode cb_E_goers 40 = .ok (.iload 5, 2) := by decide +kernel
theorem dc_E_goers_42 : decode cb_E_goers 42 = .ok (.iaload, 1) := by decide +kernel
theorem dc_E_goers_43 : decode cb_E_goers 43 = .ok (.iload 4, 2) := by decide +kernel
theorem dc_E_goers_45 : decode cb_E_goers 45 = .ok (.if_icmp .ge 20, 3) := by decide +kernel
theorem dc_E_goers_48 : decode cb_E_goers 48 = .ok (.aload_n 0, 1) := by decide +kernel
theorem dc_E_goers_49 : decode cb_E_goers 49 = .ok (.getfield 15, 3) := by decide +kernel
theorem dc_E_goers_52 : decode cb_E_goers 52 = .ok (.iload 5, 2) := by decide +kernel
theorem dc_E_goers_54 : decode cb_E_goers 54 = .ok (.iaload, 1) := by decide +kernel
theorem dc_E_goers_55 : decode cb_E_goers 55 = .ok (.istore 4, 2) := by decide +kernel
theorem dc_E_goers_57 : decode cb_E_goers 57 = .ok (.iconst 1, 1) := by decide +kernel
theorem dc_E_goers_58 : decode cb_E_goers 58 = .ok (.iload 5, 2) := by decide +kernel
theorem dc_E_goers_60 : decode cb_E_goers 60 = .ok (.ishl, 1) := by decide +kernel
theorem dc_E_goers_61 : decode cb_E_goers 61 = .ok (.istore_n 3, 1) := by decide +kernel
theorem dc_E_goers_62 : decode cb_E_goers 62 = .ok (.goto 22, 3) := by decide +kernel
theorem dc_E_goers_65 : decode cb_E_goers 65 = .ok (.aload_n 0, 1) := by decide +kernel
theorem dc_E_goers_66 : decode cb_E_goers 66 = .ok (.getfield 15, 3) := by decide +kernel
theorem dc_E_goers_69 : decode cb_E_goers 69 = .ok (.iload 5, 2) := by decide +kernel
theorem dc_E_goers_71 : decode cb_E_goers 71 = .ok (.iaload, 1) := by decide +kernel
theorem dc_E_goers_72 : decode cb_E_goers 72 = .ok (.iload 4, 2) := by decide +kernel
theorem dc_E_goers_74 : decode cb_E_goers 74 = .ok (.if_icmp .ne 10, 3) := by decide +kernel
theorem dc_E_goers_77 : decode cb_E_goers 77 = .ok (.iload_n 3, 1) := by decide +kernel
theorem dc_E_goers_78 : decode cb_E_goers 78 = .ok (.iconst 1, 1) := by decide +kernel
theorem dc_E_goers_79 : decode cb_E_goers 79 = .ok (.iload 5, 2) := by decide +kernel
theorem dc_E_goers_81 : decode cb_E_goers 81 = .ok (.ishl, 1) := by decide +kernel
theorem dc_E_goers_82 : decode cb_E_goers 82 = .ok (.ior, 1) := by decide +kernel
theorem dc_E_goers_83 : decode cb_E_goers 83 = .ok (.istore_n 3, 1) := by decide +kernel
theorem dc_E_goers_84 : decode cb_E_goers 84 = .ok (.iinc 5 1, 3) := by decide +kernel
theorem dc_E_goers_87 : decode cb_E_goers 87 = .ok (.goto (-73), 3) := by decide +kernel
theorem dc_E_goers_90 : decode cb_E_goers 90 = .ok (.iload_n 3, 1) := by decide +kernel
theorem dc_E_goers_91 : decode cb_E_goers 91 = .ok (.ireturn, 1) := by decide +kernel
theorem dc_E_countLeads_0 : decode cb_E_countLeads 0 = .ok (.iconst 0, 1) := by decide +kernel
theorem dc_E_countLeads_1 : decode cb_E_countLeads 1 = .ok (.istore_n 3, 1) := by decide +kernel
theorem dc_E_countLeads_2 : decode cb_E_countLeads 2 = .ok (.iload_n 3, 1) := by decide +kernel
theorem dc_E_countLeads_3 : decode cb_E_countLeads 3 = .ok (.aload_n 1, 1) := by decide +kernel
theorem dc_E_countLeads_4 : decode cb_E_countLeads 4 = .ok (.getfield 23, 3) := by decide +kernel
theorem dc_E_countLeads_7 : decode cb_E_countLeads 7 = .ok (.if_icmp .ge 16, 3) := by decide +kernel
theorem dc_E_countLeads_10 : decode cb_E_countLeads 10 = .ok (.aload_n 0, 1) := by decide +kernel
theorem dc_E_countLeads_11 : decode cb_E_countLeads 11 = .ok (.getfield 15, 3) := by decide +kernel
theorem dc_E_countLeads_14 : decode cb_E_countLeads 14 = .ok (.iload_n 3, 1) := by decide +kernel
theorem dc_E_countLeads_15 : decode cb_E_countLeads 15 = .ok (.iconst 0, 1) := by decide +kernel
theorem dc_E_countLeads_16 : decode cb_E_countLeads 16 = .ok (.iastore, 1) := by decide +kernel
theorem dc_E_countLeads_17 : decode cb_E_countLeads 17 = .ok (.iinc 3 1, 3) := by decide +kernel
theorem dc_E_countLeads_20 : decode cb_E_countLeads 20 = .ok (.goto (-18), 3) := by decide +kernel
theorem dc_E_countLeads_23 : decode cb_E_countLeads 23 = .ok (.iconst 0, 1) := by decide +kernel
theorem dc_E_countLeads_24 : decode cb_E_countLeads 24 = .ok (.istore_n 3, 1) := by decide +kernel
theorem dc_E_countLeads_25 : decode cb_E_countLeads 25 = .ok (.iload_n 3, 1) := by decide +kernel
theorem dc_E_countLeads_26 : decode cb_E_countLeads 26 = .ok (.aload_n 1, 1) := by decide +kernel
theorem dc_E_countLeads_27 : decode cb_E_countLeads 27 = .ok (.getfield 50, 3) := by decide +kernel
theorem dc_E_countLeads_30 : decode cb_E_countLeads 30 = .ok (.if_icmp .ge 76, 3) := by decide +kernel
theorem dc_E_countLeads_33 : decode cb_E_countLeads 33 = .ok (.aload_n 1, 1) := by decide +kernel
theorem dc_E_countLeads_34 : decode cb_E_countLeads 34 = .ok (.getfield 53, 3) := by decide +kernel
theorem dc_E_countLeads_37 : decode cb_E_countLeads 37 = .ok (.iload_n 3, 1) := by decide +kernel
theorem dc_E_countLeads_38 : decode cb_E_countLeads 38 = .ok (.iaload, 1) := by decide +kernel
theorem dc_E_countLeads_39 : decode cb_E_countLeads 39 = .ok (.istore 4, 2) := by decide +kernel
theorem dc_E_countLeads_41 : decode cb_E_countLeads 41 = .ok (.iconst 0, 1) := by decide +kernel
theorem dc_E_countLeads_42 : decode cb_E_countLeads 42 = .ok (.istore 5, 2) := by decide +kernel
theorem dc_E_countLeads_44 : decode cb_E_countLeads 44 = .ok (.iload 5, 2) := by decide +kernel
theorem dc_E_countLeads_46 : decode cb_E_countLeads 46 = .ok (.aload_n 1, 1) := by decide +kernel
theorem dc_E_countLeads_47 : decode cb_E_countLeads 47 = .ok (.getfield 23, 3) := by decide +kernel
theorem dc_E_countLeads_50 : decode cb_E_countLeads 50 = .ok (.if_icmp .ge 50, 3) := by decide +kernel
theorem dc_E_countLeads_53 : decode cb_E_countLeads 53 = .ok (.iload 4, 2) := by decide +kernel
theorem dc_E_countLeads_55 : decode cb_E_countLeads 55 = .ok (.bipush 7, 2) := by decide +kernel
theorem dc_E_countLeads_57 : decode cb_E_countLeads 57 = .ok (.iand, 1) := by decide +kernel
theorem dc_E_countLeads_58 : decode cb_E_countLeads 58 = .ok (.istore 6, 2) := by decide +kernel
theorem dc_E_countLeads_60 : decode cb_E_countLeads 60 = .ok (.iload_n 2, 1) := by decide +kernel
theorem dc_E_countLeads_61 : decode cb_E_countLeads 61 = .ok (.iload 6, 2) := by decide +kernel
theorem dc_E_countLeads_63 : decode cb_E_countLeads 63 = .ok (.ishr, 1) := by decide +kernel
theorem dc_E_countLeads_64 : decode cb_E_countLeads 64 = .ok (.iconst 1, 1) := by decide +kernel
theorem dc_E_countLeads_65 : decode cb_E_countLeads 65 = .ok (.iand, 1) := by decide +kernel
theorem dc_E_countLeads_66 : decode cb_E_countLeads 66 = .ok (.ifCond .eq 22, 3) := by decide +kernel
theorem dc_E_countLeads_69 : decode cb_E_countLeads 69 = .ok (.aload_n 0, 1) := by decide +kernel
theorem dc_E_countLeads_70 : decode cb_E_countLeads 70 = .ok (.getfield 15, 3) := by decide +kernel
theorem dc_E_countLeads_73 : decode cb_E_countLeads 73 = .ok (.iload 6, 2) := by decide +kernel
theorem dc_E_countLeads_75 : decode cb_E_countLeads 75 = .ok (.dup2, 1) := by decide +kernel
theorem dc_E_countLeads_76 : decode cb_E_countLeads 76 = .ok (.iaload, 1) := by decide +kernel
theorem dc_E_countLeads_77 : decode cb_E_countLeads 77 = .ok (.aload_n 1, 1) := by decide +kernel
theorem dc_E_countLeads_78 : decode cb_E_countLeads 78 = .ok (.getfield 56, 3) := by decide +kernel
theorem dc_E_countLeads_81 : decode cb_E_countLeads 81 = .ok (.iload_n 3, 1) := by decide +kernel
theorem dc_E_countLeads_82 : decode cb_E_countLeads 82 = .ok (.iaload, 1) := by decide +kernel
theorem dc_E_countLeads_83 : decode cb_E_countLeads 83 = .ok (.iadd, 1) := by decide +kernel
theorem dc_E_countLeads_84 : decode cb_E_countLeads 84 = .ok (.iastore, 1) := by decide +kernel
theorem dc_E_countLeads_85 : decode cb_E_countLeads 85 = .ok (.goto 15, 3) := by decide +kernel
theorem dc_E_countLeads_88 : decode cb_E_countLeads 88 = .ok (.iload 4, 2) := by decide +kernel
theorem dc_E_countLeads_90 : decode cb_E_countLeads 90 = .ok (.iconst 3, 1) := by decide +kernel
theorem dc_E_countLeads_91 : decode cb_E_countLeads 91 = .ok (.ishr, 1) := by decide +kernel
theorem dc_E_countLeads_92 : decode cb_E_countLeads 92 = .ok (.istore 4, 2) := by decide +kernel
theorem dc_E_countLeads_94 : decode cb_E_countLeads 94 = .ok (.iinc 5 1, 3) := by decide +kernel
theorem dc_E_countLeads_97 : decode cb_E_countLeads 97 = .ok (.goto (-53), 3) := by decide +kernel
theorem dc_E_countLeads_100 : decode cb_E_countLeads 100 = .ok (.iinc 3 1, 3) := by decide +kernel
theorem dc_E_countLeads_103 : decode cb_E_countLeads 103 = .ok (.goto (-78), 3) := by decide +kernel
theorem dc_E_countLeads_106 : decode cb_E_countLeads 106 = .ok (.return_, 1) := by decide +kernel
theorem dc_K_init_0 : decode cb_K_init 0 = .ok (.aload_n 0, 1) := by decide +kernel
theorem dc_K_init_1 : decode cb_K_init 1 = .ok (.invokespecial 3, 3) := by decide +kernel
theorem dc_K_init_4 : decode cb_K_init 4 = .ok (.aload_n 0, 1) := by decide +kernel
theorem dc_K_init_5 : decode cb_K_init 5 = .ok (.bipush 21, 2) := by decide +kernel
theorem dc_K_init_7 : decode cb_K_init 7 = .ok (.newarray .int, 2) := by decide +kernel
theorem dc_K_init_9 : decode cb_K_init 9 = .ok (.putfield 9, 3) := by decide +kernel
theorem dc_K_init_12 : decode cb_K_init 12 = .ok (.aload_n 0, 1) := by decide +kernel
theorem dc_K_init_13 : decode cb_K_init 13 = .ok (.bipush 7, 2) := by decide +kernel
theorem dc_K_init_15 : decode cb_K_init 15 = .ok (.newarray .int, 2) := by decide +kernel
theorem dc_K_init_17 : decode cb_K_init 17 = .ok (.putfield 15, 3) := by decide +kernel
theorem dc_K_init_20 : decode cb_K_init 20 = .ok (.return_, 1) := by decide +kernel
theorem dc_K_winnerSet_0 : decode cb_K_winnerSet 0 = .ok (.aload_n 0, 1) := by decide +kernel
theorem dc_K_winnerSet_1 : decode cb_K_winnerSet 1 = .ok (.aload_n 1, 1) := by decide +kernel
theorem dc_K_winnerSet_2 : decode cb_K_winnerSet 2 = .ok (.invokevirtual 18, 3) := by decide +kernel
theorem dc_K_winnerSet_5 : decode cb_K_winnerSet 5 = .ok (.aload_n 0, 1) := by decide +kernel
theorem dc_K_winnerSet_6 : decode cb_K_winnerSet 6 = .ok (.getfield 15, 3) := by decide +kernel
theorem dc_K_winnerSet_9 : decode cb_K_winnerSet 9 = .ok (.iconst 0, 1) := by decide +kernel
theorem dc_K_winnerSet_10 : decode cb_K_winnerSet 10 = .ok (.invokestatic 22, 3) := by decide +kernel
theorem dc_K_winnerSet_13 : decode cb_K_winnerSet 13 = .ok (.aload_n 1, 1) := by decide +kernel
theorem dc_K_winnerSet_14 : decode cb_K_winnerSet 14 = .ok (.invokevirtual 28, 3) := by decide +kernel
theorem dc_K_winnerSet_17 : decode cb_K_winnerSet 17 = .ok (.istore_n 2, 1) := by decide +kernel
theorem dc_K_winnerSet_18 : decode cb_K_winnerSet 18 = .ok (.iconst 0, 1) := by decide +kernel
theorem dc_K_winnerSet_19 : decode cb_K_winnerSet 19 = .ok (.istore_n 3, 1) := by decide +kernel
theorem dc_K_winnerSet_20 : decode cb_K_winnerSet 20 = .ok (.iload_n 3, 1) := by decide +kernel
theorem dc_K_winnerSet_21 : decode cb_K_winnerSet 21 = .ok (.aload_n 0, 1) := by decide +kernel
theorem dc_K_winnerSet_22 : decode cb_K_winnerSet 22 = .ok (.getfield 34, 3) := by decide +kernel
theorem dc_K_winnerSet_25 : decode cb_K_winnerSet 25 = .ok (.if_icmp .ge 89, 3) := by decide +kernel
theorem dc_K_winnerSet_28 : decode cb_K_winnerSet 28 = .ok (.aload_n 1, 1) := by decide +kernel
theorem dc_K_winnerSet_29 : decode cb_K_winnerSet 29 = .ok (.getfield 38, 3) := by decide +kernel
theorem dc_K_winnerSet_32 : decode cb_K_winnerSet 32 = .ok (.bipush 7, 2) := by decide +kernel
theorem dc_K_winnerSet_34 : decode cb_K_winnerSet 34 = .ok (.aload_n 0, 1) := by decide +kernel
theorem dc_K_winnerSet_35 : decode cb_K_winnerSet 35 = .ok (.getfield 9, 3) := by decide +kernel
theorem dc_K_winnerSet_38 : decode cb_K_winnerSet 38 = .ok (.iload_n 3, 1) := by decide +kernel
theorem dc_K_winnerSet_39 : decode cb_K_winnerSet 39 = .ok (.iaload, 1) := by decide +kernel
theorem dc_K_winnerSet_40 : decode cb_K_winnerSet 40 = .ok (.iconst 3, 1) := by decide +kernel
theorem dc_K_winnerSet_41 : decode cb_K_winnerSet 41 = .ok (.ishr, 1) := by decide +kernel
theorem dc_K_winnerSet_42 : decode cb_K_winnerSet 42 = .ok (.bipush 7, 2) := by decide +kernel
theorem dc_K_winnerSet_44 : decode cb_K_winnerSet 44 = .ok (.iand, 1) := by decide +kernel
theorem dc_K_winnerSet_45 : decode cb_K_winnerSet 45 = .ok (.isub, 1) := by decide +kernel
theorem dc_K_winnerSet_46 : decode cb_K_winnerSet 46 = .ok (.invokestatic 41, 3) := by decide +kernel
theorem dc_K_winnerSet_49 : decode cb_K_winnerSet 49 = .ok (.istore 4, 2) := by decide +kernel
theorem dc_K_winnerSet_51 : decode cb_K_winnerSet 51 = .ok (.aload_n 1, 1) := by decide +kernel
theorem dc_K_winnerSet_52 : decode cb_K_winnerSet 52 = .ok (.getfield 38, 3) := by decide +kernel
theorem dc_K_winnerSet_55 : decode cb_K_winnerSet 55 = .ok (.bipush 7, 2) := by decide +kernel
theorem dc_K_winnerSet_57 : decode cb_K_winnerSet 57 = .ok (.aload_n 0, 1) := by decide +kernel
theorem dc_K_winnerSet_58 : decode cb_K_winnerSet 58 = .ok (.getfield 9, 3) := by decide +kernel
theorem dc_K_winnerSet_61 : decode cb_K_winnerSet 61 = .ok (.iload_n 3, 1) := by decide +kernel
theorem dc_K_winnerSet_62 : decode cb_K_winnerSet 62 = .ok (.iaload, 1) := by decide +kernel
theorem dc_K_winnerSet_63 : decode cb_K_winnerSet 63 = .ok (.bipush 7, 2) := by decide +kernel
theorem dc_K_winnerSet_65 : decode cb_K_winnerSet 65 = .ok (.iand, 1) := by decide +kernel
theorem dc_K_winnerSet_66 : decode cb_K_winnerSet 66 = .ok (.isub, 1) := by decide +kernel
theorem dc_K_winnerSet_67 : decode cb_K_winnerSet 67 = .ok (.invokestatic 41, 3) := by decide +kernel
theorem dc_K_winnerSet_70 : decode cb_K_winnerSet 70 = .ok (.istore 5, 2) := by decide +kernel
theorem dc_K_winnerSet_72 : decode cb_K_winnerSet 72 = .ok (.aload_n 0, 1) := by decide +kernel
theorem dc_K_winnerSet_73 : decode cb_K_winnerSet 73 = .ok (.getfield 15, 3) := by decide +kernel
theorem dc_K_winnerSet_76 : decode cb_K_winnerSet 76 = .ok (.iload 5, 2) := by decide +kernel
theorem dc_K_winnerSet_78 : decode cb_K_winnerSet 78 = .ok (.iaload, 1) := by decide +kernel
theorem dc_K_winnerSet_79 : decode cb_K_winnerSet 79 = .ok (.iload 4, 2) := by decide +kernel
theorem dc_K_winnerSet_81 : decode cb_K_winnerSet 81 = .ok (.ishr, 1) := by decide +kernel
theorem dc_K_winnerSet_82 : decode cb_K_winnerSet 82 = .ok (.iconst 1, 1) := by decide +kernel
theorem dc_K_winnerSet_83 : decode cb_K_winnerSet 83 = .ok (.iand, 1) := by decide +kernel
theorem dc_K_winnerSet_84 : decode cb_K_winnerSet 84 = .ok (.ifCond .ne 24, 3) := by decide +kernel
theorem dc_K_winnerSet_87 : decode cb_K_winnerSet 87 = .ok (.aload_n 0, 1) := by decide +kernel
theorem dc_K_winnerSet_88 : decode cb_K_winnerSet 88 = .ok (.iload 4, 2) := by decide +kernel
theorem dc_K_winnerSet_90 : decode cb_K_winnerSet 90 = .ok (.iload 5, 2) := by decide +kernel
theorem dc_K_winnerSet_92 : decode cb_K_winnerSet 92 = .ok (.aload_n 1, 1) := by decide +kernel
theorem dc_K_winnerSet_93 : decode cb_K_winnerSet 93 = .ok (.getfield 47, 3) := by decide +kernel
theorem dc_K_winnerSet_96 : decode cb_K_winnerSet 96 = .ok (.invokevirtual 50, 3) := by decide +kernel
theorem dc_K_winnerSet_99 : decode cb_K_winnerSet 99 = .ok (.iload_n 2, 1) := by decide +kernel
theorem dc_K_winnerSet_100 : decode cb_K_winnerSet 100 = .ok (.iconst 1, 1) := by decide +kernel
theorem dc_K_winnerSet_101 : decode cb_K_winnerSet 101 = .ok (.iload 5, 2) := by decide +kernel
theorem dc_K_winnerSet_103 : decode cb_K_winnerSet 103 = .ok (.ishl, 1) := by decide +kernel
theorem dc_K_winnerSet_104 : decode cb_K_winnerSet 104 = .ok (.iconst (-1), 1) := by decide +kernel
theorem dc_K_winnerSet_105 : decode cb_K_winnerSet 105 = .ok (.ixor, 1) := by decide +kernel
theorem dc_K_winnerSet_106 : decode cb_K_winnerSet 106 = .ok (.iand, 1) := by decide +kernel
theorem dc_K_winnerSet_107 : decode cb_K_winnerSet 107 = .ok (.istore_n 2, 1) := by decide +kernel
theorem dc_K_winnerSet_108 : decode cb_K_winnerSet 108 = .ok (.iinc 3 1, 3) := by decide +kernel
theorem dc_K_winnerSet_111 : decode cb_K_winnerSet 111 = .ok (.goto (-91), 3) := by decide +kernel
theorem dc_K_winnerSet_114 : decode cb_K_winnerSet 114 = .ok (.iload_n 2, 1) := by decide +kernel
theorem dc_K_winnerSet_115 : decode cb_K_winnerSet 115 = .ok (.ireturn, 1) := by decide +kernel
theorem dc_K_collect_0 : decode cb_K_collect 0 = .ok (.aload_n 0, 1) := by decide +kernel
theorem dc_K_collect_1 : decode cb_K_collect 1 = .ok (.iconst 0, 1) := by decide +kernel
theorem dc_K_collect_2 : decode cb_K_collect 2 = .ok (.putfield 34, 3) := by decide +kernel
theorem dc_K_collect_5 : decode cb_K_collect 5 = .ok (.iconst 0, 1) := by decide +kernel
theorem dc_K_collect_6 : decode cb_K_collect 6 = .ok (.istore_n 2, 1) := by decide +kernel
theorem dc_K_collect_7 : decode cb_K_collect 7 = .ok (.iload_n 2, 1) := by decide +kernel
theorem dc_K_collect_8 : decode cb_K_collect 8 = .ok (.aload_n 1, 1) := by decide +kernel
theorem dc_K_collect_9 : decode cb_K_collect 9 = .ok (.getfield 47, 3) := by decide +kernel
theorem dc_K_collect_12 : decode cb_K_collect 12 = .ok (.if_icmp .ge 86, 3) := by decide +kernel
theorem dc_K_collect_15 : decode cb_K_collect 15 = .ok (.aload_n 1, 1) := by decide +kernel
theorem dc_K_collect_16 : decode cb_K_collect 16 = .ok (.getfield 38, 3) := by decide +kernel
theorem dc_K_collect_19 : decode cb_K_collect 19 = .ok (.iload_n 2, 1) := by decide +kernel
theorem dc_K_collect_20 : decode cb_K_collect 20 = .ok (.invokestatic 41, 3) := by decide +kernel
theorem dc_K_collect_23 : decode cb_K_collect 23 = .ok (.istore_n 3, 1) := by decide +kernel
theorem dc_K_collect_24 : decode cb_K_collect 24 = .ok (.iconst 0, 1) := by decide +kernel
theorem dc_K_collect_25 : decode cb_K_collect 25 = .ok (.istore 4, 2) := by decide +kernel
theorem dc_K_collect_27 : decode cb_K_collect 27 = .ok (.iload 4, 2) := by decide +kernel
theorem dc_K_collect_29 : decode cb_K_collect 29 = .ok (.aload_n 1, 1) := by decide +kernel
theorem dc_K_collect_30 : decode cb_K_collect 30 = .ok (.getfield 47, 3) := by decide +kernel
theorem dc_K_collect_33 : decode cb_K_collect 33 = .ok (.if_icmp .ge 59, 3) := by decide +kernel
theorem dc_K_collect_36 : decode cb_K_collect 36 = .ok (.aload_n 1, 1) := by decide +kernel
theorem dc_K_collect_37 : decode cb_K_collect 37 = .ok (.getfield 38, 3) := by decide +kernel
theorem dc_K_collect_40 : decode cb_K_collect 40 = .ok (.iload 4, 2) := by decide +kernel
theorem dc_K_collect_42 : decode cb_K_collect 42 = .ok (.invokestatic 41, 3) := by decide +kernel
theorem dc_K_collect_45 : decode cb_K_collect 45 = .ok (.istore 5, 2) := by decide +kernel
theorem dc_K_collect_47 : decode cb_K_collect 47 = .ok (.aload_n 1, 1) := by decide +kernel
theorem dc_K_collect_48 : decode cb_K_collect 48 = .ok (.iload_n 3, 1) := by decide +kernel
theorem dc_K_collect_49 : decode cb_K_collect 49 = .ok (.iload 5, 2) := by decide +kernel
theorem dc_K_collect_51 : decode cb_K_collect 51 = .ok (.invokevirtual 54, 3) := by decide +kernel
theorem dc_K_collect_54 : decode cb_K_collect 54 = .ok (.ifCond .eq 32, 3) := by decide +kernel
theorem dc_K_collect_57 : decode cb_K_collect 57 = .ok (.aload_n 0, 1) := by decide +kernel
theorem dc_K_collect_58 : decode cb_K_collect 58 = .ok (.aload_n 1, 1) := by decide +kernel
theorem dc_K_collect_59 : decode cb_K_collect 59 = .ok (.getfield 58, 3) := by decide +kernel
theorem dc_K_collect_62 : decode cb_K_collect 62 = .ok (.iload_n 3, 1) := by decide +kernel
theorem dc_K_collect_63 : decode cb_K_collect 63 = .ok (.aaload, 1) := by decide +kernel
theorem dc_K_collect_64 : decode cb_K_collect 64 = .ok (.iload 5, 2) := by decide +kernel
theorem dc_K_collect_66 : decode cb_K_collect 66 = .ok (.iaload, 1) := by decide +kernel
theorem dc_K_collect_67 : decode cb_K_collect 67 = .ok (.bipush 6, 2) := by decide +kernel
theorem dc_K_collect_69 : decode cb_K_collect 69 = .ok (.ishl, 1) := by decide +kernel
theorem dc_K_collect_70 : decode cb_K_collect 70 = .ok (.bipush 7, 2) := by decide +kernel
theorem dc_K_collect_72 : decode cb_K_collect 72 = .ok (.iload_n 2, 1) := by decide +kernel
theorem dc_K_collect_73 : decode cb_K_collect 73 = .ok (.isub, 1) := by decide +kernel
theorem dc_K_collect_74 : decode cb_K_collect 74 = .ok (.iconst 3, 1) := by decide +kernel
theorem dc_K_collect_75 : decode cb_K_collect 75 = .ok (.ishl, 1) := by decide +kernel
theorem dc_K_collect_76 : decode cb_K_collect 76 = .ok (.ior, 1) := by decide +kernel
theorem dc_K_collect_77 : decode cb_K_collect 77 = .ok (.bipush 7, 2) := by decide +kernel
theorem dc_K_collect_79 : decode cb_K_collect 79 = .ok (.iload 4, 2) := by decide +kernel
theorem dc_K_collect_81 : decode cb_K_collect 81 = .ok (.isub, 1) := by decide +kernel
theorem dc_K_collect_82 : decode cb_K_collect 82 = .ok (.ior, 1) := by decide +kernel
theorem dc_K_collect_83 : decode cb_K_collect 83 = .ok (.invokevirtual 62, 3) := by decide +kernel
theorem dc_K_collect_86 : decode cb_K_collect 86 = .ok (.iinc 4 1, 3) := by decide +kernel
theorem dc_K_collect_89 : decode cb_K_collect 89 = .ok (.goto (-62), 3) := by decide +kernel
theorem dc_K_collect_92 : decode cb_K_collect 92 = .ok (.iinc 2 1, 3) := by decide +kernel
theorem dc_K_collect_95 : decode cb_K_collect 95 = .ok (.goto (-88), 3) := by decide +kernel
theorem dc_K_collect_98 : decode cb_K_collect 98 = .ok (.return_, 1) := by decide +kernel
theorem dc_K_insert_0 : decode cb_K_insert 0 = .ok (.aload_n 0, 1) := by decide +kernel
theorem dc_K_insert_1 : decode cb_K_insert 1 = .ok (.getfield 34, 3) := by decide +kernel
theorem dc_K_insert_4 : decode cb_K_insert 4 = .ok (.istore_n 2, 1) := by decide +kernel
theorem dc_K_insert_5 : decode cb_K_insert 5 = .ok (.iload_n 2, 1) := by decide +kernel
theorem dc_K_insert_6 : decode cb_K_insert 6 = .ok (.ifCond .le 35, 3) := by decide +kernel
theorem dc_K_insert_9 : decode cb_K_insert 9 = .ok (.aload_n 0, 1) := by decide +kernel
theorem dc_K_insert_10 : decode cb_K_insert 10 = .ok (.getfield 9, 3) := by decide +kernel
theorem dc_K_insert_13 : decode cb_K_insert 13 = .ok (.iload_n 2, 1) := by decide +kernel
theorem dc_K_insert_14 : decode cb_K_insert 14 = .ok (.iconst 1, 1) := by decide +kernel
theorem dc_K_insert_15 : decode cb_K_insert 15 = .ok (.isub, 1) := by decide +kernel
theorem dc_K_insert_16 : decode cb_K_insert 16 = .ok (.iaload, 1) := by decide +kernel
theorem dc_K_insert_17 : decode cb_K_insert 17 = .ok (.iload_n 1, 1) := by decide +kernel
theorem dc_K_insert_18 : decode cb_K_insert 18 = .ok (.if_icmp .ge 23, 3) := by decide +kernel
theorem dc_K_insert_21 : decode cb_K_insert 21 = .ok (.aload_n 0, 1) := by decide +kernel
theorem dc_K_insert_22 : decode cb_K_insert 22 = .ok (.getfield 9, 3) := by decide +kernel
theorem dc_K_insert_25 : decode cb_K_insert 25 = .ok (.iload_n 2, 1) := by decide +kernel
theorem dc_K_insert_26 : decode cb_K_insert 26 = .ok (.aload_n 0, 1) := by decide +kernel
theorem dc_K_insert_27 : decode cb_K_insert 27 = .ok (.getfield 9, 3) := by decide +kernel
theorem dc_K_insert_30 : decode cb_K_insert 30 = .ok (.iload_n 2, 1) := by decide +kernel
theorem dc_K_insert_31 : decode cb_K_insert 31 = .ok (.iconst 1, 1) := by decide +kernel
theorem dc_K_insert_32 : decode cb_K_insert 32 = .ok (.isub, 1) := by decide +kernel
theorem dc_K_insert_33 : decode cb_K_insert 33 = .ok (.iaload, 1) := by decide +kernel
theorem dc_K_insert_34 : decode cb_K_insert 34 = .ok (.iastore, 1) := by decide +kernel
theorem dc_K_insert_35 : decode cb_K_insert 35 = .ok (.iinc 2 (-1), 3) := by decide +kernel
theorem dc_K_insert_38 : decode cb_K_insert 38 = .ok (.goto (-33), 3) := by decide +kernel
theorem dc_K_insert_41 : decode cb_K_insert 41 = .ok (.aload_n 0, 1) := by decide +kernel
theorem dc_K_insert_42 : decode cb_K_insert 42 = .ok (.getfield 9, 3) := by decide +kernel
theorem dc_K_insert_45 : decode cb_K_insert 45 = .ok (.iload_n 2, 1) := by decide +kernel
theorem dc_K_insert_46 : decode cb_K_insert 46 = .ok (.iload_n 1, 1) := by decide +kernel
theorem dc_K_insert_47 : decode cb_K_insert 47 = .ok (.iastore, 1) := by decide +kernel
theorem dc_K_insert_48 : decode cb_K_insert 48 = .ok (.aload_n 0, 1) := by decide +kernel
theorem dc_K_insert_49 : decode cb_K_insert 49 = .ok (.dup, 1) := by decide +kernel
theorem dc_K_insert_50 : decode cb_K_insert 50 = .ok (.getfield 34, 3) := by decide +kernel
theorem dc_K_insert_53 : decode cb_K_insert 53 = .ok (.iconst 1, 1) := by decide +kernel
theorem dc_K_insert_54 : decode cb_K_insert 54 = .ok (.iadd, 1) := by decide +kernel
theorem dc_K_insert_55 : decode cb_K_insert 55 = .ok (.putfield 34, 3) := by decide +kernel
theorem dc_K_insert_58 : decode cb_K_insert 58 = .ok (.return_, 1) := by decide +kernel
theorem dc_K_lock_0 : decode cb_K_lock 0 = .ok (.aload_n 0, 1) := by decide +kernel
theorem dc_K_lock_1 : decode cb_K_lock 1 = .ok (.getfield 15, 3) := by decide +kernel
theorem dc_K_lock_4 : decode cb_K_lock 4 = .ok (.iload_n 2, 1) := by decide +kernel
theorem dc_K_lock_5 : decode cb_K_lock 5 = .ok (.iaload, 1) := by decide +kernel
theorem dc_K_lock_6 : decode cb_K_lock 6 = .ok (.iconst 1, 1) := by decide +kernel
theorem dc_K_lock_7 : decode cb_K_lock 7 = .ok (.iload_n 2, 1) := by decide +kernel
theorem dc_K_lock_8 : decode cb_K_lock 8 = .ok (.ishl, 1) := by decide +kernel
theorem dc_K_lock_9 : decode cb_K_lock 9 = .ok (.ior, 1) := by decide +kernel
theorem dc_K_lock_10 : decode cb_K_lock 10 = .ok (.istore 4, 2) := by decide +kernel
theorem dc_K_lock_12 : decode cb_K_lock 12 = .ok (.iconst 0, 1) := by decide +kernel
theorem dc_K_lock_13 : decode cb_K_lock 13 = .ok (.istore 5, 2) := by decide +kernel
theorem dc_K_lock_15 : decode cb_K_lock 15 = .ok (.iload 5, 2) := by decide +kernel
theorem dc_K_lock_17 : decode cb_K_lock 17 = .ok (.iload_n 3, 1) := by decide +kernel
theorem dc_K_lock_18 : decode cb_K_lock 18 = .ok (.if_icmp .ge 41, 3) := by decide +kernel
theorem dc_K_lock_21 : decode cb_K_lock 21 = .ok (.iload 5, 2) := by decide +kernel
theorem dc_K_lock_23 : decode cb_K_lock 23 = .ok (.iload_n 1, 1) := by decide +kernel
theorem dc_K_lock_24 : decode cb_K_lock 24 = .ok (.if_icmp .eq 17, 3) := by decide +kernel
theorem dc_K_lock_27 : decode cb_K_lock 27 = .ok (.aload_n 0, 1) := by decide +kernel
theorem dc_K_lock_28 : decode cb_K_lock 28 = .ok (.getfield 15, 3) := by decide +kernel
theorem dc_K_lock_31 : decode cb_K_lock 31 = .ok (.iload 5, 2) := by decide +kernel
theorem dc_K_lock_33 : decode cb_K_lock 33 = .ok (.iaload, 1) := by decide +kernel
theorem dc_K_lock_34 : decode cb_K_lock 34 = .ok (.iload_n 1, 1) := by decide +kernel
theorem dc_K_lock_35 : decode cb_K_lock 35 = .ok (.ishr, 1) := by decide +kernel
theorem dc_K_lock_36 : decode cb_K_lock 36 = .ok (.iconst 1, 1) := by decide +kernel
theorem dc_K_lock_37 : decode cb_K_lock 37 = .ok (.iand, 1) := by decide +kernel
theorem dc_K_lock_38 : decode cb_K_lock 38 = .ok (.ifCond .eq 15, 3) := by decide +kernel
theorem dc_K_lock_41 : decode cb_K_lock 41 = .ok (.aload_n 0, 1) := by decide +kernel
theorem dc_K_lock_42 : decode cb_K_lock 42 = .ok (.getfield 15, 3) := by decide +kernel
theorem dc_K_lock_45 : decode cb_K_lock 45 = .ok (.iload 5, 2) := by decide +kernel
theorem dc_K_lock_47 : decode cb_K_lock 47 = .ok (.dup2, 1) := by decide +kernel
theorem dc_K_lock_48 : decode cb_K_lock 48 = .ok (.iaload, 1) := by decide +kernel
theorem dc_K_lock_49 : decode cb_K_lock 49 = .ok (.iload 4, 2) := by decide +kernel
theorem dc_K_lock_51 : decode cb_K_lock 51 = .ok (.ior, 1) := by decide +kernel
theorem dc_K_lock_52 : decode cb_K_lock 52 = .ok (.iastore, 1) := by decide +kernel
theorem dc_K_lock_53 : decode cb_K_lock 53 = .ok (.iinc 5 1, 3) := by decide +kernel
theorem dc_K_lock_56 : decode cb_K_lock 56 = .ok (.goto (-41), 3) := by decide +kernel
theorem dc_K_lock_59 : decode cb_K_lock 59 = .ok (.return_, 1) := by decide +kernel
theorem dc_O_at_0 : decode cb_O_at 0 = .ok (.iload_n 0, 1) := by decide +kernel
theorem dc_O_at_1 : decode cb_O_at 1 = .ok (.iconst 3, 1) := by decide +kernel
theorem dc_O_at_2 : decode cb_O_at 2 = .ok (.iload_n 1, 1) := by decide +kernel
theorem dc_O_at_3 : decode cb_O_at 3 = .ok (.imul, 1) := by decide +kernel
theorem dc_O_at_4 : decode cb_O_at 4 = .ok (.ishr, 1) := by decide +kernel
theorem dc_O_at_5 : decode cb_O_at 5 = .ok (.bipush 7, 2) := by decide +kernel
theorem dc_O_at_7 : decode cb_O_at 7 = .ok (.iand, 1) := by decide +kernel
theorem dc_O_at_8 : decode cb_O_at 8 = .ok (.ireturn, 1) := by decide +kernel
theorem dc_O_isOne_0 : decode cb_O_isOne 0 = .ok (.iload_n 0, 1) := by decide +kernel
theorem dc_O_isOne_1 : decode cb_O_isOne 1 = .ok (.ifCond .lt 11, 3) := by decide +kernel
theorem dc_O_isOne_4 : decode cb_O_isOne 4 = .ok (.iload_n 0, 1) := by decide +kernel
theorem dc_O_isOne_5 : decode cb_O_isOne 5 = .ok (.iconst 3, 1) := by decide +kernel
theorem dc_O_isOne_6 : decode cb_O_isOne 6 = .ok (.iload_n 1, 1) := by decide +kernel
theorem dc_O_isOne_7 : decode cb_O_isOne 7 = .ok (.imul, 1) := by decide +kernel
theorem dc_O_isOne_8 : decode cb_O_isOne 8 = .ok (.ishr, 1) := by decide +kernel
theorem dc_O_isOne_9 : decode cb_O_isOne 9 = .ok (.ifCond .eq 5, 3) := by decide +kernel
theorem dc_O_isOne_12 : decode cb_O_isOne 12 = .ok (.iconst 0, 1) := by decide +kernel
theorem dc_O_isOne_13 : decode cb_O_isOne 13 = .ok (.ireturn, 1) := by decide +kernel
theorem dc_O_isOne_14 : decode cb_O_isOne 14 = .ok (.iconst 0, 1) := by decide +kernel
theorem dc_O_isOne_15 : decode cb_O_isOne 15 = .ok (.istore_n 2, 1) := by decide +kernel
theorem dc_O_isOne_16 : decode cb_O_isOne 16 = .ok (.iconst 0, 1) := by decide +kernel
theorem dc_O_isOne_17 : decode cb_O_isOne 17 = .ok (.istore_n 3, 1) := by decide +kernel
theorem dc_O_isOne_18 : decode cb_O_isOne 18 = .ok (.iload_n 3, 1) := by decide +kernel
theorem dc_O_isOne_19 : decode cb_O_isOne 19 = .ok (.iload_n 1, 1) := by decide +kernel
theorem dc_O_isOne_20 : decode cb_O_isOne 20 = .ok (.if_icmp .ge 19, 3) := by decide +kernel
theorem dc_O_isOne_23 : decode cb_O_isOne 23 = .ok (.iload_n 2, 1) := by decide +kernel
theorem dc_O_isOne_24 : decode cb_O_isOne 24 = .ok (.iconst 1, 1) := by decide +kernel
theorem dc_O_isOne_25 : decode cb_O_isOne 25 = .ok (.iload_n 0, 1) := by decide +kernel
theorem dc_O_isOne_26 : decode cb_O_isOne 26 = .ok (.iload_n 3, 1) := by decide +kernel
theorem dc_O_isOne_27 : decode cb_O_isOne 27 = .ok (.invokestatic 7, 3) := by decide +kernel
theorem dc_O_isOne_30 : decode cb_O_isOne 30 = .ok (.ishl, 1) := by decide +kernel
theorem dc_O_isOne_31 : decode cb_O_isOne 31 = .ok (.ior, 1) := by decide +kernel
theorem dc_O_isOne_32 : decode cb_O_isOne 32 = .ok (.istore_n 2, 1) := by decide +kernel
theorem dc_O_isOne_33 : decode cb_O_isOne 33 = .ok (.iinc 3 1, 3) := by decide +kernel
theorem dc_O_isOne_36 : decode cb_O_isOne 36 = .ok (.goto (-18), 3) := by decide +kernel
theorem dc_O_isOne_39 : decode cb_O_isOne 39 = .ok (.iload_n 2, 1) := by decide +kernel
theorem dc_O_isOne_40 : decode cb_O_isOne 40 = .ok (.iconst 1, 1) := by decide +kernel
theorem dc_O_isOne_41 : decode cb_O_isOne 41 = .ok (.iload_n 1, 1) := by decide +kernel
theorem dc_O_isOne_42 : decode cb_O_isOne 42 = .ok (.ishl, 1) := by decide +kernel
theorem dc_O_isOne_43 : decode cb_O_isOne 43 = .ok (.iconst 1, 1) := by decide +kernel
theorem dc_O_isOne_44 : decode cb_O_isOne 44 = .ok (.isub, 1) := by decide +kernel
theorem dc_O_isOne_45 : decode cb_O_isOne 45 = .ok (.if_icmp .ne 7, 3) := by decide +kernel
theorem dc_O_isOne_48 : decode cb_O_isOne 48 = .ok (.iconst 1, 1) := by decide +kernel
theorem dc_O_isOne_49 : decode cb_O_isOne 49 = .ok (.goto 4, 3) := by decide +kernel
theorem dc_O_isOne_52 : decode cb_O_isOne 52 = .ok (.iconst 0, 1) := by decide +kernel
theorem dc_O_isOne_53 : decode cb_O_isOne 53 = .ok (.ireturn, 1) := by decide +kernel
theorem dc_O_ascending_0 : decode cb_O_ascending 0 = .ok (.iconst 0, 1) := by decide +kernel
theorem dc_O_ascending_1 : decode cb_O_ascending 1 = .ok (.istore_n 1, 1) := by decide +kernel
theorem dc_O_ascending_2 : decode cb_O_ascending 2 = .ok (.iconst 0, 1) := by decide +kernel
theorem dc_O_ascending_3 : decode cb_O_ascending 3 = .ok (.istore_n 2, 1) := by decide +kernel
theorem dc_O_ascending_4 : decode cb_O_ascending 4 = .ok (.iload_n 2, 1) := by decide +kernel
theorem dc_O_ascending_5 : decode cb_O_ascending 5 = .ok (.iload_n 0, 1) := by decide +kernel
theorem dc_O_ascending_6 : decode cb_O_ascending 6 = .ok (.if_icmp .ge 17, 3) := by decide +kernel
theorem dc_O_ascending_9 : decode cb_O_ascending 9 = .ok (.iload_n 1, 1) := by decide +kernel
theorem dc_O_ascending_10 : decode cb_O_ascending 10 = .ok (.iload_n 2, 1) := by decide +kernel
theorem dc_O_ascending_11 : decode cb_O_ascending 11 = .ok (.iconst 3, 1) := by decide +kernel
theorem dc_O_ascending_12 : decode cb_O_ascending 12 = .ok (.iload_n 2, 1) := by decide +kernel
theorem dc_O_ascending_13 : decode cb_O_ascending 13 = .ok (.imul, 1) := by decide +kernel
theorem dc_O_ascending_14 : decode cb_O_ascending 14 = .ok (.ishl, 1) := by decide +kernel
theorem dc_O_ascending_15 : decode cb_O_ascending 15 = .ok (.ior, 1) := by decide +kernel
theorem dc_O_ascending_16 : decode cb_O_ascending 16 = .ok (.istore_n 1, 1) := by decide +kernel
theorem dc_O_ascending_17 : decode cb_O_ascending 17 = .ok (.iinc 2 1, 3) := by decide +kernel
theorem dc_O_ascending_20 : decode cb_O_ascending 20 = .ok (.goto (-16), 3) := by decide +kernel
theorem dc_O_ascending_23 : decode cb_O_ascending 23 = .ok (.iload_n 1, 1) := by decide +kernel
theorem dc_O_ascending_24 : decode cb_O_ascending 24 = .ok (.ireturn, 1) := by decide +kernel
theorem dc_O_placeOf_0 : decode cb_O_placeOf 0 = .ok (.iconst 0, 1) := by decide +kernel
theorem dc_O_placeOf_1 : decode cb_O_placeOf 1 = .ok (.istore_n 3, 1) := by decide +kernel
theorem dc_O_placeOf_2 : decode cb_O_placeOf 2 = .ok (.iload_n 3, 1) := by decide +kernel
theorem dc_O_placeOf_3 : decode cb_O_placeOf 3 = .ok (.iload_n 2, 1) := by decide +kernel
theorem dc_O_placeOf_4 : decode cb_O_placeOf 4 = .ok (.if_icmp .ge 20, 3) := by decide +kernel
theorem dc_O_placeOf_7 : decode cb_O_placeOf 7 = .ok (.iload_n 0, 1) := by decide +kernel
theorem dc_O_placeOf_8 : decode cb_O_placeOf 8 = .ok (.iload_n 3, 1) := by decide +kernel
theorem dc_O_placeOf_9 : decode cb_O_placeOf 9 = .ok (.invokestatic 7, 3) := by decide +kernel
theorem dc_O_placeOf_12 : decode cb_O_placeOf 12 = .ok (.iload_n 1, 1) := by decide +kernel
theorem dc_O_placeOf_13 : decode cb_O_placeOf 13 = .ok (.if_icmp .ne 5, 3) := by decide +kernel
theorem dc_O_placeOf_16 : decode cb_O_placeOf 16 = .ok (.iload_n 3, 1) := by decide +kernel
theorem dc_O_placeOf_17 : decode cb_O_placeOf 17 = .ok (.ireturn, 1) := by decide +kernel
theorem dc_O_placeOf_18 : decode cb_O_placeOf 18 = .ok (.iinc 3 1, 3) := by decide +kernel
theorem dc_O_placeOf_21 : decode cb_O_placeOf 21 = .ok (.goto (-19), 3) := by decide +kernel
end
section
theorem dc_O_placeOf_24 : decode cb_O_placeOf 24 = .ok (.iload_n 2, 1) := by decide +kernel
theorem dc_O_placeOf_25 : decode cb_O_placeOf 25 = .ok (.ireturn, 1) := by decide +kernel
theorem dc_O_raised_0 : decode cb_O_raised 0 = .ok (.iload_n 0, 1) := by decide +kernel
theorem dc_O_raised_1 : decode cb_O_raised 1 = .ok (.iload_n 1, 1) := by decide +kernel
theorem dc_O_raised_2 : decode cb_O_raised 2 = .ok (.iload_n 2, 1) := by decide +kernel
theorem dc_O_raised_3 : decode cb_O_raised 3 = .ok (.invokestatic 13, 3) := by decide +kernel
theorem dc_O_raised_6 : decode cb_O_raised 6 = .ok (.istore_n 3, 1) := by decide +kernel
theorem dc_O_raised_7 : decode cb_O_raised 7 = .ok (.iload_n 3, 1) := by decide +kernel
theorem dc_O_raised_8 : decode cb_O_raised 8 = .ok (.ifCond .eq 8, 3) := by decide +kernel
theorem dc_O_raised_11 : decode cb_O_raised 11 = .ok (.iload_n 3, 1) := by decide +kernel
theorem dc_O_raised_12 : decode cb_O_raised 12 = .ok (.iload_n 2, 1) := by decide +kernel
theorem dc_O_raised_13 : decode cb_O_raised 13 = .ok (.if_icmp .ne 5, 3) := by decide +kernel
theorem dc_O_raised_16 : decode cb_O_raised 16 = .ok (.iload_n 0, 1) := by decide +kernel
theorem dc_O_raised_17 : decode cb_O_raised 17 = .ok (.ireturn, 1) := by decide +kernel
theorem dc_O_raised_18 : decode cb_O_raised 18 = .ok (.iload_n 0, 1) := by decide +kernel
theorem dc_O_raised_19 : decode cb_O_raised 19 = .ok (.iload_n 3, 1) := by decide +kernel
theorem dc_O_raised_20 : decode cb_O_raised 20 = .ok (.invokestatic 7, 3) := by decide +kernel
theorem dc_O_raised_23 : decode cb_O_raised 23 = .ok (.iload_n 0, 1) := by decide +kernel
theorem dc_O_raised_24 : decode cb_O_raised 24 = .ok (.iload_n 3, 1) := by decide +kernel
theorem dc_O_raised_25 : decode cb_O_raised 25 = .ok (.iconst 1, 1) := by decide +kernel
theorem dc_O_raised_26 : decode cb_O_raised 26 = .ok (.isub, 1) := by decide +kernel
theorem dc_O_raised_27 : decode cb_O_raised 27 = .ok (.invokestatic 7, 3) := by decide +kernel
theorem dc_O_raised_30 : decode cb_O_raised 30 = .ok (.ixor, 1) := by decide +kernel
theorem dc_O_raised_31 : decode cb_O_raised 31 = .ok (.istore 4, 2) := by decide +kernel
theorem dc_O_raised_33 : decode cb_O_raised 33 = .ok (.iload_n 0, 1) := by decide +kernel
theorem dc_O_raised_34 : decode cb_O_raised 34 = .ok (.iload 4, 2) := by decide +kernel
theorem dc_O_raised_36 : decode cb_O_raised 36 = .ok (.iconst 3, 1) := by decide +kernel
theorem dc_O_raised_37 : decode cb_O_raised 37 = .ok (.iload_n 3, 1) := by decide +kernel
theorem dc_O_raised_38 : decode cb_O_raised 38 = .ok (.imul, 1) := by decide +kernel
theorem dc_O_raised_39 : decode cb_O_raised 39 = .ok (.ishl, 1) := by decide +kernel
theorem dc_O_raised_40 : decode cb_O_raised 40 = .ok (.ixor, 1) := by decide +kernel
theorem dc_O_raised_41 : decode cb_O_raised 41 = .ok (.iload 4, 2) := by decide +kernel
theorem dc_O_raised_43 : decode cb_O_raised 43 = .ok (.iconst 3, 1) := by decide +kernel
theorem dc_O_raised_44 : decode cb_O_raised 44 = .ok (.iload_n 3, 1) := by decide +kernel
theorem dc_O_raised_45 : decode cb_O_raised 45 = .ok (.iconst 1, 1) := by decide +kernel
theorem dc_O_raised_46 : decode cb_O_raised 46 = .ok (.isub, 1) := by decide +kernel
theorem dc_O_raised_47 : decode cb_O_raised 47 = .ok (.imul, 1) := by decide +kernel
theorem dc_O_raised_48 : decode cb_O_raised 48 = .ok (.ishl, 1) := by decide +kernel
theorem dc_O_raised_49 : decode cb_O_raised 49 = .ok (.ixor, 1) := by decide +kernel
theorem dc_O_raised_50 : decode cb_O_raised 50 = .ok (.ireturn, 1) := by decide +kernel
theorem dc_O_without_0 : decode cb_O_without 0 = .ok (.iconst 0, 1) := by decide +kernel
theorem dc_O_without_1 : decode cb_O_without 1 = .ok (.istore_n 3, 1) := by decide +kernel
theorem dc_O_without_2 : decode cb_O_without 2 = .ok (.iconst 0, 1) := by decide +kernel
theorem dc_O_without_3 : decode cb_O_without 3 = .ok (.istore 4, 2) := by decide +kernel
theorem dc_O_without_5 : decode cb_O_without 5 = .ok (.iconst 0, 1) := by decide +kernel
theorem dc_O_without_6 : decode cb_O_without 6 = .ok (.istore 5, 2) := by decide +kernel
theorem dc_O_without_8 : decode cb_O_without 8 = .ok (.iload 5, 2) := by decide +kernel
theorem dc_O_without_10 : decode cb_O_without 10 = .ok (.iload_n 2, 1) := by decide +kernel
theorem dc_O_without_11 : decode cb_O_without 11 = .ok (.if_icmp .ge 40, 3) := by decide +kernel
theorem dc_O_without_14 : decode cb_O_without 14 = .ok (.iload_n 0, 1) := by decide +kernel
theorem dc_O_without_15 : decode cb_O_without 15 = .ok (.iload 5, 2) := by decide +kernel
theorem dc_O_without_17 : decode cb_O_without 17 = .ok (.invokestatic 7, 3) := by decide +kernel
theorem dc_O_without_20 : decode cb_O_without 20 = .ok (.istore 6, 2) := by decide +kernel
theorem dc_O_without_22 : decode cb_O_without 22 = .ok (.iload 6, 2) := by decide +kernel
theorem dc_O_without_24 : decode cb_O_without 24 = .ok (.iload_n 1, 1) := by decide +kernel
theorem dc_O_without_25 : decode cb_O_without 25 = .ok (.if_icmp .eq 20, 3) := by decide +kernel
theorem dc_O_without_28 : decode cb_O_without 28 = .ok (.iload_n 3, 1) := by decide +kernel
theorem dc_O_without_29 : decode cb_O_without 29 = .ok (.iload 6, 2) := by decide +kernel
theorem dc_O_without_31 : decode cb_O_without 31 = .ok (.iload_n 1, 1) := by decide +kernel
theorem dc_O_without_32 : decode cb_O_without 32 = .ok (.invokestatic 17, 3) := by decide +kernel
theorem dc_O_without_35 : decode cb_O_without 35 = .ok (.iconst 3, 1) := by decide +kernel
theorem dc_O_without_36 : decode cb_O_without 36 = .ok (.iload 4, 2) := by decide +kernel
theorem dc_O_without_38 : decode cb_O_without 38 = .ok (.imul, 1) := by decide +kernel
theorem dc_O_without_39 : decode cb_O_without 39 = .ok (.ishl, 1) := by decide +kernel
theorem dc_O_without_40 : decode cb_O_without 40 = .ok (.ior, 1) := by decide +kernel
theorem dc_O_without_41 : decode cb_O_without 41 = .ok (.istore_n 3, 1) := by decide +kernel
theorem dc_O_without_42 : decode cb_O_without 42 = .ok (.iinc 4 1, 3) := by decide +kernel
theorem dc_O_without_45 : decode cb_O_without 45 = .ok (.iinc 5 1, 3) := by decide +kernel
theorem dc_O_without_48 : decode cb_O_without 48 = .ok (.goto (-40), 3) := by decide +kernel
theorem dc_O_without_51 : decode cb_O_without 51 = .ok (.iload_n 3, 1) := by decide +kernel
theorem dc_O_without_52 : decode cb_O_without 52 = .ok (.ireturn, 1) := by decide +kernel
theorem dc_O_numberWithout_0 : decode cb_O_numberWithout 0 = .ok (.iload_n 0, 1) := by decide +kernel
theorem dc_O_numberWithout_1 : decode cb_O_numberWithout 1 = .ok (.iload_n 1, 1) := by decide +kernel
theorem dc_O_numberWithout_2 : decode cb_O_numberWithout 2 = .ok (.if_icmp .le 9, 3) := by decide +kernel
theorem dc_O_numberWithout_5 : decode cb_O_numberWithout 5 = .ok (.iload_n 0, 1) := by decide +kernel
theorem dc_O_numberWithout_6 : decode cb_O_numberWithout 6 = .ok (.iconst 1, 1) := by decide +kernel
theorem dc_O_numberWithout_7 : decode cb_O_numberWithout 7 = .ok (.isub, 1) := by decide +kernel
theorem dc_O_numberWithout_8 : decode cb_O_numberWithout 8 = .ok (.goto 4, 3) := by decide +kernel
theorem dc_O_numberWithout_11 : decode cb_O_numberWithout 11 = .ok (.iload_n 0, 1) := by decide +kernel
theorem dc_O_numberWithout_12 : decode cb_O_numberWithout 12 = .ok (.ireturn, 1) := by decide +kernel
theorem dc_O_standTogether_0 : decode cb_O_standTogether 0 = .ok (.iload_n 2, 1) := by decide +kernel
theorem dc_O_standTogether_1 : decode cb_O_standTogether 1 = .ok (.istore_n 3, 1) := by decide +kernel
theorem dc_O_standTogether_2 : decode cb_O_standTogether 2 = .ok (.iconst 0, 1) := by decide +kernel
theorem dc_O_standTogether_3 : decode cb_O_standTogether 3 = .ok (.istore 4, 2) := by decide +kernel
theorem dc_O_standTogether_5 : decode cb_O_standTogether 5 = .ok (.iconst 0, 1) := by decide +kernel
theorem dc_O_standTogether_6 : decode cb_O_standTogether 6 = .ok (.istore 5, 2) := by decide +kernel
theorem dc_O_standTogether_8 : decode cb_O_standTogether 8 = .ok (.iload 5, 2) := by decide +kernel
theorem dc_O_standTogether_10 : decode cb_O_standTogether 10 = .ok (.iload_n 2, 1) := by decide +kernel
theorem dc_O_standTogether_11 : decode cb_O_standTogether 11 = .ok (.if_icmp .ge 33, 3) := by decide +kernel
theorem dc_O_standTogether_14 : decode cb_O_standTogether 14 = .ok (.iload_n 1, 1) := by decide +kernel
theorem dc_O_standTogether_15 : decode cb_O_standTogether 15 = .ok (.iload_n 0, 1) := by decide +kernel
theorem dc_O_standTogether_16 : decode cb_O_standTogether 16 = .ok (.iload 5, 2) := by decide +kernel
theorem dc_O_standTogether_18 : decode cb_O_standTogether 18 = .ok (.invokestatic 7, 3) := by decide +kernel
theorem dc_O_standTogether_21 : decode cb_O_standTogether 21 = .ok (.ishr, 1) := by decide +kernel
theorem dc_O_standTogether_22 : decode cb_O_standTogether 22 = .ok (.iconst 1, 1) := by decide +kernel
theorem dc_O_standTogether_23 : decode cb_O_standTogether 23 = .ok (.iand, 1) := by decide +kernel
theorem dc_O_standTogether_24 : decode cb_O_standTogether 24 = .ok (.ifCond .eq 14, 3) := by decide +kernel
theorem dc_O_standTogether_27 : decode cb_O_standTogether 27 = .ok (.iload_n 3, 1) := by decide +kernel
theorem dc_O_standTogether_28 : decode cb_O_standTogether 28 = .ok (.iload 5, 2) := by decide +kernel
theorem dc_O_standTogether_30 : decode cb_O_standTogether 30 = .ok (.invokestatic 20, 3) := by decide +kernel
theorem dc_O_standTogether_33 : decode cb_O_standTogether 33 = .ok (.istore_n 3, 1) := by decide +kernel
theorem dc_O_standTogether_34 : decode cb_O_standTogether 34 = .ok (.iload 5, 2) := by decide +kernel
theorem dc_O_standTogether_36 : decode cb_O_standTogether 36 = .ok (.istore 4, 2) := by decide +kernel
theorem dc_O_standTogether_38 : decode cb_O_standTogether 38 = .ok (.iinc 5 1, 3) := by decide +kernel
theorem dc_O_standTogether_41 : decode cb_O_standTogether 41 = .ok (.goto (-33), 3) := by decide +kernel
theorem dc_O_standTogether_44 : decode cb_O_standTogether 44 = .ok (.iload 4, 2) := by decide +kernel
theorem dc_O_standTogether_46 : decode cb_O_standTogether 46 = .ok (.iload_n 3, 1) := by decide +kernel
theorem dc_O_standTogether_47 : decode cb_O_standTogether 47 = .ok (.isub, 1) := by decide +kernel
theorem dc_O_standTogether_48 : decode cb_O_standTogether 48 = .ok (.iconst 1, 1) := by decide +kernel
theorem dc_O_standTogether_49 : decode cb_O_standTogether 49 = .ok (.iadd, 1) := by decide +kernel
theorem dc_O_standTogether_50 : decode cb_O_standTogether 50 = .ok (.iload_n 1, 1) := by decide +kernel
theorem dc_O_standTogether_51 : decode cb_O_standTogether 51 = .ok (.invokestatic 25, 3) := by decide +kernel
theorem dc_O_standTogether_54 : decode cb_O_standTogether 54 = .ok (.if_icmp .ne 7, 3) := by decide +kernel
theorem dc_O_standTogether_57 : decode cb_O_standTogether 57 = .ok (.iconst 1, 1) := by decide +kernel
theorem dc_O_standTogether_58 : decode cb_O_standTogether 58 = .ok (.goto 4, 3) := by decide +kernel
theorem dc_O_standTogether_61 : decode cb_O_standTogether 61 = .ok (.iconst 0, 1) := by decide +kernel
theorem dc_O_standTogether_62 : decode cb_O_standTogether 62 = .ok (.ireturn, 1) := by decide +kernel
theorem dc_S_init_0 : decode cb_S_init 0 = .ok (.aload_n 0, 1) := by decide +kernel
theorem dc_S_init_1 : decode cb_S_init 1 = .ok (.invokespecial 3, 3) := by decide +kernel
theorem dc_S_init_4 : decode cb_S_init 4 = .ok (.aload_n 0, 1) := by decide +kernel
theorem dc_S_init_5 : decode cb_S_init 5 = .ok (.bipush 7, 2) := by decide +kernel
theorem dc_S_init_7 : decode cb_S_init 7 = .ok (.newarray .int, 2) := by decide +kernel
theorem dc_S_init_9 : decode cb_S_init 9 = .ok (.putfield 9, 3) := by decide +kernel
theorem dc_S_init_12 : decode cb_S_init 12 = .ok (.return_, 1) := by decide +kernel
theorem dc_S_start_0 : decode cb_S_start 0 = .ok (.aload_n 0, 1) := by decide +kernel
theorem dc_S_start_1 : decode cb_S_start 1 = .ok (.iload_n 1, 1) := by decide +kernel
theorem dc_S_start_2 : decode cb_S_start 2 = .ok (.putfield 15, 3) := by decide +kernel
theorem dc_S_start_5 : decode cb_S_start 5 = .ok (.iconst 0, 1) := by decide +kernel
theorem dc_S_start_6 : decode cb_S_start 6 = .ok (.istore_n 2, 1) := by decide +kernel
theorem dc_S_start_7 : decode cb_S_start 7 = .ok (.iload_n 2, 1) := by decide +kernel
theorem dc_S_start_8 : decode cb_S_start 8 = .ok (.aload_n 0, 1) := by decide +kernel
theorem dc_S_start_9 : decode cb_S_start 9 = .ok (.getfield 15, 3) := by decide +kernel
theorem dc_S_start_12 : decode cb_S_start 12 = .ok (.if_icmp .ge 16, 3) := by decide +kernel
theorem dc_S_start_15 : decode cb_S_start 15 = .ok (.aload_n 0, 1) := by decide +kernel
theorem dc_S_start_16 : decode cb_S_start 16 = .ok (.getfield 9, 3) := by decide +kernel
theorem dc_S_start_19 : decode cb_S_start 19 = .ok (.iload_n 2, 1) := by decide +kernel
theorem dc_S_start_20 : decode cb_S_start 20 = .ok (.iload_n 2, 1) := by decide +kernel
theorem dc_S_start_21 : decode cb_S_start 21 = .ok (.iastore, 1) := by decide +kernel
theorem dc_S_start_22 : decode cb_S_start 22 = .ok (.iinc 2 1, 3) := by decide +kernel
theorem dc_S_start_25 : decode cb_S_start 25 = .ok (.goto (-18), 3) := by decide +kernel
theorem dc_S_start_28 : decode cb_S_start 28 = .ok (.return_, 1) := by decide +kernel
theorem dc_S_asNumber_0 : decode cb_S_asNumber 0 = .ok (.iconst 0, 1) := by decide +kernel
theorem dc_S_asNumber_1 : decode cb_S_asNumber 1 = .ok (.istore_n 1, 1) := by decide +kernel
theorem dc_S_asNumber_2 : decode cb_S_asNumber 2 = .ok (.iconst 0, 1) := by decide +kernel
theorem dc_S_asNumber_3 : decode cb_S_asNumber 3 = .ok (.istore_n 2, 1) := by decide +kernel
theorem dc_S_asNumber_4 : decode cb_S_asNumber 4 = .ok (.iload_n 2, 1) := by decide +kernel
theorem dc_S_asNumber_5 : decode cb_S_asNumber 5 = .ok (.aload_n 0, 1) := by decide +kernel
theorem dc_S_asNumber_6 : decode cb_S_asNumber 6 = .ok (.getfield 15, 3) := by decide +kernel
theorem dc_S_asNumber_9 : decode cb_S_asNumber 9 = .ok (.if_icmp .ge 22, 3) := by decide +kernel
theorem dc_S_asNumber_12 : decode cb_S_asNumber 12 = .ok (.iload_n 1, 1) := by decide +kernel
theorem dc_S_asNumber_13 : decode cb_S_asNumber 13 = .ok (.aload_n 0, 1) := by decide +kernel
theorem dc_S_asNumber_14 : decode cb_S_asNumber 14 = .ok (.getfield 9, 3) := by decide +kernel
theorem dc_S_asNumber_17 : decode cb_S_asNumber 17 = .ok (.iload_n 2, 1) := by decide +kernel
theorem dc_S_asNumber_18 : decode cb_S_asNumber 18 = .ok (.iaload, 1) := by decide +kernel
theorem dc_S_asNumber_19 : decode cb_S_asNumber 19 = .ok (.iconst 3, 1) := by decide +kernel
theorem dc_S_asNumber_20 : decode cb_S_asNumber 20 = .ok (.iload_n 2, 1) := by decide +kernel
theorem dc_S_asNumber_21 : decode cb_S_asNumber 21 = .ok (.imul, 1) := by decide +kernel
theorem dc_S_asNumber_22 : decode cb_S_asNumber 22 = .ok (.ishl, 1) := by decide +kernel
theorem dc_S_asNumber_23 : decode cb_S_asNumber 23 = .ok (.ior, 1) := by decide +kernel
theorem dc_S_asNumber_24 : decode cb_S_asNumber 24 = .ok (.istore_n 1, 1) := by decide +kernel
theorem dc_S_asNumber_25 : decode cb_S_asNumber 25 = .ok (.iinc 2 1, 3) := by decide +kernel
theorem dc_S_asNumber_28 : decode cb_S_asNumber 28 = .ok (.goto (-24), 3) := by decide +kernel
theorem dc_S_asNumber_31 : decode cb_S_asNumber 31 = .ok (.iload_n 1, 1) := by decide +kernel
theorem dc_S_asNumber_32 : decode cb_S_asNumber 32 = .ok (.ireturn, 1) := by decide +kernel
theorem dc_S_advance_0 : decode cb_S_advance 0 = .ok (.aload_n 0, 1) := by decide +kernel
theorem dc_S_advance_1 : decode cb_S_advance 1 = .ok (.getfield 15, 3) := by decide +kernel
theorem dc_S_advance_4 : decode cb_S_advance 4 = .ok (.iconst 2, 1) := by decide +kernel
theorem dc_S_advance_5 : decode cb_S_advance 5 = .ok (.isub, 1) := by decide +kernel
theorem dc_S_advance_6 : decode cb_S_advance 6 = .ok (.istore_n 1, 1) := by decide +kernel
theorem dc_S_advance_7 : decode cb_S_advance 7 = .ok (.iload_n 1, 1) := by decide +kernel
theorem dc_S_advance_8 : decode cb_S_advance 8 = .ok (.ifCond .lt 26, 3) := by decide +kernel
theorem dc_S_advance_11 : decode cb_S_advance 11 = .ok (.aload_n 0, 1) := by decide +kernel
theorem dc_S_advance_12 : decode cb_S_advance 12 = .ok (.getfield 9, 3) := by decide +kernel
theorem dc_S_advance_15 : decode cb_S_advance 15 = .ok (.iload_n 1, 1) := by decide +kernel
theorem dc_S_advance_16 : decode cb_S_advance 16 = .ok (.iaload, 1) := by decide +kernel
theorem dc_S_advance_17 : decode cb_S_advance 17 = .ok (.aload_n 0, 1) := by decide +kernel
theorem dc_S_advance_18 : decode cb_S_advance 18 = .ok (.getfield 9, 3) := by decide +kernel
theorem dc_S_advance_21 : decode cb_S_advance 21 = .ok (.iload_n 1, 1) := by decide +kernel
theorem dc_S_advance_22 : decode cb_S_advance 22 = .ok (.iconst 1, 1) := by decide +kernel
theorem dc_S_advance_23 : decode cb_S_advance 23 = .ok (.iadd, 1) := by decide +kernel
theorem dc_S_advance_24 : decode cb_S_advance 24 = .ok (.iaload, 1) := by decide +kernel
theorem dc_S_advance_25 : decode cb_S_advance 25 = .ok (.if_icmp .le 9, 3) := by decide +kernel
theorem dc_S_advance_28 : decode cb_S_advance 28 = .ok (.iinc 1 (-1), 3) := by decide +kernel
theorem dc_S_advance_31 : decode cb_S_advance 31 = .ok (.goto (-24), 3) := by decide +kernel
theorem dc_S_advance_34 : decode cb_S_advance 34 = .ok (.iload_n 1, 1) := by decide +kernel
theorem dc_S_advance_35 : decode cb_S_advance 35 = .ok (.ifCond .ge 5, 3) := by decide +kernel
theorem dc_S_advance_38 : decode cb_S_advance 38 = .ok (.iconst 0, 1) := by decide +kernel
theorem dc_S_advance_39 : decode cb_S_advance 39 = .ok (.ireturn, 1) := by decide +kernel
theorem dc_S_advance_40 : decode cb_S_advance 40 = .ok (.aload_n 0, 1) := by decide +kernel
theorem dc_S_advance_41 : decode cb_S_advance 41 = .ok (.getfield 15, 3) := by decide +kernel
theorem dc_S_advance_44 : decode cb_S_advance 44 = .ok (.iconst 1, 1) := by decide +kernel
theorem dc_S_advance_45 : decode cb_S_advance 45 = .ok (.isub, 1) := by decide +kernel
theorem dc_S_advance_46 : decode cb_S_advance 46 = .ok (.istore_n 2, 1) := by decide +kernel
theorem dc_S_advance_47 : decode cb_S_advance 47 = .ok (.iload_n 2, 1) := by decide +kernel
theorem dc_S_advance_48 : decode cb_S_advance 48 = .ok (.iload_n 1, 1) := by decide +kernel
theorem dc_S_advance_49 : decode cb_S_advance 49 = .ok (.iconst 1, 1) := by decide +kernel
theorem dc_S_advance_50 : decode cb_S_advance 50 = .ok (.iadd, 1) := by decide +kernel
theorem dc_S_advance_51 : decode cb_S_advance 51 = .ok (.if_icmp .le 24, 3) := by decide +kernel
theorem dc_S_advance_54 : decode cb_S_advance 54 = .ok (.aload_n 0, 1) := by decide +kernel
theorem dc_S_advance_55 : decode cb_S_advance 55 = .ok (.getfield 9, 3) := by decide +kernel
theorem dc_S_advance_58 : decode cb_S_advance 58 = .ok (.iload_n 2, 1) := by decide +kernel
theorem dc_S_advance_59 : decode cb_S_advance 59 = .ok (.iaload, 1) := by decide +kernel
theorem dc_S_advance_60 : decode cb_S_advance 60 = .ok (.aload_n 0, 1) := by decide +kernel
theorem dc_S_advance_61 : decode cb_S_advance 61 = .ok (.getfield 9, 3) := by decide +kernel
theorem dc_S_advance_64 : decode cb_S_advance 64 = .ok (.iload_n 1, 1) := by decide +kernel
theorem dc_S_advance_65 : decode cb_S_advance 65 = .ok (.iaload, 1) := by decide +kernel
theorem dc_S_advance_66 : decode cb_S_advance 66 = .ok (.if_icmp .ge 9, 3) := by decide +kernel
theorem dc_S_advance_69 : decode cb_S_advance 69 = .ok (.iinc 2 (-1), 3) := by decide +kernel
theorem dc_S_advance_72 : decode cb_S_advance 72 = .ok (.goto (-25), 3) := by decide +kernel
theorem dc_S_advance_75 : decode cb_S_advance 75 = .ok (.aload_n 0, 1) := by decide +kernel
theorem dc_S_advance_76 : decode cb_S_advance 76 = .ok (.iload_n 1, 1) := by decide +kernel
theorem dc_S_advance_77 : decode cb_S_advance 77 = .ok (.iload_n 2, 1) := by decide +kernel
theorem dc_S_advance_78 : decode cb_S_advance 78 = .ok (.invokevirtual 19, 3) := by decide +kernel
theorem dc_S_advance_81 : decode cb_S_advance 81 = .ok (.iload_n 1, 1) := by decide +kernel
theorem dc_S_advance_82 : decode cb_S_advance 82 = .ok (.iconst 1, 1) := by decide +kernel
theorem dc_S_advance_83 : decode cb_S_advance 83 = .ok (.iadd, 1) := by decide +kernel
theorem dc_S_advance_84 : decode cb_S_advance 84 = .ok (.istore_n 3, 1) := by decide +kernel
theorem dc_S_advance_85 : decode cb_S_advance 85 = .ok (.aload_n 0, 1) := by decide +kernel
theorem dc_S_advance_86 : decode cb_S_advance 86 = .ok (.getfield 15, 3) := by decide +kernel
theorem dc_S_advance_89 : decode cb_S_advance 89 = .ok (.iconst 1, 1) := by decide +kernel
theorem dc_S_advance_90 : decode cb_S_advance 90 = .ok (.isub, 1) := by decide +kernel
theorem dc_S_advance_91 : decode cb_S_advance 91 = .ok (.istore 4, 2) := by decide +kernel
theorem dc_S_advance_93 : decode cb_S_advance 93 = .ok (.iload_n 3, 1) := by decide +kernel
theorem dc_S_advance_94 : decode cb_S_advance 94 = .ok (.iload 4, 2) := by decide +kernel
theorem dc_S_advance_96 : decode cb_S_advance 96 = .ok (.if_icmp .ge 19, 3) := by decide +kernel
theorem dc_S_advance_99 : decode cb_S_advance 99 = .ok (.aload_n 0, 1) := by decide +kernel
theorem dc_S_advance_100 : decode cb_S_advance 100 = .ok (.iload_n 3, 1) := by decide +kernel
theorem dc_S_advance_101 : decode cb_S_advance 101 = .ok (.iload 4, 2) := by decide +kernel
theorem dc_S_advance_103 : decode cb_S_advance 103 = .ok (.invokevirtual 19, 3) := by decide +kernel
theorem dc_S_advance_106 : decode cb_S_advance 106 = .ok (.iinc 3 1, 3) := by decide +kernel
theorem dc_S_advance_109 : decode cb_S_advance 109 = .ok (.iinc 4 (-1), 3) := by decide +kernel
theorem dc_S_advance_112 : decode cb_S_advance 112 = .ok (.goto (-19), 3) := by decide +kernel
theorem dc_S_advance_115 : decode cb_S_advance 115 = .ok (.iconst 1, 1) := by decide +kernel
theorem dc_S_advance_116 : decode cb_S_advance 116 = .ok (.ireturn, 1) := by decide +kernel
theorem dc_S_swap_0 : decode cb_S_swap 0 = .ok (.aload_n 0, 1) := by decide +kernel
theorem dc_S_swap_1 : decode cb_S_swap 1 = .ok (.getfield 9, 3) := by decide +kernel
theorem dc_S_swap_4 : decode cb_S_swap 4 = .ok (.iload_n 1, 1) := by decide +kernel
theorem dc_S_swap_5 : decode cb_S_swap 5 = .ok (.iaload, 1) := by decide +kernel
theorem dc_S_swap_6 : decode cb_S_swap 6 = .ok (.istore_n 3, 1) := by decide +kernel
theorem dc_S_swap_7 : decode cb_S_swap 7 = .ok (.aload_n 0, 1) := by decide +kernel
theorem dc_S_swap_8 : decode cb_S_swap 8 = .ok (.getfield 9, 3) := by decide +kernel
theorem dc_S_swap_11 : decode cb_S_swap 11 = .ok (.iload_n 1, 1) := by decide +kernel
theorem dc_S_swap_12 : decode cb_S_swap 12 = .ok (.aload_n 0, 1) := by decide +kernel
theorem dc_S_swap_13 : decode cb_S_swap 13 = .ok (.getfield 9, 3) := by decide +kernel
theorem dc_S_swap_16 : decode cb_S_swap 16 = .ok (.iload_n 2, 1) := by decide +kernel
theorem dc_S_swap_17 : decode cb_S_swap 17 = .ok (.iaload, 1) := by decide +kernel
theorem dc_S_swap_18 : decode cb_S_swap 18 = .ok (.iastore, 1) := by decide +kernel
theorem dc_S_swap_19 : decode cb_S_swap 19 = .ok (.aload_n 0, 1) := by decide +kernel
theorem dc_S_swap_20 : decode cb_S_swap 20 = .ok (.getfield 9, 3) := by decide +kernel
theorem dc_S_swap_23 : decode cb_S_swap 23 = .ok (.iload_n 2, 1) := by decide +kernel
theorem dc_S_swap_24 : decode cb_S_swap 24 = .ok (.iload_n 3, 1) := by decide +kernel
theorem dc_S_swap_25 : decode cb_S_swap 25 = .ok (.iastore, 1) := by decide +kernel
theorem dc_S_swap_26 : decode cb_S_swap 26 = .ok (.return_, 1) := by decide +kernel
theorem dc_H_init_0 : decode cb_H_init 0 = .ok (.aload_n 0, 1) := by decide +kernel
theorem dc_H_init_1 : decode cb_H_init 1 = .ok (.invokespecial 3, 3) := by decide +kernel
theorem dc_H_init_4 : decode cb_H_init 4 = .ok (.aload_n 0, 1) := by decide +kernel
theorem dc_H_init_5 : decode cb_H_init 5 = .ok (.bipush 7, 2) := by decide +kernel
theorem dc_H_init_7 : decode cb_H_init 7 = .ok (.bipush 7, 2) := by decide +kernel
theorem dc_H_init_9 : decode cb_H_init 9 = .ok (.multianewarray 9 2, 4) := by decide +kernel
theorem dc_H_init_13 : decode cb_H_init 13 = .ok (.putfield 11, 3) := by decide +kernel
theorem dc_H_init_16 : decode cb_H_init 16 = .ok (.return_, 1) := by decide +kernel
theorem dc_H_measure_0 : decode cb_H_measure 0 = .ok (.iconst 0, 1) := by decide +kernel
theorem dc_H_measure_1 : decode cb_H_measure 1 = .ok (.istore_n 2, 1) := by decide +kernel
theorem dc_H_measure_2 : decode cb_H_measure 2 = .ok (.iload_n 2, 1) := by decide +kernel
theorem dc_H_measure_3 : decode cb_H_measure 3 = .ok (.aload_n 1, 1) := by decide +kernel
theorem dc_H_measure_4 : decode cb_H_measure 4 = .ok (.getfield 16, 3) := by decide +kernel
theorem dc_H_measure_7 : decode cb_H_measure 7 = .ok (.if_icmp .ge 54, 3) := by decide +kernel
theorem dc_H_measure_10 : decode cb_H_measure 10 = .ok (.iconst 0, 1) := by decide +kernel
theorem dc_H_measure_11 : decode cb_H_measure 11 = .ok (.istore_n 3, 1) := by decide +kernel
theorem dc_H_measure_12 : decode cb_H_measure 12 = .ok (.iload_n 3, 1) := by decide +kernel
theorem dc_H_measure_13 : decode cb_H_measure 13 = .ok (.aload_n 1, 1) := by decide +kernel
theorem dc_H_measure_14 : decode cb_H_measure 14 = .ok (.getfield 16, 3) := by decide +kernel
theorem dc_H_measure_17 : decode cb_H_measure 17 = .ok (.if_icmp .ge 38, 3) := by decide +kernel
theorem dc_H_measure_20 : decode cb_H_measure 20 = .ok (.aload_n 0, 1) := by decide +kernel
theorem dc_H_measure_21 : decode cb_H_measure 21 = .ok (.getfield 11, 3) := by decide +kernel
theorem dc_H_measure_24 : decode cb_H_measure 24 = .ok (.iload_n 2, 1) := by decide +kernel
theorem dc_H_measure_25 : decode cb_H_measure 25 = .ok (.aaload, 1) := by decide +kernel
theorem dc_H_measure_26 : decode cb_H_measure 26 = .ok (.iload_n 3, 1) := by decide +kernel
theorem dc_H_measure_27 : decode cb_H_measure 27 = .ok (.aload_n 1, 1) := by decide +kernel
theorem dc_H_measure_28 : decode cb_H_measure 28 = .ok (.iload_n 2, 1) := by decide +kernel
theorem dc_H_measure_29 : decode cb_H_measure 29 = .ok (.iload_n 3, 1) := by decide +kernel
theorem dc_H_measure_30 : decode cb_H_measure 30 = .ok (.invokevirtual 22, 3) := by decide +kernel
theorem dc_H_measure_33 : decode cb_H_measure 33 = .ok (.ifCond .eq 14, 3) := by decide +kernel
theorem dc_H_measure_36 : decode cb_H_measure 36 = .ok (.aload_n 1, 1) := by decide +kernel
theorem dc_H_measure_37 : decode cb_H_measure 37 = .ok (.getfield 26, 3) := by decide +kernel
theorem dc_H_measure_40 : decode cb_H_measure 40 = .ok (.iload_n 2, 1) := by decide +kernel
theorem dc_H_measure_41 : decode cb_H_measure 41 = .ok (.aaload, 1) := by decide +kernel
theorem dc_H_measure_42 : decode cb_H_measure 42 = .ok (.iload_n 3, 1) := by decide +kernel
theorem dc_H_measure_43 : decode cb_H_measure 43 = .ok (.iaload, 1) := by decide +kernel
theorem dc_H_measure_44 : decode cb_H_measure 44 = .ok (.goto 4, 3) := by decide +kernel
theorem dc_H_measure_47 : decode cb_H_measure 47 = .ok (.iconst 0, 1) := by decide +kernel
theorem dc_H_measure_48 : decode cb_H_measure 48 = .ok (.iastore, 1) := by decide +kernel
theorem dc_H_measure_49 : decode cb_H_measure 49 = .ok (.iinc 3 1, 3) := by decide +kernel
theorem dc_H_measure_52 : decode cb_H_measure 52 = .ok (.goto (-40), 3) := by decide +kernel
theorem dc_H_measure_55 : decode cb_H_measure 55 = .ok (.iinc 2 1, 3) := by decide +kernel
theorem dc_H_measure_58 : decode cb_H_measure 58 = .ok (.goto (-56), 3) := by decide +kernel
theorem dc_H_measure_61 : decode cb_H_measure 61 = .ok (.iconst 0, 1) := by decide +kernel
theorem dc_H_measure_62 : decode cb_H_measure 62 = .ok (.istore_n 2, 1) := by decide +kernel
theorem dc_H_measure_63 : decode cb_H_measure 63 = .ok (.iload_n 2, 1) := by decide +kernel
theorem dc_H_measure_64 : decode cb_H_measure 64 = .ok (.aload_n 1, 1) := by decide +kernel
theorem dc_H_measure_65 : decode cb_H_measure 65 = .ok (.getfield 16, 3) := by decide +kernel
theorem dc_H_measure_68 : decode cb_H_measure 68 = .ok (.if_icmp .ge 35, 3) := by decide +kernel
theorem dc_H_measure_71 : decode cb_H_measure 71 = .ok (.iconst 0, 1) := by decide +kernel
theorem dc_H_measure_72 : decode cb_H_measure 72 = .ok (.istore_n 3, 1) := by decide +kernel
theorem dc_H_measure_73 : decode cb_H_measure 73 = .ok (.iload_n 3, 1) := by decide +kernel
theorem dc_H_measure_74 : decode cb_H_measure 74 = .ok (.aload_n 1, 1) := by decide +kernel
theorem dc_H_measure_75 : decode cb_H_measure 75 = .ok (.getfield 16, 3) := by decide +kernel
theorem dc_H_measure_78 : decode cb_H_measure 78 = .ok (.if_icmp .ge 19, 3) := by decide +kernel
theorem dc_H_measure_81 : decode cb_H_measure 81 = .ok (.aload_n 0, 1) := by decide +kernel
theorem dc_H_measure_82 : decode cb_H_measure 82 = .ok (.iload_n 3, 1) := by decide +kernel
theorem dc_H_measure_83 : decode cb_H_measure 83 = .ok (.iload_n 2, 1) := by decide +kernel
theorem dc_H_measure_84 : decode cb_H_measure 84 = .ok (.aload_n 1, 1) := by decide +kernel
theorem dc_H_measure_85 : decode cb_H_measure 85 = .ok (.getfield 16, 3) := by decide +kernel
theorem dc_H_measure_88 : decode cb_H_measure 88 = .ok (.invokevirtual 29, 3) := by decide +kernel
theorem dc_H_measure_91 : decode cb_H_measure 91 = .ok (.iinc 3 1, 3) := by decide +kernel
theorem dc_H_measure_94 : decode cb_H_measure 94 = .ok (.goto (-21), 3) := by decide +kernel
theorem dc_H_measure_97 : decode cb_H_measure 97 = .ok (.iinc 2 1, 3) := by decide +kernel
theorem dc_H_measure_100 : decode cb_H_measure 100 = .ok (.goto (-37), 3) := by decide +kernel
theorem dc_H_measure_103 : decode cb_H_measure 103 = .ok (.return_, 1) := by decide +kernel
theorem dc_H_widen_0 : decode cb_H_widen 0 = .ok (.aload_n 0, 1) := by decide +kernel
theorem dc_H_widen_1 : decode cb_H_widen 1 = .ok (.getfield 11, 3) := by decide +kernel
theorem dc_H_widen_4 : decode cb_H_widen 4 = .ok (.iload_n 1, 1) := by decide +kernel
theorem dc_H_widen_5 : decode cb_H_widen 5 = .ok (.aaload, 1) := by decide +kernel
theorem dc_H_widen_6 : decode cb_H_widen 6 = .ok (.astore 4, 2) := by decide +kernel
theorem dc_H_widen_8 : decode cb_H_widen 8 = .ok (.iconst 0, 1) := by decide +kernel
theorem dc_H_widen_9 : decode cb_H_widen 9 = .ok (.istore 5, 2) := by decide +kernel
theorem dc_H_widen_11 : decode cb_H_widen 11 = .ok (.iload 5, 2) := by decide +kernel
theorem dc_H_widen_13 : decode cb_H_widen 13 = .ok (.iload_n 3, 1) := by decide +kernel
theorem dc_H_widen_14 : decode cb_H_widen 14 = .ok (.if_icmp .ge 44, 3) := by decide +kernel
theorem dc_H_widen_17 : decode cb_H_widen 17 = .ok (.iload 5, 2) := by decide +kernel
theorem dc_H_widen_19 : decode cb_H_widen 19 = .ok (.iload_n 1, 1) := by decide +kernel
theorem dc_H_widen_20 : decode cb_H_widen 20 = .ok (.if_icmp .eq 32, 3) := by decide +kernel
theorem dc_H_widen_23 : decode cb_H_widen 23 = .ok (.aload 4, 2) := by decide +kernel
theorem dc_H_widen_25 : decode cb_H_widen 25 = .ok (.iload 5, 2) := by decide +kernel
theorem dc_H_widen_27 : decode cb_H_widen 27 = .ok (.aload 4, 2) := by decide +kernel
theorem dc_H_widen_29 : decode cb_H_widen 29 = .ok (.iload 5, 2) := by decide +kernel
theorem dc_H_widen_31 : decode cb_H_widen 31 = .ok (.iaload, 1) := by decide +kernel
theorem dc_H_widen_32 : decode cb_H_widen 32 = .ok (.aload 4, 2) := by decide +kernel
theorem dc_H_widen_34 : decode cb_H_widen 34 = .ok (.iload_n 2, 1) := by decide +kernel
theorem dc_H_widen_35 : decode cb_H_widen 35 = .ok (.iaload, 1) := by decide +kernel
theorem dc_H_widen_36 : decode cb_H_widen 36 = .ok (.aload_n 0, 1) := by decide +kernel
theorem dc_H_widen_37 : decode cb_H_widen 37 = .ok (.getfield 11, 3) := by decide +kernel
theorem dc_H_widen_40 : decode cb_H_widen 40 = .ok (.iload_n 2, 1) := by decide +kernel
theorem dc_H_widen_41 : decode cb_H_widen 41 = .ok (.aaload, 1) := by decide +kernel
theorem dc_H_widen_42 : decode cb_H_widen 42 = .ok (.iload 5, 2) := by decide +kernel
theorem dc_H_widen_44 : decode cb_H_widen 44 = .ok (.iaload, 1) := by decide +kernel
theorem dc_H_widen_45 : decode cb_H_widen 45 = .ok (.invokestatic 33, 3) := by decide +kernel
theorem dc_H_widen_48 : decode cb_H_widen 48 = .ok (.invokestatic 39, 3) := by decide +kernel
theorem dc_H_widen_51 : decode cb_H_widen 51 = .ok (.iastore, 1) := by decide +kernel
theorem dc_H_widen_52 : decode cb_H_widen 52 = .ok (.iinc 5 1, 3) := by decide +kernel
theorem dc_H_widen_55 : decode cb_H_widen 55 = .ok (.goto (-44), 3) := by decide +kernel
theorem dc_H_widen_58 : decode cb_H_widen 58 = .ok (.return_, 1) := by decide +kernel
theorem dc_H_winnerSet_0 : decode cb_H_winnerSet 0 = .ok (.aload_n 0, 1) := by decide +kernel
theorem dc_H_winnerSet_1 : decode cb_H_winnerSet 1 = .ok (.aload_n 1, 1) := by decide +kernel
theorem dc_H_winnerSet_2 : decode cb_H_winnerSet 2 = .ok (.invokevirtual 42, 3) := by decide +kernel
theorem dc_H_winnerSet_5 : decode cb_H_winnerSet 5 = .ok (.aload_n 1, 1) := by decide +kernel
theorem dc_H_winnerSet_6 : decode cb_H_winnerSet 6 = .ok (.invokevirtual 46, 3) := by decide +kernel
theorem dc_H_winnerSet_9 : decode cb_H_winnerSet 9 = .ok (.istore_n 2, 1) := by decide +kernel
theorem dc_H_winnerSet_10 : decode cb_H_winnerSet 10 = .ok (.iconst 0, 1) := by decide +kernel
theorem dc_H_winnerSet_11 : decode cb_H_winnerSet 11 = .ok (.istore_n 3, 1) := by decide +kernel
theorem dc_H_winnerSet_12 : decode cb_H_winnerSet 12 = .ok (.iload_n 3, 1) := by decide +kernel
theorem dc_H_winnerSet_13 : decode cb_H_winnerSet 13 = .ok (.aload_n 1, 1) := by decide +kernel
theorem dc_H_winnerSet_14 : decode cb_H_winnerSet 14 = .ok (.getfield 16, 3) := by decide +kernel
theorem dc_H_winnerSet_17 : decode cb_H_winnerSet 17 = .ok (.if_icmp .ge 56, 3) := by decide +kernel
theorem dc_H_winnerSet_20 : decode cb_H_winnerSet 20 = .ok (.iconst 0, 1) := by decide +kernel
theorem dc_H_winnerSet_21 : decode cb_H_winnerSet 21 = .ok (.istore 4, 2) := by decide +kernel
theorem dc_H_winnerSet_23 : decode cb_H_winnerSet 23 = .ok (.iload 4, 2) := by decide +kernel
theorem dc_H_winnerSet_25 : decode cb_H_winnerSet 25 = .ok (.aload_n 1, 1) := by decide +kernel
theorem dc_H_winnerSet_26 : decode cb_H_winnerSet 26 = .ok (.getfield 16, 3) := by decide +kernel
theorem dc_H_winnerSet_29 : decode cb_H_winnerSet 29 = .ok (.if_icmp .ge 38, 3) := by decide +kernel
theorem dc_H_winnerSet_32 : decode cb_H_winnerSet 32 = .ok (.aload_n 0, 1) := by decide +kernel
theorem dc_H_winnerSet_33 : decode cb_H_winnerSet 33 = .ok (.getfield 11, 3) := by decide +kernel
theorem dc_H_winnerSet_36 : decode cb_H_winnerSet 36 = .ok (.iload_n 3, 1) := by decide +kernel
theorem dc_H_winnerSet_37 : decode cb_H_winnerSet 37 = .ok (.aaload, 1) := by decide +kernel
theorem dc_H_winnerSet_38 : decode cb_H_winnerSet 38 = .ok (.iload 4, 2) := by decide +kernel
theorem dc_H_winnerSet_40 : decode cb_H_winnerSet 40 = .ok (.iaload, 1) := by decide +kernel
theorem dc_H_winnerSet_41 : decode cb_H_winnerSet 41 = .ok (.aload_n 0, 1) := by decide +kernel
theorem dc_H_winnerSet_42 : decode cb_H_winnerSet 42 = .ok (.getfield 11, 3) := by decide +kernel
theorem dc_H_winnerSet_45 : decode cb_H_winnerSet 45 = .ok (.iload 4, 2) := by decide +kernel
theorem dc_H_winnerSet_47 : decode cb_H_winnerSet 47 = .ok (.aaload, 1) := by decide +kernel
theorem dc_H_winnerSet_48 : decode cb_H_winnerSet 48 = .ok (.iload_n 3, 1) := by decide +kernel
theorem dc_H_winnerSet_49 : decode cb_H_winnerSet 49 = .ok (.iaload, 1) := by decide +kernel
theorem dc_H_winnerSet_50 : decode cb_H_winnerSet 50 = .ok (.if_icmp .ge 11, 3) := by decide +kernel
theorem dc_H_winnerSet_53 : decode cb_H_winnerSet 53 = .ok (.iload_n 2, 1) := by decide +kernel
theorem dc_H_winnerSet_54 : decode cb_H_winnerSet 54 = .ok (.iconst 1, 1) := by decide +kernel
theorem dc_H_winnerSet_55 : decode cb_H_winnerSet 55 = .ok (.iload_n 3, 1) := by decide +kernel
theorem dc_H_winnerSet_56 : decode cb_H_winnerSet 56 = .ok (.ishl, 1) := by decide +kernel
theorem dc_H_winnerSet_57 : decode cb_H_winnerSet 57 = .ok (.iconst (-1), 1) := by decide +kernel
theorem dc_H_winnerSet_58 : decode cb_H_winnerSet 58 = .ok (.ixor, 1) := by decide +kernel
theorem dc_H_winnerSet_59 : decode cb_H_winnerSet 59 = .ok (.iand, 1) := by decide +kernel
theorem dc_H_winnerSet_60 : decode cb_H_winnerSet 60 = .ok (.istore_n 2, 1) := by decide +kernel
theorem dc_H_winnerSet_61 : decode cb_H_winnerSet 61 = .ok (.iinc 4 1, 3) := by decide +kernel
theorem dc_H_winnerSet_64 : decode cb_H_winnerSet 64 = .ok (.goto (-41), 3) := by decide +kernel
theorem dc_H_winnerSet_67 : decode cb_H_winnerSet 67 = .ok (.iinc 3 1, 3) := by decide +kernel
theorem dc_H_winnerSet_70 : decode cb_H_winnerSet 70 = .ok (.goto (-58), 3) := by decide +kernel
theorem dc_H_winnerSet_73 : decode cb_H_winnerSet 73 = .ok (.iload_n 2, 1) := by decide +kernel
theorem dc_H_winnerSet_74 : decode cb_H_winnerSet 74 = .ok (.ireturn, 1) := by decide +kernel
theorem dc_P_init_0 : decode cb_P_init 0 = .ok (.aload_n 0, 1) := by decide +kernel
theorem dc_P_init_1 : decode cb_P_init 1 = .ok (.invokespecial 3, 3) := by decide +kernel
theorem dc_P_init_4 : decode cb_P_init 4 = .ok (.aload_n 0, 1) := by decide +kernel
theorem dc_P_init_5 : decode cb_P_init 5 = .ok (.bipush 21, 2) := by decide +kernel
theorem dc_P_init_7 : decode cb_P_init 7 = .ok (.newarray .int, 2) := by decide +kernel
theorem dc_P_init_9 : decode cb_P_init 9 = .ok (.putfield 9, 3) := by decide +kernel
theorem dc_P_init_12 : decode cb_P_init 12 = .ok (.aload_n 0, 1) := by decide +kernel
theorem dc_P_init_13 : decode cb_P_init 13 = .ok (.bipush 21, 2) := by decide +kernel
theorem dc_P_init_15 : decode cb_P_init 15 = .ok (.newarray .int, 2) := by decide +kernel
theorem dc_P_init_17 : decode cb_P_init 17 = .ok (.putfield 15, 3) := by decide +kernel
theorem dc_P_init_20 : decode cb_P_init 20 = .ok (.aload_n 0, 1) := by decide +kernel
theorem dc_P_init_21 : decode cb_P_init 21 = .ok (.bipush 7, 2) := by decide +kernel
theorem dc_P_init_23 : decode cb_P_init 23 = .ok (.newarray .int, 2) := by decide +kernel
theorem dc_P_init_25 : decode cb_P_init 25 = .ok (.putfield 18, 3) := by decide +kernel
theorem dc_P_init_28 : decode cb_P_init 28 = .ok (.aload_n 0, 1) := by decide +kernel
theorem dc_P_init_29 : decode cb_P_init 29 = .ok (.bipush 7, 2) := by decide +kernel
theorem dc_P_init_31 : decode cb_P_init 31 = .ok (.bipush 7, 2) := by decide +kernel
theorem dc_P_init_33 : decode cb_P_init 33 = .ok (.multianewarray 21 2, 4) := by decide +kernel
theorem dc_P_init_37 : decode cb_P_init 37 = .ok (.putfield 23, 3) := by decide +kernel
theorem dc_P_init_40 : decode cb_P_init 40 = .ok (.aload_n 0, 1) := by decide +kernel
theorem dc_P_init_41 : decode cb_P_init 41 = .ok (.bipush 7, 2) := by decide +kernel
theorem dc_P_init_43 : decode cb_P_init 43 = .ok (.bipush 7, 2) := by decide +kernel
theorem dc_P_init_45 : decode cb_P_init 45 = .ok (.multianewarray 21 2, 4) := by decide +kernel
theorem dc_P_init_49 : decode cb_P_init 49 = .ok (.putfield 26, 3) := by decide +kernel
theorem dc_P_init_52 : decode cb_P_init 52 = .ok (.return_, 1) := by decide +kernel
theorem dc_P_open_0 : decode cb_P_open 0 = .ok (.aload_n 0, 1) := by decide +kernel
theorem dc_P_open_1 : decode cb_P_open 1 = .ok (.iload_n 1, 1) := by decide +kernel
theorem dc_P_open_2 : decode cb_P_open 2 = .ok (.putfield 29, 3) := by decide +kernel
theorem dc_P_open_5 : decode cb_P_open 5 = .ok (.aload_n 0, 1) := by decide +kernel
theorem dc_P_open_6 : decode cb_P_open 6 = .ok (.aload_n 0, 1) := by decide +kernel
theorem dc_P_open_7 : decode cb_P_open 7 = .ok (.getfield 29, 3) := by decide +kernel
theorem dc_P_open_10 : decode cb_P_open 10 = .ok (.invokestatic 33, 3) := by decide +kernel
theorem dc_P_open_13 : decode cb_P_open 13 = .ok (.putfield 39, 3) := by decide +kernel
theorem dc_P_open_16 : decode cb_P_open 16 = .ok (.aload_n 0, 1) := by decide +kernel
theorem dc_P_open_17 : decode cb_P_open 17 = .ok (.aload_n 0, 1) := by decide +kernel
theorem dc_P_open_18 : decode cb_P_open 18 = .ok (.getfield 39, 3) := by decide +kernel
theorem dc_P_open_21 : decode cb_P_open 21 = .ok (.putfield 42, 3) := by decide +kernel
theorem dc_P_open_24 : decode cb_P_open 24 = .ok (.iconst 0, 1) := by decide +kernel
theorem dc_P_open_25 : decode cb_P_open 25 = .ok (.istore_n 2, 1) := by decide +kernel
theorem dc_P_open_26 : decode cb_P_open 26 = .ok (.iload_n 2, 1) := by decide +kernel
theorem dc_P_open_27 : decode cb_P_open 27 = .ok (.aload_n 0, 1) := by decide +kernel
theorem dc_P_open_28 : decode cb_P_open 28 = .ok (.getfield 29, 3) := by decide +kernel
theorem dc_P_open_31 : decode cb_P_open 31 = .ok (.if_icmp .ge 23, 3) := by decide +kernel
theorem dc_P_open_34 : decode cb_P_open 34 = .ok (.aload_n 0, 1) := by decide +kernel
theorem dc_P_open_35 : decode cb_P_open 35 = .ok (.getfield 18, 3) := by decide +kernel
theorem dc_P_open_38 : decode cb_P_open 38 = .ok (.iload_n 2, 1) := by decide +kernel
theorem dc_P_open_39 : decode cb_P_open 39 = .ok (.aload_n 0, 1) := by decide +kernel
theorem dc_P_open_40 : decode cb_P_open 40 = .ok (.getfield 29, 3) := by decide +kernel
theorem dc_P_open_43 : decode cb_P_open 43 = .ok (.iconst 1, 1) := by decide +kernel
theorem dc_P_open_44 : decode cb_P_open 44 = .ok (.isub, 1) := by decide +kernel
theorem dc_P_open_45 : decode cb_P_open 45 = .ok (.iload_n 2, 1) := by decide +kernel
theorem dc_P_open_46 : decode cb_P_open 46 = .ok (.isub, 1) := by decide +kernel
theorem dc_P_open_47 : decode cb_P_open 47 = .ok (.iastore, 1) := by decide +kernel
theorem dc_P_open_48 : decode cb_P_open 48 = .ok (.iinc 2 1, 3) := by decide +kernel
theorem dc_P_open_51 : decode cb_P_open 51 = .ok (.goto (-25), 3) := by decide +kernel
theorem dc_P_open_54 : decode cb_P_open 54 = .ok (.aload_n 0, 1) := by decide +kernel
theorem dc_P_open_55 : decode cb_P_open 55 = .ok (.invokevirtual 45, 3) := by decide +kernel
theorem dc_P_open_58 : decode cb_P_open 58 = .ok (.return_, 1) := by decide +kernel
theorem dc_P_empty_0 : decode cb_P_empty 0 = .ok (.aload_n 0, 1) := by decide +kernel
theorem dc_P_empty_1 : decode cb_P_empty 1 = .ok (.iconst 0, 1) := by decide +kernel
theorem dc_P_empty_2 : decode cb_P_empty 2 = .ok (.putfield 48, 3) := by decide +kernel
theorem dc_P_empty_5 : decode cb_P_empty 5 = .ok (.iconst 0, 1) := by decide +kernel
theorem dc_P_empty_6 : decode cb_P_empty 6 = .ok (.istore_n 1, 1) := by decide +kernel
theorem dc_P_empty_7 : decode cb_P_empty 7 = .ok (.iload_n 1, 1) := by decide +kernel
theorem dc_P_empty_8 : decode cb_P_empty 8 = .ok (.bipush 7, 2) := by decide +kernel
theorem dc_P_empty_10 : decode cb_P_empty 10 = .ok (.if_icmp .ge 29, 3) := by decide +kernel
theorem dc_P_empty_13 : decode cb_P_empty 13 = .ok (.aload_n 0, 1) := by decide +kernel
theorem dc_P_empty_14 : decode cb_P_empty 14 = .ok (.getfield 23, 3) := by decide +kernel
theorem dc_P_empty_17 : decode cb_P_empty 17 = .ok (.iload_n 1, 1) := by decide +kernel
theorem dc_P_empty_18 : decode cb_P_empty 18 = .ok (.aaload, 1) := by decide +kernel
theorem dc_P_empty_19 : decode cb_P_empty 19 = .ok (.iconst 0, 1) := by decide +kernel
theorem dc_P_empty_20 : decode cb_P_empty 20 = .ok (.invokestatic 51, 3) := by decide +kernel
theorem dc_P_empty_23 : decode cb_P_empty 23 = .ok (.aload_n 0, 1) := by decide +kernel
theorem dc_P_empty_24 : decode cb_P_empty 24 = .ok (.getfield 26, 3) := by decide +kernel
theorem dc_P_empty_27 : decode cb_P_empty 27 = .ok (.iload_n 1, 1) := by decide +kernel
theorem dc_P_empty_28 : decode cb_P_empty 28 = .ok (.aaload, 1) := by decide +kernel
theorem dc_P_empty_29 : decode cb_P_empty 29 = .ok (.iconst 0, 1) := by decide +kernel
theorem dc_P_empty_30 : decode cb_P_empty 30 = .ok (.invokestatic 51, 3) := by decide +kernel
theorem dc_P_empty_33 : decode cb_P_empty 33 = .ok (.iinc 1 1, 3) := by decide +kernel
theorem dc_P_empty_36 : decode cb_P_empty 36 = .ok (.goto (-29), 3) := by decide +kernel
theorem dc_P_empty_39 : decode cb_P_empty 39 = .ok (.return_, 1) := by decide +kernel
theorem dc_P_copy_0 : decode cb_P_copy 0 = .ok (.aload_n 0, 1) := by decide +kernel
theorem dc_P_copy_1 : decode cb_P_copy 1 = .ok (.aload_n 1, 1) := by decide +kernel
theorem dc_P_copy_2 : decode cb_P_copy 2 = .ok (.getfield 29, 3) := by decide +kernel
theorem dc_P_copy_5 : decode cb_P_copy 5 = .ok (.putfield 29, 3) := by decide +kernel
theorem dc_P_copy_8 : decode cb_P_copy 8 = .ok (.aload_n 0, 1) := by decide +kernel
theorem dc_P_copy_9 : decode cb_P_copy 9 = .ok (.aload_n 1, 1) := by decide +kernel
theorem dc_P_copy_10 : decode cb_P_copy 10 = .ok (.getfield 39, 3) := by decide +kernel
theorem dc_P_copy_13 : decode cb_P_copy 13 = .ok (.putfield 39, 3) := by decide +kernel
theorem dc_P_copy_16 : decode cb_P_copy 16 = .ok (.aload_n 0, 1) := by decide +kernel
theorem dc_P_copy_17 : decode cb_P_copy 17 = .ok (.aload_n 1, 1) := by decide +kernel
theorem dc_P_copy_18 : decode cb_P_copy 18 = .ok (.getfield 42, 3) := by decide +kernel
theorem dc_P_copy_21 : decode cb_P_copy 21 = .ok (.putfield 42, 3) := by decide +kernel
theorem dc_P_copy_24 : decode cb_P_copy 24 = .ok (.aload_n 1, 1) := by decide +kernel
theorem dc_P_copy_25 : decode cb_P_copy 25 = .ok (.getfield 18, 3) := by decide +kernel
theorem dc_P_copy_28 : decode cb_P_copy 28 = .ok (.iconst 0, 1) := by decide +kernel
theorem dc_P_copy_29 : decode cb_P_copy 29 = .ok (.aload_n 0, 1) := by decide +kernel
theorem dc_P_copy_30 : decode cb_P_copy 30 = .ok (.getfield 18, 3) := by decide +kernel
theorem dc_P_copy_33 : decode cb_P_copy 33 = .ok (.iconst 0, 1) := by decide +kernel
theorem dc_P_copy_34 : decode cb_P_copy 34 = .ok (.aload_n 0, 1) := by decide +kernel
theorem dc_P_copy_35 : decode cb_P_copy 35 = .ok (.getfield 29, 3) := by decide +kernel
theorem dc_P_copy_38 : decode cb_P_copy 38 = .ok (.invokestatic 57, 3) := by decide +kernel
theorem dc_P_copy_41 : decode cb_P_copy 41 = .ok (.aload_n 0, 1) := by decide +kernel
theorem dc_P_copy_42 : decode cb_P_copy 42 = .ok (.invokevirtual 45, 3) := by decide +kernel
theorem dc_P_copy_45 : decode cb_P_copy 45 = .ok (.iconst 0, 1) := by decide +kernel
theorem dc_P_copy_46 : decode cb_P_copy 46 = .ok (.istore_n 2, 1) := by decide +kernel
theorem dc_P_copy_47 : decode cb_P_copy 47 = .ok (.iload_n 2, 1) := by decide +kernel
theorem dc_P_copy_48 : decode cb_P_copy 48 = .ok (.aload_n 1, 1) := by decide +kernel
theorem dc_P_copy_49 : decode cb_P_copy 49 = .ok (.getfield 48, 3) := by decide +kernel
theorem dc_P_copy_52 : decode cb_P_copy 52 = .ok (.if_icmp .ge 26, 3) := by decide +kernel
theorem dc_P_copy_55 : decode cb_P_copy 55 = .ok (.aload_n 0, 1) := by decide +kernel
theorem dc_P_copy_56 : decode cb_P_copy 56 = .ok (.aload_n 1, 1) := by decide +kernel
theorem dc_P_copy_57 : decode cb_P_copy 57 = .ok (.getfield 9, 3) := by decide +kernel
theorem dc_P_copy_60 : decode cb_P_copy 60 = .ok (.iload_n 2, 1) := by decide +kernel
theorem dc_P_copy_61 : decode cb_P_copy 61 = .ok (.iaload, 1) := by decide +kernel
theorem dc_P_copy_62 : decode cb_P_copy 62 = .ok (.aload_n 1, 1) := by decide +kernel
theorem dc_P_copy_63 : decode cb_P_copy 63 = .ok (.getfield 15, 3) := by decide +kernel
theorem dc_P_copy_66 : decode cb_P_copy 66 = .ok (.iload_n 2, 1) := by decide +kernel
theorem dc_P_copy_67 : decode cb_P_copy 67 = .ok (.iaload, 1) := by decide +kernel
theorem dc_P_copy_68 : decode cb_P_copy 68 = .ok (.invokevirtual 63, 3) := by decide +kernel
theorem dc_P_copy_71 : decode cb_P_copy 71 = .ok (.pop, 1) := by decide +kernel
theorem dc_P_copy_72 : decode cb_P_copy 72 = .ok (.iinc 2 1, 3) := by decide +kernel
theorem dc_P_copy_75 : decode cb_P_copy 75 = .ok (.goto (-28), 3) := by decide +kernel
theorem dc_P_copy_78 : decode cb_P_copy 78 = .ok (.return_, 1) := by decide +kernel
theorem dc_P_copyWithout_0 : decode cb_P_copyWithout 0 = .ok (.aload_n 0, 1) := by decide +kernel
theorem dc_P_copyWithout_1 : decode cb_P_copyWithout 1 = .ok (.aload_n 1, 1) := by decide +kernel
theorem dc_P_copyWithout_2 : decode cb_P_copyWithout 2 = .ok (.getfield 29, 3) := by decide +kernel
theorem dc_P_copyWithout_5 : decode cb_P_copyWithout 5 = .ok (.iconst 1, 1) := by decide +kernel
theorem dc_P_copyWithout_6 : decode cb_P_copyWithout 6 = .ok (.isub, 1) := by decide +kernel
theorem dc_P_copyWithout_7 : decode cb_P_copyWithout 7 = .ok (.putfield 29, 3) := by decide +kernel
theorem dc_P_copyWithout_10 : decode cb_P_copyWithout 10 = .ok (.aload_n 0, 1) := by decide +kernel
theorem dc_P_copyWithout_11 : decode cb_P_copyWithout 11 = .ok (.aload_n 1, 1) := by decide +kernel
theorem dc_P_copyWithout_12 : decode cb_P_copyWithout 12 = .ok (.getfield 39, 3) := by decide +kernel
theorem dc_P_copyWithout_15 : decode cb_P_copyWithout 15 = .ok (.iload_n 2, 1) := by decide +kernel
theorem dc_P_copyWithout_16 : decode cb_P_copyWithout 16 = .ok (.aload_n 1, 1) := by decide +kernel
theorem dc_P_copyWithout_17 : decode cb_P_copyWithout 17 = .ok (.getfield 29, 3) := by decide +kernel
theorem dc_P_copyWithout_20 : decode cb_P_copyWithout 20 = .ok (.invokestatic 67, 3) := by decide +kernel
theorem dc_P_copyWithout_23 : decode cb_P_copyWithout 23 = .ok (.putfield 39, 3) := by decide +kernel
theorem dc_P_copyWithout_26 : decode cb_P_copyWithout 26 = .ok (.aload_n 0, 1) := by decide +kernel
theorem dc_P_copyWithout_27 : decode cb_P_copyWithout 27 = .ok (.aload_n 1, 1) := by decide +kernel
theorem dc_P_copyWithout_28 : decode cb_P_copyWithout 28 = .ok (.getfield 42, 3) := by decide +kernel
theorem dc_P_copyWithout_31 : decode cb_P_copyWithout 31 = .ok (.iload_n 2, 1) := by decide +kernel
theorem dc_P_copyWithout_32 : decode cb_P_copyWithout 32 = .ok (.aload_n 1, 1) := by decide +kernel
theorem dc_P_copyWithout_33 : decode cb_P_copyWithout 33 = .ok (.getfield 29, 3) := by decide +kernel
theorem dc_P_copyWithout_36 : decode cb_P_copyWithout 36 = .ok (.invokestatic 67, 3) := by decide +kernel
theorem dc_P_copyWithout_39 : decode cb_P_copyWithout 39 = .ok (.putfield 42, 3) := by decide +kernel
theorem dc_P_copyWithout_42 : decode cb_P_copyWithout 42 = .ok (.aload_n 1, 1) := by decide +kernel
theorem dc_P_copyWithout_43 : decode cb_P_copyWithout 43 = .ok (.getfield 18, 3) := by decide +kernel
theorem dc_P_copyWithout_46 : decode cb_P_copyWithout 46 = .ok (.iconst 0, 1) := by decide +kernel
theorem dc_P_copyWithout_47 : decode cb_P_copyWithout 47 = .ok (.aload_n 0, 1) := by decide +kernel
theorem dc_P_copyWithout_48 : decode cb_P_copyWithout 48 = .ok (.getfield 18, 3) := by decide +kernel
theorem dc_P_copyWithout_51 : decode cb_P_copyWithout 51 = .ok (.iconst 0, 1) := by decide +kernel
theorem dc_P_copyWithout_52 : decode cb_P_copyWithout 52 = .ok (.aload_n 0, 1) := by decide +kernel
theorem dc_P_copyWithout_53 : decode cb_P_copyWithout 53 = .ok (.getfield 29, 3) := by decide +kernel
theorem dc_P_copyWithout_56 : decode cb_P_copyWithout 56 = .ok (.invokestatic 57, 3) := by decide +kernel
theorem dc_P_copyWithout_59 : decode cb_P_copyWithout 59 = .ok (.aload_n 0, 1) := by decide +kernel
theorem dc_P_copyWithout_60 : decode cb_P_copyWithout 60 = .ok (.invokevirtual 45, 3) := by decide +kernel
theorem dc_P_copyWithout_63 : decode cb_P_copyWithout 63 = .ok (.iconst 0, 1) := by decide +kernel
theorem dc_P_copyWithout_64 : decode cb_P_copyWithout 64 = .ok (.istore_n 3, 1) := by decide +kernel
theorem dc_P_copyWithout_65 : decode cb_P_copyWithout 65 = .ok (.iload_n 3, 1) := by decide +kernel
theorem dc_P_copyWithout_66 : decode cb_P_copyWithout 66 = .ok (.aload_n 1, 1) := by decide +kernel
theorem dc_P_copyWithout_67 : decode cb_P_copyWithout 67 = .ok (.getfield 48, 3) := by decide +kernel
theorem dc_P_copyWithout_70 : decode cb_P_copyWithout 70 = .ok (.if_icmp .ge 34, 3) := by decide +kernel
theorem dc_P_copyWithout_73 : decode cb_P_copyWithout 73 = .ok (.aload_n 0, 1) := by decide +kernel
theorem dc_P_copyWithout_74 : decode cb_P_copyWithout 74 = .ok (.aload_n 1, 1) := by decide +kernel
theorem dc_P_copyWithout_75 : decode cb_P_copyWithout 75 = .ok (.getfield 9, 3) := by decide +kernel
theorem dc_P_copyWithout_78 : decode cb_P_copyWithout 78 = .ok (.iload_n 3, 1) := by decide +kernel
theorem dc_P_copyWithout_79 : decode cb_P_copyWithout 79 = .ok (.iaload, 1) := by decide +kernel
theorem dc_P_copyWithout_80 : decode cb_P_copyWithout 80 = .ok (.iload_n 2, 1) := by decide +kernel
theorem dc_P_copyWithout_81 : decode cb_P_copyWithout 81 = .ok (.aload_n 1, 1) := by decide +kernel
theorem dc_P_copyWithout_82 : decode cb_P_copyWithout 82 = .ok (.getfield 29, 3) := by decide +kernel
theorem dc_P_copyWithout_85 : decode cb_P_copyWithout 85 = .ok (.invokestatic 67, 3) := by decide +kernel
theorem dc_P_copyWithout_88 : decode cb_P_copyWithout 88 = .ok (.aload_n 1, 1) := by decide +kernel
theorem dc_P_copyWithout_89 : decode cb_P_copyWithout 89 = .ok (.getfield 15, 3) := by decide +kernel
theorem dc_P_copyWithout_92 : decode cb_P_copyWithout 92 = .ok (.iload_n 3, 1) := by decide +kernel
theorem dc_P_copyWithout_93 : decode cb_P_copyWithout 93 = .ok (.iaload, 1) := by decide +kernel
theorem dc_P_copyWithout_94 : decode cb_P_copyWithout 94 = .ok (.invokevirtual 63, 3) := by decide +kernel
theorem dc_P_copyWithout_97 : decode cb_P_copyWithout 97 = .ok (.pop, 1) := by decide +kernel
theorem dc_P_copyWithout_98 : decode cb_P_copyWithout 98 = .ok (.iinc 3 1, 3) := by decide +kernel
theorem dc_P_copyWithout_101 : decode cb_P_copyWithout 101 = .ok (.goto (-36), 3) := by decide +kernel
theorem dc_P_copyWithout_104 : decode cb_P_copyWithout 104 = .ok (.return_, 1) := by decide +kernel
theorem dc_P_append_0 : decode cb_P_append 0 = .ok (.aload_n 0, 1) := by decide +kernel
theorem dc_P_append_1 : decode cb_P_append 1 = .ok (.getfield 48, 3) := by decide +kernel
theorem dc_P_append_4 : decode cb_P_append 4 = .ok (.istore_n 3, 1) := by decide +kernel
theorem dc_P_append_5 : decode cb_P_append 5 = .ok (.iload_n 3, 1) := by decide +kernel
theorem dc_P_append_6 : decode cb_P_append 6 = .ok (.aload_n 0, 1) := by decide +kernel
theorem dc_P_append_7 : decode cb_P_append 7 = .ok (.getfield 9, 3) := by decide +kernel
theorem dc_P_append_10 : decode cb_P_append 10 = .ok (.arraylength, 1) := by decide +kernel
theorem dc_P_append_11 : decode cb_P_append 11 = .ok (.if_icmp .ge 33, 3) := by decide +kernel
theorem dc_P_append_14 : decode cb_P_append 14 = .ok (.aload_n 0, 1) := by decide +kernel
theorem dc_P_append_15 : decode cb_P_append 15 = .ok (.getfield 9, 3) := by decide +kernel
theorem dc_P_append_18 : decode cb_P_append 18 = .ok (.iload_n 3, 1) := by decide +kernel
theorem dc_P_append_19 : decode cb_P_append 19 = .ok (.iload_n 1, 1) := by decide +kernel
theorem dc_P_append_20 : decode cb_P_append 20 = .ok (.iastore, 1) := by decide +kernel
theorem dc_P_append_21 : decode cb_P_append 21 = .ok (.aload_n 0, 1) := by decide +kernel
theorem dc_P_append_22 : decode cb_P_append 22 = .ok (.getfield 15, 3) := by decide +kernel
theorem dc_P_append_25 : decode cb_P_append 25 = .ok (.iload_n 3, 1) := by decide +kernel
theorem dc_P_append_26 : decode cb_P_append 26 = .ok (.iload_n 2, 1) := by decide +kernel
theorem dc_P_append_27 : decode cb_P_append 27 = .ok (.iastore, 1) := by decide +kernel
theorem dc_P_append_28 : decode cb_P_append 28 = .ok (.aload_n 0, 1) := by decide +kernel
theorem dc_P_append_29 : decode cb_P_append 29 = .ok (.dup, 1) := by decide +kernel
theorem dc_P_append_30 : decode cb_P_append 30 = .ok (.getfield 48, 3) := by decide +kernel
theorem dc_P_append_33 : decode cb_P_append 33 = .ok (.iconst 1, 1) := by decide +kernel
theorem dc_P_append_34 : decode cb_P_append 34 = .ok (.iadd, 1) := by decide +kernel
theorem dc_P_append_35 : decode cb_P_append 35 = .ok (.putfield 48, 3) := by decide +kernel
theorem dc_P_append_38 : decode cb_P_append 38 = .ok (.aload_n 0, 1) := by decide +kernel
theorem dc_P_append_39 : decode cb_P_append 39 = .ok (.iload_n 1, 1) := by decide +kernel
theorem dc_P_append_40 : decode cb_P_append 40 = .ok (.iload_n 2, 1) := by decide +kernel
theorem dc_P_append_41 : decode cb_P_append 41 = .ok (.invokevirtual 71, 3) := by decide +kernel
theorem dc_P_append_44 : decode cb_P_append 44 = .ok (.iload_n 3, 1) := by decide +kernel
theorem dc_P_append_45 : decode cb_P_append 45 = .ok (.ireturn, 1) := by decide +kernel
theorem dc_P_replace_0 : decode cb_P_replace 0 = .ok (.aload_n 0, 1) := by decide +kernel
theorem dc_P_replace_1 : decode cb_P_replace 1 = .ok (.aload_n 0, 1) := by decide +kernel
theorem dc_P_replace_2 : decode cb_P_replace 2 = .ok (.getfield 9, 3) := by decide +kernel
theorem dc_P_replace_5 : decode cb_P_replace 5 = .ok (.iload_n 1, 1) := by decide +kernel
theorem dc_P_replace_6 : decode cb_P_replace 6 = .ok (.iaload, 1) := by decide +kernel
theorem dc_P_replace_7 : decode cb_P_replace 7 = .ok (.aload_n 0, 1) := by decide +kernel
theorem dc_P_replace_8 : decode cb_P_replace 8 = .ok (.getfield 15, 3) := by decide +kernel
theorem dc_P_replace_11 : decode cb_P_replace 11 = .ok (.iload_n 1, 1) := by decide +kernel
theorem dc_P_replace_12 : decode cb_P_replace 12 = .ok (.iaload, 1) := by decide +kernel
theorem dc_P_replace_13 : decode cb_P_replace 13 = .ok (.ineg, 1) := by decide +kernel
theorem dc_P_replace_14 : decode cb_P_replace 14 = .ok (.invokevirtual 71, 3) := by decide +kernel
theorem dc_P_replace_17 : decode cb_P_replace 17 = .ok (.aload_n 0, 1) := by decide +kernel
theorem dc_P_replace_18 : decode cb_P_replace 18 = .ok (.getfield 9, 3) := by decide +kernel
theorem dc_P_replace_21 : decode cb_P_replace 21 = .ok (.iload_n 1, 1) := by decide +kernel
theorem dc_P_replace_22 : decode cb_P_replace 22 = .ok (.iload_n 2, 1) := by decide +kernel
theorem dc_P_replace_23 : decode cb_P_replace 23 = .ok (.iastore, 1) := by decide +kernel
theorem dc_P_replace_24 : decode cb_P_replace 24 = .ok (.aload_n 0, 1) := by decide +kernel
theorem dc_P_replace_25 : decode cb_P_replace 25 = .ok (.getfield 15, 3) := by decide +kernel
theorem dc_P_replace_28 : decode cb_P_replace 28 = .ok (.iload_n 1, 1) := by decide +kernel
theorem dc_P_replace_29 : decode cb_P_replace 29 = .ok (.iload_n 3, 1) := by decide +kernel
theorem dc_P_replace_30 : decode cb_P_replace 30 = .ok (.iastore, 1) := by decide +kernel
theorem dc_P_replace_31 : decode cb_P_replace 31 = .ok (.aload_n 0, 1) := by decide +kernel
theorem dc_P_replace_32 : decode cb_P_replace 32 = .ok (.iload_n 2, 1) := by decide +kernel
theorem dc_P_replace_33 : decode cb_P_replace 33 = .ok (.iload_n 3, 1) := by decide +kernel
theorem dc_P_replace_34 : decode cb_P_replace 34 = .ok (.invokevirtual 71, 3) := by decide +kernel
theorem dc_P_replace_37 : decode cb_P_replace 37 = .ok (.return_, 1) := by decide +kernel
theorem dc_P_remove_0 : decode cb_P_remove 0 = .ok (.aload_n 0, 1) := by decide +kernel
theorem dc_P_remove_1 : decode cb_P_remove 1 = .ok (.aload_n 0, 1) := by decide +kernel
theorem dc_P_remove_2 : decode cb_P_remove 2 = .ok (.getfield 9, 3) := by decide +kernel
theorem dc_P_remove_5 : decode cb_P_remove 5 = .ok (.iload_n 1, 1) := by decide +kernel
theorem dc_P_remove_6 : decode cb_P_remove 6 = .ok (.iaload, 1) := by decide +kernel
theorem dc_P_remove_7 : decode cb_P_remove 7 = .ok (.aload_n 0, 1) := by decide +kernel
theorem dc_P_remove_8 : decode cb_P_remove 8 = .ok (.getfield 15, 3) := by decide +kernel
theorem dc_P_remove_11 : decode cb_P_remove 11 = .ok (.iload_n 1, 1) := by decide +kernel
theorem dc_P_remove_12 : decode cb_P_remove 12 = .ok (.iaload, 1) := by decide +kernel
theorem dc_P_remove_13 : decode cb_P_remove 13 = .ok (.ineg, 1) := by decide +kernel
theorem dc_P_remove_14 : decode cb_P_remove 14 = .ok (.invokevirtual 71, 3) := by decide +kernel
theorem dc_P_remove_17 : decode cb_P_remove 17 = .ok (.aload_n 0, 1) := by decide +kernel
theorem dc_P_remove_18 : decode cb_P_remove 18 = .ok (.dup, 1) := by decide +kernel
theorem dc_P_remove_19 : decode cb_P_remove 19 = .ok (.getfield 48, 3) := by decide +kernel
theorem dc_P_remove_22 : decode cb_P_remove 22 = .ok (.iconst 1, 1) := by decide +kernel
theorem dc_P_remove_23 : decode cb_P_remove 23 = .ok (.isub, 1) := by decide +kernel
theorem dc_P_remove_24 : decode cb_P_remove 24 = .ok (.putfield 48, 3) := by decide +kernel
theorem dc_P_remove_27 : decode cb_P_remove 27 = .ok (.iload_n 1, 1) := by decide +kernel
theorem dc_P_remove_28 : decode cb_P_remove 28 = .ok (.istore_n 2, 1) := by decide +kernel
theorem dc_P_remove_29 : decode cb_P_remove 29 = .ok (.iload_n 2, 1) := by decide +kernel
theorem dc_P_remove_30 : decode cb_P_remove 30 = .ok (.aload_n 0, 1) := by decide +kernel
theorem dc_P_remove_31 : decode cb_P_remove 31 = .ok (.getfield 48, 3) := by decide +kernel
theorem dc_P_remove_34 : decode cb_P_remove 34 = .ok (.if_icmp .ge 37, 3) := by decide +kernel
theorem dc_P_remove_37 : decode cb_P_remove 37 = .ok (.aload_n 0, 1) := by decide +kernel
theorem dc_P_remove_38 : decode cb_P_remove 38 = .ok (.getfield 9, 3) := by decide +kernel
theorem dc_P_remove_41 : decode cb_P_remove 41 = .ok (.iload_n 2, 1) := by decide +kernel
theorem dc_P_remove_42 : decode cb_P_remove 42 = .ok (.aload_n 0, 1) := by decide +kernel
theorem dc_P_remove_43 : decode cb_P_remove 43 = .ok (.getfield 9, 3) := by decide +kernel
theorem dc_P_remove_46 : decode cb_P_remove 46 = .ok (.iload_n 2, 1) := by decide +kernel
theorem dc_P_remove_47 : decode cb_P_remove 47 = .ok (.iconst 1, 1) := by decide +kernel
theorem dc_P_remove_48 : decode cb_P_remove 48 = .ok (.iadd, 1) := by decide +kernel
theorem dc_P_remove_49 : decode cb_P_remove 49 = .ok (.iaload, 1) := by decide +kernel
theorem dc_P_remove_50 : decode cb_P_remove 50 = .ok (.iastore, 1) := by decide +kernel
theorem dc_P_remove_51 : decode cb_P_remove 51 = .ok (.aload_n 0, 1) := by decide +kernel
theorem dc_P_remove_52 : decode cb_P_remove 52 = .ok (.getfield 15, 3) := by decide +kernel
theorem dc_P_remove_55 : decode cb_P_remove 55 = .ok (.iload_n 2, 1) := by decide +kernel
theorem dc_P_remove_56 : decode cb_P_remove 56 = .ok (.aload_n 0, 1) := by decide +kernel
theorem dc_P_remove_57 : decode cb_P_remove 57 = .ok (.getfield 15, 3) := by decide +kernel
theorem dc_P_remove_60 : decode cb_P_remove 60 = .ok (.iload_n 2, 1) := by decide +kernel
theorem dc_P_remove_61 : decode cb_P_remove 61 = .ok (.iconst 1, 1) := by decide +kernel
theorem dc_P_remove_62 : decode cb_P_remove 62 = .ok (.iadd, 1) := by decide +kernel
theorem dc_P_remove_63 : decode cb_P_remove 63 = .ok (.iaload, 1) := by decide +kernel
theorem dc_P_remove_64 : decode cb_P_remove 64 = .ok (.iastore, 1) := by decide +kernel
theorem dc_P_remove_65 : decode cb_P_remove 65 = .ok (.iinc 2 1, 3) := by decide +kernel
theorem dc_P_remove_68 : decode cb_P_remove 68 = .ok (.goto (-39), 3) := by decide +kernel
theorem dc_P_remove_71 : decode cb_P_remove 71 = .ok (.return_, 1) := by decide +kernel
theorem dc_P_tally_0 : decode cb_P_tally 0 = .ok (.iconst 0, 1) := by decide +kernel
theorem dc_P_tally_1 : decode cb_P_tally 1 = .ok (.istore_n 3, 1) := by decide +kernel
theorem dc_P_tally_2 : decode cb_P_tally 2 = .ok (.iload_n 3, 1) := by decide +kernel
theorem dc_P_tally_3 : decode cb_P_tally 3 = .ok (.aload_n 0, 1) := by decide +kernel
theorem dc_P_tally_4 : decode cb_P_tally 4 = .ok (.getfield 29, 3) := by decide +kernel
theorem dc_P_tally_7 : decode cb_P_tally 7 = .ok (.if_icmp .ge 71, 3) := by decide +kernel
theorem dc_P_tally_10 : decode cb_P_tally 10 = .ok (.iload_n 1, 1) := by decide +kernel
theorem dc_P_tally_11 : decode cb_P_tally 11 = .ok (.iload_n 3, 1) := by decide +kernel
theorem dc_P_tally_12 : decode cb_P_tally 12 = .ok (.invokestatic 75, 3) := by decide +kernel
theorem dc_P_tally_15 : decode cb_P_tally 15 = .ok (.istore 4, 2) := by decide +kernel
theorem dc_P_tally_17 : decode cb_P_tally 17 = .ok (.aload_n 0, 1) := by decide +kernel
theorem dc_P_tally_18 : decode cb_P_tally 18 = .ok (.getfield 23, 3) := by decide +kernel
theorem dc_P_tally_21 : decode cb_P_tally 21 = .ok (.iload 4, 2) := by decide +kernel
theorem dc_P_tally_23 : decode cb_P_tally 23 = .ok (.aaload, 1) := by decide +kernel
theorem dc_P_tally_24 : decode cb_P_tally 24 = .ok (.iload_n 3, 1) := by decide +kernel
theorem dc_P_tally_25 : decode cb_P_tally 25 = .ok (.dup2, 1) := by decide +kernel
theorem dc_P_tally_26 : decode cb_P_tally 26 = .ok (.iaload, 1) := by decide +kernel
theorem dc_P_tally_27 : decode cb_P_tally 27 = .ok (.iload_n 2, 1) := by decide +kernel
theorem dc_P_tally_28 : decode cb_P_tally 28 = .ok (.iadd, 1) := by decide +kernel
theorem dc_P_tally_29 : decode cb_P_tally 29 = .ok (.iastore, 1) := by decide +kernel
theorem dc_P_tally_30 : decode cb_P_tally 30 = .ok (.aload_n 0, 1) := by decide +kernel
theorem dc_P_tally_31 : decode cb_P_tally 31 = .ok (.getfield 26, 3) := by decide +kernel
theorem dc_P_tally_34 : decode cb_P_tally 34 = .ok (.iload 4, 2) := by decide +kernel
theorem dc_P_tally_36 : decode cb_P_tally 36 = .ok (.aaload, 1) := by decide +kernel
theorem dc_P_tally_37 : decode cb_P_tally 37 = .ok (.astore 5, 2) := by decide +kernel
theorem dc_P_tally_39 : decode cb_P_tally 39 = .ok (.iload_n 3, 1) := by decide +kernel
theorem dc_P_tally_40 : decode cb_P_tally 40 = .ok (.iconst 1, 1) := by decide +kernel
theorem dc_P_tally_41 : decode cb_P_tally 41 = .ok (.iadd, 1) := by decide +kernel
theorem dc_P_tally_42 : decode cb_P_tally 42 = .ok (.istore 6, 2) := by decide +kernel
theorem dc_P_tally_44 : decode cb_P_tally 44 = .ok (.iload 6, 2) := by decide +kernel
theorem dc_P_tally_46 : decode cb_P_tally 46 = .ok (.aload_n 0, 1) := by decide +kernel
theorem dc_P_tally_47 : decode cb_P_tally 47 = .ok (.getfield 29, 3) := by decide +kernel
theorem dc_P_tally_50 : decode cb_P_tally 50 = .ok (.if_icmp .ge 22, 3) := by decide +kernel
theorem dc_P_tally_53 : decode cb_P_tally 53 = .ok (.aload 5, 2) := by decide +kernel
theorem dc_P_tally_55 : decode cb_P_tally 55 = .ok (.iload_n 1, 1) := by decide +kernel
theorem dc_P_tally_56 : decode cb_P_tally 56 = .ok (.iload 6, 2) := by decide +kernel
theorem dc_P_tally_58 : decode cb_P_tally 58 = .ok (.invokestatic 75, 3) := by decide +kernel
theorem dc_P_tally_61 : decode cb_P_tally 61 = .ok (.dup2, 1) := by decide +kernel
theorem dc_P_tally_62 : decode cb_P_tally 62 = .ok (.iaload, 1) := by decide +kernel
theorem dc_P_tally_63 : decode cb_P_tally 63 = .ok (.iload_n 2, 1) := by decide +kernel
theorem dc_P_tally_64 : decode cb_P_tally 64 = .ok (.iadd, 1) := by decide +kernel
theorem dc_P_tally_65 : decode cb_P_tally 65 = .ok (.iastore, 1) := by decide +kernel
theorem dc_P_tally_66 : decode cb_P_tally 66 = .ok (.iinc 6 1, 3) := by decide +kernel
theorem dc_P_tally_69 : decode cb_P_tally 69 = .ok (.goto (-25), 3) := by decide +kernel
theorem dc_P_tally_72 : decode cb_P_tally 72 = .ok (.iinc 3 1, 3) := by decide +kernel
theorem dc_P_tally_75 : decode cb_P_tally 75 = .ok (.goto (-73), 3) := by decide +kernel
theorem dc_P_tally_78 : decode cb_P_tally 78 = .ok (.return_, 1) := by decide +kernel
theorem dc_P_beats_0 : decode cb_P_beats 0 = .ok (.aload_n 0, 1) := by decide +kernel
theorem dc_P_beats_1 : decode cb_P_beats 1 = .ok (.getfield 26, 3) := by decide +kernel
theorem dc_P_beats_4 : decode cb_P_beats 4 = .ok (.iload_n 1, 1) := by decide +kernel
theorem dc_P_beats_5 : decode cb_P_beats 5 = .ok (.aaload, 1) := by decide +kernel
theorem dc_P_beats_6 : decode cb_P_beats 6 = .ok (.iload_n 2, 1) := by decide +kernel
theorem dc_P_beats_7 : decode cb_P_beats 7 = .ok (.iaload, 1) := by decide +kernel
theorem dc_P_beats_8 : decode cb_P_beats 8 = .ok (.aload_n 0, 1) := by decide +kernel
theorem dc_P_beats_9 : decode cb_P_beats 9 = .ok (.getfield 26, 3) := by decide +kernel
theorem dc_P_beats_12 : decode cb_P_beats 12 = .ok (.iload_n 2, 1) := by decide +kernel
theorem dc_P_beats_13 : decode cb_P_beats 13 = .ok (.aaload, 1) := by decide +kernel
theorem dc_P_beats_14 : decode cb_P_beats 14 = .ok (.iload_n 1, 1) := by decide +kernel
theorem dc_P_beats_15 : decode cb_P_beats 15 = .ok (.iaload, 1) := by decide +kernel
theorem dc_P_beats_16 : decode cb_P_beats 16 = .ok (.if_icmp .le 7, 3) := by decide +kernel
theorem dc_P_beats_19 : decode cb_P_beats 19 = .ok (.iconst 1, 1) := by decide +kernel
theorem dc_P_beats_20 : decode cb_P_beats 20 = .ok (.goto 4, 3) := by decide +kernel
theorem dc_P_beats_23 : decode cb_P_beats 23 = .ok (.iconst 0, 1) := by decide +kernel
theorem dc_P_beats_24 : decode cb_P_beats 24 = .ok (.ireturn, 1) := by decide +kernel
theorem dc_P_beatenBy_0 : decode cb_P_beatenBy 0 = .ok (.iconst 0, 1) := by decide +kernel
theorem dc_P_beatenBy_1 : decode cb_P_beatenBy 1 = .ok (.istore_n 2, 1) := by decide +kernel
theorem dc_P_beatenBy_2 : decode cb_P_beatenBy 2 = .ok (.iconst 0, 1) := by decide +kernel
theorem dc_P_beatenBy_3 : decode cb_P_beatenBy 3 = .ok (.istore_n 3, 1) := by decide +kernel
theorem dc_P_beatenBy_4 : decode cb_P_beatenBy 4 = .ok (.iload_n 3, 1) := by decide +kernel
theorem dc_P_beatenBy_5 : decode cb_P_beatenBy 5 = .ok (.aload_n 0, 1) := by decide +kernel
theorem dc_P_beatenBy_6 : decode cb_P_beatenBy 6 = .ok (.getfield 29, 3) := by decide +kernel
theorem dc_P_beatenBy_9 : decode cb_P_beatenBy 9 = .ok (.if_icmp .ge 24, 3) := by decide +kernel
theorem dc_P_beatenBy_12 : decode cb_P_beatenBy 12 = .ok (.aload_n 0, 1) := by decide +kernel
theorem dc_P_beatenBy_13 : decode cb_P_beatenBy 13 = .ok (.iload_n 1, 1) := by decide +kernel
theorem dc_P_beatenBy_14 : decode cb_P_beatenBy 14 = .ok (.iload_n 3, 1) := by decide +kernel
theorem dc_P_beatenBy_15 : decode cb_P_beatenBy 15 = .ok (.invokevirtual 78, 3) := by decide +kernel
theorem dc_P_beatenBy_18 : decode cb_P_beatenBy 18 = .ok (.ifCond .eq 9, 3) := by decide +kernel
theorem dc_P_beatenBy_21 : decode cb_P_beatenBy 21 = .ok (.iload_n 2, 1) := by decide +kernel
theorem dc_P_beatenBy_22 : decode cb_P_beatenBy 22 = .ok (.iconst 1, 1) := by decide +kernel
theorem dc_P_beatenBy_23 : decode cb_P_beatenBy 23 = .ok (.iload_n 3, 1) := by decide +kernel
theorem dc_P_beatenBy_24 : decode cb_P_beatenBy 24 = .ok (.ishl, 1) := by decide +kernel
theorem dc_P_beatenBy_25 : decode cb_P_beatenBy 25 = .ok (.ior, 1) := by decide +kernel
theorem dc_P_beatenBy_26 : decode cb_P_beatenBy 26 = .ok (.istore_n 2, 1) := by decide +kernel
theorem dc_P_beatenBy_27 : decode cb_P_beatenBy 27 = .ok (.iinc 3 1, 3) := by decide +kernel
theorem dc_P_beatenBy_30 : decode cb_P_beatenBy 30 = .ok (.goto (-26), 3) := by decide +kernel
theorem dc_P_beatenBy_33 : decode cb_P_beatenBy 33 = .ok (.iload_n 2, 1) := by decide +kernel
theorem dc_P_beatenBy_34 : decode cb_P_beatenBy 34 = .ok (.ireturn, 1) := by decide +kernel
theorem dc_P_everyone_0 : decode cb_P_everyone 0 = .ok (.iconst 1, 1) := by decide +kernel
theorem dc_P_everyone_1 : decode cb_P_everyone 1 = .ok (.aload_n 0, 1) := by decide +kernel
theorem dc_P_everyone_2 : decode cb_P_everyone 2 = .ok (.getfield 29, 3) := by decide +kernel
theorem dc_P_everyone_5 : decode cb_P_everyone 5 = .ok (.ishl, 1) := by decide +kernel
theorem dc_P_everyone_6 : decode cb_P_everyone 6 = .ok (.iconst 1, 1) := by decide +kernel
theorem dc_P_everyone_7 : decode cb_P_everyone 7 = .ok (.isub, 1) := by decide +kernel
theorem dc_P_everyone_8 : decode cb_P_everyone 8 = .ok (.ireturn, 1) := by decide +kernel
theorem dc_P_allVoters_0 : decode cb_P_allVoters 0 = .ok (.iconst 0, 1) := by decide +kernel
theorem dc_P_allVoters_1 : decode cb_P_allVoters 1 = .ok (.istore_n 1, 1) := by decide +kernel
theorem dc_P_allVoters_2 : decode cb_P_allVoters 2 = .ok (.iconst 0, 1) := by decide +kernel
theorem dc_P_allVoters_3 : decode cb_P_allVoters 3 = .ok (.istore_n 2, 1) := by decide +kernel
theorem dc_P_allVoters_4 : decode cb_P_allVoters 4 = .ok (.iload_n 2, 1) := by decide +kernel
theorem dc_P_allVoters_5 : decode cb_P_allVoters 5 = .ok (.aload_n 0, 1) := by decide +kernel
theorem dc_P_allVoters_6 : decode cb_P_allVoters 6 = .ok (.getfield 48, 3) := by decide +kernel
theorem dc_P_allVoters_9 : decode cb_P_allVoters 9 = .ok (.if_icmp .ge 18, 3) := by decide +kernel
theorem dc_P_allVoters_12 : decode cb_P_allVoters 12 = .ok (.iload_n 1, 1) := by decide +kernel
theorem dc_P_allVoters_13 : decode cb_P_allVoters 13 = .ok (.aload_n 0, 1) := by decide +kernel
theorem dc_P_allVoters_14 : decode cb_P_allVoters 14 = .ok (.getfield 15, 3) := by decide +kernel
theorem dc_P_allVoters_17 : decode cb_P_allVoters 17 = .ok (.iload_n 2, 1) := by decide +kernel
theorem dc_P_allVoters_18 : decode cb_P_allVoters 18 = .ok (.iaload, 1) := by decide +kernel
theorem dc_P_allVoters_19 : decode cb_P_allVoters 19 = .ok (.iadd, 1) := by decide +kernel
theorem dc_P_allVoters_20 : decode cb_P_allVoters 20 = .ok (.istore_n 1, 1) := by decide +kernel
theorem dc_P_allVoters_21 : decode cb_P_allVoters 21 = .ok (.iinc 2 1, 3) := by decide +kernel
theorem dc_P_allVoters_24 : decode cb_P_allVoters 24 = .ok (.goto (-20), 3) := by decide +kernel
theorem dc_P_allVoters_27 : decode cb_P_allVoters 27 = .ok (.iload_n 1, 1) := by decide +kernel
theorem dc_P_allVoters_28 : decode cb_P_allVoters 28 = .ok (.ireturn, 1) := by decide +kernel
theorem dc_P_firstInTie_0 : decode cb_P_firstInTie 0 = .ok (.iconst 0, 1) := by decide +kernel
theorem dc_P_firstInTie_1 : decode cb_P_firstInTie 1 = .ok (.istore_n 2, 1) := by decide +kernel
theorem dc_P_firstInTie_2 : decode cb_P_firstInTie 2 = .ok (.iload_n 2, 1) := by decide +kernel
theorem dc_P_firstInTie_3 : decode cb_P_firstInTie 3 = .ok (.aload_n 0, 1) := by decide +kernel
theorem dc_P_firstInTie_4 : decode cb_P_firstInTie 4 = .ok (.getfield 29, 3) := by decide +kernel
theorem dc_P_firstInTie_7 : decode cb_P_firstInTie 7 = .ok (.if_icmp .ge 28, 3) := by decide +kernel
theorem dc_P_firstInTie_10 : decode cb_P_firstInTie 10 = .ok (.aload_n 0, 1) := by decide +kernel
theorem dc_P_firstInTie_11 : decode cb_P_firstInTie 11 = .ok (.getfield 39, 3) := by decide +kernel
theorem dc_P_firstInTie_14 : decode cb_P_firstInTie 14 = .ok (.iload_n 2, 1) := by decide +kernel
theorem dc_P_firstInTie_15 : decode cb_P_firstInTie 15 = .ok (.invokestatic 75, 3) := by decide +kernel
theorem dc_P_firstInTie_18 : decode cb_P_firstInTie 18 = .ok (.istore_n 3, 1) := by decide +kernel
theorem dc_P_firstInTie_19 : decode cb_P_firstInTie 19 = .ok (.iload_n 1, 1) := by decide +kernel
theorem dc_P_firstInTie_20 : decode cb_P_firstInTie 20 = .ok (.iload_n 3, 1) := by decide +kernel
theorem dc_P_firstInTie_21 : decode cb_P_firstInTie 21 = .ok (.ishr, 1) := by decide +kernel
theorem dc_P_firstInTie_22 : decode cb_P_firstInTie 22 = .ok (.iconst 1, 1) := by decide +kernel
theorem dc_P_firstInTie_23 : decode cb_P_firstInTie 23 = .ok (.iand, 1) := by decide +kernel
theorem dc_P_firstInTie_24 : decode cb_P_firstInTie 24 = .ok (.ifCond .eq 5, 3) := by decide +kernel
theorem dc_P_firstInTie_27 : decode cb_P_firstInTie 27 = .ok (.iload_n 3, 1) := by decide +kernel
theorem dc_P_firstInTie_28 : decode cb_P_firstInTie 28 = .ok (.ireturn, 1) := by decide +kernel
theorem dc_P_firstInTie_29 : decode cb_P_firstInTie 29 = .ok (.iinc 2 1, 3) := by decide +kernel
theorem dc_P_firstInTie_32 : decode cb_P_firstInTie 32 = .ok (.goto (-30), 3) := by decide +kernel
theorem dc_P_firstInTie_35 : decode cb_P_firstInTie 35 = .ok (.iconst (-1), 1) := by decide +kernel
theorem dc_P_firstInTie_36 : decode cb_P_firstInTie 36 = .ok (.ireturn, 1) := by decide +kernel
theorem dc_P_lastInTie_0 : decode cb_P_lastInTie 0 = .ok (.aload_n 0, 1) := by decide +kernel
theorem dc_P_lastInTie_1 : decode cb_P_lastInTie 1 = .ok (.getfield 29, 3) := by decide +kernel
theorem dc_P_lastInTie_4 : decode cb_P_lastInTie 4 = .ok (.iconst 1, 1) := by decide +kernel
theorem dc_P_lastInTie_5 : decode cb_P_lastInTie 5 = .ok (.isub, 1) := by decide +kernel
theorem dc_P_lastInTie_6 : decode cb_P_lastInTie 6 = .ok (.istore_n 2, 1) := by decide +kernel
theorem dc_P_lastInTie_7 : decode cb_P_lastInTie 7 = .ok (.iload_n 2, 1) := by decide +kernel
theorem dc_P_lastInTie_8 : decode cb_P_lastInTie 8 = .ok (.ifCond .lt 28, 3) := by decide +kernel
theorem dc_P_lastInTie_11 : decode cb_P_lastInTie 11 = .ok (.aload_n 0, 1) := by decide +kernel
theorem dc_P_lastInTie_12 : decode cb_P_lastInTie 12 = .ok (.getfield 39, 3) := by decide +kernel
theorem dc_P_lastInTie_15 : decode cb_P_lastInTie 15 = .ok (.iload_n 2, 1) := by decide +kernel
theorem dc_P_lastInTie_16 : decode cb_P_lastInTie 16 = .ok (.invokestatic 75, 3) := by decide +kernel
theorem dc_P_lastInTie_19 : decode cb_P_lastInTie 19 = .ok (.istore_n 3, 1) := by decide +kernel
theorem dc_P_lastInTie_20 : decode cb_P_lastInTie 20 = .ok (.iload_n 1, 1) := by decide +kernel
theorem dc_P_lastInTie_21 : decode cb_P_lastInTie 21 = .ok (.iload_n 3, 1) := by decide +kernel
theorem dc_P_lastInTie_22 : decode cb_P_lastInTie 22 = .ok (.ishr, 1) := by decide +kernel
theorem dc_P_lastInTie_23 : decode cb_P_lastInTie 23 = .ok (.iconst 1, 1) := by decide +kernel
theorem dc_P_lastInTie_24 : decode cb_P_lastInTie 24 = .ok (.iand, 1) := by decide +kernel
theorem dc_P_lastInTie_25 : decode cb_P_lastInTie 25 = .ok (.ifCond .eq 5, 3) := by decide +kernel
theorem dc_P_lastInTie_28 : decode cb_P_lastInTie 28 = .ok (.iload_n 3, 1) := by decide +kernel
theorem dc_P_lastInTie_29 : decode cb_P_lastInTie 29 = .ok (.ireturn, 1) := by decide +kernel
theorem dc_P_lastInTie_30 : decode cb_P_lastInTie 30 = .ok (.iinc 2 (-1), 3) := by decide +kernel
theorem dc_P_lastInTie_33 : decode cb_P_lastInTie 33 = .ok (.goto (-26), 3) := by decide +kernel
theorem dc_P_lastInTie_36 : decode cb_P_lastInTie 36 = .ok (.iconst (-1), 1) := by decide +kernel
theorem dc_P_lastInTie_37 : decode cb_P_lastInTie 37 = .ok (.ireturn, 1) := by decide +kernel
theorem dc_P_leastCircle_0 : decode cb_P_leastCircle 0 = .ok (.iconst 0, 1) := by decide +kernel
theorem dc_P_leastCircle_1 : decode cb_P_leastCircle 1 = .ok (.istore_n 1, 1) := by decide +kernel
theorem dc_P_leastCircle_2 : decode cb_P_leastCircle 2 = .ok (.iload_n 1, 1) := by decide +kernel
theorem dc_P_leastCircle_3 : decode cb_P_leastCircle 3 = .ok (.aload_n 0, 1) := by decide +kernel
theorem dc_P_leastCircle_4 : decode cb_P_leastCircle 4 = .ok (.getfield 29, 3) := by decide +kernel
theorem dc_P_leastCircle_7 : decode cb_P_leastCircle 7 = .ok (.if_icmp .ge 79, 3) := by decide +kernel
theorem dc_P_leastCircle_10 : decode cb_P_leastCircle 10 = .ok (.iconst 0, 1) := by decide +kernel
theorem dc_P_leastCircle_11 : decode cb_P_leastCircle 11 = .ok (.istore_n 2, 1) := by decide +kernel
theorem dc_P_leastCircle_12 : decode cb_P_leastCircle 12 = .ok (.iload_n 2, 1) := by decide +kernel
theorem dc_P_leastCircle_13 : decode cb_P_leastCircle 13 = .ok (.aload_n 0, 1) := by decide +kernel
theorem dc_P_leastCircle_14 : decode cb_P_leastCircle 14 = .ok (.getfield 29, 3) := by decide +kernel
theorem dc_P_leastCircle_17 : decode cb_P_leastCircle 17 = .ok (.if_icmp .ge 63, 3) := by decide +kernel
theorem dc_P_leastCircle_20 : decode cb_P_leastCircle 20 = .ok (.iconst 0, 1) := by decide +kernel
theorem dc_P_leastCircle_21 : decode cb_P_leastCircle 21 = .ok (.istore_n 3, 1) := by decide +kernel
theorem dc_P_leastCircle_22 : decode cb_P_leastCircle 22 = .ok (.iload_n 3, 1) := by decide +kernel
theorem dc_P_leastCircle_23 : decode cb_P_leastCircle 23 = .ok (.aload_n 0, 1) := by decide +kernel
theorem dc_P_leastCircle_24 : decode cb_P_leastCircle 24 = .ok (.getfield 29, 3) := by decide +kernel
theorem dc_P_leastCircle_27 : decode cb_P_leastCircle 27 = .ok (.if_icmp .ge 47, 3) := by decide +kernel
theorem dc_P_leastCircle_30 : decode cb_P_leastCircle 30 = .ok (.aload_n 0, 1) := by decide +kernel
theorem dc_P_leastCircle_31 : decode cb_P_leastCircle 31 = .ok (.iload_n 1, 1) := by decide +kernel
theorem dc_P_leastCircle_32 : decode cb_P_leastCircle 32 = .ok (.iload_n 2, 1) := by decide +kernel
theorem dc_P_leastCircle_33 : decode cb_P_leastCircle 33 = .ok (.invokevirtual 78, 3) := by decide +kernel
theorem dc_P_leastCircle_36 : decode cb_P_leastCircle 36 = .ok (.ifCond .eq 32, 3) := by decide +kernel
theorem dc_P_leastCircle_39 : decode cb_P_leastCircle 39 = .ok (.aload_n 0, 1) := by decide +kernel
theorem dc_P_leastCircle_40 : decode cb_P_leastCircle 40 = .ok (.iload_n 2, 1) := by decide +kernel
theorem dc_P_leastCircle_41 : decode cb_P_leastCircle 41 = .ok (.iload_n 3, 1) := by decide +kernel
theorem dc_P_leastCircle_42 : decode cb_P_leastCircle 42 = .ok (.invokevirtual 78, 3) := by decide +kernel
theorem dc_P_leastCircle_45 : decode cb_P_leastCircle 45 = .ok (.ifCond .eq 23, 3) := by decide +kernel
theorem dc_P_leastCircle_48 : decode cb_P_leastCircle 48 = .ok (.aload_n 0, 1) := by decide +kernel
theorem dc_P_leastCircle_49 : decode cb_P_leastCircle 49 = .ok (.iload_n 3, 1) := by decide +kernel
theorem dc_P_leastCircle_50 : decode cb_P_leastCircle 50 = .ok (.iload_n 1, 1) := by decide +kernel
theorem dc_P_leastCircle_51 : decode cb_P_leastCircle 51 = .ok (.invokevirtual 78, 3) := by decide +kernel
theorem dc_P_leastCircle_54 : decode cb_P_leastCircle 54 = .ok (.ifCond .eq 14, 3) := by decide +kernel
theorem dc_P_leastCircle_57 : decode cb_P_leastCircle 57 = .ok (.iload_n 1, 1) := by decide +kernel
theorem dc_P_leastCircle_58 : decode cb_P_leastCircle 58 = .ok (.iload_n 2, 1) := by decide +kernel
theorem dc_P_leastCircle_59 : decode cb_P_leastCircle 59 = .ok (.iconst 3, 1) := by decide +kernel
theorem dc_P_leastCircle_60 : decode cb_P_leastCircle 60 = .ok (.ishl, 1) := by decide +kernel
theorem dc_P_leastCircle_61 : decode cb_P_leastCircle 61 = .ok (.ior, 1) := by decide +kernel
theorem dc_P_leastCircle_62 : decode cb_P_leastCircle 62 = .ok (.iload_n 3, 1) := by decide +kernel
theorem dc_P_leastCircle_63 : decode cb_P_leastCircle 63 = .ok (.bipush 6, 2) := by decide +kernel
theorem dc_P_leastCircle_65 : decode cb_P_leastCircle 65 = .ok (.ishl, 1) := by decide +kernel
theorem dc_P_leastCircle_66 : decode cb_P_leastCircle 66 = .ok (.ior, 1) := by decide +kernel
theorem dc_P_leastCircle_67 : decode cb_P_leastCircle 67 = .ok (.ireturn, 1) := by decide +kernel
theorem dc_P_leastCircle_68 : decode cb_P_leastCircle 68 = .ok (.iinc 3 1, 3) := by decide +kernel
theorem dc_P_leastCircle_71 : decode cb_P_leastCircle 71 = .ok (.goto (-49), 3) := by decide +kernel
theorem dc_P_leastCircle_74 : decode cb_P_leastCircle 74 = .ok (.iinc 2 1, 3) := by decide +kernel
theorem dc_P_leastCircle_77 : decode cb_P_leastCircle 77 = .ok (.goto (-65), 3) := by decide +kernel
theorem dc_P_leastCircle_80 : decode cb_P_leastCircle 80 = .ok (.iinc 1 1, 3) := by decide +kernel
theorem dc_P_leastCircle_83 : decode cb_P_leastCircle 83 = .ok (.goto (-81), 3) := by decide +kernel
theorem dc_P_leastCircle_86 : decode cb_P_leastCircle 86 = .ok (.iconst (-1), 1) := by decide +kernel
theorem dc_P_leastCircle_87 : decode cb_P_leastCircle 87 = .ok (.ireturn, 1) := by decide +kernel
theorem dc_R_init_0 : decode cb_R_init 0 = .ok (.aload_n 0, 1) := by decide +kernel
theorem dc_R_init_1 : decode cb_R_init 1 = .ok (.invokespecial 3, 3) := by decide +kernel
theorem dc_R_init_4 : decode cb_R_init 4 = .ok (.aload_n 0, 1) := by decide +kernel
theorem dc_R_init_5 : decode cb_R_init 5 = .ok (.new 9, 3) := by decide +kernel
theorem dc_R_init_8 : decode cb_R_init 8 = .ok (.dup, 1) := by decide +kernel
theorem dc_R_init_9 : decode cb_R_init 9 = .ok (.invokespecial 11, 3) := by decide +kernel
theorem dc_R_init_12 : decode cb_R_init 12 = .ok (.putfield 12, 3) := by decide +kernel
theorem dc_R_init_15 : decode cb_R_init 15 = .ok (.aload_n 0, 1) := by decide +kernel
theorem dc_R_init_16 : decode cb_R_init 16 = .ok (.new 18, 3) := by decide +kernel
end
section
theorem dc_R_init_19 : decode cb_R_init 19 = .ok (.dup, 1) := by decide +kernel
theorem dc_R_init_20 : decode cb_R_init 20 = .ok (.invokespecial 20, 3) := by decide +kernel
theorem dc_R_init_23 : decode cb_R_init 23 = .ok (.putfield 21, 3) := by decide +kernel
theorem dc_R_init_26 : decode cb_R_init 26 = .ok (.aload_n 0, 1) := by decide +kernel
theorem dc_R_init_27 : decode cb_R_init 27 = .ok (.new 25, 3) := by decide +kernel
theorem dc_R_init_30 : decode cb_R_init 30 = .ok (.dup, 1) := by decide +kernel
theorem dc_R_init_31 : decode cb_R_init 31 = .ok (.invokespecial 27, 3) := by decide +kernel
theorem dc_R_init_34 : decode cb_R_init 34 = .ok (.putfield 28, 3) := by decide +kernel
theorem dc_R_init_37 : decode cb_R_init 37 = .ok (.aload_n 0, 1) := by decide +kernel
theorem dc_R_init_38 : decode cb_R_init 38 = .ok (.new 32, 3) := by decide +kernel
theorem dc_R_init_41 : decode cb_R_init 41 = .ok (.dup, 1) := by decide +kernel
theorem dc_R_init_42 : decode cb_R_init 42 = .ok (.invokespecial 34, 3) := by decide +kernel
theorem dc_R_init_45 : decode cb_R_init 45 = .ok (.putfield 35, 3) := by decide +kernel
theorem dc_R_init_48 : decode cb_R_init 48 = .ok (.aload_n 0, 1) := by decide +kernel
theorem dc_R_init_49 : decode cb_R_init 49 = .ok (.bipush 7, 2) := by decide +kernel
theorem dc_R_init_51 : decode cb_R_init 51 = .ok (.newarray .int, 2) := by decide +kernel
theorem dc_R_init_53 : decode cb_R_init 53 = .ok (.putfield 39, 3) := by decide +kernel
theorem dc_R_init_56 : decode cb_R_init 56 = .ok (.return_, 1) := by decide +kernel
theorem dc_R_theWinner_0 : decode cb_R_theWinner 0 = .ok (.aload_n 1, 1) := by decide +kernel
theorem dc_R_theWinner_1 : decode cb_R_theWinner 1 = .ok (.aload_n 0, 1) := by decide +kernel
theorem dc_R_theWinner_2 : decode cb_R_theWinner 2 = .ok (.aload_n 1, 1) := by decide +kernel
theorem dc_R_theWinner_3 : decode cb_R_theWinner 3 = .ok (.iload_n 2, 1) := by decide +kernel
theorem dc_R_theWinner_4 : decode cb_R_theWinner 4 = .ok (.invokevirtual 43, 3) := by decide +kernel
theorem dc_R_theWinner_7 : decode cb_R_theWinner 7 = .ok (.invokevirtual 47, 3) := by decide +kernel
theorem dc_R_theWinner_10 : decode cb_R_theWinner 10 = .ok (.ireturn, 1) := by decide +kernel
theorem dc_R_winnerSet_0 : decode cb_R_winnerSet 0 = .ok (.iload_n 2, 1) := by decide +kernel
theorem dc_R_winnerSet_1 : decode cb_R_winnerSet 1 = .ok (.tableswitch 105 3 11 #[51, 56, 105, 105, 65, 74, 83, 92, 98], 51) := by decide +kernel
theorem dc_R_winnerSet_52 : decode cb_R_winnerSet 52 = .ok (.aload_n 1, 1) := by decide +kernel
theorem dc_R_winnerSet_53 : decode cb_R_winnerSet 53 = .ok (.invokestatic 53, 3) := by decide +kernel
theorem dc_R_winnerSet_56 : decode cb_R_winnerSet 56 = .ok (.ireturn, 1) := by decide +kernel
theorem dc_R_winnerSet_57 : decode cb_R_winnerSet 57 = .ok (.aload_n 0, 1) := by decide +kernel
theorem dc_R_winnerSet_58 : decode cb_R_winnerSet 58 = .ok (.getfield 12, 3) := by decide +kernel
theorem dc_R_winnerSet_61 : decode cb_R_winnerSet 61 = .ok (.aload_n 1, 1) := by decide +kernel
theorem dc_R_winnerSet_62 : decode cb_R_winnerSet 62 = .ok (.invokevirtual 57, 3) := by decide +kernel
theorem dc_R_winnerSet_65 : decode cb_R_winnerSet 65 = .ok (.ireturn, 1) := by decide +kernel
theorem dc_R_winnerSet_66 : decode cb_R_winnerSet 66 = .ok (.aload_n 0, 1) := by decide +kernel
theorem dc_R_winnerSet_67 : decode cb_R_winnerSet 67 = .ok (.getfield 21, 3) := by decide +kernel
theorem dc_R_winnerSet_70 : decode cb_R_winnerSet 70 = .ok (.aload_n 1, 1) := by decide +kernel
theorem dc_R_winnerSet_71 : decode cb_R_winnerSet 71 = .ok (.invokevirtual 59, 3) := by decide +kernel
theorem dc_R_winnerSet_74 : decode cb_R_winnerSet 74 = .ok (.ireturn, 1) := by decide +kernel
theorem dc_R_winnerSet_75 : decode cb_R_winnerSet 75 = .ok (.aload_n 0, 1) := by decide +kernel
theorem dc_R_winnerSet_76 : decode cb_R_winnerSet 76 = .ok (.getfield 28, 3) := by decide +kernel
theorem dc_R_winnerSet_79 : decode cb_R_winnerSet 79 = .ok (.aload_n 1, 1) := by decide +kernel
theorem dc_R_winnerSet_80 : decode cb_R_winnerSet 80 = .ok (.invokevirtual 60, 3) := by decide +kernel
theorem dc_R_winnerSet_83 : decode cb_R_winnerSet 83 = .ok (.ireturn, 1) := by decide +kernel
theorem dc_R_winnerSet_84 : decode cb_R_winnerSet 84 = .ok (.aload_n 0, 1) := by decide +kernel
theorem dc_R_winnerSet_85 : decode cb_R_winnerSet 85 = .ok (.getfield 35, 3) := by decide +kernel
theorem dc_R_winnerSet_88 : decode cb_R_winnerSet 88 = .ok (.aload_n 1, 1) := by decide +kernel
theorem dc_R_winnerSet_89 : decode cb_R_winnerSet 89 = .ok (.invokevirtual 61, 3) := by decide +kernel
theorem dc_R_winnerSet_92 : decode cb_R_winnerSet 92 = .ok (.ireturn, 1) := by decide +kernel
theorem dc_R_winnerSet_93 : decode cb_R_winnerSet 93 = .ok (.aload_n 0, 1) := by decide +kernel
theorem dc_R_winnerSet_94 : decode cb_R_winnerSet 94 = .ok (.aload_n 1, 1) := by decide +kernel
theorem dc_R_winnerSet_95 : decode cb_R_winnerSet 95 = .ok (.invokevirtual 62, 3) := by decide +kernel
theorem dc_R_winnerSet_98 : decode cb_R_winnerSet 98 = .ok (.ireturn, 1) := by decide +kernel
theorem dc_R_winnerSet_99 : decode cb_R_winnerSet 99 = .ok (.iconst 1, 1) := by decide +kernel
theorem dc_R_winnerSet_100 : decode cb_R_winnerSet 100 = .ok (.aload_n 1, 1) := by decide +kernel
theorem dc_R_winnerSet_101 : decode cb_R_winnerSet 101 = .ok (.invokestatic 65, 3) := by decide +kernel
theorem dc_R_winnerSet_104 : decode cb_R_winnerSet 104 = .ok (.ishl, 1) := by decide +kernel
theorem dc_R_winnerSet_105 : decode cb_R_winnerSet 105 = .ok (.ireturn, 1) := by decide +kernel
theorem dc_R_winnerSet_106 : decode cb_R_winnerSet 106 = .ok (.aload_n 1, 1) := by decide +kernel
theorem dc_R_winnerSet_107 : decode cb_R_winnerSet 107 = .ok (.iload_n 2, 1) := by decide +kernel
theorem dc_R_winnerSet_108 : decode cb_R_winnerSet 108 = .ok (.invokestatic 68, 3) := by decide +kernel
theorem dc_R_winnerSet_111 : decode cb_R_winnerSet 111 = .ok (.ireturn, 1) := by decide +kernel
theorem dc_R_runoff_0 : decode cb_R_runoff 0 = .ok (.iconst 0, 1) := by decide +kernel
theorem dc_R_runoff_1 : decode cb_R_runoff 1 = .ok (.istore_n 1, 1) := by decide +kernel
theorem dc_R_runoff_2 : decode cb_R_runoff 2 = .ok (.iconst 0, 1) := by decide +kernel
theorem dc_R_runoff_3 : decode cb_R_runoff 3 = .ok (.istore_n 2, 1) := by decide +kernel
theorem dc_R_runoff_4 : decode cb_R_runoff 4 = .ok (.iload_n 2, 1) := by decide +kernel
theorem dc_R_runoff_5 : decode cb_R_runoff 5 = .ok (.aload_n 0, 1) := by decide +kernel
theorem dc_R_runoff_6 : decode cb_R_runoff 6 = .ok (.getfield 71, 3) := by decide +kernel
theorem dc_R_runoff_9 : decode cb_R_runoff 9 = .ok (.if_icmp .ge 74, 3) := by decide +kernel
theorem dc_R_runoff_12 : decode cb_R_runoff 12 = .ok (.iload_n 2, 1) := by decide +kernel
theorem dc_R_runoff_13 : decode cb_R_runoff 13 = .ok (.iconst 1, 1) := by decide +kernel
theorem dc_R_runoff_14 : decode cb_R_runoff 14 = .ok (.iadd, 1) := by decide +kernel
theorem dc_R_runoff_15 : decode cb_R_runoff 15 = .ok (.istore_n 3, 1) := by decide +kernel
theorem dc_R_runoff_16 : decode cb_R_runoff 16 = .ok (.iload_n 3, 1) := by decide +kernel
theorem dc_R_runoff_17 : decode cb_R_runoff 17 = .ok (.aload_n 0, 1) := by decide +kernel
theorem dc_R_runoff_18 : decode cb_R_runoff 18 = .ok (.getfield 71, 3) := by decide +kernel
theorem dc_R_runoff_21 : decode cb_R_runoff 21 = .ok (.if_icmp .ge 56, 3) := by decide +kernel
theorem dc_R_runoff_24 : decode cb_R_runoff 24 = .ok (.aload_n 0, 1) := by decide +kernel
theorem dc_R_runoff_25 : decode cb_R_runoff 25 = .ok (.iload_n 2, 1) := by decide +kernel
theorem dc_R_runoff_26 : decode cb_R_runoff 26 = .ok (.iload_n 3, 1) := by decide +kernel
theorem dc_R_runoff_27 : decode cb_R_runoff 27 = .ok (.invokestatic 75, 3) := by decide +kernel
theorem dc_R_runoff_30 : decode cb_R_runoff 30 = .ok (.ifCond .eq 41, 3) := by decide +kernel
theorem dc_R_runoff_33 : decode cb_R_runoff 33 = .ok (.iload_n 1, 1) := by decide +kernel
theorem dc_R_runoff_34 : decode cb_R_runoff 34 = .ok (.aload_n 0, 1) := by decide +kernel
theorem dc_R_runoff_35 : decode cb_R_runoff 35 = .ok (.iload_n 3, 1) := by decide +kernel
theorem dc_R_runoff_36 : decode cb_R_runoff 36 = .ok (.iload_n 2, 1) := by decide +kernel
theorem dc_R_runoff_37 : decode cb_R_runoff 37 = .ok (.invokevirtual 79, 3) := by decide +kernel
theorem dc_R_runoff_40 : decode cb_R_runoff 40 = .ok (.ifCond .eq 7, 3) := by decide +kernel
theorem dc_R_runoff_43 : decode cb_R_runoff 43 = .ok (.iconst 0, 1) := by decide +kernel
theorem dc_R_runoff_44 : decode cb_R_runoff 44 = .ok (.goto 6, 3) := by decide +kernel
theorem dc_R_runoff_47 : decode cb_R_runoff 47 = .ok (.iconst 1, 1) := by decide +kernel
theorem dc_R_runoff_48 : decode cb_R_runoff 48 = .ok (.iload_n 2, 1) := by decide +kernel
theorem dc_R_runoff_49 : decode cb_R_runoff 49 = .ok (.ishl, 1) := by decide +kernel
theorem dc_R_runoff_50 : decode cb_R_runoff 50 = .ok (.ior, 1) := by decide +kernel
theorem dc_R_runoff_51 : decode cb_R_runoff 51 = .ok (.istore_n 1, 1) := by decide +kernel
theorem dc_R_runoff_52 : decode cb_R_runoff 52 = .ok (.iload_n 1, 1) := by decide +kernel
theorem dc_R_runoff_53 : decode cb_R_runoff 53 = .ok (.aload_n 0, 1) := by decide +kernel
theorem dc_R_runoff_54 : decode cb_R_runoff 54 = .ok (.iload_n 2, 1) := by decide +kernel
theorem dc_R_runoff_55 : decode cb_R_runoff 55 = .ok (.iload_n 3, 1) := by decide +kernel
theorem dc_R_runoff_56 : decode cb_R_runoff 56 = .ok (.invokevirtual 79, 3) := by decide +kernel
theorem dc_R_runoff_59 : decode cb_R_runoff 59 = .ok (.ifCond .eq 7, 3) := by decide +kernel
theorem dc_R_runoff_62 : decode cb_R_runoff 62 = .ok (.iconst 0, 1) := by decide +kernel
theorem dc_R_runoff_63 : decode cb_R_runoff 63 = .ok (.goto 6, 3) := by decide +kernel
theorem dc_R_runoff_66 : decode cb_R_runoff 66 = .ok (.iconst 1, 1) := by decide +kernel
theorem dc_R_runoff_67 : decode cb_R_runoff 67 = .ok (.iload_n 3, 1) := by decide +kernel
theorem dc_R_runoff_68 : decode cb_R_runoff 68 = .ok (.ishl, 1) := by decide +kernel
theorem dc_R_runoff_69 : decode cb_R_runoff 69 = .ok (.ior, 1) := by decide +kernel
theorem dc_R_runoff_70 : decode cb_R_runoff 70 = .ok (.istore_n 1, 1) := by decide +kernel
theorem dc_R_runoff_71 : decode cb_R_runoff 71 = .ok (.iinc 3 1, 3) := by decide +kernel
theorem dc_R_runoff_74 : decode cb_R_runoff 74 = .ok (.goto (-58), 3) := by decide +kernel
theorem dc_R_runoff_77 : decode cb_R_runoff 77 = .ok (.iinc 2 1, 3) := by decide +kernel
theorem dc_R_runoff_80 : decode cb_R_runoff 80 = .ok (.goto (-76), 3) := by decide +kernel
theorem dc_R_runoff_83 : decode cb_R_runoff 83 = .ok (.iload_n 1, 1) := by decide +kernel
theorem dc_R_runoff_84 : decode cb_R_runoff 84 = .ok (.ireturn, 1) := by decide +kernel
theorem dc_R_mayMeet_0 : decode cb_R_mayMeet 0 = .ok (.aload_n 0, 1) := by decide +kernel
theorem dc_R_mayMeet_1 : decode cb_R_mayMeet 1 = .ok (.getfield 83, 3) := by decide +kernel
theorem dc_R_mayMeet_4 : decode cb_R_mayMeet 4 = .ok (.iload_n 1, 1) := by decide +kernel
theorem dc_R_mayMeet_5 : decode cb_R_mayMeet 5 = .ok (.aaload, 1) := by decide +kernel
theorem dc_R_mayMeet_6 : decode cb_R_mayMeet 6 = .ok (.iconst 0, 1) := by decide +kernel
theorem dc_R_mayMeet_7 : decode cb_R_mayMeet 7 = .ok (.iaload, 1) := by decide +kernel
theorem dc_R_mayMeet_8 : decode cb_R_mayMeet 8 = .ok (.aload_n 0, 1) := by decide +kernel
theorem dc_R_mayMeet_9 : decode cb_R_mayMeet 9 = .ok (.getfield 83, 3) := by decide +kernel
theorem dc_R_mayMeet_12 : decode cb_R_mayMeet 12 = .ok (.iload_n 2, 1) := by decide +kernel
theorem dc_R_mayMeet_13 : decode cb_R_mayMeet 13 = .ok (.aaload, 1) := by decide +kernel
theorem dc_R_mayMeet_14 : decode cb_R_mayMeet 14 = .ok (.iconst 0, 1) := by decide +kernel
theorem dc_R_mayMeet_15 : decode cb_R_mayMeet 15 = .ok (.iaload, 1) := by decide +kernel
theorem dc_R_mayMeet_16 : decode cb_R_mayMeet 16 = .ok (.invokestatic 87, 3) := by decide +kernel
theorem dc_R_mayMeet_19 : decode cb_R_mayMeet 19 = .ok (.istore_n 3, 1) := by decide +kernel
theorem dc_R_mayMeet_20 : decode cb_R_mayMeet 20 = .ok (.iconst 0, 1) := by decide +kernel
theorem dc_R_mayMeet_21 : decode cb_R_mayMeet 21 = .ok (.istore 4, 2) := by decide +kernel
theorem dc_R_mayMeet_23 : decode cb_R_mayMeet 23 = .ok (.iload 4, 2) := by decide +kernel
theorem dc_R_mayMeet_25 : decode cb_R_mayMeet 25 = .ok (.aload_n 0, 1) := by decide +kernel
theorem dc_R_mayMeet_26 : decode cb_R_mayMeet 26 = .ok (.getfield 71, 3) := by decide +kernel
theorem dc_R_mayMeet_29 : decode cb_R_mayMeet 29 = .ok (.if_icmp .ge 36, 3) := by decide +kernel
theorem dc_R_mayMeet_32 : decode cb_R_mayMeet 32 = .ok (.iload 4, 2) := by decide +kernel
theorem dc_R_mayMeet_34 : decode cb_R_mayMeet 34 = .ok (.iload_n 1, 1) := by decide +kernel
theorem dc_R_mayMeet_35 : decode cb_R_mayMeet 35 = .ok (.if_icmp .eq 24, 3) := by decide +kernel
theorem dc_R_mayMeet_38 : decode cb_R_mayMeet 38 = .ok (.iload 4, 2) := by decide +kernel
theorem dc_R_mayMeet_40 : decode cb_R_mayMeet 40 = .ok (.iload_n 2, 1) := by decide +kernel
theorem dc_R_mayMeet_41 : decode cb_R_mayMeet 41 = .ok (.if_icmp .eq 18, 3) := by decide +kernel
theorem dc_R_mayMeet_44 : decode cb_R_mayMeet 44 = .ok (.aload_n 0, 1) := by decide +kernel
theorem dc_R_mayMeet_45 : decode cb_R_mayMeet 45 = .ok (.getfield 83, 3) := by decide +kernel
theorem dc_R_mayMeet_48 : decode cb_R_mayMeet 48 = .ok (.iload 4, 2) := by decide +kernel
theorem dc_R_mayMeet_50 : decode cb_R_mayMeet 50 = .ok (.aaload, 1) := by decide +kernel
theorem dc_R_mayMeet_51 : decode cb_R_mayMeet 51 = .ok (.iconst 0, 1) := by decide +kernel
theorem dc_R_mayMeet_52 : decode cb_R_mayMeet 52 = .ok (.iaload, 1) := by decide +kernel
theorem dc_R_mayMeet_53 : decode cb_R_mayMeet 53 = .ok (.iload_n 3, 1) := by decide +kernel
theorem dc_R_mayMeet_54 : decode cb_R_mayMeet 54 = .ok (.if_icmp .le 5, 3) := by decide +kernel
theorem dc_R_mayMeet_57 : decode cb_R_mayMeet 57 = .ok (.iconst 0, 1) := by decide +kernel
theorem dc_R_mayMeet_58 : decode cb_R_mayMeet 58 = .ok (.ireturn, 1) := by decide +kernel
theorem dc_R_mayMeet_59 : decode cb_R_mayMeet 59 = .ok (.iinc 4 1, 3) := by decide +kernel
theorem dc_R_mayMeet_62 : decode cb_R_mayMeet 62 = .ok (.goto (-39), 3) := by decide +kernel
theorem dc_R_mayMeet_65 : decode cb_R_mayMeet 65 = .ok (.iconst 1, 1) := by decide +kernel
theorem dc_R_mayMeet_66 : decode cb_R_mayMeet 66 = .ok (.ireturn, 1) := by decide +kernel
theorem dc_R_uncovered_0 : decode cb_R_uncovered 0 = .ok (.iconst 0, 1) := by decide +kernel
theorem dc_R_uncovered_1 : decode cb_R_uncovered 1 = .ok (.istore_n 2, 1) := by decide +kernel
theorem dc_R_uncovered_2 : decode cb_R_uncovered 2 = .ok (.iload_n 2, 1) := by decide +kernel
theorem dc_R_uncovered_3 : decode cb_R_uncovered 3 = .ok (.aload_n 1, 1) := by decide +kernel
theorem dc_R_uncovered_4 : decode cb_R_uncovered 4 = .ok (.getfield 71, 3) := by decide +kernel
theorem dc_R_uncovered_7 : decode cb_R_uncovered 7 = .ok (.if_icmp .ge 20, 3) := by decide +kernel
theorem dc_R_uncovered_10 : decode cb_R_uncovered 10 = .ok (.aload_n 0, 1) := by decide +kernel
theorem dc_R_uncovered_11 : decode cb_R_uncovered 11 = .ok (.getfield 39, 3) := by decide +kernel
theorem dc_R_uncovered_14 : decode cb_R_uncovered 14 = .ok (.iload_n 2, 1) := by decide +kernel
theorem dc_R_uncovered_15 : decode cb_R_uncovered 15 = .ok (.aload_n 1, 1) := by decide +kernel
theorem dc_R_uncovered_16 : decode cb_R_uncovered 16 = .ok (.iload_n 2, 1) := by decide +kernel
theorem dc_R_uncovered_17 : decode cb_R_uncovered 17 = .ok (.invokevirtual 93, 3) := by decide +kernel
theorem dc_R_uncovered_20 : decode cb_R_uncovered 20 = .ok (.iastore, 1) := by decide +kernel
theorem dc_R_uncovered_21 : decode cb_R_uncovered 21 = .ok (.iinc 2 1, 3) := by decide +kernel
theorem dc_R_uncovered_24 : decode cb_R_uncovered 24 = .ok (.goto (-22), 3) := by decide +kernel
theorem dc_R_uncovered_27 : decode cb_R_uncovered 27 = .ok (.aload_n 1, 1) := by decide +kernel
theorem dc_R_uncovered_28 : decode cb_R_uncovered 28 = .ok (.invokevirtual 96, 3) := by decide +kernel
theorem dc_R_uncovered_31 : decode cb_R_uncovered 31 = .ok (.istore_n 2, 1) := by decide +kernel
theorem dc_R_uncovered_32 : decode cb_R_uncovered 32 = .ok (.iconst 0, 1) := by decide +kernel
theorem dc_R_uncovered_33 : decode cb_R_uncovered 33 = .ok (.istore_n 3, 1) := by decide +kernel
theorem dc_R_uncovered_34 : decode cb_R_uncovered 34 = .ok (.iload_n 3, 1) := by decide +kernel
theorem dc_R_uncovered_35 : decode cb_R_uncovered 35 = .ok (.aload_n 1, 1) := by decide +kernel
theorem dc_R_uncovered_36 : decode cb_R_uncovered 36 = .ok (.getfield 71, 3) := by decide +kernel
theorem dc_R_uncovered_39 : decode cb_R_uncovered 39 = .ok (.if_icmp .ge 64, 3) := by decide +kernel
theorem dc_R_uncovered_42 : decode cb_R_uncovered 42 = .ok (.iconst 0, 1) := by decide +kernel
theorem dc_R_uncovered_43 : decode cb_R_uncovered 43 = .ok (.istore 4, 2) := by decide +kernel
theorem dc_R_uncovered_45 : decode cb_R_uncovered 45 = .ok (.iload 4, 2) := by decide +kernel
theorem dc_R_uncovered_47 : decode cb_R_uncovered 47 = .ok (.aload_n 1, 1) := by decide +kernel
theorem dc_R_uncovered_48 : decode cb_R_uncovered 48 = .ok (.getfield 71, 3) := by decide +kernel
theorem dc_R_uncovered_51 : decode cb_R_uncovered 51 = .ok (.if_icmp .ge 46, 3) := by decide +kernel
theorem dc_R_uncovered_54 : decode cb_R_uncovered 54 = .ok (.aload_n 0, 1) := by decide +kernel
theorem dc_R_uncovered_55 : decode cb_R_uncovered 55 = .ok (.getfield 39, 3) := by decide +kernel
theorem dc_R_uncovered_58 : decode cb_R_uncovered 58 = .ok (.iload 4, 2) := by decide +kernel
theorem dc_R_uncovered_60 : decode cb_R_uncovered 60 = .ok (.iaload, 1) := by decide +kernel
theorem dc_R_uncovered_61 : decode cb_R_uncovered 61 = .ok (.iconst 1, 1) := by decide +kernel
theorem dc_R_uncovered_62 : decode cb_R_uncovered 62 = .ok (.iload 4, 2) := by decide +kernel
theorem dc_R_uncovered_64 : decode cb_R_uncovered 64 = .ok (.ishl, 1) := by decide +kernel
theorem dc_R_uncovered_65 : decode cb_R_uncovered 65 = .ok (.ior, 1) := by decide +kernel
theorem dc_R_uncovered_66 : decode cb_R_uncovered 66 = .ok (.istore 5, 2) := by decide +kernel
theorem dc_R_uncovered_68 : decode cb_R_uncovered 68 = .ok (.aload_n 0, 1) := by decide +kernel
theorem dc_R_uncovered_69 : decode cb_R_uncovered 69 = .ok (.getfield 39, 3) := by decide +kernel
theorem dc_R_uncovered_72 : decode cb_R_uncovered 72 = .ok (.iload_n 3, 1) := by decide +kernel
theorem dc_R_uncovered_73 : decode cb_R_uncovered 73 = .ok (.iaload, 1) := by decide +kernel
theorem dc_R_uncovered_74 : decode cb_R_uncovered 74 = .ok (.iload 5, 2) := by decide +kernel
theorem dc_R_uncovered_76 : decode cb_R_uncovered 76 = .ok (.iand, 1) := by decide +kernel
theorem dc_R_uncovered_77 : decode cb_R_uncovered 77 = .ok (.iload 5, 2) := by decide +kernel
theorem dc_R_uncovered_79 : decode cb_R_uncovered 79 = .ok (.if_icmp .ne 12, 3) := by decide +kernel
theorem dc_R_uncovered_82 : decode cb_R_uncovered 82 = .ok (.iload_n 2, 1) := by decide +kernel
theorem dc_R_uncovered_83 : decode cb_R_uncovered 83 = .ok (.iconst 1, 1) := by decide +kernel
theorem dc_R_uncovered_84 : decode cb_R_uncovered 84 = .ok (.iload 4, 2) := by decide +kernel
theorem dc_R_uncovered_86 : decode cb_R_uncovered 86 = .ok (.ishl, 1) := by decide +kernel
theorem dc_R_uncovered_87 : decode cb_R_uncovered 87 = .ok (.iconst (-1), 1) := by decide +kernel
theorem dc_R_uncovered_88 : decode cb_R_uncovered 88 = .ok (.ixor, 1) := by decide +kernel
theorem dc_R_uncovered_89 : decode cb_R_uncovered 89 = .ok (.iand, 1) := by decide +kernel
theorem dc_R_uncovered_90 : decode cb_R_uncovered 90 = .ok (.istore_n 2, 1) := by decide +kernel
theorem dc_R_uncovered_91 : decode cb_R_uncovered 91 = .ok (.iinc 4 1, 3) := by decide +kernel
theorem dc_R_uncovered_94 : decode cb_R_uncovered 94 = .ok (.goto (-49), 3) := by decide +kernel
theorem dc_R_uncovered_97 : decode cb_R_uncovered 97 = .ok (.iinc 3 1, 3) := by decide +kernel
theorem dc_R_uncovered_100 : decode cb_R_uncovered 100 = .ok (.goto (-66), 3) := by decide +kernel
theorem dc_R_uncovered_103 : decode cb_R_uncovered 103 = .ok (.iload_n 2, 1) := by decide +kernel
theorem dc_R_uncovered_104 : decode cb_R_uncovered 104 = .ok (.ireturn, 1) := by decide +kernel
theorem dc_R_lastToStay_0 : decode cb_R_lastToStay 0 = .ok (.aload_n 0, 1) := by decide +kernel
theorem dc_R_lastToStay_1 : decode cb_R_lastToStay 1 = .ok (.getfield 100, 3) := by decide +kernel
theorem dc_R_lastToStay_4 : decode cb_R_lastToStay 4 = .ok (.iconst 0, 1) := by decide +kernel
theorem dc_R_lastToStay_5 : decode cb_R_lastToStay 5 = .ok (.invokestatic 103, 3) := by decide +kernel
theorem dc_R_lastToStay_8 : decode cb_R_lastToStay 8 = .ok (.istore_n 1, 1) := by decide +kernel
theorem dc_R_lastToStay_9 : decode cb_R_lastToStay 9 = .ok (.iconst 1, 1) := by decide +kernel
theorem dc_R_lastToStay_10 : decode cb_R_lastToStay 10 = .ok (.istore_n 2, 1) := by decide +kernel
theorem dc_R_lastToStay_11 : decode cb_R_lastToStay 11 = .ok (.iload_n 2, 1) := by decide +kernel
theorem dc_R_lastToStay_12 : decode cb_R_lastToStay 12 = .ok (.aload_n 0, 1) := by decide +kernel
theorem dc_R_lastToStay_13 : decode cb_R_lastToStay 13 = .ok (.getfield 71, 3) := by decide +kernel
theorem dc_R_lastToStay_16 : decode cb_R_lastToStay 16 = .ok (.if_icmp .ge 53, 3) := by decide +kernel
theorem dc_R_lastToStay_19 : decode cb_R_lastToStay 19 = .ok (.aload_n 0, 1) := by decide +kernel
theorem dc_R_lastToStay_20 : decode cb_R_lastToStay 20 = .ok (.getfield 100, 3) := by decide +kernel
theorem dc_R_lastToStay_23 : decode cb_R_lastToStay 23 = .ok (.iload_n 2, 1) := by decide +kernel
theorem dc_R_lastToStay_24 : decode cb_R_lastToStay 24 = .ok (.invokestatic 103, 3) := by decide +kernel
theorem dc_R_lastToStay_27 : decode cb_R_lastToStay 27 = .ok (.istore_n 3, 1) := by decide +kernel
theorem dc_R_lastToStay_28 : decode cb_R_lastToStay 28 = .ok (.aload_n 0, 1) := by decide +kernel
theorem dc_R_lastToStay_29 : decode cb_R_lastToStay 29 = .ok (.iload_n 3, 1) := by decide +kernel
theorem dc_R_lastToStay_30 : decode cb_R_lastToStay 30 = .ok (.iload_n 1, 1) := by decide +kernel
theorem dc_R_lastToStay_31 : decode cb_R_lastToStay 31 = .ok (.invokevirtual 79, 3) := by decide +kernel
theorem dc_R_lastToStay_34 : decode cb_R_lastToStay 34 = .ok (.ifCond .eq 8, 3) := by decide +kernel
theorem dc_R_lastToStay_37 : decode cb_R_lastToStay 37 = .ok (.iload_n 3, 1) := by decide +kernel
theorem dc_R_lastToStay_38 : decode cb_R_lastToStay 38 = .ok (.istore_n 1, 1) := by decide +kernel
theorem dc_R_lastToStay_39 : decode cb_R_lastToStay 39 = .ok (.goto 24, 3) := by decide +kernel
theorem dc_R_lastToStay_42 : decode cb_R_lastToStay 42 = .ok (.aload_n 0, 1) := by decide +kernel
theorem dc_R_lastToStay_43 : decode cb_R_lastToStay 43 = .ok (.iload_n 1, 1) := by decide +kernel
theorem dc_R_lastToStay_44 : decode cb_R_lastToStay 44 = .ok (.iload_n 3, 1) := by decide +kernel
theorem dc_R_lastToStay_45 : decode cb_R_lastToStay 45 = .ok (.invokevirtual 79, 3) := by decide +kernel
theorem dc_R_lastToStay_48 : decode cb_R_lastToStay 48 = .ok (.ifCond .ne 15, 3) := by decide +kernel
theorem dc_R_lastToStay_51 : decode cb_R_lastToStay 51 = .ok (.aload_n 0, 1) := by decide +kernel
theorem dc_R_lastToStay_52 : decode cb_R_lastToStay 52 = .ok (.iconst 1, 1) := by decide +kernel
theorem dc_R_lastToStay_53 : decode cb_R_lastToStay 53 = .ok (.iload_n 1, 1) := by decide +kernel
theorem dc_R_lastToStay_54 : decode cb_R_lastToStay 54 = .ok (.ishl, 1) := by decide +kernel
theorem dc_R_lastToStay_55 : decode cb_R_lastToStay 55 = .ok (.iconst 1, 1) := by decide +kernel
theorem dc_R_lastToStay_56 : decode cb_R_lastToStay 56 = .ok (.iload_n 3, 1) := by decide +kernel
theorem dc_R_lastToStay_57 : decode cb_R_lastToStay 57 = .ok (.ishl, 1) := by decide +kernel
theorem dc_R_lastToStay_58 : decode cb_R_lastToStay 58 = .ok (.ior, 1) := by decide +kernel
theorem dc_R_lastToStay_59 : decode cb_R_lastToStay 59 = .ok (.invokevirtual 47, 3) := by decide +kernel
theorem dc_R_lastToStay_62 : decode cb_R_lastToStay 62 = .ok (.istore_n 1, 1) := by decide +kernel
theorem dc_R_lastToStay_63 : decode cb_R_lastToStay 63 = .ok (.iinc 2 1, 3) := by decide +kernel
theorem dc_R_lastToStay_66 : decode cb_R_lastToStay 66 = .ok (.goto (-55), 3) := by decide +kernel
theorem dc_R_lastToStay_69 : decode cb_R_lastToStay 69 = .ok (.iload_n 1, 1) := by decide +kernel
theorem dc_R_lastToStay_70 : decode cb_R_lastToStay 70 = .ok (.ireturn, 1) := by decide +kernel
theorem dc_C_areKeptBy_0 : decode cb_C_areKeptBy 0 = .ok (.iload_n 0, 1) := by decide +kernel
theorem dc_C_areKeptBy_1 : decode cb_C_areKeptBy 1 = .ok (.ifCond .eq 24, 3) := by decide +kernel
theorem dc_C_areKeptBy_4 : decode cb_C_areKeptBy 4 = .ok (.iload_n 0, 1) := by decide +kernel
theorem dc_C_areKeptBy_5 : decode cb_C_areKeptBy 5 = .ok (.iconst 1, 1) := by decide +kernel
theorem dc_C_areKeptBy_6 : decode cb_C_areKeptBy 6 = .ok (.if_icmp .eq 19, 3) := by decide +kernel
theorem dc_C_areKeptBy_9 : decode cb_C_areKeptBy 9 = .ok (.iload_n 0, 1) := by decide +kernel
theorem dc_C_areKeptBy_10 : decode cb_C_areKeptBy 10 = .ok (.iconst 2, 1) := by decide +kernel
theorem dc_C_areKeptBy_11 : decode cb_C_areKeptBy 11 = .ok (.if_icmp .eq 14, 3) := by decide +kernel
theorem dc_C_areKeptBy_14 : decode cb_C_areKeptBy 14 = .ok (.iload_n 0, 1) := by decide +kernel
theorem dc_C_areKeptBy_15 : decode cb_C_areKeptBy 15 = .ok (.iconst 5, 1) := by decide +kernel
theorem dc_C_areKeptBy_16 : decode cb_C_areKeptBy 16 = .ok (.if_icmp .eq 9, 3) := by decide +kernel
theorem dc_C_areKeptBy_19 : decode cb_C_areKeptBy 19 = .ok (.iload_n 0, 1) := by decide +kernel
theorem dc_C_areKeptBy_20 : decode cb_C_areKeptBy 20 = .ok (.bipush 6, 2) := by decide +kernel
theorem dc_C_areKeptBy_22 : decode cb_C_areKeptBy 22 = .ok (.if_icmp .ne 7, 3) := by decide +kernel
theorem dc_C_areKeptBy_25 : decode cb_C_areKeptBy 25 = .ok (.iconst 1, 1) := by decide +kernel
theorem dc_C_areKeptBy_26 : decode cb_C_areKeptBy 26 = .ok (.goto 4, 3) := by decide +kernel
theorem dc_C_areKeptBy_29 : decode cb_C_areKeptBy 29 = .ok (.iconst 0, 1) := by decide +kernel
theorem dc_C_areKeptBy_30 : decode cb_C_areKeptBy 30 = .ok (.ireturn, 1) := by decide +kernel
theorem dc_C_of_0 : decode cb_C_of 0 = .ok (.iload_n 1, 1) := by decide +kernel
theorem dc_C_of_1 : decode cb_C_of 1 = .ok (.tableswitch 76 0 5 #[39, 49, 64, 76, 76, 70], 39) := by decide +kernel
theorem dc_C_of_40 : decode cb_C_of 40 = .ok (.aload_n 0, 1) := by decide +kernel
theorem dc_C_of_41 : decode cb_C_of 41 = .ok (.getfield 9, 3) := by decide +kernel
theorem dc_C_of_44 : decode cb_C_of 44 = .ok (.iload_n 2, 1) := by decide +kernel
theorem dc_C_of_45 : decode cb_C_of 45 = .ok (.aaload, 1) := by decide +kernel
theorem dc_C_of_46 : decode cb_C_of 46 = .ok (.iconst 0, 1) := by decide +kernel
theorem dc_C_of_47 : decode cb_C_of 47 = .ok (.iaload, 1) := by decide +kernel
theorem dc_C_of_48 : decode cb_C_of 48 = .ok (.i2l, 1) := by decide +kernel
theorem dc_C_of_49 : decode cb_C_of 49 = .ok (.lreturn, 1) := by decide +kernel
theorem dc_C_of_50 : decode cb_C_of 50 = .ok (.aload_n 0, 1) := by decide +kernel
theorem dc_C_of_51 : decode cb_C_of 51 = .ok (.getfield 9, 3) := by decide +kernel
theorem dc_C_of_54 : decode cb_C_of 54 = .ok (.iload_n 2, 1) := by decide +kernel
theorem dc_C_of_55 : decode cb_C_of 55 = .ok (.aaload, 1) := by decide +kernel
theorem dc_C_of_56 : decode cb_C_of 56 = .ok (.aload_n 0, 1) := by decide +kernel
theorem dc_C_of_57 : decode cb_C_of 57 = .ok (.getfield 15, 3) := by decide +kernel
theorem dc_C_of_60 : decode cb_C_of 60 = .ok (.iconst 1, 1) := by decide +kernel
theorem dc_C_of_61 : decode cb_C_of 61 = .ok (.isub, 1) := by decide +kernel
theorem dc_C_of_62 : decode cb_C_of 62 = .ok (.iaload, 1) := by decide +kernel
theorem dc_C_of_63 : decode cb_C_of 63 = .ok (.i2l, 1) := by decide +kernel
theorem dc_C_of_64 : decode cb_C_of 64 = .ok (.lreturn, 1) := by decide +kernel
theorem dc_C_of_65 : decode cb_C_of 65 = .ok (.aload_n 0, 1) := by decide +kernel
theorem dc_C_of_66 : decode cb_C_of 66 = .ok (.iload_n 2, 1) := by decide +kernel
theorem dc_C_of_67 : decode cb_C_of 67 = .ok (.invokestatic 19, 3) := by decide +kernel
theorem dc_C_of_70 : decode cb_C_of 70 = .ok (.lreturn, 1) := by decide +kernel
theorem dc_C_of_71 : decode cb_C_of 71 = .ok (.aload_n 0, 1) := by decide +kernel
theorem dc_C_of_72 : decode cb_C_of 72 = .ok (.iload_n 2, 1) := by decide +kernel
theorem dc_C_of_73 : decode cb_C_of 73 = .ok (.invokestatic 25, 3) := by decide +kernel
theorem dc_C_of_76 : decode cb_C_of 76 = .ok (.lreturn, 1) := by decide +kernel
theorem dc_C_of_77 : decode cb_C_of 77 = .ok (.aload_n 0, 1) := by decide +kernel
theorem dc_C_of_78 : decode cb_C_of 78 = .ok (.iload_n 2, 1) := by decide +kernel
theorem dc_C_of_79 : decode cb_C_of 79 = .ok (.invokestatic 28, 3) := by decide +kernel
theorem dc_C_of_82 : decode cb_C_of 82 = .ok (.lreturn, 1) := by decide +kernel
theorem dc_C_winnerSet_0 : decode cb_C_winnerSet 0 = .ok (.iload_n 1, 1) := by decide +kernel
theorem dc_C_winnerSet_1 : decode cb_C_winnerSet 1 = .ok (.iconst 1, 1) := by decide +kernel
theorem dc_C_winnerSet_2 : decode cb_C_winnerSet 2 = .ok (.if_icmp .eq 8, 3) := by decide +kernel
theorem dc_C_winnerSet_5 : decode cb_C_winnerSet 5 = .ok (.iload_n 1, 1) := by decide +kernel
theorem dc_C_winnerSet_6 : decode cb_C_winnerSet 6 = .ok (.iconst 5, 1) := by decide +kernel
theorem dc_C_winnerSet_7 : decode cb_C_winnerSet 7 = .ok (.if_icmp .ne 7, 3) := by decide +kernel
theorem dc_C_winnerSet_10 : decode cb_C_winnerSet 10 = .ok (.iconst 1, 1) := by decide +kernel
theorem dc_C_winnerSet_11 : decode cb_C_winnerSet 11 = .ok (.goto 4, 3) := by decide +kernel
theorem dc_C_winnerSet_14 : decode cb_C_winnerSet 14 = .ok (.iconst 0, 1) := by decide +kernel
theorem dc_C_winnerSet_15 : decode cb_C_winnerSet 15 = .ok (.istore_n 2, 1) := by decide +kernel
theorem dc_C_winnerSet_16 : decode cb_C_winnerSet 16 = .ok (.iconst 0, 1) := by decide +kernel
theorem dc_C_winnerSet_17 : decode cb_C_winnerSet 17 = .ok (.istore_n 3, 1) := by decide +kernel
theorem dc_C_winnerSet_18 : decode cb_C_winnerSet 18 = .ok (.lconst 0, 1) := by decide +kernel
theorem dc_C_winnerSet_19 : decode cb_C_winnerSet 19 = .ok (.lstore 4, 2) := by decide +kernel
theorem dc_C_winnerSet_21 : decode cb_C_winnerSet 21 = .ok (.iconst 0, 1) := by decide +kernel
theorem dc_C_winnerSet_22 : decode cb_C_winnerSet 22 = .ok (.istore 6, 2) := by decide +kernel
theorem dc_C_winnerSet_24 : decode cb_C_winnerSet 24 = .ok (.iload 6, 2) := by decide +kernel
theorem dc_C_winnerSet_26 : decode cb_C_winnerSet 26 = .ok (.aload_n 0, 1) := by decide +kernel
theorem dc_C_winnerSet_27 : decode cb_C_winnerSet 27 = .ok (.getfield 15, 3) := by decide +kernel
theorem dc_C_winnerSet_30 : decode cb_C_winnerSet 30 = .ok (.if_icmp .ge 72, 3) := by decide +kernel
theorem dc_C_winnerSet_33 : decode cb_C_winnerSet 33 = .ok (.aload_n 0, 1) := by decide +kernel
theorem dc_C_winnerSet_34 : decode cb_C_winnerSet 34 = .ok (.iload_n 1, 1) := by decide +kernel
theorem dc_C_winnerSet_35 : decode cb_C_winnerSet 35 = .ok (.iload 6, 2) := by decide +kernel
theorem dc_C_winnerSet_37 : decode cb_C_winnerSet 37 = .ok (.invokestatic 31, 3) := by decide +kernel
theorem dc_C_winnerSet_40 : decode cb_C_winnerSet 40 = .ok (.lstore 7, 2) := by decide +kernel
theorem dc_C_winnerSet_42 : decode cb_C_winnerSet 42 = .ok (.iload_n 3, 1) := by decide +kernel
theorem dc_C_winnerSet_43 : decode cb_C_winnerSet 43 = .ok (.ifCond .eq 26, 3) := by decide +kernel
theorem dc_C_winnerSet_46 : decode cb_C_winnerSet 46 = .ok (.iload_n 2, 1) := by decide +kernel
theorem dc_C_winnerSet_47 : decode cb_C_winnerSet 47 = .ok (.ifCond .eq 14, 3) := by decide +kernel
theorem dc_C_winnerSet_50 : decode cb_C_winnerSet 50 = .ok (.lload 7, 2) := by decide +kernel
theorem dc_C_winnerSet_52 : decode cb_C_winnerSet 52 = .ok (.lload 4, 2) := by decide +kernel
theorem dc_C_winnerSet_54 : decode cb_C_winnerSet 54 = .ok (.lcmp, 1) := by decide +kernel
theorem dc_C_winnerSet_55 : decode cb_C_winnerSet 55 = .ok (.ifCond .ge 26, 3) := by decide +kernel
theorem dc_C_winnerSet_58 : decode cb_C_winnerSet 58 = .ok (.goto 11, 3) := by decide +kernel
theorem dc_C_winnerSet_61 : decode cb_C_winnerSet 61 = .ok (.lload 7, 2) := by decide +kernel
theorem dc_C_winnerSet_63 : decode cb_C_winnerSet 63 = .ok (.lload 4, 2) := by decide +kernel
theorem dc_C_winnerSet_65 : decode cb_C_winnerSet 65 = .ok (.lcmp, 1) := by decide +kernel
theorem dc_C_winnerSet_66 : decode cb_C_winnerSet 66 = .ok (.ifCond .le 15, 3) := by decide +kernel
theorem dc_C_winnerSet_69 : decode cb_C_winnerSet 69 = .ok (.lload 7, 2) := by decide +kernel
theorem dc_C_winnerSet_71 : decode cb_C_winnerSet 71 = .ok (.lstore 4, 2) := by decide +kernel
theorem dc_C_winnerSet_73 : decode cb_C_winnerSet 73 = .ok (.iconst 1, 1) := by decide +kernel
theorem dc_C_winnerSet_74 : decode cb_C_winnerSet 74 = .ok (.iload 6, 2) := by decide +kernel
theorem dc_C_winnerSet_76 : decode cb_C_winnerSet 76 = .ok (.ishl, 1) := by decide +kernel
theorem dc_C_winnerSet_77 : decode cb_C_winnerSet 77 = .ok (.istore_n 3, 1) := by decide +kernel
theorem dc_C_winnerSet_78 : decode cb_C_winnerSet 78 = .ok (.goto 18, 3) := by decide +kernel
theorem dc_C_winnerSet_81 : decode cb_C_winnerSet 81 = .ok (.lload 7, 2) := by decide +kernel
theorem dc_C_winnerSet_83 : decode cb_C_winnerSet 83 = .ok (.lload 4, 2) := by decide +kernel
theorem dc_C_winnerSet_85 : decode cb_C_winnerSet 85 = .ok (.lcmp, 1) := by decide +kernel
theorem dc_C_winnerSet_86 : decode cb_C_winnerSet 86 = .ok (.ifCond .ne 10, 3) := by decide +kernel
theorem dc_C_winnerSet_89 : decode cb_C_winnerSet 89 = .ok (.iload_n 3, 1) := by decide +kernel
theorem dc_C_winnerSet_90 : decode cb_C_winnerSet 90 = .ok (.iconst 1, 1) := by decide +kernel
theorem dc_C_winnerSet_91 : decode cb_C_winnerSet 91 = .ok (.iload 6, 2) := by decide +kernel
theorem dc_C_winnerSet_93 : decode cb_C_winnerSet 93 = .ok (.ishl, 1) := by decide +kernel
theorem dc_C_winnerSet_94 : decode cb_C_winnerSet 94 = .ok (.ior, 1) := by decide +kernel
theorem dc_C_winnerSet_95 : decode cb_C_winnerSet 95 = .ok (.istore_n 3, 1) := by decide +kernel
theorem dc_C_winnerSet_96 : decode cb_C_winnerSet 96 = .ok (.iinc 6 1, 3) := by decide +kernel
theorem dc_C_winnerSet_99 : decode cb_C_winnerSet 99 = .ok (.goto (-75), 3) := by decide +kernel
theorem dc_C_winnerSet_102 : decode cb_C_winnerSet 102 = .ok (.iload_n 3, 1) := by decide +kernel
theorem dc_C_winnerSet_103 : decode cb_C_winnerSet 103 = .ok (.ireturn, 1) := by decide +kernel
theorem dc_C_points_0 : decode cb_C_points 0 = .ok (.lconst 0, 1) := by decide +kernel
theorem dc_C_points_1 : decode cb_C_points 1 = .ok (.lstore_n 2, 1) := by decide +kernel
theorem dc_C_points_2 : decode cb_C_points 2 = .ok (.iconst 0, 1) := by decide +kernel
theorem dc_C_points_3 : decode cb_C_points 3 = .ok (.istore 4, 2) := by decide +kernel
theorem dc_C_points_5 : decode cb_C_points 5 = .ok (.iload 4, 2) := by decide +kernel
theorem dc_C_points_7 : decode cb_C_points 7 = .ok (.aload_n 0, 1) := by decide +kernel
theorem dc_C_points_8 : decode cb_C_points 8 = .ok (.getfield 15, 3) := by decide +kernel
theorem dc_C_points_11 : decode cb_C_points 11 = .ok (.if_icmp .ge 31, 3) := by decide +kernel
theorem dc_C_points_14 : decode cb_C_points 14 = .ok (.lload_n 2, 1) := by decide +kernel
theorem dc_C_points_15 : decode cb_C_points 15 = .ok (.aload_n 0, 1) := by decide +kernel
theorem dc_C_points_16 : decode cb_C_points 16 = .ok (.getfield 35, 3) := by decide +kernel
theorem dc_C_points_19 : decode cb_C_points 19 = .ok (.iload 4, 2) := by decide +kernel
theorem dc_C_points_21 : decode cb_C_points 21 = .ok (.iaload, 1) := by decide +kernel
theorem dc_C_points_22 : decode cb_C_points 22 = .ok (.i2l, 1) := by decide +kernel
theorem dc_C_points_23 : decode cb_C_points 23 = .ok (.aload_n 0, 1) := by decide +kernel
theorem dc_C_points_24 : decode cb_C_points 24 = .ok (.getfield 9, 3) := by decide +kernel
theorem dc_C_points_27 : decode cb_C_points 27 = .ok (.iload_n 1, 1) := by decide +kernel
theorem dc_C_points_28 : decode cb_C_points 28 = .ok (.aaload, 1) := by decide +kernel
theorem dc_C_points_29 : decode cb_C_points 29 = .ok (.iload 4, 2) := by decide +kernel
theorem dc_C_points_31 : decode cb_C_points 31 = .ok (.iaload, 1) := by decide +kernel
theorem dc_C_points_32 : decode cb_C_points 32 = .ok (.i2l, 1) := by decide +kernel
theorem dc_C_points_33 : decode cb_C_points 33 = .ok (.lmul, 1) := by decide +kernel
theorem dc_C_points_34 : decode cb_C_points 34 = .ok (.ladd, 1) := by decide +kernel
theorem dc_C_points_35 : decode cb_C_points 35 = .ok (.lstore_n 2, 1) := by decide +kernel
theorem dc_C_points_36 : decode cb_C_points 36 = .ok (.iinc 4 1, 3) := by decide +kernel
theorem dc_C_points_39 : decode cb_C_points 39 = .ok (.goto (-34), 3) := by decide +kernel
theorem dc_C_points_42 : decode cb_C_points 42 = .ok (.lload_n 2, 1) := by decide +kernel
theorem dc_C_points_43 : decode cb_C_points 43 = .ok (.lreturn, 1) := by decide +kernel
theorem dc_C_greatestDefeat_0 : decode cb_C_greatestDefeat 0 = .ok (.iconst 0, 1) := by decide +kernel
theorem dc_C_greatestDefeat_1 : decode cb_C_greatestDefeat 1 = .ok (.istore_n 2, 1) := by decide +kernel
theorem dc_C_greatestDefeat_2 : decode cb_C_greatestDefeat 2 = .ok (.iconst 0, 1) := by decide +kernel
theorem dc_C_greatestDefeat_3 : decode cb_C_greatestDefeat 3 = .ok (.istore_n 3, 1) := by decide +kernel
theorem dc_C_greatestDefeat_4 : decode cb_C_greatestDefeat 4 = .ok (.iload_n 3, 1) := by decide +kernel
theorem dc_C_greatestDefeat_5 : decode cb_C_greatestDefeat 5 = .ok (.aload_n 0, 1) := by decide +kernel
theorem dc_C_greatestDefeat_6 : decode cb_C_greatestDefeat 6 = .ok (.getfield 15, 3) := by decide +kernel
theorem dc_C_greatestDefeat_9 : decode cb_C_greatestDefeat 9 = .ok (.if_icmp .ge 31, 3) := by decide +kernel
theorem dc_C_greatestDefeat_12 : decode cb_C_greatestDefeat 12 = .ok (.aload_n 0, 1) := by decide +kernel
theorem dc_C_greatestDefeat_13 : decode cb_C_greatestDefeat 13 = .ok (.iload_n 3, 1) := by decide +kernel
theorem dc_C_greatestDefeat_14 : decode cb_C_greatestDefeat 14 = .ok (.iload_n 1, 1) := by decide +kernel
theorem dc_C_greatestDefeat_15 : decode cb_C_greatestDefeat 15 = .ok (.invokevirtual 39, 3) := by decide +kernel
theorem dc_C_greatestDefeat_18 : decode cb_C_greatestDefeat 18 = .ok (.ifCond .eq 16, 3) := by decide +kernel
theorem dc_C_greatestDefeat_21 : decode cb_C_greatestDefeat 21 = .ok (.iload_n 2, 1) := by decide +kernel
theorem dc_C_greatestDefeat_22 : decode cb_C_greatestDefeat 22 = .ok (.aload_n 0, 1) := by decide +kernel
theorem dc_C_greatestDefeat_23 : decode cb_C_greatestDefeat 23 = .ok (.getfield 43, 3) := by decide +kernel
theorem dc_C_greatestDefeat_26 : decode cb_C_greatestDefeat 26 = .ok (.iload_n 3, 1) := by decide +kernel
theorem dc_C_greatestDefeat_27 : decode cb_C_greatestDefeat 27 = .ok (.aaload, 1) := by decide +kernel
theorem dc_C_greatestDefeat_28 : decode cb_C_greatestDefeat 28 = .ok (.iload_n 1, 1) := by decide +kernel
theorem dc_C_greatestDefeat_29 : decode cb_C_greatestDefeat 29 = .ok (.iaload, 1) := by decide +kernel
theorem dc_C_greatestDefeat_30 : decode cb_C_greatestDefeat 30 = .ok (.invokestatic 46, 3) := by decide +kernel
theorem dc_C_greatestDefeat_33 : decode cb_C_greatestDefeat 33 = .ok (.istore_n 2, 1) := by decide +kernel
theorem dc_C_greatestDefeat_34 : decode cb_C_greatestDefeat 34 = .ok (.iinc 3 1, 3) := by decide +kernel
theorem dc_C_greatestDefeat_37 : decode cb_C_greatestDefeat 37 = .ok (.goto (-33), 3) := by decide +kernel
theorem dc_C_greatestDefeat_40 : decode cb_C_greatestDefeat 40 = .ok (.iload_n 2, 1) := by decide +kernel
theorem dc_C_greatestDefeat_41 : decode cb_C_greatestDefeat 41 = .ok (.i2l, 1) := by decide +kernel
theorem dc_C_greatestDefeat_42 : decode cb_C_greatestDefeat 42 = .ok (.lreturn, 1) := by decide +kernel
theorem dc_C_wins_0 : decode cb_C_wins 0 = .ok (.iconst 0, 1) := by decide +kernel
theorem dc_C_wins_1 : decode cb_C_wins 1 = .ok (.istore_n 2, 1) := by decide +kernel
theorem dc_C_wins_2 : decode cb_C_wins 2 = .ok (.iconst 0, 1) := by decide +kernel
theorem dc_C_wins_3 : decode cb_C_wins 3 = .ok (.istore_n 3, 1) := by decide +kernel
theorem dc_C_wins_4 : decode cb_C_wins 4 = .ok (.iload_n 3, 1) := by decide +kernel
theorem dc_C_wins_5 : decode cb_C_wins 5 = .ok (.aload_n 0, 1) := by decide +kernel
theorem dc_C_wins_6 : decode cb_C_wins 6 = .ok (.getfield 15, 3) := by decide +kernel
theorem dc_C_wins_9 : decode cb_C_wins 9 = .ok (.if_icmp .ge 40, 3) := by decide +kernel
theorem dc_C_wins_12 : decode cb_C_wins 12 = .ok (.iload_n 3, 1) := by decide +kernel
theorem dc_C_wins_13 : decode cb_C_wins 13 = .ok (.iload_n 1, 1) := by decide +kernel
theorem dc_C_wins_14 : decode cb_C_wins 14 = .ok (.if_icmp .eq 29, 3) := by decide +kernel
theorem dc_C_wins_17 : decode cb_C_wins 17 = .ok (.aload_n 0, 1) := by decide +kernel
theorem dc_C_wins_18 : decode cb_C_wins 18 = .ok (.iload_n 3, 1) := by decide +kernel
theorem dc_C_wins_19 : decode cb_C_wins 19 = .ok (.iload_n 1, 1) := by decide +kernel
theorem dc_C_wins_20 : decode cb_C_wins 20 = .ok (.invokevirtual 39, 3) := by decide +kernel
theorem dc_C_wins_23 : decode cb_C_wins 23 = .ok (.ifCond .ne 20, 3) := by decide +kernel
theorem dc_C_wins_26 : decode cb_C_wins 26 = .ok (.iload_n 2, 1) := by decide +kernel
theorem dc_C_wins_27 : decode cb_C_wins 27 = .ok (.aload_n 0, 1) := by decide +kernel
theorem dc_C_wins_28 : decode cb_C_wins 28 = .ok (.iload_n 1, 1) := by decide +kernel
theorem dc_C_wins_29 : decode cb_C_wins 29 = .ok (.iload_n 3, 1) := by decide +kernel
theorem dc_C_wins_30 : decode cb_C_wins 30 = .ok (.invokevirtual 39, 3) := by decide +kernel
theorem dc_C_wins_33 : decode cb_C_wins 33 = .ok (.ifCond .eq 7, 3) := by decide +kernel
theorem dc_C_wins_36 : decode cb_C_wins 36 = .ok (.iconst 2, 1) := by decide +kernel
theorem dc_C_wins_37 : decode cb_C_wins 37 = .ok (.goto 4, 3) := by decide +kernel
theorem dc_C_wins_40 : decode cb_C_wins 40 = .ok (.iconst 1, 1) := by decide +kernel
theorem dc_C_wins_41 : decode cb_C_wins 41 = .ok (.iadd, 1) := by decide +kernel
theorem dc_C_wins_42 : decode cb_C_wins 42 = .ok (.istore_n 2, 1) := by decide +kernel
theorem dc_C_wins_43 : decode cb_C_wins 43 = .ok (.iinc 3 1, 3) := by decide +kernel
theorem dc_C_wins_46 : decode cb_C_wins 46 = .ok (.goto (-42), 3) := by decide +kernel
theorem dc_C_wins_49 : decode cb_C_wins 49 = .ok (.iload_n 2, 1) := by decide +kernel
theorem dc_C_wins_50 : decode cb_C_wins 50 = .ok (.i2l, 1) := by decide +kernel
theorem dc_C_wins_51 : decode cb_C_wins 51 = .ok (.lreturn, 1) := by decide +kernel
theorem dc_W_init_0 : decode cb_W_init 0 = .ok (.aload_n 0, 1) := by decide +kernel
theorem dc_W_init_1 : decode cb_W_init 1 = .ok (.invokespecial 3, 3) := by decide +kernel
theorem dc_W_init_4 : decode cb_W_init 4 = .ok (.aload_n 0, 1) := by decide +kernel
theorem dc_W_init_5 : decode cb_W_init 5 = .ok (.new 9, 3) := by decide +kernel
theorem dc_W_init_8 : decode cb_W_init 8 = .ok (.dup, 1) := by decide +kernel
theorem dc_W_init_9 : decode cb_W_init 9 = .ok (.invokespecial 11, 3) := by decide +kernel
theorem dc_W_init_12 : decode cb_W_init 12 = .ok (.putfield 12, 3) := by decide +kernel
theorem dc_W_init_15 : decode cb_W_init 15 = .ok (.aload_n 0, 1) := by decide +kernel
theorem dc_W_init_16 : decode cb_W_init 16 = .ok (.new 18, 3) := by decide +kernel
theorem dc_W_init_19 : decode cb_W_init 19 = .ok (.dup, 1) := by decide +kernel
theorem dc_W_init_20 : decode cb_W_init 20 = .ok (.invokespecial 20, 3) := by decide +kernel
theorem dc_W_init_23 : decode cb_W_init 23 = .ok (.putfield 21, 3) := by decide +kernel
theorem dc_W_init_26 : decode cb_W_init 26 = .ok (.aload_n 0, 1) := by decide +kernel
theorem dc_W_init_27 : decode cb_W_init 27 = .ok (.new 25, 3) := by decide +kernel
theorem dc_W_init_30 : decode cb_W_init 30 = .ok (.dup, 1) := by decide +kernel
theorem dc_W_init_31 : decode cb_W_init 31 = .ok (.invokespecial 27, 3) := by decide +kernel
theorem dc_W_init_34 : decode cb_W_init 34 = .ok (.putfield 28, 3) := by decide +kernel
theorem dc_W_init_37 : decode cb_W_init 37 = .ok (.return_, 1) := by decide +kernel
theorem dc_W_betterOrder_0 : decode cb_W_betterOrder 0 = .ok (.aload_n 1, 1) := by decide +kernel
theorem dc_W_betterOrder_1 : decode cb_W_betterOrder 1 = .ok (.getfield 32, 3) := by decide +kernel
theorem dc_W_betterOrder_4 : decode cb_W_betterOrder 4 = .ok (.iload_n 3, 1) := by decide +kernel
theorem dc_W_betterOrder_5 : decode cb_W_betterOrder 5 = .ok (.iaload, 1) := by decide +kernel
theorem dc_W_betterOrder_6 : decode cb_W_betterOrder 6 = .ok (.istore 5, 2) := by decide +kernel
theorem dc_W_betterOrder_8 : decode cb_W_betterOrder 8 = .ok (.aload_n 0, 1) := by decide +kernel
theorem dc_W_betterOrder_9 : decode cb_W_betterOrder 9 = .ok (.iload 5, 2) := by decide +kernel
theorem dc_W_betterOrder_11 : decode cb_W_betterOrder 11 = .ok (.aload_n 0, 1) := by decide +kernel
theorem dc_W_betterOrder_12 : decode cb_W_betterOrder 12 = .ok (.getfield 12, 3) := by decide +kernel
theorem dc_W_betterOrder_15 : decode cb_W_betterOrder 15 = .ok (.aload_n 1, 1) := by decide +kernel
theorem dc_W_betterOrder_16 : decode cb_W_betterOrder 16 = .ok (.iload_n 2, 1) := by decide +kernel
theorem dc_W_betterOrder_17 : decode cb_W_betterOrder 17 = .ok (.invokevirtual 35, 3) := by decide +kernel
theorem dc_W_betterOrder_20 : decode cb_W_betterOrder 20 = .ok (.aload_n 1, 1) := by decide +kernel
theorem dc_W_betterOrder_21 : decode cb_W_betterOrder 21 = .ok (.getfield 39, 3) := by decide +kernel
theorem dc_W_betterOrder_24 : decode cb_W_betterOrder 24 = .ok (.invokestatic 43, 3) := by decide +kernel
theorem dc_W_betterOrder_27 : decode cb_W_betterOrder 27 = .ok (.putfield 49, 3) := by decide +kernel
theorem dc_W_betterOrder_30 : decode cb_W_betterOrder 30 = .ok (.aload_n 0, 1) := by decide +kernel
theorem dc_W_betterOrder_31 : decode cb_W_betterOrder 31 = .ok (.getfield 21, 3) := by decide +kernel
theorem dc_W_betterOrder_34 : decode cb_W_betterOrder 34 = .ok (.aload_n 1, 1) := by decide +kernel
theorem dc_W_betterOrder_35 : decode cb_W_betterOrder 35 = .ok (.invokevirtual 52, 3) := by decide +kernel
theorem dc_W_betterOrder_38 : decode cb_W_betterOrder 38 = .ok (.aload_n 0, 1) := by decide +kernel
theorem dc_W_betterOrder_39 : decode cb_W_betterOrder 39 = .ok (.getfield 21, 3) := by decide +kernel
theorem dc_W_betterOrder_42 : decode cb_W_betterOrder 42 = .ok (.iload_n 3, 1) := by decide +kernel
theorem dc_W_betterOrder_43 : decode cb_W_betterOrder 43 = .ok (.iload 5, 2) := by decide +kernel
theorem dc_W_betterOrder_45 : decode cb_W_betterOrder 45 = .ok (.aload_n 1, 1) := by decide +kernel
theorem dc_W_betterOrder_46 : decode cb_W_betterOrder 46 = .ok (.getfield 56, 3) := by decide +kernel
theorem dc_W_betterOrder_49 : decode cb_W_betterOrder 49 = .ok (.iload_n 3, 1) := by decide +kernel
theorem dc_W_betterOrder_50 : decode cb_W_betterOrder 50 = .ok (.iaload, 1) := by decide +kernel
theorem dc_W_betterOrder_51 : decode cb_W_betterOrder 51 = .ok (.iload 4, 2) := by decide +kernel
theorem dc_W_betterOrder_53 : decode cb_W_betterOrder 53 = .ok (.isub, 1) := by decide +kernel
theorem dc_W_betterOrder_54 : decode cb_W_betterOrder 54 = .ok (.invokevirtual 59, 3) := by decide +kernel
theorem dc_W_betterOrder_57 : decode cb_W_betterOrder 57 = .ok (.aload_n 0, 1) := by decide +kernel
theorem dc_W_betterOrder_58 : decode cb_W_betterOrder 58 = .ok (.getfield 21, 3) := by decide +kernel
theorem dc_W_betterOrder_61 : decode cb_W_betterOrder 61 = .ok (.iload 5, 2) := by decide +kernel
theorem dc_W_betterOrder_63 : decode cb_W_betterOrder 63 = .ok (.iload 4, 2) := by decide +kernel
theorem dc_W_betterOrder_65 : decode cb_W_betterOrder 65 = .ok (.invokevirtual 63, 3) := by decide +kernel
theorem dc_W_betterOrder_68 : decode cb_W_betterOrder 68 = .ok (.istore 6, 2) := by decide +kernel
theorem dc_W_betterOrder_70 : decode cb_W_betterOrder 70 = .ok (.iconst (-1), 1) := by decide +kernel
theorem dc_W_betterOrder_71 : decode cb_W_betterOrder 71 = .ok (.istore 7, 2) := by decide +kernel
theorem dc_W_betterOrder_73 : decode cb_W_betterOrder 73 = .ok (.aload_n 0, 1) := by decide +kernel
theorem dc_W_betterOrder_74 : decode cb_W_betterOrder 74 = .ok (.getfield 28, 3) := by decide +kernel
theorem dc_W_betterOrder_77 : decode cb_W_betterOrder 77 = .ok (.aload_n 1, 1) := by decide +kernel
theorem dc_W_betterOrder_78 : decode cb_W_betterOrder 78 = .ok (.getfield 39, 3) := by decide +kernel
theorem dc_W_betterOrder_81 : decode cb_W_betterOrder 81 = .ok (.invokevirtual 67, 3) := by decide +kernel
theorem dc_W_betterOrder_84 : decode cb_W_betterOrder 84 = .ok (.iconst 1, 1) := by decide +kernel
theorem dc_W_betterOrder_85 : decode cb_W_betterOrder 85 = .ok (.istore 8, 2) := by decide +kernel
theorem dc_W_betterOrder_87 : decode cb_W_betterOrder 87 = .ok (.iconst 0, 1) := by decide +kernel
theorem dc_W_betterOrder_88 : decode cb_W_betterOrder 88 = .ok (.istore 9, 2) := by decide +kernel
theorem dc_W_betterOrder_90 : decode cb_W_betterOrder 90 = .ok (.iload 9, 2) := by decide +kernel
theorem dc_W_betterOrder_92 : decode cb_W_betterOrder 92 = .ok (.sipush 5040, 3) := by decide +kernel
theorem dc_W_betterOrder_95 : decode cb_W_betterOrder 95 = .ok (.if_icmp .ge 94, 3) := by decide +kernel
theorem dc_W_betterOrder_98 : decode cb_W_betterOrder 98 = .ok (.iload 8, 2) := by decide +kernel
theorem dc_W_betterOrder_100 : decode cb_W_betterOrder 100 = .ok (.ifCond .eq 89, 3) := by decide +kernel
theorem dc_W_betterOrder_103 : decode cb_W_betterOrder 103 = .ok (.aload_n 0, 1) := by decide +kernel
theorem dc_W_betterOrder_104 : decode cb_W_betterOrder 104 = .ok (.getfield 49, 3) := by decide +kernel
theorem dc_W_betterOrder_107 : decode cb_W_betterOrder 107 = .ok (.ifCond .le 82, 3) := by decide +kernel
theorem dc_W_betterOrder_110 : decode cb_W_betterOrder 110 = .ok (.aload_n 0, 1) := by decide +kernel
theorem dc_W_betterOrder_111 : decode cb_W_betterOrder 111 = .ok (.getfield 28, 3) := by decide +kernel
theorem dc_W_betterOrder_114 : decode cb_W_betterOrder 114 = .ok (.invokevirtual 71, 3) := by decide +kernel
theorem dc_W_betterOrder_117 : decode cb_W_betterOrder 117 = .ok (.istore 10, 2) := by decide +kernel
theorem dc_W_betterOrder_119 : decode cb_W_betterOrder 119 = .ok (.aload_n 0, 1) := by decide +kernel
theorem dc_W_betterOrder_120 : decode cb_W_betterOrder 120 = .ok (.getfield 21, 3) := by decide +kernel
theorem dc_W_betterOrder_123 : decode cb_W_betterOrder 123 = .ok (.iload 6, 2) := by decide +kernel
theorem dc_W_betterOrder_125 : decode cb_W_betterOrder 125 = .ok (.iload 10, 2) := by decide +kernel
theorem dc_W_betterOrder_127 : decode cb_W_betterOrder 127 = .ok (.iload 4, 2) := by decide +kernel
theorem dc_W_betterOrder_129 : decode cb_W_betterOrder 129 = .ok (.invokevirtual 59, 3) := by decide +kernel
theorem dc_W_betterOrder_132 : decode cb_W_betterOrder 132 = .ok (.iload 5, 2) := by decide +kernel
theorem dc_W_betterOrder_134 : decode cb_W_betterOrder 134 = .ok (.aload_n 0, 1) := by decide +kernel
theorem dc_W_betterOrder_135 : decode cb_W_betterOrder 135 = .ok (.getfield 12, 3) := by decide +kernel
theorem dc_W_betterOrder_138 : decode cb_W_betterOrder 138 = .ok (.aload_n 0, 1) := by decide +kernel
theorem dc_W_betterOrder_139 : decode cb_W_betterOrder 139 = .ok (.getfield 21, 3) := by decide +kernel
theorem dc_W_betterOrder_142 : decode cb_W_betterOrder 142 = .ok (.iload_n 2, 1) := by decide +kernel
theorem dc_W_betterOrder_143 : decode cb_W_betterOrder 143 = .ok (.invokevirtual 35, 3) := by decide +kernel
theorem dc_W_betterOrder_146 : decode cb_W_betterOrder 146 = .ok (.aload_n 1, 1) := by decide +kernel
theorem dc_W_betterOrder_147 : decode cb_W_betterOrder 147 = .ok (.getfield 39, 3) := by decide +kernel
theorem dc_W_betterOrder_150 : decode cb_W_betterOrder 150 = .ok (.invokestatic 43, 3) := by decide +kernel
theorem dc_W_betterOrder_153 : decode cb_W_betterOrder 153 = .ok (.istore 11, 2) := by decide +kernel
theorem dc_W_betterOrder_155 : decode cb_W_betterOrder 155 = .ok (.iload 11, 2) := by decide +kernel
theorem dc_W_betterOrder_157 : decode cb_W_betterOrder 157 = .ok (.aload_n 0, 1) := by decide +kernel
theorem dc_W_betterOrder_158 : decode cb_W_betterOrder 158 = .ok (.getfield 49, 3) := by decide +kernel
theorem dc_W_betterOrder_161 : decode cb_W_betterOrder 161 = .ok (.if_icmp .ge 13, 3) := by decide +kernel
theorem dc_W_betterOrder_164 : decode cb_W_betterOrder 164 = .ok (.aload_n 0, 1) := by decide +kernel
theorem dc_W_betterOrder_165 : decode cb_W_betterOrder 165 = .ok (.iload 11, 2) := by decide +kernel
theorem dc_W_betterOrder_167 : decode cb_W_betterOrder 167 = .ok (.putfield 49, 3) := by decide +kernel
theorem dc_W_betterOrder_170 : decode cb_W_betterOrder 170 = .ok (.iload 10, 2) := by decide +kernel
theorem dc_W_betterOrder_172 : decode cb_W_betterOrder 172 = .ok (.istore 7, 2) := by decide +kernel
theorem dc_W_betterOrder_174 : decode cb_W_betterOrder 174 = .ok (.aload_n 0, 1) := by decide +kernel
theorem dc_W_betterOrder_175 : decode cb_W_betterOrder 175 = .ok (.getfield 28, 3) := by decide +kernel
theorem dc_W_betterOrder_178 : decode cb_W_betterOrder 178 = .ok (.invokevirtual 75, 3) := by decide +kernel
theorem dc_W_betterOrder_181 : decode cb_W_betterOrder 181 = .ok (.istore 8, 2) := by decide +kernel
theorem dc_W_betterOrder_183 : decode cb_W_betterOrder 183 = .ok (.iinc 9 1, 3) := by decide +kernel
theorem dc_W_betterOrder_186 : decode cb_W_betterOrder 186 = .ok (.goto (-96), 3) := by decide +kernel
theorem dc_W_betterOrder_189 : decode cb_W_betterOrder 189 = .ok (.iload 7, 2) := by decide +kernel
theorem dc_W_betterOrder_191 : decode cb_W_betterOrder 191 = .ok (.ireturn, 1) := by decide +kernel
theorem dc_W_bestNotAlone_0 : decode cb_W_bestNotAlone 0 = .ok (.iconst 0, 1) := by decide +kernel
theorem dc_W_bestNotAlone_1 : decode cb_W_bestNotAlone 1 = .ok (.istore_n 3, 1) := by decide +kernel
theorem dc_W_bestNotAlone_2 : decode cb_W_bestNotAlone 2 = .ok (.iload_n 3, 1) := by decide +kernel
theorem dc_W_bestNotAlone_3 : decode cb_W_bestNotAlone 3 = .ok (.aload_n 1, 1) := by decide +kernel
theorem dc_W_bestNotAlone_4 : decode cb_W_bestNotAlone 4 = .ok (.getfield 39, 3) := by decide +kernel
theorem dc_W_bestNotAlone_7 : decode cb_W_bestNotAlone 7 = .ok (.if_icmp .ge 49, 3) := by decide +kernel
theorem dc_W_bestNotAlone_10 : decode cb_W_bestNotAlone 10 = .ok (.iconst 1, 1) := by decide +kernel
theorem dc_W_bestNotAlone_11 : decode cb_W_bestNotAlone 11 = .ok (.iload_n 3, 1) := by decide +kernel
theorem dc_W_bestNotAlone_12 : decode cb_W_bestNotAlone 12 = .ok (.ishl, 1) := by decide +kernel
theorem dc_W_bestNotAlone_13 : decode cb_W_bestNotAlone 13 = .ok (.istore 4, 2) := by decide +kernel
theorem dc_W_bestNotAlone_15 : decode cb_W_bestNotAlone 15 = .ok (.aload_n 1, 1) := by decide +kernel
theorem dc_W_bestNotAlone_16 : decode cb_W_bestNotAlone 16 = .ok (.iload_n 3, 1) := by decide +kernel
theorem dc_W_bestNotAlone_17 : decode cb_W_bestNotAlone 17 = .ok (.invokevirtual 79, 3) := by decide +kernel
theorem dc_W_bestNotAlone_20 : decode cb_W_bestNotAlone 20 = .ok (.aload_n 1, 1) := by decide +kernel
theorem dc_W_bestNotAlone_21 : decode cb_W_bestNotAlone 21 = .ok (.invokevirtual 83, 3) := by decide +kernel
theorem dc_W_bestNotAlone_24 : decode cb_W_bestNotAlone 24 = .ok (.iload 4, 2) := by decide +kernel
theorem dc_W_bestNotAlone_26 : decode cb_W_bestNotAlone 26 = .ok (.isub, 1) := by decide +kernel
theorem dc_W_bestNotAlone_27 : decode cb_W_bestNotAlone 27 = .ok (.if_icmp .ne 23, 3) := by decide +kernel
theorem dc_W_bestNotAlone_30 : decode cb_W_bestNotAlone 30 = .ok (.aload_n 0, 1) := by decide +kernel
theorem dc_W_bestNotAlone_31 : decode cb_W_bestNotAlone 31 = .ok (.getfield 12, 3) := by decide +kernel
theorem dc_W_bestNotAlone_34 : decode cb_W_bestNotAlone 34 = .ok (.aload_n 1, 1) := by decide +kernel
theorem dc_W_bestNotAlone_35 : decode cb_W_bestNotAlone 35 = .ok (.iload_n 2, 1) := by decide +kernel
theorem dc_W_bestNotAlone_36 : decode cb_W_bestNotAlone 36 = .ok (.invokevirtual 86, 3) := by decide +kernel
theorem dc_W_bestNotAlone_39 : decode cb_W_bestNotAlone 39 = .ok (.iload 4, 2) := by decide +kernel
theorem dc_W_bestNotAlone_41 : decode cb_W_bestNotAlone 41 = .ok (.if_icmp .ne 7, 3) := by decide +kernel
theorem dc_W_bestNotAlone_44 : decode cb_W_bestNotAlone 44 = .ok (.iconst (-1), 1) := by decide +kernel
theorem dc_W_bestNotAlone_45 : decode cb_W_bestNotAlone 45 = .ok (.goto 4, 3) := by decide +kernel
theorem dc_W_bestNotAlone_48 : decode cb_W_bestNotAlone 48 = .ok (.iload_n 3, 1) := by decide +kernel
theorem dc_W_bestNotAlone_49 : decode cb_W_bestNotAlone 49 = .ok (.ireturn, 1) := by decide +kernel
theorem dc_W_bestNotAlone_50 : decode cb_W_bestNotAlone 50 = .ok (.iinc 3 1, 3) := by decide +kernel
theorem dc_W_bestNotAlone_53 : decode cb_W_bestNotAlone 53 = .ok (.goto (-51), 3) := by decide +kernel
theorem dc_W_bestNotAlone_56 : decode cb_W_bestNotAlone 56 = .ok (.iconst (-1), 1) := by decide +kernel
theorem dc_W_bestNotAlone_57 : decode cb_W_bestNotAlone 57 = .ok (.ireturn, 1) := by decide +kernel
theorem dc_W_worstAmongWinners_0 : decode cb_W_worstAmongWinners 0 = .ok (.aload_n 1, 1) := by decide +kernel
theorem dc_W_worstAmongWinners_1 : decode cb_W_worstAmongWinners 1 = .ok (.invokevirtual 83, 3) := by decide +kernel
theorem dc_W_worstAmongWinners_4 : decode cb_W_worstAmongWinners 4 = .ok (.istore_n 3, 1) := by decide +kernel
theorem dc_W_worstAmongWinners_5 : decode cb_W_worstAmongWinners 5 = .ok (.iconst 0, 1) := by decide +kernel
theorem dc_W_worstAmongWinners_6 : decode cb_W_worstAmongWinners 6 = .ok (.istore 4, 2) := by decide +kernel
theorem dc_W_worstAmongWinners_8 : decode cb_W_worstAmongWinners 8 = .ok (.iload 4, 2) := by decide +kernel
theorem dc_W_worstAmongWinners_10 : decode cb_W_worstAmongWinners 10 = .ok (.aload_n 1, 1) := by decide +kernel
theorem dc_W_worstAmongWinners_11 : decode cb_W_worstAmongWinners 11 = .ok (.getfield 39, 3) := by decide +kernel
theorem dc_W_worstAmongWinners_14 : decode cb_W_worstAmongWinners 14 = .ok (.if_icmp .ge 23, 3) := by decide +kernel
theorem dc_W_worstAmongWinners_17 : decode cb_W_worstAmongWinners 17 = .ok (.iload_n 3, 1) := by decide +kernel
theorem dc_W_worstAmongWinners_18 : decode cb_W_worstAmongWinners 18 = .ok (.aload_n 1, 1) := by decide +kernel
theorem dc_W_worstAmongWinners_19 : decode cb_W_worstAmongWinners 19 = .ok (.iload 4, 2) := by decide +kernel
theorem dc_W_worstAmongWinners_21 : decode cb_W_worstAmongWinners 21 = .ok (.invokevirtual 79, 3) := by decide +kernel
theorem dc_W_worstAmongWinners_24 : decode cb_W_worstAmongWinners 24 = .ok (.iconst 1, 1) := by decide +kernel
theorem dc_W_worstAmongWinners_25 : decode cb_W_worstAmongWinners 25 = .ok (.iload 4, 2) := by decide +kernel
theorem dc_W_worstAmongWinners_27 : decode cb_W_worstAmongWinners 27 = .ok (.ishl, 1) := by decide +kernel
theorem dc_W_worstAmongWinners_28 : decode cb_W_worstAmongWinners 28 = .ok (.ior, 1) := by decide +kernel
theorem dc_W_worstAmongWinners_29 : decode cb_W_worstAmongWinners 29 = .ok (.iand, 1) := by decide +kernel
theorem dc_W_worstAmongWinners_30 : decode cb_W_worstAmongWinners 30 = .ok (.istore_n 3, 1) := by decide +kernel
theorem dc_W_worstAmongWinners_31 : decode cb_W_worstAmongWinners 31 = .ok (.iinc 4 1, 3) := by decide +kernel
theorem dc_W_worstAmongWinners_34 : decode cb_W_worstAmongWinners 34 = .ok (.goto (-26), 3) := by decide +kernel
theorem dc_W_worstAmongWinners_37 : decode cb_W_worstAmongWinners 37 = .ok (.aload_n 1, 1) := by decide +kernel
theorem dc_W_worstAmongWinners_38 : decode cb_W_worstAmongWinners 38 = .ok (.iload_n 3, 1) := by decide +kernel
theorem dc_W_worstAmongWinners_39 : decode cb_W_worstAmongWinners 39 = .ok (.aload_n 0, 1) := by decide +kernel
theorem dc_W_worstAmongWinners_40 : decode cb_W_worstAmongWinners 40 = .ok (.getfield 12, 3) := by decide +kernel
theorem dc_W_worstAmongWinners_43 : decode cb_W_worstAmongWinners 43 = .ok (.aload_n 1, 1) := by decide +kernel
theorem dc_W_worstAmongWinners_44 : decode cb_W_worstAmongWinners 44 = .ok (.iload_n 2, 1) := by decide +kernel
theorem dc_W_worstAmongWinners_45 : decode cb_W_worstAmongWinners 45 = .ok (.invokevirtual 86, 3) := by decide +kernel
theorem dc_W_worstAmongWinners_48 : decode cb_W_worstAmongWinners 48 = .ok (.iand, 1) := by decide +kernel
theorem dc_W_worstAmongWinners_49 : decode cb_W_worstAmongWinners 49 = .ok (.invokevirtual 89, 3) := by decide +kernel
theorem dc_W_worstAmongWinners_52 : decode cb_W_worstAmongWinners 52 = .ok (.ireturn, 1) := by decide +kernel
theorem dc_W_typeThatHarmsByRaising_0 : decode cb_W_typeThatHarmsByRaising 0 = .ok (.aload_n 0, 1) := by decide +kernel
theorem dc_W_typeThatHarmsByRaising_1 : decode cb_W_typeThatHarmsByRaising 1 = .ok (.getfield 12, 3) := by decide +kernel
theorem dc_W_typeThatHarmsByRaising_4 : decode cb_W_typeThatHarmsByRaising 4 = .ok (.aload_n 1, 1) := by decide +kernel
theorem dc_W_typeThatHarmsByRaising_5 : decode cb_W_typeThatHarmsByRaising 5 = .ok (.iload_n 2, 1) := by decide +kernel
theorem dc_W_typeThatHarmsByRaising_6 : decode cb_W_typeThatHarmsByRaising 6 = .ok (.invokevirtual 35, 3) := by decide +kernel
theorem dc_W_typeThatHarmsByRaising_9 : decode cb_W_typeThatHarmsByRaising 9 = .ok (.istore_n 3, 1) := by decide +kernel
theorem dc_W_typeThatHarmsByRaising_10 : decode cb_W_typeThatHarmsByRaising 10 = .ok (.aload_n 0, 1) := by decide +kernel
theorem dc_W_typeThatHarmsByRaising_11 : decode cb_W_typeThatHarmsByRaising 11 = .ok (.getfield 21, 3) := by decide +kernel
theorem dc_W_typeThatHarmsByRaising_14 : decode cb_W_typeThatHarmsByRaising 14 = .ok (.aload_n 1, 1) := by decide +kernel
theorem dc_W_typeThatHarmsByRaising_15 : decode cb_W_typeThatHarmsByRaising 15 = .ok (.invokevirtual 52, 3) := by decide +kernel
theorem dc_W_typeThatHarmsByRaising_18 : decode cb_W_typeThatHarmsByRaising 18 = .ok (.iconst 0, 1) := by decide +kernel
theorem dc_W_typeThatHarmsByRaising_19 : decode cb_W_typeThatHarmsByRaising 19 = .ok (.istore 4, 2) := by decide +kernel
theorem dc_W_typeThatHarmsByRaising_21 : decode cb_W_typeThatHarmsByRaising 21 = .ok (.iload 4, 2) := by decide +kernel
theorem dc_W_typeThatHarmsByRaising_23 : decode cb_W_typeThatHarmsByRaising 23 = .ok (.aload_n 1, 1) := by decide +kernel
theorem dc_W_typeThatHarmsByRaising_24 : decode cb_W_typeThatHarmsByRaising 24 = .ok (.getfield 92, 3) := by decide +kernel
theorem dc_W_typeThatHarmsByRaising_27 : decode cb_W_typeThatHarmsByRaising 27 = .ok (.if_icmp .ge 81, 3) := by decide +kernel
theorem dc_W_typeThatHarmsByRaising_30 : decode cb_W_typeThatHarmsByRaising 30 = .ok (.aload_n 1, 1) := by decide +kernel
theorem dc_W_typeThatHarmsByRaising_31 : decode cb_W_typeThatHarmsByRaising 31 = .ok (.getfield 32, 3) := by decide +kernel
theorem dc_W_typeThatHarmsByRaising_34 : decode cb_W_typeThatHarmsByRaising 34 = .ok (.iload 4, 2) := by decide +kernel
theorem dc_W_typeThatHarmsByRaising_36 : decode cb_W_typeThatHarmsByRaising 36 = .ok (.iaload, 1) := by decide +kernel
theorem dc_W_typeThatHarmsByRaising_37 : decode cb_W_typeThatHarmsByRaising 37 = .ok (.istore 5, 2) := by decide +kernel
theorem dc_W_typeThatHarmsByRaising_39 : decode cb_W_typeThatHarmsByRaising 39 = .ok (.aload_n 0, 1) := by decide +kernel
theorem dc_W_typeThatHarmsByRaising_40 : decode cb_W_typeThatHarmsByRaising 40 = .ok (.getfield 21, 3) := by decide +kernel
theorem dc_W_typeThatHarmsByRaising_43 : decode cb_W_typeThatHarmsByRaising 43 = .ok (.iload 4, 2) := by decide +kernel
theorem dc_W_typeThatHarmsByRaising_45 : decode cb_W_typeThatHarmsByRaising 45 = .ok (.iload 5, 2) := by decide +kernel
theorem dc_W_typeThatHarmsByRaising_47 : decode cb_W_typeThatHarmsByRaising 47 = .ok (.iload_n 3, 1) := by decide +kernel
theorem dc_W_typeThatHarmsByRaising_48 : decode cb_W_typeThatHarmsByRaising 48 = .ok (.aload_n 1, 1) := by decide +kernel
theorem dc_W_typeThatHarmsByRaising_49 : decode cb_W_typeThatHarmsByRaising 49 = .ok (.getfield 39, 3) := by decide +kernel
theorem dc_W_typeThatHarmsByRaising_52 : decode cb_W_typeThatHarmsByRaising 52 = .ok (.invokestatic 95, 3) := by decide +kernel
theorem dc_W_typeThatHarmsByRaising_55 : decode cb_W_typeThatHarmsByRaising 55 = .ok (.aload_n 1, 1) := by decide +kernel
theorem dc_W_typeThatHarmsByRaising_56 : decode cb_W_typeThatHarmsByRaising 56 = .ok (.getfield 56, 3) := by decide +kernel
theorem dc_W_typeThatHarmsByRaising_59 : decode cb_W_typeThatHarmsByRaising 59 = .ok (.iload 4, 2) := by decide +kernel
theorem dc_W_typeThatHarmsByRaising_61 : decode cb_W_typeThatHarmsByRaising 61 = .ok (.iaload, 1) := by decide +kernel
theorem dc_W_typeThatHarmsByRaising_62 : decode cb_W_typeThatHarmsByRaising 62 = .ok (.invokevirtual 59, 3) := by decide +kernel
theorem dc_W_typeThatHarmsByRaising_65 : decode cb_W_typeThatHarmsByRaising 65 = .ok (.aload_n 0, 1) := by decide +kernel
theorem dc_W_typeThatHarmsByRaising_66 : decode cb_W_typeThatHarmsByRaising 66 = .ok (.getfield 12, 3) := by decide +kernel
theorem dc_W_typeThatHarmsByRaising_69 : decode cb_W_typeThatHarmsByRaising 69 = .ok (.aload_n 0, 1) := by decide +kernel
theorem dc_W_typeThatHarmsByRaising_70 : decode cb_W_typeThatHarmsByRaising 70 = .ok (.getfield 21, 3) := by decide +kernel
theorem dc_W_typeThatHarmsByRaising_73 : decode cb_W_typeThatHarmsByRaising 73 = .ok (.iload_n 2, 1) := by decide +kernel
theorem dc_W_typeThatHarmsByRaising_74 : decode cb_W_typeThatHarmsByRaising 74 = .ok (.invokevirtual 35, 3) := by decide +kernel
theorem dc_W_typeThatHarmsByRaising_77 : decode cb_W_typeThatHarmsByRaising 77 = .ok (.iload_n 3, 1) := by decide +kernel
theorem dc_W_typeThatHarmsByRaising_78 : decode cb_W_typeThatHarmsByRaising 78 = .ok (.if_icmp .eq 6, 3) := by decide +kernel
theorem dc_W_typeThatHarmsByRaising_81 : decode cb_W_typeThatHarmsByRaising 81 = .ok (.iload 4, 2) := by decide +kernel
theorem dc_W_typeThatHarmsByRaising_83 : decode cb_W_typeThatHarmsByRaising 83 = .ok (.ireturn, 1) := by decide +kernel
theorem dc_W_typeThatHarmsByRaising_84 : decode cb_W_typeThatHarmsByRaising 84 = .ok (.aload_n 0, 1) := by decide +kernel
theorem dc_W_typeThatHarmsByRaising_85 : decode cb_W_typeThatHarmsByRaising 85 = .ok (.getfield 21, 3) := by decide +kernel
theorem dc_W_typeThatHarmsByRaising_88 : decode cb_W_typeThatHarmsByRaising 88 = .ok (.iload 4, 2) := by decide +kernel
theorem dc_W_typeThatHarmsByRaising_90 : decode cb_W_typeThatHarmsByRaising 90 = .ok (.iload 5, 2) := by decide +kernel
theorem dc_W_typeThatHarmsByRaising_92 : decode cb_W_typeThatHarmsByRaising 92 = .ok (.aload_n 1, 1) := by decide +kernel
theorem dc_W_typeThatHarmsByRaising_93 : decode cb_W_typeThatHarmsByRaising 93 = .ok (.getfield 56, 3) := by decide +kernel
theorem dc_W_typeThatHarmsByRaising_96 : decode cb_W_typeThatHarmsByRaising 96 = .ok (.iload 4, 2) := by decide +kernel
theorem dc_W_typeThatHarmsByRaising_98 : decode cb_W_typeThatHarmsByRaising 98 = .ok (.iaload, 1) := by decide +kernel
theorem dc_W_typeThatHarmsByRaising_99 : decode cb_W_typeThatHarmsByRaising 99 = .ok (.invokevirtual 59, 3) := by decide +kernel
theorem dc_W_typeThatHarmsByRaising_102 : decode cb_W_typeThatHarmsByRaising 102 = .ok (.iinc 4 1, 3) := by decide +kernel
theorem dc_W_typeThatHarmsByRaising_105 : decode cb_W_typeThatHarmsByRaising 105 = .ok (.goto (-84), 3) := by decide +kernel
theorem dc_W_typeThatHarmsByRaising_108 : decode cb_W_typeThatHarmsByRaising 108 = .ok (.iconst (-1), 1) := by decide +kernel
theorem dc_W_typeThatHarmsByRaising_109 : decode cb_W_typeThatHarmsByRaising 109 = .ok (.ireturn, 1) := by decide +kernel
theorem dc_W_typeThatHarmsByJoining_0 : decode cb_W_typeThatHarmsByJoining 0 = .ok (.aload_n 0, 1) := by decide +kernel
theorem dc_W_typeThatHarmsByJoining_1 : decode cb_W_typeThatHarmsByJoining 1 = .ok (.getfield 12, 3) := by decide +kernel
theorem dc_W_typeThatHarmsByJoining_4 : decode cb_W_typeThatHarmsByJoining 4 = .ok (.aload_n 1, 1) := by decide +kernel
theorem dc_W_typeThatHarmsByJoining_5 : decode cb_W_typeThatHarmsByJoining 5 = .ok (.iload_n 2, 1) := by decide +kernel
theorem dc_W_typeThatHarmsByJoining_6 : decode cb_W_typeThatHarmsByJoining 6 = .ok (.invokevirtual 35, 3) := by decide +kernel
theorem dc_W_typeThatHarmsByJoining_9 : decode cb_W_typeThatHarmsByJoining 9 = .ok (.istore_n 3, 1) := by decide +kernel
theorem dc_W_typeThatHarmsByJoining_10 : decode cb_W_typeThatHarmsByJoining 10 = .ok (.aload_n 0, 1) := by decide +kernel
theorem dc_W_typeThatHarmsByJoining_11 : decode cb_W_typeThatHarmsByJoining 11 = .ok (.getfield 21, 3) := by decide +kernel
theorem dc_W_typeThatHarmsByJoining_14 : decode cb_W_typeThatHarmsByJoining 14 = .ok (.aload_n 1, 1) := by decide +kernel
theorem dc_W_typeThatHarmsByJoining_15 : decode cb_W_typeThatHarmsByJoining 15 = .ok (.invokevirtual 52, 3) := by decide +kernel
theorem dc_W_typeThatHarmsByJoining_18 : decode cb_W_typeThatHarmsByJoining 18 = .ok (.iconst 0, 1) := by decide +kernel
theorem dc_W_typeThatHarmsByJoining_19 : decode cb_W_typeThatHarmsByJoining 19 = .ok (.istore 4, 2) := by decide +kernel
theorem dc_W_typeThatHarmsByJoining_21 : decode cb_W_typeThatHarmsByJoining 21 = .ok (.iload 4, 2) := by decide +kernel
theorem dc_W_typeThatHarmsByJoining_23 : decode cb_W_typeThatHarmsByJoining 23 = .ok (.aload_n 1, 1) := by decide +kernel
theorem dc_W_typeThatHarmsByJoining_24 : decode cb_W_typeThatHarmsByJoining 24 = .ok (.getfield 92, 3) := by decide +kernel
theorem dc_W_typeThatHarmsByJoining_27 : decode cb_W_typeThatHarmsByJoining 27 = .ok (.if_icmp .ge 85, 3) := by decide +kernel
theorem dc_W_typeThatHarmsByJoining_30 : decode cb_W_typeThatHarmsByJoining 30 = .ok (.aload_n 1, 1) := by decide +kernel
theorem dc_W_typeThatHarmsByJoining_31 : decode cb_W_typeThatHarmsByJoining 31 = .ok (.getfield 32, 3) := by decide +kernel
theorem dc_W_typeThatHarmsByJoining_34 : decode cb_W_typeThatHarmsByJoining 34 = .ok (.iload 4, 2) := by decide +kernel
theorem dc_W_typeThatHarmsByJoining_36 : decode cb_W_typeThatHarmsByJoining 36 = .ok (.iaload, 1) := by decide +kernel
theorem dc_W_typeThatHarmsByJoining_37 : decode cb_W_typeThatHarmsByJoining 37 = .ok (.istore 5, 2) := by decide +kernel
theorem dc_W_typeThatHarmsByJoining_39 : decode cb_W_typeThatHarmsByJoining 39 = .ok (.iload 5, 2) := by decide +kernel
theorem dc_W_typeThatHarmsByJoining_41 : decode cb_W_typeThatHarmsByJoining 41 = .ok (.iconst 0, 1) := by decide +kernel
theorem dc_W_typeThatHarmsByJoining_42 : decode cb_W_typeThatHarmsByJoining 42 = .ok (.invokestatic 98, 3) := by decide +kernel
theorem dc_W_typeThatHarmsByJoining_45 : decode cb_W_typeThatHarmsByJoining 45 = .ok (.iload_n 3, 1) := by decide +kernel
theorem dc_W_typeThatHarmsByJoining_46 : decode cb_W_typeThatHarmsByJoining 46 = .ok (.if_icmp .ne 60, 3) := by decide +kernel
theorem dc_W_typeThatHarmsByJoining_49 : decode cb_W_typeThatHarmsByJoining 49 = .ok (.aload_n 0, 1) := by decide +kernel
theorem dc_W_typeThatHarmsByJoining_50 : decode cb_W_typeThatHarmsByJoining 50 = .ok (.getfield 21, 3) := by decide +kernel
theorem dc_W_typeThatHarmsByJoining_53 : decode cb_W_typeThatHarmsByJoining 53 = .ok (.iload 4, 2) := by decide +kernel
theorem dc_W_typeThatHarmsByJoining_55 : decode cb_W_typeThatHarmsByJoining 55 = .ok (.iload 5, 2) := by decide +kernel
theorem dc_W_typeThatHarmsByJoining_57 : decode cb_W_typeThatHarmsByJoining 57 = .ok (.aload_n 1, 1) := by decide +kernel
theorem dc_W_typeThatHarmsByJoining_58 : decode cb_W_typeThatHarmsByJoining 58 = .ok (.getfield 56, 3) := by decide +kernel
theorem dc_W_typeThatHarmsByJoining_61 : decode cb_W_typeThatHarmsByJoining 61 = .ok (.iload 4, 2) := by decide +kernel
theorem dc_W_typeThatHarmsByJoining_63 : decode cb_W_typeThatHarmsByJoining 63 = .ok (.iaload, 1) := by decide +kernel
theorem dc_W_typeThatHarmsByJoining_64 : decode cb_W_typeThatHarmsByJoining 64 = .ok (.iconst 1, 1) := by decide +kernel
theorem dc_W_typeThatHarmsByJoining_65 : decode cb_W_typeThatHarmsByJoining 65 = .ok (.iadd, 1) := by decide +kernel
theorem dc_W_typeThatHarmsByJoining_66 : decode cb_W_typeThatHarmsByJoining 66 = .ok (.invokevirtual 59, 3) := by decide +kernel
theorem dc_W_typeThatHarmsByJoining_69 : decode cb_W_typeThatHarmsByJoining 69 = .ok (.aload_n 0, 1) := by decide +kernel
theorem dc_W_typeThatHarmsByJoining_70 : decode cb_W_typeThatHarmsByJoining 70 = .ok (.getfield 12, 3) := by decide +kernel
theorem dc_W_typeThatHarmsByJoining_73 : decode cb_W_typeThatHarmsByJoining 73 = .ok (.aload_n 0, 1) := by decide +kernel
theorem dc_W_typeThatHarmsByJoining_74 : decode cb_W_typeThatHarmsByJoining 74 = .ok (.getfield 21, 3) := by decide +kernel
theorem dc_W_typeThatHarmsByJoining_77 : decode cb_W_typeThatHarmsByJoining 77 = .ok (.iload_n 2, 1) := by decide +kernel
theorem dc_W_typeThatHarmsByJoining_78 : decode cb_W_typeThatHarmsByJoining 78 = .ok (.invokevirtual 35, 3) := by decide +kernel
theorem dc_W_typeThatHarmsByJoining_81 : decode cb_W_typeThatHarmsByJoining 81 = .ok (.iload_n 3, 1) := by decide +kernel
theorem dc_W_typeThatHarmsByJoining_82 : decode cb_W_typeThatHarmsByJoining 82 = .ok (.if_icmp .eq 6, 3) := by decide +kernel
theorem dc_W_typeThatHarmsByJoining_85 : decode cb_W_typeThatHarmsByJoining 85 = .ok (.iload 4, 2) := by decide +kernel
theorem dc_W_typeThatHarmsByJoining_87 : decode cb_W_typeThatHarmsByJoining 87 = .ok (.ireturn, 1) := by decide +kernel
theorem dc_W_typeThatHarmsByJoining_88 : decode cb_W_typeThatHarmsByJoining 88 = .ok (.aload_n 0, 1) := by decide +kernel
theorem dc_W_typeThatHarmsByJoining_89 : decode cb_W_typeThatHarmsByJoining 89 = .ok (.getfield 21, 3) := by decide +kernel
theorem dc_W_typeThatHarmsByJoining_92 : decode cb_W_typeThatHarmsByJoining 92 = .ok (.iload 4, 2) := by decide +kernel
theorem dc_W_typeThatHarmsByJoining_94 : decode cb_W_typeThatHarmsByJoining 94 = .ok (.iload 5, 2) := by decide +kernel
theorem dc_W_typeThatHarmsByJoining_96 : decode cb_W_typeThatHarmsByJoining 96 = .ok (.aload_n 1, 1) := by decide +kernel
theorem dc_W_typeThatHarmsByJoining_97 : decode cb_W_typeThatHarmsByJoining 97 = .ok (.getfield 56, 3) := by decide +kernel
theorem dc_W_typeThatHarmsByJoining_100 : decode cb_W_typeThatHarmsByJoining 100 = .ok (.iload 4, 2) := by decide +kernel
theorem dc_W_typeThatHarmsByJoining_102 : decode cb_W_typeThatHarmsByJoining 102 = .ok (.iaload, 1) := by decide +kernel
theorem dc_W_typeThatHarmsByJoining_103 : decode cb_W_typeThatHarmsByJoining 103 = .ok (.invokevirtual 59, 3) := by decide +kernel
theorem dc_W_typeThatHarmsByJoining_106 : decode cb_W_typeThatHarmsByJoining 106 = .ok (.iinc 4 1, 3) := by decide +kernel
theorem dc_W_typeThatHarmsByJoining_109 : decode cb_W_typeThatHarmsByJoining 109 = .ok (.goto (-88), 3) := by decide +kernel
theorem dc_W_typeThatHarmsByJoining_112 : decode cb_W_typeThatHarmsByJoining 112 = .ok (.iconst (-1), 1) := by decide +kernel
theorem dc_W_typeThatHarmsByJoining_113 : decode cb_W_typeThatHarmsByJoining 113 = .ok (.ireturn, 1) := by decide +kernel
theorem dc_W_loserThatHarmsByLeaving_0 : decode cb_W_loserThatHarmsByLeaving 0 = .ok (.aload_n 1, 1) := by decide +kernel
theorem dc_W_loserThatHarmsByLeaving_1 : decode cb_W_loserThatHarmsByLeaving 1 = .ok (.getfield 39, 3) := by decide +kernel
theorem dc_W_loserThatHarmsByLeaving_4 : decode cb_W_loserThatHarmsByLeaving 4 = .ok (.iconst 2, 1) := by decide +kernel
theorem dc_W_loserThatHarmsByLeaving_5 : decode cb_W_loserThatHarmsByLeaving 5 = .ok (.if_icmp .gt 5, 3) := by decide +kernel
theorem dc_W_loserThatHarmsByLeaving_8 : decode cb_W_loserThatHarmsByLeaving 8 = .ok (.iconst (-1), 1) := by decide +kernel
theorem dc_W_loserThatHarmsByLeaving_9 : decode cb_W_loserThatHarmsByLeaving 9 = .ok (.ireturn, 1) := by decide +kernel
theorem dc_W_loserThatHarmsByLeaving_10 : decode cb_W_loserThatHarmsByLeaving 10 = .ok (.aload_n 0, 1) := by decide +kernel
theorem dc_W_loserThatHarmsByLeaving_11 : decode cb_W_loserThatHarmsByLeaving 11 = .ok (.getfield 12, 3) := by decide +kernel
theorem dc_W_loserThatHarmsByLeaving_14 : decode cb_W_loserThatHarmsByLeaving 14 = .ok (.aload_n 1, 1) := by decide +kernel
theorem dc_W_loserThatHarmsByLeaving_15 : decode cb_W_loserThatHarmsByLeaving 15 = .ok (.iload_n 2, 1) := by decide +kernel
theorem dc_W_loserThatHarmsByLeaving_16 : decode cb_W_loserThatHarmsByLeaving 16 = .ok (.invokevirtual 86, 3) := by decide +kernel
theorem dc_W_loserThatHarmsByLeaving_19 : decode cb_W_loserThatHarmsByLeaving 19 = .ok (.istore_n 3, 1) := by decide +kernel
theorem dc_W_loserThatHarmsByLeaving_20 : decode cb_W_loserThatHarmsByLeaving 20 = .ok (.aload_n 1, 1) := by decide +kernel
theorem dc_W_loserThatHarmsByLeaving_21 : decode cb_W_loserThatHarmsByLeaving 21 = .ok (.iload_n 3, 1) := by decide +kernel
theorem dc_W_loserThatHarmsByLeaving_22 : decode cb_W_loserThatHarmsByLeaving 22 = .ok (.invokevirtual 89, 3) := by decide +kernel
theorem dc_W_loserThatHarmsByLeaving_25 : decode cb_W_loserThatHarmsByLeaving 25 = .ok (.istore 4, 2) := by decide +kernel
theorem dc_W_loserThatHarmsByLeaving_27 : decode cb_W_loserThatHarmsByLeaving 27 = .ok (.iconst 0, 1) := by decide +kernel
theorem dc_W_loserThatHarmsByLeaving_28 : decode cb_W_loserThatHarmsByLeaving 28 = .ok (.istore 5, 2) := by decide +kernel
theorem dc_W_loserThatHarmsByLeaving_30 : decode cb_W_loserThatHarmsByLeaving 30 = .ok (.iload 5, 2) := by decide +kernel
theorem dc_W_loserThatHarmsByLeaving_32 : decode cb_W_loserThatHarmsByLeaving 32 = .ok (.aload_n 1, 1) := by decide +kernel
theorem dc_W_loserThatHarmsByLeaving_33 : decode cb_W_loserThatHarmsByLeaving 33 = .ok (.getfield 39, 3) := by decide +kernel
theorem dc_W_loserThatHarmsByLeaving_36 : decode cb_W_loserThatHarmsByLeaving 36 = .ok (.if_icmp .ge 53, 3) := by decide +kernel
theorem dc_W_loserThatHarmsByLeaving_39 : decode cb_W_loserThatHarmsByLeaving 39 = .ok (.iload_n 3, 1) := by decide +kernel
theorem dc_W_loserThatHarmsByLeaving_40 : decode cb_W_loserThatHarmsByLeaving 40 = .ok (.iload 5, 2) := by decide +kernel
theorem dc_W_loserThatHarmsByLeaving_42 : decode cb_W_loserThatHarmsByLeaving 42 = .ok (.ishr, 1) := by decide +kernel
theorem dc_W_loserThatHarmsByLeaving_43 : decode cb_W_loserThatHarmsByLeaving 43 = .ok (.iconst 1, 1) := by decide +kernel
theorem dc_W_loserThatHarmsByLeaving_44 : decode cb_W_loserThatHarmsByLeaving 44 = .ok (.iand, 1) := by decide +kernel
theorem dc_W_loserThatHarmsByLeaving_45 : decode cb_W_loserThatHarmsByLeaving 45 = .ok (.ifCond .ne 38, 3) := by decide +kernel
theorem dc_W_loserThatHarmsByLeaving_48 : decode cb_W_loserThatHarmsByLeaving 48 = .ok (.aload_n 0, 1) := by decide +kernel
theorem dc_W_loserThatHarmsByLeaving_49 : decode cb_W_loserThatHarmsByLeaving 49 = .ok (.getfield 21, 3) := by decide +kernel
theorem dc_W_loserThatHarmsByLeaving_52 : decode cb_W_loserThatHarmsByLeaving 52 = .ok (.aload_n 1, 1) := by decide +kernel
theorem dc_W_loserThatHarmsByLeaving_53 : decode cb_W_loserThatHarmsByLeaving 53 = .ok (.iload 5, 2) := by decide +kernel
theorem dc_W_loserThatHarmsByLeaving_55 : decode cb_W_loserThatHarmsByLeaving 55 = .ok (.invokevirtual 101, 3) := by decide +kernel
theorem dc_W_loserThatHarmsByLeaving_58 : decode cb_W_loserThatHarmsByLeaving 58 = .ok (.aload_n 0, 1) := by decide +kernel
theorem dc_W_loserThatHarmsByLeaving_59 : decode cb_W_loserThatHarmsByLeaving 59 = .ok (.getfield 12, 3) := by decide +kernel
theorem dc_W_loserThatHarmsByLeaving_62 : decode cb_W_loserThatHarmsByLeaving 62 = .ok (.aload_n 0, 1) := by decide +kernel
theorem dc_W_loserThatHarmsByLeaving_63 : decode cb_W_loserThatHarmsByLeaving 63 = .ok (.getfield 21, 3) := by decide +kernel
theorem dc_W_loserThatHarmsByLeaving_66 : decode cb_W_loserThatHarmsByLeaving 66 = .ok (.iload_n 2, 1) := by decide +kernel
theorem dc_W_loserThatHarmsByLeaving_67 : decode cb_W_loserThatHarmsByLeaving 67 = .ok (.invokevirtual 35, 3) := by decide +kernel
theorem dc_W_loserThatHarmsByLeaving_70 : decode cb_W_loserThatHarmsByLeaving 70 = .ok (.iload 4, 2) := by decide +kernel
theorem dc_W_loserThatHarmsByLeaving_72 : decode cb_W_loserThatHarmsByLeaving 72 = .ok (.iload 5, 2) := by decide +kernel
theorem dc_W_loserThatHarmsByLeaving_74 : decode cb_W_loserThatHarmsByLeaving 74 = .ok (.invokestatic 105, 3) := by decide +kernel
theorem dc_W_loserThatHarmsByLeaving_77 : decode cb_W_loserThatHarmsByLeaving 77 = .ok (.if_icmp .eq 6, 3) := by decide +kernel
theorem dc_W_loserThatHarmsByLeaving_80 : decode cb_W_loserThatHarmsByLeaving 80 = .ok (.iload 5, 2) := by decide +kernel
theorem dc_W_loserThatHarmsByLeaving_82 : decode cb_W_loserThatHarmsByLeaving 82 = .ok (.ireturn, 1) := by decide +kernel
theorem dc_W_loserThatHarmsByLeaving_83 : decode cb_W_loserThatHarmsByLeaving 83 = .ok (.iinc 5 1, 3) := by decide +kernel
theorem dc_W_loserThatHarmsByLeaving_86 : decode cb_W_loserThatHarmsByLeaving 86 = .ok (.goto (-56), 3) := by decide +kernel
theorem dc_W_loserThatHarmsByLeaving_89 : decode cb_W_loserThatHarmsByLeaving 89 = .ok (.iconst (-1), 1) := by decide +kernel
theorem dc_W_loserThatHarmsByLeaving_90 : decode cb_W_loserThatHarmsByLeaving 90 = .ok (.ireturn, 1) := by decide +kernel
theorem dc_L_candidates_0 : decode cb_L_candidates 0 = .ok (.aload_n 2, 1) := by decide +kernel
theorem dc_L_candidates_1 : decode cb_L_candidates 1 = .ok (.iconst 0, 1) := by decide +kernel
theorem dc_L_candidates_2 : decode cb_L_candidates 2 = .ok (.aload_n 0, 1) := by decide +kernel
theorem dc_L_candidates_3 : decode cb_L_candidates 3 = .ok (.iload_n 1, 1) := by decide +kernel
theorem dc_L_candidates_4 : decode cb_L_candidates 4 = .ok (.invokevirtual 7, 3) := by decide +kernel
theorem dc_L_candidates_7 : decode cb_L_candidates 7 = .ok (.i2l, 1) := by decide +kernel
theorem dc_L_candidates_8 : decode cb_L_candidates 8 = .ok (.lastore, 1) := by decide +kernel
theorem dc_L_candidates_9 : decode cb_L_candidates 9 = .ok (.goto 6, 3) := by decide +kernel
theorem dc_L_candidates_12 : decode cb_L_candidates 12 = .ok (.astore_n 3, 1) := by decide +kernel
theorem dc_L_candidates_13 : decode cb_L_candidates 13 = .ok (.iconst 1, 1) := by decide +kernel
theorem dc_L_candidates_14 : decode cb_L_candidates 14 = .ok (.ireturn, 1) := by decide +kernel
theorem dc_L_candidates_15 : decode cb_L_candidates 15 = .ok (.iconst 0, 1) := by decide +kernel
theorem dc_L_candidates_16 : decode cb_L_candidates 16 = .ok (.ireturn, 1) := by decide +kernel
theorem dc_L_ballot_0 : decode cb_L_ballot 0 = .ok (.aload_n 3, 1) := by decide +kernel
theorem dc_L_ballot_1 : decode cb_L_ballot 1 = .ok (.iconst 0, 1) := by decide +kernel
theorem dc_L_ballot_2 : decode cb_L_ballot 2 = .ok (.aload_n 0, 1) := by decide +kernel
theorem dc_L_ballot_3 : decode cb_L_ballot 3 = .ok (.iload_n 1, 1) := by decide +kernel
theorem dc_L_ballot_4 : decode cb_L_ballot 4 = .ok (.iload_n 2, 1) := by decide +kernel
theorem dc_L_ballot_5 : decode cb_L_ballot 5 = .ok (.invokevirtual 15, 3) := by decide +kernel
theorem dc_L_ballot_8 : decode cb_L_ballot 8 = .ok (.i2l, 1) := by decide +kernel
theorem dc_L_ballot_9 : decode cb_L_ballot 9 = .ok (.lastore, 1) := by decide +kernel
theorem dc_L_ballot_10 : decode cb_L_ballot 10 = .ok (.goto 11, 3) := by decide +kernel
theorem dc_L_ballot_13 : decode cb_L_ballot 13 = .ok (.astore 4, 2) := by decide +kernel
theorem dc_L_ballot_15 : decode cb_L_ballot 15 = .ok (.iconst 1, 1) := by decide +kernel
theorem dc_L_ballot_16 : decode cb_L_ballot 16 = .ok (.ireturn, 1) := by decide +kernel
theorem dc_L_ballot_17 : decode cb_L_ballot 17 = .ok (.astore 4, 2) := by decide +kernel
theorem dc_L_ballot_19 : decode cb_L_ballot 19 = .ok (.iconst 2, 1) := by decide +kernel
theorem dc_L_ballot_20 : decode cb_L_ballot 20 = .ok (.ireturn, 1) := by decide +kernel
theorem dc_L_ballot_21 : decode cb_L_ballot 21 = .ok (.iconst 0, 1) := by decide +kernel
theorem dc_L_ballot_22 : decode cb_L_ballot 22 = .ok (.ireturn, 1) := by decide +kernel
theorem dc_L_amount_0 : decode cb_L_amount 0 = .ok (.aload_n 3, 1) := by decide +kernel
theorem dc_L_amount_1 : decode cb_L_amount 1 = .ok (.iconst 0, 1) := by decide +kernel
theorem dc_L_amount_2 : decode cb_L_amount 2 = .ok (.aload_n 0, 1) := by decide +kernel
theorem dc_L_amount_3 : decode cb_L_amount 3 = .ok (.iload_n 1, 1) := by decide +kernel
theorem dc_L_amount_4 : decode cb_L_amount 4 = .ok (.iload_n 2, 1) := by decide +kernel
theorem dc_L_amount_5 : decode cb_L_amount 5 = .ok (.invokevirtual 21, 3) := by decide +kernel
theorem dc_L_amount_8 : decode cb_L_amount 8 = .ok (.i2l, 1) := by decide +kernel
theorem dc_L_amount_9 : decode cb_L_amount 9 = .ok (.lastore, 1) := by decide +kernel
theorem dc_L_amount_10 : decode cb_L_amount 10 = .ok (.goto 11, 3) := by decide +kernel
theorem dc_L_amount_13 : decode cb_L_amount 13 = .ok (.astore 4, 2) := by decide +kernel
theorem dc_L_amount_15 : decode cb_L_amount 15 = .ok (.iconst 1, 1) := by decide +kernel
theorem dc_L_amount_16 : decode cb_L_amount 16 = .ok (.ireturn, 1) := by decide +kernel
theorem dc_L_amount_17 : decode cb_L_amount 17 = .ok (.astore 4, 2) := by decide +kernel
theorem dc_L_amount_19 : decode cb_L_amount 19 = .ok (.iconst 2, 1) := by decide +kernel
theorem dc_L_amount_20 : decode cb_L_amount 20 = .ok (.ireturn, 1) := by decide +kernel
theorem dc_L_amount_21 : decode cb_L_amount 21 = .ok (.iconst 0, 1) := by decide +kernel
theorem dc_L_amount_22 : decode cb_L_amount 22 = .ok (.ireturn, 1) := by decide +kernel
theorem dc_L_drop_0 : decode cb_L_drop 0 = .ok (.aload_n 2, 1) := by decide +kernel
theorem dc_L_drop_1 : decode cb_L_drop 1 = .ok (.iconst 0, 1) := by decide +kernel
theorem dc_L_drop_2 : decode cb_L_drop 2 = .ok (.aload_n 0, 1) := by decide +kernel
theorem dc_L_drop_3 : decode cb_L_drop 3 = .ok (.iload_n 1, 1) := by decide +kernel
theorem dc_L_drop_4 : decode cb_L_drop 4 = .ok (.invokevirtual 26, 3) := by decide +kernel
theorem dc_L_drop_7 : decode cb_L_drop 7 = .ok (.i2l, 1) := by decide +kernel
theorem dc_L_drop_8 : decode cb_L_drop 8 = .ok (.lastore, 1) := by decide +kernel
theorem dc_L_drop_9 : decode cb_L_drop 9 = .ok (.goto 6, 3) := by decide +kernel
theorem dc_L_drop_12 : decode cb_L_drop 12 = .ok (.astore_n 3, 1) := by decide +kernel
theorem dc_L_drop_13 : decode cb_L_drop 13 = .ok (.iconst 1, 1) := by decide +kernel
theorem dc_L_drop_14 : decode cb_L_drop 14 = .ok (.ireturn, 1) := by decide +kernel
theorem dc_L_drop_15 : decode cb_L_drop 15 = .ok (.iconst 0, 1) := by decide +kernel
theorem dc_L_drop_16 : decode cb_L_drop 16 = .ok (.ireturn, 1) := by decide +kernel
theorem dc_L_tieOrder_0 : decode cb_L_tieOrder 0 = .ok (.aload_n 2, 1) := by decide +kernel
theorem dc_L_tieOrder_1 : decode cb_L_tieOrder 1 = .ok (.iconst 0, 1) := by decide +kernel
theorem dc_L_tieOrder_2 : decode cb_L_tieOrder 2 = .ok (.aload_n 0, 1) := by decide +kernel
theorem dc_L_tieOrder_3 : decode cb_L_tieOrder 3 = .ok (.iload_n 1, 1) := by decide +kernel
theorem dc_L_tieOrder_4 : decode cb_L_tieOrder 4 = .ok (.invokevirtual 29, 3) := by decide +kernel
theorem dc_L_tieOrder_7 : decode cb_L_tieOrder 7 = .ok (.i2l, 1) := by decide +kernel
theorem dc_L_tieOrder_8 : decode cb_L_tieOrder 8 = .ok (.lastore, 1) := by decide +kernel
theorem dc_L_tieOrder_9 : decode cb_L_tieOrder 9 = .ok (.goto 6, 3) := by decide +kernel
theorem dc_L_tieOrder_12 : decode cb_L_tieOrder 12 = .ok (.astore_n 3, 1) := by decide +kernel
theorem dc_L_tieOrder_13 : decode cb_L_tieOrder 13 = .ok (.iconst 1, 1) := by decide +kernel
theorem dc_L_tieOrder_14 : decode cb_L_tieOrder 14 = .ok (.ireturn, 1) := by decide +kernel
theorem dc_L_tieOrder_15 : decode cb_L_tieOrder 15 = .ok (.iconst 0, 1) := by decide +kernel
theorem dc_L_tieOrder_16 : decode cb_L_tieOrder 16 = .ok (.ireturn, 1) := by decide +kernel
theorem dc_L_agenda_0 : decode cb_L_agenda 0 = .ok (.aload_n 2, 1) := by decide +kernel
theorem dc_L_agenda_1 : decode cb_L_agenda 1 = .ok (.iconst 0, 1) := by decide +kernel
theorem dc_L_agenda_2 : decode cb_L_agenda 2 = .ok (.aload_n 0, 1) := by decide +kernel
theorem dc_L_agenda_3 : decode cb_L_agenda 3 = .ok (.iload_n 1, 1) := by decide +kernel
theorem dc_L_agenda_4 : decode cb_L_agenda 4 = .ok (.invokevirtual 32, 3) := by decide +kernel
theorem dc_L_agenda_7 : decode cb_L_agenda 7 = .ok (.i2l, 1) := by decide +kernel
theorem dc_L_agenda_8 : decode cb_L_agenda 8 = .ok (.lastore, 1) := by decide +kernel
theorem dc_L_agenda_9 : decode cb_L_agenda 9 = .ok (.goto 6, 3) := by decide +kernel
theorem dc_L_agenda_12 : decode cb_L_agenda 12 = .ok (.astore_n 3, 1) := by decide +kernel
theorem dc_L_agenda_13 : decode cb_L_agenda 13 = .ok (.iconst 1, 1) := by decide +kernel
theorem dc_L_agenda_14 : decode cb_L_agenda 14 = .ok (.ireturn, 1) := by decide +kernel
theorem dc_L_agenda_15 : decode cb_L_agenda 15 = .ok (.iconst 0, 1) := by decide +kernel
theorem dc_L_agenda_16 : decode cb_L_agenda 16 = .ok (.ireturn, 1) := by decide +kernel
theorem dc_L_weight_0 : decode cb_L_weight 0 = .ok (.aload_n 3, 1) := by decide +kernel
theorem dc_L_weight_1 : decode cb_L_weight 1 = .ok (.iconst 0, 1) := by decide +kernel
theorem dc_L_weight_2 : decode cb_L_weight 2 = .ok (.aload_n 0, 1) := by decide +kernel
theorem dc_L_weight_3 : decode cb_L_weight 3 = .ok (.iload_n 1, 1) := by decide +kernel
theorem dc_L_weight_4 : decode cb_L_weight 4 = .ok (.iload_n 2, 1) := by decide +kernel
theorem dc_L_weight_5 : decode cb_L_weight 5 = .ok (.invokevirtual 35, 3) := by decide +kernel
theorem dc_L_weight_8 : decode cb_L_weight 8 = .ok (.i2l, 1) := by decide +kernel
theorem dc_L_weight_9 : decode cb_L_weight 9 = .ok (.lastore, 1) := by decide +kernel
theorem dc_L_weight_10 : decode cb_L_weight 10 = .ok (.goto 11, 3) := by decide +kernel
theorem dc_L_weight_13 : decode cb_L_weight 13 = .ok (.astore 4, 2) := by decide +kernel
theorem dc_L_weight_15 : decode cb_L_weight 15 = .ok (.iconst 1, 1) := by decide +kernel
theorem dc_L_weight_16 : decode cb_L_weight 16 = .ok (.ireturn, 1) := by decide +kernel
theorem dc_L_weight_17 : decode cb_L_weight 17 = .ok (.astore 4, 2) := by decide +kernel
theorem dc_L_weight_19 : decode cb_L_weight 19 = .ok (.iconst 2, 1) := by decide +kernel
theorem dc_L_weight_20 : decode cb_L_weight 20 = .ok (.ireturn, 1) := by decide +kernel
end
section
theorem dc_L_weight_21 : decode cb_L_weight 21 = .ok (.iconst 0, 1) := by decide +kernel
theorem dc_L_weight_22 : decode cb_L_weight 22 = .ok (.ireturn, 1) := by decide +kernel
theorem dc_L_winners_0 : decode cb_L_winners 0 = .ok (.aload_n 2, 1) := by decide +kernel
theorem dc_L_winners_1 : decode cb_L_winners 1 = .ok (.iconst 0, 1) := by decide +kernel
theorem dc_L_winners_2 : decode cb_L_winners 2 = .ok (.aload_n 0, 1) := by decide +kernel
theorem dc_L_winners_3 : decode cb_L_winners 3 = .ok (.iload_n 1, 1) := by decide +kernel
theorem dc_L_winners_4 : decode cb_L_winners 4 = .ok (.invokevirtual 38, 3) := by decide +kernel
theorem dc_L_winners_7 : decode cb_L_winners 7 = .ok (.i2l, 1) := by decide +kernel
theorem dc_L_winners_8 : decode cb_L_winners 8 = .ok (.lastore, 1) := by decide +kernel
theorem dc_L_winners_9 : decode cb_L_winners 9 = .ok (.goto 6, 3) := by decide +kernel
theorem dc_L_winners_12 : decode cb_L_winners 12 = .ok (.astore_n 3, 1) := by decide +kernel
theorem dc_L_winners_13 : decode cb_L_winners 13 = .ok (.iconst 1, 1) := by decide +kernel
theorem dc_L_winners_14 : decode cb_L_winners 14 = .ok (.ireturn, 1) := by decide +kernel
theorem dc_L_winners_15 : decode cb_L_winners 15 = .ok (.iconst 0, 1) := by decide +kernel
theorem dc_L_winners_16 : decode cb_L_winners 16 = .ok (.ireturn, 1) := by decide +kernel
theorem dc_L_winner_0 : decode cb_L_winner 0 = .ok (.aload_n 2, 1) := by decide +kernel
theorem dc_L_winner_1 : decode cb_L_winner 1 = .ok (.iconst 0, 1) := by decide +kernel
theorem dc_L_winner_2 : decode cb_L_winner 2 = .ok (.aload_n 0, 1) := by decide +kernel
theorem dc_L_winner_3 : decode cb_L_winner 3 = .ok (.iload_n 1, 1) := by decide +kernel
theorem dc_L_winner_4 : decode cb_L_winner 4 = .ok (.invokevirtual 41, 3) := by decide +kernel
theorem dc_L_winner_7 : decode cb_L_winner 7 = .ok (.i2l, 1) := by decide +kernel
theorem dc_L_winner_8 : decode cb_L_winner 8 = .ok (.lastore, 1) := by decide +kernel
theorem dc_L_winner_9 : decode cb_L_winner 9 = .ok (.goto 6, 3) := by decide +kernel
theorem dc_L_winner_12 : decode cb_L_winner 12 = .ok (.astore_n 3, 1) := by decide +kernel
theorem dc_L_winner_13 : decode cb_L_winner 13 = .ok (.iconst 1, 1) := by decide +kernel
theorem dc_L_winner_14 : decode cb_L_winner 14 = .ok (.ireturn, 1) := by decide +kernel
theorem dc_L_winner_15 : decode cb_L_winner 15 = .ok (.iconst 0, 1) := by decide +kernel
theorem dc_L_winner_16 : decode cb_L_winner 16 = .ok (.ireturn, 1) := by decide +kernel
theorem dc_L_score_0 : decode cb_L_score 0 = .ok (.aload_n 3, 1) := by decide +kernel
theorem dc_L_score_1 : decode cb_L_score 1 = .ok (.iconst 0, 1) := by decide +kernel
theorem dc_L_score_2 : decode cb_L_score 2 = .ok (.aload_n 0, 1) := by decide +kernel
theorem dc_L_score_3 : decode cb_L_score 3 = .ok (.iload_n 1, 1) := by decide +kernel
theorem dc_L_score_4 : decode cb_L_score 4 = .ok (.iload_n 2, 1) := by decide +kernel
theorem dc_L_score_5 : decode cb_L_score 5 = .ok (.invokevirtual 44, 3) := by decide +kernel
theorem dc_L_score_8 : decode cb_L_score 8 = .ok (.lastore, 1) := by decide +kernel
theorem dc_L_score_9 : decode cb_L_score 9 = .ok (.goto 11, 3) := by decide +kernel
theorem dc_L_score_12 : decode cb_L_score 12 = .ok (.astore 4, 2) := by decide +kernel
theorem dc_L_score_14 : decode cb_L_score 14 = .ok (.iconst 1, 1) := by decide +kernel
theorem dc_L_score_15 : decode cb_L_score 15 = .ok (.ireturn, 1) := by decide +kernel
theorem dc_L_score_16 : decode cb_L_score 16 = .ok (.astore 4, 2) := by decide +kernel
theorem dc_L_score_18 : decode cb_L_score 18 = .ok (.iconst 2, 1) := by decide +kernel
theorem dc_L_score_19 : decode cb_L_score 19 = .ok (.ireturn, 1) := by decide +kernel
theorem dc_L_score_20 : decode cb_L_score 20 = .ok (.iconst 0, 1) := by decide +kernel
theorem dc_L_score_21 : decode cb_L_score 21 = .ok (.ireturn, 1) := by decide +kernel
theorem dc_L_pair_0 : decode cb_L_pair 0 = .ok (.aload_n 3, 1) := by decide +kernel
theorem dc_L_pair_1 : decode cb_L_pair 1 = .ok (.iconst 0, 1) := by decide +kernel
theorem dc_L_pair_2 : decode cb_L_pair 2 = .ok (.aload_n 0, 1) := by decide +kernel
theorem dc_L_pair_3 : decode cb_L_pair 3 = .ok (.iload_n 1, 1) := by decide +kernel
theorem dc_L_pair_4 : decode cb_L_pair 4 = .ok (.iload_n 2, 1) := by decide +kernel
theorem dc_L_pair_5 : decode cb_L_pair 5 = .ok (.invokevirtual 48, 3) := by decide +kernel
theorem dc_L_pair_8 : decode cb_L_pair 8 = .ok (.i2l, 1) := by decide +kernel
theorem dc_L_pair_9 : decode cb_L_pair 9 = .ok (.lastore, 1) := by decide +kernel
theorem dc_L_pair_10 : decode cb_L_pair 10 = .ok (.goto 7, 3) := by decide +kernel
theorem dc_L_pair_13 : decode cb_L_pair 13 = .ok (.astore 4, 2) := by decide +kernel
theorem dc_L_pair_15 : decode cb_L_pair 15 = .ok (.iconst 1, 1) := by decide +kernel
theorem dc_L_pair_16 : decode cb_L_pair 16 = .ok (.ireturn, 1) := by decide +kernel
theorem dc_L_pair_17 : decode cb_L_pair 17 = .ok (.iconst 0, 1) := by decide +kernel
theorem dc_L_pair_18 : decode cb_L_pair 18 = .ok (.ireturn, 1) := by decide +kernel
theorem dc_L_path_0 : decode cb_L_path 0 = .ok (.aload_n 3, 1) := by decide +kernel
theorem dc_L_path_1 : decode cb_L_path 1 = .ok (.iconst 0, 1) := by decide +kernel
theorem dc_L_path_2 : decode cb_L_path 2 = .ok (.aload_n 0, 1) := by decide +kernel
theorem dc_L_path_3 : decode cb_L_path 3 = .ok (.iload_n 1, 1) := by decide +kernel
theorem dc_L_path_4 : decode cb_L_path 4 = .ok (.iload_n 2, 1) := by decide +kernel
theorem dc_L_path_5 : decode cb_L_path 5 = .ok (.invokevirtual 51, 3) := by decide +kernel
theorem dc_L_path_8 : decode cb_L_path 8 = .ok (.i2l, 1) := by decide +kernel
theorem dc_L_path_9 : decode cb_L_path 9 = .ok (.lastore, 1) := by decide +kernel
theorem dc_L_path_10 : decode cb_L_path 10 = .ok (.goto 7, 3) := by decide +kernel
theorem dc_L_path_13 : decode cb_L_path 13 = .ok (.astore 4, 2) := by decide +kernel
theorem dc_L_path_15 : decode cb_L_path 15 = .ok (.iconst 1, 1) := by decide +kernel
theorem dc_L_path_16 : decode cb_L_path 16 = .ok (.ireturn, 1) := by decide +kernel
theorem dc_L_path_17 : decode cb_L_path 17 = .ok (.iconst 0, 1) := by decide +kernel
theorem dc_L_path_18 : decode cb_L_path 18 = .ok (.ireturn, 1) := by decide +kernel
theorem dc_L_step_0 : decode cb_L_step 0 = .ok (.aload_n 2, 1) := by decide +kernel
theorem dc_L_step_1 : decode cb_L_step 1 = .ok (.iconst 0, 1) := by decide +kernel
theorem dc_L_step_2 : decode cb_L_step 2 = .ok (.aload_n 0, 1) := by decide +kernel
theorem dc_L_step_3 : decode cb_L_step 3 = .ok (.iload_n 1, 1) := by decide +kernel
theorem dc_L_step_4 : decode cb_L_step 4 = .ok (.invokevirtual 54, 3) := by decide +kernel
theorem dc_L_step_7 : decode cb_L_step 7 = .ok (.i2l, 1) := by decide +kernel
theorem dc_L_step_8 : decode cb_L_step 8 = .ok (.lastore, 1) := by decide +kernel
theorem dc_L_step_9 : decode cb_L_step 9 = .ok (.goto 6, 3) := by decide +kernel
theorem dc_L_step_12 : decode cb_L_step 12 = .ok (.astore_n 3, 1) := by decide +kernel
theorem dc_L_step_13 : decode cb_L_step 13 = .ok (.iconst 1, 1) := by decide +kernel
theorem dc_L_step_14 : decode cb_L_step 14 = .ok (.ireturn, 1) := by decide +kernel
theorem dc_L_step_15 : decode cb_L_step 15 = .ok (.iconst 0, 1) := by decide +kernel
theorem dc_L_step_16 : decode cb_L_step 16 = .ok (.ireturn, 1) := by decide +kernel
theorem dc_L_change_0 : decode cb_L_change 0 = .ok (.aload 4, 2) := by decide +kernel
theorem dc_L_change_2 : decode cb_L_change 2 = .ok (.iconst 0, 1) := by decide +kernel
theorem dc_L_change_3 : decode cb_L_change 3 = .ok (.aload_n 0, 1) := by decide +kernel
theorem dc_L_change_4 : decode cb_L_change 4 = .ok (.iload_n 1, 1) := by decide +kernel
theorem dc_L_change_5 : decode cb_L_change 5 = .ok (.iload_n 2, 1) := by decide +kernel
theorem dc_L_change_6 : decode cb_L_change 6 = .ok (.iload_n 3, 1) := by decide +kernel
theorem dc_L_change_7 : decode cb_L_change 7 = .ok (.invokevirtual 57, 3) := by decide +kernel
theorem dc_L_change_10 : decode cb_L_change 10 = .ok (.i2l, 1) := by decide +kernel
theorem dc_L_change_11 : decode cb_L_change 11 = .ok (.lastore, 1) := by decide +kernel
theorem dc_L_change_12 : decode cb_L_change 12 = .ok (.goto 11, 3) := by decide +kernel
theorem dc_L_change_15 : decode cb_L_change 15 = .ok (.astore 5, 2) := by decide +kernel
theorem dc_L_change_17 : decode cb_L_change 17 = .ok (.iconst 1, 1) := by decide +kernel
theorem dc_L_change_18 : decode cb_L_change 18 = .ok (.ireturn, 1) := by decide +kernel
theorem dc_L_change_19 : decode cb_L_change 19 = .ok (.astore 5, 2) := by decide +kernel
theorem dc_L_change_21 : decode cb_L_change 21 = .ok (.iconst 2, 1) := by decide +kernel
theorem dc_L_change_22 : decode cb_L_change 22 = .ok (.ireturn, 1) := by decide +kernel
theorem dc_L_change_23 : decode cb_L_change 23 = .ok (.iconst 0, 1) := by decide +kernel
theorem dc_L_change_24 : decode cb_L_change 24 = .ok (.ireturn, 1) := by decide +kernel
theorem dc_L_property_0 : decode cb_L_property 0 = .ok (.aload_n 3, 1) := by decide +kernel
theorem dc_L_property_1 : decode cb_L_property 1 = .ok (.iconst 0, 1) := by decide +kernel
theorem dc_L_property_2 : decode cb_L_property 2 = .ok (.aload_n 0, 1) := by decide +kernel
theorem dc_L_property_3 : decode cb_L_property 3 = .ok (.iload_n 1, 1) := by decide +kernel
theorem dc_L_property_4 : decode cb_L_property 4 = .ok (.iload_n 2, 1) := by decide +kernel
theorem dc_L_property_5 : decode cb_L_property 5 = .ok (.invokevirtual 61, 3) := by decide +kernel
theorem dc_L_property_8 : decode cb_L_property 8 = .ok (.ifCond .eq 7, 3) := by decide +kernel
theorem dc_L_property_11 : decode cb_L_property 11 = .ok (.lconst 1, 1) := by decide +kernel
theorem dc_L_property_12 : decode cb_L_property 12 = .ok (.goto 4, 3) := by decide +kernel
theorem dc_L_property_15 : decode cb_L_property 15 = .ok (.lconst 0, 1) := by decide +kernel
theorem dc_L_property_16 : decode cb_L_property 16 = .ok (.lastore, 1) := by decide +kernel
theorem dc_L_property_17 : decode cb_L_property 17 = .ok (.goto 7, 3) := by decide +kernel
theorem dc_L_property_20 : decode cb_L_property 20 = .ok (.astore 4, 2) := by decide +kernel
theorem dc_L_property_22 : decode cb_L_property 22 = .ok (.iconst 1, 1) := by decide +kernel
theorem dc_L_property_23 : decode cb_L_property 23 = .ok (.ireturn, 1) := by decide +kernel
theorem dc_L_property_24 : decode cb_L_property 24 = .ok (.iconst 0, 1) := by decide +kernel
theorem dc_L_property_25 : decode cb_L_property 25 = .ok (.ireturn, 1) := by decide +kernel
theorem dc_L_circle_0 : decode cb_L_circle 0 = .ok (.aload_n 2, 1) := by decide +kernel
theorem dc_L_circle_1 : decode cb_L_circle 1 = .ok (.iconst 0, 1) := by decide +kernel
theorem dc_L_circle_2 : decode cb_L_circle 2 = .ok (.aload_n 0, 1) := by decide +kernel
theorem dc_L_circle_3 : decode cb_L_circle 3 = .ok (.iload_n 1, 1) := by decide +kernel
theorem dc_L_circle_4 : decode cb_L_circle 4 = .ok (.invokevirtual 65, 3) := by decide +kernel
theorem dc_L_circle_7 : decode cb_L_circle 7 = .ok (.i2l, 1) := by decide +kernel
theorem dc_L_circle_8 : decode cb_L_circle 8 = .ok (.lastore, 1) := by decide +kernel
theorem dc_L_circle_9 : decode cb_L_circle 9 = .ok (.goto 6, 3) := by decide +kernel
theorem dc_L_circle_12 : decode cb_L_circle 12 = .ok (.astore_n 3, 1) := by decide +kernel
theorem dc_L_circle_13 : decode cb_L_circle 13 = .ok (.iconst 1, 1) := by decide +kernel
theorem dc_L_circle_14 : decode cb_L_circle 14 = .ok (.ireturn, 1) := by decide +kernel
theorem dc_L_circle_15 : decode cb_L_circle 15 = .ok (.iconst 0, 1) := by decide +kernel
theorem dc_L_circle_16 : decode cb_L_circle 16 = .ok (.ireturn, 1) := by decide +kernel
theorem dc_L_clones_0 : decode cb_L_clones 0 = .ok (.aload_n 2, 1) := by decide +kernel
theorem dc_L_clones_1 : decode cb_L_clones 1 = .ok (.iconst 0, 1) := by decide +kernel
theorem dc_L_clones_2 : decode cb_L_clones 2 = .ok (.aload_n 0, 1) := by decide +kernel
theorem dc_L_clones_3 : decode cb_L_clones 3 = .ok (.iload_n 1, 1) := by decide +kernel
theorem dc_L_clones_4 : decode cb_L_clones 4 = .ok (.invokevirtual 68, 3) := by decide +kernel
theorem dc_L_clones_7 : decode cb_L_clones 7 = .ok (.ifCond .eq 7, 3) := by decide +kernel
theorem dc_L_clones_10 : decode cb_L_clones 10 = .ok (.lconst 1, 1) := by decide +kernel
theorem dc_L_clones_11 : decode cb_L_clones 11 = .ok (.goto 4, 3) := by decide +kernel
theorem dc_L_clones_14 : decode cb_L_clones 14 = .ok (.lconst 0, 1) := by decide +kernel
theorem dc_L_clones_15 : decode cb_L_clones 15 = .ok (.lastore, 1) := by decide +kernel
theorem dc_L_clones_16 : decode cb_L_clones 16 = .ok (.goto 6, 3) := by decide +kernel
theorem dc_L_clones_19 : decode cb_L_clones 19 = .ok (.astore_n 3, 1) := by decide +kernel
theorem dc_L_clones_20 : decode cb_L_clones 20 = .ok (.iconst 1, 1) := by decide +kernel
theorem dc_L_clones_21 : decode cb_L_clones 21 = .ok (.ireturn, 1) := by decide +kernel
theorem dc_L_clones_22 : decode cb_L_clones 22 = .ok (.iconst 0, 1) := by decide +kernel
theorem dc_L_clones_23 : decode cb_L_clones 23 = .ok (.ireturn, 1) := by decide +kernel
theorem dc_L_count_0 : decode cb_L_count 0 = .ok (.aload_n 2, 1) := by decide +kernel
theorem dc_L_count_1 : decode cb_L_count 1 = .ok (.iconst 0, 1) := by decide +kernel
theorem dc_L_count_2 : decode cb_L_count 2 = .ok (.aload_n 0, 1) := by decide +kernel
theorem dc_L_count_3 : decode cb_L_count 3 = .ok (.iload_n 1, 1) := by decide +kernel
theorem dc_L_count_4 : decode cb_L_count 4 = .ok (.invokevirtual 72, 3) := by decide +kernel
theorem dc_L_count_7 : decode cb_L_count 7 = .ok (.i2l, 1) := by decide +kernel
theorem dc_L_count_8 : decode cb_L_count 8 = .ok (.lastore, 1) := by decide +kernel
theorem dc_L_count_9 : decode cb_L_count 9 = .ok (.goto 6, 3) := by decide +kernel
theorem dc_L_count_12 : decode cb_L_count 12 = .ok (.astore_n 3, 1) := by decide +kernel
theorem dc_L_count_13 : decode cb_L_count 13 = .ok (.iconst 1, 1) := by decide +kernel
theorem dc_L_count_14 : decode cb_L_count 14 = .ok (.ireturn, 1) := by decide +kernel
theorem dc_L_count_15 : decode cb_L_count 15 = .ok (.iconst 0, 1) := by decide +kernel
theorem dc_L_count_16 : decode cb_L_count 16 = .ok (.ireturn, 1) := by decide +kernel
theorem dc_JI_bitCount_0 : decode cb_JI_bitCount 0 = .ok (.iload_n 0, 1) := by decide +kernel
theorem dc_JI_bitCount_1 : decode cb_JI_bitCount 1 = .ok (.iload_n 0, 1) := by decide +kernel
theorem dc_JI_bitCount_2 : decode cb_JI_bitCount 2 = .ok (.iconst 1, 1) := by decide +kernel
theorem dc_JI_bitCount_3 : decode cb_JI_bitCount 3 = .ok (.iushr, 1) := by decide +kernel
theorem dc_JI_bitCount_4 : decode cb_JI_bitCount 4 = .ok (.ldc_w 265, 3) := by decide +kernel
theorem dc_JI_bitCount_7 : decode cb_JI_bitCount 7 = .ok (.iand, 1) := by decide +kernel
theorem dc_JI_bitCount_8 : decode cb_JI_bitCount 8 = .ok (.isub, 1) := by decide +kernel
theorem dc_JI_bitCount_9 : decode cb_JI_bitCount 9 = .ok (.istore_n 0, 1) := by decide +kernel
theorem dc_JI_bitCount_10 : decode cb_JI_bitCount 10 = .ok (.iload_n 0, 1) := by decide +kernel
theorem dc_JI_bitCount_11 : decode cb_JI_bitCount 11 = .ok (.ldc_w 266, 3) := by decide +kernel
theorem dc_JI_bitCount_14 : decode cb_JI_bitCount 14 = .ok (.iand, 1) := by decide +kernel
theorem dc_JI_bitCount_15 : decode cb_JI_bitCount 15 = .ok (.iload_n 0, 1) := by decide +kernel
theorem dc_JI_bitCount_16 : decode cb_JI_bitCount 16 = .ok (.iconst 2, 1) := by decide +kernel
theorem dc_JI_bitCount_17 : decode cb_JI_bitCount 17 = .ok (.iushr, 1) := by decide +kernel
theorem dc_JI_bitCount_18 : decode cb_JI_bitCount 18 = .ok (.ldc_w 266, 3) := by decide +kernel
theorem dc_JI_bitCount_21 : decode cb_JI_bitCount 21 = .ok (.iand, 1) := by decide +kernel
theorem dc_JI_bitCount_22 : decode cb_JI_bitCount 22 = .ok (.iadd, 1) := by decide +kernel
theorem dc_JI_bitCount_23 : decode cb_JI_bitCount 23 = .ok (.istore_n 0, 1) := by decide +kernel
theorem dc_JI_bitCount_24 : decode cb_JI_bitCount 24 = .ok (.iload_n 0, 1) := by decide +kernel
theorem dc_JI_bitCount_25 : decode cb_JI_bitCount 25 = .ok (.iload_n 0, 1) := by decide +kernel
theorem dc_JI_bitCount_26 : decode cb_JI_bitCount 26 = .ok (.iconst 4, 1) := by decide +kernel
theorem dc_JI_bitCount_27 : decode cb_JI_bitCount 27 = .ok (.iushr, 1) := by decide +kernel
theorem dc_JI_bitCount_28 : decode cb_JI_bitCount 28 = .ok (.iadd, 1) := by decide +kernel
theorem dc_JI_bitCount_29 : decode cb_JI_bitCount 29 = .ok (.ldc_w 267, 3) := by decide +kernel
theorem dc_JI_bitCount_32 : decode cb_JI_bitCount 32 = .ok (.iand, 1) := by decide +kernel
theorem dc_JI_bitCount_33 : decode cb_JI_bitCount 33 = .ok (.istore_n 0, 1) := by decide +kernel
theorem dc_JI_bitCount_34 : decode cb_JI_bitCount 34 = .ok (.iload_n 0, 1) := by decide +kernel
theorem dc_JI_bitCount_35 : decode cb_JI_bitCount 35 = .ok (.iload_n 0, 1) := by decide +kernel
theorem dc_JI_bitCount_36 : decode cb_JI_bitCount 36 = .ok (.bipush 8, 2) := by decide +kernel
theorem dc_JI_bitCount_38 : decode cb_JI_bitCount 38 = .ok (.iushr, 1) := by decide +kernel
theorem dc_JI_bitCount_39 : decode cb_JI_bitCount 39 = .ok (.iadd, 1) := by decide +kernel
theorem dc_JI_bitCount_40 : decode cb_JI_bitCount 40 = .ok (.istore_n 0, 1) := by decide +kernel
theorem dc_JI_bitCount_41 : decode cb_JI_bitCount 41 = .ok (.iload_n 0, 1) := by decide +kernel
theorem dc_JI_bitCount_42 : decode cb_JI_bitCount 42 = .ok (.iload_n 0, 1) := by decide +kernel
theorem dc_JI_bitCount_43 : decode cb_JI_bitCount 43 = .ok (.bipush 16, 2) := by decide +kernel
theorem dc_JI_bitCount_45 : decode cb_JI_bitCount 45 = .ok (.iushr, 1) := by decide +kernel
theorem dc_JI_bitCount_46 : decode cb_JI_bitCount 46 = .ok (.iadd, 1) := by decide +kernel
theorem dc_JI_bitCount_47 : decode cb_JI_bitCount 47 = .ok (.istore_n 0, 1) := by decide +kernel
theorem dc_JI_bitCount_48 : decode cb_JI_bitCount 48 = .ok (.iload_n 0, 1) := by decide +kernel
theorem dc_JI_bitCount_49 : decode cb_JI_bitCount 49 = .ok (.bipush 63, 2) := by decide +kernel
theorem dc_JI_bitCount_51 : decode cb_JI_bitCount 51 = .ok (.iand, 1) := by decide +kernel
theorem dc_JI_bitCount_52 : decode cb_JI_bitCount 52 = .ok (.ireturn, 1) := by decide +kernel
theorem dc_JM_max_0 : decode cb_JM_max 0 = .ok (.iload_n 0, 1) := by decide +kernel
theorem dc_JM_max_1 : decode cb_JM_max 1 = .ok (.iload_n 1, 1) := by decide +kernel
theorem dc_JM_max_2 : decode cb_JM_max 2 = .ok (.if_icmp .lt 7, 3) := by decide +kernel
theorem dc_JM_max_5 : decode cb_JM_max 5 = .ok (.iload_n 0, 1) := by decide +kernel
theorem dc_JM_max_6 : decode cb_JM_max 6 = .ok (.goto 4, 3) := by decide +kernel
theorem dc_JM_max_9 : decode cb_JM_max 9 = .ok (.iload_n 1, 1) := by decide +kernel
theorem dc_JM_max_10 : decode cb_JM_max 10 = .ok (.ireturn, 1) := by decide +kernel
theorem dc_JM_min_0 : decode cb_JM_min 0 = .ok (.iload_n 0, 1) := by decide +kernel
theorem dc_JM_min_1 : decode cb_JM_min 1 = .ok (.iload_n 1, 1) := by decide +kernel
theorem dc_JM_min_2 : decode cb_JM_min 2 = .ok (.if_icmp .gt 7, 3) := by decide +kernel
theorem dc_JM_min_5 : decode cb_JM_min 5 = .ok (.iload_n 0, 1) := by decide +kernel
theorem dc_JM_min_6 : decode cb_JM_min 6 = .ok (.goto 4, 3) := by decide +kernel
theorem dc_JM_min_9 : decode cb_JM_min 9 = .ok (.iload_n 1, 1) := by decide +kernel
theorem dc_JM_min_10 : decode cb_JM_min 10 = .ok (.ireturn, 1) := by decide +kernel
theorem dc_JA_fill_0 : decode cb_JA_fill 0 = .ok (.iconst 0, 1) := by decide +kernel
theorem dc_JA_fill_1 : decode cb_JA_fill 1 = .ok (.istore_n 2, 1) := by decide +kernel
theorem dc_JA_fill_2 : decode cb_JA_fill 2 = .ok (.aload_n 0, 1) := by decide +kernel
theorem dc_JA_fill_3 : decode cb_JA_fill 3 = .ok (.arraylength, 1) := by decide +kernel
theorem dc_JA_fill_4 : decode cb_JA_fill 4 = .ok (.istore_n 3, 1) := by decide +kernel
theorem dc_JA_fill_5 : decode cb_JA_fill 5 = .ok (.iload_n 2, 1) := by decide +kernel
theorem dc_JA_fill_6 : decode cb_JA_fill 6 = .ok (.iload_n 3, 1) := by decide +kernel
theorem dc_JA_fill_7 : decode cb_JA_fill 7 = .ok (.if_icmp .ge 13, 3) := by decide +kernel
theorem dc_JA_fill_10 : decode cb_JA_fill 10 = .ok (.aload_n 0, 1) := by decide +kernel
theorem dc_JA_fill_11 : decode cb_JA_fill 11 = .ok (.iload_n 2, 1) := by decide +kernel
theorem dc_JA_fill_12 : decode cb_JA_fill 12 = .ok (.iload_n 1, 1) := by decide +kernel
theorem dc_JA_fill_13 : decode cb_JA_fill 13 = .ok (.iastore, 1) := by decide +kernel
theorem dc_JA_fill_14 : decode cb_JA_fill 14 = .ok (.iinc 2 1, 3) := by decide +kernel
theorem dc_JA_fill_17 : decode cb_JA_fill 17 = .ok (.goto (-12), 3) := by decide +kernel
theorem dc_JA_fill_20 : decode cb_JA_fill 20 = .ok (.return_, 1) := by decide +kernel
end
section
/-! One world: 90 objects, numbered; ints in M.1 o k, longs in M.2 o k; the references among them never change (ow_fs says where they lead). -/
abbrev om_M : Type := (Nat → Nat → Int32) × (Nat → Nat → Int64)
def om_up (M : om_M) (o k : Nat) (v : Int32) : om_M := (fun o' => if o' = o then upd (M.1 o) k v else M.1 o', M.2)
def om_ul (M : om_M) (o k : Nat) (v : Int64) : om_M := (M.1, fun o' => if o' = o then vp_updL (M.2 o) k v else M.2 o')
theorem om_up_s (M : om_M) (o k : Nat) (v : Int32) : (om_up M o k v).1 o = upd (M.1 o) k v := if_pos rfl
theorem om_up_n (M : om_M) {o k o' : Nat} (v : Int32) (h : o' ≠ o) : (om_up M o k v).1 o' = M.1 o' := if_neg h
theorem om_ul_s (M : om_M) (o k : Nat) (v : Int64) : (om_ul M o k v).2 o = vp_updL (M.2 o) k v := if_pos rfl
theorem om_ul_n (M : om_M) {o k o' : Nat} (v : Int64) (h : o' ≠ o) : (om_ul M o k v).2 o' = M.2 o' := if_neg h
/-- kinds: 0 int[n], 1 boolean[n], 2 int[n][7], 5 int[n][128], 4 long[n], 3 an object of class n -/
def ow_kl : List (Nat × Nat) := [(3, 0),
  (3, 1), (0, 21), (0, 21), (0, 7), (2, 7), (0, 7), (0, 7), (0, 7), (0, 7), (0, 7), (0, 7), (0, 7), (2, 7), (0, 7), (0, 7), (0, 7), (0, 7), (0, 7), (0, 7), (0, 7),
  (3, 7), (3, 2), (3, 3), (1, 128), (0, 7), (3, 4), (2, 7), (0, 7), (0, 7), (0, 7), (0, 7), (0, 7), (0, 7), (0, 7), (3, 5), (0, 21), (0, 7),
  (3, 6), (0, 128), (5, 7), (0, 128), (0, 128), (0, 128), (0, 128), (0, 128), (0, 128), (0, 128), (0, 7),
  (3, 1), (0, 21), (0, 21), (0, 7), (2, 7), (0, 7), (0, 7), (0, 7), (0, 7), (0, 7), (0, 7), (0, 7), (2, 7), (0, 7), (0, 7), (0, 7), (0, 7), (0, 7), (0, 7), (0, 7),
  (3, 8), (0, 7),
  (3, 9), (0, 140), (0, 20), (0, 7), (0, 7), (0, 7), (0, 154), (0, 22), (0, 7), (0, 7), (0, 7), (0, 49), (0, 49), (1, 49), (1, 128), (4, 128), (0, 7), (0, 7),
  (4, 1)]
def ow_kd (o : Nat) : Nat × Nat := ow_kl.getD o (9, 0)
theorem ow_len : ow_kl.length = 90 := by decide
theorem ow_lt {o t n : Nat} (h : ow_kd o = (t, n)) (ht : t ≠ 9) : o < 90 := by
  by_cases ho : o < 90
  · exact ho
  · exfalso
    have : ow_kd o = (9, 0) := by
      unfold ow_kd
      simp [List.getD, List.getElem?_eq_none (show ow_kl.length ≤ o by rw [ow_len]; omega)]
    rw [this] at h
    exact ht (congrArg Prod.fst h).symm
def ow_fs (ad : Nat → Nat) (r : Nat → Int32) (ci o : Nat) : List Value := match ci with
  | 0 => [.ref (ad (o + 1)), .ref (ad (o + 22)), .ref (ad (o + 21)), .int (r 3), .int (r 4)]
  | 1 => [.ref (ad (o + 1)), .ref (ad (o + 2)), .ref (ad (o + 3)), .ref (ad (o + 4)), .ref (ad (o + 12)), .int (r 5), .int (r 6), .int (r 7), .int (r 8)]
  | 2 => [.ref (ad (o + 1)), .ref (ad (o + 4)), .ref (ad (o + 13)), .ref (ad (o + 16)), .ref (ad (o + 26))]
  | 3 => [.ref (ad (o + 1)), .ref (ad (o + 2))]
  | 4 => [.ref (ad (o + 1))]
  | 5 => [.ref (ad (o + 1)), .ref (ad (o + 2)), .int (r 2)]
  | 6 => [.ref (ad (o + 1)), .ref (ad (o + 2))]
  | 7 => [.ref (ad (o + 1)), .ref (ad (o + 28)), .ref (ad (o + 48)), .int (r 3)]
  | 8 => [.ref (ad (o + 1)), .int (r 1)]
  | _ => [.int (r 0), .int (r 1), .int (r 2), .ref (ad (o + 1)), .ref (ad (o + 2)), .ref (ad (o + 3)), .ref (ad (o + 4)), .ref (ad (o + 5)), .int (r 8), .int (r 9), .ref (ad (o + 6)), .ref (ad (o + 7)), .ref (ad (o + 8)), .ref (ad (o + 9)), .ref (ad (o + 10)), .ref (ad (o + 11)), .ref (ad (o + 12)), .ref (ad (o + 13)), .ref (ad (o + 14)), .ref (ad (o + 15)), .ref (ad (o + 16)), .ref (ad (o + 17)), .int (r 22), .int (r 23)]
def ow_ek (cA : Nat → ClassId) (ad : Nat → Nat) (r : Nat → Int32) (z : Nat → Int64) (o t n : Nat) : va_E := match t with
  | 0 => .inl (cA 0, n, .inl r)
  | 1 => .inl (cA 1, n, .inl r)
  | 2 => .inl (cA 2, n, .inr (.inr (.inr (.inr (fun j => some (ad (o + 1 + j)))))))
  | 5 => .inl (cA 2, n, .inr (.inr (.inr (.inr (fun j => some (ad (o + 1 + j)))))))
  | 4 => .inl (cA 3, n, .inr (.inl z))
  | _ => .inr (n, ow_fs ad r n o)
def ow_ent (cA : Nat → ClassId) (ad : Nat → Nat) (r : Nat → Int32) (z : Nat → Int64) (o : Nat) : va_E := ow_ek cA ad r z o (ow_kd o).1 (ow_kd o).2
def ow_wl (cA : Nat → ClassId) (ad : Nat → Nat) (M : om_M) : va_W := (List.range 90).map (fun o => (ad o, ow_ent cA ad (M.1 o) (M.2 o) o))
theorem ow_ent_k {cA : Nat → ClassId} {ad : Nat → Nat} {r : Nat → Int32} {z : Nat → Int64} {o t n : Nat} (h : ow_kd o = (t, n)) : ow_ent cA ad r z o = ow_ek cA ad r z o t n := by
  unfold ow_ent
  rw [h]
theorem ow_at {cA : Nat → ClassId} {ad : Nat → Nat} {M : om_M} {o t n : Nat} (h : ow_kd o = (t, n)) (ht : t ≠ 9) : (ow_wl cA ad M)[o]? = some (ad o, ow_ek cA ad (M.1 o) (M.2 o) o t n) := by
  have ho := ow_lt h ht
  unfold ow_wl
  rw [List.getElem?_map, List.getElem?_range ho, ← ow_ent_k h]
  rfl
theorem ow_set {cA : Nat → ClassId} {ad : Nat → Nat} {M M' : om_M} {o t n : Nat} (h : ow_kd o = (t, n)) (h1 : ∀ o', o' ≠ o → M'.1 o' = M.1 o') (h2 : ∀ o', o' ≠ o → M'.2 o' = M.2 o') : (ow_wl cA ad M).set o (ad o, ow_ek cA ad (M'.1 o) (M'.2 o) o t n) = ow_wl cA ad M' := by
  apply List.ext_getElem?
  intro i
  by_cases hi : i = o
  · subst hi
    by_cases hl : i < 90
    · rw [List.getElem?_set_self (by simp [ow_wl]; exact hl)]
      simp [ow_wl, hl, ow_ent_k h]
    · rw [List.getElem?_eq_none (by simp [ow_wl]; omega), List.getElem?_eq_none (by simp [ow_wl]; omega)]
  · rw [List.getElem?_set_ne (Ne.symm hi)]
    unfold ow_wl
    rw [List.getElem?_map, List.getElem?_map]
    cases hr : (List.range 90)[i]? with
    | none => rfl
    | some j =>
      have : j = i := by
        have := (List.getElem?_eq_some_iff.mp hr)
        obtain ⟨hlt, he⟩ := this
        simpa using he.symm
      subst this
      simp [h1 j hi, h2 j hi]
abbrev ow_ty (cA : Nat → ClassId) : List (ClassId × FieldType) := [(cA 0, .int), (cA 1, .boolean), (cA 2, .array .int), (cA 3, .long)]
def ow_A (ad : Nat → Nat) : Nat → Prop := fun q => ∃ o, o < 90 ∧ q = ad o
/-- the world at heap H: its cells, apart and in A, the tables, and that nothing outside A has changed since H0 -/
def ow_B (D : va_G) (cA : Nat → ClassId) (ad : Nat → Nat) (A : Nat → Prop) (M : om_M) (s : State) (H0 H : Heap) (locs : List Loc) : Prop :=
  va_P D ow_cl (ow_wl cA ad M) H ∧ va_D A (ow_wl cA ad M) ∧ va_K D ow_cl (ow_ty cA) s ∧ va_S A H0 H locs
section OWR
variable {p : Program} {l : Launch} {e : Env} {R : Room} {s : State} {m : MethodId} {args : Array Value} {below : List Frame} {meth : Method} {c : Code} {H : Heap} {locs : List Loc} {cells slots : Nat} {Q : State → Prop}
variable {cc : ByteArray} {pc : Nat} {ls : Array Slot} {rest : List Value} {D : va_G} {cA : Nat → ClassId} {ad : Nat → Nat} {A : Nat → Prop} {M : om_M} {H0 : Heap}
theorem ow_iald (hexec : p.tables.exec = Jvm.exec) (hb : c.code = cc) (hB : ow_B D cA ad A M s H0 H locs) {o n : Nat} (hk : ow_kd o = (0, n)) {i : Int32} (hin : vp_in i n) (hdg : decode cc pc = .ok (.iaload, 1))
    (kk : W p l e R s m args below meth c H locs cells slots Q (F0 m (pc + 1) ls (.int (M.1 o i.toNatClampNeg) :: rest))) : W p l e R s m args below meth c H locs cells slots Q (F0 m pc ls (.int i :: .ref (ad o) :: rest)) :=
  va_iald hexec hb hB.2.2.1 hB.1 o 0 (ow_at hk (by decide)) rfl hin hdg kk
theorem ow_zald (hexec : p.tables.exec = Jvm.exec) (hb : c.code = cc) (hB : ow_B D cA ad A M s H0 H locs) {o n : Nat} (hk : ow_kd o = (1, n)) {i : Int32} (hin : vp_in i n) (hdg : decode cc pc = .ok (.baload, 1))
    (kk : W p l e R s m args below meth c H locs cells slots Q (F0 m (pc + 1) ls (.int (M.1 o i.toNatClampNeg) :: rest))) : W p l e R s m args below meth c H locs cells slots Q (F0 m pc ls (.int i :: .ref (ad o) :: rest)) :=
  va_zald hexec hb hB.2.2.1 hB.1 o 1 (ow_at hk (by decide)) rfl hin hdg kk
theorem ow_lald (hexec : p.tables.exec = Jvm.exec) (hb : c.code = cc) (hB : ow_B D cA ad A M s H0 H locs) {o n : Nat} (hk : ow_kd o = (4, n)) {i : Int32} (hin : vp_in i n) (hdg : decode cc pc = .ok (.laload, 1))
    (kk : W p l e R s m args below meth c H locs cells slots Q (F0 m (pc + 1) ls (.long (M.2 o i.toNatClampNeg) :: rest))) : W p l e R s m args below meth c H locs cells slots Q (F0 m pc ls (.int i :: .ref (ad o) :: rest)) :=
  va_lald hexec hb hB.2.2.1 hB.1 o 3 (ow_at hk (by decide)) rfl hin hdg kk
theorem ow_alen {v : Int32} (hexec : p.tables.exec = Jvm.exec) (hb : c.code = cc) (hB : ow_B D cA ad A M s H0 H locs) {o n : Nat} (hk : ow_kd o = (0, n)) (hv : Int32.ofNat n = v) (hdg : decode cc pc = .ok (.arraylength, 1))
    (kk : W p l e R s m args below meth c H locs cells slots Q (F0 m (pc + 1) ls (.int v :: rest))) : W p l e R s m args below meth c H locs cells slots Q (F0 m pc ls (.ref (ad o) :: rest)) :=
  va_alen hexec hb hB.2.2.1 hB.1 o 0 (ow_at hk (by decide)) rfl hv hdg kk
theorem ow_aald0 (hexec : p.tables.exec = Jvm.exec) (hb : c.code = cc) (hB : ow_B D cA ad A M s H0 H locs) {o n : Nat} {f : Nat → Option Nat} (ha : (ow_wl cA ad M)[o]? = some (ad o, .inl (cA 2, n, .inr (.inr (.inr (.inr f)))))) {i : Int32} (hin : vp_in i n) (hdg : decode cc pc = .ok (.aaload, 1))
    (kk : W p l e R s m args below meth c H locs cells slots Q (F0 m (pc + 1) ls (va_rf (f i.toNatClampNeg) :: rest))) : W p l e R s m args below meth c H locs cells slots Q (F0 m pc ls (.int i :: .ref (ad o) :: rest)) := by
  have hlt : i.toNatClampNeg < n := Nat.not_le.mp fun q => hin (Or.inr q)
  exact W.aald (v := va_rf (f i.toNatClampNeg)) (ty := .array .int) hexec hb (hB.1 o _ ha) ((hB.2.2.1.2 2 _ rfl).1 n (fun j => va_rf (f j))) rfl (fun q => by cases q) (by show ¬ (i < 0 ∨ (arrV _ _ _).slots.size ≤ _); rw [arrV_size]; exact hin) (by show (arrV _ _ _).slots[_]? = _; rw [arrV_read _ _ hlt]) rfl rfl hdg kk
theorem ow_aald (hexec : p.tables.exec = Jvm.exec) (hb : c.code = cc) (hB : ow_B D cA ad A M s H0 H locs) {o t n : Nat} (hk : ow_kd o = (t, n)) (ht : t = 2 ∨ t = 5) {i : Int32} (hin : vp_in i n) (hdg : decode cc pc = .ok (.aaload, 1))
    (kk : W p l e R s m args below meth c H locs cells slots Q (F0 m (pc + 1) ls (.ref (ad (o + 1 + i.toNatClampNeg)) :: rest))) : W p l e R s m args below meth c H locs cells slots Q (F0 m pc ls (.int i :: .ref (ad o) :: rest)) := by
  rcases ht with rfl | rfl
  · exact ow_aald0 hexec hb hB (ow_at hk (by decide)) hin hdg kk
  · exact ow_aald0 hexec hb hB (ow_at hk (by decide)) hin hdg kk
theorem ow_iast (hexec : p.tables.exec = Jvm.exec) (hb : c.code = cc) (hB : ow_B D cA ad A M s H0 H locs) {o n : Nat} (hk : ow_kd o = (0, n)) {i x : Int32} (hin : vp_in i n) (hdg : decode cc pc = .ok (.iastore, 1))
    (kk : ∀ (H1 : Heap) (locs1 : List Loc), ow_B D cA ad A (om_up M o i.toNatClampNeg x) s H0 H1 locs1 → W p l e R s m args below meth c H1 locs1 cells slots Q (F0 m (pc + 1) ls rest)) : W p l e R s m args below meth c H locs cells slots Q (F0 m pc ls (.int x :: .int i :: .ref (ad o) :: rest)) := by
  obtain ⟨hP, hD, hK, hS⟩ := hB
  refine va_iast hexec hb hK hP hD hS o 0 (ow_at hk (by decide)) rfl hin hdg (fun H1 locs1 hP hD hS => ?_)
  have e : (ow_wl cA ad M).set o (ad o, .inl (cA 0, n, .inl (upd (M.1 o) i.toNatClampNeg x))) = ow_wl cA ad (om_up M o i.toNatClampNeg x) := by
    rw [← ow_set (M := M) (M' := om_up M o i.toNatClampNeg x) hk (fun o' h => om_up_n M x h) (fun _ _ => rfl), om_up_s]
    rfl
  rw [e] at hP hD
  exact kk H1 locs1 ⟨hP, hD, hK, hS⟩
theorem ow_zast (hexec : p.tables.exec = Jvm.exec) (hb : c.code = cc) (hB : ow_B D cA ad A M s H0 H locs) {o n : Nat} (hk : ow_kd o = (1, n)) {i x : Int32} (hx : vp_nar .boolean x = x) (hin : vp_in i n) (hdg : decode cc pc = .ok (.bastore, 1))
    (kk : ∀ (H1 : Heap) (locs1 : List Loc), ow_B D cA ad A (om_up M o i.toNatClampNeg x) s H0 H1 locs1 → W p l e R s m args below meth c H1 locs1 cells slots Q (F0 m (pc + 1) ls rest)) : W p l e R s m args below meth c H locs cells slots Q (F0 m pc ls (.int x :: .int i :: .ref (ad o) :: rest)) := by
  obtain ⟨hP, hD, hK, hS⟩ := hB
  refine va_zast hexec hb hK hP hD hS o 1 (ow_at hk (by decide)) rfl hin hdg (fun H1 locs1 hP hD hS => ?_)
  have e : (ow_wl cA ad M).set o (ad o, .inl (cA 1, n, .inl (upd (M.1 o) i.toNatClampNeg (vp_nar .boolean x)))) = ow_wl cA ad (om_up M o i.toNatClampNeg x) := by
    rw [hx, ← ow_set (M := M) (M' := om_up M o i.toNatClampNeg x) hk (fun o' h => om_up_n M x h) (fun _ _ => rfl), om_up_s]
    rfl
  rw [e] at hP hD
  exact kk H1 locs1 ⟨hP, hD, hK, hS⟩
theorem ow_last (hexec : p.tables.exec = Jvm.exec) (hb : c.code = cc) (hB : ow_B D cA ad A M s H0 H locs) {o n : Nat} (hk : ow_kd o = (4, n)) {i : Int32} {x : Int64} (hin : vp_in i n) (hdg : decode cc pc = .ok (.lastore, 1))
    (kk : ∀ (H1 : Heap) (locs1 : List Loc), ow_B D cA ad A (om_ul M o i.toNatClampNeg x) s H0 H1 locs1 → W p l e R s m args below meth c H1 locs1 cells slots Q (F0 m (pc + 1) ls rest)) : W p l e R s m args below meth c H locs cells slots Q (F0 m pc ls (.long x :: .int i :: .ref (ad o) :: rest)) := by
  obtain ⟨hP, hD, hK, hS⟩ := hB
  refine va_last hexec hb hK hP hD hS o 3 (ow_at hk (by decide)) rfl hin hdg (fun H1 locs1 hP hD hS => ?_)
  have e : (ow_wl cA ad M).set o (ad o, .inl (cA 3, n, .inr (.inl (vp_updL (M.2 o) i.toNatClampNeg x)))) = ow_wl cA ad (om_ul M o i.toNatClampNeg x) := by
    rw [← ow_set (M := M) (M' := om_ul M o i.toNatClampNeg x) hk (fun _ _ => rfl) (fun o' h => om_ul_n M x h), om_ul_s]
    rfl
  rw [e] at hP hD
  exact kk H1 locs1 ⟨hP, hD, hK, hS⟩
/-- getfield: any field -/
theorem ow_get (hexec : p.tables.exec = Jvm.exec) (hb : c.code = cc) {own C : String} {T : u_T} {N ci index : Nat} (hts : ∀ w ∈ lw_g, w.before args s = true) (hin : ∀ w ∈ u_ws C T N, w ∈ lw_g) (hown : s.vm.findClass own = some m.cls) (hB : ow_B D cA ad A M s H0 H locs) {o : Nat} (hk : ow_kd o = (3, ci)) (hc : ow_cl[ci]? = some (C, T, N)) (k : Nat) (hkN : k < N) {v : Value}
    (hlink : Cond.fieldLink own index (T k).1 (T k).2.1 (T k).2.2.1 ∈ lw_g) (hv : (ow_fs ad (M.1 o) ci o)[k]? = some v) (hdg : decode cc pc = .ok (.getfield index, 3))
    (kk : W p l e R s m args below meth c H locs cells slots Q (F0 m (pc + 3) ls (v :: rest))) : W p l e R s m args below meth c H locs cells slots Q (F0 m pc ls (.ref (ad o) :: rest)) :=
  va_get (D := D) hexec hb hts hin hown hB.2.2.1 hB.1 o (ow_at hk (by decide)) hc k hkN (hts _ hlink) (fun _ h => h) hv hdg kk
theorem ow_put (hexec : p.tables.exec = Jvm.exec) (hb : c.code = cc) {own C : String} {T : u_T} {N ci index : Nat} (hts : ∀ w ∈ lw_g, w.before args s = true) (hin : ∀ w ∈ u_ws C T N, w ∈ lw_g) (ty0 : Nat → FieldType) (hty : ∀ k, k < N → parseFieldDescriptor (T k).2.2.1 = some (ty0 k)) (hnm : ∀ a, a < N → ∀ b, b < N → a ≠ b → (T a).2.1 ≠ (T b).2.1) (hown : s.vm.findClass own = some m.cls) (hB : ow_B D cA ad A M s H0 H locs) {o : Nat} (hk : ow_kd o = (3, ci)) (hc : ow_cl[ci]? = some (C, T, N)) (k : Nat) (hkN : k < N) {x : Int32}
    (hlink : Cond.fieldLink own index (T k).1 (T k).2.1 (T k).2.2.1 ∈ lw_g) (hfin : (T k).2.2.2 = false) (hd : parseFieldDescriptor (T k).2.2.1 = some .int) (hl : k < (ow_fs ad (M.1 o) ci o).length) (hset : (ow_fs ad (M.1 o) ci o).set k (.int x) = ow_fs ad (upd (M.1 o) k x) ci o) (hdg : decode cc pc = .ok (.putfield index, 3))
    (kk : ∀ (H1 : Heap) (locs1 : List Loc), ow_B D cA ad A (om_up M o k x) s H0 H1 locs1 → W p l e R s m args below meth c H1 locs1 cells slots Q (F0 m (pc + 3) ls rest)) : W p l e R s m args below meth c H locs cells slots Q (F0 m pc ls (.int x :: .ref (ad o) :: rest)) := by
  obtain ⟨hP, hD, hK, hS⟩ := hB
  refine va_put (D := D) hexec hb hts hin ty0 hty hnm hown hK hP hD hS o (ow_at hk (by decide)) hc k hkN (hts _ hlink) (fun _ h => h) hfin hd rfl rfl hl hdg (fun H1 locs1 hP hD hS => ?_)
  have e : (ow_wl cA ad M).set o (ad o, .inr (ci, (ow_fs ad (M.1 o) ci o).set k (.int x))) = ow_wl cA ad (om_up M o k x) := by
    rw [hset, ← ow_set (M := M) (M' := om_up M o k x) hk (fun o' h => om_up_n M x h) (fun _ _ => rfl), om_up_s]
    rfl
  rw [e] at hP hD
  exact kk H1 locs1 ⟨hP, hD, hK, hS⟩
end OWR
end
section
/-! contracts over the one world: what a method starts from, what it ends in; calls; returns -/
theorem ow_sub {cA : Nat → ClassId} {ad : Nat → Nat} {A : Nat → Prop} {M : om_M} (h : va_D A (ow_wl cA ad M)) : ∀ q, ow_A ad q → A q := by
  rintro q ⟨o, ho, rfl⟩
  have := h.2 o (ad o, ow_ent cA ad (M.1 o) (M.2 o) o) (by simp [ow_wl, ho])
  exact this
theorem ow_fst {cA : Nat → ClassId} {ad : Nat → Nat} {M M' : om_M} {k : Nat} {q : Nat × va_E} (h : (ow_wl cA ad M)[k]? = some q) : ∃ q', (ow_wl cA ad M')[k]? = some q' ∧ q'.1 = q.1 ∧ q.1 = ad k ∧ k < 90 := by
  have hl : k < 90 := by
    have := (List.getElem?_eq_some_iff.mp h).1
    simpa [ow_wl] using this
  have e : q = (ad k, ow_ent cA ad (M.1 k) (M.2 k) k) := by
    simp [ow_wl, hl] at h
    exact h.symm
  exact ⟨(ad k, ow_ent cA ad (M'.1 k) (M'.2 k) k), by simp [ow_wl, hl], by rw [e], by rw [e], hl⟩
theorem ow_D {cA : Nat → ClassId} {ad : Nat → Nat} {A : Nat → Prop} {M M' : om_M} (h : va_D A (ow_wl cA ad M)) : va_D A (ow_wl cA ad M') := by
  refine ⟨fun i j x y hi hj hxy => ?_, fun k q hk => ?_⟩
  · obtain ⟨x', h1, h2, -, -⟩ := ow_fst (M' := M) hi
    obtain ⟨y', h3, h4, -, -⟩ := ow_fst (M' := M) hj
    exact h.1 i j x' y' h1 h3 (h2.trans (hxy.trans h4.symm))
  · obtain ⟨q', h1, h2, -, -⟩ := ow_fst (M' := M) hk
    rw [← h2]
    exact h.2 k q' h1
theorem ow_DA {cA : Nat → ClassId} {ad : Nat → Nat} {A : Nat → Prop} {M : om_M} (h : va_D A (ow_wl cA ad M)) : va_D (ow_A ad) (ow_wl cA ad M) :=
  ⟨h.1, fun k q hk => by
    obtain ⟨q', h1, h2, h3, h4⟩ := ow_fst (M' := M) hk
    exact ⟨k, h4, h3⟩⟩
def ow_W (D : va_G) (cA : Nat → ClassId) (ad : Nat → Nat) (M : om_M) (t : State) : Prop := va_P D ow_cl (ow_wl cA ad M) t.heap ∧ va_K D ow_cl (ow_ty cA) t
def ow_Pc (D : va_G) (cA : Nat → ClassId) (ad : Nat → Nat) (M : om_M) (av : List Value) : Array Value → State → Prop := va_Pc av (fun U => ow_B D cA ad (ow_A ad) M U U.heap U.heap [])
def ow_Qi (D : va_G) (cA : Nat → ClassId) (ad : Nat → Nat) (Q : Int32 → om_M → Prop) : Array Value → State → Outcome → State → Prop := va_Qi Q (ow_W D cA ad) (ow_A ad)
def ow_Ql (D : va_G) (cA : Nat → ClassId) (ad : Nat → Nat) (Q : Int64 → om_M → Prop) : Array Value → State → Outcome → State → Prop := va_Ql Q (ow_W D cA ad) (ow_A ad)
def ow_Qv (D : va_G) (cA : Nat → ClassId) (ad : Nat → Nat) (Q : om_M → Prop) : Array Value → State → Outcome → State → Prop := va_Qv Q (ow_W D cA ad) (ow_A ad)
theorem ow_blind {D : va_G} {cA : Nat → ClassId} {ad : Nat → Nat} {M : om_M} {av : List Value} : FrameBlind (ow_Pc D cA ad M av) := fun a U g mk q =>
  ⟨q.1, q.2.1, q.2.2.1, va_K.moved (u := U) (U := U.calling g mk a) (Vm.Alike.refl U.vm) q.2.2.2.1, va_S.rf⟩
theorem ow_preS {D : va_G} {cA : Nat → ClassId} {ad : Nat → Nat} {A : Nat → Prop} {M : om_M} {s : State} {H0 H : Heap} {locs : List Loc} {As : List Value} (hB : ow_B D cA ad A M s H0 H locs) : PreS s H (ow_Pc D cA ad M As) As :=
  ⟨ow_blind, fun U hU hW => ⟨rfl, by rw [hU]; exact hB.1, ow_DA hB.2.1, va_K.moved hW.alike hB.2.2.1, va_S.rf⟩⟩
theorem ow_preV {D : va_G} {cA : Nat → ClassId} {ad : Nat → Nat} {A : Nat → Prop} {M : om_M} {s : State} {H0 H : Heap} {locs : List Loc} {As : List Value} {o ci N : Nat} {C : String} {T : u_T} (hB : ow_B D cA ad A M s H0 H locs) (hk : ow_kd o = (3, ci)) (hc : ow_cl[ci]? = some (C, T, N)) : PreV s H C (ad o) (ow_Pc D cA ad M (.ref (ad o) :: As)) As :=
  ⟨ow_blind, va_recv hB.2.2.1 hB.1 hc (ow_at hk (by decide)), fun U hU hW => ⟨rfl, by rw [hU]; exact hB.1, ow_DA hB.2.1, va_K.moved hW.alike hB.2.2.1, va_S.rf⟩⟩
abbrev ow_ws (y : MethodName) (bytes : ByteArray) (maxL : Nat) (ret : Option FieldType) : List Cond := Cond.code y bytes maxL ret :: lw_g
theorem ow_cb {R : Room} {s : State} {args : Array Value} {own : String} {index maxL : Nat} {y : MethodName} {bytes : ByteArray} {ret : Option FieldType} {rm : Room} {mc ms : Nat} (n : Nat) (hts : ∀ w ∈ lw_g, w.before args s = true) (hc : Cond.code y bytes maxL ret ∈ lw_g) (hini : Cond.initialized y.cls ∈ lw_g) (hl : Cond.methodLink own index y ∈ lw_g) (hrc : rm.cells = mc) (hrs : rm.slots = ms)
    (hd : y.cls ≠ "java/lang/invoke/MethodHandle" ∧ y.cls ≠ "java/lang/invoke/VarHandle" ∧ (parseMethodDescriptor y.desc).map (fun d => d.parameters.length) = some n) (hR : rm.frames + 1 ≤ R.frames ∧ 8 + (maxL + 11) + rm.locals ≤ R.locals) : CallB R s args own index y bytes maxL ret (ow_ws y bytes maxL ret) rm mc ms n :=
  callB_of n hts (fun w h => by
    rcases List.mem_cons.mp h with rfl | h
    · exact ⟨hc, good_of_word (tg_good hc)⟩
    · exact ⟨h, good_of_word (tg_good h)⟩) rfl hrc hrs (hts _ hini) (hts _ hl) hd hR
section OWC
variable {p : Program} {l : Launch} {e : Env} {R : Room} {s : State} {m : MethodId} {args : Array Value} {below : List Frame} {meth : Method} {c : Code} {H : Heap} {locs : List Loc} {cells slots : Nat} {Q : State → Prop}
variable {cc : ByteArray} {pc : Nat} {ls : Array Slot} {rest st0 : List Value} {a : Array Value} {D : va_G} {cA : Nat → ClassId} {ad : Nat → Nat} {A : Nat → Prop} {M : om_M} {H0 : Heap}
theorem ow_calli {Qp : Int32 → om_M → Prop} (hr : va_Run p l e R s m args below meth c H locs cells slots 0 0 (F0 m pc ls st0) rest (ow_Qi D cA ad Qp a) (ow_A ad)) (hB : ow_B D cA ad A M s H0 H locs)
    (kk : ∀ (r : Int32) (M1 : om_M) (H1 : Heap) (locs1 : List Loc), Qp r M1 → ow_B D cA ad A M1 s H0 H1 locs1 → W p l e R s m args below meth c H1 locs1 cells slots Q (F0 m (pc + 3) ls (.int r :: rest))) : W p l e R s m args below meth c H locs cells slots Q (F0 m pc ls st0) :=
  va_calli hr hB.2.2.2 (fun q _ h => ow_sub hB.2.1 q h) (ow_sub hB.2.1) (fun r M1 t H1 locs1 ht hvm hp hb hz hk hS => kk r M1 H1 locs1 hp ⟨by rw [← ht]; exact hb.1, ow_D hB.2.1, hB.2.2.1, hS⟩)
theorem ow_calll {Qp : Int64 → om_M → Prop} (hr : va_Run p l e R s m args below meth c H locs cells slots 0 0 (F0 m pc ls st0) rest (ow_Ql D cA ad Qp a) (ow_A ad)) (hB : ow_B D cA ad A M s H0 H locs)
    (kk : ∀ (r : Int64) (M1 : om_M) (H1 : Heap) (locs1 : List Loc), Qp r M1 → ow_B D cA ad A M1 s H0 H1 locs1 → W p l e R s m args below meth c H1 locs1 cells slots Q (F0 m (pc + 3) ls (.long r :: rest))) : W p l e R s m args below meth c H locs cells slots Q (F0 m pc ls st0) :=
  va_calll hr hB.2.2.2 (fun q _ h => ow_sub hB.2.1 q h) (ow_sub hB.2.1) (fun r M1 t H1 locs1 ht hvm hp hb hz hk hS => kk r M1 H1 locs1 hp ⟨by rw [← ht]; exact hb.1, ow_D hB.2.1, hB.2.2.1, hS⟩)
theorem ow_callv {Qp : om_M → Prop} (hr : va_Run p l e R s m args below meth c H locs cells slots 0 0 (F0 m pc ls st0) rest (ow_Qv D cA ad Qp a) (ow_A ad)) (hB : ow_B D cA ad A M s H0 H locs)
    (kk : ∀ (M1 : om_M) (H1 : Heap) (locs1 : List Loc), Qp M1 → ow_B D cA ad A M1 s H0 H1 locs1 → W p l e R s m args below meth c H1 locs1 cells slots Q (F0 m (pc + 3) ls rest)) : W p l e R s m args below meth c H locs cells slots Q (F0 m pc ls st0) :=
  va_callv hr hB.2.2.2 (fun q _ h => ow_sub hB.2.1 q h) (ow_sub hB.2.1) (fun M1 t H1 locs1 ht hvm hp hb hz hk hS => kk M1 H1 locs1 hp ⟨by rw [← ht]; exact hb.1, ow_D hB.2.1, hB.2.2.1, hS⟩)
theorem ow_iret {Qp : Int32 → om_M → Prop} {v : Int32} (hexec : p.tables.exec = Jvm.exec) (hb : c.code = cc) (hr : meth.sig.returnType = some .int) (hlocks : meth.locks = false) (hB : ow_B D cA ad (ow_A ad) M s s.heap H locs) (hq : Qp v M) (hdg : decode cc pc = .ok (.ireturn, 1)) :
    W p l e R s m args below meth c H locs cells slots (MQ below (ow_Qi D cA ad Qp) args s cells slots (ow_A ad)) (F0 m pc ls [.int v]) :=
  W.iret hexec hb hr (fun t ht hW => ⟨⟨v, M, rfl, hq, by rw [ht]; exact hB.1, va_K.moved hW.alike hB.2.2.1⟩, hB.2.2.2.F ht⟩) hB.2.2.2.2.2 hdg hlocks
theorem ow_zret {Qp : Int32 → om_M → Prop} {v : Int32} (hexec : p.tables.exec = Jvm.exec) (hb : c.code = cc) (hr : meth.sig.returnType = some .boolean) (hlocks : meth.locks = false) (hv : vp_nar .boolean v = v) (hB : ow_B D cA ad (ow_A ad) M s s.heap H locs) (hq : Qp v M) (hdg : decode cc pc = .ok (.ireturn, 1)) :
    W p l e R s m args below meth c H locs cells slots (MQ below (ow_Qi D cA ad Qp) args s cells slots (ow_A ad)) (F0 m pc ls [.int v]) :=
  W.zret (ty := .boolean) hexec hb hr (congrArg Value.int hv) (fun t ht hW => ⟨⟨v, M, rfl, hq, by rw [ht]; exact hB.1, va_K.moved hW.alike hB.2.2.1⟩, hB.2.2.2.F ht⟩) hB.2.2.2.2.2 hdg hlocks
theorem ow_lret {Qp : Int64 → om_M → Prop} {v : Int64} (hexec : p.tables.exec = Jvm.exec) (hb : c.code = cc) (hr : meth.sig.returnType = some .long) (hlocks : meth.locks = false) (hB : ow_B D cA ad (ow_A ad) M s s.heap H locs) (hq : Qp v M) (hdg : decode cc pc = .ok (.lreturn, 1)) :
    W p l e R s m args below meth c H locs cells slots (MQ below (ow_Ql D cA ad Qp) args s cells slots (ow_A ad)) (F0 m pc ls [.long v]) :=
  W.lret hexec hb hr (fun t ht hW => ⟨⟨v, M, rfl, hq, by rw [ht]; exact hB.1, va_K.moved hW.alike hB.2.2.1⟩, hB.2.2.2.F ht⟩) hB.2.2.2.2.2 hdg hlocks
theorem ow_vret {Qp : om_M → Prop} (hexec : p.tables.exec = Jvm.exec) (hb : c.code = cc) (hr : meth.sig.returnType = none) (hlocks : meth.locks = false) (hB : ow_B D cA ad (ow_A ad) M s s.heap H locs) (hq : Qp M) (hdg : decode cc pc = .ok (.return_, 1)) :
    W p l e R s m args below meth c H locs cells slots (MQ below (ow_Qv D cA ad Qp) args s cells slots (ow_A ad)) (F0 m pc ls []) :=
  W.vret hexec hb hr (fun t ht hW => ⟨⟨M, rfl, hq, by rw [ht]; exact hB.1, va_K.moved hW.alike hB.2.2.1⟩, hB.2.2.2.F ht⟩) hB.2.2.2.2.2 hdg hlocks
end OWC
/-- a loop: its body, with what holds at the next turn -/
def ow_lp {σ : Type} (body : σ → (σ → Prop) → Prop) : Nat → σ → Prop
  | 0, _ => False
  | k + 1, x => body x (ow_lp body k)
theorem ow_lp_inv {σ : Type} {body : σ → (σ → Prop) → Prop} (I : σ → Prop) (μ : σ → Nat) (hb : ∀ x K, I x → (∀ y, I y → μ y < μ x → K y) → body x K) : ∀ k x, μ x < k → I x → ow_lp body k x := by
  intro k
  induction k with
  | zero => intro x h; omega
  | succ k ih => intro x h hI; exact hb x _ hI (fun y hy hm => ih y (by omega) hy)
end
section
theorem ly_D_poll {o : Nat} (h : ow_kd o = (3, 0)) : ow_kd (o + 1) = (3, 1) := (by decide : ∀ o, o < 90 → ow_kd o = (3, 0) → ow_kd (o + 1) = (3, 1)) o (ow_lt h (by decide)) h
theorem ly_D_rules {o : Nat} (h : ow_kd o = (3, 0)) : ow_kd (o + 22) = (3, 2) := (by decide : ∀ o, o < 90 → ow_kd o = (3, 0) → ow_kd (o + 22) = (3, 2)) o (ow_lt h (by decide)) h
theorem ly_D_whatIf {o : Nat} (h : ow_kd o = (3, 0)) : ow_kd (o + 21) = (3, 7) := (by decide : ∀ o, o < 90 → ow_kd o = (3, 0) → ow_kd (o + 21) = (3, 7)) o (ow_lt h (by decide)) h
theorem ly_P_orders {o : Nat} (h : ow_kd o = (3, 1)) : ow_kd (o + 1) = (0, 21) := (by decide : ∀ o, o < 90 → ow_kd o = (3, 1) → ow_kd (o + 1) = (0, 21)) o (ow_lt h (by decide)) h
theorem ly_P_voters {o : Nat} (h : ow_kd o = (3, 1)) : ow_kd (o + 2) = (0, 21) := (by decide : ∀ o, o < 90 → ow_kd o = (3, 1) → ow_kd (o + 2) = (0, 21)) o (ow_lt h (by decide)) h
theorem ly_P_weights {o : Nat} (h : ow_kd o = (3, 1)) : ow_kd (o + 3) = (0, 7) := (by decide : ∀ o, o < 90 → ow_kd o = (3, 1) → ow_kd (o + 3) = (0, 7)) o (ow_lt h (by decide)) h
theorem ly_P_placed {o : Nat} (h : ow_kd o = (3, 1)) : ow_kd (o + 4) = (2, 7) := (by decide : ∀ o, o < 90 → ow_kd o = (3, 1) → ow_kd (o + 4) = (2, 7)) o (ow_lt h (by decide)) h
theorem ly_P_ahead {o : Nat} (h : ow_kd o = (3, 1)) : ow_kd (o + 12) = (2, 7) := (by decide : ∀ o, o < 90 → ow_kd o = (3, 1) → ow_kd (o + 12) = (2, 7)) o (ow_lt h (by decide)) h
theorem ly_R_elimination {o : Nat} (h : ow_kd o = (3, 2)) : ow_kd (o + 1) = (3, 3) := (by decide : ∀ o, o < 90 → ow_kd o = (3, 2) → ow_kd (o + 1) = (3, 3)) o (ow_lt h (by decide)) h
theorem ly_R_paths {o : Nat} (h : ow_kd o = (3, 2)) : ow_kd (o + 4) = (3, 4) := (by decide : ∀ o, o < 90 → ow_kd o = (3, 2) → ow_kd (o + 4) = (3, 4)) o (ow_lt h (by decide)) h
theorem ly_R_locks {o : Nat} (h : ow_kd o = (3, 2)) : ow_kd (o + 13) = (3, 5) := (by decide : ∀ o, o < 90 → ow_kd o = (3, 2) → ow_kd (o + 13) = (3, 5)) o (ow_lt h (by decide)) h
theorem ly_R_agreement {o : Nat} (h : ow_kd o = (3, 2)) : ow_kd (o + 16) = (3, 6) := (by decide : ∀ o, o < 90 → ow_kd o = (3, 2) → ow_kd (o + 16) = (3, 6)) o (ow_lt h (by decide)) h
theorem ly_R_beaten {o : Nat} (h : ow_kd o = (3, 2)) : ow_kd (o + 26) = (0, 7) := (by decide : ∀ o, o < 90 → ow_kd o = (3, 2) → ow_kd (o + 26) = (0, 7)) o (ow_lt h (by decide)) h
theorem ly_E_canBeLeft {o : Nat} (h : ow_kd o = (3, 3)) : ow_kd (o + 1) = (1, 128) := (by decide : ∀ o, o < 90 → ow_kd o = (3, 3) → ow_kd (o + 1) = (1, 128)) o (ow_lt h (by decide)) h
theorem ly_E_leads {o : Nat} (h : ow_kd o = (3, 3)) : ow_kd (o + 2) = (0, 7) := (by decide : ∀ o, o < 90 → ow_kd o = (3, 3) → ow_kd (o + 2) = (0, 7)) o (ow_lt h (by decide)) h
theorem ly_H_strength {o : Nat} (h : ow_kd o = (3, 4)) : ow_kd (o + 1) = (2, 7) := (by decide : ∀ o, o < 90 → ow_kd o = (3, 4) → ow_kd (o + 1) = (2, 7)) o (ow_lt h (by decide)) h
theorem ly_K_keys {o : Nat} (h : ow_kd o = (3, 5)) : ow_kd (o + 1) = (0, 21) := (by decide : ∀ o, o < 90 → ow_kd o = (3, 5) → ow_kd (o + 1) = (0, 21)) o (ow_lt h (by decide)) h
theorem ly_K_under {o : Nat} (h : ow_kd o = (3, 5)) : ow_kd (o + 2) = (0, 7) := (by decide : ∀ o, o < 90 → ow_kd o = (3, 5) → ow_kd (o + 2) = (0, 7)) o (ow_lt h (by decide)) h
theorem ly_A_least {o : Nat} (h : ow_kd o = (3, 6)) : ow_kd (o + 1) = (0, 128) := (by decide : ∀ o, o < 90 → ow_kd o = (3, 6) → ow_kd (o + 1) = (0, 128)) o (ow_lt h (by decide)) h
theorem ly_A_against {o : Nat} (h : ow_kd o = (3, 6)) : ow_kd (o + 2) = (5, 7) := (by decide : ∀ o, o < 90 → ow_kd o = (3, 6) → ow_kd (o + 2) = (5, 7)) o (ow_lt h (by decide)) h
theorem ly_W_rules {o : Nat} (h : ow_kd o = (3, 7)) : ow_kd (o + 1) = (3, 2) := (by decide : ∀ o, o < 90 → ow_kd o = (3, 7) → ow_kd (o + 1) = (3, 2)) o (ow_lt h (by decide)) h
theorem ly_W_trial {o : Nat} (h : ow_kd o = (3, 7)) : ow_kd (o + 28) = (3, 1) := (by decide : ∀ o, o < 90 → ow_kd o = (3, 7) → ow_kd (o + 28) = (3, 1)) o (ow_lt h (by decide)) h
theorem ly_W_orders {o : Nat} (h : ow_kd o = (3, 7)) : ow_kd (o + 48) = (3, 8) := (by decide : ∀ o, o < 90 → ow_kd o = (3, 7) → ow_kd (o + 48) = (3, 8)) o (ow_lt h (by decide)) h
theorem ly_S_row {o : Nat} (h : ow_kd o = (3, 8)) : ow_kd (o + 1) = (0, 7) := (by decide : ∀ o, o < 90 → ow_kd o = (3, 8) → ow_kd (o + 1) = (0, 7)) o (ow_lt h (by decide)) h
theorem ly_M_orders {o : Nat} (h : ow_kd o = (3, 9)) : ow_kd (o + 1) = (0, 140) := (by decide : ∀ o, o < 90 → ow_kd o = (3, 9) → ow_kd (o + 1) = (0, 140)) o (ow_lt h (by decide)) h
theorem ly_M_amounts {o : Nat} (h : ow_kd o = (3, 9)) : ow_kd (o + 2) = (0, 20) := (by decide : ∀ o, o < 90 → ow_kd o = (3, 9) → ow_kd (o + 2) = (0, 20)) o (ow_lt h (by decide)) h
theorem ly_M_ties {o : Nat} (h : ow_kd o = (3, 9)) : ow_kd (o + 3) = (0, 7) := (by decide : ∀ o, o < 90 → ow_kd o = (3, 9) → ow_kd (o + 3) = (0, 7)) o (ow_lt h (by decide)) h
theorem ly_M_agendas {o : Nat} (h : ow_kd o = (3, 9)) : ow_kd (o + 4) = (0, 7) := (by decide : ∀ o, o < 90 → ow_kd o = (3, 9) → ow_kd (o + 4) = (0, 7)) o (ow_lt h (by decide)) h
theorem ly_M_weights {o : Nat} (h : ow_kd o = (3, 9)) : ow_kd (o + 5) = (0, 7) := (by decide : ∀ o, o < 90 → ow_kd o = (3, 9) → ow_kd (o + 5) = (0, 7)) o (ow_lt h (by decide)) h
theorem ly_M_places {o : Nat} (h : ow_kd o = (3, 9)) : ow_kd (o + 6) = (0, 154) := (by decide : ∀ o, o < 90 → ow_kd o = (3, 9) → ow_kd (o + 6) = (0, 154)) o (ow_lt h (by decide)) h
theorem ly_M_voters {o : Nat} (h : ow_kd o = (3, 9)) : ow_kd (o + 7) = (0, 22) := (by decide : ∀ o, o < 90 → ow_kd o = (3, 9) → ow_kd (o + 7) = (0, 22)) o (ow_lt h (by decide)) h
theorem ly_M_tie {o : Nat} (h : ow_kd o = (3, 9)) : ow_kd (o + 8) = (0, 7) := (by decide : ∀ o, o < 90 → ow_kd o = (3, 9) → ow_kd (o + 8) = (0, 7)) o (ow_lt h (by decide)) h
theorem ly_M_turn {o : Nat} (h : ow_kd o = (3, 9)) : ow_kd (o + 9) = (0, 7) := (by decide : ∀ o, o < 90 → ow_kd o = (3, 9) → ow_kd (o + 9) = (0, 7)) o (ow_lt h (by decide)) h
theorem ly_M_weight {o : Nat} (h : ow_kd o = (3, 9)) : ow_kd (o + 10) = (0, 7) := (by decide : ∀ o, o < 90 → ow_kd o = (3, 9) → ow_kd (o + 10) = (0, 7)) o (ow_lt h (by decide)) h
theorem ly_M_pairs {o : Nat} (h : ow_kd o = (3, 9)) : ow_kd (o + 11) = (0, 49) := (by decide : ∀ o, o < 90 → ow_kd o = (3, 9) → ow_kd (o + 11) = (0, 49)) o (ow_lt h (by decide)) h
theorem ly_M_paths {o : Nat} (h : ow_kd o = (3, 9)) : ow_kd (o + 12) = (0, 49) := (by decide : ∀ o, o < 90 → ow_kd o = (3, 9) → ow_kd (o + 12) = (0, 49)) o (ow_lt h (by decide)) h
theorem ly_M_locked {o : Nat} (h : ow_kd o = (3, 9)) : ow_kd (o + 13) = (1, 49) := (by decide : ∀ o, o < 90 → ow_kd o = (3, 9) → ow_kd (o + 13) = (1, 49)) o (ow_lt h (by decide)) h
theorem ly_M_left {o : Nat} (h : ow_kd o = (3, 9)) : ow_kd (o + 14) = (1, 128) := (by decide : ∀ o, o < 90 → ow_kd o = (3, 9) → ow_kd (o + 14) = (1, 128)) o (ow_lt h (by decide)) h
theorem ly_M_least {o : Nat} (h : ow_kd o = (3, 9)) : ow_kd (o + 15) = (4, 128) := (by decide : ∀ o, o < 90 → ow_kd o = (3, 9) → ow_kd (o + 15) = (4, 128)) o (ow_lt h (by decide)) h
theorem ly_M_trial {o : Nat} (h : ow_kd o = (3, 9)) : ow_kd (o + 16) = (0, 7) := (by decide : ∀ o, o < 90 → ow_kd o = (3, 9) → ow_kd (o + 16) = (0, 7)) o (ow_lt h (by decide)) h
theorem ly_M_best {o : Nat} (h : ow_kd o = (3, 9)) : ow_kd (o + 17) = (0, 7) := (by decide : ∀ o, o < 90 → ow_kd o = (3, 9) → ow_kd (o + 17) = (0, 7)) o (ow_lt h (by decide)) h
theorem ly_row2 {o : Nat} {i : Int32} (h : ow_kd o = (2, 7)) (hi : vp_in i 7) : ow_kd (o + 1 + i.toNatClampNeg) = (0, 7) := (by decide : ∀ o, o < 90 → ow_kd o = (2, 7) → ∀ j, j < 7 → ow_kd (o + 1 + j) = (0, 7)) o (ow_lt h (by decide)) h _ (Nat.not_le.mp fun q => hi (Or.inr q))
theorem ly_row5 {o : Nat} {i : Int32} (h : ow_kd o = (5, 7)) (hi : vp_in i 7) : ow_kd (o + 1 + i.toNatClampNeg) = (0, 128) := (by decide : ∀ o, o < 90 → ow_kd o = (5, 7) → ∀ j, j < 7 → ow_kd (o + 1 + j) = (0, 128)) o (ow_lt h (by decide)) h _ (Nat.not_le.mp fun q => hi (Or.inr q))
end
section
def wp_O_at (F : Nat) (x0 : Int32) (x1 : Int32) (M : om_M) (Q : Int32 → om_M → Prop) : Prop := Q ((x0 >>> (((3 : Int32) * x1) &&& 31)) &&& 7) M
def wp_O_isOne_39 (F : Nat) (x0 : Int32) (x1 : Int32) (Q : Int32 → om_M → Prop)   (M : om_M) (x2 : Int32)  : Prop := ((x2 = (((1 : Int32) <<< (x1 &&& 31)) - 1) → Q 1 M) ∧ (¬ x2 = (((1 : Int32) <<< (x1 &&& 31)) - 1) → Q 0 M))
def wp_O_isOne_18b (F : Nat) (x0 : Int32) (x1 : Int32) (Q : Int32 → om_M → Prop)   (K18 : om_M × Int32 × Int32 → Prop) (M : om_M) (x2 : Int32) (x3 : Int32) : Prop := ((x1 ≤ x3 → wp_O_isOne_39 F x0 x1 Q M x2) ∧ (¬ x1 ≤ x3 → wp_O_at F x0 x3 M (fun r2 M1 => K18 (M1, x2 ||| ((1 : Int32) <<< (r2 &&& 31)), x3 + 1))))
def wp_O_isOne_18 (F : Nat) (x0 : Int32) (x1 : Int32) (Q : Int32 → om_M → Prop)   (M : om_M) (x2 : Int32) (x3 : Int32) : Prop := ow_lp (fun (z : om_M × Int32 × Int32) K => wp_O_isOne_18b F x0 x1 Q   K z.1 z.2.1 z.2.2) F (M, x2, x3)
def wp_O_isOne (F : Nat) (x0 : Int32) (x1 : Int32) (M : om_M) (Q : Int32 → om_M → Prop) : Prop := ((x0 < 0 → Q 0 M) ∧ (¬ x0 < 0 → (((x0 >>> (((3 : Int32) * x1) &&& 31)) = 0 → wp_O_isOne_18 F x0 x1 Q M 0 0) ∧ (¬ (x0 >>> (((3 : Int32) * x1) &&& 31)) = 0 → Q 0 M))))
def wp_O_placeOf_2b (F : Nat) (x0 : Int32) (x1 : Int32) (x2 : Int32) (Q : Int32 → om_M → Prop)   (K2 : om_M × Int32 → Prop) (M : om_M) (x3 : Int32) : Prop := ((x2 ≤ x3 → Q x2 M) ∧ (¬ x2 ≤ x3 → wp_O_at F x0 x3 M (fun r2 M1 => ((r2 = x1 → Q x3 M1) ∧ (¬ r2 = x1 → K2 (M1, x3 + 1))))))
def wp_O_placeOf_2 (F : Nat) (x0 : Int32) (x1 : Int32) (x2 : Int32) (Q : Int32 → om_M → Prop)   (M : om_M) (x3 : Int32) : Prop := ow_lp (fun (z : om_M × Int32) K => wp_O_placeOf_2b F x0 x1 x2 Q   K z.1 z.2) F (M, x3)
def wp_O_placeOf (F : Nat) (x0 : Int32) (x1 : Int32) (x2 : Int32) (M : om_M) (Q : Int32 → om_M → Prop) : Prop := wp_O_placeOf_2 F x0 x1 x2 Q M 0
abbrev rm_O_at : Room := { frames := 0, cells := 0, slots := 0, locals := 0 }
theorem hd_O_at : yn_O_at.cls ≠ "java/lang/invoke/MethodHandle" ∧ yn_O_at.cls ≠ "java/lang/invoke/VarHandle" ∧ (parseMethodDescriptor yn_O_at.desc).map (fun d => d.parameters.length) = some 2 := by decide +kernel
set_option maxHeartbeats 4000000 in
set_option maxRecDepth 100000 in
theorem ct_O_at (l : Launch) (D : va_G) (cA : Nat → ClassId) (ad : Nat → Nat) (F : Nat) (x0 : Int32) (x1 : Int32) (M : om_M) (Q : Int32 → om_M → Prop) (h : wp_O_at F x0 x1 M Q) : Met l yn_O_at (ow_ws yn_O_at cb_O_at 2 (some .int)) rm_O_at (ow_Pc D cA ad M [.int x0, .int x1]) (ow_Qi D cA ad Q) 0 0 (ow_A ad) := by
  refine Met.ofW (cc := cb_O_at) (maxL := 2) (ret := (some .int)) (by decide) rfl ?_
  intro p e s m args below meth c s₁ B hml hv
  obtain ⟨rfl, hB⟩ := hv
  have hx := B.exec
  have hb := B.bytes
  have hr := B.returns
  have hlocks := B.notSynchronized
  have hts : ∀ w ∈ lw_g, w.before ([.int x0, .int x1] : List Value).toArray s = true := fun w h => atoms_spec (ws := ow_ws yn_O_at cb_O_at 2 (some .int)) B.pre w (List.mem_cons_of_mem _ h)
  have hown : s.vm.findClass "BallotDesk$Order" = some m.cls := findClass_of_methodNamed B.named
  clear B
  have hl := lv_entry ([.int x0, .int x1]) (n := 2) (Nat.le_of_ble_eq_true rfl)
  rw [lg_entry_eq]
  generalize (lg_sl ([.int x0, .int x1]) ++ List.replicate (2 - (lg_sl ([.int x0, .int x1])).length) Slot.unset).toArray = ls at hl ⊢
  have hl : lv_has ls 2 [(0, .int x0), (1, .int x1)] := hl
  show W p l e rm_O_at s m _ below meth c s.heap [] 0 0 _ _
  refine lv_iload_n hx hb dc_O_at_0 rfl (lv_at hl 0 rfl) ?_
  refine lv_iconst (v := 3) hx hb dc_O_at_1 rfl ?_
  refine lv_iload_n hx hb dc_O_at_2 rfl (lv_at hl 1 rfl) ?_
  refine lv_imul hx hb dc_O_at_3 ?_
  refine lv_ishr hx hb dc_O_at_4 ?_
  refine lv_bipush (v := 7) hx hb dc_O_at_5 rfl ?_
  refine lv_iand hx hb dc_O_at_7 ?_
  exact ow_iret hx hb hr hlocks hB h dc_O_at_8
abbrev rm_O_isOne : Room := { frames := 1, cells := 0, slots := 0, locals := 21 }
theorem hd_O_isOne : yn_O_isOne.cls ≠ "java/lang/invoke/MethodHandle" ∧ yn_O_isOne.cls ≠ "java/lang/invoke/VarHandle" ∧ (parseMethodDescriptor yn_O_isOne.desc).map (fun d => d.parameters.length) = some 2 := by decide +kernel
set_option maxHeartbeats 4000000 in
set_option maxRecDepth 100000 in
theorem ct_O_isOne (l : Launch) (D : va_G) (cA : Nat → ClassId) (ad : Nat → Nat) (F : Nat) (x0 : Int32) (x1 : Int32) (M : om_M) (Q : Int32 → om_M → Prop) (h : wp_O_isOne F x0 x1 M Q) : Met l yn_O_isOne (ow_ws yn_O_isOne cb_O_isOne 4 (some .boolean)) rm_O_isOne (ow_Pc D cA ad M [.int x0, .int x1]) (ow_Qi D cA ad Q) 0 0 (ow_A ad) := by
  refine Met.ofW (cc := cb_O_isOne) (maxL := 4) (ret := (some .boolean)) (by decide) rfl ?_
  intro p e s m args below meth c s₁ B hml hv
  obtain ⟨rfl, hB⟩ := hv
  have hx := B.exec
  have hb := B.bytes
  have hr := B.returns
  have hlocks := B.notSynchronized
  have hts : ∀ w ∈ lw_g, w.before ([.int x0, .int x1] : List Value).toArray s = true := fun w h => atoms_spec (ws := ow_ws yn_O_isOne cb_O_isOne 4 (some .boolean)) B.pre w (List.mem_cons_of_mem _ h)
  have hown : s.vm.findClass "BallotDesk$Order" = some m.cls := findClass_of_methodNamed B.named
  clear B
  have L39 : ∀   (M : om_M) (x2 : Int32)  (H : Heap) (locs : List Loc) (ls : Array Slot), wp_O_isOne_39 F x0 x1 Q   M x2  → ow_B D cA ad (ow_A ad) M s s.heap H locs → lv_has ls 4 [(1, .int x1), (2, .int x2)] → W p l e rm_O_isOne s m ([.int x0, .int x1] : List Value).toArray below meth c H locs 0 0 (MQ below (ow_Qi D cA ad Q) ([.int x0, .int x1] : List Value).toArray s 0 0 (ow_A ad)) (F0 m 39 ls []) := by
    intro   M x2 H locs ls h hB hl
    refine lv_iload_n hx hb dc_O_isOne_39 rfl (lv_at hl 1 rfl) ?_
    refine lv_iconst (v := 1) hx hb dc_O_isOne_40 rfl ?_
    refine lv_iload_n hx hb dc_O_isOne_41 rfl (lv_at hl 0 rfl) ?_
    refine lv_ishl hx hb dc_O_isOne_42 ?_
    refine lv_iconst (v := 1) hx hb dc_O_isOne_43 rfl ?_
    refine lv_isub hx hb dc_O_isOne_44 ?_
    obtain ⟨h1, h2⟩ := h
    refine lv_icmp_ne hx hb dc_O_isOne_45 rfl (fun hc => ?_) (fun hc => ?_)
    · have h := h2 hc
      refine lv_iconst (v := 0) hx hb dc_O_isOne_52 rfl ?_
      exact ow_zret hx hb hr hlocks (by decide) hB h dc_O_isOne_53
    · have h := h1 hc
      refine lv_iconst (v := 1) hx hb dc_O_isOne_48 rfl ?_
      refine lv_goto hx hb dc_O_isOne_49 rfl ?_
      exact ow_zret hx hb hr hlocks (by decide) hB h dc_O_isOne_53
  have B18 : ∀   (K18 : om_M × Int32 × Int32 → Prop) (hK18 : ∀ (M : om_M) (x2 : Int32) (x3 : Int32) (H : Heap) (locs : List Loc) (ls : Array Slot), K18 (M, x2, x3) → ow_B D cA ad (ow_A ad) M s s.heap H locs → lv_has ls 4 [(0, .int x0), (1, .int x1), (2, .int x2), (3, .int x3)] → W p l e rm_O_isOne s m ([.int x0, .int x1] : List Value).toArray below meth c H locs 0 0 (MQ below (ow_Qi D cA ad Q) ([.int x0, .int x1] : List Value).toArray s 0 0 (ow_A ad)) (F0 m 18 ls [])) (M : om_M) (x2 : Int32) (x3 : Int32) (H : Heap) (locs : List Loc) (ls : Array Slot), wp_O_isOne_18b F x0 x1 Q   K18 M x2 x3 → ow_B D cA ad (ow_A ad) M s s.heap H locs → lv_has ls 4 [(0, .int x0), (1, .int x1), (2, .int x2), (3, .int x3)] → W p l e rm_O_isOne s m ([.int x0, .int x1] : List Value).toArray below meth c H locs 0 0 (MQ below (ow_Qi D cA ad Q) ([.int x0, .int x1] : List Value).toArray s 0 0 (ow_A ad)) (F0 m 18 ls []) := by
    intro   K18 hK18 M x2 x3 H locs ls h hB hl
    refine lv_iload_n hx hb dc_O_isOne_18 rfl (lv_at hl 3 rfl) ?_
    refine lv_iload_n hx hb dc_O_isOne_19 rfl (lv_at hl 1 rfl) ?_
    obtain ⟨h1, h2⟩ := h
    refine lv_icmp_ge hx hb dc_O_isOne_20 rfl (fun hc => ?_) (fun hc => ?_)
    · have h := h1 hc
      exact L39 _ _ _ _ _ h hB (lv_sub hl [1, 2] rfl)
    · have h := h2 hc
      refine lv_iload_n hx hb dc_O_isOne_23 rfl (lv_at hl 2 rfl) ?_
      refine lv_iconst (v := 1) hx hb dc_O_isOne_24 rfl ?_
      refine lv_iload_n hx hb dc_O_isOne_25 rfl (lv_at hl 0 rfl) ?_
      refine lv_iload_n hx hb dc_O_isOne_26 rfl (lv_at hl 3 rfl) ?_
      refine ow_calli (va_runS (As := [.int x0, .int x3]) (rest := [.int 1, .int x2]) ⟨hx, hb, hml, hown, hts⟩ (ct_O_at l D cA ad F _ _ _ _ h) ⟨ow_cb 2 hts mw_314 mw_3 mw_408 rfl rfl hd_O_at ⟨Nat.le_of_ble_eq_true rfl, Nat.le_of_ble_eq_true rfl⟩, hts _ mw_313⟩ (ow_preS hB) rfl rfl hl.1 rfl (lv_room (Nat.le_of_ble_eq_true rfl)) dc_O_isOne_27 ⟨Nat.zero_le _, Nat.zero_le _⟩) hB (fun r2 M1 H locs h hB => ?_)
      refine lv_ishl hx hb dc_O_isOne_30 ?_
      refine lv_ior hx hb dc_O_isOne_31 ?_
      refine lv_istore_n hx hb dc_O_isOne_32 rfl hl (by decide) rfl (fun ls hl => ?_)
      refine lv_iinc hx hb dc_O_isOne_33 hl (k := 3) rfl rfl (by decide) rfl (fun ls hl => ?_)
      refine lv_goto hx hb dc_O_isOne_36 rfl ?_
      exact hK18 _ _ _ _ _ _ h hB (lv_sub hl [2, 3, 1, 0] rfl)
  have L18 : ∀   (M : om_M) (x2 : Int32) (x3 : Int32) (H : Heap) (locs : List Loc) (ls : Array Slot), wp_O_isOne_18 F x0 x1 Q   M x2 x3 → ow_B D cA ad (ow_A ad) M s s.heap H locs → lv_has ls 4 [(0, .int x0), (1, .int x1), (2, .int x2), (3, .int x3)] → W p l e rm_O_isOne s m ([.int x0, .int x1] : List Value).toArray below meth c H locs 0 0 (MQ below (ow_Qi D cA ad Q) ([.int x0, .int x1] : List Value).toArray s 0 0 (ow_A ad)) (F0 m 18 ls []) := by
    have step : ∀ (k : Nat) (M : om_M) (x2 : Int32) (x3 : Int32) (H : Heap) (locs : List Loc) (ls : Array Slot), ow_lp (fun (z : om_M × Int32 × Int32) K => wp_O_isOne_18b F x0 x1 Q   K z.1 z.2.1 z.2.2) k (M, x2, x3) → ow_B D cA ad (ow_A ad) M s s.heap H locs → lv_has ls 4 [(0, .int x0), (1, .int x1), (2, .int x2), (3, .int x3)] → W p l e rm_O_isOne s m ([.int x0, .int x1] : List Value).toArray below meth c H locs 0 0 (MQ below (ow_Qi D cA ad Q) ([.int x0, .int x1] : List Value).toArray s 0 0 (ow_A ad)) (F0 m 18 ls []) := by
      intro k
      induction k with
      | zero => intro M x2 x3 H locs ls h hB hl; exact False.elim h
      | succ k ih => intro M x2 x3 H locs ls h hB hl; exact B18   (ow_lp _ k) (fun M x2 x3 H locs ls h hB  hl => ih M x2 x3  H locs ls h hB hl) M x2 x3 H locs ls h hB hl
    intro M x2 x3 H locs ls h hB hl
    exact step F M x2 x3 H locs ls h hB hl
  have hl := lv_entry ([.int x0, .int x1]) (n := 4) (Nat.le_of_ble_eq_true rfl)
  rw [lg_entry_eq]
  generalize (lg_sl ([.int x0, .int x1]) ++ List.replicate (4 - (lg_sl ([.int x0, .int x1])).length) Slot.unset).toArray = ls at hl ⊢
  have hl : lv_has ls 4 [(0, .int x0), (1, .int x1)] := hl
  show W p l e rm_O_isOne s m _ below meth c s.heap [] 0 0 _ _
  refine lv_iload_n hx hb dc_O_isOne_0 rfl (lv_at hl 0 rfl) ?_
  obtain ⟨h1, h2⟩ := h
  refine lv_if_lt hx hb dc_O_isOne_1 rfl (fun hc => ?_) (fun hc => ?_)
  · have h := h1 hc
    refine lv_iconst (v := 0) hx hb dc_O_isOne_12 rfl ?_
    exact ow_zret hx hb hr hlocks (by decide) hB h dc_O_isOne_13
  · have h := h2 hc
    refine lv_iload_n hx hb dc_O_isOne_4 rfl (lv_at hl 0 rfl) ?_
    refine lv_iconst (v := 3) hx hb dc_O_isOne_5 rfl ?_
    refine lv_iload_n hx hb dc_O_isOne_6 rfl (lv_at hl 1 rfl) ?_
    refine lv_imul hx hb dc_O_isOne_7 ?_
    refine lv_ishr hx hb dc_O_isOne_8 ?_
    obtain ⟨h1, h2⟩ := h
    refine lv_if_eq hx hb dc_O_isOne_9 rfl (fun hc => ?_) (fun hc => ?_)
    · have h := h1 hc
      refine lv_iconst (v := 0) hx hb dc_O_isOne_14 rfl ?_
      refine lv_istore_n hx hb dc_O_isOne_15 rfl hl (by decide) rfl (fun ls hl => ?_)
      refine lv_iconst (v := 0) hx hb dc_O_isOne_16 rfl ?_
      refine lv_istore_n hx hb dc_O_isOne_17 rfl hl (by decide) rfl (fun ls hl => ?_)
      exact L18 _ _ _ _ _ _ h hB (lv_sub hl [2, 3, 1, 0] rfl)
    · have h := h2 hc
      refine lv_iconst (v := 0) hx hb dc_O_isOne_12 rfl ?_
      exact ow_zret hx hb hr hlocks (by decide) hB h dc_O_isOne_13
abbrev rm_O_placeOf : Room := { frames := 1, cells := 0, slots := 0, locals := 21 }
theorem hd_O_placeOf : yn_O_placeOf.cls ≠ "java/lang/invoke/MethodHandle" ∧ yn_O_placeOf.cls ≠ "java/lang/invoke/VarHandle" ∧ (parseMethodDescriptor yn_O_placeOf.desc).map (fun d => d.parameters.length) = some 3 := by decide +kernel
set_option maxHeartbeats 4000000 in
set_option maxRecDepth 100000 in
theorem ct_O_placeOf (l : Launch) (D : va_G) (cA : Nat → ClassId) (ad : Nat → Nat) (F : Nat) (x0 : Int32) (x1 : Int32) (x2 : Int32) (M : om_M) (Q : Int32 → om_M → Prop) (h : wp_O_placeOf F x0 x1 x2 M Q) : Met l yn_O_placeOf (ow_ws yn_O_placeOf cb_O_placeOf 4 (some .int)) rm_O_placeOf (ow_Pc D cA ad M [.int x0, .int x1, .int x2]) (ow_Qi D cA ad Q) 0 0 (ow_A ad) := by
  refine Met.ofW (cc := cb_O_placeOf) (maxL := 4) (ret := (some .int)) (by decide) rfl ?_
  intro p e s m args below meth c s₁ B hml hv
  obtain ⟨rfl, hB⟩ := hv
  have hx := B.exec
  have hb := B.bytes
  have hr := B.returns
  have hlocks := B.notSynchronized
  have hts : ∀ w ∈ lw_g, w.before ([.int x0, .int x1, .int x2] : List Value).toArray s = true := fun w h => atoms_spec (ws := ow_ws yn_O_placeOf cb_O_placeOf 4 (some .int)) B.pre w (List.mem_cons_of_mem _ h)
  have hown : s.vm.findClass "BallotDesk$Order" = some m.cls := findClass_of_methodNamed B.named
  clear B
  have B2 : ∀   (K2 : om_M × Int32 → Prop) (hK2 : ∀ (M : om_M) (x3 : Int32) (H : Heap) (locs : List Loc) (ls : Array Slot), K2 (M, x3) → ow_B D cA ad (ow_A ad) M s s.heap H locs → lv_has ls 4 [(0, .int x0), (1, .int x1), (2, .int x2), (3, .int x3)] → W p l e rm_O_placeOf s m ([.int x0, .int x1, .int x2] : List Value).toArray below meth c H locs 0 0 (MQ below (ow_Qi D cA ad Q) ([.int x0, .int x1, .int x2] : List Value).toArray s 0 0 (ow_A ad)) (F0 m 2 ls [])) (M : om_M) (x3 : Int32) (H : Heap) (locs : List Loc) (ls : Array Slot), wp_O_placeOf_2b F x0 x1 x2 Q   K2 M x3 → ow_B D cA ad (ow_A ad) M s s.heap H locs → lv_has ls 4 [(0, .int x0), (1, .int x1), (2, .int x2), (3, .int x3)] → W p l e rm_O_placeOf s m ([.int x0, .int x1, .int x2] : List Value).toArray below meth c H locs 0 0 (MQ below (ow_Qi D cA ad Q) ([.int x0, .int x1, .int x2] : List Value).toArray s 0 0 (ow_A ad)) (F0 m 2 ls []) := by
    intro   K2 hK2 M x3 H locs ls h hB hl
    refine lv_iload_n hx hb dc_O_placeOf_2 rfl (lv_at hl 3 rfl) ?_
    refine lv_iload_n hx hb dc_O_placeOf_3 rfl (lv_at hl 2 rfl) ?_
    obtain ⟨h1, h2⟩ := h
    refine lv_icmp_ge hx hb dc_O_placeOf_4 rfl (fun hc => ?_) (fun hc => ?_)
    · have h := h1 hc
      refine lv_iload_n hx hb dc_O_placeOf_24 rfl (lv_at hl 2 rfl) ?_
      exact ow_iret hx hb hr hlocks hB h dc_O_placeOf_25
    · have h := h2 hc
      refine lv_iload_n hx hb dc_O_placeOf_7 rfl (lv_at hl 0 rfl) ?_
      refine lv_iload_n hx hb dc_O_placeOf_8 rfl (lv_at hl 3 rfl) ?_
      refine ow_calli (va_runS (As := [.int x0, .int x3]) (rest := []) ⟨hx, hb, hml, hown, hts⟩ (ct_O_at l D cA ad F _ _ _ _ h) ⟨ow_cb 2 hts mw_314 mw_3 mw_408 rfl rfl hd_O_at ⟨Nat.le_of_ble_eq_true rfl, Nat.le_of_ble_eq_true rfl⟩, hts _ mw_313⟩ (ow_preS hB) rfl rfl hl.1 rfl (lv_room (Nat.le_of_ble_eq_true rfl)) dc_O_placeOf_9 ⟨Nat.zero_le _, Nat.zero_le _⟩) hB (fun r2 M1 H locs h hB => ?_)
      refine lv_iload_n hx hb dc_O_placeOf_12 rfl (lv_at hl 1 rfl) ?_
      obtain ⟨h1, h2⟩ := h
      refine lv_icmp_ne hx hb dc_O_placeOf_13 rfl (fun hc => ?_) (fun hc => ?_)
      · have h := h2 hc
        refine lv_iinc hx hb dc_O_placeOf_18 hl (k := 3) rfl rfl (by decide) rfl (fun ls hl => ?_)
        refine lv_goto hx hb dc_O_placeOf_21 rfl ?_
        exact hK2 _ _ _ _ _ h hB (lv_sub hl [1, 2, 3, 0] rfl)
      · have h := h1 hc
        refine lv_iload_n hx hb dc_O_placeOf_16 rfl (lv_at hl 3 rfl) ?_
        exact ow_iret hx hb hr hlocks hB h dc_O_placeOf_17
  have L2 : ∀   (M : om_M) (x3 : Int32) (H : Heap) (locs : List Loc) (ls : Array Slot), wp_O_placeOf_2 F x0 x1 x2 Q   M x3 → ow_B D cA ad (ow_A ad) M s s.heap H locs → lv_has ls 4 [(0, .int x0), (1, .int x1), (2, .int x2), (3, .int x3)] → W p l e rm_O_placeOf s m ([.int x0, .int x1, .int x2] : List Value).toArray below meth c H locs 0 0 (MQ below (ow_Qi D cA ad Q) ([.int x0, .int x1, .int x2] : List Value).toArray s 0 0 (ow_A ad)) (F0 m 2 ls []) := by
    have step : ∀ (k : Nat) (M : om_M) (x3 : Int32) (H : Heap) (locs : List Loc) (ls : Array Slot), ow_lp (fun (z : om_M × Int32) K => wp_O_placeOf_2b F x0 x1 x2 Q   K z.1 z.2) k (M, x3) → ow_B D cA ad (ow_A ad) M s s.heap H locs → lv_has ls 4 [(0, .int x0), (1, .int x1), (2, .int x2), (3, .int x3)] → W p l e rm_O_placeOf s m ([.int x0, .int x1, .int x2] : List Value).toArray below meth c H locs 0 0 (MQ below (ow_Qi D cA ad Q) ([.int x0, .int x1, .int x2] : List Value).toArray s 0 0 (ow_A ad)) (F0 m 2 ls []) := by
      intro k
      induction k with
      | zero => intro M x3 H locs ls h hB hl; exact False.elim h
      | succ k ih => intro M x3 H locs ls h hB hl; exact B2   (ow_lp _ k) (fun M x3 H locs ls h hB  hl => ih M x3  H locs ls h hB hl) M x3 H locs ls h hB hl
    intro M x3 H locs ls h hB hl
    exact step F M x3 H locs ls h hB hl
  have hl := lv_entry ([.int x0, .int x1, .int x2]) (n := 4) (Nat.le_of_ble_eq_true rfl)
  rw [lg_entry_eq]
  generalize (lg_sl ([.int x0, .int x1, .int x2]) ++ List.replicate (4 - (lg_sl ([.int x0, .int x1, .int x2])).length) Slot.unset).toArray = ls at hl ⊢
  have hl : lv_has ls 4 [(0, .int x0), (1, .int x1), (2, .int x2)] := hl
  show W p l e rm_O_placeOf s m _ below meth c s.heap [] 0 0 _ _
  refine lv_iconst (v := 0) hx hb dc_O_placeOf_0 rfl ?_
  refine lv_istore_n hx hb dc_O_placeOf_1 rfl hl (by decide) rfl (fun ls hl => ?_)
  exact L2 _ _ _ _ _ h hB (lv_sub hl [1, 2, 3, 0] rfl)
end
