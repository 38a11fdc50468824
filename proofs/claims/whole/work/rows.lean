section
-- ===== PART A: goes FIRST, ahead of the names: the tables' words, and 'selects' of the private methods out of them =====
/-- a private method of a class that the tables say can be made, by its rows of tables_1 -/
def lw_okq (q : MethodName × Nat) : Prop := (q.1.cls ≠ "java/lang/invoke/MethodHandle" ∧ q.1.cls ≠ "java/lang/invoke/VarHandle") ∧ Cond.instantiable q.1.cls q.2 ∈ tables_1 ∧ Cond.privateMethod q.1 ∈ tables_1 ∧ Cond.instanceMethod q.1 ∈ tables_1
theorem lw_p0 : lw_okq (⟨"MiddlePlank", "textAt", "(I)LMiddlePlank$Text;"⟩, 16) := ⟨⟨by decide +kernel, by decide +kernel⟩, List.mem_of_getElem? (i := 14) (by decide +kernel), List.mem_of_getElem? (i := 264) (by decide +kernel), List.mem_of_getElem? (i := 265) (by decide +kernel)⟩
theorem lw_p1 : lw_okq (⟨"MiddlePlank", "freshen", "()V"⟩, 16) := ⟨⟨by decide +kernel, by decide +kernel⟩, List.mem_of_getElem? (i := 14) (by decide +kernel), List.mem_of_getElem? (i := 323) (by decide +kernel), List.mem_of_getElem? (i := 324) (by decide +kernel)⟩
theorem lw_p2 : lw_okq (⟨"MiddlePlank$Bridge", "measure", "(II)V"⟩, 7) := ⟨⟨by decide +kernel, by decide +kernel⟩, List.mem_of_getElem? (i := 24) (by decide +kernel), List.mem_of_getElem? (i := 338) (by decide +kernel), List.mem_of_getElem? (i := 339) (by decide +kernel)⟩
theorem lw_p3 : lw_okq (⟨"MiddlePlank$Bridge", "isHole", "(III)Z"⟩, 7) := ⟨⟨by decide +kernel, by decide +kernel⟩, List.mem_of_getElem? (i := 24) (by decide +kernel), List.mem_of_getElem? (i := 342) (by decide +kernel), List.mem_of_getElem? (i := 343) (by decide +kernel)⟩
theorem lw_p4 : lw_okq (⟨"MiddlePlank", "isNumberOfCrossings", "(I)Z"⟩, 16) := ⟨⟨by decide +kernel, by decide +kernel⟩, List.mem_of_getElem? (i := 14) (by decide +kernel), List.mem_of_getElem? (i := 435) (by decide +kernel), List.mem_of_getElem? (i := 436) (by decide +kernel)⟩
theorem lw_p5 : lw_okq (⟨"MiddlePlank", "outcomeOfCrossing", "(I)I"⟩, 16) := ⟨⟨by decide +kernel, by decide +kernel⟩, List.mem_of_getElem? (i := 14) (by decide +kernel), List.mem_of_getElem? (i := 456) (by decide +kernel), List.mem_of_getElem? (i := 457) (by decide +kernel)⟩
theorem lw_p6 : lw_okq (⟨"MiddlePlank", "tollsBehind", "(I)I"⟩, 16) := ⟨⟨by decide +kernel, by decide +kernel⟩, List.mem_of_getElem? (i := 14) (by decide +kernel), List.mem_of_getElem? (i := 464) (by decide +kernel), List.mem_of_getElem? (i := 465) (by decide +kernel)⟩
theorem lw_p7 : lw_okq (⟨"MiddlePlank", "countVisits", "()V"⟩, 16) := ⟨⟨by decide +kernel, by decide +kernel⟩, List.mem_of_getElem? (i := 14) (by decide +kernel), List.mem_of_getElem? (i := 476) (by decide +kernel), List.mem_of_getElem? (i := 477) (by decide +kernel)⟩
theorem lw_p8 : lw_okq (⟨"MiddlePlank", "freshenPlan", "()V"⟩, 16) := ⟨⟨by decide +kernel, by decide +kernel⟩, List.mem_of_getElem? (i := 14) (by decide +kernel), List.mem_of_getElem? (i := 484) (by decide +kernel), List.mem_of_getElem? (i := 485) (by decide +kernel)⟩
theorem lw_p9 : lw_okq (⟨"MiddlePlank$Plan", "weigh", "(LMiddlePlank$Bridge;LMiddlePlank$Crosser;I)V"⟩, 8) := ⟨⟨by decide +kernel, by decide +kernel⟩, List.mem_of_getElem? (i := 120) (by decide +kernel), List.mem_of_getElem? (i := 494) (by decide +kernel), List.mem_of_getElem? (i := 495) (by decide +kernel)⟩
theorem lw_p10 : lw_okq (⟨"MiddlePlank$Plan", "findBest", "()V"⟩, 8) := ⟨⟨by decide +kernel, by decide +kernel⟩, List.mem_of_getElem? (i := 120) (by decide +kernel), List.mem_of_getElem? (i := 501) (by decide +kernel), List.mem_of_getElem? (i := 502) (by decide +kernel)⟩
theorem lw_p11 : lw_okq (⟨"MiddlePlank$Plan", "bestOf", "(II)I"⟩, 8) := ⟨⟨by decide +kernel, by decide +kernel⟩, List.mem_of_getElem? (i := 120) (by decide +kernel), List.mem_of_getElem? (i := 505) (by decide +kernel), List.mem_of_getElem? (i := 506) (by decide +kernel)⟩
theorem lw_p12 : lw_okq (⟨"MiddlePlank$Plan", "worthOf", "(III)I"⟩, 8) := ⟨⟨by decide +kernel, by decide +kernel⟩, List.mem_of_getElem? (i := 120) (by decide +kernel), List.mem_of_getElem? (i := 509) (by decide +kernel), List.mem_of_getElem? (i := 510) (by decide +kernel)⟩
theorem lw_p13 : lw_okq (⟨"MiddlePlank$Plan", "followBest", "(LMiddlePlank$Bridge;LMiddlePlank$Crossers;I)V"⟩, 8) := ⟨⟨by decide +kernel, by decide +kernel⟩, List.mem_of_getElem? (i := 120) (by decide +kernel), List.mem_of_getElem? (i := 514) (by decide +kernel), List.mem_of_getElem? (i := 515) (by decide +kernel)⟩
theorem lw_p14 : lw_okq (⟨"MiddlePlank$Plan", "leastOfBest", "(II)I"⟩, 8) := ⟨⟨by decide +kernel, by decide +kernel⟩, List.mem_of_getElem? (i := 120) (by decide +kernel), List.mem_of_getElem? (i := 518) (by decide +kernel), List.mem_of_getElem? (i := 519) (by decide +kernel)⟩
theorem lw_p15 : lw_okq (⟨"MiddlePlank", "gapBehindAll", "()I"⟩, 16) := ⟨⟨by decide +kernel, by decide +kernel⟩, List.mem_of_getElem? (i := 14) (by decide +kernel), List.mem_of_getElem? (i := 531) (by decide +kernel), List.mem_of_getElem? (i := 532) (by decide +kernel)⟩
def lw_privs_1 : List (MethodName × Nat) := [(⟨"MiddlePlank", "textAt", "(I)LMiddlePlank$Text;"⟩, 16), (⟨"MiddlePlank", "freshen", "()V"⟩, 16), (⟨"MiddlePlank$Bridge", "measure", "(II)V"⟩, 7), (⟨"MiddlePlank$Bridge", "isHole", "(III)Z"⟩, 7), (⟨"MiddlePlank", "isNumberOfCrossings", "(I)Z"⟩, 16), (⟨"MiddlePlank", "outcomeOfCrossing", "(I)I"⟩, 16), (⟨"MiddlePlank", "tollsBehind", "(I)I"⟩, 16), (⟨"MiddlePlank", "countVisits", "()V"⟩, 16), (⟨"MiddlePlank", "freshenPlan", "()V"⟩, 16), (⟨"MiddlePlank$Plan", "weigh", "(LMiddlePlank$Bridge;LMiddlePlank$Crosser;I)V"⟩, 8), (⟨"MiddlePlank$Plan", "findBest", "()V"⟩, 8), (⟨"MiddlePlank$Plan", "bestOf", "(II)I"⟩, 8), (⟨"MiddlePlank$Plan", "worthOf", "(III)I"⟩, 8), (⟨"MiddlePlank$Plan", "followBest", "(LMiddlePlank$Bridge;LMiddlePlank$Crossers;I)V"⟩, 8), (⟨"MiddlePlank$Plan", "leastOfBest", "(II)I"⟩, 8), (⟨"MiddlePlank", "gapBehindAll", "()I"⟩, 16)]
theorem lw_r1 : ∀ q ∈ lw_privs_1, lw_okq q := List.forall_mem_cons.mpr ⟨lw_p0, List.forall_mem_cons.mpr ⟨lw_p1, List.forall_mem_cons.mpr ⟨lw_p2, List.forall_mem_cons.mpr ⟨lw_p3, List.forall_mem_cons.mpr ⟨lw_p4, List.forall_mem_cons.mpr ⟨lw_p5, List.forall_mem_cons.mpr ⟨lw_p6, List.forall_mem_cons.mpr ⟨lw_p7, List.forall_mem_cons.mpr ⟨lw_p8, List.forall_mem_cons.mpr ⟨lw_p9, List.forall_mem_cons.mpr ⟨lw_p10, List.forall_mem_cons.mpr ⟨lw_p11, List.forall_mem_cons.mpr ⟨lw_p12, List.forall_mem_cons.mpr ⟨lw_p13, List.forall_mem_cons.mpr ⟨lw_p14, List.forall_mem_cons.mpr ⟨lw_p15, fun _ h => absurd h List.not_mem_nil⟩⟩⟩⟩⟩⟩⟩⟩⟩⟩⟩⟩⟩⟩⟩⟩
theorem lw_p16 : lw_okq (⟨"MiddlePlank", "sheetAt", "(I)LMiddlePlank$Sheet;"⟩, 16) := ⟨⟨by decide +kernel, by decide +kernel⟩, List.mem_of_getElem? (i := 14) (by decide +kernel), List.mem_of_getElem? (i := 565) (by decide +kernel), List.mem_of_getElem? (i := 566) (by decide +kernel)⟩
theorem lw_p17 : lw_okq (⟨"MiddlePlank", "finding", "(I)I"⟩, 16) := ⟨⟨by decide +kernel, by decide +kernel⟩, List.mem_of_getElem? (i := 14) (by decide +kernel), List.mem_of_getElem? (i := 569) (by decide +kernel), List.mem_of_getElem? (i := 570) (by decide +kernel)⟩
theorem lw_p18 : lw_okq (⟨"MiddlePlank", "comesOutAsSeen", "(I[I)Z"⟩, 16) := ⟨⟨by decide +kernel, by decide +kernel⟩, List.mem_of_getElem? (i := 14) (by decide +kernel), List.mem_of_getElem? (i := 588) (by decide +kernel), List.mem_of_getElem? (i := 589) (by decide +kernel)⟩
theorem lw_p19 : lw_okq (⟨"MiddlePlank", "spreadChances", "(I)V"⟩, 16) := ⟨⟨by decide +kernel, by decide +kernel⟩, List.mem_of_getElem? (i := 14) (by decide +kernel), List.mem_of_getElem? (i := 609) (by decide +kernel), List.mem_of_getElem? (i := 610) (by decide +kernel)⟩
theorem lw_p20 : lw_okq (⟨"MiddlePlank", "spreadOver", "(LMiddlePlank$Crosser;I)V"⟩, 16) := ⟨⟨by decide +kernel, by decide +kernel⟩, List.mem_of_getElem? (i := 14) (by decide +kernel), List.mem_of_getElem? (i := 613) (by decide +kernel), List.mem_of_getElem? (i := 614) (by decide +kernel)⟩
theorem lw_p21 : lw_okq (⟨"MiddlePlank$Sheet", "lowestBits", "(I)I"⟩, 4) := ⟨⟨by decide +kernel, by decide +kernel⟩, List.mem_of_getElem? (i := 188) (by decide +kernel), List.mem_of_getElem? (i := 647) (by decide +kernel), List.mem_of_getElem? (i := 648) (by decide +kernel)⟩
theorem lw_p22 : lw_okq (⟨"MiddlePlank", "digestPlanks", "(J)J"⟩, 16) := ⟨⟨by decide +kernel, by decide +kernel⟩, List.mem_of_getElem? (i := 14) (by decide +kernel), List.mem_of_getElem? (i := 678) (by decide +kernel), List.mem_of_getElem? (i := 679) (by decide +kernel)⟩
theorem lw_p23 : lw_okq (⟨"MiddlePlank", "digestCrossers", "(J)J"⟩, 16) := ⟨⟨by decide +kernel, by decide +kernel⟩, List.mem_of_getElem? (i := 14) (by decide +kernel), List.mem_of_getElem? (i := 684) (by decide +kernel), List.mem_of_getElem? (i := 685) (by decide +kernel)⟩
theorem lw_p24 : lw_okq (⟨"MiddlePlank", "digestCrossings", "(J)J"⟩, 16) := ⟨⟨by decide +kernel, by decide +kernel⟩, List.mem_of_getElem? (i := 14) (by decide +kernel), List.mem_of_getElem? (i := 692) (by decide +kernel), List.mem_of_getElem? (i := 693) (by decide +kernel)⟩
theorem lw_p25 : lw_okq (⟨"MiddlePlankModel", "finds", "(I)I"⟩, 31) := ⟨⟨by decide +kernel, by decide +kernel⟩, List.mem_of_getElem? (i := 707) (by decide +kernel), List.mem_of_getElem? (i := 819) (by decide +kernel), List.mem_of_getElem? (i := 820) (by decide +kernel)⟩
theorem lw_p26 : lw_okq (⟨"MiddlePlankModel", "lacks", "(III)I"⟩, 31) := ⟨⟨by decide +kernel, by decide +kernel⟩, List.mem_of_getElem? (i := 707) (by decide +kernel), List.mem_of_getElem? (i := 831) (by decide +kernel), List.mem_of_getElem? (i := 832) (by decide +kernel)⟩
theorem lw_p27 : lw_okq (⟨"MiddlePlankModel", "readsText", "(I)I"⟩, 31) := ⟨⟨by decide +kernel, by decide +kernel⟩, List.mem_of_getElem? (i := 707) (by decide +kernel), List.mem_of_getElem? (i := 867) (by decide +kernel), List.mem_of_getElem? (i := 868) (by decide +kernel)⟩
theorem lw_p28 : lw_okq (⟨"MiddlePlankModel", "readsPlanks", "()I"⟩, 31) := ⟨⟨by decide +kernel, by decide +kernel⟩, List.mem_of_getElem? (i := 707) (by decide +kernel), List.mem_of_getElem? (i := 871) (by decide +kernel), List.mem_of_getElem? (i := 872) (by decide +kernel)⟩
theorem lw_p29 : lw_okq (⟨"MiddlePlankModel", "readsCrossers", "()I"⟩, 31) := ⟨⟨by decide +kernel, by decide +kernel⟩, List.mem_of_getElem? (i := 707) (by decide +kernel), List.mem_of_getElem? (i := 875) (by decide +kernel), List.mem_of_getElem? (i := 876) (by decide +kernel)⟩
theorem lw_p30 : lw_okq (⟨"MiddlePlankModel", "readsCrossings", "()I"⟩, 31) := ⟨⟨by decide +kernel, by decide +kernel⟩, List.mem_of_getElem? (i := 707) (by decide +kernel), List.mem_of_getElem? (i := 888) (by decide +kernel), List.mem_of_getElem? (i := 889) (by decide +kernel)⟩
theorem lw_p31 : lw_okq (⟨"MiddlePlankModel", "isCrosser", "(I)Z"⟩, 31) := ⟨⟨by decide +kernel, by decide +kernel⟩, List.mem_of_getElem? (i := 707) (by decide +kernel), List.mem_of_getElem? (i := 903) (by decide +kernel), List.mem_of_getElem? (i := 904) (by decide +kernel)⟩
def lw_privs_2 : List (MethodName × Nat) := [(⟨"MiddlePlank", "sheetAt", "(I)LMiddlePlank$Sheet;"⟩, 16), (⟨"MiddlePlank", "finding", "(I)I"⟩, 16), (⟨"MiddlePlank", "comesOutAsSeen", "(I[I)Z"⟩, 16), (⟨"MiddlePlank", "spreadChances", "(I)V"⟩, 16), (⟨"MiddlePlank", "spreadOver", "(LMiddlePlank$Crosser;I)V"⟩, 16), (⟨"MiddlePlank$Sheet", "lowestBits", "(I)I"⟩, 4), (⟨"MiddlePlank", "digestPlanks", "(J)J"⟩, 16), (⟨"MiddlePlank", "digestCrossers", "(J)J"⟩, 16), (⟨"MiddlePlank", "digestCrossings", "(J)J"⟩, 16), (⟨"MiddlePlankModel", "finds", "(I)I"⟩, 31), (⟨"MiddlePlankModel", "lacks", "(III)I"⟩, 31), (⟨"MiddlePlankModel", "readsText", "(I)I"⟩, 31), (⟨"MiddlePlankModel", "readsPlanks", "()I"⟩, 31), (⟨"MiddlePlankModel", "readsCrossers", "()I"⟩, 31), (⟨"MiddlePlankModel", "readsCrossings", "()I"⟩, 31), (⟨"MiddlePlankModel", "isCrosser", "(I)Z"⟩, 31)]
theorem lw_r2 : ∀ q ∈ lw_privs_2, lw_okq q := List.forall_mem_cons.mpr ⟨lw_p16, List.forall_mem_cons.mpr ⟨lw_p17, List.forall_mem_cons.mpr ⟨lw_p18, List.forall_mem_cons.mpr ⟨lw_p19, List.forall_mem_cons.mpr ⟨lw_p20, List.forall_mem_cons.mpr ⟨lw_p21, List.forall_mem_cons.mpr ⟨lw_p22, List.forall_mem_cons.mpr ⟨lw_p23, List.forall_mem_cons.mpr ⟨lw_p24, List.forall_mem_cons.mpr ⟨lw_p25, List.forall_mem_cons.mpr ⟨lw_p26, List.forall_mem_cons.mpr ⟨lw_p27, List.forall_mem_cons.mpr ⟨lw_p28, List.forall_mem_cons.mpr ⟨lw_p29, List.forall_mem_cons.mpr ⟨lw_p30, List.forall_mem_cons.mpr ⟨lw_p31, fun _ h => absurd h List.not_mem_nil⟩⟩⟩⟩⟩⟩⟩⟩⟩⟩⟩⟩⟩⟩⟩⟩
theorem lw_p32 : lw_okq (⟨"MiddlePlankModel", "find", "()V"⟩, 31) := ⟨⟨by decide +kernel, by decide +kernel⟩, List.mem_of_getElem? (i := 707) (by decide +kernel), List.mem_of_getElem? (i := 929) (by decide +kernel), List.mem_of_getElem? (i := 930) (by decide +kernel)⟩
theorem lw_p33 : lw_okq (⟨"MiddlePlankModel", "lives", "()V"⟩, 31) := ⟨⟨by decide +kernel, by decide +kernel⟩, List.mem_of_getElem? (i := 707) (by decide +kernel), List.mem_of_getElem? (i := 933) (by decide +kernel), List.mem_of_getElem? (i := 934) (by decide +kernel)⟩
theorem lw_p34 : lw_okq (⟨"MiddlePlankModel", "begins", "()V"⟩, 31) := ⟨⟨by decide +kernel, by decide +kernel⟩, List.mem_of_getElem? (i := 707) (by decide +kernel), List.mem_of_getElem? (i := 937) (by decide +kernel), List.mem_of_getElem? (i := 938) (by decide +kernel)⟩
theorem lw_p35 : lw_okq (⟨"MiddlePlankModel", "tries", "(I)I"⟩, 31) := ⟨⟨by decide +kernel, by decide +kernel⟩, List.mem_of_getElem? (i := 707) (by decide +kernel), List.mem_of_getElem? (i := 944) (by decide +kernel), List.mem_of_getElem? (i := 945) (by decide +kernel)⟩
theorem lw_p36 : lw_okq (⟨"MiddlePlankModel", "looks", "(I)V"⟩, 31) := ⟨⟨by decide +kernel, by decide +kernel⟩, List.mem_of_getElem? (i := 707) (by decide +kernel), List.mem_of_getElem? (i := 948) (by decide +kernel), List.mem_of_getElem? (i := 949) (by decide +kernel)⟩
theorem lw_p37 : lw_okq (⟨"MiddlePlankModel", "isHole", "(II)Z"⟩, 31) := ⟨⟨by decide +kernel, by decide +kernel⟩, List.mem_of_getElem? (i := 707) (by decide +kernel), List.mem_of_getElem? (i := 952) (by decide +kernel), List.mem_of_getElem? (i := 953) (by decide +kernel)⟩
theorem lw_p38 : lw_okq (⟨"MiddlePlankModel", "moves", "(I)I"⟩, 31) := ⟨⟨by decide +kernel, by decide +kernel⟩, List.mem_of_getElem? (i := 707) (by decide +kernel), List.mem_of_getElem? (i := 959) (by decide +kernel), List.mem_of_getElem? (i := 960) (by decide +kernel)⟩
theorem lw_p39 : lw_okq (⟨"MiddlePlankModel", "tollOf", "(II)I"⟩, 31) := ⟨⟨by decide +kernel, by decide +kernel⟩, List.mem_of_getElem? (i := 707) (by decide +kernel), List.mem_of_getElem? (i := 963) (by decide +kernel), List.mem_of_getElem? (i := 964) (by decide +kernel)⟩
theorem lw_p40 : lw_okq (⟨"MiddlePlankModel", "comesBy", "(II)I"⟩, 31) := ⟨⟨by decide +kernel, by decide +kernel⟩, List.mem_of_getElem? (i := 707) (by decide +kernel), List.mem_of_getElem? (i := 971) (by decide +kernel), List.mem_of_getElem? (i := 972) (by decide +kernel)⟩
theorem lw_p41 : lw_okq (⟨"MiddlePlankModel", "timesBy", "(II)I"⟩, 31) := ⟨⟨by decide +kernel, by decide +kernel⟩, List.mem_of_getElem? (i := 707) (by decide +kernel), List.mem_of_getElem? (i := 979) (by decide +kernel), List.mem_of_getElem? (i := 980) (by decide +kernel)⟩
theorem lw_p42 : lw_okq (⟨"MiddlePlankModel", "takenBy", "(I)I"⟩, 31) := ⟨⟨by decide +kernel, by decide +kernel⟩, List.mem_of_getElem? (i := 707) (by decide +kernel), List.mem_of_getElem? (i := 987) (by decide +kernel), List.mem_of_getElem? (i := 988) (by decide +kernel)⟩
theorem lw_p43 : lw_okq (⟨"MiddlePlankModel", "stuckNow", "()I"⟩, 31) := ⟨⟨by decide +kernel, by decide +kernel⟩, List.mem_of_getElem? (i := 707) (by decide +kernel), List.mem_of_getElem? (i := 995) (by decide +kernel), List.mem_of_getElem? (i := 996) (by decide +kernel)⟩
theorem lw_p44 : lw_okq (⟨"MiddlePlankModel", "wornNow", "()I"⟩, 31) := ⟨⟨by decide +kernel, by decide +kernel⟩, List.mem_of_getElem? (i := 707) (by decide +kernel), List.mem_of_getElem? (i := 1003) (by decide +kernel), List.mem_of_getElem? (i := 1004) (by decide +kernel)⟩
theorem lw_p45 : lw_okq (⟨"MiddlePlankModel", "findOrder", "()V"⟩, 31) := ⟨⟨by decide +kernel, by decide +kernel⟩, List.mem_of_getElem? (i := 707) (by decide +kernel), List.mem_of_getElem? (i := 1011) (by decide +kernel), List.mem_of_getElem? (i := 1012) (by decide +kernel)⟩
theorem lw_p46 : lw_okq (⟨"MiddlePlankModel", "weighs", "()V"⟩, 31) := ⟨⟨by decide +kernel, by decide +kernel⟩, List.mem_of_getElem? (i := 707) (by decide +kernel), List.mem_of_getElem? (i := 1015) (by decide +kernel), List.mem_of_getElem? (i := 1016) (by decide +kernel)⟩
theorem lw_p47 : lw_okq (⟨"MiddlePlankModel", "nextRow", "()Z"⟩, 31) := ⟨⟨by decide +kernel, by decide +kernel⟩, List.mem_of_getElem? (i := 707) (by decide +kernel), List.mem_of_getElem? (i := 1019) (by decide +kernel), List.mem_of_getElem? (i := 1020) (by decide +kernel)⟩
def lw_privs_3 : List (MethodName × Nat) := [(⟨"MiddlePlankModel", "find", "()V"⟩, 31), (⟨"MiddlePlankModel", "lives", "()V"⟩, 31), (⟨"MiddlePlankModel", "begins", "()V"⟩, 31), (⟨"MiddlePlankModel", "tries", "(I)I"⟩, 31), (⟨"MiddlePlankModel", "looks", "(I)V"⟩, 31), (⟨"MiddlePlankModel", "isHole", "(II)Z"⟩, 31), (⟨"MiddlePlankModel", "moves", "(I)I"⟩, 31), (⟨"MiddlePlankModel", "tollOf", "(II)I"⟩, 31), (⟨"MiddlePlankModel", "comesBy", "(II)I"⟩, 31), (⟨"MiddlePlankModel", "timesBy", "(II)I"⟩, 31), (⟨"MiddlePlankModel", "takenBy", "(I)I"⟩, 31), (⟨"MiddlePlankModel", "stuckNow", "()I"⟩, 31), (⟨"MiddlePlankModel", "wornNow", "()I"⟩, 31), (⟨"MiddlePlankModel", "findOrder", "()V"⟩, 31), (⟨"MiddlePlankModel", "weighs", "()V"⟩, 31), (⟨"MiddlePlankModel", "nextRow", "()Z"⟩, 31)]
theorem lw_r3 : ∀ q ∈ lw_privs_3, lw_okq q := List.forall_mem_cons.mpr ⟨lw_p32, List.forall_mem_cons.mpr ⟨lw_p33, List.forall_mem_cons.mpr ⟨lw_p34, List.forall_mem_cons.mpr ⟨lw_p35, List.forall_mem_cons.mpr ⟨lw_p36, List.forall_mem_cons.mpr ⟨lw_p37, List.forall_mem_cons.mpr ⟨lw_p38, List.forall_mem_cons.mpr ⟨lw_p39, List.forall_mem_cons.mpr ⟨lw_p40, List.forall_mem_cons.mpr ⟨lw_p41, List.forall_mem_cons.mpr ⟨lw_p42, List.forall_mem_cons.mpr ⟨lw_p43, List.forall_mem_cons.mpr ⟨lw_p44, List.forall_mem_cons.mpr ⟨lw_p45, List.forall_mem_cons.mpr ⟨lw_p46, List.forall_mem_cons.mpr ⟨lw_p47, fun _ h => absurd h List.not_mem_nil⟩⟩⟩⟩⟩⟩⟩⟩⟩⟩⟩⟩⟩⟩⟩⟩
theorem lw_p48 : lw_okq (⟨"MiddlePlankModel", "orderBy", "(I)I"⟩, 31) := ⟨⟨by decide +kernel, by decide +kernel⟩, List.mem_of_getElem? (i := 707) (by decide +kernel), List.mem_of_getElem? (i := 1023) (by decide +kernel), List.mem_of_getElem? (i := 1024) (by decide +kernel)⟩
theorem lw_p49 : lw_okq (⟨"MiddlePlankModel", "aheadOf", "(I)I"⟩, 31) := ⟨⟨by decide +kernel, by decide +kernel⟩, List.mem_of_getElem? (i := 707) (by decide +kernel), List.mem_of_getElem? (i := 1031) (by decide +kernel), List.mem_of_getElem? (i := 1032) (by decide +kernel)⟩
theorem lw_p50 : lw_okq (⟨"MiddlePlankModel", "oftenOf", "(II)I"⟩, 31) := ⟨⟨by decide +kernel, by decide +kernel⟩, List.mem_of_getElem? (i := 707) (by decide +kernel), List.mem_of_getElem? (i := 1039) (by decide +kernel), List.mem_of_getElem? (i := 1040) (by decide +kernel)⟩
theorem lw_p51 : lw_okq (⟨"MiddlePlankModel", "ruleOf", "(I)I"⟩, 31) := ⟨⟨by decide +kernel, by decide +kernel⟩, List.mem_of_getElem? (i := 707) (by decide +kernel), List.mem_of_getElem? (i := 1061) (by decide +kernel), List.mem_of_getElem? (i := 1062) (by decide +kernel)⟩
theorem lw_p52 : lw_okq (⟨"MiddlePlankModel", "isSeen", "()Z"⟩, 31) := ⟨⟨by decide +kernel, by decide +kernel⟩, List.mem_of_getElem? (i := 707) (by decide +kernel), List.mem_of_getElem? (i := 1065) (by decide +kernel), List.mem_of_getElem? (i := 1066) (by decide +kernel)⟩
theorem lw_p53 : lw_okq (⟨"MiddlePlankModel", "beganNow", "()I"⟩, 31) := ⟨⟨by decide +kernel, by decide +kernel⟩, List.mem_of_getElem? (i := 707) (by decide +kernel), List.mem_of_getElem? (i := 1073) (by decide +kernel), List.mem_of_getElem? (i := 1074) (by decide +kernel)⟩
theorem lw_p54 : lw_okq (⟨"MiddlePlankModel", "askNow", "()I"⟩, 31) := ⟨⟨by decide +kernel, by decide +kernel⟩, List.mem_of_getElem? (i := 707) (by decide +kernel), List.mem_of_getElem? (i := 1081) (by decide +kernel), List.mem_of_getElem? (i := 1082) (by decide +kernel)⟩
theorem lw_p55 : lw_okq (⟨"MiddlePlankModel", "maybeOf", "(III)J"⟩, 31) := ⟨⟨by decide +kernel, by decide +kernel⟩, List.mem_of_getElem? (i := 707) (by decide +kernel), List.mem_of_getElem? (i := 1090) (by decide +kernel), List.mem_of_getElem? (i := 1091) (by decide +kernel)⟩
theorem lw_p56 : lw_okq (⟨"MiddlePlankModel", "weekOf", "(III)I"⟩, 31) := ⟨⟨by decide +kernel, by decide +kernel⟩, List.mem_of_getElem? (i := 707) (by decide +kernel), List.mem_of_getElem? (i := 1106) (by decide +kernel), List.mem_of_getElem? (i := 1107) (by decide +kernel)⟩
theorem lw_p57 : lw_okq (⟨"MiddlePlankModel", "lot", "(I)I"⟩, 31) := ⟨⟨by decide +kernel, by decide +kernel⟩, List.mem_of_getElem? (i := 707) (by decide +kernel), List.mem_of_getElem? (i := 1110) (by decide +kernel), List.mem_of_getElem? (i := 1111) (by decide +kernel)⟩
theorem lw_p58 : lw_okq (⟨"MiddlePlankModel", "tellsCrosser", "(JI)J"⟩, 31) := ⟨⟨by decide +kernel, by decide +kernel⟩, List.mem_of_getElem? (i := 707) (by decide +kernel), List.mem_of_getElem? (i := 1134) (by decide +kernel), List.mem_of_getElem? (i := 1135) (by decide +kernel)⟩
def lw_privs_4 : List (MethodName × Nat) := [(⟨"MiddlePlankModel", "orderBy", "(I)I"⟩, 31), (⟨"MiddlePlankModel", "aheadOf", "(I)I"⟩, 31), (⟨"MiddlePlankModel", "oftenOf", "(II)I"⟩, 31), (⟨"MiddlePlankModel", "ruleOf", "(I)I"⟩, 31), (⟨"MiddlePlankModel", "isSeen", "()Z"⟩, 31), (⟨"MiddlePlankModel", "beganNow", "()I"⟩, 31), (⟨"MiddlePlankModel", "askNow", "()I"⟩, 31), (⟨"MiddlePlankModel", "maybeOf", "(III)J"⟩, 31), (⟨"MiddlePlankModel", "weekOf", "(III)I"⟩, 31), (⟨"MiddlePlankModel", "lot", "(I)I"⟩, 31), (⟨"MiddlePlankModel", "tellsCrosser", "(JI)J"⟩, 31)]
theorem lw_r4 : ∀ q ∈ lw_privs_4, lw_okq q := List.forall_mem_cons.mpr ⟨lw_p48, List.forall_mem_cons.mpr ⟨lw_p49, List.forall_mem_cons.mpr ⟨lw_p50, List.forall_mem_cons.mpr ⟨lw_p51, List.forall_mem_cons.mpr ⟨lw_p52, List.forall_mem_cons.mpr ⟨lw_p53, List.forall_mem_cons.mpr ⟨lw_p54, List.forall_mem_cons.mpr ⟨lw_p55, List.forall_mem_cons.mpr ⟨lw_p56, List.forall_mem_cons.mpr ⟨lw_p57, List.forall_mem_cons.mpr ⟨lw_p58, fun _ h => absurd h List.not_mem_nil⟩⟩⟩⟩⟩⟩⟩⟩⟩⟩⟩
def lw_privs : List (MethodName × Nat) := lw_privs_1 ++ (lw_privs_2 ++ (lw_privs_3 ++ (lw_privs_4)))
def lw_tbl : List Cond := k2_sels lw_privs ++ tables_1
theorem lw_privs_ok : ∀ q ∈ lw_privs, lw_okq q := by
  show ∀ q ∈ lw_privs_1 ++ (lw_privs_2 ++ (lw_privs_3 ++ (lw_privs_4))), lw_okq q
  exact List.forall_mem_append.mpr ⟨lw_r1, List.forall_mem_append.mpr ⟨lw_r2, List.forall_mem_append.mpr ⟨lw_r3, lw_r4⟩⟩⟩
end
section
def RX0 : String := "MiddlePlank$Bridge"
def TX0 : u_T := fun k => match k with
  | 0 => ("MiddlePlank$Bridge", "river", "I", false)
  | 1 => ("MiddlePlank$Bridge", "begin", "I", false)
  | 2 => ("MiddlePlank$Bridge", "shifts", "[I", true)
  | 3 => ("MiddlePlank$Bridge", "planks", "I", false)
  | 4 => ("MiddlePlank$Bridge", "rotten", "[Z", true)
  | 5 => ("MiddlePlank$Bridge", "rows", "[I", true)
  | _ => ("MiddlePlank$Bridge", "longest", "[I", true)
def tyX0 : Nat → FieldType := fun k => match k with
  | 0 => .int
  | 1 => .int
  | 2 => .array .int
  | 3 => .int
  | 4 => .array .boolean
  | 5 => .array .int
  | _ => .array .int
theorem nmX0 : ∀ a, a < 7 → ∀ b, b < 7 → a ≠ b → (TX0 a).2.1 ≠ (TX0 b).2.1 := by decide +kernel
theorem tyX0_ok : ∀ k, k < 7 → parseFieldDescriptor (TX0 k).2.2.1 = some (tyX0 k) := by decide +kernel
abbrev cX0_init : ByteArray := prog_2_method_1_code
def yX0_init : MethodName := ⟨RX0, "<init>", "()V"⟩
abbrev cX0_take : ByteArray := prog_2_method_2_code
def yX0_take : MethodName := ⟨RX0, "take", "(LMiddlePlank$Text;I)V"⟩
abbrev cX0_measure : ByteArray := prog_2_method_3_code
def yX0_measure : MethodName := ⟨RX0, "measure", "(II)V"⟩
abbrev cX0_isHole : ByteArray := prog_2_method_4_code
def yX0_isHole : MethodName := ⟨RX0, "isHole", "(III)Z"⟩
abbrev cX0_hasPlank : ByteArray := prog_2_method_5_code
def yX0_hasPlank : MethodName := ⟨RX0, "hasPlank", "(I)Z"⟩
abbrev cX0_isRotten : ByteArray := prog_2_method_6_code
def yX0_isRotten : MethodName := ⟨RX0, "isRotten", "(I)Z"⟩
abbrev cX0_firstGap : ByteArray := prog_2_method_7_code
def yX0_firstGap : MethodName := ⟨RX0, "firstGap", "()I"⟩
abbrev cX0_outcome : ByteArray := prog_2_method_8_code
def yX0_outcome : MethodName := ⟨RX0, "outcome", "(LMiddlePlank$Crosser;I)I"⟩
abbrev cX0_toll : ByteArray := prog_2_method_9_code
def yX0_toll : MethodName := ⟨RX0, "toll", "(LMiddlePlank$Crosser;I)I"⟩
abbrev cX0_longestRow : ByteArray := prog_2_method_10_code
def yX0_longestRow : MethodName := ⟨RX0, "longestRow", "(LMiddlePlank$Crosser;I)I"⟩
abbrev cX0_gapBehind : ByteArray := prog_2_method_11_code
def yX0_gapBehind : MethodName := ⟨RX0, "gapBehind", "(LMiddlePlank$Crosser;I[I)I"⟩
def RX1 : String := "MiddlePlank$Crosser"
def TX1 : u_T := fun k => match k with
  | 0 => ("MiddlePlank$Crosser", "kind", "I", false)
  | 1 => ("MiddlePlank$Crosser", "weight", "I", false)
  | 2 => ("MiddlePlank$Crosser", "load", "I", false)
  | 3 => ("MiddlePlank$Crosser", "end", "I", false)
  | _ => ("MiddlePlank$Crosser", "leap", "I", false)
def tyX1 : Nat → FieldType := fun k => match k with
  | 0 => .int
  | 1 => .int
  | 2 => .int
  | 3 => .int
  | _ => .int
theorem nmX1 : ∀ a, a < 5 → ∀ b, b < 5 → a ≠ b → (TX1 a).2.1 ≠ (TX1 b).2.1 := by decide +kernel
theorem tyX1_ok : ∀ k, k < 5 → parseFieldDescriptor (TX1 k).2.2.1 = some (tyX1 k) := by decide +kernel
abbrev cX1_init : ByteArray := prog_3_method_1_code
def yX1_init : MethodName := ⟨RX1, "<init>", "()V"⟩
abbrev cX1_take : ByteArray := prog_3_method_2_code
def yX1_take : MethodName := ⟨RX1, "take", "(LMiddlePlank$Text;I)V"⟩
abbrev cX1_shiftBy : ByteArray := prog_3_method_3_code
def yX1_shiftBy : MethodName := ⟨RX1, "shiftBy", "([I)I"⟩
def RX2 : String := "MiddlePlank$Crossers"
def TX2 : u_T := fun k => match k with
  | 0 => ("MiddlePlank$Crossers", "all", "[LMiddlePlank$Crosser;", true)
  | _ => ("MiddlePlank$Crossers", "count", "I", false)
def tyX2 : Nat → FieldType := fun k => match k with
  | 0 => .array (.object "MiddlePlank$Crosser")
  | _ => .int
theorem nmX2 : ∀ a, a < 2 → ∀ b, b < 2 → a ≠ b → (TX2 a).2.1 ≠ (TX2 b).2.1 := by decide +kernel
theorem tyX2_ok : ∀ k, k < 2 → parseFieldDescriptor (TX2 k).2.2.1 = some (tyX2 k) := by decide +kernel
abbrev cX2_init : ByteArray := prog_4_method_1_code
def yX2_init : MethodName := ⟨RX2, "<init>", "()V"⟩
abbrev cX2_take : ByteArray := prog_4_method_2_code
def yX2_take : MethodName := ⟨RX2, "take", "(LMiddlePlank$Text;I)V"⟩
abbrev cX2_at : ByteArray := prog_4_method_3_code
def yX2_at : MethodName := ⟨RX2, "at", "(I)LMiddlePlank$Crosser;"⟩
def RX3 : String := "MiddlePlank$Crossings"
def TX3 : u_T := fun k => match k with
  | 0 => ("MiddlePlank$Crossings", "who", "[I", true)
  | _ => ("MiddlePlank$Crossings", "count", "I", false)
def tyX3 : Nat → FieldType := fun k => match k with
  | 0 => .array .int
  | _ => .int
theorem nmX3 : ∀ a, a < 2 → ∀ b, b < 2 → a ≠ b → (TX3 a).2.1 ≠ (TX3 b).2.1 := by decide +kernel
theorem tyX3_ok : ∀ k, k < 2 → parseFieldDescriptor (TX3 k).2.2.1 = some (tyX3 k) := by decide +kernel
abbrev cX3_init : ByteArray := prog_5_method_1_code
def yX3_init : MethodName := ⟨RX3, "<init>", "()V"⟩
abbrev cX3_take : ByteArray := prog_5_method_2_code
def yX3_take : MethodName := ⟨RX3, "take", "(LMiddlePlank$Text;I)V"⟩
abbrev cX3_whoAt : ByteArray := prog_5_method_3_code
def yX3_whoAt : MethodName := ⟨RX3, "whoAt", "(I)I"⟩
abbrev cX3_follow : ByteArray := prog_5_method_4_code
def yX3_follow : MethodName := ⟨RX3, "follow", "(LMiddlePlank$Bridge;LMiddlePlank$Crossers;I[I[I)V"⟩
def RX4 : String := "MiddlePlank$Plan"
def TX4 : u_T := fun k => match k with
  | 0 => ("MiddlePlank$Plan", "best", "[I", true)
  | 1 => ("MiddlePlank$Plan", "worth", "[I", true)
  | 2 => ("MiddlePlank$Plan", "moved", "[I", true)
  | 3 => ("MiddlePlank$Plan", "row", "[I", true)
  | 4 => ("MiddlePlank$Plan", "places", "I", false)
  | 5 => ("MiddlePlank$Plan", "count", "I", false)
  | 6 => ("MiddlePlank$Plan", "crossing", "I", false)
  | _ => ("MiddlePlank$Plan", "tolls", "I", false)
def tyX4 : Nat → FieldType := fun k => match k with
  | 0 => .array .int
  | 1 => .array .int
  | 2 => .array .int
  | 3 => .array .int
  | 4 => .int
  | 5 => .int
  | 6 => .int
  | _ => .int
theorem nmX4 : ∀ a, a < 8 → ∀ b, b < 8 → a ≠ b → (TX4 a).2.1 ≠ (TX4 b).2.1 := by decide +kernel
theorem tyX4_ok : ∀ k, k < 8 → parseFieldDescriptor (TX4 k).2.2.1 = some (tyX4 k) := by decide +kernel
abbrev cX4_init : ByteArray := prog_6_method_1_code
def yX4_init : MethodName := ⟨RX4, "<init>", "()V"⟩
abbrev cX4_make : ByteArray := prog_6_method_2_code
def yX4_make : MethodName := ⟨RX4, "make", "(LMiddlePlank$Bridge;LMiddlePlank$Crossers;)V"⟩
abbrev cX4_whoAt : ByteArray := prog_6_method_3_code
def yX4_whoAt : MethodName := ⟨RX4, "whoAt", "(I)I"⟩
abbrev cX4_weigh : ByteArray := prog_6_method_4_code
def yX4_weigh : MethodName := ⟨RX4, "weigh", "(LMiddlePlank$Bridge;LMiddlePlank$Crosser;I)V"⟩
abbrev cX4_findBest : ByteArray := prog_6_method_5_code
def yX4_findBest : MethodName := ⟨RX4, "findBest", "()V"⟩
abbrev cX4_bestOf : ByteArray := prog_6_method_6_code
def yX4_bestOf : MethodName := ⟨RX4, "bestOf", "(II)I"⟩
abbrev cX4_worthOf : ByteArray := prog_6_method_7_code
def yX4_worthOf : MethodName := ⟨RX4, "worthOf", "(III)I"⟩
abbrev cX4_followBest : ByteArray := prog_6_method_8_code
def yX4_followBest : MethodName := ⟨RX4, "followBest", "(LMiddlePlank$Bridge;LMiddlePlank$Crossers;I)V"⟩
abbrev cX4_leastOfBest : ByteArray := prog_6_method_9_code
def yX4_leastOfBest : MethodName := ⟨RX4, "leastOfBest", "(II)I"⟩
def RX5 : String := "MiddlePlank$Sheet"
def TX5 : u_T := fun k => match k with
  | 0 => ("MiddlePlank$Sheet", "items", "[I", true)
  | 1 => ("MiddlePlank$Sheet", "lost", "Z", false)
  | 2 => ("MiddlePlank$Sheet", "form", "I", false)
  | _ => ("MiddlePlank$Sheet", "length", "I", false)
def tyX5 : Nat → FieldType := fun k => match k with
  | 0 => .array .int
  | 1 => .boolean
  | 2 => .int
  | _ => .int
theorem nmX5 : ∀ a, a < 4 → ∀ b, b < 4 → a ≠ b → (TX5 a).2.1 ≠ (TX5 b).2.1 := by decide +kernel
theorem tyX5_ok : ∀ k, k < 4 → parseFieldDescriptor (TX5 k).2.2.1 = some (tyX5 k) := by decide +kernel
abbrev cX5_init : ByteArray := prog_7_method_1_code
def yX5_init : MethodName := ⟨RX5, "<init>", "()V"⟩
abbrev cX5_renew : ByteArray := prog_7_method_2_code
def yX5_renew : MethodName := ⟨RX5, "renew", "(II)V"⟩
abbrev cX5_hasItems : ByteArray := prog_7_method_3_code
def yX5_hasItems : MethodName := ⟨RX5, "hasItems", "(II)Z"⟩
abbrev cX5_findingAt : ByteArray := prog_7_method_4_code
def yX5_findingAt : MethodName := ⟨RX5, "findingAt", "(II)I"⟩
abbrev cX5_itemAt : ByteArray := prog_7_method_5_code
def yX5_itemAt : MethodName := ⟨RX5, "itemAt", "(I)I"⟩
abbrev cX5_put : ByteArray := prog_7_method_6_code
def yX5_put : MethodName := ⟨RX5, "put", "(II)V"⟩
abbrev cX5_lowestBits : ByteArray := prog_7_method_7_code
def yX5_lowestBits : MethodName := ⟨RX5, "lowestBits", "(I)I"⟩
def RX6 : String := "MiddlePlank$Sightings"
def TX6 : u_T := fun k => match k with
  | 0 => ("MiddlePlank$Sightings", "behind", "[I", true)
  | 1 => ("MiddlePlank$Sightings", "planks", "[I", true)
  | _ => ("MiddlePlank$Sightings", "count", "I", false)
def tyX6 : Nat → FieldType := fun k => match k with
  | 0 => .array .int
  | 1 => .array .int
  | _ => .int
theorem nmX6 : ∀ a, a < 3 → ∀ b, b < 3 → a ≠ b → (TX6 a).2.1 ≠ (TX6 b).2.1 := by decide +kernel
theorem tyX6_ok : ∀ k, k < 3 → parseFieldDescriptor (TX6 k).2.2.1 = some (tyX6 k) := by decide +kernel
abbrev cX6_init : ByteArray := prog_8_method_1_code
def yX6_init : MethodName := ⟨RX6, "<init>", "()V"⟩
abbrev cX6_isPossible : ByteArray := prog_8_method_2_code
def yX6_isPossible : MethodName := ⟨RX6, "isPossible", "(II)Z"⟩
abbrev cX6_isFull : ByteArray := prog_8_method_3_code
def yX6_isFull : MethodName := ⟨RX6, "isFull", "()Z"⟩
abbrev cX6_add : ByteArray := prog_8_method_4_code
def yX6_add : MethodName := ⟨RX6, "add", "(II)V"⟩
abbrev cX6_agreeWith : ByteArray := prog_8_method_5_code
def yX6_agreeWith : MethodName := ⟨RX6, "agreeWith", "([II)Z"⟩
def RX7 : String := "MiddlePlank$Text"
def TX7 : u_T := fun k => match k with
  | 0 => ("MiddlePlank$Text", "bytes", "[I", true)
  | _ => ("MiddlePlank$Text", "length", "I", false)
def tyX7 : Nat → FieldType := fun k => match k with
  | 0 => .array .int
  | _ => .int
theorem nmX7 : ∀ a, a < 2 → ∀ b, b < 2 → a ≠ b → (TX7 a).2.1 ≠ (TX7 b).2.1 := by decide +kernel
theorem tyX7_ok : ∀ k, k < 2 → parseFieldDescriptor (TX7 k).2.2.1 = some (tyX7 k) := by decide +kernel
abbrev cX7_init : ByteArray := prog_9_method_1_code
def yX7_init : MethodName := ⟨RX7, "<init>", "(I)V"⟩
abbrev cX7_isFull : ByteArray := prog_9_method_2_code
def yX7_isFull : MethodName := ⟨RX7, "isFull", "()Z"⟩
abbrev cX7_append : ByteArray := prog_9_method_3_code
def yX7_append : MethodName := ⟨RX7, "append", "(I)V"⟩
abbrev cX7_at : ByteArray := prog_9_method_4_code
def yX7_at : MethodName := ⟨RX7, "at", "(I)I"⟩
def RX8 : String := "MiddlePlank"
def TX8 : u_T := fun k => match k with
  | 0 => ("MiddlePlank", "texts", "[LMiddlePlank$Text;", true)
  | 1 => ("MiddlePlank", "bridge", "LMiddlePlank$Bridge;", true)
  | 2 => ("MiddlePlank", "crossers", "LMiddlePlank$Crossers;", true)
  | 3 => ("MiddlePlank", "crossings", "LMiddlePlank$Crossings;", true)
  | 4 => ("MiddlePlank", "gaps", "[I", true)
  | 5 => ("MiddlePlank", "trialGaps", "[I", true)
  | 6 => ("MiddlePlank", "trialShifts", "[I", true)
  | 7 => ("MiddlePlank", "visits", "[I", true)
  | 8 => ("MiddlePlank", "plan", "LMiddlePlank$Plan;", true)
  | 9 => ("MiddlePlank", "sightings", "LMiddlePlank$Sightings;", true)
  | 10 => ("MiddlePlank", "chances", "[J", true)
  | 11 => ("MiddlePlank", "chancesBehind", "[J", true)
  | 12 => ("MiddlePlank", "sheets", "[LMiddlePlank$Sheet;", true)
  | 13 => ("MiddlePlank", "latestFinding", "I", false)
  | 14 => ("MiddlePlank", "stale", "Z", false)
  | _ => ("MiddlePlank", "planStale", "Z", false)
def tyX8 : Nat → FieldType := fun k => match k with
  | 0 => .array (.object "MiddlePlank$Text")
  | 1 => .object "MiddlePlank$Bridge"
  | 2 => .object "MiddlePlank$Crossers"
  | 3 => .object "MiddlePlank$Crossings"
  | 4 => .array .int
  | 5 => .array .int
  | 6 => .array .int
  | 7 => .array .int
  | 8 => .object "MiddlePlank$Plan"
  | 9 => .object "MiddlePlank$Sightings"
  | 10 => .array .long
  | 11 => .array .long
  | 12 => .array (.object "MiddlePlank$Sheet")
  | 13 => .int
  | 14 => .boolean
  | _ => .boolean
theorem nmX8 : ∀ a, a < 16 → ∀ b, b < 16 → a ≠ b → (TX8 a).2.1 ≠ (TX8 b).2.1 := by decide +kernel
theorem tyX8_ok : ∀ k, k < 16 → parseFieldDescriptor (TX8 k).2.2.1 = some (tyX8 k) := by decide +kernel
abbrev cX8_init : ByteArray := prog_1_method_1_code
def yX8_init : MethodName := ⟨RX8, "<init>", "()V"⟩
abbrev cX8_type : ByteArray := prog_1_method_2_code
def yX8_type : MethodName := ⟨RX8, "type", "(II)I"⟩
abbrev cX8_wipe : ByteArray := prog_1_method_3_code
def yX8_wipe : MethodName := ⟨RX8, "wipe", "(I)I"⟩
abbrev cX8_undo : ByteArray := prog_1_method_4_code
def yX8_undo : MethodName := ⟨RX8, "undo", "(I)I"⟩
abbrev cX8_fault : ByteArray := prog_1_method_5_code
def yX8_fault : MethodName := ⟨RX8, "fault", "(I)I"⟩
abbrev cX8_plank : ByteArray := prog_1_method_6_code
def yX8_plank : MethodName := ⟨RX8, "plank", "(I)I"⟩
abbrev cX8_crosser : ByteArray := prog_1_method_7_code
def yX8_crosser : MethodName := ⟨RX8, "crosser", "(II)I"⟩
abbrev cX8_crossing : ByteArray := prog_1_method_8_code
def yX8_crossing : MethodName := ⟨RX8, "crossing", "(I)I"⟩
abbrev cX8_set : ByteArray := prog_1_method_9_code
def yX8_set : MethodName := ⟨RX8, "set", "(II)I"⟩
abbrev cX8_shift : ByteArray := prog_1_method_10_code
def yX8_shift : MethodName := ⟨RX8, "shift", "(II)I"⟩
abbrev cX8_gap : ByteArray := prog_1_method_11_code
def yX8_gap : MethodName := ⟨RX8, "gap", "(I)I"⟩
abbrev cX8_comes : ByteArray := prog_1_method_12_code
def yX8_comes : MethodName := ⟨RX8, "comes", "(II)I"⟩
abbrev cX8_times : ByteArray := prog_1_method_13_code
def yX8_times : MethodName := ⟨RX8, "times", "(II)I"⟩
abbrev cX8_taken : ByteArray := prog_1_method_14_code
def yX8_taken : MethodName := ⟨RX8, "taken", "(I)I"⟩
abbrev cX8_stuck : ByteArray := prog_1_method_15_code
def yX8_stuck : MethodName := ⟨RX8, "stuck", "()I"⟩
abbrev cX8_worn : ByteArray := prog_1_method_16_code
def yX8_worn : MethodName := ⟨RX8, "worn", "()I"⟩
abbrev cX8_order : ByteArray := prog_1_method_17_code
def yX8_order : MethodName := ⟨RX8, "order", "(I)I"⟩
abbrev cX8_ahead : ByteArray := prog_1_method_18_code
def yX8_ahead : MethodName := ⟨RX8, "ahead", "(I)I"⟩
abbrev cX8_often : ByteArray := prog_1_method_19_code
def yX8_often : MethodName := ⟨RX8, "often", "(II)I"⟩
abbrev cX8_seen : ByteArray := prog_1_method_20_code
def yX8_seen : MethodName := ⟨RX8, "seen", "(II)I"⟩
abbrev cX8_forget : ByteArray := prog_1_method_21_code
def yX8_forget : MethodName := ⟨RX8, "forget", "()I"⟩
abbrev cX8_read : ByteArray := prog_1_method_22_code
def yX8_read : MethodName := ⟨RX8, "read", "(I)I"⟩
abbrev cX8_rule : ByteArray := prog_1_method_23_code
def yX8_rule : MethodName := ⟨RX8, "rule", "(I)I"⟩
abbrev cX8_began : ByteArray := prog_1_method_24_code
def yX8_began : MethodName := ⟨RX8, "began", "()I"⟩
abbrev cX8_ask : ByteArray := prog_1_method_25_code
def yX8_ask : MethodName := ⟨RX8, "ask", "()I"⟩
abbrev cX8_maybe : ByteArray := prog_1_method_26_code
def yX8_maybe : MethodName := ⟨RX8, "maybe", "(III)J"⟩
abbrev cX8_week : ByteArray := prog_1_method_27_code
def yX8_week : MethodName := ⟨RX8, "week", "(III)I"⟩
abbrev cX8_sheet : ByteArray := prog_1_method_28_code
def yX8_sheet : MethodName := ⟨RX8, "sheet", "(III)I"⟩
abbrev cX8_lose : ByteArray := prog_1_method_29_code
def yX8_lose : MethodName := ⟨RX8, "lose", "(I)I"⟩
abbrev cX8_lay : ByteArray := prog_1_method_30_code
def yX8_lay : MethodName := ⟨RX8, "lay", "(IIII)I"⟩
abbrev cX8_get : ByteArray := prog_1_method_31_code
def yX8_get : MethodName := ⟨RX8, "get", "(III)I"⟩
abbrev cX8_copy : ByteArray := prog_1_method_32_code
def yX8_copy : MethodName := ⟨RX8, "copy", "(IIIII)I"⟩
abbrev cX8_write : ByteArray := prog_1_method_33_code
def yX8_write : MethodName := ⟨RX8, "write", "(I)I"⟩
abbrev cX8_count : ByteArray := prog_1_method_34_code
def yX8_count : MethodName := ⟨RX8, "count", "(I)I"⟩
abbrev cX8_digest : ByteArray := prog_1_method_35_code
def yX8_digest : MethodName := ⟨RX8, "digest", "()J"⟩
abbrev cX8_digestPlanks : ByteArray := prog_1_method_36_code
def yX8_digestPlanks : MethodName := ⟨RX8, "digestPlanks", "(J)J"⟩
abbrev cX8_digestCrossers : ByteArray := prog_1_method_37_code
def yX8_digestCrossers : MethodName := ⟨RX8, "digestCrossers", "(J)J"⟩
abbrev cX8_digestCrossings : ByteArray := prog_1_method_38_code
def yX8_digestCrossings : MethodName := ⟨RX8, "digestCrossings", "(J)J"⟩
abbrev cX8_within : ByteArray := prog_1_method_39_code
def yX8_within : MethodName := ⟨RX8, "within", "(III)Z"⟩
abbrev cX8_textAt : ByteArray := prog_1_method_40_code
def yX8_textAt : MethodName := ⟨RX8, "textAt", "(I)LMiddlePlank$Text;"⟩
abbrev cX8_placeOf : ByteArray := prog_1_method_41_code
def yX8_placeOf : MethodName := ⟨RX8, "placeOf", "(I[C)I"⟩
abbrev cX8_signsFor : ByteArray := prog_1_method_42_code
def yX8_signsFor : MethodName := ⟨RX8, "signsFor", "(II)[C"⟩
abbrev cX8_faultOf : ByteArray := prog_1_method_43_code
def yX8_faultOf : MethodName := ⟨RX8, "faultOf", "(ILMiddlePlank$Text;)I"⟩
abbrev cX8_lengthWithoutFault : ByteArray := prog_1_method_44_code
def yX8_lengthWithoutFault : MethodName := ⟨RX8, "lengthWithoutFault", "(ILMiddlePlank$Text;)I"⟩
abbrev cX8_freshen : ByteArray := prog_1_method_45_code
def yX8_freshen : MethodName := ⟨RX8, "freshen", "()V"⟩
abbrev cX8_freshenPlan : ByteArray := prog_1_method_46_code
def yX8_freshenPlan : MethodName := ⟨RX8, "freshenPlan", "()V"⟩
abbrev cX8_isNumberOfCrossings : ByteArray := prog_1_method_47_code
def yX8_isNumberOfCrossings : MethodName := ⟨RX8, "isNumberOfCrossings", "(I)Z"⟩
abbrev cX8_gapBehindAll : ByteArray := prog_1_method_48_code
def yX8_gapBehindAll : MethodName := ⟨RX8, "gapBehindAll", "()I"⟩
abbrev cX8_outcomeOfCrossing : ByteArray := prog_1_method_49_code
def yX8_outcomeOfCrossing : MethodName := ⟨RX8, "outcomeOfCrossing", "(I)I"⟩
abbrev cX8_tollsBehind : ByteArray := prog_1_method_50_code
def yX8_tollsBehind : MethodName := ⟨RX8, "tollsBehind", "(I)I"⟩
abbrev cX8_countVisits : ByteArray := prog_1_method_51_code
def yX8_countVisits : MethodName := ⟨RX8, "countVisits", "()V"⟩
abbrev cX8_comesOutAsSeen : ByteArray := prog_1_method_52_code
def yX8_comesOutAsSeen : MethodName := ⟨RX8, "comesOutAsSeen", "(I[I)Z"⟩
abbrev cX8_spreadChances : ByteArray := prog_1_method_53_code
def yX8_spreadChances : MethodName := ⟨RX8, "spreadChances", "(I)V"⟩
abbrev cX8_spreadOver : ByteArray := prog_1_method_54_code
def yX8_spreadOver : MethodName := ⟨RX8, "spreadOver", "(LMiddlePlank$Crosser;I)V"⟩
abbrev cX8_sheetAt : ByteArray := prog_1_method_55_code
def yX8_sheetAt : MethodName := ⟨RX8, "sheetAt", "(I)LMiddlePlank$Sheet;"⟩
abbrev cX8_finding : ByteArray := prog_1_method_56_code
def yX8_finding : MethodName := ⟨RX8, "finding", "(I)I"⟩
def RX9 : String := "MiddlePlankModel"
def TX9 : u_T := fun k => match k with
  | 0 => ("MiddlePlankModel", "forms", "[I", true)
  | 1 => ("MiddlePlankModel", "sizes", "[I", true)
  | 2 => ("MiddlePlankModel", "items", "[I", true)
  | 3 => ("MiddlePlankModel", "moved", "[I", true)
  | 4 => ("MiddlePlankModel", "latest", "I", false)
  | 5 => ("MiddlePlankModel", "bytes", "[I", true)
  | 6 => ("MiddlePlankModel", "typed", "[I", true)
  | 7 => ("MiddlePlankModel", "planks", "I", false)
  | 8 => ("MiddlePlankModel", "plank", "[I", true)
  | 9 => ("MiddlePlankModel", "crossers", "I", false)
  | 10 => ("MiddlePlankModel", "crosser", "[I", true)
  | 11 => ("MiddlePlankModel", "crossings", "I", false)
  | 12 => ("MiddlePlankModel", "crossing", "[I", true)
  | 13 => ("MiddlePlankModel", "settings", "[I", true)
  | 14 => ("MiddlePlankModel", "shifts", "[I", true)
  | 15 => ("MiddlePlankModel", "gaps", "[I", true)
  | 16 => ("MiddlePlankModel", "ends", "[I", true)
  | 17 => ("MiddlePlankModel", "tolls", "[I", true)
  | 18 => ("MiddlePlankModel", "rows", "[I", true)
  | 19 => ("MiddlePlankModel", "gap", "I", false)
  | 20 => ("MiddlePlankModel", "gone", "I", false)
  | 21 => ("MiddlePlankModel", "many", "I", false)
  | 22 => ("MiddlePlankModel", "longest", "I", false)
  | 23 => ("MiddlePlankModel", "row", "[I", true)
  | 24 => ("MiddlePlankModel", "bestRow", "[I", true)
  | 25 => ("MiddlePlankModel", "bestMany", "I", false)
  | 26 => ("MiddlePlankModel", "bestTolls", "I", false)
  | 27 => ("MiddlePlankModel", "sights", "I", false)
  | 28 => ("MiddlePlankModel", "sight", "[I", true)
  | 29 => ("MiddlePlankModel", "alike", "[I", true)
  | _ => ("MiddlePlankModel", "drawn", "I", false)
def tyX9 : Nat → FieldType := fun k => match k with
  | 0 => .array .int
  | 1 => .array .int
  | 2 => .array .int
  | 3 => .array .int
  | 4 => .int
  | 5 => .array .int
  | 6 => .array .int
  | 7 => .int
  | 8 => .array .int
  | 9 => .int
  | 10 => .array .int
  | 11 => .int
  | 12 => .array .int
  | 13 => .array .int
  | 14 => .array .int
  | 15 => .array .int
  | 16 => .array .int
  | 17 => .array .int
  | 18 => .array .int
  | 19 => .int
  | 20 => .int
  | 21 => .int
  | 22 => .int
  | 23 => .array .int
  | 24 => .array .int
  | 25 => .int
  | 26 => .int
  | 27 => .int
  | 28 => .array .int
  | 29 => .array .int
  | _ => .int
theorem nmX9 : ∀ a, a < 31 → ∀ b, b < 31 → a ≠ b → (TX9 a).2.1 ≠ (TX9 b).2.1 := by decide +kernel
theorem tyX9_ok : ∀ k, k < 31 → parseFieldDescriptor (TX9 k).2.2.1 = some (tyX9 k) := by decide +kernel
abbrev cX9_init : ByteArray := prog_11_method_1_code
def yX9_init : MethodName := ⟨RX9, "<init>", "()V"⟩
abbrev cX9_in : ByteArray := prog_11_method_3_code
def yX9_in : MethodName := ⟨RX9, "in", "(JJJ)Z"⟩
abbrev cX9_no : ByteArray := prog_11_method_4_code
def yX9_no : MethodName := ⟨RX9, "no", "(I)J"⟩
abbrev cX9_isTwo : ByteArray := prog_11_method_5_code
def yX9_isTwo : MethodName := ⟨RX9, "isTwo", "(I)Z"⟩
abbrev cX9_isIn : ByteArray := prog_11_method_6_code
def yX9_isIn : MethodName := ⟨RX9, "isIn", "(II)Z"⟩
abbrev cX9_lesser : ByteArray := prog_11_method_7_code
def yX9_lesser : MethodName := ⟨RX9, "lesser", "(II)I"⟩
abbrev cX9_greater : ByteArray := prog_11_method_8_code
def yX9_greater : MethodName := ⟨RX9, "greater", "(II)I"⟩
abbrev cX9_part : ByteArray := prog_11_method_9_code
def yX9_part : MethodName := ⟨RX9, "part", "(JJI)J"⟩
abbrev cX9_finds : ByteArray := prog_11_method_10_code
def yX9_finds : MethodName := ⟨RX9, "finds", "(I)I"⟩
abbrev cX9_isSheet : ByteArray := prog_11_method_11_code
def yX9_isSheet : MethodName := ⟨RX9, "isSheet", "(I)Z"⟩
abbrev cX9_sheet : ByteArray := prog_11_method_12_code
def yX9_sheet : MethodName := ⟨RX9, "sheet", "(III)I"⟩
abbrev cX9_lose : ByteArray := prog_11_method_13_code
def yX9_lose : MethodName := ⟨RX9, "lose", "(I)I"⟩
abbrev cX9_lacks : ByteArray := prog_11_method_14_code
def yX9_lacks : MethodName := ⟨RX9, "lacks", "(III)I"⟩
abbrev cX9_cut : ByteArray := prog_11_method_15_code
def yX9_cut : MethodName := ⟨RX9, "cut", "(II)I"⟩
abbrev cX9_lay : ByteArray := prog_11_method_16_code
def yX9_lay : MethodName := ⟨RX9, "lay", "(IIII)I"⟩
abbrev cX9_get : ByteArray := prog_11_method_17_code
def yX9_get : MethodName := ⟨RX9, "get", "(III)I"⟩
abbrev cX9_copy : ByteArray := prog_11_method_18_code
def yX9_copy : MethodName := ⟨RX9, "copy", "(IIIII)I"⟩
abbrev cX9_isText : ByteArray := prog_11_method_19_code
def yX9_isText : MethodName := ⟨RX9, "isText", "(I)Z"⟩
abbrev cX9_type : ByteArray := prog_11_method_20_code
def yX9_type : MethodName := ⟨RX9, "type", "(II)I"⟩
abbrev cX9_wipe : ByteArray := prog_11_method_21_code
def yX9_wipe : MethodName := ⟨RX9, "wipe", "(I)I"⟩
abbrev cX9_undo : ByteArray := prog_11_method_22_code
def yX9_undo : MethodName := ⟨RX9, "undo", "(I)I"⟩
abbrev cX9_readsPlanks : ByteArray := prog_11_method_23_code
def yX9_readsPlanks : MethodName := ⟨RX9, "readsPlanks", "()I"⟩
abbrev cX9_kindOf : ByteArray := prog_11_method_24_code
def yX9_kindOf : MethodName := ⟨RX9, "kindOf", "(I)I"⟩
abbrev cX9_crosserOf : ByteArray := prog_11_method_25_code
def yX9_crosserOf : MethodName := ⟨RX9, "crosserOf", "(II)I"⟩
abbrev cX9_readsCrossers : ByteArray := prog_11_method_26_code
def yX9_readsCrossers : MethodName := ⟨RX9, "readsCrossers", "()I"⟩
abbrev cX9_readsCrossings : ByteArray := prog_11_method_27_code
def yX9_readsCrossings : MethodName := ⟨RX9, "readsCrossings", "()I"⟩
abbrev cX9_readsText : ByteArray := prog_11_method_28_code
def yX9_readsText : MethodName := ⟨RX9, "readsText", "(I)I"⟩
abbrev cX9_fault : ByteArray := prog_11_method_29_code
def yX9_fault : MethodName := ⟨RX9, "fault", "(I)I"⟩
abbrev cX9_isCrosser : ByteArray := prog_11_method_30_code
def yX9_isCrosser : MethodName := ⟨RX9, "isCrosser", "(I)Z"⟩
abbrev cX9_plank : ByteArray := prog_11_method_31_code
def yX9_plank : MethodName := ⟨RX9, "plank", "(I)I"⟩
abbrev cX9_crosser : ByteArray := prog_11_method_32_code
def yX9_crosser : MethodName := ⟨RX9, "crosser", "(II)I"⟩
abbrev cX9_crossing : ByteArray := prog_11_method_33_code
def yX9_crossing : MethodName := ⟨RX9, "crossing", "(I)I"⟩
abbrev cX9_set : ByteArray := prog_11_method_34_code
def yX9_set : MethodName := ⟨RX9, "set", "(II)I"⟩
abbrev cX9_shift : ByteArray := prog_11_method_35_code
def yX9_shift : MethodName := ⟨RX9, "shift", "(II)I"⟩
abbrev cX9_isHole : ByteArray := prog_11_method_36_code
def yX9_isHole : MethodName := ⟨RX9, "isHole", "(II)Z"⟩
abbrev cX9_looks : ByteArray := prog_11_method_37_code
def yX9_looks : MethodName := ⟨RX9, "looks", "(I)V"⟩
abbrev cX9_moves : ByteArray := prog_11_method_38_code
def yX9_moves : MethodName := ⟨RX9, "moves", "(I)I"⟩
abbrev cX9_tries : ByteArray := prog_11_method_39_code
def yX9_tries : MethodName := ⟨RX9, "tries", "(I)I"⟩
abbrev cX9_tollOf : ByteArray := prog_11_method_40_code
def yX9_tollOf : MethodName := ⟨RX9, "tollOf", "(II)I"⟩
abbrev cX9_begins : ByteArray := prog_11_method_41_code
def yX9_begins : MethodName := ⟨RX9, "begins", "()V"⟩
abbrev cX9_lives : ByteArray := prog_11_method_42_code
def yX9_lives : MethodName := ⟨RX9, "lives", "()V"⟩
abbrev cX9_find : ByteArray := prog_11_method_43_code
def yX9_find : MethodName := ⟨RX9, "find", "()V"⟩
abbrev cX9_gap : ByteArray := prog_11_method_44_code
def yX9_gap : MethodName := ⟨RX9, "gap", "(I)I"⟩
abbrev cX9_comesBy : ByteArray := prog_11_method_45_code
def yX9_comesBy : MethodName := ⟨RX9, "comesBy", "(II)I"⟩
abbrev cX9_comes : ByteArray := prog_11_method_46_code
def yX9_comes : MethodName := ⟨RX9, "comes", "(II)I"⟩
abbrev cX9_timesBy : ByteArray := prog_11_method_47_code
def yX9_timesBy : MethodName := ⟨RX9, "timesBy", "(II)I"⟩
abbrev cX9_times : ByteArray := prog_11_method_48_code
def yX9_times : MethodName := ⟨RX9, "times", "(II)I"⟩
abbrev cX9_takenBy : ByteArray := prog_11_method_49_code
def yX9_takenBy : MethodName := ⟨RX9, "takenBy", "(I)I"⟩
abbrev cX9_taken : ByteArray := prog_11_method_50_code
def yX9_taken : MethodName := ⟨RX9, "taken", "(I)I"⟩
abbrev cX9_stuckNow : ByteArray := prog_11_method_51_code
def yX9_stuckNow : MethodName := ⟨RX9, "stuckNow", "()I"⟩
abbrev cX9_stuck : ByteArray := prog_11_method_52_code
def yX9_stuck : MethodName := ⟨RX9, "stuck", "()I"⟩
abbrev cX9_wornNow : ByteArray := prog_11_method_53_code
def yX9_wornNow : MethodName := ⟨RX9, "wornNow", "()I"⟩
abbrev cX9_worn : ByteArray := prog_11_method_54_code
def yX9_worn : MethodName := ⟨RX9, "worn", "()I"⟩
abbrev cX9_nextRow : ByteArray := prog_11_method_55_code
def yX9_nextRow : MethodName := ⟨RX9, "nextRow", "()Z"⟩
abbrev cX9_weighs : ByteArray := prog_11_method_56_code
def yX9_weighs : MethodName := ⟨RX9, "weighs", "()V"⟩
abbrev cX9_findOrder : ByteArray := prog_11_method_57_code
def yX9_findOrder : MethodName := ⟨RX9, "findOrder", "()V"⟩
abbrev cX9_orderBy : ByteArray := prog_11_method_58_code
def yX9_orderBy : MethodName := ⟨RX9, "orderBy", "(I)I"⟩
abbrev cX9_order : ByteArray := prog_11_method_59_code
def yX9_order : MethodName := ⟨RX9, "order", "(I)I"⟩
abbrev cX9_aheadOf : ByteArray := prog_11_method_60_code
def yX9_aheadOf : MethodName := ⟨RX9, "aheadOf", "(I)I"⟩
abbrev cX9_ahead : ByteArray := prog_11_method_61_code
def yX9_ahead : MethodName := ⟨RX9, "ahead", "(I)I"⟩
abbrev cX9_oftenOf : ByteArray := prog_11_method_62_code
def yX9_oftenOf : MethodName := ⟨RX9, "oftenOf", "(II)I"⟩
abbrev cX9_often : ByteArray := prog_11_method_63_code
def yX9_often : MethodName := ⟨RX9, "often", "(II)I"⟩
abbrev cX9_seen : ByteArray := prog_11_method_64_code
def yX9_seen : MethodName := ⟨RX9, "seen", "(II)I"⟩
abbrev cX9_forget : ByteArray := prog_11_method_65_code
def yX9_forget : MethodName := ⟨RX9, "forget", "()I"⟩
abbrev cX9_read : ByteArray := prog_11_method_66_code
def yX9_read : MethodName := ⟨RX9, "read", "(I)I"⟩
abbrev cX9_isSeen : ByteArray := prog_11_method_67_code
def yX9_isSeen : MethodName := ⟨RX9, "isSeen", "()Z"⟩
abbrev cX9_ruleOf : ByteArray := prog_11_method_68_code
def yX9_ruleOf : MethodName := ⟨RX9, "ruleOf", "(I)I"⟩
abbrev cX9_rule : ByteArray := prog_11_method_69_code
def yX9_rule : MethodName := ⟨RX9, "rule", "(I)I"⟩
abbrev cX9_beganNow : ByteArray := prog_11_method_70_code
def yX9_beganNow : MethodName := ⟨RX9, "beganNow", "()I"⟩
abbrev cX9_began : ByteArray := prog_11_method_71_code
def yX9_began : MethodName := ⟨RX9, "began", "()I"⟩
abbrev cX9_askNow : ByteArray := prog_11_method_72_code
def yX9_askNow : MethodName := ⟨RX9, "askNow", "()I"⟩
abbrev cX9_ask : ByteArray := prog_11_method_73_code
def yX9_ask : MethodName := ⟨RX9, "ask", "()I"⟩
abbrev cX9_maybeOf : ByteArray := prog_11_method_74_code
def yX9_maybeOf : MethodName := ⟨RX9, "maybeOf", "(III)J"⟩
abbrev cX9_maybe : ByteArray := prog_11_method_75_code
def yX9_maybe : MethodName := ⟨RX9, "maybe", "(III)J"⟩
abbrev cX9_lot : ByteArray := prog_11_method_76_code
def yX9_lot : MethodName := ⟨RX9, "lot", "(I)I"⟩
abbrev cX9_weekOf : ByteArray := prog_11_method_77_code
def yX9_weekOf : MethodName := ⟨RX9, "weekOf", "(III)I"⟩
abbrev cX9_week : ByteArray := prog_11_method_78_code
def yX9_week : MethodName := ⟨RX9, "week", "(III)I"⟩
abbrev cX9_write : ByteArray := prog_11_method_79_code
def yX9_write : MethodName := ⟨RX9, "write", "(I)I"⟩
abbrev cX9_count : ByteArray := prog_11_method_80_code
def yX9_count : MethodName := ⟨RX9, "count", "(I)I"⟩
abbrev cX9_tellsCrosser : ByteArray := prog_11_method_81_code
def yX9_tellsCrosser : MethodName := ⟨RX9, "tellsCrosser", "(JI)J"⟩
abbrev cX9_digest : ByteArray := prog_11_method_82_code
def yX9_digest : MethodName := ⟨RX9, "digest", "()J"⟩
def RJ9 : String := "java/lang/Math"
abbrev cJ9_floorMod_7cf53 : ByteArray := prog_12_method_50_code
def yJ9_floorMod_7cf53 : MethodName := ⟨RJ9, "floorMod", "(II)I"⟩
abbrev cJ9_max_7cf53 : ByteArray := prog_12_method_65_code
def yJ9_max_7cf53 : MethodName := ⟨RJ9, "max", "(II)I"⟩
abbrev cJ9_min_7cf53 : ByteArray := prog_12_method_69_code
def yJ9_min_7cf53 : MethodName := ⟨RJ9, "min", "(II)I"⟩
def RJ10 : String := "java/lang/System"
def RL : String := "MiddlePlankLaw"
abbrev cL_law : ByteArray := code
def yL_law : MethodName := ⟨RL, "law", "([I)Z"⟩
abbrev vwCl : List vw_C := [(RX0, TX0, 7), (RX1, TX1, 5), (RX2, TX2, 2), (RX3, TX3, 2), (RX4, TX4, 8), (RX5, TX5, 4), (RX6, TX6, 3), (RX7, TX7, 2), (RX8, TX8, 16), (RX9, TX9, 31)]
end
section
theorem dX0_init_0 : decode cX0_init 0 = .ok (.aload_n 0, 1) := by decide +kernel
theorem dX0_init_1 : decode cX0_init 1 = .ok (.invokespecial 3, 3) := by decide +kernel
theorem dX0_init_4 : decode cX0_init 4 = .ok (.aload_n 0, 1) := by decide +kernel
theorem dX0_init_5 : decode cX0_init 5 = .ok (.iconst 5, 1) := by decide +kernel
theorem dX0_init_6 : decode cX0_init 6 = .ok (.putfield 9, 3) := by decide +kernel
theorem dX0_init_9 : decode cX0_init 9 = .ok (.aload_n 0, 1) := by decide +kernel
theorem dX0_init_10 : decode cX0_init 10 = .ok (.bipush 9, 2) := by decide +kernel
theorem dX0_init_12 : decode cX0_init 12 = .ok (.putfield 15, 3) := by decide +kernel
theorem dX0_init_15 : decode cX0_init 15 = .ok (.aload_n 0, 1) := by decide +kernel
theorem dX0_init_16 : decode cX0_init 16 = .ok (.iconst 4, 1) := by decide +kernel
theorem dX0_init_17 : decode cX0_init 17 = .ok (.newarray .int, 2) := by decide +kernel
theorem dX0_init_19 : decode cX0_init 19 = .ok (.dup, 1) := by decide +kernel
theorem dX0_init_20 : decode cX0_init 20 = .ok (.iconst 0, 1) := by decide +kernel
theorem dX0_init_21 : decode cX0_init 21 = .ok (.iconst 1, 1) := by decide +kernel
theorem dX0_init_22 : decode cX0_init 22 = .ok (.iastore, 1) := by decide +kernel
theorem dX0_init_23 : decode cX0_init 23 = .ok (.dup, 1) := by decide +kernel
theorem dX0_init_24 : decode cX0_init 24 = .ok (.iconst 1, 1) := by decide +kernel
theorem dX0_init_25 : decode cX0_init 25 = .ok (.iconst 2, 1) := by decide +kernel
theorem dX0_init_26 : decode cX0_init 26 = .ok (.iastore, 1) := by decide +kernel
theorem dX0_init_27 : decode cX0_init 27 = .ok (.dup, 1) := by decide +kernel
theorem dX0_init_28 : decode cX0_init 28 = .ok (.iconst 2, 1) := by decide +kernel
theorem dX0_init_29 : decode cX0_init 29 = .ok (.iconst (-1), 1) := by decide +kernel
theorem dX0_init_30 : decode cX0_init 30 = .ok (.iastore, 1) := by decide +kernel
theorem dX0_init_31 : decode cX0_init 31 = .ok (.dup, 1) := by decide +kernel
theorem dX0_init_32 : decode cX0_init 32 = .ok (.iconst 3, 1) := by decide +kernel
theorem dX0_init_33 : decode cX0_init 33 = .ok (.iconst 0, 1) := by decide +kernel
theorem dX0_init_34 : decode cX0_init 34 = .ok (.iastore, 1) := by decide +kernel
theorem dX0_init_35 : decode cX0_init 35 = .ok (.putfield 18, 3) := by decide +kernel
theorem dX0_init_38 : decode cX0_init 38 = .ok (.aload_n 0, 1) := by decide +kernel
theorem dX0_init_39 : decode cX0_init 39 = .ok (.bipush 19, 2) := by decide +kernel
theorem dX0_init_41 : decode cX0_init 41 = .ok (.newarray .boolean, 2) := by decide +kernel
theorem dX0_init_43 : decode cX0_init 43 = .ok (.putfield 22, 3) := by decide +kernel
theorem dX0_init_46 : decode cX0_init 46 = .ok (.aload_n 0, 1) := by decide +kernel
theorem dX0_init_47 : decode cX0_init 47 = .ok (.bipush 38, 2) := by decide +kernel
theorem dX0_init_49 : decode cX0_init 49 = .ok (.newarray .int, 2) := by decide +kernel
theorem dX0_init_51 : decode cX0_init 51 = .ok (.putfield 26, 3) := by decide +kernel
theorem dX0_init_54 : decode cX0_init 54 = .ok (.aload_n 0, 1) := by decide +kernel
theorem dX0_init_55 : decode cX0_init 55 = .ok (.bipush 38, 2) := by decide +kernel
theorem dX0_init_57 : decode cX0_init 57 = .ok (.newarray .int, 2) := by decide +kernel
theorem dX0_init_59 : decode cX0_init 59 = .ok (.putfield 29, 3) := by decide +kernel
theorem dX0_init_62 : decode cX0_init 62 = .ok (.return_, 1) := by decide +kernel
theorem dX0_take_0 : decode cX0_take 0 = .ok (.aload_n 0, 1) := by decide +kernel
theorem dX0_take_1 : decode cX0_take 1 = .ok (.iload_n 2, 1) := by decide +kernel
theorem dX0_take_2 : decode cX0_take 2 = .ok (.bipush 19, 2) := by decide +kernel
theorem dX0_take_4 : decode cX0_take 4 = .ok (.invokestatic 32, 3) := by decide +kernel
theorem dX0_take_7 : decode cX0_take 7 = .ok (.putfield 38, 3) := by decide +kernel
theorem dX0_take_10 : decode cX0_take 10 = .ok (.iconst 0, 1) := by decide +kernel
theorem dX0_take_11 : decode cX0_take 11 = .ok (.istore_n 3, 1) := by decide +kernel
theorem dX0_take_12 : decode cX0_take 12 = .ok (.iload_n 3, 1) := by decide +kernel
theorem dX0_take_13 : decode cX0_take 13 = .ok (.aload_n 0, 1) := by decide +kernel
theorem dX0_take_14 : decode cX0_take 14 = .ok (.getfield 38, 3) := by decide +kernel
theorem dX0_take_17 : decode cX0_take 17 = .ok (.if_icmp .ge 30, 3) := by decide +kernel
theorem dX0_take_20 : decode cX0_take 20 = .ok (.aload_n 0, 1) := by decide +kernel
theorem dX0_take_21 : decode cX0_take 21 = .ok (.getfield 22, 3) := by decide +kernel
theorem dX0_take_24 : decode cX0_take 24 = .ok (.iload_n 3, 1) := by decide +kernel
theorem dX0_take_25 : decode cX0_take 25 = .ok (.aload_n 1, 1) := by decide +kernel
theorem dX0_take_26 : decode cX0_take 26 = .ok (.iload_n 3, 1) := by decide +kernel
theorem dX0_take_27 : decode cX0_take 27 = .ok (.invokevirtual 41, 3) := by decide +kernel
theorem dX0_take_30 : decode cX0_take 30 = .ok (.bipush 114, 2) := by decide +kernel
theorem dX0_take_32 : decode cX0_take 32 = .ok (.if_icmp .ne 7, 3) := by decide +kernel
theorem dX0_take_35 : decode cX0_take 35 = .ok (.iconst 1, 1) := by decide +kernel
theorem dX0_take_36 : decode cX0_take 36 = .ok (.goto 4, 3) := by decide +kernel
theorem dX0_take_39 : decode cX0_take 39 = .ok (.iconst 0, 1) := by decide +kernel
theorem dX0_take_40 : decode cX0_take 40 = .ok (.bastore, 1) := by decide +kernel
theorem dX0_take_41 : decode cX0_take 41 = .ok (.iinc 3 1, 3) := by decide +kernel
theorem dX0_take_44 : decode cX0_take 44 = .ok (.goto (-32), 3) := by decide +kernel
theorem dX0_take_47 : decode cX0_take 47 = .ok (.iconst 0, 1) := by decide +kernel
theorem dX0_take_48 : decode cX0_take 48 = .ok (.istore_n 3, 1) := by decide +kernel
theorem dX0_take_49 : decode cX0_take 49 = .ok (.iload_n 3, 1) := by decide +kernel
theorem dX0_take_50 : decode cX0_take 50 = .ok (.aload_n 0, 1) := by decide +kernel
theorem dX0_take_51 : decode cX0_take 51 = .ok (.getfield 38, 3) := by decide +kernel
theorem dX0_take_54 : decode cX0_take 54 = .ok (.if_icmp .ge 21, 3) := by decide +kernel
theorem dX0_take_57 : decode cX0_take 57 = .ok (.aload_n 0, 1) := by decide +kernel
theorem dX0_take_58 : decode cX0_take 58 = .ok (.iconst 0, 1) := by decide +kernel
theorem dX0_take_59 : decode cX0_take 59 = .ok (.iload_n 3, 1) := by decide +kernel
theorem dX0_take_60 : decode cX0_take 60 = .ok (.invokevirtual 47, 3) := by decide +kernel
theorem dX0_take_63 : decode cX0_take 63 = .ok (.aload_n 0, 1) := by decide +kernel
theorem dX0_take_64 : decode cX0_take 64 = .ok (.iconst 1, 1) := by decide +kernel
theorem dX0_take_65 : decode cX0_take 65 = .ok (.iload_n 3, 1) := by decide +kernel
theorem dX0_take_66 : decode cX0_take 66 = .ok (.invokevirtual 47, 3) := by decide +kernel
theorem dX0_take_69 : decode cX0_take 69 = .ok (.iinc 3 1, 3) := by decide +kernel
theorem dX0_take_72 : decode cX0_take 72 = .ok (.goto (-23), 3) := by decide +kernel
theorem dX0_take_75 : decode cX0_take 75 = .ok (.return_, 1) := by decide +kernel
theorem dX0_measure_0 : decode cX0_measure 0 = .ok (.iconst 0, 1) := by decide +kernel
theorem dX0_measure_1 : decode cX0_measure 1 = .ok (.istore_n 3, 1) := by decide +kernel
theorem dX0_measure_2 : decode cX0_measure 2 = .ok (.iconst 0, 1) := by decide +kernel
theorem dX0_measure_3 : decode cX0_measure 3 = .ok (.istore 4, 2) := by decide +kernel
theorem dX0_measure_5 : decode cX0_measure 5 = .ok (.iconst 0, 1) := by decide +kernel
theorem dX0_measure_6 : decode cX0_measure 6 = .ok (.istore 5, 2) := by decide +kernel
theorem dX0_measure_8 : decode cX0_measure 8 = .ok (.iconst 0, 1) := by decide +kernel
theorem dX0_measure_9 : decode cX0_measure 9 = .ok (.istore 6, 2) := by decide +kernel
theorem dX0_measure_11 : decode cX0_measure 11 = .ok (.iload 6, 2) := by decide +kernel
theorem dX0_measure_13 : decode cX0_measure 13 = .ok (.aload_n 0, 1) := by decide +kernel
theorem dX0_measure_14 : decode cX0_measure 14 = .ok (.getfield 38, 3) := by decide +kernel
theorem dX0_measure_17 : decode cX0_measure 17 = .ok (.if_icmp .ge 48, 3) := by decide +kernel
theorem dX0_measure_20 : decode cX0_measure 20 = .ok (.aload_n 0, 1) := by decide +kernel
theorem dX0_measure_21 : decode cX0_measure 21 = .ok (.iload 6, 2) := by decide +kernel
theorem dX0_measure_23 : decode cX0_measure 23 = .ok (.iload_n 1, 1) := by decide +kernel
theorem dX0_measure_24 : decode cX0_measure 24 = .ok (.iload_n 2, 1) := by decide +kernel
theorem dX0_measure_25 : decode cX0_measure 25 = .ok (.invokevirtual 51, 3) := by decide +kernel
theorem dX0_measure_28 : decode cX0_measure 28 = .ok (.ifCond .eq 10, 3) := by decide +kernel
theorem dX0_measure_31 : decode cX0_measure 31 = .ok (.iload 5, 2) := by decide +kernel
theorem dX0_measure_33 : decode cX0_measure 33 = .ok (.iconst 1, 1) := by decide +kernel
theorem dX0_measure_34 : decode cX0_measure 34 = .ok (.iadd, 1) := by decide +kernel
theorem dX0_measure_35 : decode cX0_measure 35 = .ok (.goto 4, 3) := by decide +kernel
theorem dX0_measure_38 : decode cX0_measure 38 = .ok (.iconst 0, 1) := by decide +kernel
theorem dX0_measure_39 : decode cX0_measure 39 = .ok (.istore 5, 2) := by decide +kernel
theorem dX0_measure_41 : decode cX0_measure 41 = .ok (.iload 4, 2) := by decide +kernel
theorem dX0_measure_43 : decode cX0_measure 43 = .ok (.iload 5, 2) := by decide +kernel
theorem dX0_measure_45 : decode cX0_measure 45 = .ok (.invokestatic 55, 3) := by decide +kernel
theorem dX0_measure_48 : decode cX0_measure 48 = .ok (.istore 4, 2) := by decide +kernel
theorem dX0_measure_50 : decode cX0_measure 50 = .ok (.iload 5, 2) := by decide +kernel
theorem dX0_measure_52 : decode cX0_measure 52 = .ok (.iconst 1, 1) := by decide +kernel
theorem dX0_measure_53 : decode cX0_measure 53 = .ok (.if_icmp .ne 6, 3) := by decide +kernel
theorem dX0_measure_56 : decode cX0_measure 56 = .ok (.iinc 3 1, 3) := by decide +kernel
theorem dX0_measure_59 : decode cX0_measure 59 = .ok (.iinc 6 1, 3) := by decide +kernel
theorem dX0_measure_62 : decode cX0_measure 62 = .ok (.goto (-51), 3) := by decide +kernel
theorem dX0_measure_65 : decode cX0_measure 65 = .ok (.aload_n 0, 1) := by decide +kernel
theorem dX0_measure_66 : decode cX0_measure 66 = .ok (.getfield 26, 3) := by decide +kernel
theorem dX0_measure_69 : decode cX0_measure 69 = .ok (.iload_n 1, 1) := by decide +kernel
theorem dX0_measure_70 : decode cX0_measure 70 = .ok (.bipush 19, 2) := by decide +kernel
theorem dX0_measure_72 : decode cX0_measure 72 = .ok (.imul, 1) := by decide +kernel
theorem dX0_measure_73 : decode cX0_measure 73 = .ok (.iload_n 2, 1) := by decide +kernel
theorem dX0_measure_74 : decode cX0_measure 74 = .ok (.iadd, 1) := by decide +kernel
theorem dX0_measure_75 : decode cX0_measure 75 = .ok (.iload_n 3, 1) := by decide +kernel
theorem dX0_measure_76 : decode cX0_measure 76 = .ok (.iastore, 1) := by decide +kernel
theorem dX0_measure_77 : decode cX0_measure 77 = .ok (.aload_n 0, 1) := by decide +kernel
theorem dX0_measure_78 : decode cX0_measure 78 = .ok (.getfield 29, 3) := by decide +kernel
theorem dX0_measure_81 : decode cX0_measure 81 = .ok (.iload_n 1, 1) := by decide +kernel
theorem dX0_measure_82 : decode cX0_measure 82 = .ok (.bipush 19, 2) := by decide +kernel
theorem dX0_measure_84 : decode cX0_measure 84 = .ok (.imul, 1) := by decide +kernel
theorem dX0_measure_85 : decode cX0_measure 85 = .ok (.iload_n 2, 1) := by decide +kernel
theorem dX0_measure_86 : decode cX0_measure 86 = .ok (.iadd, 1) := by decide +kernel
theorem dX0_measure_87 : decode cX0_measure 87 = .ok (.iload 4, 2) := by decide +kernel
theorem dX0_measure_89 : decode cX0_measure 89 = .ok (.iastore, 1) := by decide +kernel
theorem dX0_measure_90 : decode cX0_measure 90 = .ok (.return_, 1) := by decide +kernel
theorem dX0_isHole_0 : decode cX0_isHole 0 = .ok (.iload_n 1, 1) := by decide +kernel
theorem dX0_isHole_1 : decode cX0_isHole 1 = .ok (.iload_n 3, 1) := by decide +kernel
theorem dX0_isHole_2 : decode cX0_isHole 2 = .ok (.if_icmp .eq 17, 3) := by decide +kernel
theorem dX0_isHole_5 : decode cX0_isHole 5 = .ok (.iload_n 2, 1) := by decide +kernel
theorem dX0_isHole_6 : decode cX0_isHole 6 = .ok (.iconst 1, 1) := by decide +kernel
theorem dX0_isHole_7 : decode cX0_isHole 7 = .ok (.if_icmp .ne 14, 3) := by decide +kernel
theorem dX0_isHole_10 : decode cX0_isHole 10 = .ok (.aload_n 0, 1) := by decide +kernel
theorem dX0_isHole_11 : decode cX0_isHole 11 = .ok (.getfield 22, 3) := by decide +kernel
theorem dX0_isHole_14 : decode cX0_isHole 14 = .ok (.iload_n 1, 1) := by decide +kernel
theorem dX0_isHole_15 : decode cX0_isHole 15 = .ok (.baload, 1) := by decide +kernel
theorem dX0_isHole_16 : decode cX0_isHole 16 = .ok (.ifCond .eq 5, 3) := by decide +kernel
theorem dX0_isHole_19 : decode cX0_isHole 19 = .ok (.iconst 1, 1) := by decide +kernel
theorem dX0_isHole_20 : decode cX0_isHole 20 = .ok (.ireturn, 1) := by decide +kernel
theorem dX0_isHole_21 : decode cX0_isHole 21 = .ok (.iload_n 3, 1) := by decide +kernel
theorem dX0_isHole_22 : decode cX0_isHole 22 = .ok (.iconst 1, 1) := by decide +kernel
theorem dX0_isHole_23 : decode cX0_isHole 23 = .ok (.iadd, 1) := by decide +kernel
theorem dX0_isHole_24 : decode cX0_isHole 24 = .ok (.aload_n 0, 1) := by decide +kernel
theorem dX0_isHole_25 : decode cX0_isHole 25 = .ok (.getfield 38, 3) := by decide +kernel
theorem dX0_isHole_28 : decode cX0_isHole 28 = .ok (.if_icmp .ge 9, 3) := by decide +kernel
theorem dX0_isHole_31 : decode cX0_isHole 31 = .ok (.iload_n 3, 1) := by decide +kernel
theorem dX0_isHole_32 : decode cX0_isHole 32 = .ok (.iconst 1, 1) := by decide +kernel
theorem dX0_isHole_33 : decode cX0_isHole 33 = .ok (.iadd, 1) := by decide +kernel
theorem dX0_isHole_34 : decode cX0_isHole 34 = .ok (.goto 4, 3) := by decide +kernel
theorem dX0_isHole_37 : decode cX0_isHole 37 = .ok (.iconst 0, 1) := by decide +kernel
theorem dX0_isHole_38 : decode cX0_isHole 38 = .ok (.istore 4, 2) := by decide +kernel
theorem dX0_isHole_40 : decode cX0_isHole 40 = .ok (.aload_n 0, 1) := by decide +kernel
theorem dX0_isHole_41 : decode cX0_isHole 41 = .ok (.getfield 9, 3) := by decide +kernel
theorem dX0_isHole_44 : decode cX0_isHole 44 = .ok (.bipush 7, 2) := by decide +kernel
theorem dX0_isHole_46 : decode cX0_isHole 46 = .ok (.if_icmp .lt 13, 3) := by decide +kernel
theorem dX0_isHole_49 : decode cX0_isHole 49 = .ok (.iload_n 1, 1) := by decide +kernel
theorem dX0_isHole_50 : decode cX0_isHole 50 = .ok (.iload 4, 2) := by decide +kernel
theorem dX0_isHole_52 : decode cX0_isHole 52 = .ok (.if_icmp .ne 7, 3) := by decide +kernel
theorem dX0_isHole_55 : decode cX0_isHole 55 = .ok (.iconst 1, 1) := by decide +kernel
theorem dX0_isHole_56 : decode cX0_isHole 56 = .ok (.goto 4, 3) := by decide +kernel
theorem dX0_isHole_59 : decode cX0_isHole 59 = .ok (.iconst 0, 1) := by decide +kernel
theorem dX0_isHole_60 : decode cX0_isHole 60 = .ok (.ireturn, 1) := by decide +kernel
theorem dX0_hasPlank_0 : decode cX0_hasPlank 0 = .ok (.iload_n 1, 1) := by decide +kernel
theorem dX0_hasPlank_1 : decode cX0_hasPlank 1 = .ok (.iconst 0, 1) := by decide +kernel
theorem dX0_hasPlank_2 : decode cX0_hasPlank 2 = .ok (.aload_n 0, 1) := by decide +kernel
theorem dX0_hasPlank_3 : decode cX0_hasPlank 3 = .ok (.getfield 38, 3) := by decide +kernel
theorem dX0_hasPlank_6 : decode cX0_hasPlank 6 = .ok (.iconst 1, 1) := by decide +kernel
theorem dX0_hasPlank_7 : decode cX0_hasPlank 7 = .ok (.isub, 1) := by decide +kernel
theorem dX0_hasPlank_8 : decode cX0_hasPlank 8 = .ok (.invokestatic 58, 3) := by decide +kernel
theorem dX0_hasPlank_11 : decode cX0_hasPlank 11 = .ok (.ireturn, 1) := by decide +kernel
theorem dX0_isRotten_0 : decode cX0_isRotten 0 = .ok (.aload_n 0, 1) := by decide +kernel
theorem dX0_isRotten_1 : decode cX0_isRotten 1 = .ok (.iload_n 1, 1) := by decide +kernel
theorem dX0_isRotten_2 : decode cX0_isRotten 2 = .ok (.invokevirtual 61, 3) := by decide +kernel
theorem dX0_isRotten_5 : decode cX0_isRotten 5 = .ok (.ifCond .eq 16, 3) := by decide +kernel
theorem dX0_isRotten_8 : decode cX0_isRotten 8 = .ok (.aload_n 0, 1) := by decide +kernel
theorem dX0_isRotten_9 : decode cX0_isRotten 9 = .ok (.getfield 22, 3) := by decide +kernel
theorem dX0_isRotten_12 : decode cX0_isRotten 12 = .ok (.iload_n 1, 1) := by decide +kernel
theorem dX0_isRotten_13 : decode cX0_isRotten 13 = .ok (.baload, 1) := by decide +kernel
theorem dX0_isRotten_14 : decode cX0_isRotten 14 = .ok (.ifCond .eq 7, 3) := by decide +kernel
theorem dX0_isRotten_17 : decode cX0_isRotten 17 = .ok (.iconst 1, 1) := by decide +kernel
theorem dX0_isRotten_18 : decode cX0_isRotten 18 = .ok (.goto 4, 3) := by decide +kernel
theorem dX0_isRotten_21 : decode cX0_isRotten 21 = .ok (.iconst 0, 1) := by decide +kernel
theorem dX0_isRotten_22 : decode cX0_isRotten 22 = .ok (.ireturn, 1) := by decide +kernel
theorem dX0_firstGap_0 : decode cX0_firstGap 0 = .ok (.aload_n 0, 1) := by decide +kernel
theorem dX0_firstGap_1 : decode cX0_firstGap 1 = .ok (.getfield 38, 3) := by decide +kernel
theorem dX0_firstGap_4 : decode cX0_firstGap 4 = .ok (.ifCond .ne 7, 3) := by decide +kernel
theorem dX0_firstGap_7 : decode cX0_firstGap 7 = .ok (.iconst (-1), 1) := by decide +kernel
theorem dX0_firstGap_8 : decode cX0_firstGap 8 = .ok (.goto 12, 3) := by decide +kernel
theorem dX0_firstGap_11 : decode cX0_firstGap 11 = .ok (.aload_n 0, 1) := by decide +kernel
theorem dX0_firstGap_12 : decode cX0_firstGap 12 = .ok (.getfield 15, 3) := by decide +kernel
theorem dX0_firstGap_15 : decode cX0_firstGap 15 = .ok (.aload_n 0, 1) := by decide +kernel
theorem dX0_firstGap_16 : decode cX0_firstGap 16 = .ok (.getfield 38, 3) := by decide +kernel
theorem dX0_firstGap_19 : decode cX0_firstGap 19 = .ok (.irem, 1) := by decide +kernel
theorem dX0_firstGap_20 : decode cX0_firstGap 20 = .ok (.ireturn, 1) := by decide +kernel
theorem dX0_outcome_0 : decode cX0_outcome 0 = .ok (.aload_n 1, 1) := by decide +kernel
theorem dX0_outcome_1 : decode cX0_outcome 1 = .ok (.ifnull 23, 3) := by decide +kernel
theorem dX0_outcome_4 : decode cX0_outcome 4 = .ok (.aload_n 0, 1) := by decide +kernel
theorem dX0_outcome_5 : decode cX0_outcome 5 = .ok (.getfield 9, 3) := by decide +kernel
theorem dX0_outcome_8 : decode cX0_outcome 8 = .ok (.iconst 1, 1) := by decide +kernel
theorem dX0_outcome_9 : decode cX0_outcome 9 = .ok (.if_icmp .le 15, 3) := by decide +kernel
theorem dX0_outcome_12 : decode cX0_outcome 12 = .ok (.iload_n 2, 1) := by decide +kernel
theorem dX0_outcome_13 : decode cX0_outcome 13 = .ok (.ifCond .lt 11, 3) := by decide +kernel
theorem dX0_outcome_16 : decode cX0_outcome 16 = .ok (.iload_n 2, 1) := by decide +kernel
theorem dX0_outcome_17 : decode cX0_outcome 17 = .ok (.aload_n 0, 1) := by decide +kernel
theorem dX0_outcome_18 : decode cX0_outcome 18 = .ok (.getfield 38, 3) := by decide +kernel
theorem dX0_outcome_21 : decode cX0_outcome 21 = .ok (.if_icmp .lt 5, 3) := by decide +kernel
theorem dX0_outcome_24 : decode cX0_outcome 24 = .ok (.iconst 0, 1) := by decide +kernel
theorem dX0_outcome_25 : decode cX0_outcome 25 = .ok (.ireturn, 1) := by decide +kernel
theorem dX0_outcome_26 : decode cX0_outcome 26 = .ok (.aload_n 0, 1) := by decide +kernel
theorem dX0_outcome_27 : decode cX0_outcome 27 = .ok (.getfield 29, 3) := by decide +kernel
theorem dX0_outcome_30 : decode cX0_outcome 30 = .ok (.aload_n 1, 1) := by decide +kernel
theorem dX0_outcome_31 : decode cX0_outcome 31 = .ok (.getfield 65, 3) := by decide +kernel
theorem dX0_outcome_34 : decode cX0_outcome 34 = .ok (.bipush 19, 2) := by decide +kernel
theorem dX0_outcome_36 : decode cX0_outcome 36 = .ok (.imul, 1) := by decide +kernel
theorem dX0_outcome_37 : decode cX0_outcome 37 = .ok (.iload_n 2, 1) := by decide +kernel
theorem dX0_outcome_38 : decode cX0_outcome 38 = .ok (.iadd, 1) := by decide +kernel
theorem dX0_outcome_39 : decode cX0_outcome 39 = .ok (.iaload, 1) := by decide +kernel
theorem dX0_outcome_40 : decode cX0_outcome 40 = .ok (.aload_n 1, 1) := by decide +kernel
theorem dX0_outcome_41 : decode cX0_outcome 41 = .ok (.getfield 70, 3) := by decide +kernel
theorem dX0_outcome_44 : decode cX0_outcome 44 = .ok (.if_icmp .le 7, 3) := by decide +kernel
theorem dX0_outcome_47 : decode cX0_outcome 47 = .ok (.iconst 2, 1) := by decide +kernel
theorem dX0_outcome_48 : decode cX0_outcome 48 = .ok (.goto 4, 3) := by decide +kernel
theorem dX0_outcome_51 : decode cX0_outcome 51 = .ok (.iconst 1, 1) := by decide +kernel
theorem dX0_outcome_52 : decode cX0_outcome 52 = .ok (.ireturn, 1) := by decide +kernel
theorem dX0_toll_0 : decode cX0_toll 0 = .ok (.aload_n 0, 1) := by decide +kernel
theorem dX0_toll_1 : decode cX0_toll 1 = .ok (.aload_n 1, 1) := by decide +kernel
theorem dX0_toll_2 : decode cX0_toll 2 = .ok (.iload_n 2, 1) := by decide +kernel
theorem dX0_toll_3 : decode cX0_toll 3 = .ok (.invokevirtual 73, 3) := by decide +kernel
theorem dX0_toll_6 : decode cX0_toll 6 = .ok (.iconst 1, 1) := by decide +kernel
theorem dX0_toll_7 : decode cX0_toll 7 = .ok (.if_icmp .ne 11, 3) := by decide +kernel
theorem dX0_toll_10 : decode cX0_toll 10 = .ok (.aload_n 1, 1) := by decide +kernel
theorem dX0_toll_11 : decode cX0_toll 11 = .ok (.getfield 77, 3) := by decide +kernel
theorem dX0_toll_14 : decode cX0_toll 14 = .ok (.iconst 4, 1) := by decide +kernel
theorem dX0_toll_15 : decode cX0_toll 15 = .ok (.if_icmp .ne 5, 3) := by decide +kernel
theorem dX0_toll_18 : decode cX0_toll 18 = .ok (.iconst 0, 1) := by decide +kernel
theorem dX0_toll_19 : decode cX0_toll 19 = .ok (.ireturn, 1) := by decide +kernel
theorem dX0_toll_20 : decode cX0_toll 20 = .ok (.aload_n 0, 1) := by decide +kernel
theorem dX0_toll_21 : decode cX0_toll 21 = .ok (.getfield 26, 3) := by decide +kernel
theorem dX0_toll_24 : decode cX0_toll 24 = .ok (.aload_n 1, 1) := by decide +kernel
theorem dX0_toll_25 : decode cX0_toll 25 = .ok (.getfield 65, 3) := by decide +kernel
theorem dX0_toll_28 : decode cX0_toll 28 = .ok (.bipush 19, 2) := by decide +kernel
theorem dX0_toll_30 : decode cX0_toll 30 = .ok (.imul, 1) := by decide +kernel
theorem dX0_toll_31 : decode cX0_toll 31 = .ok (.iload_n 2, 1) := by decide +kernel
theorem dX0_toll_32 : decode cX0_toll 32 = .ok (.iadd, 1) := by decide +kernel
theorem dX0_toll_33 : decode cX0_toll 33 = .ok (.iaload, 1) := by decide +kernel
theorem dX0_toll_34 : decode cX0_toll 34 = .ok (.ireturn, 1) := by decide +kernel
theorem dX0_longestRow_0 : decode cX0_longestRow 0 = .ok (.aload_n 0, 1) := by decide +kernel
theorem dX0_longestRow_1 : decode cX0_longestRow 1 = .ok (.aload_n 1, 1) := by decide +kernel
theorem dX0_longestRow_2 : decode cX0_longestRow 2 = .ok (.iload_n 2, 1) := by decide +kernel
theorem dX0_longestRow_3 : decode cX0_longestRow 3 = .ok (.invokevirtual 73, 3) := by decide +kernel
theorem dX0_longestRow_6 : decode cX0_longestRow 6 = .ok (.ifCond .ne 7, 3) := by decide +kernel
theorem dX0_longestRow_9 : decode cX0_longestRow 9 = .ok (.iconst 0, 1) := by decide +kernel
theorem dX0_longestRow_10 : decode cX0_longestRow 10 = .ok (.goto 17, 3) := by decide +kernel
theorem dX0_longestRow_13 : decode cX0_longestRow 13 = .ok (.aload_n 0, 1) := by decide +kernel
theorem dX0_longestRow_14 : decode cX0_longestRow 14 = .ok (.getfield 29, 3) := by decide +kernel
theorem dX0_longestRow_17 : decode cX0_longestRow 17 = .ok (.aload_n 1, 1) := by decide +kernel
theorem dX0_longestRow_18 : decode cX0_longestRow 18 = .ok (.getfield 65, 3) := by decide +kernel
theorem dX0_longestRow_21 : decode cX0_longestRow 21 = .ok (.bipush 19, 2) := by decide +kernel
theorem dX0_longestRow_23 : decode cX0_longestRow 23 = .ok (.imul, 1) := by decide +kernel
theorem dX0_longestRow_24 : decode cX0_longestRow 24 = .ok (.iload_n 2, 1) := by decide +kernel
theorem dX0_longestRow_25 : decode cX0_longestRow 25 = .ok (.iadd, 1) := by decide +kernel
theorem dX0_longestRow_26 : decode cX0_longestRow 26 = .ok (.iaload, 1) := by decide +kernel
theorem dX0_longestRow_27 : decode cX0_longestRow 27 = .ok (.ireturn, 1) := by decide +kernel
theorem dX0_gapBehind_0 : decode cX0_gapBehind 0 = .ok (.aload_n 0, 1) := by decide +kernel
theorem dX0_gapBehind_1 : decode cX0_gapBehind 1 = .ok (.aload_n 1, 1) := by decide +kernel
theorem dX0_gapBehind_2 : decode cX0_gapBehind 2 = .ok (.iload_n 2, 1) := by decide +kernel
theorem dX0_gapBehind_3 : decode cX0_gapBehind 3 = .ok (.invokevirtual 73, 3) := by decide +kernel
theorem dX0_gapBehind_6 : decode cX0_gapBehind 6 = .ok (.iconst 1, 1) := by decide +kernel
theorem dX0_gapBehind_7 : decode cX0_gapBehind 7 = .ok (.if_icmp .eq 5, 3) := by decide +kernel
theorem dX0_gapBehind_10 : decode cX0_gapBehind 10 = .ok (.iload_n 2, 1) := by decide +kernel
theorem dX0_gapBehind_11 : decode cX0_gapBehind 11 = .ok (.ireturn, 1) := by decide +kernel
theorem dX0_gapBehind_12 : decode cX0_gapBehind 12 = .ok (.aload_n 1, 1) := by decide +kernel
theorem dX0_gapBehind_13 : decode cX0_gapBehind 13 = .ok (.getfield 77, 3) := by decide +kernel
theorem dX0_gapBehind_16 : decode cX0_gapBehind 16 = .ok (.iconst 4, 1) := by decide +kernel
theorem dX0_gapBehind_17 : decode cX0_gapBehind 17 = .ok (.if_icmp .ne 12, 3) := by decide +kernel
theorem dX0_gapBehind_20 : decode cX0_gapBehind 20 = .ok (.aload_n 0, 1) := by decide +kernel
theorem dX0_gapBehind_21 : decode cX0_gapBehind 21 = .ok (.getfield 38, 3) := by decide +kernel
theorem dX0_gapBehind_24 : decode cX0_gapBehind 24 = .ok (.iconst 1, 1) := by decide +kernel
theorem dX0_gapBehind_25 : decode cX0_gapBehind 25 = .ok (.isub, 1) := by decide +kernel
theorem dX0_gapBehind_26 : decode cX0_gapBehind 26 = .ok (.iload_n 2, 1) := by decide +kernel
theorem dX0_gapBehind_27 : decode cX0_gapBehind 27 = .ok (.isub, 1) := by decide +kernel
theorem dX0_gapBehind_28 : decode cX0_gapBehind 28 = .ok (.ireturn, 1) := by decide +kernel
theorem dX0_gapBehind_29 : decode cX0_gapBehind 29 = .ok (.aload_n 1, 1) := by decide +kernel
theorem dX0_gapBehind_30 : decode cX0_gapBehind 30 = .ok (.aload_n 3, 1) := by decide +kernel
theorem dX0_gapBehind_31 : decode cX0_gapBehind 31 = .ok (.invokevirtual 80, 3) := by decide +kernel
theorem dX0_gapBehind_34 : decode cX0_gapBehind 34 = .ok (.istore 4, 2) := by decide +kernel
theorem dX0_gapBehind_36 : decode cX0_gapBehind 36 = .ok (.aload_n 1, 1) := by decide +kernel
theorem dX0_gapBehind_37 : decode cX0_gapBehind 37 = .ok (.getfield 84, 3) := by decide +kernel
theorem dX0_gapBehind_40 : decode cX0_gapBehind 40 = .ok (.ifCond .ne 10, 3) := by decide +kernel
theorem dX0_gapBehind_43 : decode cX0_gapBehind 43 = .ok (.iload_n 2, 1) := by decide +kernel
theorem dX0_gapBehind_44 : decode cX0_gapBehind 44 = .ok (.iload 4, 2) := by decide +kernel
theorem dX0_gapBehind_46 : decode cX0_gapBehind 46 = .ok (.iadd, 1) := by decide +kernel
theorem dX0_gapBehind_47 : decode cX0_gapBehind 47 = .ok (.goto 7, 3) := by decide +kernel
theorem dX0_gapBehind_50 : decode cX0_gapBehind 50 = .ok (.iload_n 2, 1) := by decide +kernel
theorem dX0_gapBehind_51 : decode cX0_gapBehind 51 = .ok (.iload 4, 2) := by decide +kernel
theorem dX0_gapBehind_53 : decode cX0_gapBehind 53 = .ok (.isub, 1) := by decide +kernel
theorem dX0_gapBehind_54 : decode cX0_gapBehind 54 = .ok (.aload_n 0, 1) := by decide +kernel
theorem dX0_gapBehind_55 : decode cX0_gapBehind 55 = .ok (.getfield 38, 3) := by decide +kernel
theorem dX0_gapBehind_58 : decode cX0_gapBehind 58 = .ok (.invokestatic 87, 3) := by decide +kernel
theorem dX0_gapBehind_61 : decode cX0_gapBehind 61 = .ok (.ireturn, 1) := by decide +kernel
theorem dX1_init_0 : decode cX1_init 0 = .ok (.aload_n 0, 1) := by decide +kernel
theorem dX1_init_1 : decode cX1_init 1 = .ok (.invokespecial 3, 3) := by decide +kernel
theorem dX1_init_4 : decode cX1_init 4 = .ok (.return_, 1) := by decide +kernel
theorem dX1_take_0 : decode cX1_take 0 = .ok (.aload_n 0, 1) := by decide +kernel
theorem dX1_take_1 : decode cX1_take 1 = .ok (.aload_n 1, 1) := by decide +kernel
theorem dX1_take_2 : decode cX1_take 2 = .ok (.iload_n 2, 1) := by decide +kernel
theorem dX1_take_3 : decode cX1_take 3 = .ok (.invokevirtual 9, 3) := by decide +kernel
theorem dX1_take_6 : decode cX1_take 6 = .ok (.getstatic 15, 3) := by decide +kernel
theorem dX1_take_9 : decode cX1_take 9 = .ok (.invokestatic 19, 3) := by decide +kernel
theorem dX1_take_12 : decode cX1_take 12 = .ok (.putfield 23, 3) := by decide +kernel
theorem dX1_take_15 : decode cX1_take 15 = .ok (.aload_n 0, 1) := by decide +kernel
theorem dX1_take_16 : decode cX1_take 16 = .ok (.iconst 1, 1) := by decide +kernel
theorem dX1_take_17 : decode cX1_take 17 = .ok (.aload_n 1, 1) := by decide +kernel
theorem dX1_take_18 : decode cX1_take 18 = .ok (.iload_n 2, 1) := by decide +kernel
theorem dX1_take_19 : decode cX1_take 19 = .ok (.iconst 1, 1) := by decide +kernel
theorem dX1_take_20 : decode cX1_take 20 = .ok (.iadd, 1) := by decide +kernel
theorem dX1_take_21 : decode cX1_take 21 = .ok (.invokevirtual 9, 3) := by decide +kernel
theorem dX1_take_24 : decode cX1_take 24 = .ok (.getstatic 29, 3) := by decide +kernel
theorem dX1_take_27 : decode cX1_take 27 = .ok (.invokestatic 19, 3) := by decide +kernel
theorem dX1_take_30 : decode cX1_take 30 = .ok (.iadd, 1) := by decide +kernel
theorem dX1_take_31 : decode cX1_take 31 = .ok (.putfield 32, 3) := by decide +kernel
theorem dX1_take_34 : decode cX1_take 34 = .ok (.aload_n 0, 1) := by decide +kernel
theorem dX1_take_35 : decode cX1_take 35 = .ok (.aload_n 0, 1) := by decide +kernel
theorem dX1_take_36 : decode cX1_take 36 = .ok (.getfield 32, 3) := by decide +kernel
theorem dX1_take_39 : decode cX1_take 39 = .ok (.bipush 6, 2) := by decide +kernel
theorem dX1_take_41 : decode cX1_take 41 = .ok (.if_icmp .lt 7, 3) := by decide +kernel
theorem dX1_take_44 : decode cX1_take 44 = .ok (.iconst 1, 1) := by decide +kernel
theorem dX1_take_45 : decode cX1_take 45 = .ok (.goto 4, 3) := by decide +kernel
theorem dX1_take_48 : decode cX1_take 48 = .ok (.iconst 0, 1) := by decide +kernel
theorem dX1_take_49 : decode cX1_take 49 = .ok (.putfield 35, 3) := by decide +kernel
theorem dX1_take_52 : decode cX1_take 52 = .ok (.aload_n 0, 1) := by decide +kernel
theorem dX1_take_53 : decode cX1_take 53 = .ok (.aload_n 1, 1) := by decide +kernel
theorem dX1_take_54 : decode cX1_take 54 = .ok (.iload_n 2, 1) := by decide +kernel
theorem dX1_take_55 : decode cX1_take 55 = .ok (.iconst 2, 1) := by decide +kernel
theorem dX1_take_56 : decode cX1_take 56 = .ok (.iadd, 1) := by decide +kernel
theorem dX1_take_57 : decode cX1_take 57 = .ok (.invokevirtual 9, 3) := by decide +kernel
theorem dX1_take_60 : decode cX1_take 60 = .ok (.getstatic 38, 3) := by decide +kernel
theorem dX1_take_63 : decode cX1_take 63 = .ok (.invokestatic 19, 3) := by decide +kernel
theorem dX1_take_66 : decode cX1_take 66 = .ok (.putfield 41, 3) := by decide +kernel
theorem dX1_take_69 : decode cX1_take 69 = .ok (.aload_n 0, 1) := by decide +kernel
theorem dX1_take_70 : decode cX1_take 70 = .ok (.aload_n 1, 1) := by decide +kernel
theorem dX1_take_71 : decode cX1_take 71 = .ok (.iload_n 2, 1) := by decide +kernel
theorem dX1_take_72 : decode cX1_take 72 = .ok (.iconst 3, 1) := by decide +kernel
theorem dX1_take_73 : decode cX1_take 73 = .ok (.iadd, 1) := by decide +kernel
theorem dX1_take_74 : decode cX1_take 74 = .ok (.invokevirtual 9, 3) := by decide +kernel
theorem dX1_take_77 : decode cX1_take 77 = .ok (.getstatic 44, 3) := by decide +kernel
theorem dX1_take_80 : decode cX1_take 80 = .ok (.invokestatic 19, 3) := by decide +kernel
theorem dX1_take_83 : decode cX1_take 83 = .ok (.putfield 47, 3) := by decide +kernel
theorem dX1_take_86 : decode cX1_take 86 = .ok (.return_, 1) := by decide +kernel
theorem dX1_shiftBy_0 : decode cX1_shiftBy 0 = .ok (.aload_n 0, 1) := by decide +kernel
theorem dX1_shiftBy_1 : decode cX1_shiftBy 1 = .ok (.getfield 23, 3) := by decide +kernel
theorem dX1_shiftBy_4 : decode cX1_shiftBy 4 = .ok (.ifCond .lt 21, 3) := by decide +kernel
theorem dX1_shiftBy_7 : decode cX1_shiftBy 7 = .ok (.aload_n 0, 1) := by decide +kernel
theorem dX1_shiftBy_8 : decode cX1_shiftBy 8 = .ok (.getfield 23, 3) := by decide +kernel
theorem dX1_shiftBy_11 : decode cX1_shiftBy 11 = .ok (.aload_n 1, 1) := by decide +kernel
theorem dX1_shiftBy_12 : decode cX1_shiftBy 12 = .ok (.arraylength, 1) := by decide +kernel
theorem dX1_shiftBy_13 : decode cX1_shiftBy 13 = .ok (.if_icmp .ge 12, 3) := by decide +kernel
theorem dX1_shiftBy_16 : decode cX1_shiftBy 16 = .ok (.aload_n 1, 1) := by decide +kernel
theorem dX1_shiftBy_17 : decode cX1_shiftBy 17 = .ok (.aload_n 0, 1) := by decide +kernel
theorem dX1_shiftBy_18 : decode cX1_shiftBy 18 = .ok (.getfield 23, 3) := by decide +kernel
theorem dX1_shiftBy_21 : decode cX1_shiftBy 21 = .ok (.iaload, 1) := by decide +kernel
theorem dX1_shiftBy_22 : decode cX1_shiftBy 22 = .ok (.goto 4, 3) := by decide +kernel
theorem dX1_shiftBy_25 : decode cX1_shiftBy 25 = .ok (.iconst 0, 1) := by decide +kernel
theorem dX1_shiftBy_26 : decode cX1_shiftBy 26 = .ok (.ireturn, 1) := by decide +kernel
theorem dX2_init_0 : decode cX2_init 0 = .ok (.aload_n 0, 1) := by decide +kernel
theorem dX2_init_1 : decode cX2_init 1 = .ok (.invokespecial 3, 3) := by decide +kernel
theorem dX2_init_4 : decode cX2_init 4 = .ok (.aload_n 0, 1) := by decide +kernel
theorem dX2_init_5 : decode cX2_init 5 = .ok (.bipush 8, 2) := by decide +kernel
theorem dX2_init_7 : decode cX2_init 7 = .ok (.anewarray 9, 3) := by decide +kernel
theorem dX2_init_10 : decode cX2_init 10 = .ok (.putfield 11, 3) := by decide +kernel
theorem dX2_init_13 : decode cX2_init 13 = .ok (.iconst 0, 1) := by decide +kernel
theorem dX2_init_14 : decode cX2_init 14 = .ok (.istore_n 1, 1) := by decide +kernel
theorem dX2_init_15 : decode cX2_init 15 = .ok (.iload_n 1, 1) := by decide +kernel
theorem dX2_init_16 : decode cX2_init 16 = .ok (.bipush 8, 2) := by decide +kernel
theorem dX2_init_18 : decode cX2_init 18 = .ok (.if_icmp .ge 22, 3) := by decide +kernel
theorem dX2_init_21 : decode cX2_init 21 = .ok (.aload_n 0, 1) := by decide +kernel
theorem dX2_init_22 : decode cX2_init 22 = .ok (.getfield 11, 3) := by decide +kernel
theorem dX2_init_25 : decode cX2_init 25 = .ok (.iload_n 1, 1) := by decide +kernel
theorem dX2_init_26 : decode cX2_init 26 = .ok (.new 9, 3) := by decide +kernel
theorem dX2_init_29 : decode cX2_init 29 = .ok (.dup, 1) := by decide +kernel
theorem dX2_init_30 : decode cX2_init 30 = .ok (.invokespecial 17, 3) := by decide +kernel
theorem dX2_init_33 : decode cX2_init 33 = .ok (.aastore, 1) := by decide +kernel
theorem dX2_init_34 : decode cX2_init 34 = .ok (.iinc 1 1, 3) := by decide +kernel
theorem dX2_init_37 : decode cX2_init 37 = .ok (.goto (-22), 3) := by decide +kernel
theorem dX2_init_40 : decode cX2_init 40 = .ok (.return_, 1) := by decide +kernel
theorem dX2_take_0 : decode cX2_take 0 = .ok (.aload_n 0, 1) := by decide +kernel
theorem dX2_take_1 : decode cX2_take 1 = .ok (.iload_n 2, 1) := by decide +kernel
theorem dX2_take_2 : decode cX2_take 2 = .ok (.iconst 1, 1) := by decide +kernel
theorem dX2_take_3 : decode cX2_take 3 = .ok (.iadd, 1) := by decide +kernel
theorem dX2_take_4 : decode cX2_take 4 = .ok (.iconst 5, 1) := by decide +kernel
theorem dX2_take_5 : decode cX2_take 5 = .ok (.idiv, 1) := by decide +kernel
theorem dX2_take_6 : decode cX2_take 6 = .ok (.bipush 8, 2) := by decide +kernel
theorem dX2_take_8 : decode cX2_take 8 = .ok (.invokestatic 18, 3) := by decide +kernel
theorem dX2_take_11 : decode cX2_take 11 = .ok (.putfield 24, 3) := by decide +kernel
theorem dX2_take_14 : decode cX2_take 14 = .ok (.iconst 0, 1) := by decide +kernel
theorem dX2_take_15 : decode cX2_take 15 = .ok (.istore_n 3, 1) := by decide +kernel
theorem dX2_take_16 : decode cX2_take 16 = .ok (.iload_n 3, 1) := by decide +kernel
theorem dX2_take_17 : decode cX2_take 17 = .ok (.aload_n 0, 1) := by decide +kernel
theorem dX2_take_18 : decode cX2_take 18 = .ok (.getfield 24, 3) := by decide +kernel
theorem dX2_take_21 : decode cX2_take 21 = .ok (.if_icmp .ge 22, 3) := by decide +kernel
theorem dX2_take_24 : decode cX2_take 24 = .ok (.aload_n 0, 1) := by decide +kernel
theorem dX2_take_25 : decode cX2_take 25 = .ok (.getfield 11, 3) := by decide +kernel
theorem dX2_take_28 : decode cX2_take 28 = .ok (.iload_n 3, 1) := by decide +kernel
theorem dX2_take_29 : decode cX2_take 29 = .ok (.aaload, 1) := by decide +kernel
theorem dX2_take_30 : decode cX2_take 30 = .ok (.aload_n 1, 1) := by decide +kernel
theorem dX2_take_31 : decode cX2_take 31 = .ok (.iload_n 3, 1) := by decide +kernel
theorem dX2_take_32 : decode cX2_take 32 = .ok (.iconst 5, 1) := by decide +kernel
theorem dX2_take_33 : decode cX2_take 33 = .ok (.imul, 1) := by decide +kernel
theorem dX2_take_34 : decode cX2_take 34 = .ok (.invokevirtual 28, 3) := by decide +kernel
theorem dX2_take_37 : decode cX2_take 37 = .ok (.iinc 3 1, 3) := by decide +kernel
theorem dX2_take_40 : decode cX2_take 40 = .ok (.goto (-24), 3) := by decide +kernel
theorem dX2_take_43 : decode cX2_take 43 = .ok (.return_, 1) := by decide +kernel
theorem dX2_at_0 : decode cX2_at 0 = .ok (.iload_n 1, 1) := by decide +kernel
theorem dX2_at_1 : decode cX2_at 1 = .ok (.iconst 0, 1) := by decide +kernel
theorem dX2_at_2 : decode cX2_at 2 = .ok (.aload_n 0, 1) := by decide +kernel
theorem dX2_at_3 : decode cX2_at 3 = .ok (.getfield 24, 3) := by decide +kernel
theorem dX2_at_6 : decode cX2_at 6 = .ok (.iconst 1, 1) := by decide +kernel
theorem dX2_at_7 : decode cX2_at 7 = .ok (.isub, 1) := by decide +kernel
theorem dX2_at_8 : decode cX2_at 8 = .ok (.invokestatic 32, 3) := by decide +kernel
theorem dX2_at_11 : decode cX2_at 11 = .ok (.ifCond .eq 12, 3) := by decide +kernel
theorem dX2_at_14 : decode cX2_at 14 = .ok (.aload_n 0, 1) := by decide +kernel
theorem dX2_at_15 : decode cX2_at 15 = .ok (.getfield 11, 3) := by decide +kernel
theorem dX2_at_18 : decode cX2_at 18 = .ok (.iload_n 1, 1) := by decide +kernel
theorem dX2_at_19 : decode cX2_at 19 = .ok (.aaload, 1) := by decide +kernel
theorem dX2_at_20 : decode cX2_at 20 = .ok (.goto 4, 3) := by decide +kernel
theorem dX2_at_23 : decode cX2_at 23 = .ok (.aconst_null, 1) := by decide +kernel
theorem dX2_at_24 : decode cX2_at 24 = .ok (.areturn, 1) := by decide +kernel
theorem dX3_init_0 : decode cX3_init 0 = .ok (.aload_n 0, 1) := by decide +kernel
theorem dX3_init_1 : decode cX3_init 1 = .ok (.invokespecial 3, 3) := by decide +kernel
theorem dX3_init_4 : decode cX3_init 4 = .ok (.aload_n 0, 1) := by decide +kernel
theorem dX3_init_5 : decode cX3_init 5 = .ok (.bipush 24, 2) := by decide +kernel
theorem dX3_init_7 : decode cX3_init 7 = .ok (.newarray .int, 2) := by decide +kernel
theorem dX3_init_9 : decode cX3_init 9 = .ok (.putfield 9, 3) := by decide +kernel
theorem dX3_init_12 : decode cX3_init 12 = .ok (.return_, 1) := by decide +kernel
theorem dX3_take_0 : decode cX3_take 0 = .ok (.aload_n 0, 1) := by decide +kernel
theorem dX3_take_1 : decode cX3_take 1 = .ok (.iload_n 2, 1) := by decide +kernel
theorem dX3_take_2 : decode cX3_take 2 = .ok (.bipush 24, 2) := by decide +kernel
theorem dX3_take_4 : decode cX3_take 4 = .ok (.invokestatic 15, 3) := by decide +kernel
theorem dX3_take_7 : decode cX3_take 7 = .ok (.putfield 21, 3) := by decide +kernel
theorem dX3_take_10 : decode cX3_take 10 = .ok (.iconst 0, 1) := by decide +kernel
theorem dX3_take_11 : decode cX3_take 11 = .ok (.istore_n 3, 1) := by decide +kernel
theorem dX3_take_12 : decode cX3_take 12 = .ok (.iload_n 3, 1) := by decide +kernel
theorem dX3_take_13 : decode cX3_take 13 = .ok (.aload_n 0, 1) := by decide +kernel
theorem dX3_take_14 : decode cX3_take 14 = .ok (.getfield 21, 3) := by decide +kernel
theorem dX3_take_17 : decode cX3_take 17 = .ok (.if_icmp .ge 26, 3) := by decide +kernel
theorem dX3_take_20 : decode cX3_take 20 = .ok (.aload_n 0, 1) := by decide +kernel
theorem dX3_take_21 : decode cX3_take 21 = .ok (.getfield 9, 3) := by decide +kernel
theorem dX3_take_24 : decode cX3_take 24 = .ok (.iload_n 3, 1) := by decide +kernel
theorem dX3_take_25 : decode cX3_take 25 = .ok (.aload_n 1, 1) := by decide +kernel
theorem dX3_take_26 : decode cX3_take 26 = .ok (.iload_n 3, 1) := by decide +kernel
theorem dX3_take_27 : decode cX3_take 27 = .ok (.invokevirtual 25, 3) := by decide +kernel
theorem dX3_take_30 : decode cX3_take 30 = .ok (.getstatic 31, 3) := by decide +kernel
theorem dX3_take_33 : decode cX3_take 33 = .ok (.invokestatic 35, 3) := by decide +kernel
theorem dX3_take_36 : decode cX3_take 36 = .ok (.iastore, 1) := by decide +kernel
theorem dX3_take_37 : decode cX3_take 37 = .ok (.iinc 3 1, 3) := by decide +kernel
theorem dX3_take_40 : decode cX3_take 40 = .ok (.goto (-28), 3) := by decide +kernel
theorem dX3_take_43 : decode cX3_take 43 = .ok (.return_, 1) := by decide +kernel
theorem dX3_whoAt_0 : decode cX3_whoAt 0 = .ok (.iload_n 1, 1) := by decide +kernel
theorem dX3_whoAt_1 : decode cX3_whoAt 1 = .ok (.iconst 0, 1) := by decide +kernel
theorem dX3_whoAt_2 : decode cX3_whoAt 2 = .ok (.aload_n 0, 1) := by decide +kernel
theorem dX3_whoAt_3 : decode cX3_whoAt 3 = .ok (.getfield 21, 3) := by decide +kernel
theorem dX3_whoAt_6 : decode cX3_whoAt 6 = .ok (.iconst 1, 1) := by decide +kernel
theorem dX3_whoAt_7 : decode cX3_whoAt 7 = .ok (.isub, 1) := by decide +kernel
theorem dX3_whoAt_8 : decode cX3_whoAt 8 = .ok (.invokestatic 39, 3) := by decide +kernel
theorem dX3_whoAt_11 : decode cX3_whoAt 11 = .ok (.ifCond .eq 12, 3) := by decide +kernel
theorem dX3_whoAt_14 : decode cX3_whoAt 14 = .ok (.aload_n 0, 1) := by decide +kernel
theorem dX3_whoAt_15 : decode cX3_whoAt 15 = .ok (.getfield 9, 3) := by decide +kernel
theorem dX3_whoAt_18 : decode cX3_whoAt 18 = .ok (.iload_n 1, 1) := by decide +kernel
theorem dX3_whoAt_19 : decode cX3_whoAt 19 = .ok (.iaload, 1) := by decide +kernel
theorem dX3_whoAt_20 : decode cX3_whoAt 20 = .ok (.goto 4, 3) := by decide +kernel
theorem dX3_whoAt_23 : decode cX3_whoAt 23 = .ok (.iconst (-1), 1) := by decide +kernel
theorem dX3_whoAt_24 : decode cX3_whoAt 24 = .ok (.ireturn, 1) := by decide +kernel
theorem dX3_follow_0 : decode cX3_follow 0 = .ok (.iload_n 3, 1) := by decide +kernel
theorem dX3_follow_1 : decode cX3_follow 1 = .ok (.istore 6, 2) := by decide +kernel
theorem dX3_follow_3 : decode cX3_follow 3 = .ok (.iconst 0, 1) := by decide +kernel
theorem dX3_follow_4 : decode cX3_follow 4 = .ok (.istore 7, 2) := by decide +kernel
theorem dX3_follow_6 : decode cX3_follow 6 = .ok (.iload 7, 2) := by decide +kernel
theorem dX3_follow_8 : decode cX3_follow 8 = .ok (.aload_n 0, 1) := by decide +kernel
theorem dX3_follow_9 : decode cX3_follow 9 = .ok (.getfield 21, 3) := by decide +kernel
theorem dX3_follow_12 : decode cX3_follow 12 = .ok (.if_icmp .gt 44, 3) := by decide +kernel
theorem dX3_follow_15 : decode cX3_follow 15 = .ok (.iload 7, 2) := by decide +kernel
theorem dX3_follow_17 : decode cX3_follow 17 = .ok (.aload 5, 2) := by decide +kernel
theorem dX3_follow_19 : decode cX3_follow 19 = .ok (.arraylength, 1) := by decide +kernel
theorem dX3_follow_20 : decode cX3_follow 20 = .ok (.if_icmp .ge 36, 3) := by decide +kernel
theorem dX3_follow_23 : decode cX3_follow 23 = .ok (.aload 5, 2) := by decide +kernel
theorem dX3_follow_25 : decode cX3_follow 25 = .ok (.iload 7, 2) := by decide +kernel
theorem dX3_follow_27 : decode cX3_follow 27 = .ok (.iload 6, 2) := by decide +kernel
theorem dX3_follow_29 : decode cX3_follow 29 = .ok (.iastore, 1) := by decide +kernel
theorem dX3_follow_30 : decode cX3_follow 30 = .ok (.aload_n 1, 1) := by decide +kernel
theorem dX3_follow_31 : decode cX3_follow 31 = .ok (.aload_n 2, 1) := by decide +kernel
theorem dX3_follow_32 : decode cX3_follow 32 = .ok (.aload_n 0, 1) := by decide +kernel
theorem dX3_follow_33 : decode cX3_follow 33 = .ok (.iload 7, 2) := by decide +kernel
theorem dX3_follow_35 : decode cX3_follow 35 = .ok (.invokevirtual 43, 3) := by decide +kernel
theorem dX3_follow_38 : decode cX3_follow 38 = .ok (.invokevirtual 46, 3) := by decide +kernel
theorem dX3_follow_41 : decode cX3_follow 41 = .ok (.iload 6, 2) := by decide +kernel
theorem dX3_follow_43 : decode cX3_follow 43 = .ok (.aload 4, 2) := by decide +kernel
theorem dX3_follow_45 : decode cX3_follow 45 = .ok (.invokevirtual 51, 3) := by decide +kernel
theorem dX3_follow_48 : decode cX3_follow 48 = .ok (.istore 6, 2) := by decide +kernel
theorem dX3_follow_50 : decode cX3_follow 50 = .ok (.iinc 7 1, 3) := by decide +kernel
theorem dX3_follow_53 : decode cX3_follow 53 = .ok (.goto (-47), 3) := by decide +kernel
theorem dX3_follow_56 : decode cX3_follow 56 = .ok (.return_, 1) := by decide +kernel
theorem dX4_init_0 : decode cX4_init 0 = .ok (.aload_n 0, 1) := by decide +kernel
theorem dX4_init_1 : decode cX4_init 1 = .ok (.invokespecial 3, 3) := by decide +kernel
theorem dX4_init_4 : decode cX4_init 4 = .ok (.aload_n 0, 1) := by decide +kernel
theorem dX4_init_5 : decode cX4_init 5 = .ok (.sipush 4864, 3) := by decide +kernel
theorem dX4_init_8 : decode cX4_init 8 = .ok (.newarray .int, 2) := by decide +kernel
theorem dX4_init_10 : decode cX4_init 10 = .ok (.putfield 9, 3) := by decide +kernel
theorem dX4_init_13 : decode cX4_init 13 = .ok (.aload_n 0, 1) := by decide +kernel
theorem dX4_init_14 : decode cX4_init 14 = .ok (.sipush 152, 3) := by decide +kernel
theorem dX4_init_17 : decode cX4_init 17 = .ok (.newarray .int, 2) := by decide +kernel
theorem dX4_init_19 : decode cX4_init 19 = .ok (.putfield 15, 3) := by decide +kernel
theorem dX4_init_22 : decode cX4_init 22 = .ok (.aload_n 0, 1) := by decide +kernel
theorem dX4_init_23 : decode cX4_init 23 = .ok (.sipush 152, 3) := by decide +kernel
theorem dX4_init_26 : decode cX4_init 26 = .ok (.newarray .int, 2) := by decide +kernel
theorem dX4_init_28 : decode cX4_init 28 = .ok (.putfield 18, 3) := by decide +kernel
theorem dX4_init_31 : decode cX4_init 31 = .ok (.aload_n 0, 1) := by decide +kernel
theorem dX4_init_32 : decode cX4_init 32 = .ok (.bipush 8, 2) := by decide +kernel
theorem dX4_init_34 : decode cX4_init 34 = .ok (.newarray .int, 2) := by decide +kernel
theorem dX4_init_36 : decode cX4_init 36 = .ok (.putfield 21, 3) := by decide +kernel
theorem dX4_init_39 : decode cX4_init 39 = .ok (.return_, 1) := by decide +kernel
theorem dX4_make_0 : decode cX4_make 0 = .ok (.aload_n 0, 1) := by decide +kernel
theorem dX4_make_1 : decode cX4_make 1 = .ok (.aload_n 1, 1) := by decide +kernel
theorem dX4_make_2 : decode cX4_make 2 = .ok (.getfield 24, 3) := by decide +kernel
theorem dX4_make_5 : decode cX4_make 5 = .ok (.iconst 1, 1) := by decide +kernel
theorem dX4_make_6 : decode cX4_make 6 = .ok (.invokestatic 30, 3) := by decide +kernel
theorem dX4_make_9 : decode cX4_make 9 = .ok (.putfield 36, 3) := by decide +kernel
theorem dX4_make_12 : decode cX4_make 12 = .ok (.aload_n 0, 1) := by decide +kernel
theorem dX4_make_13 : decode cX4_make 13 = .ok (.aload_n 2, 1) := by decide +kernel
theorem dX4_make_14 : decode cX4_make 14 = .ok (.getfield 39, 3) := by decide +kernel
theorem dX4_make_17 : decode cX4_make 17 = .ok (.putfield 44, 3) := by decide +kernel
theorem dX4_make_20 : decode cX4_make 20 = .ok (.iconst 0, 1) := by decide +kernel
theorem dX4_make_21 : decode cX4_make 21 = .ok (.istore_n 3, 1) := by decide +kernel
theorem dX4_make_22 : decode cX4_make 22 = .ok (.iload_n 3, 1) := by decide +kernel
theorem dX4_make_23 : decode cX4_make 23 = .ok (.aload_n 0, 1) := by decide +kernel
theorem dX4_make_24 : decode cX4_make 24 = .ok (.getfield 44, 3) := by decide +kernel
theorem dX4_make_27 : decode cX4_make 27 = .ok (.if_icmp .ge 20, 3) := by decide +kernel
theorem dX4_make_30 : decode cX4_make 30 = .ok (.aload_n 0, 1) := by decide +kernel
theorem dX4_make_31 : decode cX4_make 31 = .ok (.aload_n 1, 1) := by decide +kernel
theorem dX4_make_32 : decode cX4_make 32 = .ok (.aload_n 2, 1) := by decide +kernel
theorem dX4_make_33 : decode cX4_make 33 = .ok (.iload_n 3, 1) := by decide +kernel
theorem dX4_make_34 : decode cX4_make 34 = .ok (.invokevirtual 45, 3) := by decide +kernel
theorem dX4_make_37 : decode cX4_make 37 = .ok (.iload_n 3, 1) := by decide +kernel
theorem dX4_make_38 : decode cX4_make 38 = .ok (.invokevirtual 49, 3) := by decide +kernel
theorem dX4_make_41 : decode cX4_make 41 = .ok (.iinc 3 1, 3) := by decide +kernel
theorem dX4_make_44 : decode cX4_make 44 = .ok (.goto (-22), 3) := by decide +kernel
theorem dX4_make_47 : decode cX4_make 47 = .ok (.aload_n 0, 1) := by decide +kernel
theorem dX4_make_48 : decode cX4_make 48 = .ok (.invokevirtual 53, 3) := by decide +kernel
theorem dX4_make_51 : decode cX4_make 51 = .ok (.aload_n 0, 1) := by decide +kernel
theorem dX4_make_52 : decode cX4_make 52 = .ok (.aload_n 1, 1) := by decide +kernel
theorem dX4_make_53 : decode cX4_make 53 = .ok (.aload_n 2, 1) := by decide +kernel
theorem dX4_make_54 : decode cX4_make 54 = .ok (.aload_n 1, 1) := by decide +kernel
theorem dX4_make_55 : decode cX4_make 55 = .ok (.invokevirtual 56, 3) := by decide +kernel
theorem dX4_make_58 : decode cX4_make 58 = .ok (.iconst 0, 1) := by decide +kernel
theorem dX4_make_59 : decode cX4_make 59 = .ok (.invokestatic 30, 3) := by decide +kernel
theorem dX4_make_62 : decode cX4_make 62 = .ok (.invokevirtual 60, 3) := by decide +kernel
theorem dX4_make_65 : decode cX4_make 65 = .ok (.return_, 1) := by decide +kernel
theorem dX4_whoAt_0 : decode cX4_whoAt 0 = .ok (.iload_n 1, 1) := by decide +kernel
theorem dX4_whoAt_1 : decode cX4_whoAt 1 = .ok (.iconst 0, 1) := by decide +kernel
theorem dX4_whoAt_2 : decode cX4_whoAt 2 = .ok (.aload_n 0, 1) := by decide +kernel
theorem dX4_whoAt_3 : decode cX4_whoAt 3 = .ok (.getfield 44, 3) := by decide +kernel
theorem dX4_whoAt_6 : decode cX4_whoAt 6 = .ok (.iconst 1, 1) := by decide +kernel
theorem dX4_whoAt_7 : decode cX4_whoAt 7 = .ok (.isub, 1) := by decide +kernel
theorem dX4_whoAt_8 : decode cX4_whoAt 8 = .ok (.invokestatic 64, 3) := by decide +kernel
theorem dX4_whoAt_11 : decode cX4_whoAt 11 = .ok (.ifCond .eq 12, 3) := by decide +kernel
theorem dX4_whoAt_14 : decode cX4_whoAt 14 = .ok (.aload_n 0, 1) := by decide +kernel
theorem dX4_whoAt_15 : decode cX4_whoAt 15 = .ok (.getfield 21, 3) := by decide +kernel
theorem dX4_whoAt_18 : decode cX4_whoAt 18 = .ok (.iload_n 1, 1) := by decide +kernel
theorem dX4_whoAt_19 : decode cX4_whoAt 19 = .ok (.iaload, 1) := by decide +kernel
theorem dX4_whoAt_20 : decode cX4_whoAt 20 = .ok (.goto 4, 3) := by decide +kernel
theorem dX4_whoAt_23 : decode cX4_whoAt 23 = .ok (.iconst (-1), 1) := by decide +kernel
theorem dX4_whoAt_24 : decode cX4_whoAt 24 = .ok (.ireturn, 1) := by decide +kernel
theorem dX4_weigh_0 : decode cX4_weigh 0 = .ok (.iconst 0, 1) := by decide +kernel
theorem dX4_weigh_1 : decode cX4_weigh 1 = .ok (.istore 4, 2) := by decide +kernel
theorem dX4_weigh_3 : decode cX4_weigh 3 = .ok (.iload 4, 2) := by decide +kernel
theorem dX4_weigh_5 : decode cX4_weigh 5 = .ok (.aload_n 0, 1) := by decide +kernel
theorem dX4_weigh_6 : decode cX4_weigh 6 = .ok (.getfield 36, 3) := by decide +kernel
theorem dX4_weigh_9 : decode cX4_weigh 9 = .ok (.if_icmp .ge 81, 3) := by decide +kernel
theorem dX4_weigh_12 : decode cX4_weigh 12 = .ok (.aload_n 1, 1) := by decide +kernel
theorem dX4_weigh_13 : decode cX4_weigh 13 = .ok (.aload_n 2, 1) := by decide +kernel
theorem dX4_weigh_14 : decode cX4_weigh 14 = .ok (.iload 4, 2) := by decide +kernel
theorem dX4_weigh_16 : decode cX4_weigh 16 = .ok (.invokevirtual 68, 3) := by decide +kernel
theorem dX4_weigh_19 : decode cX4_weigh 19 = .ok (.iconst 1, 1) := by decide +kernel
theorem dX4_weigh_20 : decode cX4_weigh 20 = .ok (.if_icmp .ne 7, 3) := by decide +kernel
theorem dX4_weigh_23 : decode cX4_weigh 23 = .ok (.iconst 1, 1) := by decide +kernel
theorem dX4_weigh_24 : decode cX4_weigh 24 = .ok (.goto 4, 3) := by decide +kernel
theorem dX4_weigh_27 : decode cX4_weigh 27 = .ok (.iconst 0, 1) := by decide +kernel
theorem dX4_weigh_28 : decode cX4_weigh 28 = .ok (.istore 5, 2) := by decide +kernel
theorem dX4_weigh_30 : decode cX4_weigh 30 = .ok (.iload_n 3, 1) := by decide +kernel
theorem dX4_weigh_31 : decode cX4_weigh 31 = .ok (.bipush 19, 2) := by decide +kernel
theorem dX4_weigh_33 : decode cX4_weigh 33 = .ok (.imul, 1) := by decide +kernel
theorem dX4_weigh_34 : decode cX4_weigh 34 = .ok (.iload 4, 2) := by decide +kernel
theorem dX4_weigh_36 : decode cX4_weigh 36 = .ok (.iadd, 1) := by decide +kernel
theorem dX4_weigh_37 : decode cX4_weigh 37 = .ok (.istore 6, 2) := by decide +kernel
theorem dX4_weigh_39 : decode cX4_weigh 39 = .ok (.aload_n 0, 1) := by decide +kernel
theorem dX4_weigh_40 : decode cX4_weigh 40 = .ok (.getfield 15, 3) := by decide +kernel
theorem dX4_weigh_43 : decode cX4_weigh 43 = .ok (.iload 6, 2) := by decide +kernel
theorem dX4_weigh_45 : decode cX4_weigh 45 = .ok (.iload 5, 2) := by decide +kernel
theorem dX4_weigh_47 : decode cX4_weigh 47 = .ok (.ifCond .eq 17, 3) := by decide +kernel
theorem dX4_weigh_50 : decode cX4_weigh 50 = .ok (.sipush 1000, 3) := by decide +kernel
theorem dX4_weigh_53 : decode cX4_weigh 53 = .ok (.aload_n 1, 1) := by decide +kernel
theorem dX4_weigh_54 : decode cX4_weigh 54 = .ok (.aload_n 2, 1) := by decide +kernel
theorem dX4_weigh_55 : decode cX4_weigh 55 = .ok (.iload 4, 2) := by decide +kernel
theorem dX4_weigh_57 : decode cX4_weigh 57 = .ok (.invokevirtual 72, 3) := by decide +kernel
theorem dX4_weigh_60 : decode cX4_weigh 60 = .ok (.isub, 1) := by decide +kernel
theorem dX4_weigh_61 : decode cX4_weigh 61 = .ok (.goto 4, 3) := by decide +kernel
theorem dX4_weigh_64 : decode cX4_weigh 64 = .ok (.iconst 0, 1) := by decide +kernel
theorem dX4_weigh_65 : decode cX4_weigh 65 = .ok (.iastore, 1) := by decide +kernel
theorem dX4_weigh_66 : decode cX4_weigh 66 = .ok (.aload_n 0, 1) := by decide +kernel
theorem dX4_weigh_67 : decode cX4_weigh 67 = .ok (.getfield 18, 3) := by decide +kernel
theorem dX4_weigh_70 : decode cX4_weigh 70 = .ok (.iload 6, 2) := by decide +kernel
theorem dX4_weigh_72 : decode cX4_weigh 72 = .ok (.aload_n 1, 1) := by decide +kernel
theorem dX4_weigh_73 : decode cX4_weigh 73 = .ok (.aload_n 2, 1) := by decide +kernel
theorem dX4_weigh_74 : decode cX4_weigh 74 = .ok (.iload 4, 2) := by decide +kernel
theorem dX4_weigh_76 : decode cX4_weigh 76 = .ok (.aload_n 1, 1) := by decide +kernel
theorem dX4_weigh_77 : decode cX4_weigh 77 = .ok (.getfield 75, 3) := by decide +kernel
theorem dX4_weigh_80 : decode cX4_weigh 80 = .ok (.invokevirtual 78, 3) := by decide +kernel
theorem dX4_weigh_83 : decode cX4_weigh 83 = .ok (.iastore, 1) := by decide +kernel
theorem dX4_weigh_84 : decode cX4_weigh 84 = .ok (.iinc 4 1, 3) := by decide +kernel
theorem dX4_weigh_87 : decode cX4_weigh 87 = .ok (.goto (-84), 3) := by decide +kernel
theorem dX4_weigh_90 : decode cX4_weigh 90 = .ok (.return_, 1) := by decide +kernel
theorem dX4_findBest_0 : decode cX4_findBest 0 = .ok (.iconst 1, 1) := by decide +kernel
theorem dX4_findBest_1 : decode cX4_findBest 1 = .ok (.aload_n 0, 1) := by decide +kernel
theorem dX4_findBest_2 : decode cX4_findBest 2 = .ok (.getfield 44, 3) := by decide +kernel
theorem dX4_findBest_5 : decode cX4_findBest 5 = .ok (.ishl, 1) := by decide +kernel
theorem dX4_findBest_6 : decode cX4_findBest 6 = .ok (.iconst 1, 1) := by decide +kernel
theorem dX4_findBest_7 : decode cX4_findBest 7 = .ok (.isub, 1) := by decide +kernel
theorem dX4_findBest_8 : decode cX4_findBest 8 = .ok (.istore_n 1, 1) := by decide +kernel
theorem dX4_findBest_9 : decode cX4_findBest 9 = .ok (.iconst 0, 1) := by decide +kernel
theorem dX4_findBest_10 : decode cX4_findBest 10 = .ok (.istore_n 2, 1) := by decide +kernel
theorem dX4_findBest_11 : decode cX4_findBest 11 = .ok (.iload_n 2, 1) := by decide +kernel
theorem dX4_findBest_12 : decode cX4_findBest 12 = .ok (.aload_n 0, 1) := by decide +kernel
theorem dX4_findBest_13 : decode cX4_findBest 13 = .ok (.getfield 36, 3) := by decide +kernel
theorem dX4_findBest_16 : decode cX4_findBest 16 = .ok (.if_icmp .ge 21, 3) := by decide +kernel
theorem dX4_findBest_19 : decode cX4_findBest 19 = .ok (.aload_n 0, 1) := by decide +kernel
theorem dX4_findBest_20 : decode cX4_findBest 20 = .ok (.getfield 9, 3) := by decide +kernel
theorem dX4_findBest_23 : decode cX4_findBest 23 = .ok (.iload_n 1, 1) := by decide +kernel
theorem dX4_findBest_24 : decode cX4_findBest 24 = .ok (.bipush 19, 2) := by decide +kernel
theorem dX4_findBest_26 : decode cX4_findBest 26 = .ok (.imul, 1) := by decide +kernel
theorem dX4_findBest_27 : decode cX4_findBest 27 = .ok (.iload_n 2, 1) := by decide +kernel
theorem dX4_findBest_28 : decode cX4_findBest 28 = .ok (.iadd, 1) := by decide +kernel
theorem dX4_findBest_29 : decode cX4_findBest 29 = .ok (.iconst 0, 1) := by decide +kernel
theorem dX4_findBest_30 : decode cX4_findBest 30 = .ok (.iastore, 1) := by decide +kernel
theorem dX4_findBest_31 : decode cX4_findBest 31 = .ok (.iinc 2 1, 3) := by decide +kernel
theorem dX4_findBest_34 : decode cX4_findBest 34 = .ok (.goto (-23), 3) := by decide +kernel
theorem dX4_findBest_37 : decode cX4_findBest 37 = .ok (.iload_n 1, 1) := by decide +kernel
theorem dX4_findBest_38 : decode cX4_findBest 38 = .ok (.iconst 1, 1) := by decide +kernel
theorem dX4_findBest_39 : decode cX4_findBest 39 = .ok (.isub, 1) := by decide +kernel
theorem dX4_findBest_40 : decode cX4_findBest 40 = .ok (.istore_n 2, 1) := by decide +kernel
theorem dX4_findBest_41 : decode cX4_findBest 41 = .ok (.iload_n 2, 1) := by decide +kernel
theorem dX4_findBest_42 : decode cX4_findBest 42 = .ok (.ifCond .lt 42, 3) := by decide +kernel
theorem dX4_findBest_45 : decode cX4_findBest 45 = .ok (.iconst 0, 1) := by decide +kernel
theorem dX4_findBest_46 : decode cX4_findBest 46 = .ok (.istore_n 3, 1) := by decide +kernel
theorem dX4_findBest_47 : decode cX4_findBest 47 = .ok (.iload_n 3, 1) := by decide +kernel
theorem dX4_findBest_48 : decode cX4_findBest 48 = .ok (.aload_n 0, 1) := by decide +kernel
theorem dX4_findBest_49 : decode cX4_findBest 49 = .ok (.getfield 36, 3) := by decide +kernel
theorem dX4_findBest_52 : decode cX4_findBest 52 = .ok (.if_icmp .ge 26, 3) := by decide +kernel
theorem dX4_findBest_55 : decode cX4_findBest 55 = .ok (.aload_n 0, 1) := by decide +kernel
theorem dX4_findBest_56 : decode cX4_findBest 56 = .ok (.getfield 9, 3) := by decide +kernel
theorem dX4_findBest_59 : decode cX4_findBest 59 = .ok (.iload_n 2, 1) := by decide +kernel
theorem dX4_findBest_60 : decode cX4_findBest 60 = .ok (.bipush 19, 2) := by decide +kernel
theorem dX4_findBest_62 : decode cX4_findBest 62 = .ok (.imul, 1) := by decide +kernel
theorem dX4_findBest_63 : decode cX4_findBest 63 = .ok (.iload_n 3, 1) := by decide +kernel
theorem dX4_findBest_64 : decode cX4_findBest 64 = .ok (.iadd, 1) := by decide +kernel
theorem dX4_findBest_65 : decode cX4_findBest 65 = .ok (.aload_n 0, 1) := by decide +kernel
theorem dX4_findBest_66 : decode cX4_findBest 66 = .ok (.iload_n 2, 1) := by decide +kernel
theorem dX4_findBest_67 : decode cX4_findBest 67 = .ok (.iload_n 3, 1) := by decide +kernel
theorem dX4_findBest_68 : decode cX4_findBest 68 = .ok (.invokevirtual 82, 3) := by decide +kernel
theorem dX4_findBest_71 : decode cX4_findBest 71 = .ok (.iastore, 1) := by decide +kernel
theorem dX4_findBest_72 : decode cX4_findBest 72 = .ok (.iinc 3 1, 3) := by decide +kernel
theorem dX4_findBest_75 : decode cX4_findBest 75 = .ok (.goto (-28), 3) := by decide +kernel
theorem dX4_findBest_78 : decode cX4_findBest 78 = .ok (.iinc 2 (-1), 3) := by decide +kernel
theorem dX4_findBest_81 : decode cX4_findBest 81 = .ok (.goto (-40), 3) := by decide +kernel
theorem dX4_findBest_84 : decode cX4_findBest 84 = .ok (.return_, 1) := by decide +kernel
theorem dX4_bestOf_0 : decode cX4_bestOf 0 = .ok (.iconst 0, 1) := by decide +kernel
theorem dX4_bestOf_1 : decode cX4_bestOf 1 = .ok (.istore_n 3, 1) := by decide +kernel
theorem dX4_bestOf_2 : decode cX4_bestOf 2 = .ok (.iconst 0, 1) := by decide +kernel
theorem dX4_bestOf_3 : decode cX4_bestOf 3 = .ok (.istore 4, 2) := by decide +kernel
theorem dX4_bestOf_5 : decode cX4_bestOf 5 = .ok (.iload 4, 2) := by decide +kernel
theorem dX4_bestOf_7 : decode cX4_bestOf 7 = .ok (.aload_n 0, 1) := by decide +kernel
theorem dX4_bestOf_8 : decode cX4_bestOf 8 = .ok (.getfield 44, 3) := by decide +kernel
theorem dX4_bestOf_11 : decode cX4_bestOf 11 = .ok (.if_icmp .ge 31, 3) := by decide +kernel
theorem dX4_bestOf_14 : decode cX4_bestOf 14 = .ok (.iload_n 1, 1) := by decide +kernel
theorem dX4_bestOf_15 : decode cX4_bestOf 15 = .ok (.iconst 1, 1) := by decide +kernel
theorem dX4_bestOf_16 : decode cX4_bestOf 16 = .ok (.iload 4, 2) := by decide +kernel
theorem dX4_bestOf_18 : decode cX4_bestOf 18 = .ok (.ishl, 1) := by decide +kernel
theorem dX4_bestOf_19 : decode cX4_bestOf 19 = .ok (.iand, 1) := by decide +kernel
theorem dX4_bestOf_20 : decode cX4_bestOf 20 = .ok (.ifCond .ne 16, 3) := by decide +kernel
theorem dX4_bestOf_23 : decode cX4_bestOf 23 = .ok (.iload_n 3, 1) := by decide +kernel
theorem dX4_bestOf_24 : decode cX4_bestOf 24 = .ok (.aload_n 0, 1) := by decide +kernel
theorem dX4_bestOf_25 : decode cX4_bestOf 25 = .ok (.iload_n 1, 1) := by decide +kernel
theorem dX4_bestOf_26 : decode cX4_bestOf 26 = .ok (.iload_n 2, 1) := by decide +kernel
theorem dX4_bestOf_27 : decode cX4_bestOf 27 = .ok (.iload 4, 2) := by decide +kernel
theorem dX4_bestOf_29 : decode cX4_bestOf 29 = .ok (.invokevirtual 85, 3) := by decide +kernel
theorem dX4_bestOf_32 : decode cX4_bestOf 32 = .ok (.invokestatic 30, 3) := by decide +kernel
theorem dX4_bestOf_35 : decode cX4_bestOf 35 = .ok (.istore_n 3, 1) := by decide +kernel
theorem dX4_bestOf_36 : decode cX4_bestOf 36 = .ok (.iinc 4 1, 3) := by decide +kernel
theorem dX4_bestOf_39 : decode cX4_bestOf 39 = .ok (.goto (-34), 3) := by decide +kernel
theorem dX4_bestOf_42 : decode cX4_bestOf 42 = .ok (.iload_n 3, 1) := by decide +kernel
theorem dX4_bestOf_43 : decode cX4_bestOf 43 = .ok (.ireturn, 1) := by decide +kernel
theorem dX4_worthOf_0 : decode cX4_worthOf 0 = .ok (.iload_n 3, 1) := by decide +kernel
theorem dX4_worthOf_1 : decode cX4_worthOf 1 = .ok (.bipush 19, 2) := by decide +kernel
theorem dX4_worthOf_3 : decode cX4_worthOf 3 = .ok (.imul, 1) := by decide +kernel
theorem dX4_worthOf_4 : decode cX4_worthOf 4 = .ok (.iload_n 2, 1) := by decide +kernel
theorem dX4_worthOf_5 : decode cX4_worthOf 5 = .ok (.iadd, 1) := by decide +kernel
theorem dX4_worthOf_6 : decode cX4_worthOf 6 = .ok (.istore 4, 2) := by decide +kernel
theorem dX4_worthOf_8 : decode cX4_worthOf 8 = .ok (.aload_n 0, 1) := by decide +kernel
theorem dX4_worthOf_9 : decode cX4_worthOf 9 = .ok (.getfield 15, 3) := by decide +kernel
theorem dX4_worthOf_12 : decode cX4_worthOf 12 = .ok (.iload 4, 2) := by decide +kernel
theorem dX4_worthOf_14 : decode cX4_worthOf 14 = .ok (.iaload, 1) := by decide +kernel
theorem dX4_worthOf_15 : decode cX4_worthOf 15 = .ok (.aload_n 0, 1) := by decide +kernel
theorem dX4_worthOf_16 : decode cX4_worthOf 16 = .ok (.getfield 9, 3) := by decide +kernel
theorem dX4_worthOf_19 : decode cX4_worthOf 19 = .ok (.iload_n 1, 1) := by decide +kernel
theorem dX4_worthOf_20 : decode cX4_worthOf 20 = .ok (.iconst 1, 1) := by decide +kernel
theorem dX4_worthOf_21 : decode cX4_worthOf 21 = .ok (.iload_n 3, 1) := by decide +kernel
theorem dX4_worthOf_22 : decode cX4_worthOf 22 = .ok (.ishl, 1) := by decide +kernel
theorem dX4_worthOf_23 : decode cX4_worthOf 23 = .ok (.ior, 1) := by decide +kernel
theorem dX4_worthOf_24 : decode cX4_worthOf 24 = .ok (.bipush 19, 2) := by decide +kernel
theorem dX4_worthOf_26 : decode cX4_worthOf 26 = .ok (.imul, 1) := by decide +kernel
theorem dX4_worthOf_27 : decode cX4_worthOf 27 = .ok (.aload_n 0, 1) := by decide +kernel
theorem dX4_worthOf_28 : decode cX4_worthOf 28 = .ok (.getfield 18, 3) := by decide +kernel
theorem dX4_worthOf_31 : decode cX4_worthOf 31 = .ok (.iload 4, 2) := by decide +kernel
theorem dX4_worthOf_33 : decode cX4_worthOf 33 = .ok (.iaload, 1) := by decide +kernel
theorem dX4_worthOf_34 : decode cX4_worthOf 34 = .ok (.iadd, 1) := by decide +kernel
theorem dX4_worthOf_35 : decode cX4_worthOf 35 = .ok (.iaload, 1) := by decide +kernel
theorem dX4_worthOf_36 : decode cX4_worthOf 36 = .ok (.iadd, 1) := by decide +kernel
theorem dX4_worthOf_37 : decode cX4_worthOf 37 = .ok (.ireturn, 1) := by decide +kernel
theorem dX4_followBest_0 : decode cX4_followBest 0 = .ok (.aload_n 0, 1) := by decide +kernel
theorem dX4_followBest_1 : decode cX4_followBest 1 = .ok (.iconst 0, 1) := by decide +kernel
theorem dX4_followBest_2 : decode cX4_followBest 2 = .ok (.putfield 89, 3) := by decide +kernel
theorem dX4_followBest_5 : decode cX4_followBest 5 = .ok (.aload_n 0, 1) := by decide +kernel
theorem dX4_followBest_6 : decode cX4_followBest 6 = .ok (.iconst 0, 1) := by decide +kernel
theorem dX4_followBest_7 : decode cX4_followBest 7 = .ok (.putfield 92, 3) := by decide +kernel
theorem dX4_followBest_10 : decode cX4_followBest 10 = .ok (.iconst 0, 1) := by decide +kernel
theorem dX4_followBest_11 : decode cX4_followBest 11 = .ok (.istore 4, 2) := by decide +kernel
theorem dX4_followBest_13 : decode cX4_followBest 13 = .ok (.iload_n 3, 1) := by decide +kernel
theorem dX4_followBest_14 : decode cX4_followBest 14 = .ok (.istore 5, 2) := by decide +kernel
theorem dX4_followBest_16 : decode cX4_followBest 16 = .ok (.iconst 0, 1) := by decide +kernel
theorem dX4_followBest_17 : decode cX4_followBest 17 = .ok (.istore 6, 2) := by decide +kernel
theorem dX4_followBest_19 : decode cX4_followBest 19 = .ok (.iload 6, 2) := by decide +kernel
theorem dX4_followBest_21 : decode cX4_followBest 21 = .ok (.aload_n 0, 1) := by decide +kernel
theorem dX4_followBest_22 : decode cX4_followBest 22 = .ok (.getfield 44, 3) := by decide +kernel
theorem dX4_followBest_25 : decode cX4_followBest 25 = .ok (.if_icmp .ge 103, 3) := by decide +kernel
theorem dX4_followBest_28 : decode cX4_followBest 28 = .ok (.aload_n 0, 1) := by decide +kernel
theorem dX4_followBest_29 : decode cX4_followBest 29 = .ok (.iload 4, 2) := by decide +kernel
theorem dX4_followBest_31 : decode cX4_followBest 31 = .ok (.iload 5, 2) := by decide +kernel
theorem dX4_followBest_33 : decode cX4_followBest 33 = .ok (.invokevirtual 95, 3) := by decide +kernel
theorem dX4_followBest_36 : decode cX4_followBest 36 = .ok (.istore 7, 2) := by decide +kernel
theorem dX4_followBest_38 : decode cX4_followBest 38 = .ok (.aload_n 0, 1) := by decide +kernel
theorem dX4_followBest_39 : decode cX4_followBest 39 = .ok (.getfield 21, 3) := by decide +kernel
theorem dX4_followBest_42 : decode cX4_followBest 42 = .ok (.iload 6, 2) := by decide +kernel
theorem dX4_followBest_44 : decode cX4_followBest 44 = .ok (.iload 7, 2) := by decide +kernel
theorem dX4_followBest_46 : decode cX4_followBest 46 = .ok (.iastore, 1) := by decide +kernel
theorem dX4_followBest_47 : decode cX4_followBest 47 = .ok (.aload_n 0, 1) := by decide +kernel
theorem dX4_followBest_48 : decode cX4_followBest 48 = .ok (.dup, 1) := by decide +kernel
theorem dX4_followBest_49 : decode cX4_followBest 49 = .ok (.getfield 89, 3) := by decide +kernel
theorem dX4_followBest_52 : decode cX4_followBest 52 = .ok (.aload_n 1, 1) := by decide +kernel
theorem dX4_followBest_53 : decode cX4_followBest 53 = .ok (.aload_n 2, 1) := by decide +kernel
theorem dX4_followBest_54 : decode cX4_followBest 54 = .ok (.iload 7, 2) := by decide +kernel
theorem dX4_followBest_56 : decode cX4_followBest 56 = .ok (.invokevirtual 45, 3) := by decide +kernel
theorem dX4_followBest_59 : decode cX4_followBest 59 = .ok (.iload 5, 2) := by decide +kernel
theorem dX4_followBest_61 : decode cX4_followBest 61 = .ok (.invokevirtual 68, 3) := by decide +kernel
theorem dX4_followBest_64 : decode cX4_followBest 64 = .ok (.iconst 1, 1) := by decide +kernel
theorem dX4_followBest_65 : decode cX4_followBest 65 = .ok (.if_icmp .ne 7, 3) := by decide +kernel
theorem dX4_followBest_68 : decode cX4_followBest 68 = .ok (.iconst 1, 1) := by decide +kernel
theorem dX4_followBest_69 : decode cX4_followBest 69 = .ok (.goto 4, 3) := by decide +kernel
theorem dX4_followBest_72 : decode cX4_followBest 72 = .ok (.iconst 0, 1) := by decide +kernel
theorem dX4_followBest_73 : decode cX4_followBest 73 = .ok (.iadd, 1) := by decide +kernel
theorem dX4_followBest_74 : decode cX4_followBest 74 = .ok (.putfield 89, 3) := by decide +kernel
theorem dX4_followBest_77 : decode cX4_followBest 77 = .ok (.aload_n 0, 1) := by decide +kernel
theorem dX4_followBest_78 : decode cX4_followBest 78 = .ok (.dup, 1) := by decide +kernel
theorem dX4_followBest_79 : decode cX4_followBest 79 = .ok (.getfield 92, 3) := by decide +kernel
theorem dX4_followBest_82 : decode cX4_followBest 82 = .ok (.aload_n 1, 1) := by decide +kernel
theorem dX4_followBest_83 : decode cX4_followBest 83 = .ok (.aload_n 2, 1) := by decide +kernel
theorem dX4_followBest_84 : decode cX4_followBest 84 = .ok (.iload 7, 2) := by decide +kernel
theorem dX4_followBest_86 : decode cX4_followBest 86 = .ok (.invokevirtual 45, 3) := by decide +kernel
theorem dX4_followBest_89 : decode cX4_followBest 89 = .ok (.iload 5, 2) := by decide +kernel
theorem dX4_followBest_91 : decode cX4_followBest 91 = .ok (.invokevirtual 72, 3) := by decide +kernel
theorem dX4_followBest_94 : decode cX4_followBest 94 = .ok (.iadd, 1) := by decide +kernel
theorem dX4_followBest_95 : decode cX4_followBest 95 = .ok (.putfield 92, 3) := by decide +kernel
theorem dX4_followBest_98 : decode cX4_followBest 98 = .ok (.iload 4, 2) := by decide +kernel
theorem dX4_followBest_100 : decode cX4_followBest 100 = .ok (.iconst 1, 1) := by decide +kernel
theorem dX4_followBest_101 : decode cX4_followBest 101 = .ok (.iload 7, 2) := by decide +kernel
theorem dX4_followBest_103 : decode cX4_followBest 103 = .ok (.ishl, 1) := by decide +kernel
theorem dX4_followBest_104 : decode cX4_followBest 104 = .ok (.ior, 1) := by decide +kernel
theorem dX4_followBest_105 : decode cX4_followBest 105 = .ok (.istore 4, 2) := by decide +kernel
theorem dX4_followBest_107 : decode cX4_followBest 107 = .ok (.aload_n 0, 1) := by decide +kernel
theorem dX4_followBest_108 : decode cX4_followBest 108 = .ok (.getfield 18, 3) := by decide +kernel
theorem dX4_followBest_111 : decode cX4_followBest 111 = .ok (.iload 7, 2) := by decide +kernel
theorem dX4_followBest_113 : decode cX4_followBest 113 = .ok (.bipush 19, 2) := by decide +kernel
theorem dX4_followBest_115 : decode cX4_followBest 115 = .ok (.imul, 1) := by decide +kernel
theorem dX4_followBest_116 : decode cX4_followBest 116 = .ok (.iload 5, 2) := by decide +kernel
theorem dX4_followBest_118 : decode cX4_followBest 118 = .ok (.iadd, 1) := by decide +kernel
theorem dX4_followBest_119 : decode cX4_followBest 119 = .ok (.iaload, 1) := by decide +kernel
theorem dX4_followBest_120 : decode cX4_followBest 120 = .ok (.istore 5, 2) := by decide +kernel
theorem dX4_followBest_122 : decode cX4_followBest 122 = .ok (.iinc 6 1, 3) := by decide +kernel
theorem dX4_followBest_125 : decode cX4_followBest 125 = .ok (.goto (-106), 3) := by decide +kernel
theorem dX4_followBest_128 : decode cX4_followBest 128 = .ok (.return_, 1) := by decide +kernel
theorem dX4_leastOfBest_0 : decode cX4_leastOfBest 0 = .ok (.iconst 0, 1) := by decide +kernel
theorem dX4_leastOfBest_1 : decode cX4_leastOfBest 1 = .ok (.istore_n 3, 1) := by decide +kernel
theorem dX4_leastOfBest_2 : decode cX4_leastOfBest 2 = .ok (.iload_n 3, 1) := by decide +kernel
theorem dX4_leastOfBest_3 : decode cX4_leastOfBest 3 = .ok (.aload_n 0, 1) := by decide +kernel
theorem dX4_leastOfBest_4 : decode cX4_leastOfBest 4 = .ok (.getfield 44, 3) := by decide +kernel
theorem dX4_leastOfBest_7 : decode cX4_leastOfBest 7 = .ok (.if_icmp .ge 40, 3) := by decide +kernel
theorem dX4_leastOfBest_10 : decode cX4_leastOfBest 10 = .ok (.iload_n 1, 1) := by decide +kernel
theorem dX4_leastOfBest_11 : decode cX4_leastOfBest 11 = .ok (.iconst 1, 1) := by decide +kernel
theorem dX4_leastOfBest_12 : decode cX4_leastOfBest 12 = .ok (.iload_n 3, 1) := by decide +kernel
theorem dX4_leastOfBest_13 : decode cX4_leastOfBest 13 = .ok (.ishl, 1) := by decide +kernel
theorem dX4_leastOfBest_14 : decode cX4_leastOfBest 14 = .ok (.iand, 1) := by decide +kernel
theorem dX4_leastOfBest_15 : decode cX4_leastOfBest 15 = .ok (.ifCond .ne 26, 3) := by decide +kernel
theorem dX4_leastOfBest_18 : decode cX4_leastOfBest 18 = .ok (.aload_n 0, 1) := by decide +kernel
theorem dX4_leastOfBest_19 : decode cX4_leastOfBest 19 = .ok (.iload_n 1, 1) := by decide +kernel
theorem dX4_leastOfBest_20 : decode cX4_leastOfBest 20 = .ok (.iload_n 2, 1) := by decide +kernel
theorem dX4_leastOfBest_21 : decode cX4_leastOfBest 21 = .ok (.iload_n 3, 1) := by decide +kernel
theorem dX4_leastOfBest_22 : decode cX4_leastOfBest 22 = .ok (.invokevirtual 85, 3) := by decide +kernel
theorem dX4_leastOfBest_25 : decode cX4_leastOfBest 25 = .ok (.aload_n 0, 1) := by decide +kernel
theorem dX4_leastOfBest_26 : decode cX4_leastOfBest 26 = .ok (.getfield 9, 3) := by decide +kernel
theorem dX4_leastOfBest_29 : decode cX4_leastOfBest 29 = .ok (.iload_n 1, 1) := by decide +kernel
theorem dX4_leastOfBest_30 : decode cX4_leastOfBest 30 = .ok (.bipush 19, 2) := by decide +kernel
theorem dX4_leastOfBest_32 : decode cX4_leastOfBest 32 = .ok (.imul, 1) := by decide +kernel
theorem dX4_leastOfBest_33 : decode cX4_leastOfBest 33 = .ok (.iload_n 2, 1) := by decide +kernel
theorem dX4_leastOfBest_34 : decode cX4_leastOfBest 34 = .ok (.iadd, 1) := by decide +kernel
theorem dX4_leastOfBest_35 : decode cX4_leastOfBest 35 = .ok (.iaload, 1) := by decide +kernel
theorem dX4_leastOfBest_36 : decode cX4_leastOfBest 36 = .ok (.if_icmp .ne 5, 3) := by decide +kernel
theorem dX4_leastOfBest_39 : decode cX4_leastOfBest 39 = .ok (.iload_n 3, 1) := by decide +kernel
theorem dX4_leastOfBest_40 : decode cX4_leastOfBest 40 = .ok (.ireturn, 1) := by decide +kernel
theorem dX4_leastOfBest_41 : decode cX4_leastOfBest 41 = .ok (.iinc 3 1, 3) := by decide +kernel
theorem dX4_leastOfBest_44 : decode cX4_leastOfBest 44 = .ok (.goto (-42), 3) := by decide +kernel
theorem dX4_leastOfBest_47 : decode cX4_leastOfBest 47 = .ok (.iconst 0, 1) := by decide +kernel
theorem dX4_leastOfBest_48 : decode cX4_leastOfBest 48 = .ok (.ireturn, 1) := by decide +kernel
theorem dX5_init_0 : decode cX5_init 0 = .ok (.aload_n 0, 1) := by decide +kernel
theorem dX5_init_1 : decode cX5_init 1 = .ok (.invokespecial 3, 3) := by decide +kernel
theorem dX5_init_4 : decode cX5_init 4 = .ok (.aload_n 0, 1) := by decide +kernel
theorem dX5_init_5 : decode cX5_init 5 = .ok (.bipush 60, 2) := by decide +kernel
theorem dX5_init_7 : decode cX5_init 7 = .ok (.newarray .int, 2) := by decide +kernel
theorem dX5_init_9 : decode cX5_init 9 = .ok (.putfield 9, 3) := by decide +kernel
theorem dX5_init_12 : decode cX5_init 12 = .ok (.aload_n 0, 1) := by decide +kernel
theorem dX5_init_13 : decode cX5_init 13 = .ok (.iconst 1, 1) := by decide +kernel
theorem dX5_init_14 : decode cX5_init 14 = .ok (.putfield 15, 3) := by decide +kernel
theorem dX5_init_17 : decode cX5_init 17 = .ok (.return_, 1) := by decide +kernel
theorem dX5_renew_0 : decode cX5_renew 0 = .ok (.aload_n 0, 1) := by decide +kernel
theorem dX5_renew_1 : decode cX5_renew 1 = .ok (.iconst 0, 1) := by decide +kernel
theorem dX5_renew_2 : decode cX5_renew 2 = .ok (.putfield 15, 3) := by decide +kernel
theorem dX5_renew_5 : decode cX5_renew 5 = .ok (.aload_n 0, 1) := by decide +kernel
theorem dX5_renew_6 : decode cX5_renew 6 = .ok (.iload_n 1, 1) := by decide +kernel
theorem dX5_renew_7 : decode cX5_renew 7 = .ok (.putfield 19, 3) := by decide +kernel
theorem dX5_renew_10 : decode cX5_renew 10 = .ok (.aload_n 0, 1) := by decide +kernel
theorem dX5_renew_11 : decode cX5_renew 11 = .ok (.iload_n 2, 1) := by decide +kernel
theorem dX5_renew_12 : decode cX5_renew 12 = .ok (.bipush 60, 2) := by decide +kernel
theorem dX5_renew_14 : decode cX5_renew 14 = .ok (.invokestatic 23, 3) := by decide +kernel
theorem dX5_renew_17 : decode cX5_renew 17 = .ok (.putfield 29, 3) := by decide +kernel
theorem dX5_renew_20 : decode cX5_renew 20 = .ok (.iconst 0, 1) := by decide +kernel
theorem dX5_renew_21 : decode cX5_renew 21 = .ok (.istore_n 3, 1) := by decide +kernel
theorem dX5_renew_22 : decode cX5_renew 22 = .ok (.iload_n 3, 1) := by decide +kernel
theorem dX5_renew_23 : decode cX5_renew 23 = .ok (.aload_n 0, 1) := by decide +kernel
theorem dX5_renew_24 : decode cX5_renew 24 = .ok (.getfield 29, 3) := by decide +kernel
theorem dX5_renew_27 : decode cX5_renew 27 = .ok (.if_icmp .ge 16, 3) := by decide +kernel
theorem dX5_renew_30 : decode cX5_renew 30 = .ok (.aload_n 0, 1) := by decide +kernel
theorem dX5_renew_31 : decode cX5_renew 31 = .ok (.getfield 9, 3) := by decide +kernel
theorem dX5_renew_34 : decode cX5_renew 34 = .ok (.iload_n 3, 1) := by decide +kernel
theorem dX5_renew_35 : decode cX5_renew 35 = .ok (.iconst 0, 1) := by decide +kernel
theorem dX5_renew_36 : decode cX5_renew 36 = .ok (.iastore, 1) := by decide +kernel
theorem dX5_renew_37 : decode cX5_renew 37 = .ok (.iinc 3 1, 3) := by decide +kernel
theorem dX5_renew_40 : decode cX5_renew 40 = .ok (.goto (-18), 3) := by decide +kernel
theorem dX5_renew_43 : decode cX5_renew 43 = .ok (.return_, 1) := by decide +kernel
theorem dX5_hasItems_0 : decode cX5_hasItems 0 = .ok (.iload_n 1, 1) := by decide +kernel
theorem dX5_hasItems_1 : decode cX5_hasItems 1 = .ok (.ifCond .lt 21, 3) := by decide +kernel
theorem dX5_hasItems_4 : decode cX5_hasItems 4 = .ok (.iload_n 2, 1) := by decide +kernel
theorem dX5_hasItems_5 : decode cX5_hasItems 5 = .ok (.ifCond .lt 17, 3) := by decide +kernel
theorem dX5_hasItems_8 : decode cX5_hasItems 8 = .ok (.iload_n 1, 1) := by decide +kernel
theorem dX5_hasItems_9 : decode cX5_hasItems 9 = .ok (.aload_n 0, 1) := by decide +kernel
theorem dX5_hasItems_10 : decode cX5_hasItems 10 = .ok (.getfield 29, 3) := by decide +kernel
theorem dX5_hasItems_13 : decode cX5_hasItems 13 = .ok (.iload_n 2, 1) := by decide +kernel
theorem dX5_hasItems_14 : decode cX5_hasItems 14 = .ok (.isub, 1) := by decide +kernel
theorem dX5_hasItems_15 : decode cX5_hasItems 15 = .ok (.if_icmp .gt 7, 3) := by decide +kernel
theorem dX5_hasItems_18 : decode cX5_hasItems 18 = .ok (.iconst 1, 1) := by decide +kernel
theorem dX5_hasItems_19 : decode cX5_hasItems 19 = .ok (.goto 4, 3) := by decide +kernel
theorem dX5_hasItems_22 : decode cX5_hasItems 22 = .ok (.iconst 0, 1) := by decide +kernel
theorem dX5_hasItems_23 : decode cX5_hasItems 23 = .ok (.ireturn, 1) := by decide +kernel
theorem dX5_findingAt_0 : decode cX5_findingAt 0 = .ok (.aload_n 0, 1) := by decide +kernel
theorem dX5_findingAt_1 : decode cX5_findingAt 1 = .ok (.getfield 15, 3) := by decide +kernel
theorem dX5_findingAt_4 : decode cX5_findingAt 4 = .ok (.ifCond .eq 5, 3) := by decide +kernel
theorem dX5_findingAt_7 : decode cX5_findingAt 7 = .ok (.iconst 1, 1) := by decide +kernel
theorem dX5_findingAt_8 : decode cX5_findingAt 8 = .ok (.ireturn, 1) := by decide +kernel
theorem dX5_findingAt_9 : decode cX5_findingAt 9 = .ok (.iload_n 1, 1) := by decide +kernel
theorem dX5_findingAt_10 : decode cX5_findingAt 10 = .ok (.aload_n 0, 1) := by decide +kernel
theorem dX5_findingAt_11 : decode cX5_findingAt 11 = .ok (.getfield 19, 3) := by decide +kernel
theorem dX5_findingAt_14 : decode cX5_findingAt 14 = .ok (.if_icmp .eq 5, 3) := by decide +kernel
theorem dX5_findingAt_17 : decode cX5_findingAt 17 = .ok (.iconst 3, 1) := by decide +kernel
theorem dX5_findingAt_18 : decode cX5_findingAt 18 = .ok (.ireturn, 1) := by decide +kernel
theorem dX5_findingAt_19 : decode cX5_findingAt 19 = .ok (.aload_n 0, 1) := by decide +kernel
theorem dX5_findingAt_20 : decode cX5_findingAt 20 = .ok (.iload_n 2, 1) := by decide +kernel
theorem dX5_findingAt_21 : decode cX5_findingAt 21 = .ok (.iconst 1, 1) := by decide +kernel
theorem dX5_findingAt_22 : decode cX5_findingAt 22 = .ok (.invokevirtual 32, 3) := by decide +kernel
theorem dX5_findingAt_25 : decode cX5_findingAt 25 = .ok (.ifCond .eq 7, 3) := by decide +kernel
theorem dX5_findingAt_28 : decode cX5_findingAt 28 = .ok (.iconst 0, 1) := by decide +kernel
theorem dX5_findingAt_29 : decode cX5_findingAt 29 = .ok (.goto 4, 3) := by decide +kernel
theorem dX5_findingAt_32 : decode cX5_findingAt 32 = .ok (.iconst 2, 1) := by decide +kernel
theorem dX5_findingAt_33 : decode cX5_findingAt 33 = .ok (.ireturn, 1) := by decide +kernel
theorem dX5_itemAt_0 : decode cX5_itemAt 0 = .ok (.aload_n 0, 1) := by decide +kernel
theorem dX5_itemAt_1 : decode cX5_itemAt 1 = .ok (.iload_n 1, 1) := by decide +kernel
theorem dX5_itemAt_2 : decode cX5_itemAt 2 = .ok (.iconst 1, 1) := by decide +kernel
theorem dX5_itemAt_3 : decode cX5_itemAt 3 = .ok (.invokevirtual 32, 3) := by decide +kernel
theorem dX5_itemAt_6 : decode cX5_itemAt 6 = .ok (.ifCond .eq 12, 3) := by decide +kernel
theorem dX5_itemAt_9 : decode cX5_itemAt 9 = .ok (.aload_n 0, 1) := by decide +kernel
theorem dX5_itemAt_10 : decode cX5_itemAt 10 = .ok (.getfield 9, 3) := by decide +kernel
theorem dX5_itemAt_13 : decode cX5_itemAt 13 = .ok (.iload_n 1, 1) := by decide +kernel
theorem dX5_itemAt_14 : decode cX5_itemAt 14 = .ok (.iaload, 1) := by decide +kernel
theorem dX5_itemAt_15 : decode cX5_itemAt 15 = .ok (.goto 4, 3) := by decide +kernel
theorem dX5_itemAt_18 : decode cX5_itemAt 18 = .ok (.iconst 0, 1) := by decide +kernel
theorem dX5_itemAt_19 : decode cX5_itemAt 19 = .ok (.ireturn, 1) := by decide +kernel
theorem dX5_put_0 : decode cX5_put 0 = .ok (.aload_n 0, 1) := by decide +kernel
theorem dX5_put_1 : decode cX5_put 1 = .ok (.iload_n 1, 1) := by decide +kernel
theorem dX5_put_2 : decode cX5_put 2 = .ok (.iconst 1, 1) := by decide +kernel
theorem dX5_put_3 : decode cX5_put 3 = .ok (.invokevirtual 32, 3) := by decide +kernel
theorem dX5_put_6 : decode cX5_put 6 = .ok (.ifCond .eq 14, 3) := by decide +kernel
theorem dX5_put_9 : decode cX5_put 9 = .ok (.aload_n 0, 1) := by decide +kernel
theorem dX5_put_10 : decode cX5_put 10 = .ok (.getfield 9, 3) := by decide +kernel
theorem dX5_put_13 : decode cX5_put 13 = .ok (.iload_n 1, 1) := by decide +kernel
theorem dX5_put_14 : decode cX5_put 14 = .ok (.aload_n 0, 1) := by decide +kernel
theorem dX5_put_15 : decode cX5_put 15 = .ok (.iload_n 2, 1) := by decide +kernel
theorem dX5_put_16 : decode cX5_put 16 = .ok (.invokevirtual 36, 3) := by decide +kernel
theorem dX5_put_19 : decode cX5_put 19 = .ok (.iastore, 1) := by decide +kernel
theorem dX5_put_20 : decode cX5_put 20 = .ok (.return_, 1) := by decide +kernel
theorem dX5_lowestBits_0 : decode cX5_lowestBits 0 = .ok (.aload_n 0, 1) := by decide +kernel
theorem dX5_lowestBits_1 : decode cX5_lowestBits 1 = .ok (.getfield 19, 3) := by decide +kernel
theorem dX5_lowestBits_4 : decode cX5_lowestBits 4 = .ok (.ifCond .ne 6, 3) := by decide +kernel
theorem dX5_lowestBits_7 : decode cX5_lowestBits 7 = .ok (.iload_n 1, 1) := by decide +kernel
theorem dX5_lowestBits_8 : decode cX5_lowestBits 8 = .ok (.i2b, 1) := by decide +kernel
theorem dX5_lowestBits_9 : decode cX5_lowestBits 9 = .ok (.ireturn, 1) := by decide +kernel
theorem dX5_lowestBits_10 : decode cX5_lowestBits 10 = .ok (.aload_n 0, 1) := by decide +kernel
theorem dX5_lowestBits_11 : decode cX5_lowestBits 11 = .ok (.getfield 19, 3) := by decide +kernel
theorem dX5_lowestBits_14 : decode cX5_lowestBits 14 = .ok (.iconst 1, 1) := by decide +kernel
theorem dX5_lowestBits_15 : decode cX5_lowestBits 15 = .ok (.if_icmp .ne 8, 3) := by decide +kernel
theorem dX5_lowestBits_18 : decode cX5_lowestBits 18 = .ok (.iload_n 1, 1) := by decide +kernel
theorem dX5_lowestBits_19 : decode cX5_lowestBits 19 = .ok (.i2s, 1) := by decide +kernel
theorem dX5_lowestBits_20 : decode cX5_lowestBits 20 = .ok (.goto 4, 3) := by decide +kernel
theorem dX5_lowestBits_23 : decode cX5_lowestBits 23 = .ok (.iload_n 1, 1) := by decide +kernel
theorem dX5_lowestBits_24 : decode cX5_lowestBits 24 = .ok (.ireturn, 1) := by decide +kernel
theorem dX6_init_0 : decode cX6_init 0 = .ok (.aload_n 0, 1) := by decide +kernel
theorem dX6_init_1 : decode cX6_init 1 = .ok (.invokespecial 3, 3) := by decide +kernel
theorem dX6_init_4 : decode cX6_init 4 = .ok (.aload_n 0, 1) := by decide +kernel
theorem dX6_init_5 : decode cX6_init 5 = .ok (.bipush 8, 2) := by decide +kernel
theorem dX6_init_7 : decode cX6_init 7 = .ok (.newarray .int, 2) := by decide +kernel
theorem dX6_init_9 : decode cX6_init 9 = .ok (.putfield 9, 3) := by decide +kernel
theorem dX6_init_12 : decode cX6_init 12 = .ok (.aload_n 0, 1) := by decide +kernel
theorem dX6_init_13 : decode cX6_init 13 = .ok (.bipush 8, 2) := by decide +kernel
theorem dX6_init_15 : decode cX6_init 15 = .ok (.newarray .int, 2) := by decide +kernel
theorem dX6_init_17 : decode cX6_init 17 = .ok (.putfield 15, 3) := by decide +kernel
theorem dX6_init_20 : decode cX6_init 20 = .ok (.return_, 1) := by decide +kernel
theorem dX6_isPossible_0 : decode cX6_isPossible 0 = .ok (.iload_n 0, 1) := by decide +kernel
theorem dX6_isPossible_1 : decode cX6_isPossible 1 = .ok (.iconst 0, 1) := by decide +kernel
theorem dX6_isPossible_2 : decode cX6_isPossible 2 = .ok (.bipush 24, 2) := by decide +kernel
theorem dX6_isPossible_4 : decode cX6_isPossible 4 = .ok (.invokestatic 18, 3) := by decide +kernel
theorem dX6_isPossible_7 : decode cX6_isPossible 7 = .ok (.ifCond .eq 17, 3) := by decide +kernel
theorem dX6_isPossible_10 : decode cX6_isPossible 10 = .ok (.iload_n 1, 1) := by decide +kernel
theorem dX6_isPossible_11 : decode cX6_isPossible 11 = .ok (.iconst 0, 1) := by decide +kernel
theorem dX6_isPossible_12 : decode cX6_isPossible 12 = .ok (.bipush 18, 2) := by decide +kernel
theorem dX6_isPossible_14 : decode cX6_isPossible 14 = .ok (.invokestatic 18, 3) := by decide +kernel
theorem dX6_isPossible_17 : decode cX6_isPossible 17 = .ok (.ifCond .eq 7, 3) := by decide +kernel
theorem dX6_isPossible_20 : decode cX6_isPossible 20 = .ok (.iconst 1, 1) := by decide +kernel
theorem dX6_isPossible_21 : decode cX6_isPossible 21 = .ok (.goto 4, 3) := by decide +kernel
theorem dX6_isPossible_24 : decode cX6_isPossible 24 = .ok (.iconst 0, 1) := by decide +kernel
theorem dX6_isPossible_25 : decode cX6_isPossible 25 = .ok (.ireturn, 1) := by decide +kernel
theorem dX6_isFull_0 : decode cX6_isFull 0 = .ok (.aload_n 0, 1) := by decide +kernel
theorem dX6_isFull_1 : decode cX6_isFull 1 = .ok (.getfield 22, 3) := by decide +kernel
theorem dX6_isFull_4 : decode cX6_isFull 4 = .ok (.bipush 8, 2) := by decide +kernel
theorem dX6_isFull_6 : decode cX6_isFull 6 = .ok (.if_icmp .lt 7, 3) := by decide +kernel
theorem dX6_isFull_9 : decode cX6_isFull 9 = .ok (.iconst 1, 1) := by decide +kernel
theorem dX6_isFull_10 : decode cX6_isFull 10 = .ok (.goto 4, 3) := by decide +kernel
theorem dX6_isFull_13 : decode cX6_isFull 13 = .ok (.iconst 0, 1) := by decide +kernel
theorem dX6_isFull_14 : decode cX6_isFull 14 = .ok (.ireturn, 1) := by decide +kernel
theorem dX6_add_0 : decode cX6_add 0 = .ok (.aload_n 0, 1) := by decide +kernel
theorem dX6_add_1 : decode cX6_add 1 = .ok (.invokevirtual 26, 3) := by decide +kernel
theorem dX6_add_4 : decode cX6_add 4 = .ok (.ifCond .ne 33, 3) := by decide +kernel
theorem dX6_add_7 : decode cX6_add 7 = .ok (.aload_n 0, 1) := by decide +kernel
theorem dX6_add_8 : decode cX6_add 8 = .ok (.getfield 9, 3) := by decide +kernel
theorem dX6_add_11 : decode cX6_add 11 = .ok (.aload_n 0, 1) := by decide +kernel
theorem dX6_add_12 : decode cX6_add 12 = .ok (.getfield 22, 3) := by decide +kernel
theorem dX6_add_15 : decode cX6_add 15 = .ok (.iload_n 1, 1) := by decide +kernel
theorem dX6_add_16 : decode cX6_add 16 = .ok (.iastore, 1) := by decide +kernel
theorem dX6_add_17 : decode cX6_add 17 = .ok (.aload_n 0, 1) := by decide +kernel
theorem dX6_add_18 : decode cX6_add 18 = .ok (.getfield 15, 3) := by decide +kernel
theorem dX6_add_21 : decode cX6_add 21 = .ok (.aload_n 0, 1) := by decide +kernel
theorem dX6_add_22 : decode cX6_add 22 = .ok (.getfield 22, 3) := by decide +kernel
theorem dX6_add_25 : decode cX6_add 25 = .ok (.iload_n 2, 1) := by decide +kernel
theorem dX6_add_26 : decode cX6_add 26 = .ok (.iastore, 1) := by decide +kernel
theorem dX6_add_27 : decode cX6_add 27 = .ok (.aload_n 0, 1) := by decide +kernel
theorem dX6_add_28 : decode cX6_add 28 = .ok (.dup, 1) := by decide +kernel
theorem dX6_add_29 : decode cX6_add 29 = .ok (.getfield 22, 3) := by decide +kernel
theorem dX6_add_32 : decode cX6_add 32 = .ok (.iconst 1, 1) := by decide +kernel
theorem dX6_add_33 : decode cX6_add 33 = .ok (.iadd, 1) := by decide +kernel
theorem dX6_add_34 : decode cX6_add 34 = .ok (.putfield 22, 3) := by decide +kernel
theorem dX6_add_37 : decode cX6_add 37 = .ok (.return_, 1) := by decide +kernel
theorem dX6_agreeWith_0 : decode cX6_agreeWith 0 = .ok (.iconst 0, 1) := by decide +kernel
theorem dX6_agreeWith_1 : decode cX6_agreeWith 1 = .ok (.istore_n 3, 1) := by decide +kernel
theorem dX6_agreeWith_2 : decode cX6_agreeWith 2 = .ok (.iload_n 3, 1) := by decide +kernel
theorem dX6_agreeWith_3 : decode cX6_agreeWith 3 = .ok (.aload_n 0, 1) := by decide +kernel
theorem dX6_agreeWith_4 : decode cX6_agreeWith 4 = .ok (.getfield 22, 3) := by decide +kernel
theorem dX6_agreeWith_7 : decode cX6_agreeWith 7 = .ok (.if_icmp .ge 45, 3) := by decide +kernel
theorem dX6_agreeWith_10 : decode cX6_agreeWith 10 = .ok (.aload_n 0, 1) := by decide +kernel
theorem dX6_agreeWith_11 : decode cX6_agreeWith 11 = .ok (.getfield 9, 3) := by decide +kernel
theorem dX6_agreeWith_14 : decode cX6_agreeWith 14 = .ok (.iload_n 3, 1) := by decide +kernel
theorem dX6_agreeWith_15 : decode cX6_agreeWith 15 = .ok (.iaload, 1) := by decide +kernel
theorem dX6_agreeWith_16 : decode cX6_agreeWith 16 = .ok (.istore 4, 2) := by decide +kernel
theorem dX6_agreeWith_18 : decode cX6_agreeWith 18 = .ok (.iload 4, 2) := by decide +kernel
theorem dX6_agreeWith_20 : decode cX6_agreeWith 20 = .ok (.iload_n 2, 1) := by decide +kernel
theorem dX6_agreeWith_21 : decode cX6_agreeWith 21 = .ok (.if_icmp .gt 23, 3) := by decide +kernel
theorem dX6_agreeWith_24 : decode cX6_agreeWith 24 = .ok (.iload 4, 2) := by decide +kernel
theorem dX6_agreeWith_26 : decode cX6_agreeWith 26 = .ok (.aload_n 1, 1) := by decide +kernel
theorem dX6_agreeWith_27 : decode cX6_agreeWith 27 = .ok (.arraylength, 1) := by decide +kernel
theorem dX6_agreeWith_28 : decode cX6_agreeWith 28 = .ok (.if_icmp .ge 16, 3) := by decide +kernel
theorem dX6_agreeWith_31 : decode cX6_agreeWith 31 = .ok (.aload_n 1, 1) := by decide +kernel
theorem dX6_agreeWith_32 : decode cX6_agreeWith 32 = .ok (.iload 4, 2) := by decide +kernel
theorem dX6_agreeWith_34 : decode cX6_agreeWith 34 = .ok (.iaload, 1) := by decide +kernel
theorem dX6_agreeWith_35 : decode cX6_agreeWith 35 = .ok (.aload_n 0, 1) := by decide +kernel
theorem dX6_agreeWith_36 : decode cX6_agreeWith 36 = .ok (.getfield 15, 3) := by decide +kernel
theorem dX6_agreeWith_39 : decode cX6_agreeWith 39 = .ok (.iload_n 3, 1) := by decide +kernel
theorem dX6_agreeWith_40 : decode cX6_agreeWith 40 = .ok (.iaload, 1) := by decide +kernel
theorem dX6_agreeWith_41 : decode cX6_agreeWith 41 = .ok (.if_icmp .eq 5, 3) := by decide +kernel
theorem dX6_agreeWith_44 : decode cX6_agreeWith 44 = .ok (.iconst 0, 1) := by decide +kernel
theorem dX6_agreeWith_45 : decode cX6_agreeWith 45 = .ok (.ireturn, 1) := by decide +kernel
theorem dX6_agreeWith_46 : decode cX6_agreeWith 46 = .ok (.iinc 3 1, 3) := by decide +kernel
theorem dX6_agreeWith_49 : decode cX6_agreeWith 49 = .ok (.goto (-47), 3) := by decide +kernel
theorem dX6_agreeWith_52 : decode cX6_agreeWith 52 = .ok (.iconst 1, 1) := by decide +kernel
theorem dX6_agreeWith_53 : decode cX6_agreeWith 53 = .ok (.ireturn, 1) := by decide +kernel
theorem dX7_init_0 : decode cX7_init 0 = .ok (.aload_n 0, 1) := by decide +kernel
theorem dX7_init_1 : decode cX7_init 1 = .ok (.invokespecial 3, 3) := by decide +kernel
theorem dX7_init_4 : decode cX7_init 4 = .ok (.aload_n 0, 1) := by decide +kernel
theorem dX7_init_5 : decode cX7_init 5 = .ok (.iload_n 1, 1) := by decide +kernel
theorem dX7_init_6 : decode cX7_init 6 = .ok (.iconst 0, 1) := by decide +kernel
theorem dX7_init_7 : decode cX7_init 7 = .ok (.invokestatic 9, 3) := by decide +kernel
theorem dX7_init_10 : decode cX7_init 10 = .ok (.newarray .int, 2) := by decide +kernel
theorem dX7_init_12 : decode cX7_init 12 = .ok (.putfield 15, 3) := by decide +kernel
theorem dX7_init_15 : decode cX7_init 15 = .ok (.return_, 1) := by decide +kernel
theorem dX7_isFull_0 : decode cX7_isFull 0 = .ok (.aload_n 0, 1) := by decide +kernel
theorem dX7_isFull_1 : decode cX7_isFull 1 = .ok (.getfield 21, 3) := by decide +kernel
theorem dX7_isFull_4 : decode cX7_isFull 4 = .ok (.aload_n 0, 1) := by decide +kernel
theorem dX7_isFull_5 : decode cX7_isFull 5 = .ok (.getfield 15, 3) := by decide +kernel
theorem dX7_isFull_8 : decode cX7_isFull 8 = .ok (.arraylength, 1) := by decide +kernel
theorem dX7_isFull_9 : decode cX7_isFull 9 = .ok (.if_icmp .lt 7, 3) := by decide +kernel
theorem dX7_isFull_12 : decode cX7_isFull 12 = .ok (.iconst 1, 1) := by decide +kernel
theorem dX7_isFull_13 : decode cX7_isFull 13 = .ok (.goto 4, 3) := by decide +kernel
theorem dX7_isFull_16 : decode cX7_isFull 16 = .ok (.iconst 0, 1) := by decide +kernel
theorem dX7_isFull_17 : decode cX7_isFull 17 = .ok (.ireturn, 1) := by decide +kernel
theorem dX7_append_0 : decode cX7_append 0 = .ok (.aload_n 0, 1) := by decide +kernel
theorem dX7_append_1 : decode cX7_append 1 = .ok (.invokevirtual 25, 3) := by decide +kernel
theorem dX7_append_4 : decode cX7_append 4 = .ok (.ifCond .ne 23, 3) := by decide +kernel
theorem dX7_append_7 : decode cX7_append 7 = .ok (.aload_n 0, 1) := by decide +kernel
theorem dX7_append_8 : decode cX7_append 8 = .ok (.getfield 15, 3) := by decide +kernel
theorem dX7_append_11 : decode cX7_append 11 = .ok (.aload_n 0, 1) := by decide +kernel
theorem dX7_append_12 : decode cX7_append 12 = .ok (.getfield 21, 3) := by decide +kernel
theorem dX7_append_15 : decode cX7_append 15 = .ok (.iload_n 1, 1) := by decide +kernel
theorem dX7_append_16 : decode cX7_append 16 = .ok (.iastore, 1) := by decide +kernel
theorem dX7_append_17 : decode cX7_append 17 = .ok (.aload_n 0, 1) := by decide +kernel
theorem dX7_append_18 : decode cX7_append 18 = .ok (.dup, 1) := by decide +kernel
theorem dX7_append_19 : decode cX7_append 19 = .ok (.getfield 21, 3) := by decide +kernel
theorem dX7_append_22 : decode cX7_append 22 = .ok (.iconst 1, 1) := by decide +kernel
theorem dX7_append_23 : decode cX7_append 23 = .ok (.iadd, 1) := by decide +kernel
theorem dX7_append_24 : decode cX7_append 24 = .ok (.putfield 21, 3) := by decide +kernel
theorem dX7_append_27 : decode cX7_append 27 = .ok (.return_, 1) := by decide +kernel
theorem dX7_at_0 : decode cX7_at 0 = .ok (.iload_n 1, 1) := by decide +kernel
theorem dX7_at_1 : decode cX7_at 1 = .ok (.ifCond .lt 20, 3) := by decide +kernel
theorem dX7_at_4 : decode cX7_at 4 = .ok (.iload_n 1, 1) := by decide +kernel
theorem dX7_at_5 : decode cX7_at 5 = .ok (.aload_n 0, 1) := by decide +kernel
theorem dX7_at_6 : decode cX7_at 6 = .ok (.getfield 21, 3) := by decide +kernel
theorem dX7_at_9 : decode cX7_at 9 = .ok (.if_icmp .ge 12, 3) := by decide +kernel
theorem dX7_at_12 : decode cX7_at 12 = .ok (.aload_n 0, 1) := by decide +kernel
theorem dX7_at_13 : decode cX7_at 13 = .ok (.getfield 15, 3) := by decide +kernel
theorem dX7_at_16 : decode cX7_at 16 = .ok (.iload_n 1, 1) := by decide +kernel
theorem dX7_at_17 : decode cX7_at 17 = .ok (.iaload, 1) := by decide +kernel
theorem dX7_at_18 : decode cX7_at 18 = .ok (.goto 4, 3) := by decide +kernel
theorem dX7_at_21 : decode cX7_at 21 = .ok (.iconst (-1), 1) := by decide +kernel
theorem dX7_at_22 : decode cX7_at 22 = .ok (.ireturn, 1) := by decide +kernel
theorem dJ9_floorMod_7cf53_0 : decode cJ9_floorMod_7cf53 0 = .ok (.iload_n 0, 1) := by decide +kernel
theorem dJ9_floorMod_7cf53_1 : decode cJ9_floorMod_7cf53 1 = .ok (.iload_n 1, 1) := by decide +kernel
theorem dJ9_floorMod_7cf53_2 : decode cJ9_floorMod_7cf53 2 = .ok (.irem, 1) := by decide +kernel
theorem dJ9_floorMod_7cf53_3 : decode cJ9_floorMod_7cf53 3 = .ok (.istore_n 2, 1) := by decide +kernel
theorem dJ9_floorMod_7cf53_4 : decode cJ9_floorMod_7cf53 4 = .ok (.iload_n 0, 1) := by decide +kernel
theorem dJ9_floorMod_7cf53_5 : decode cJ9_floorMod_7cf53 5 = .ok (.iload_n 1, 1) := by decide +kernel
theorem dJ9_floorMod_7cf53_6 : decode cJ9_floorMod_7cf53 6 = .ok (.ixor, 1) := by decide +kernel
theorem dJ9_floorMod_7cf53_7 : decode cJ9_floorMod_7cf53 7 = .ok (.ifCond .ge 11, 3) := by decide +kernel
theorem dJ9_floorMod_7cf53_10 : decode cJ9_floorMod_7cf53 10 = .ok (.iload_n 2, 1) := by decide +kernel
theorem dJ9_floorMod_7cf53_11 : decode cJ9_floorMod_7cf53 11 = .ok (.ifCond .eq 7, 3) := by decide +kernel
theorem dJ9_floorMod_7cf53_14 : decode cJ9_floorMod_7cf53 14 = .ok (.iload_n 2, 1) := by decide +kernel
theorem dJ9_floorMod_7cf53_15 : decode cJ9_floorMod_7cf53 15 = .ok (.iload_n 1, 1) := by decide +kernel
theorem dJ9_floorMod_7cf53_16 : decode cJ9_floorMod_7cf53 16 = .ok (.iadd, 1) := by decide +kernel
theorem dJ9_floorMod_7cf53_17 : decode cJ9_floorMod_7cf53 17 = .ok (.ireturn, 1) := by decide +kernel
theorem dJ9_floorMod_7cf53_18 : decode cJ9_floorMod_7cf53 18 = .ok (.iload_n 2, 1) := by decide +kernel
theorem dJ9_floorMod_7cf53_19 : decode cJ9_floorMod_7cf53 19 = .ok (.ireturn, 1) := by decide +kernel
theorem dJ9_max_7cf53_0 : decode cJ9_max_7cf53 0 = .ok (.iload_n 0, 1) := by decide +kernel
theorem dJ9_max_7cf53_1 : decode cJ9_max_7cf53 1 = .ok (.iload_n 1, 1) := by decide +kernel
theorem dJ9_max_7cf53_2 : decode cJ9_max_7cf53 2 = .ok (.if_icmp .lt 7, 3) := by decide +kernel
theorem dJ9_max_7cf53_5 : decode cJ9_max_7cf53 5 = .ok (.iload_n 0, 1) := by decide +kernel
theorem dJ9_max_7cf53_6 : decode cJ9_max_7cf53 6 = .ok (.goto 4, 3) := by decide +kernel
theorem dJ9_max_7cf53_9 : decode cJ9_max_7cf53 9 = .ok (.iload_n 1, 1) := by decide +kernel
theorem dJ9_max_7cf53_10 : decode cJ9_max_7cf53 10 = .ok (.ireturn, 1) := by decide +kernel
theorem dJ9_min_7cf53_0 : decode cJ9_min_7cf53 0 = .ok (.iload_n 0, 1) := by decide +kernel
theorem dJ9_min_7cf53_1 : decode cJ9_min_7cf53 1 = .ok (.iload_n 1, 1) := by decide +kernel
theorem dJ9_min_7cf53_2 : decode cJ9_min_7cf53 2 = .ok (.if_icmp .gt 7, 3) := by decide +kernel
theorem dJ9_min_7cf53_5 : decode cJ9_min_7cf53 5 = .ok (.iload_n 0, 1) := by decide +kernel
theorem dJ9_min_7cf53_6 : decode cJ9_min_7cf53 6 = .ok (.goto 4, 3) := by decide +kernel
theorem dJ9_min_7cf53_9 : decode cJ9_min_7cf53 9 = .ok (.iload_n 1, 1) := by decide +kernel
theorem dJ9_min_7cf53_10 : decode cJ9_min_7cf53 10 = .ok (.ireturn, 1) := by decide +kernel
end
section
theorem dX8_init_0 : decode cX8_init 0 = .ok (.aload_n 0, 1) := by decide +kernel
theorem dX8_init_1 : decode cX8_init 1 = .ok (.invokespecial 3, 3) := by decide +kernel
theorem dX8_init_4 : decode cX8_init 4 = .ok (.aload_n 0, 1) := by decide +kernel
theorem dX8_init_5 : decode cX8_init 5 = .ok (.iconst 3, 1) := by decide +kernel
theorem dX8_init_6 : decode cX8_init 6 = .ok (.anewarray 9, 3) := by decide +kernel
theorem dX8_init_9 : decode cX8_init 9 = .ok (.putfield 11, 3) := by decide +kernel
theorem dX8_init_12 : decode cX8_init 12 = .ok (.aload_n 0, 1) := by decide +kernel
theorem dX8_init_13 : decode cX8_init 13 = .ok (.new 15, 3) := by decide +kernel
theorem dX8_init_16 : decode cX8_init 16 = .ok (.dup, 1) := by decide +kernel
theorem dX8_init_17 : decode cX8_init 17 = .ok (.invokespecial 17, 3) := by decide +kernel
theorem dX8_init_20 : decode cX8_init 20 = .ok (.putfield 18, 3) := by decide +kernel
theorem dX8_init_23 : decode cX8_init 23 = .ok (.aload_n 0, 1) := by decide +kernel
theorem dX8_init_24 : decode cX8_init 24 = .ok (.new 22, 3) := by decide +kernel
theorem dX8_init_27 : decode cX8_init 27 = .ok (.dup, 1) := by decide +kernel
theorem dX8_init_28 : decode cX8_init 28 = .ok (.invokespecial 24, 3) := by decide +kernel
theorem dX8_init_31 : decode cX8_init 31 = .ok (.putfield 25, 3) := by decide +kernel
theorem dX8_init_34 : decode cX8_init 34 = .ok (.aload_n 0, 1) := by decide +kernel
theorem dX8_init_35 : decode cX8_init 35 = .ok (.new 29, 3) := by decide +kernel
theorem dX8_init_38 : decode cX8_init 38 = .ok (.dup, 1) := by decide +kernel
theorem dX8_init_39 : decode cX8_init 39 = .ok (.invokespecial 31, 3) := by decide +kernel
theorem dX8_init_42 : decode cX8_init 42 = .ok (.putfield 32, 3) := by decide +kernel
theorem dX8_init_45 : decode cX8_init 45 = .ok (.aload_n 0, 1) := by decide +kernel
theorem dX8_init_46 : decode cX8_init 46 = .ok (.bipush 25, 2) := by decide +kernel
theorem dX8_init_48 : decode cX8_init 48 = .ok (.newarray .int, 2) := by decide +kernel
theorem dX8_init_50 : decode cX8_init 50 = .ok (.putfield 36, 3) := by decide +kernel
theorem dX8_init_53 : decode cX8_init 53 = .ok (.aload_n 0, 1) := by decide +kernel
theorem dX8_init_54 : decode cX8_init 54 = .ok (.bipush 25, 2) := by decide +kernel
theorem dX8_init_56 : decode cX8_init 56 = .ok (.newarray .int, 2) := by decide +kernel
theorem dX8_init_58 : decode cX8_init 58 = .ok (.putfield 40, 3) := by decide +kernel
theorem dX8_init_61 : decode cX8_init 61 = .ok (.aload_n 0, 1) := by decide +kernel
theorem dX8_init_62 : decode cX8_init 62 = .ok (.iconst 4, 1) := by decide +kernel
theorem dX8_init_63 : decode cX8_init 63 = .ok (.newarray .int, 2) := by decide +kernel
theorem dX8_init_65 : decode cX8_init 65 = .ok (.putfield 43, 3) := by decide +kernel
theorem dX8_init_68 : decode cX8_init 68 = .ok (.aload_n 0, 1) := by decide +kernel
theorem dX8_init_69 : decode cX8_init 69 = .ok (.bipush 19, 2) := by decide +kernel
theorem dX8_init_71 : decode cX8_init 71 = .ok (.newarray .int, 2) := by decide +kernel
theorem dX8_init_73 : decode cX8_init 73 = .ok (.putfield 46, 3) := by decide +kernel
theorem dX8_init_76 : decode cX8_init 76 = .ok (.aload_n 0, 1) := by decide +kernel
theorem dX8_init_77 : decode cX8_init 77 = .ok (.new 49, 3) := by decide +kernel
theorem dX8_init_80 : decode cX8_init 80 = .ok (.dup, 1) := by decide +kernel
theorem dX8_init_81 : decode cX8_init 81 = .ok (.invokespecial 51, 3) := by decide +kernel
theorem dX8_init_84 : decode cX8_init 84 = .ok (.putfield 52, 3) := by decide +kernel
theorem dX8_init_87 : decode cX8_init 87 = .ok (.aload_n 0, 1) := by decide +kernel
theorem dX8_init_88 : decode cX8_init 88 = .ok (.new 56, 3) := by decide +kernel
theorem dX8_init_91 : decode cX8_init 91 = .ok (.dup, 1) := by decide +kernel
theorem dX8_init_92 : decode cX8_init 92 = .ok (.invokespecial 58, 3) := by decide +kernel
theorem dX8_init_95 : decode cX8_init 95 = .ok (.putfield 59, 3) := by decide +kernel
theorem dX8_init_98 : decode cX8_init 98 = .ok (.aload_n 0, 1) := by decide +kernel
theorem dX8_init_99 : decode cX8_init 99 = .ok (.bipush 19, 2) := by decide +kernel
theorem dX8_init_101 : decode cX8_init 101 = .ok (.newarray .long, 2) := by decide +kernel
theorem dX8_init_103 : decode cX8_init 103 = .ok (.putfield 63, 3) := by decide +kernel
theorem dX8_init_106 : decode cX8_init 106 = .ok (.aload_n 0, 1) := by decide +kernel
theorem dX8_init_107 : decode cX8_init 107 = .ok (.bipush 19, 2) := by decide +kernel
theorem dX8_init_109 : decode cX8_init 109 = .ok (.newarray .long, 2) := by decide +kernel
theorem dX8_init_111 : decode cX8_init 111 = .ok (.putfield 67, 3) := by decide +kernel
theorem dX8_init_114 : decode cX8_init 114 = .ok (.aload_n 0, 1) := by decide +kernel
theorem dX8_init_115 : decode cX8_init 115 = .ok (.iconst 4, 1) := by decide +kernel
theorem dX8_init_116 : decode cX8_init 116 = .ok (.anewarray 70, 3) := by decide +kernel
theorem dX8_init_119 : decode cX8_init 119 = .ok (.putfield 72, 3) := by decide +kernel
theorem dX8_init_122 : decode cX8_init 122 = .ok (.aload_n 0, 1) := by decide +kernel
theorem dX8_init_123 : decode cX8_init 123 = .ok (.iconst 1, 1) := by decide +kernel
theorem dX8_init_124 : decode cX8_init 124 = .ok (.putfield 76, 3) := by decide +kernel
theorem dX8_init_127 : decode cX8_init 127 = .ok (.aload_n 0, 1) := by decide +kernel
theorem dX8_init_128 : decode cX8_init 128 = .ok (.iconst 1, 1) := by decide +kernel
theorem dX8_init_129 : decode cX8_init 129 = .ok (.putfield 80, 3) := by decide +kernel
theorem dX8_init_132 : decode cX8_init 132 = .ok (.aload_n 0, 1) := by decide +kernel
theorem dX8_init_133 : decode cX8_init 133 = .ok (.getfield 11, 3) := by decide +kernel
theorem dX8_init_136 : decode cX8_init 136 = .ok (.iconst 0, 1) := by decide +kernel
theorem dX8_init_137 : decode cX8_init 137 = .ok (.new 9, 3) := by decide +kernel
theorem dX8_init_140 : decode cX8_init 140 = .ok (.dup, 1) := by decide +kernel
theorem dX8_init_141 : decode cX8_init 141 = .ok (.bipush 19, 2) := by decide +kernel
theorem dX8_init_143 : decode cX8_init 143 = .ok (.invokespecial 83, 3) := by decide +kernel
theorem dX8_init_146 : decode cX8_init 146 = .ok (.aastore, 1) := by decide +kernel
theorem dX8_init_147 : decode cX8_init 147 = .ok (.aload_n 0, 1) := by decide +kernel
theorem dX8_init_148 : decode cX8_init 148 = .ok (.getfield 11, 3) := by decide +kernel
theorem dX8_init_151 : decode cX8_init 151 = .ok (.iconst 1, 1) := by decide +kernel
theorem dX8_init_152 : decode cX8_init 152 = .ok (.new 9, 3) := by decide +kernel
theorem dX8_init_155 : decode cX8_init 155 = .ok (.dup, 1) := by decide +kernel
theorem dX8_init_156 : decode cX8_init 156 = .ok (.bipush 39, 2) := by decide +kernel
theorem dX8_init_158 : decode cX8_init 158 = .ok (.invokespecial 83, 3) := by decide +kernel
theorem dX8_init_161 : decode cX8_init 161 = .ok (.aastore, 1) := by decide +kernel
theorem dX8_init_162 : decode cX8_init 162 = .ok (.aload_n 0, 1) := by decide +kernel
theorem dX8_init_163 : decode cX8_init 163 = .ok (.getfield 11, 3) := by decide +kernel
theorem dX8_init_166 : decode cX8_init 166 = .ok (.iconst 2, 1) := by decide +kernel
theorem dX8_init_167 : decode cX8_init 167 = .ok (.new 9, 3) := by decide +kernel
theorem dX8_init_170 : decode cX8_init 170 = .ok (.dup, 1) := by decide +kernel
theorem dX8_init_171 : decode cX8_init 171 = .ok (.bipush 24, 2) := by decide +kernel
theorem dX8_init_173 : decode cX8_init 173 = .ok (.invokespecial 83, 3) := by decide +kernel
theorem dX8_init_176 : decode cX8_init 176 = .ok (.aastore, 1) := by decide +kernel
theorem dX8_init_177 : decode cX8_init 177 = .ok (.iconst 0, 1) := by decide +kernel
theorem dX8_init_178 : decode cX8_init 178 = .ok (.istore_n 1, 1) := by decide +kernel
theorem dX8_init_179 : decode cX8_init 179 = .ok (.iload_n 1, 1) := by decide +kernel
theorem dX8_init_180 : decode cX8_init 180 = .ok (.iconst 4, 1) := by decide +kernel
theorem dX8_init_181 : decode cX8_init 181 = .ok (.if_icmp .ge 22, 3) := by decide +kernel
theorem dX8_init_184 : decode cX8_init 184 = .ok (.aload_n 0, 1) := by decide +kernel
theorem dX8_init_185 : decode cX8_init 185 = .ok (.getfield 72, 3) := by decide +kernel
theorem dX8_init_188 : decode cX8_init 188 = .ok (.iload_n 1, 1) := by decide +kernel
theorem dX8_init_189 : decode cX8_init 189 = .ok (.new 70, 3) := by decide +kernel
theorem dX8_init_192 : decode cX8_init 192 = .ok (.dup, 1) := by decide +kernel
theorem dX8_init_193 : decode cX8_init 193 = .ok (.invokespecial 86, 3) := by decide +kernel
theorem dX8_init_196 : decode cX8_init 196 = .ok (.aastore, 1) := by decide +kernel
theorem dX8_init_197 : decode cX8_init 197 = .ok (.iinc 1 1, 3) := by decide +kernel
theorem dX8_init_200 : decode cX8_init 200 = .ok (.goto (-21), 3) := by decide +kernel
theorem dX8_init_203 : decode cX8_init 203 = .ok (.return_, 1) := by decide +kernel
theorem dX8_type_0 : decode cX8_type 0 = .ok (.aload_n 0, 1) := by decide +kernel
theorem dX8_type_1 : decode cX8_type 1 = .ok (.iload_n 1, 1) := by decide +kernel
theorem dX8_type_2 : decode cX8_type 2 = .ok (.invokevirtual 87, 3) := by decide +kernel
theorem dX8_type_5 : decode cX8_type 5 = .ok (.astore_n 3, 1) := by decide +kernel
theorem dX8_type_6 : decode cX8_type 6 = .ok (.aload_n 3, 1) := by decide +kernel
theorem dX8_type_7 : decode cX8_type 7 = .ok (.ifnull 14, 3) := by decide +kernel
theorem dX8_type_10 : decode cX8_type 10 = .ok (.iload_n 2, 1) := by decide +kernel
theorem dX8_type_11 : decode cX8_type 11 = .ok (.iconst 0, 1) := by decide +kernel
theorem dX8_type_12 : decode cX8_type 12 = .ok (.sipush 255, 3) := by decide +kernel
theorem dX8_type_15 : decode cX8_type 15 = .ok (.invokestatic 91, 3) := by decide +kernel
theorem dX8_type_18 : decode cX8_type 18 = .ok (.ifCond .ne 6, 3) := by decide +kernel
theorem dX8_type_21 : decode cX8_type 21 = .ok (.bipush (-2), 2) := by decide +kernel
theorem dX8_type_23 : decode cX8_type 23 = .ok (.ireturn, 1) := by decide +kernel
theorem dX8_type_24 : decode cX8_type 24 = .ok (.aload_n 3, 1) := by decide +kernel
theorem dX8_type_25 : decode cX8_type 25 = .ok (.invokevirtual 95, 3) := by decide +kernel
theorem dX8_type_28 : decode cX8_type 28 = .ok (.ifCond .eq 6, 3) := by decide +kernel
theorem dX8_type_31 : decode cX8_type 31 = .ok (.bipush (-4), 2) := by decide +kernel
theorem dX8_type_33 : decode cX8_type 33 = .ok (.ireturn, 1) := by decide +kernel
theorem dX8_type_34 : decode cX8_type 34 = .ok (.aload_n 3, 1) := by decide +kernel
theorem dX8_type_35 : decode cX8_type 35 = .ok (.iload_n 2, 1) := by decide +kernel
theorem dX8_type_36 : decode cX8_type 36 = .ok (.invokevirtual 99, 3) := by decide +kernel
theorem dX8_type_39 : decode cX8_type 39 = .ok (.aload_n 0, 1) := by decide +kernel
theorem dX8_type_40 : decode cX8_type 40 = .ok (.iconst 1, 1) := by decide +kernel
theorem dX8_type_41 : decode cX8_type 41 = .ok (.putfield 76, 3) := by decide +kernel
theorem dX8_type_44 : decode cX8_type 44 = .ok (.aload_n 3, 1) := by decide +kernel
theorem dX8_type_45 : decode cX8_type 45 = .ok (.getfield 102, 3) := by decide +kernel
theorem dX8_type_48 : decode cX8_type 48 = .ok (.ireturn, 1) := by decide +kernel
theorem dX8_wipe_0 : decode cX8_wipe 0 = .ok (.aload_n 0, 1) := by decide +kernel
theorem dX8_wipe_1 : decode cX8_wipe 1 = .ok (.iload_n 1, 1) := by decide +kernel
theorem dX8_wipe_2 : decode cX8_wipe 2 = .ok (.invokevirtual 87, 3) := by decide +kernel
theorem dX8_wipe_5 : decode cX8_wipe 5 = .ok (.astore_n 2, 1) := by decide +kernel
theorem dX8_wipe_6 : decode cX8_wipe 6 = .ok (.aload_n 2, 1) := by decide +kernel
theorem dX8_wipe_7 : decode cX8_wipe 7 = .ok (.ifnonnull 6, 3) := by decide +kernel
theorem dX8_wipe_10 : decode cX8_wipe 10 = .ok (.bipush (-2), 2) := by decide +kernel
theorem dX8_wipe_12 : decode cX8_wipe 12 = .ok (.ireturn, 1) := by decide +kernel
theorem dX8_wipe_13 : decode cX8_wipe 13 = .ok (.aload_n 2, 1) := by decide +kernel
theorem dX8_wipe_14 : decode cX8_wipe 14 = .ok (.getfield 102, 3) := by decide +kernel
theorem dX8_wipe_17 : decode cX8_wipe 17 = .ok (.istore_n 3, 1) := by decide +kernel
theorem dX8_wipe_18 : decode cX8_wipe 18 = .ok (.aload_n 2, 1) := by decide +kernel
theorem dX8_wipe_19 : decode cX8_wipe 19 = .ok (.iconst 0, 1) := by decide +kernel
theorem dX8_wipe_20 : decode cX8_wipe 20 = .ok (.putfield 102, 3) := by decide +kernel
theorem dX8_wipe_23 : decode cX8_wipe 23 = .ok (.aload_n 0, 1) := by decide +kernel
theorem dX8_wipe_24 : decode cX8_wipe 24 = .ok (.iconst 1, 1) := by decide +kernel
theorem dX8_wipe_25 : decode cX8_wipe 25 = .ok (.putfield 76, 3) := by decide +kernel
theorem dX8_wipe_28 : decode cX8_wipe 28 = .ok (.iload_n 3, 1) := by decide +kernel
theorem dX8_wipe_29 : decode cX8_wipe 29 = .ok (.ireturn, 1) := by decide +kernel
theorem dX8_undo_0 : decode cX8_undo 0 = .ok (.aload_n 0, 1) := by decide +kernel
theorem dX8_undo_1 : decode cX8_undo 1 = .ok (.iload_n 1, 1) := by decide +kernel
theorem dX8_undo_2 : decode cX8_undo 2 = .ok (.invokevirtual 87, 3) := by decide +kernel
theorem dX8_undo_5 : decode cX8_undo 5 = .ok (.astore_n 2, 1) := by decide +kernel
theorem dX8_undo_6 : decode cX8_undo 6 = .ok (.aload_n 2, 1) := by decide +kernel
theorem dX8_undo_7 : decode cX8_undo 7 = .ok (.ifnonnull 6, 3) := by decide +kernel
theorem dX8_undo_10 : decode cX8_undo 10 = .ok (.bipush (-2), 2) := by decide +kernel
theorem dX8_undo_12 : decode cX8_undo 12 = .ok (.ireturn, 1) := by decide +kernel
theorem dX8_undo_13 : decode cX8_undo 13 = .ok (.aload_n 2, 1) := by decide +kernel
theorem dX8_undo_14 : decode cX8_undo 14 = .ok (.getfield 102, 3) := by decide +kernel
theorem dX8_undo_17 : decode cX8_undo 17 = .ok (.ifCond .ne 6, 3) := by decide +kernel
theorem dX8_undo_20 : decode cX8_undo 20 = .ok (.bipush (-3), 2) := by decide +kernel
theorem dX8_undo_22 : decode cX8_undo 22 = .ok (.ireturn, 1) := by decide +kernel
theorem dX8_undo_23 : decode cX8_undo 23 = .ok (.aload_n 2, 1) := by decide +kernel
theorem dX8_undo_24 : decode cX8_undo 24 = .ok (.dup, 1) := by decide +kernel
theorem dX8_undo_25 : decode cX8_undo 25 = .ok (.getfield 102, 3) := by decide +kernel
theorem dX8_undo_28 : decode cX8_undo 28 = .ok (.iconst 1, 1) := by decide +kernel
theorem dX8_undo_29 : decode cX8_undo 29 = .ok (.isub, 1) := by decide +kernel
theorem dX8_undo_30 : decode cX8_undo 30 = .ok (.putfield 102, 3) := by decide +kernel
theorem dX8_undo_33 : decode cX8_undo 33 = .ok (.aload_n 0, 1) := by decide +kernel
theorem dX8_undo_34 : decode cX8_undo 34 = .ok (.iconst 1, 1) := by decide +kernel
theorem dX8_undo_35 : decode cX8_undo 35 = .ok (.putfield 76, 3) := by decide +kernel
theorem dX8_undo_38 : decode cX8_undo 38 = .ok (.aload_n 2, 1) := by decide +kernel
theorem dX8_undo_39 : decode cX8_undo 39 = .ok (.getfield 102, 3) := by decide +kernel
theorem dX8_undo_42 : decode cX8_undo 42 = .ok (.ireturn, 1) := by decide +kernel
theorem dX8_fault_0 : decode cX8_fault 0 = .ok (.aload_n 0, 1) := by decide +kernel
theorem dX8_fault_1 : decode cX8_fault 1 = .ok (.iload_n 1, 1) := by decide +kernel
theorem dX8_fault_2 : decode cX8_fault 2 = .ok (.invokevirtual 87, 3) := by decide +kernel
theorem dX8_fault_5 : decode cX8_fault 5 = .ok (.astore_n 2, 1) := by decide +kernel
theorem dX8_fault_6 : decode cX8_fault 6 = .ok (.aload_n 2, 1) := by decide +kernel
theorem dX8_fault_7 : decode cX8_fault 7 = .ok (.ifnonnull 8, 3) := by decide +kernel
theorem dX8_fault_10 : decode cX8_fault 10 = .ok (.bipush (-2), 2) := by decide +kernel
theorem dX8_fault_12 : decode cX8_fault 12 = .ok (.goto 8, 3) := by decide +kernel
theorem dX8_fault_15 : decode cX8_fault 15 = .ok (.iload_n 1, 1) := by decide +kernel
theorem dX8_fault_16 : decode cX8_fault 16 = .ok (.aload_n 2, 1) := by decide +kernel
theorem dX8_fault_17 : decode cX8_fault 17 = .ok (.invokestatic 106, 3) := by decide +kernel
theorem dX8_fault_20 : decode cX8_fault 20 = .ok (.ireturn, 1) := by decide +kernel
theorem dX8_plank_0 : decode cX8_plank 0 = .ok (.iload_n 1, 1) := by decide +kernel
theorem dX8_plank_1 : decode cX8_plank 1 = .ok (.iconst 0, 1) := by decide +kernel
theorem dX8_plank_2 : decode cX8_plank 2 = .ok (.bipush 18, 2) := by decide +kernel
theorem dX8_plank_4 : decode cX8_plank 4 = .ok (.invokestatic 91, 3) := by decide +kernel
theorem dX8_plank_7 : decode cX8_plank 7 = .ok (.ifCond .ne 6, 3) := by decide +kernel
theorem dX8_plank_10 : decode cX8_plank 10 = .ok (.bipush (-2), 2) := by decide +kernel
theorem dX8_plank_12 : decode cX8_plank 12 = .ok (.ireturn, 1) := by decide +kernel
theorem dX8_plank_13 : decode cX8_plank 13 = .ok (.aload_n 0, 1) := by decide +kernel
theorem dX8_plank_14 : decode cX8_plank 14 = .ok (.invokevirtual 110, 3) := by decide +kernel
theorem dX8_plank_17 : decode cX8_plank 17 = .ok (.aload_n 0, 1) := by decide +kernel
theorem dX8_plank_18 : decode cX8_plank 18 = .ok (.getfield 18, 3) := by decide +kernel
theorem dX8_plank_21 : decode cX8_plank 21 = .ok (.iload_n 1, 1) := by decide +kernel
theorem dX8_plank_22 : decode cX8_plank 22 = .ok (.invokevirtual 113, 3) := by decide +kernel
theorem dX8_plank_25 : decode cX8_plank 25 = .ok (.ifCond .ne 5, 3) := by decide +kernel
theorem dX8_plank_28 : decode cX8_plank 28 = .ok (.iconst (-1), 1) := by decide +kernel
theorem dX8_plank_29 : decode cX8_plank 29 = .ok (.ireturn, 1) := by decide +kernel
theorem dX8_plank_30 : decode cX8_plank 30 = .ok (.aload_n 0, 1) := by decide +kernel
theorem dX8_plank_31 : decode cX8_plank 31 = .ok (.getfield 18, 3) := by decide +kernel
theorem dX8_plank_34 : decode cX8_plank 34 = .ok (.iload_n 1, 1) := by decide +kernel
theorem dX8_plank_35 : decode cX8_plank 35 = .ok (.invokevirtual 117, 3) := by decide +kernel
theorem dX8_plank_38 : decode cX8_plank 38 = .ok (.ifCond .eq 7, 3) := by decide +kernel
theorem dX8_plank_41 : decode cX8_plank 41 = .ok (.iconst 1, 1) := by decide +kernel
theorem dX8_plank_42 : decode cX8_plank 42 = .ok (.goto 4, 3) := by decide +kernel
theorem dX8_plank_45 : decode cX8_plank 45 = .ok (.iconst 0, 1) := by decide +kernel
theorem dX8_plank_46 : decode cX8_plank 46 = .ok (.ireturn, 1) := by decide +kernel
theorem dX8_crosser_0 : decode cX8_crosser 0 = .ok (.aload_n 0, 1) := by decide +kernel
theorem dX8_crosser_1 : decode cX8_crosser 1 = .ok (.invokevirtual 110, 3) := by decide +kernel
theorem dX8_crosser_4 : decode cX8_crosser 4 = .ok (.aload_n 0, 1) := by decide +kernel
theorem dX8_crosser_5 : decode cX8_crosser 5 = .ok (.getfield 25, 3) := by decide +kernel
theorem dX8_crosser_8 : decode cX8_crosser 8 = .ok (.iload_n 1, 1) := by decide +kernel
theorem dX8_crosser_9 : decode cX8_crosser 9 = .ok (.invokevirtual 120, 3) := by decide +kernel
theorem dX8_crosser_12 : decode cX8_crosser 12 = .ok (.astore_n 3, 1) := by decide +kernel
theorem dX8_crosser_13 : decode cX8_crosser 13 = .ok (.aload_n 3, 1) := by decide +kernel
theorem dX8_crosser_14 : decode cX8_crosser 14 = .ok (.ifnonnull 6, 3) := by decide +kernel
theorem dX8_crosser_17 : decode cX8_crosser 17 = .ok (.bipush (-2), 2) := by decide +kernel
theorem dX8_crosser_19 : decode cX8_crosser 19 = .ok (.ireturn, 1) := by decide +kernel
theorem dX8_crosser_20 : decode cX8_crosser 20 = .ok (.iload_n 2, 1) := by decide +kernel
theorem dX8_crosser_21 : decode cX8_crosser 21 = .ok (.tableswitch 51 0 3 #[31, 36, 41, 46], 31) := by decide +kernel
theorem dX8_crosser_52 : decode cX8_crosser 52 = .ok (.aload_n 3, 1) := by decide +kernel
theorem dX8_crosser_53 : decode cX8_crosser 53 = .ok (.getfield 124, 3) := by decide +kernel
theorem dX8_crosser_56 : decode cX8_crosser 56 = .ok (.ireturn, 1) := by decide +kernel
theorem dX8_crosser_57 : decode cX8_crosser 57 = .ok (.aload_n 3, 1) := by decide +kernel
theorem dX8_crosser_58 : decode cX8_crosser 58 = .ok (.getfield 129, 3) := by decide +kernel
theorem dX8_crosser_61 : decode cX8_crosser 61 = .ok (.ireturn, 1) := by decide +kernel
theorem dX8_crosser_62 : decode cX8_crosser 62 = .ok (.aload_n 3, 1) := by decide +kernel
theorem dX8_crosser_63 : decode cX8_crosser 63 = .ok (.getfield 132, 3) := by decide +kernel
theorem dX8_crosser_66 : decode cX8_crosser 66 = .ok (.ireturn, 1) := by decide +kernel
theorem dX8_crosser_67 : decode cX8_crosser 67 = .ok (.aload_n 3, 1) := by decide +kernel
theorem dX8_crosser_68 : decode cX8_crosser 68 = .ok (.getfield 135, 3) := by decide +kernel
theorem dX8_crosser_71 : decode cX8_crosser 71 = .ok (.ireturn, 1) := by decide +kernel
theorem dX8_crosser_72 : decode cX8_crosser 72 = .ok (.bipush (-2), 2) := by decide +kernel
theorem dX8_crosser_74 : decode cX8_crosser 74 = .ok (.ireturn, 1) := by decide +kernel
theorem dX8_crossing_0 : decode cX8_crossing 0 = .ok (.iload_n 1, 1) := by decide +kernel
theorem dX8_crossing_1 : decode cX8_crossing 1 = .ok (.iconst 0, 1) := by decide +kernel
theorem dX8_crossing_2 : decode cX8_crossing 2 = .ok (.bipush 23, 2) := by decide +kernel
theorem dX8_crossing_4 : decode cX8_crossing 4 = .ok (.invokestatic 91, 3) := by decide +kernel
theorem dX8_crossing_7 : decode cX8_crossing 7 = .ok (.ifCond .ne 6, 3) := by decide +kernel
theorem dX8_crossing_10 : decode cX8_crossing 10 = .ok (.bipush (-2), 2) := by decide +kernel
theorem dX8_crossing_12 : decode cX8_crossing 12 = .ok (.ireturn, 1) := by decide +kernel
theorem dX8_crossing_13 : decode cX8_crossing 13 = .ok (.aload_n 0, 1) := by decide +kernel
theorem dX8_crossing_14 : decode cX8_crossing 14 = .ok (.invokevirtual 110, 3) := by decide +kernel
theorem dX8_crossing_17 : decode cX8_crossing 17 = .ok (.aload_n 0, 1) := by decide +kernel
theorem dX8_crossing_18 : decode cX8_crossing 18 = .ok (.getfield 32, 3) := by decide +kernel
theorem dX8_crossing_21 : decode cX8_crossing 21 = .ok (.iload_n 1, 1) := by decide +kernel
theorem dX8_crossing_22 : decode cX8_crossing 22 = .ok (.invokevirtual 138, 3) := by decide +kernel
theorem dX8_crossing_25 : decode cX8_crossing 25 = .ok (.ireturn, 1) := by decide +kernel
theorem dX8_set_0 : decode cX8_set 0 = .ok (.iload_n 1, 1) := by decide +kernel
theorem dX8_set_1 : decode cX8_set 1 = .ok (.ifCond .ne 36, 3) := by decide +kernel
theorem dX8_set_4 : decode cX8_set 4 = .ok (.iload_n 2, 1) := by decide +kernel
theorem dX8_set_5 : decode cX8_set 5 = .ok (.iconst 0, 1) := by decide +kernel
theorem dX8_set_6 : decode cX8_set 6 = .ok (.bipush 9, 2) := by decide +kernel
theorem dX8_set_8 : decode cX8_set 8 = .ok (.invokestatic 91, 3) := by decide +kernel
theorem dX8_set_11 : decode cX8_set 11 = .ok (.ifCond .eq 26, 3) := by decide +kernel
theorem dX8_set_14 : decode cX8_set 14 = .ok (.aload_n 0, 1) := by decide +kernel
theorem dX8_set_15 : decode cX8_set 15 = .ok (.getfield 18, 3) := by decide +kernel
theorem dX8_set_18 : decode cX8_set 18 = .ok (.getfield 142, 3) := by decide +kernel
theorem dX8_set_21 : decode cX8_set 21 = .ok (.istore_n 3, 1) := by decide +kernel
theorem dX8_set_22 : decode cX8_set 22 = .ok (.aload_n 0, 1) := by decide +kernel
theorem dX8_set_23 : decode cX8_set 23 = .ok (.getfield 18, 3) := by decide +kernel
theorem dX8_set_26 : decode cX8_set 26 = .ok (.iload_n 2, 1) := by decide +kernel
theorem dX8_set_27 : decode cX8_set 27 = .ok (.putfield 142, 3) := by decide +kernel
theorem dX8_set_30 : decode cX8_set 30 = .ok (.aload_n 0, 1) := by decide +kernel
theorem dX8_set_31 : decode cX8_set 31 = .ok (.iconst 1, 1) := by decide +kernel
theorem dX8_set_32 : decode cX8_set 32 = .ok (.putfield 76, 3) := by decide +kernel
theorem dX8_set_35 : decode cX8_set 35 = .ok (.iload_n 3, 1) := by decide +kernel
theorem dX8_set_36 : decode cX8_set 36 = .ok (.ireturn, 1) := by decide +kernel
theorem dX8_set_37 : decode cX8_set 37 = .ok (.iload_n 1, 1) := by decide +kernel
theorem dX8_set_38 : decode cX8_set 38 = .ok (.iconst 1, 1) := by decide +kernel
theorem dX8_set_39 : decode cX8_set 39 = .ok (.if_icmp .ne 36, 3) := by decide +kernel
theorem dX8_set_42 : decode cX8_set 42 = .ok (.iload_n 2, 1) := by decide +kernel
theorem dX8_set_43 : decode cX8_set 43 = .ok (.iconst 0, 1) := by decide +kernel
theorem dX8_set_44 : decode cX8_set 44 = .ok (.bipush 18, 2) := by decide +kernel
theorem dX8_set_46 : decode cX8_set 46 = .ok (.invokestatic 91, 3) := by decide +kernel
theorem dX8_set_49 : decode cX8_set 49 = .ok (.ifCond .eq 26, 3) := by decide +kernel
theorem dX8_set_52 : decode cX8_set 52 = .ok (.aload_n 0, 1) := by decide +kernel
theorem dX8_set_53 : decode cX8_set 53 = .ok (.getfield 18, 3) := by decide +kernel
theorem dX8_set_56 : decode cX8_set 56 = .ok (.getfield 145, 3) := by decide +kernel
theorem dX8_set_59 : decode cX8_set 59 = .ok (.istore_n 3, 1) := by decide +kernel
theorem dX8_set_60 : decode cX8_set 60 = .ok (.aload_n 0, 1) := by decide +kernel
theorem dX8_set_61 : decode cX8_set 61 = .ok (.getfield 18, 3) := by decide +kernel
theorem dX8_set_64 : decode cX8_set 64 = .ok (.iload_n 2, 1) := by decide +kernel
theorem dX8_set_65 : decode cX8_set 65 = .ok (.putfield 145, 3) := by decide +kernel
theorem dX8_set_68 : decode cX8_set 68 = .ok (.aload_n 0, 1) := by decide +kernel
theorem dX8_set_69 : decode cX8_set 69 = .ok (.iconst 1, 1) := by decide +kernel
theorem dX8_set_70 : decode cX8_set 70 = .ok (.putfield 76, 3) := by decide +kernel
theorem dX8_set_73 : decode cX8_set 73 = .ok (.iload_n 3, 1) := by decide +kernel
theorem dX8_set_74 : decode cX8_set 74 = .ok (.ireturn, 1) := by decide +kernel
theorem dX8_set_75 : decode cX8_set 75 = .ok (.bipush (-2), 2) := by decide +kernel
theorem dX8_set_77 : decode cX8_set 77 = .ok (.ireturn, 1) := by decide +kernel
theorem dX8_shift_0 : decode cX8_shift 0 = .ok (.iload_n 1, 1) := by decide +kernel
theorem dX8_shift_1 : decode cX8_shift 1 = .ok (.iconst 0, 1) := by decide +kernel
theorem dX8_shift_2 : decode cX8_shift 2 = .ok (.iconst 3, 1) := by decide +kernel
theorem dX8_shift_3 : decode cX8_shift 3 = .ok (.invokestatic 91, 3) := by decide +kernel
theorem dX8_shift_6 : decode cX8_shift 6 = .ok (.ifCond .eq 14, 3) := by decide +kernel
theorem dX8_shift_9 : decode cX8_shift 9 = .ok (.iload_n 2, 1) := by decide +kernel
theorem dX8_shift_10 : decode cX8_shift 10 = .ok (.bipush (-9), 2) := by decide +kernel
theorem dX8_shift_12 : decode cX8_shift 12 = .ok (.bipush 9, 2) := by decide +kernel
theorem dX8_shift_14 : decode cX8_shift 14 = .ok (.invokestatic 91, 3) := by decide +kernel
theorem dX8_shift_17 : decode cX8_shift 17 = .ok (.ifCond .ne 7, 3) := by decide +kernel
theorem dX8_shift_20 : decode cX8_shift 20 = .ok (.sipush (-10002), 3) := by decide +kernel
theorem dX8_shift_23 : decode cX8_shift 23 = .ok (.ireturn, 1) := by decide +kernel
theorem dX8_shift_24 : decode cX8_shift 24 = .ok (.aload_n 0, 1) := by decide +kernel
theorem dX8_shift_25 : decode cX8_shift 25 = .ok (.getfield 18, 3) := by decide +kernel
theorem dX8_shift_28 : decode cX8_shift 28 = .ok (.getfield 148, 3) := by decide +kernel
theorem dX8_shift_31 : decode cX8_shift 31 = .ok (.iload_n 1, 1) := by decide +kernel
theorem dX8_shift_32 : decode cX8_shift 32 = .ok (.iaload, 1) := by decide +kernel
theorem dX8_shift_33 : decode cX8_shift 33 = .ok (.istore_n 3, 1) := by decide +kernel
theorem dX8_shift_34 : decode cX8_shift 34 = .ok (.aload_n 0, 1) := by decide +kernel
theorem dX8_shift_35 : decode cX8_shift 35 = .ok (.getfield 18, 3) := by decide +kernel
theorem dX8_shift_38 : decode cX8_shift 38 = .ok (.getfield 148, 3) := by decide +kernel
theorem dX8_shift_41 : decode cX8_shift 41 = .ok (.iload_n 1, 1) := by decide +kernel
theorem dX8_shift_42 : decode cX8_shift 42 = .ok (.iload_n 2, 1) := by decide +kernel
theorem dX8_shift_43 : decode cX8_shift 43 = .ok (.iastore, 1) := by decide +kernel
theorem dX8_shift_44 : decode cX8_shift 44 = .ok (.aload_n 0, 1) := by decide +kernel
theorem dX8_shift_45 : decode cX8_shift 45 = .ok (.iconst 1, 1) := by decide +kernel
theorem dX8_shift_46 : decode cX8_shift 46 = .ok (.putfield 76, 3) := by decide +kernel
theorem dX8_shift_49 : decode cX8_shift 49 = .ok (.iload_n 3, 1) := by decide +kernel
theorem dX8_shift_50 : decode cX8_shift 50 = .ok (.ireturn, 1) := by decide +kernel
theorem dX8_gap_0 : decode cX8_gap 0 = .ok (.aload_n 0, 1) := by decide +kernel
theorem dX8_gap_1 : decode cX8_gap 1 = .ok (.invokevirtual 110, 3) := by decide +kernel
theorem dX8_gap_4 : decode cX8_gap 4 = .ok (.aload_n 0, 1) := by decide +kernel
theorem dX8_gap_5 : decode cX8_gap 5 = .ok (.iload_n 1, 1) := by decide +kernel
theorem dX8_gap_6 : decode cX8_gap 6 = .ok (.invokevirtual 151, 3) := by decide +kernel
theorem dX8_gap_9 : decode cX8_gap 9 = .ok (.ifCond .eq 12, 3) := by decide +kernel
theorem dX8_gap_12 : decode cX8_gap 12 = .ok (.aload_n 0, 1) := by decide +kernel
theorem dX8_gap_13 : decode cX8_gap 13 = .ok (.getfield 36, 3) := by decide +kernel
theorem dX8_gap_16 : decode cX8_gap 16 = .ok (.iload_n 1, 1) := by decide +kernel
theorem dX8_gap_17 : decode cX8_gap 17 = .ok (.iaload, 1) := by decide +kernel
theorem dX8_gap_18 : decode cX8_gap 18 = .ok (.goto 5, 3) := by decide +kernel
theorem dX8_gap_21 : decode cX8_gap 21 = .ok (.bipush (-2), 2) := by decide +kernel
theorem dX8_gap_23 : decode cX8_gap 23 = .ok (.ireturn, 1) := by decide +kernel
theorem dX8_comes_0 : decode cX8_comes 0 = .ok (.aload_n 0, 1) := by decide +kernel
theorem dX8_comes_1 : decode cX8_comes 1 = .ok (.invokevirtual 110, 3) := by decide +kernel
theorem dX8_comes_4 : decode cX8_comes 4 = .ok (.iload_n 1, 1) := by decide +kernel
theorem dX8_comes_5 : decode cX8_comes 5 = .ok (.iconst 0, 1) := by decide +kernel
theorem dX8_comes_6 : decode cX8_comes 6 = .ok (.aload_n 0, 1) := by decide +kernel
theorem dX8_comes_7 : decode cX8_comes 7 = .ok (.getfield 32, 3) := by decide +kernel
theorem dX8_comes_10 : decode cX8_comes 10 = .ok (.getfield 154, 3) := by decide +kernel
theorem dX8_comes_13 : decode cX8_comes 13 = .ok (.iconst 1, 1) := by decide +kernel
theorem dX8_comes_14 : decode cX8_comes 14 = .ok (.isub, 1) := by decide +kernel
theorem dX8_comes_15 : decode cX8_comes 15 = .ok (.invokestatic 91, 3) := by decide +kernel
theorem dX8_comes_18 : decode cX8_comes 18 = .ok (.ifCond .ne 6, 3) := by decide +kernel
theorem dX8_comes_21 : decode cX8_comes 21 = .ok (.bipush (-2), 2) := by decide +kernel
theorem dX8_comes_23 : decode cX8_comes 23 = .ok (.ireturn, 1) := by decide +kernel
theorem dX8_comes_24 : decode cX8_comes 24 = .ok (.aload_n 0, 1) := by decide +kernel
theorem dX8_comes_25 : decode cX8_comes 25 = .ok (.getfield 25, 3) := by decide +kernel
theorem dX8_comes_28 : decode cX8_comes 28 = .ok (.aload_n 0, 1) := by decide +kernel
theorem dX8_comes_29 : decode cX8_comes 29 = .ok (.getfield 32, 3) := by decide +kernel
theorem dX8_comes_32 : decode cX8_comes 32 = .ok (.iload_n 1, 1) := by decide +kernel
theorem dX8_comes_33 : decode cX8_comes 33 = .ok (.invokevirtual 138, 3) := by decide +kernel
theorem dX8_comes_36 : decode cX8_comes 36 = .ok (.invokevirtual 120, 3) := by decide +kernel
theorem dX8_comes_39 : decode cX8_comes 39 = .ok (.astore_n 3, 1) := by decide +kernel
theorem dX8_comes_40 : decode cX8_comes 40 = .ok (.aload_n 0, 1) := by decide +kernel
theorem dX8_comes_41 : decode cX8_comes 41 = .ok (.getfield 36, 3) := by decide +kernel
theorem dX8_comes_44 : decode cX8_comes 44 = .ok (.iload_n 1, 1) := by decide +kernel
theorem dX8_comes_45 : decode cX8_comes 45 = .ok (.iaload, 1) := by decide +kernel
theorem dX8_comes_46 : decode cX8_comes 46 = .ok (.istore 4, 2) := by decide +kernel
theorem dX8_comes_48 : decode cX8_comes 48 = .ok (.iload_n 2, 1) := by decide +kernel
theorem dX8_comes_49 : decode cX8_comes 49 = .ok (.tableswitch 60 0 2 #[27, 38, 49], 27) := by decide +kernel
theorem dX8_comes_76 : decode cX8_comes 76 = .ok (.aload_n 0, 1) := by decide +kernel
theorem dX8_comes_77 : decode cX8_comes 77 = .ok (.getfield 18, 3) := by decide +kernel
theorem dX8_comes_80 : decode cX8_comes 80 = .ok (.aload_n 3, 1) := by decide +kernel
theorem dX8_comes_81 : decode cX8_comes 81 = .ok (.iload 4, 2) := by decide +kernel
theorem dX8_comes_83 : decode cX8_comes 83 = .ok (.invokevirtual 157, 3) := by decide +kernel
theorem dX8_comes_86 : decode cX8_comes 86 = .ok (.ireturn, 1) := by decide +kernel
theorem dX8_comes_87 : decode cX8_comes 87 = .ok (.aload_n 0, 1) := by decide +kernel
theorem dX8_comes_88 : decode cX8_comes 88 = .ok (.getfield 18, 3) := by decide +kernel
theorem dX8_comes_91 : decode cX8_comes 91 = .ok (.aload_n 3, 1) := by decide +kernel
theorem dX8_comes_92 : decode cX8_comes 92 = .ok (.iload 4, 2) := by decide +kernel
theorem dX8_comes_94 : decode cX8_comes 94 = .ok (.invokevirtual 161, 3) := by decide +kernel
theorem dX8_comes_97 : decode cX8_comes 97 = .ok (.ireturn, 1) := by decide +kernel
theorem dX8_comes_98 : decode cX8_comes 98 = .ok (.aload_n 0, 1) := by decide +kernel
theorem dX8_comes_99 : decode cX8_comes 99 = .ok (.getfield 18, 3) := by decide +kernel
theorem dX8_comes_102 : decode cX8_comes 102 = .ok (.aload_n 3, 1) := by decide +kernel
theorem dX8_comes_103 : decode cX8_comes 103 = .ok (.iload 4, 2) := by decide +kernel
theorem dX8_comes_105 : decode cX8_comes 105 = .ok (.invokevirtual 164, 3) := by decide +kernel
theorem dX8_comes_108 : decode cX8_comes 108 = .ok (.ireturn, 1) := by decide +kernel
theorem dX8_comes_109 : decode cX8_comes 109 = .ok (.bipush (-2), 2) := by decide +kernel
theorem dX8_comes_111 : decode cX8_comes 111 = .ok (.ireturn, 1) := by decide +kernel
theorem dX8_times_0 : decode cX8_times 0 = .ok (.aload_n 0, 1) := by decide +kernel
theorem dX8_times_1 : decode cX8_times 1 = .ok (.invokevirtual 110, 3) := by decide +kernel
theorem dX8_times_4 : decode cX8_times 4 = .ok (.aload_n 0, 1) := by decide +kernel
theorem dX8_times_5 : decode cX8_times 5 = .ok (.getfield 25, 3) := by decide +kernel
theorem dX8_times_8 : decode cX8_times 8 = .ok (.iload_n 1, 1) := by decide +kernel
theorem dX8_times_9 : decode cX8_times 9 = .ok (.invokevirtual 120, 3) := by decide +kernel
theorem dX8_times_12 : decode cX8_times 12 = .ok (.ifnull 12, 3) := by decide +kernel
theorem dX8_times_15 : decode cX8_times 15 = .ok (.iload_n 2, 1) := by decide +kernel
theorem dX8_times_16 : decode cX8_times 16 = .ok (.iconst 0, 1) := by decide +kernel
theorem dX8_times_17 : decode cX8_times 17 = .ok (.iconst 1, 1) := by decide +kernel
theorem dX8_times_18 : decode cX8_times 18 = .ok (.invokestatic 91, 3) := by decide +kernel
theorem dX8_times_21 : decode cX8_times 21 = .ok (.ifCond .ne 6, 3) := by decide +kernel
theorem dX8_times_24 : decode cX8_times 24 = .ok (.bipush (-2), 2) := by decide +kernel
theorem dX8_times_26 : decode cX8_times 26 = .ok (.ireturn, 1) := by decide +kernel
theorem dX8_times_27 : decode cX8_times 27 = .ok (.iload_n 2, 1) := by decide +kernel
theorem dX8_times_28 : decode cX8_times 28 = .ok (.ifCond .ne 7, 3) := by decide +kernel
theorem dX8_times_31 : decode cX8_times 31 = .ok (.iconst 1, 1) := by decide +kernel
theorem dX8_times_32 : decode cX8_times 32 = .ok (.goto 4, 3) := by decide +kernel
theorem dX8_times_35 : decode cX8_times 35 = .ok (.iconst 2, 1) := by decide +kernel
theorem dX8_times_36 : decode cX8_times 36 = .ok (.istore_n 3, 1) := by decide +kernel
theorem dX8_times_37 : decode cX8_times 37 = .ok (.iconst 0, 1) := by decide +kernel
theorem dX8_times_38 : decode cX8_times 38 = .ok (.istore 4, 2) := by decide +kernel
theorem dX8_times_40 : decode cX8_times 40 = .ok (.iconst 0, 1) := by decide +kernel
theorem dX8_times_41 : decode cX8_times 41 = .ok (.istore 5, 2) := by decide +kernel
theorem dX8_times_43 : decode cX8_times 43 = .ok (.iload 5, 2) := by decide +kernel
theorem dX8_times_45 : decode cX8_times 45 = .ok (.aload_n 0, 1) := by decide +kernel
theorem dX8_times_46 : decode cX8_times 46 = .ok (.getfield 32, 3) := by decide +kernel
theorem dX8_times_49 : decode cX8_times 49 = .ok (.getfield 154, 3) := by decide +kernel
theorem dX8_times_52 : decode cX8_times 52 = .ok (.if_icmp .ge 35, 3) := by decide +kernel
theorem dX8_times_55 : decode cX8_times 55 = .ok (.aload_n 0, 1) := by decide +kernel
theorem dX8_times_56 : decode cX8_times 56 = .ok (.getfield 32, 3) := by decide +kernel
theorem dX8_times_59 : decode cX8_times 59 = .ok (.iload 5, 2) := by decide +kernel
theorem dX8_times_61 : decode cX8_times 61 = .ok (.invokevirtual 138, 3) := by decide +kernel
theorem dX8_times_64 : decode cX8_times 64 = .ok (.iload_n 1, 1) := by decide +kernel
theorem dX8_times_65 : decode cX8_times 65 = .ok (.if_icmp .ne 16, 3) := by decide +kernel
theorem dX8_times_68 : decode cX8_times 68 = .ok (.aload_n 0, 1) := by decide +kernel
theorem dX8_times_69 : decode cX8_times 69 = .ok (.iload 5, 2) := by decide +kernel
theorem dX8_times_71 : decode cX8_times 71 = .ok (.invokevirtual 167, 3) := by decide +kernel
theorem dX8_times_74 : decode cX8_times 74 = .ok (.iload_n 3, 1) := by decide +kernel
theorem dX8_times_75 : decode cX8_times 75 = .ok (.if_icmp .ne 6, 3) := by decide +kernel
theorem dX8_times_78 : decode cX8_times 78 = .ok (.iinc 4 1, 3) := by decide +kernel
theorem dX8_times_81 : decode cX8_times 81 = .ok (.iinc 5 1, 3) := by decide +kernel
theorem dX8_times_84 : decode cX8_times 84 = .ok (.goto (-41), 3) := by decide +kernel
theorem dX8_times_87 : decode cX8_times 87 = .ok (.iload 4, 2) := by decide +kernel
theorem dX8_times_89 : decode cX8_times 89 = .ok (.ireturn, 1) := by decide +kernel
theorem dX8_taken_0 : decode cX8_taken 0 = .ok (.aload_n 0, 1) := by decide +kernel
theorem dX8_taken_1 : decode cX8_taken 1 = .ok (.invokevirtual 110, 3) := by decide +kernel
theorem dX8_taken_4 : decode cX8_taken 4 = .ok (.aload_n 0, 1) := by decide +kernel
theorem dX8_taken_5 : decode cX8_taken 5 = .ok (.iload_n 1, 1) := by decide +kernel
theorem dX8_taken_6 : decode cX8_taken 6 = .ok (.invokevirtual 151, 3) := by decide +kernel
theorem dX8_taken_9 : decode cX8_taken 9 = .ok (.ifCond .eq 11, 3) := by decide +kernel
theorem dX8_taken_12 : decode cX8_taken 12 = .ok (.aload_n 0, 1) := by decide +kernel
theorem dX8_taken_13 : decode cX8_taken 13 = .ok (.iload_n 1, 1) := by decide +kernel
theorem dX8_taken_14 : decode cX8_taken 14 = .ok (.invokevirtual 170, 3) := by decide +kernel
theorem dX8_taken_17 : decode cX8_taken 17 = .ok (.goto 5, 3) := by decide +kernel
theorem dX8_taken_20 : decode cX8_taken 20 = .ok (.bipush (-2), 2) := by decide +kernel
theorem dX8_taken_22 : decode cX8_taken 22 = .ok (.ireturn, 1) := by decide +kernel
theorem dX8_stuck_0 : decode cX8_stuck 0 = .ok (.aload_n 0, 1) := by decide +kernel
theorem dX8_stuck_1 : decode cX8_stuck 1 = .ok (.invokevirtual 110, 3) := by decide +kernel
theorem dX8_stuck_4 : decode cX8_stuck 4 = .ok (.iconst 0, 1) := by decide +kernel
theorem dX8_stuck_5 : decode cX8_stuck 5 = .ok (.istore_n 1, 1) := by decide +kernel
theorem dX8_stuck_6 : decode cX8_stuck 6 = .ok (.iload_n 1, 1) := by decide +kernel
theorem dX8_stuck_7 : decode cX8_stuck 7 = .ok (.aload_n 0, 1) := by decide +kernel
theorem dX8_stuck_8 : decode cX8_stuck 8 = .ok (.getfield 32, 3) := by decide +kernel
theorem dX8_stuck_11 : decode cX8_stuck 11 = .ok (.getfield 154, 3) := by decide +kernel
theorem dX8_stuck_14 : decode cX8_stuck 14 = .ok (.if_icmp .ge 20, 3) := by decide +kernel
theorem dX8_stuck_17 : decode cX8_stuck 17 = .ok (.aload_n 0, 1) := by decide +kernel
theorem dX8_stuck_18 : decode cX8_stuck 18 = .ok (.iload_n 1, 1) := by decide +kernel
theorem dX8_stuck_19 : decode cX8_stuck 19 = .ok (.invokevirtual 167, 3) := by decide +kernel
theorem dX8_stuck_22 : decode cX8_stuck 22 = .ok (.iconst 2, 1) := by decide +kernel
theorem dX8_stuck_23 : decode cX8_stuck 23 = .ok (.if_icmp .ne 5, 3) := by decide +kernel
theorem dX8_stuck_26 : decode cX8_stuck 26 = .ok (.iload_n 1, 1) := by decide +kernel
theorem dX8_stuck_27 : decode cX8_stuck 27 = .ok (.ireturn, 1) := by decide +kernel
theorem dX8_stuck_28 : decode cX8_stuck 28 = .ok (.iinc 1 1, 3) := by decide +kernel
theorem dX8_stuck_31 : decode cX8_stuck 31 = .ok (.goto (-25), 3) := by decide +kernel
theorem dX8_stuck_34 : decode cX8_stuck 34 = .ok (.iconst (-1), 1) := by decide +kernel
theorem dX8_stuck_35 : decode cX8_stuck 35 = .ok (.ireturn, 1) := by decide +kernel
theorem dX8_worn_0 : decode cX8_worn 0 = .ok (.aload_n 0, 1) := by decide +kernel
theorem dX8_worn_1 : decode cX8_worn 1 = .ok (.invokevirtual 110, 3) := by decide +kernel
theorem dX8_worn_4 : decode cX8_worn 4 = .ok (.aload_n 0, 1) := by decide +kernel
theorem dX8_worn_5 : decode cX8_worn 5 = .ok (.invokevirtual 173, 3) := by decide +kernel
theorem dX8_worn_8 : decode cX8_worn 8 = .ok (.iconst (-1), 1) := by decide +kernel
theorem dX8_worn_9 : decode cX8_worn 9 = .ok (.istore_n 1, 1) := by decide +kernel
theorem dX8_worn_10 : decode cX8_worn 10 = .ok (.iconst 0, 1) := by decide +kernel
theorem dX8_worn_11 : decode cX8_worn 11 = .ok (.istore_n 2, 1) := by decide +kernel
theorem dX8_worn_12 : decode cX8_worn 12 = .ok (.iconst 0, 1) := by decide +kernel
theorem dX8_worn_13 : decode cX8_worn 13 = .ok (.istore_n 3, 1) := by decide +kernel
theorem dX8_worn_14 : decode cX8_worn 14 = .ok (.iload_n 3, 1) := by decide +kernel
theorem dX8_worn_15 : decode cX8_worn 15 = .ok (.aload_n 0, 1) := by decide +kernel
theorem dX8_worn_16 : decode cX8_worn 16 = .ok (.getfield 18, 3) := by decide +kernel
theorem dX8_worn_19 : decode cX8_worn 19 = .ok (.getfield 176, 3) := by decide +kernel
theorem dX8_worn_22 : decode cX8_worn 22 = .ok (.if_icmp .ge 28, 3) := by decide +kernel
theorem dX8_worn_25 : decode cX8_worn 25 = .ok (.aload_n 0, 1) := by decide +kernel
theorem dX8_worn_26 : decode cX8_worn 26 = .ok (.getfield 46, 3) := by decide +kernel
theorem dX8_worn_29 : decode cX8_worn 29 = .ok (.iload_n 3, 1) := by decide +kernel
theorem dX8_worn_30 : decode cX8_worn 30 = .ok (.iaload, 1) := by decide +kernel
theorem dX8_worn_31 : decode cX8_worn 31 = .ok (.iload_n 2, 1) := by decide +kernel
theorem dX8_worn_32 : decode cX8_worn 32 = .ok (.if_icmp .le 12, 3) := by decide +kernel
theorem dX8_worn_35 : decode cX8_worn 35 = .ok (.aload_n 0, 1) := by decide +kernel
theorem dX8_worn_36 : decode cX8_worn 36 = .ok (.getfield 46, 3) := by decide +kernel
theorem dX8_worn_39 : decode cX8_worn 39 = .ok (.iload_n 3, 1) := by decide +kernel
theorem dX8_worn_40 : decode cX8_worn 40 = .ok (.iaload, 1) := by decide +kernel
theorem dX8_worn_41 : decode cX8_worn 41 = .ok (.istore_n 2, 1) := by decide +kernel
theorem dX8_worn_42 : decode cX8_worn 42 = .ok (.iload_n 3, 1) := by decide +kernel
theorem dX8_worn_43 : decode cX8_worn 43 = .ok (.istore_n 1, 1) := by decide +kernel
theorem dX8_worn_44 : decode cX8_worn 44 = .ok (.iinc 3 1, 3) := by decide +kernel
theorem dX8_worn_47 : decode cX8_worn 47 = .ok (.goto (-33), 3) := by decide +kernel
theorem dX8_worn_50 : decode cX8_worn 50 = .ok (.iload_n 1, 1) := by decide +kernel
theorem dX8_worn_51 : decode cX8_worn 51 = .ok (.ireturn, 1) := by decide +kernel
theorem dX8_order_0 : decode cX8_order 0 = .ok (.iload_n 1, 1) := by decide +kernel
theorem dX8_order_1 : decode cX8_order 1 = .ok (.iconst 0, 1) := by decide +kernel
theorem dX8_order_2 : decode cX8_order 2 = .ok (.bipush 9, 2) := by decide +kernel
theorem dX8_order_4 : decode cX8_order 4 = .ok (.invokestatic 91, 3) := by decide +kernel
theorem dX8_order_7 : decode cX8_order 7 = .ok (.ifCond .ne 6, 3) := by decide +kernel
theorem dX8_order_10 : decode cX8_order 10 = .ok (.bipush (-2), 2) := by decide +kernel
theorem dX8_order_12 : decode cX8_order 12 = .ok (.ireturn, 1) := by decide +kernel
theorem dX8_order_13 : decode cX8_order 13 = .ok (.aload_n 0, 1) := by decide +kernel
theorem dX8_order_14 : decode cX8_order 14 = .ok (.invokevirtual 179, 3) := by decide +kernel
theorem dX8_order_17 : decode cX8_order 17 = .ok (.iload_n 1, 1) := by decide +kernel
theorem dX8_order_18 : decode cX8_order 18 = .ok (.lookupswitch 42 #[(0, 26), (1, 34)], 26) := by decide +kernel
theorem dX8_order_44 : decode cX8_order 44 = .ok (.aload_n 0, 1) := by decide +kernel
theorem dX8_order_45 : decode cX8_order 45 = .ok (.getfield 52, 3) := by decide +kernel
theorem dX8_order_48 : decode cX8_order 48 = .ok (.getfield 182, 3) := by decide +kernel
theorem dX8_order_51 : decode cX8_order 51 = .ok (.ireturn, 1) := by decide +kernel
theorem dX8_order_52 : decode cX8_order 52 = .ok (.aload_n 0, 1) := by decide +kernel
theorem dX8_order_53 : decode cX8_order 53 = .ok (.getfield 52, 3) := by decide +kernel
theorem dX8_order_56 : decode cX8_order 56 = .ok (.getfield 185, 3) := by decide +kernel
theorem dX8_order_59 : decode cX8_order 59 = .ok (.ireturn, 1) := by decide +kernel
theorem dX8_order_60 : decode cX8_order 60 = .ok (.aload_n 0, 1) := by decide +kernel
theorem dX8_order_61 : decode cX8_order 61 = .ok (.getfield 52, 3) := by decide +kernel
theorem dX8_order_64 : decode cX8_order 64 = .ok (.iload_n 1, 1) := by decide +kernel
theorem dX8_order_65 : decode cX8_order 65 = .ok (.iconst 2, 1) := by decide +kernel
theorem dX8_order_66 : decode cX8_order 66 = .ok (.isub, 1) := by decide +kernel
theorem dX8_order_67 : decode cX8_order 67 = .ok (.invokevirtual 188, 3) := by decide +kernel
theorem dX8_order_70 : decode cX8_order 70 = .ok (.ireturn, 1) := by decide +kernel
theorem dX8_ahead_0 : decode cX8_ahead 0 = .ok (.aload_n 0, 1) := by decide +kernel
theorem dX8_ahead_1 : decode cX8_ahead 1 = .ok (.invokevirtual 110, 3) := by decide +kernel
theorem dX8_ahead_4 : decode cX8_ahead 4 = .ok (.aload_n 0, 1) := by decide +kernel
theorem dX8_ahead_5 : decode cX8_ahead 5 = .ok (.getfield 25, 3) := by decide +kernel
theorem dX8_ahead_8 : decode cX8_ahead 8 = .ok (.iload_n 1, 1) := by decide +kernel
theorem dX8_ahead_9 : decode cX8_ahead 9 = .ok (.invokevirtual 120, 3) := by decide +kernel
theorem dX8_ahead_12 : decode cX8_ahead 12 = .ok (.astore_n 2, 1) := by decide +kernel
theorem dX8_ahead_13 : decode cX8_ahead 13 = .ok (.aload_n 2, 1) := by decide +kernel
theorem dX8_ahead_14 : decode cX8_ahead 14 = .ok (.ifnonnull 6, 3) := by decide +kernel
theorem dX8_ahead_17 : decode cX8_ahead 17 = .ok (.bipush (-2), 2) := by decide +kernel
theorem dX8_ahead_19 : decode cX8_ahead 19 = .ok (.ireturn, 1) := by decide +kernel
theorem dX8_ahead_20 : decode cX8_ahead 20 = .ok (.aload_n 0, 1) := by decide +kernel
theorem dX8_ahead_21 : decode cX8_ahead 21 = .ok (.invokevirtual 189, 3) := by decide +kernel
theorem dX8_ahead_24 : decode cX8_ahead 24 = .ok (.istore_n 3, 1) := by decide +kernel
theorem dX8_ahead_25 : decode cX8_ahead 25 = .ok (.aload_n 0, 1) := by decide +kernel
theorem dX8_ahead_26 : decode cX8_ahead 26 = .ok (.getfield 18, 3) := by decide +kernel
theorem dX8_ahead_29 : decode cX8_ahead 29 = .ok (.aload_n 2, 1) := by decide +kernel
theorem dX8_ahead_30 : decode cX8_ahead 30 = .ok (.iload_n 3, 1) := by decide +kernel
theorem dX8_ahead_31 : decode cX8_ahead 31 = .ok (.invokevirtual 157, 3) := by decide +kernel
theorem dX8_ahead_34 : decode cX8_ahead 34 = .ok (.iconst 1, 1) := by decide +kernel
theorem dX8_ahead_35 : decode cX8_ahead 35 = .ok (.if_icmp .ne 6, 3) := by decide +kernel
theorem dX8_ahead_38 : decode cX8_ahead 38 = .ok (.bipush (-3), 2) := by decide +kernel
theorem dX8_ahead_40 : decode cX8_ahead 40 = .ok (.ireturn, 1) := by decide +kernel
theorem dX8_ahead_41 : decode cX8_ahead 41 = .ok (.iconst 0, 1) := by decide +kernel
theorem dX8_ahead_42 : decode cX8_ahead 42 = .ok (.istore 4, 2) := by decide +kernel
theorem dX8_ahead_44 : decode cX8_ahead 44 = .ok (.iload 4, 2) := by decide +kernel
theorem dX8_ahead_46 : decode cX8_ahead 46 = .ok (.aload_n 0, 1) := by decide +kernel
theorem dX8_ahead_47 : decode cX8_ahead 47 = .ok (.getfield 25, 3) := by decide +kernel
theorem dX8_ahead_50 : decode cX8_ahead 50 = .ok (.getfield 193, 3) := by decide +kernel
theorem dX8_ahead_53 : decode cX8_ahead 53 = .ok (.if_icmp .ge 58, 3) := by decide +kernel
theorem dX8_ahead_56 : decode cX8_ahead 56 = .ok (.aload_n 0, 1) := by decide +kernel
theorem dX8_ahead_57 : decode cX8_ahead 57 = .ok (.getfield 18, 3) := by decide +kernel
theorem dX8_ahead_60 : decode cX8_ahead 60 = .ok (.aload_n 0, 1) := by decide +kernel
theorem dX8_ahead_61 : decode cX8_ahead 61 = .ok (.getfield 25, 3) := by decide +kernel
theorem dX8_ahead_64 : decode cX8_ahead 64 = .ok (.iload 4, 2) := by decide +kernel
theorem dX8_ahead_66 : decode cX8_ahead 66 = .ok (.invokevirtual 120, 3) := by decide +kernel
theorem dX8_ahead_69 : decode cX8_ahead 69 = .ok (.iload_n 3, 1) := by decide +kernel
theorem dX8_ahead_70 : decode cX8_ahead 70 = .ok (.aload_n 0, 1) := by decide +kernel
theorem dX8_ahead_71 : decode cX8_ahead 71 = .ok (.getfield 18, 3) := by decide +kernel
theorem dX8_ahead_74 : decode cX8_ahead 74 = .ok (.getfield 148, 3) := by decide +kernel
theorem dX8_ahead_77 : decode cX8_ahead 77 = .ok (.invokevirtual 194, 3) := by decide +kernel
theorem dX8_ahead_80 : decode cX8_ahead 80 = .ok (.istore 5, 2) := by decide +kernel
theorem dX8_ahead_82 : decode cX8_ahead 82 = .ok (.iload 4, 2) := by decide +kernel
theorem dX8_ahead_84 : decode cX8_ahead 84 = .ok (.iload_n 1, 1) := by decide +kernel
theorem dX8_ahead_85 : decode cX8_ahead 85 = .ok (.if_icmp .eq 20, 3) := by decide +kernel
theorem dX8_ahead_88 : decode cX8_ahead 88 = .ok (.aload_n 0, 1) := by decide +kernel
theorem dX8_ahead_89 : decode cX8_ahead 89 = .ok (.getfield 18, 3) := by decide +kernel
theorem dX8_ahead_92 : decode cX8_ahead 92 = .ok (.aload_n 2, 1) := by decide +kernel
theorem dX8_ahead_93 : decode cX8_ahead 93 = .ok (.iload 5, 2) := by decide +kernel
theorem dX8_ahead_95 : decode cX8_ahead 95 = .ok (.invokevirtual 157, 3) := by decide +kernel
theorem dX8_ahead_98 : decode cX8_ahead 98 = .ok (.iconst 1, 1) := by decide +kernel
theorem dX8_ahead_99 : decode cX8_ahead 99 = .ok (.if_icmp .ne 6, 3) := by decide +kernel
theorem dX8_ahead_102 : decode cX8_ahead 102 = .ok (.iload 4, 2) := by decide +kernel
theorem dX8_ahead_104 : decode cX8_ahead 104 = .ok (.ireturn, 1) := by decide +kernel
theorem dX8_ahead_105 : decode cX8_ahead 105 = .ok (.iinc 4 1, 3) := by decide +kernel
theorem dX8_ahead_108 : decode cX8_ahead 108 = .ok (.goto (-64), 3) := by decide +kernel
theorem dX8_ahead_111 : decode cX8_ahead 111 = .ok (.iconst (-1), 1) := by decide +kernel
theorem dX8_ahead_112 : decode cX8_ahead 112 = .ok (.ireturn, 1) := by decide +kernel
theorem dX8_often_0 : decode cX8_often 0 = .ok (.aload_n 0, 1) := by decide +kernel
theorem dX8_often_1 : decode cX8_often 1 = .ok (.invokevirtual 110, 3) := by decide +kernel
theorem dX8_often_4 : decode cX8_often 4 = .ok (.aload_n 0, 1) := by decide +kernel
theorem dX8_often_5 : decode cX8_often 5 = .ok (.getfield 25, 3) := by decide +kernel
theorem dX8_often_8 : decode cX8_often 8 = .ok (.iload_n 1, 1) := by decide +kernel
theorem dX8_often_9 : decode cX8_often 9 = .ok (.invokevirtual 120, 3) := by decide +kernel
theorem dX8_often_12 : decode cX8_often 12 = .ok (.astore_n 3, 1) := by decide +kernel
theorem dX8_often_13 : decode cX8_often 13 = .ok (.aload_n 0, 1) := by decide +kernel
theorem dX8_often_14 : decode cX8_often 14 = .ok (.getfield 25, 3) := by decide +kernel
theorem dX8_often_17 : decode cX8_often 17 = .ok (.iload_n 2, 1) := by decide +kernel
theorem dX8_often_18 : decode cX8_often 18 = .ok (.invokevirtual 120, 3) := by decide +kernel
theorem dX8_often_21 : decode cX8_often 21 = .ok (.astore 4, 2) := by decide +kernel
theorem dX8_often_23 : decode cX8_often 23 = .ok (.aload_n 3, 1) := by decide +kernel
theorem dX8_often_24 : decode cX8_often 24 = .ok (.ifnull 13, 3) := by decide +kernel
theorem dX8_often_27 : decode cX8_often 27 = .ok (.aload 4, 2) := by decide +kernel
theorem dX8_often_29 : decode cX8_often 29 = .ok (.ifnull 8, 3) := by decide +kernel
theorem dX8_often_32 : decode cX8_often 32 = .ok (.iload_n 1, 1) := by decide +kernel
theorem dX8_often_33 : decode cX8_often 33 = .ok (.iload_n 2, 1) := by decide +kernel
theorem dX8_often_34 : decode cX8_often 34 = .ok (.if_icmp .ne 6, 3) := by decide +kernel
theorem dX8_often_37 : decode cX8_often 37 = .ok (.bipush (-2), 2) := by decide +kernel
theorem dX8_often_39 : decode cX8_often 39 = .ok (.ireturn, 1) := by decide +kernel
theorem dX8_often_40 : decode cX8_often 40 = .ok (.aload_n 0, 1) := by decide +kernel
theorem dX8_often_41 : decode cX8_often 41 = .ok (.invokevirtual 189, 3) := by decide +kernel
theorem dX8_often_44 : decode cX8_often 44 = .ok (.istore 5, 2) := by decide +kernel
theorem dX8_often_46 : decode cX8_often 46 = .ok (.iconst 0, 1) := by decide +kernel
theorem dX8_often_47 : decode cX8_often 47 = .ok (.istore 6, 2) := by decide +kernel
theorem dX8_often_49 : decode cX8_often 49 = .ok (.iload 6, 2) := by decide +kernel
theorem dX8_often_51 : decode cX8_often 51 = .ok (.bipush 9, 2) := by decide +kernel
theorem dX8_often_53 : decode cX8_often 53 = .ok (.if_icmp .gt 46, 3) := by decide +kernel
theorem dX8_often_56 : decode cX8_often 56 = .ok (.aload_n 0, 1) := by decide +kernel
theorem dX8_often_57 : decode cX8_often 57 = .ok (.getfield 18, 3) := by decide +kernel
theorem dX8_often_60 : decode cX8_often 60 = .ok (.aload_n 3, 1) := by decide +kernel
theorem dX8_often_61 : decode cX8_often 61 = .ok (.iload 5, 2) := by decide +kernel
theorem dX8_often_63 : decode cX8_often 63 = .ok (.invokevirtual 157, 3) := by decide +kernel
theorem dX8_often_66 : decode cX8_often 66 = .ok (.iconst 1, 1) := by decide +kernel
theorem dX8_often_67 : decode cX8_often 67 = .ok (.if_icmp .ne 6, 3) := by decide +kernel
theorem dX8_often_70 : decode cX8_often 70 = .ok (.iload 6, 2) := by decide +kernel
theorem dX8_often_72 : decode cX8_often 72 = .ok (.ireturn, 1) := by decide +kernel
theorem dX8_often_73 : decode cX8_often 73 = .ok (.aload_n 0, 1) := by decide +kernel
theorem dX8_often_74 : decode cX8_often 74 = .ok (.getfield 18, 3) := by decide +kernel
theorem dX8_often_77 : decode cX8_often 77 = .ok (.aload 4, 2) := by decide +kernel
theorem dX8_often_79 : decode cX8_often 79 = .ok (.iload 5, 2) := by decide +kernel
theorem dX8_often_81 : decode cX8_often 81 = .ok (.aload_n 0, 1) := by decide +kernel
theorem dX8_often_82 : decode cX8_often 82 = .ok (.getfield 18, 3) := by decide +kernel
theorem dX8_often_85 : decode cX8_often 85 = .ok (.getfield 148, 3) := by decide +kernel
theorem dX8_often_88 : decode cX8_often 88 = .ok (.invokevirtual 194, 3) := by decide +kernel
theorem dX8_often_91 : decode cX8_often 91 = .ok (.istore 5, 2) := by decide +kernel
theorem dX8_often_93 : decode cX8_often 93 = .ok (.iinc 6 1, 3) := by decide +kernel
theorem dX8_often_96 : decode cX8_often 96 = .ok (.goto (-47), 3) := by decide +kernel
theorem dX8_often_99 : decode cX8_often 99 = .ok (.iconst (-1), 1) := by decide +kernel
theorem dX8_often_100 : decode cX8_often 100 = .ok (.ireturn, 1) := by decide +kernel
theorem dX8_seen_0 : decode cX8_seen 0 = .ok (.iload_n 1, 1) := by decide +kernel
theorem dX8_seen_1 : decode cX8_seen 1 = .ok (.iload_n 2, 1) := by decide +kernel
theorem dX8_seen_2 : decode cX8_seen 2 = .ok (.invokestatic 198, 3) := by decide +kernel
theorem dX8_seen_5 : decode cX8_seen 5 = .ok (.ifCond .ne 6, 3) := by decide +kernel
theorem dX8_seen_8 : decode cX8_seen 8 = .ok (.bipush (-2), 2) := by decide +kernel
theorem dX8_seen_10 : decode cX8_seen 10 = .ok (.ireturn, 1) := by decide +kernel
theorem dX8_seen_11 : decode cX8_seen 11 = .ok (.aload_n 0, 1) := by decide +kernel
theorem dX8_seen_12 : decode cX8_seen 12 = .ok (.getfield 59, 3) := by decide +kernel
theorem dX8_seen_15 : decode cX8_seen 15 = .ok (.invokevirtual 202, 3) := by decide +kernel
theorem dX8_seen_18 : decode cX8_seen 18 = .ok (.ifCond .eq 6, 3) := by decide +kernel
theorem dX8_seen_21 : decode cX8_seen 21 = .ok (.bipush (-4), 2) := by decide +kernel
theorem dX8_seen_23 : decode cX8_seen 23 = .ok (.ireturn, 1) := by decide +kernel
theorem dX8_seen_24 : decode cX8_seen 24 = .ok (.aload_n 0, 1) := by decide +kernel
theorem dX8_seen_25 : decode cX8_seen 25 = .ok (.getfield 59, 3) := by decide +kernel
theorem dX8_seen_28 : decode cX8_seen 28 = .ok (.iload_n 1, 1) := by decide +kernel
theorem dX8_seen_29 : decode cX8_seen 29 = .ok (.iload_n 2, 1) := by decide +kernel
theorem dX8_seen_30 : decode cX8_seen 30 = .ok (.invokevirtual 203, 3) := by decide +kernel
theorem dX8_seen_33 : decode cX8_seen 33 = .ok (.aload_n 0, 1) := by decide +kernel
theorem dX8_seen_34 : decode cX8_seen 34 = .ok (.getfield 59, 3) := by decide +kernel
theorem dX8_seen_37 : decode cX8_seen 37 = .ok (.getfield 207, 3) := by decide +kernel
theorem dX8_seen_40 : decode cX8_seen 40 = .ok (.ireturn, 1) := by decide +kernel
theorem dX8_forget_0 : decode cX8_forget 0 = .ok (.aload_n 0, 1) := by decide +kernel
theorem dX8_forget_1 : decode cX8_forget 1 = .ok (.getfield 59, 3) := by decide +kernel
theorem dX8_forget_4 : decode cX8_forget 4 = .ok (.getfield 207, 3) := by decide +kernel
theorem dX8_forget_7 : decode cX8_forget 7 = .ok (.istore_n 1, 1) := by decide +kernel
theorem dX8_forget_8 : decode cX8_forget 8 = .ok (.aload_n 0, 1) := by decide +kernel
theorem dX8_forget_9 : decode cX8_forget 9 = .ok (.getfield 59, 3) := by decide +kernel
theorem dX8_forget_12 : decode cX8_forget 12 = .ok (.iconst 0, 1) := by decide +kernel
theorem dX8_forget_13 : decode cX8_forget 13 = .ok (.putfield 207, 3) := by decide +kernel
theorem dX8_forget_16 : decode cX8_forget 16 = .ok (.iload_n 1, 1) := by decide +kernel
theorem dX8_forget_17 : decode cX8_forget 17 = .ok (.ireturn, 1) := by decide +kernel
theorem dX8_read_0 : decode cX8_read 0 = .ok (.aload_n 0, 1) := by decide +kernel
theorem dX8_read_1 : decode cX8_read 1 = .ok (.iload_n 1, 1) := by decide +kernel
theorem dX8_read_2 : decode cX8_read 2 = .ok (.invokevirtual 208, 3) := by decide +kernel
theorem dX8_read_5 : decode cX8_read 5 = .ok (.astore_n 2, 1) := by decide +kernel
theorem dX8_read_6 : decode cX8_read 6 = .ok (.aload_n 2, 1) := by decide +kernel
theorem dX8_read_7 : decode cX8_read 7 = .ok (.ifnonnull 6, 3) := by decide +kernel
theorem dX8_read_10 : decode cX8_read 10 = .ok (.bipush (-2), 2) := by decide +kernel
theorem dX8_read_12 : decode cX8_read 12 = .ok (.ireturn, 1) := by decide +kernel
theorem dX8_read_13 : decode cX8_read 13 = .ok (.aload_n 2, 1) := by decide +kernel
theorem dX8_read_14 : decode cX8_read 14 = .ok (.getfield 212, 3) := by decide +kernel
theorem dX8_read_17 : decode cX8_read 17 = .ok (.ifCond .eq 9, 3) := by decide +kernel
theorem dX8_read_20 : decode cX8_read 20 = .ok (.aload_n 0, 1) := by decide +kernel
theorem dX8_read_21 : decode cX8_read 21 = .ok (.iconst 1, 1) := by decide +kernel
theorem dX8_read_22 : decode cX8_read 22 = .ok (.invokevirtual 215, 3) := by decide +kernel
theorem dX8_read_25 : decode cX8_read 25 = .ok (.ireturn, 1) := by decide +kernel
theorem dX8_read_26 : decode cX8_read 26 = .ok (.iconst 0, 1) := by decide +kernel
theorem dX8_read_27 : decode cX8_read 27 = .ok (.istore_n 3, 1) := by decide +kernel
theorem dX8_read_28 : decode cX8_read 28 = .ok (.iconst 2, 1) := by decide +kernel
theorem dX8_read_29 : decode cX8_read 29 = .ok (.iload_n 3, 1) := by decide +kernel
theorem dX8_read_30 : decode cX8_read 30 = .ok (.imul, 1) := by decide +kernel
theorem dX8_read_31 : decode cX8_read 31 = .ok (.iconst 1, 1) := by decide +kernel
theorem dX8_read_32 : decode cX8_read 32 = .ok (.iadd, 1) := by decide +kernel
theorem dX8_read_33 : decode cX8_read 33 = .ok (.aload_n 2, 1) := by decide +kernel
theorem dX8_read_34 : decode cX8_read 34 = .ok (.getfield 218, 3) := by decide +kernel
theorem dX8_read_37 : decode cX8_read 37 = .ok (.if_icmp .ge 64, 3) := by decide +kernel
theorem dX8_read_40 : decode cX8_read 40 = .ok (.aload_n 0, 1) := by decide +kernel
theorem dX8_read_41 : decode cX8_read 41 = .ok (.getfield 59, 3) := by decide +kernel
theorem dX8_read_44 : decode cX8_read 44 = .ok (.invokevirtual 202, 3) := by decide +kernel
theorem dX8_read_47 : decode cX8_read 47 = .ok (.ifCond .ne 54, 3) := by decide +kernel
theorem dX8_read_50 : decode cX8_read 50 = .ok (.aload_n 2, 1) := by decide +kernel
theorem dX8_read_51 : decode cX8_read 51 = .ok (.iconst 2, 1) := by decide +kernel
theorem dX8_read_52 : decode cX8_read 52 = .ok (.iload_n 3, 1) := by decide +kernel
theorem dX8_read_53 : decode cX8_read 53 = .ok (.imul, 1) := by decide +kernel
theorem dX8_read_54 : decode cX8_read 54 = .ok (.invokevirtual 219, 3) := by decide +kernel
theorem dX8_read_57 : decode cX8_read 57 = .ok (.aload_n 2, 1) := by decide +kernel
theorem dX8_read_58 : decode cX8_read 58 = .ok (.iconst 2, 1) := by decide +kernel
theorem dX8_read_59 : decode cX8_read 59 = .ok (.iload_n 3, 1) := by decide +kernel
theorem dX8_read_60 : decode cX8_read 60 = .ok (.imul, 1) := by decide +kernel
theorem dX8_read_61 : decode cX8_read 61 = .ok (.iconst 1, 1) := by decide +kernel
theorem dX8_read_62 : decode cX8_read 62 = .ok (.iadd, 1) := by decide +kernel
theorem dX8_read_63 : decode cX8_read 63 = .ok (.invokevirtual 219, 3) := by decide +kernel
theorem dX8_read_66 : decode cX8_read 66 = .ok (.invokestatic 198, 3) := by decide +kernel
theorem dX8_read_69 : decode cX8_read 69 = .ok (.ifCond .eq 32, 3) := by decide +kernel
theorem dX8_read_72 : decode cX8_read 72 = .ok (.aload_n 0, 1) := by decide +kernel
theorem dX8_read_73 : decode cX8_read 73 = .ok (.getfield 59, 3) := by decide +kernel
theorem dX8_read_76 : decode cX8_read 76 = .ok (.aload_n 2, 1) := by decide +kernel
theorem dX8_read_77 : decode cX8_read 77 = .ok (.iconst 2, 1) := by decide +kernel
theorem dX8_read_78 : decode cX8_read 78 = .ok (.iload_n 3, 1) := by decide +kernel
theorem dX8_read_79 : decode cX8_read 79 = .ok (.imul, 1) := by decide +kernel
theorem dX8_read_80 : decode cX8_read 80 = .ok (.invokevirtual 219, 3) := by decide +kernel
theorem dX8_read_83 : decode cX8_read 83 = .ok (.aload_n 2, 1) := by decide +kernel
theorem dX8_read_84 : decode cX8_read 84 = .ok (.iconst 2, 1) := by decide +kernel
theorem dX8_read_85 : decode cX8_read 85 = .ok (.iload_n 3, 1) := by decide +kernel
theorem dX8_read_86 : decode cX8_read 86 = .ok (.imul, 1) := by decide +kernel
theorem dX8_read_87 : decode cX8_read 87 = .ok (.iconst 1, 1) := by decide +kernel
theorem dX8_read_88 : decode cX8_read 88 = .ok (.iadd, 1) := by decide +kernel
theorem dX8_read_89 : decode cX8_read 89 = .ok (.invokevirtual 219, 3) := by decide +kernel
theorem dX8_read_92 : decode cX8_read 92 = .ok (.invokevirtual 203, 3) := by decide +kernel
theorem dX8_read_95 : decode cX8_read 95 = .ok (.iinc 3 1, 3) := by decide +kernel
theorem dX8_read_98 : decode cX8_read 98 = .ok (.goto (-70), 3) := by decide +kernel
theorem dX8_read_101 : decode cX8_read 101 = .ok (.iload_n 3, 1) := by decide +kernel
theorem dX8_read_102 : decode cX8_read 102 = .ok (.ireturn, 1) := by decide +kernel
theorem dX8_rule_0 : decode cX8_rule 0 = .ok (.iload_n 1, 1) := by decide +kernel
theorem dX8_rule_1 : decode cX8_rule 1 = .ok (.iconst 0, 1) := by decide +kernel
theorem dX8_rule_2 : decode cX8_rule 2 = .ok (.iconst 3, 1) := by decide +kernel
theorem dX8_rule_3 : decode cX8_rule 3 = .ok (.invokestatic 91, 3) := by decide +kernel
theorem dX8_rule_6 : decode cX8_rule 6 = .ok (.ifCond .ne 6, 3) := by decide +kernel
theorem dX8_rule_9 : decode cX8_rule 9 = .ok (.bipush (-2), 2) := by decide +kernel
theorem dX8_rule_11 : decode cX8_rule 11 = .ok (.ireturn, 1) := by decide +kernel
theorem dX8_rule_12 : decode cX8_rule 12 = .ok (.aload_n 0, 1) := by decide +kernel
theorem dX8_rule_13 : decode cX8_rule 13 = .ok (.invokevirtual 110, 3) := by decide +kernel
theorem dX8_rule_16 : decode cX8_rule 16 = .ok (.aload_n 0, 1) := by decide +kernel
theorem dX8_rule_17 : decode cX8_rule 17 = .ok (.getfield 18, 3) := by decide +kernel
theorem dX8_rule_20 : decode cX8_rule 20 = .ok (.getfield 148, 3) := by decide +kernel
theorem dX8_rule_23 : decode cX8_rule 23 = .ok (.iconst 0, 1) := by decide +kernel
theorem dX8_rule_24 : decode cX8_rule 24 = .ok (.aload_n 0, 1) := by decide +kernel
theorem dX8_rule_25 : decode cX8_rule 25 = .ok (.getfield 43, 3) := by decide +kernel
theorem dX8_rule_28 : decode cX8_rule 28 = .ok (.iconst 0, 1) := by decide +kernel
theorem dX8_rule_29 : decode cX8_rule 29 = .ok (.iconst 4, 1) := by decide +kernel
theorem dX8_rule_30 : decode cX8_rule 30 = .ok (.invokestatic 222, 3) := by decide +kernel
theorem dX8_rule_33 : decode cX8_rule 33 = .ok (.iconst 0, 1) := by decide +kernel
theorem dX8_rule_34 : decode cX8_rule 34 = .ok (.istore_n 2, 1) := by decide +kernel
theorem dX8_rule_35 : decode cX8_rule 35 = .ok (.bipush (-9), 2) := by decide +kernel
theorem dX8_rule_37 : decode cX8_rule 37 = .ok (.istore_n 3, 1) := by decide +kernel
theorem dX8_rule_38 : decode cX8_rule 38 = .ok (.iload_n 3, 1) := by decide +kernel
theorem dX8_rule_39 : decode cX8_rule 39 = .ok (.bipush 9, 2) := by decide +kernel
theorem dX8_rule_41 : decode cX8_rule 41 = .ok (.if_icmp .gt 43, 3) := by decide +kernel
theorem dX8_rule_44 : decode cX8_rule 44 = .ok (.aload_n 0, 1) := by decide +kernel
theorem dX8_rule_45 : decode cX8_rule 45 = .ok (.getfield 43, 3) := by decide +kernel
theorem dX8_rule_48 : decode cX8_rule 48 = .ok (.iload_n 1, 1) := by decide +kernel
theorem dX8_rule_49 : decode cX8_rule 49 = .ok (.iload_n 3, 1) := by decide +kernel
theorem dX8_rule_50 : decode cX8_rule 50 = .ok (.iastore, 1) := by decide +kernel
theorem dX8_rule_51 : decode cX8_rule 51 = .ok (.aload_n 0, 1) := by decide +kernel
theorem dX8_rule_52 : decode cX8_rule 52 = .ok (.aload_n 0, 1) := by decide +kernel
theorem dX8_rule_53 : decode cX8_rule 53 = .ok (.getfield 18, 3) := by decide +kernel
theorem dX8_rule_56 : decode cX8_rule 56 = .ok (.invokevirtual 228, 3) := by decide +kernel
theorem dX8_rule_59 : decode cX8_rule 59 = .ok (.aload_n 0, 1) := by decide +kernel
theorem dX8_rule_60 : decode cX8_rule 60 = .ok (.getfield 43, 3) := by decide +kernel
theorem dX8_rule_63 : decode cX8_rule 63 = .ok (.invokevirtual 231, 3) := by decide +kernel
theorem dX8_rule_66 : decode cX8_rule 66 = .ok (.ifCond .eq 12, 3) := by decide +kernel
theorem dX8_rule_69 : decode cX8_rule 69 = .ok (.iload_n 2, 1) := by decide +kernel
theorem dX8_rule_70 : decode cX8_rule 70 = .ok (.iconst 1, 1) := by decide +kernel
theorem dX8_rule_71 : decode cX8_rule 71 = .ok (.iload_n 3, 1) := by decide +kernel
theorem dX8_rule_72 : decode cX8_rule 72 = .ok (.bipush 9, 2) := by decide +kernel
theorem dX8_rule_74 : decode cX8_rule 74 = .ok (.iadd, 1) := by decide +kernel
theorem dX8_rule_75 : decode cX8_rule 75 = .ok (.ishl, 1) := by decide +kernel
theorem dX8_rule_76 : decode cX8_rule 76 = .ok (.ior, 1) := by decide +kernel
theorem dX8_rule_77 : decode cX8_rule 77 = .ok (.istore_n 2, 1) := by decide +kernel
theorem dX8_rule_78 : decode cX8_rule 78 = .ok (.iinc 3 1, 3) := by decide +kernel
theorem dX8_rule_81 : decode cX8_rule 81 = .ok (.goto (-43), 3) := by decide +kernel
theorem dX8_rule_84 : decode cX8_rule 84 = .ok (.iload_n 2, 1) := by decide +kernel
theorem dX8_rule_85 : decode cX8_rule 85 = .ok (.ireturn, 1) := by decide +kernel
theorem dX8_began_0 : decode cX8_began 0 = .ok (.aload_n 0, 1) := by decide +kernel
theorem dX8_began_1 : decode cX8_began 1 = .ok (.invokevirtual 110, 3) := by decide +kernel
theorem dX8_began_4 : decode cX8_began 4 = .ok (.iconst 0, 1) := by decide +kernel
theorem dX8_began_5 : decode cX8_began 5 = .ok (.istore_n 1, 1) := by decide +kernel
theorem dX8_began_6 : decode cX8_began 6 = .ok (.iconst 0, 1) := by decide +kernel
theorem dX8_began_7 : decode cX8_began 7 = .ok (.istore_n 2, 1) := by decide +kernel
theorem dX8_began_8 : decode cX8_began 8 = .ok (.iload_n 2, 1) := by decide +kernel
theorem dX8_began_9 : decode cX8_began 9 = .ok (.aload_n 0, 1) := by decide +kernel
theorem dX8_began_10 : decode cX8_began 10 = .ok (.getfield 18, 3) := by decide +kernel
theorem dX8_began_13 : decode cX8_began 13 = .ok (.getfield 176, 3) := by decide +kernel
theorem dX8_began_16 : decode cX8_began 16 = .ok (.if_icmp .ge 30, 3) := by decide +kernel
theorem dX8_began_19 : decode cX8_began 19 = .ok (.aload_n 0, 1) := by decide +kernel
theorem dX8_began_20 : decode cX8_began 20 = .ok (.iload_n 2, 1) := by decide +kernel
theorem dX8_began_21 : decode cX8_began 21 = .ok (.aload_n 0, 1) := by decide +kernel
theorem dX8_began_22 : decode cX8_began 22 = .ok (.getfield 18, 3) := by decide +kernel
theorem dX8_began_25 : decode cX8_began 25 = .ok (.getfield 148, 3) := by decide +kernel
theorem dX8_began_28 : decode cX8_began 28 = .ok (.invokevirtual 231, 3) := by decide +kernel
theorem dX8_began_31 : decode cX8_began 31 = .ok (.ifCond .eq 9, 3) := by decide +kernel
theorem dX8_began_34 : decode cX8_began 34 = .ok (.iload_n 1, 1) := by decide +kernel
theorem dX8_began_35 : decode cX8_began 35 = .ok (.iconst 1, 1) := by decide +kernel
theorem dX8_began_36 : decode cX8_began 36 = .ok (.iload_n 2, 1) := by decide +kernel
theorem dX8_began_37 : decode cX8_began 37 = .ok (.ishl, 1) := by decide +kernel
theorem dX8_began_38 : decode cX8_began 38 = .ok (.ior, 1) := by decide +kernel
theorem dX8_began_39 : decode cX8_began 39 = .ok (.istore_n 1, 1) := by decide +kernel
theorem dX8_began_40 : decode cX8_began 40 = .ok (.iinc 2 1, 3) := by decide +kernel
theorem dX8_began_43 : decode cX8_began 43 = .ok (.goto (-35), 3) := by decide +kernel
theorem dX8_began_46 : decode cX8_began 46 = .ok (.iload_n 1, 1) := by decide +kernel
theorem dX8_began_47 : decode cX8_began 47 = .ok (.ireturn, 1) := by decide +kernel
theorem dX8_ask_0 : decode cX8_ask 0 = .ok (.iconst 0, 1) := by decide +kernel
theorem dX8_ask_1 : decode cX8_ask 1 = .ok (.ireturn, 1) := by decide +kernel
theorem dX8_maybe_0 : decode cX8_maybe 0 = .ok (.aload_n 0, 1) := by decide +kernel
theorem dX8_maybe_1 : decode cX8_maybe 1 = .ok (.invokevirtual 110, 3) := by decide +kernel
theorem dX8_maybe_4 : decode cX8_maybe 4 = .ok (.iload_n 1, 1) := by decide +kernel
theorem dX8_maybe_5 : decode cX8_maybe 5 = .ok (.iconst 0, 1) := by decide +kernel
theorem dX8_maybe_6 : decode cX8_maybe 6 = .ok (.bipush 16, 2) := by decide +kernel
theorem dX8_maybe_8 : decode cX8_maybe 8 = .ok (.invokestatic 91, 3) := by decide +kernel
theorem dX8_maybe_11 : decode cX8_maybe 11 = .ok (.ifCond .eq 35, 3) := by decide +kernel
theorem dX8_maybe_14 : decode cX8_maybe 14 = .ok (.aload_n 0, 1) := by decide +kernel
theorem dX8_maybe_15 : decode cX8_maybe 15 = .ok (.getfield 18, 3) := by decide +kernel
theorem dX8_maybe_18 : decode cX8_maybe 18 = .ok (.iload_n 2, 1) := by decide +kernel
theorem dX8_maybe_19 : decode cX8_maybe 19 = .ok (.invokevirtual 113, 3) := by decide +kernel
theorem dX8_maybe_22 : decode cX8_maybe 22 = .ok (.ifCond .eq 24, 3) := by decide +kernel
theorem dX8_maybe_25 : decode cX8_maybe 25 = .ok (.iload_n 3, 1) := by decide +kernel
theorem dX8_maybe_26 : decode cX8_maybe 26 = .ok (.iconst 0, 1) := by decide +kernel
theorem dX8_maybe_27 : decode cX8_maybe 27 = .ok (.iconst 1, 1) := by decide +kernel
theorem dX8_maybe_28 : decode cX8_maybe 28 = .ok (.invokestatic 91, 3) := by decide +kernel
theorem dX8_maybe_31 : decode cX8_maybe 31 = .ok (.ifCond .eq 15, 3) := by decide +kernel
theorem dX8_maybe_34 : decode cX8_maybe 34 = .ok (.aload_n 0, 1) := by decide +kernel
theorem dX8_maybe_35 : decode cX8_maybe 35 = .ok (.getfield 32, 3) := by decide +kernel
theorem dX8_maybe_38 : decode cX8_maybe 38 = .ok (.getfield 154, 3) := by decide +kernel
theorem dX8_maybe_41 : decode cX8_maybe 41 = .ok (.bipush 10, 2) := by decide +kernel
theorem dX8_maybe_43 : decode cX8_maybe 43 = .ok (.if_icmp .le 7, 3) := by decide +kernel
theorem dX8_maybe_46 : decode cX8_maybe 46 = .ok (.ldc2_w 235, 3) := by decide +kernel
theorem dX8_maybe_49 : decode cX8_maybe 49 = .ok (.lreturn, 1) := by decide +kernel
theorem dX8_maybe_50 : decode cX8_maybe 50 = .ok (.aload_n 0, 1) := by decide +kernel
theorem dX8_maybe_51 : decode cX8_maybe 51 = .ok (.iload_n 1, 1) := by decide +kernel
theorem dX8_maybe_52 : decode cX8_maybe 52 = .ok (.invokevirtual 237, 3) := by decide +kernel
theorem dX8_maybe_55 : decode cX8_maybe 55 = .ok (.aload_n 0, 1) := by decide +kernel
theorem dX8_maybe_56 : decode cX8_maybe 56 = .ok (.getfield 63, 3) := by decide +kernel
theorem dX8_maybe_59 : decode cX8_maybe 59 = .ok (.iload_n 2, 1) := by decide +kernel
theorem dX8_maybe_60 : decode cX8_maybe 60 = .ok (.laload, 1) := by decide +kernel
theorem dX8_maybe_61 : decode cX8_maybe 61 = .ok (.lstore 4, 2) := by decide +kernel
theorem dX8_maybe_63 : decode cX8_maybe 63 = .ok (.iconst 4, 1) := by decide +kernel
theorem dX8_maybe_64 : decode cX8_maybe 64 = .ok (.aload_n 0, 1) := by decide +kernel
theorem dX8_maybe_65 : decode cX8_maybe 65 = .ok (.getfield 32, 3) := by decide +kernel
theorem dX8_maybe_68 : decode cX8_maybe 68 = .ok (.getfield 154, 3) := by decide +kernel
theorem dX8_maybe_71 : decode cX8_maybe 71 = .ok (.imul, 1) := by decide +kernel
theorem dX8_maybe_72 : decode cX8_maybe 72 = .ok (.istore 6, 2) := by decide +kernel
theorem dX8_maybe_74 : decode cX8_maybe 74 = .ok (.iload 6, 2) := by decide +kernel
theorem dX8_maybe_76 : decode cX8_maybe 76 = .ok (.ifCond .le 24, 3) := by decide +kernel
theorem dX8_maybe_79 : decode cX8_maybe 79 = .ok (.lload 4, 2) := by decide +kernel
theorem dX8_maybe_81 : decode cX8_maybe 81 = .ok (.lconst 1, 1) := by decide +kernel
theorem dX8_maybe_82 : decode cX8_maybe 82 = .ok (.land, 1) := by decide +kernel
theorem dX8_maybe_83 : decode cX8_maybe 83 = .ok (.lconst 0, 1) := by decide +kernel
theorem dX8_maybe_84 : decode cX8_maybe 84 = .ok (.lcmp, 1) := by decide +kernel
theorem dX8_maybe_85 : decode cX8_maybe 85 = .ok (.ifCond .ne 15, 3) := by decide +kernel
theorem dX8_maybe_88 : decode cX8_maybe 88 = .ok (.lload 4, 2) := by decide +kernel
theorem dX8_maybe_90 : decode cX8_maybe 90 = .ok (.iconst 1, 1) := by decide +kernel
theorem dX8_maybe_91 : decode cX8_maybe 91 = .ok (.lshr, 1) := by decide +kernel
theorem dX8_maybe_92 : decode cX8_maybe 92 = .ok (.lstore 4, 2) := by decide +kernel
theorem dX8_maybe_94 : decode cX8_maybe 94 = .ok (.iinc 6 (-1), 3) := by decide +kernel
theorem dX8_maybe_97 : decode cX8_maybe 97 = .ok (.goto (-23), 3) := by decide +kernel
theorem dX8_maybe_100 : decode cX8_maybe 100 = .ok (.iload_n 3, 1) := by decide +kernel
theorem dX8_maybe_101 : decode cX8_maybe 101 = .ok (.ifCond .ne 8, 3) := by decide +kernel
theorem dX8_maybe_104 : decode cX8_maybe 104 = .ok (.lload 4, 2) := by decide +kernel
theorem dX8_maybe_106 : decode cX8_maybe 106 = .ok (.goto 7, 3) := by decide +kernel
theorem dX8_maybe_109 : decode cX8_maybe 109 = .ok (.lconst 1, 1) := by decide +kernel
theorem dX8_maybe_110 : decode cX8_maybe 110 = .ok (.iload 6, 2) := by decide +kernel
theorem dX8_maybe_112 : decode cX8_maybe 112 = .ok (.lshl, 1) := by decide +kernel
theorem dX8_maybe_113 : decode cX8_maybe 113 = .ok (.lreturn, 1) := by decide +kernel
theorem dX8_week_0 : decode cX8_week 0 = .ok (.iload_n 2, 1) := by decide +kernel
theorem dX8_week_1 : decode cX8_week 1 = .ok (.iconst 1, 1) := by decide +kernel
theorem dX8_week_2 : decode cX8_week 2 = .ok (.bipush 99, 2) := by decide +kernel
theorem dX8_week_4 : decode cX8_week 4 = .ok (.invokestatic 91, 3) := by decide +kernel
theorem dX8_week_7 : decode cX8_week 7 = .ok (.ifCond .eq 12, 3) := by decide +kernel
theorem dX8_week_10 : decode cX8_week 10 = .ok (.iload_n 3, 1) := by decide +kernel
theorem dX8_week_11 : decode cX8_week 11 = .ok (.iconst 0, 1) := by decide +kernel
theorem dX8_week_12 : decode cX8_week 12 = .ok (.iconst 1, 1) := by decide +kernel
theorem dX8_week_13 : decode cX8_week 13 = .ok (.invokestatic 91, 3) := by decide +kernel
theorem dX8_week_16 : decode cX8_week 16 = .ok (.ifCond .ne 6, 3) := by decide +kernel
theorem dX8_week_19 : decode cX8_week 19 = .ok (.bipush (-2), 2) := by decide +kernel
theorem dX8_week_21 : decode cX8_week 21 = .ok (.ireturn, 1) := by decide +kernel
theorem dX8_week_22 : decode cX8_week 22 = .ok (.aload_n 0, 1) := by decide +kernel
theorem dX8_week_23 : decode cX8_week 23 = .ok (.invokevirtual 110, 3) := by decide +kernel
theorem dX8_week_26 : decode cX8_week 26 = .ok (.aload_n 0, 1) := by decide +kernel
theorem dX8_week_27 : decode cX8_week 27 = .ok (.invokevirtual 189, 3) := by decide +kernel
theorem dX8_week_30 : decode cX8_week 30 = .ok (.istore 4, 2) := by decide +kernel
theorem dX8_week_32 : decode cX8_week 32 = .ok (.iconst 0, 1) := by decide +kernel
theorem dX8_week_33 : decode cX8_week 33 = .ok (.istore 5, 2) := by decide +kernel
theorem dX8_week_35 : decode cX8_week 35 = .ok (.iload_n 1, 1) := by decide +kernel
theorem dX8_week_36 : decode cX8_week 36 = .ok (.istore 6, 2) := by decide +kernel
theorem dX8_week_38 : decode cX8_week 38 = .ok (.iconst 0, 1) := by decide +kernel
theorem dX8_week_39 : decode cX8_week 39 = .ok (.istore 7, 2) := by decide +kernel
theorem dX8_week_41 : decode cX8_week 41 = .ok (.iload 7, 2) := by decide +kernel
theorem dX8_week_43 : decode cX8_week 43 = .ok (.iload_n 2, 1) := by decide +kernel
theorem dX8_week_44 : decode cX8_week 44 = .ok (.if_icmp .ge 90, 3) := by decide +kernel
theorem dX8_week_47 : decode cX8_week 47 = .ok (.aload_n 0, 1) := by decide +kernel
theorem dX8_week_48 : decode cX8_week 48 = .ok (.getfield 25, 3) := by decide +kernel
theorem dX8_week_51 : decode cX8_week 51 = .ok (.getfield 193, 3) := by decide +kernel
theorem dX8_week_54 : decode cX8_week 54 = .ok (.ifCond .le 80, 3) := by decide +kernel
theorem dX8_week_57 : decode cX8_week 57 = .ok (.ldc 240, 2) := by decide +kernel
theorem dX8_week_59 : decode cX8_week 59 = .ok (.iload 6, 2) := by decide +kernel
theorem dX8_week_61 : decode cX8_week 61 = .ok (.imul, 1) := by decide +kernel
theorem dX8_week_62 : decode cX8_week 62 = .ok (.sipush 12345, 3) := by decide +kernel
theorem dX8_week_65 : decode cX8_week 65 = .ok (.iadd, 1) := by decide +kernel
theorem dX8_week_66 : decode cX8_week 66 = .ok (.istore 6, 2) := by decide +kernel
theorem dX8_week_68 : decode cX8_week 68 = .ok (.aload_n 0, 1) := by decide +kernel
theorem dX8_week_69 : decode cX8_week 69 = .ok (.getfield 25, 3) := by decide +kernel
theorem dX8_week_72 : decode cX8_week 72 = .ok (.iload 6, 2) := by decide +kernel
theorem dX8_week_74 : decode cX8_week 74 = .ok (.bipush 16, 2) := by decide +kernel
theorem dX8_week_76 : decode cX8_week 76 = .ok (.iushr, 1) := by decide +kernel
theorem dX8_week_77 : decode cX8_week 77 = .ok (.aload_n 0, 1) := by decide +kernel
theorem dX8_week_78 : decode cX8_week 78 = .ok (.getfield 25, 3) := by decide +kernel
theorem dX8_week_81 : decode cX8_week 81 = .ok (.getfield 193, 3) := by decide +kernel
theorem dX8_week_84 : decode cX8_week 84 = .ok (.irem, 1) := by decide +kernel
theorem dX8_week_85 : decode cX8_week 85 = .ok (.invokevirtual 120, 3) := by decide +kernel
theorem dX8_week_88 : decode cX8_week 88 = .ok (.astore 8, 2) := by decide +kernel
theorem dX8_week_90 : decode cX8_week 90 = .ok (.aload_n 0, 1) := by decide +kernel
theorem dX8_week_91 : decode cX8_week 91 = .ok (.getfield 18, 3) := by decide +kernel
theorem dX8_week_94 : decode cX8_week 94 = .ok (.aload 8, 2) := by decide +kernel
theorem dX8_week_96 : decode cX8_week 96 = .ok (.iload 4, 2) := by decide +kernel
theorem dX8_week_98 : decode cX8_week 98 = .ok (.invokevirtual 157, 3) := by decide +kernel
theorem dX8_week_101 : decode cX8_week 101 = .ok (.iconst 1, 1) := by decide +kernel
theorem dX8_week_102 : decode cX8_week 102 = .ok (.if_icmp .ne 6, 3) := by decide +kernel
theorem dX8_week_105 : decode cX8_week 105 = .ok (.iinc 5 1, 3) := by decide +kernel
theorem dX8_week_108 : decode cX8_week 108 = .ok (.aload_n 0, 1) := by decide +kernel
theorem dX8_week_109 : decode cX8_week 109 = .ok (.getfield 18, 3) := by decide +kernel
theorem dX8_week_112 : decode cX8_week 112 = .ok (.aload 8, 2) := by decide +kernel
theorem dX8_week_114 : decode cX8_week 114 = .ok (.iload 4, 2) := by decide +kernel
theorem dX8_week_116 : decode cX8_week 116 = .ok (.aload_n 0, 1) := by decide +kernel
theorem dX8_week_117 : decode cX8_week 117 = .ok (.getfield 18, 3) := by decide +kernel
theorem dX8_week_120 : decode cX8_week 120 = .ok (.getfield 148, 3) := by decide +kernel
theorem dX8_week_123 : decode cX8_week 123 = .ok (.invokevirtual 194, 3) := by decide +kernel
theorem dX8_week_126 : decode cX8_week 126 = .ok (.istore 4, 2) := by decide +kernel
theorem dX8_week_128 : decode cX8_week 128 = .ok (.iinc 7 1, 3) := by decide +kernel
theorem dX8_week_131 : decode cX8_week 131 = .ok (.goto (-90), 3) := by decide +kernel
theorem dX8_week_134 : decode cX8_week 134 = .ok (.iload_n 3, 1) := by decide +kernel
theorem dX8_week_135 : decode cX8_week 135 = .ok (.ifCond .ne 8, 3) := by decide +kernel
theorem dX8_week_138 : decode cX8_week 138 = .ok (.iload 4, 2) := by decide +kernel
theorem dX8_week_140 : decode cX8_week 140 = .ok (.goto 5, 3) := by decide +kernel
theorem dX8_week_143 : decode cX8_week 143 = .ok (.iload 5, 2) := by decide +kernel
theorem dX8_week_145 : decode cX8_week 145 = .ok (.ireturn, 1) := by decide +kernel
theorem dX8_sheet_0 : decode cX8_sheet 0 = .ok (.aload_n 0, 1) := by decide +kernel
theorem dX8_sheet_1 : decode cX8_sheet 1 = .ok (.iload_n 1, 1) := by decide +kernel
theorem dX8_sheet_2 : decode cX8_sheet 2 = .ok (.invokevirtual 208, 3) := by decide +kernel
theorem dX8_sheet_5 : decode cX8_sheet 5 = .ok (.astore 4, 2) := by decide +kernel
theorem dX8_sheet_7 : decode cX8_sheet 7 = .ok (.aload 4, 2) := by decide +kernel
theorem dX8_sheet_9 : decode cX8_sheet 9 = .ok (.ifnull 18, 3) := by decide +kernel
theorem dX8_sheet_12 : decode cX8_sheet 12 = .ok (.iload_n 2, 1) := by decide +kernel
theorem dX8_sheet_13 : decode cX8_sheet 13 = .ok (.iconst 0, 1) := by decide +kernel
theorem dX8_sheet_14 : decode cX8_sheet 14 = .ok (.iconst 2, 1) := by decide +kernel
theorem dX8_sheet_15 : decode cX8_sheet 15 = .ok (.invokestatic 91, 3) := by decide +kernel
theorem dX8_sheet_18 : decode cX8_sheet 18 = .ok (.ifCond .eq 9, 3) := by decide +kernel
theorem dX8_sheet_21 : decode cX8_sheet 21 = .ok (.iload_n 3, 1) := by decide +kernel
theorem dX8_sheet_22 : decode cX8_sheet 22 = .ok (.bipush 60, 2) := by decide +kernel
theorem dX8_sheet_24 : decode cX8_sheet 24 = .ok (.if_icmp .le 6, 3) := by decide +kernel
theorem dX8_sheet_27 : decode cX8_sheet 27 = .ok (.bipush (-2), 2) := by decide +kernel
theorem dX8_sheet_29 : decode cX8_sheet 29 = .ok (.ireturn, 1) := by decide +kernel
theorem dX8_sheet_30 : decode cX8_sheet 30 = .ok (.iload_n 3, 1) := by decide +kernel
theorem dX8_sheet_31 : decode cX8_sheet 31 = .ok (.ifCond .ge 9, 3) := by decide +kernel
theorem dX8_sheet_34 : decode cX8_sheet 34 = .ok (.aload_n 0, 1) := by decide +kernel
theorem dX8_sheet_35 : decode cX8_sheet 35 = .ok (.iconst 5, 1) := by decide +kernel
theorem dX8_sheet_36 : decode cX8_sheet 36 = .ok (.invokevirtual 215, 3) := by decide +kernel
theorem dX8_sheet_39 : decode cX8_sheet 39 = .ok (.ireturn, 1) := by decide +kernel
theorem dX8_sheet_40 : decode cX8_sheet 40 = .ok (.aload 4, 2) := by decide +kernel
theorem dX8_sheet_42 : decode cX8_sheet 42 = .ok (.iload_n 2, 1) := by decide +kernel
theorem dX8_sheet_43 : decode cX8_sheet 43 = .ok (.iload_n 3, 1) := by decide +kernel
theorem dX8_sheet_44 : decode cX8_sheet 44 = .ok (.invokevirtual 241, 3) := by decide +kernel
theorem dX8_sheet_47 : decode cX8_sheet 47 = .ok (.iload_n 3, 1) := by decide +kernel
theorem dX8_sheet_48 : decode cX8_sheet 48 = .ok (.ireturn, 1) := by decide +kernel
theorem dX8_lose_0 : decode cX8_lose 0 = .ok (.aload_n 0, 1) := by decide +kernel
theorem dX8_lose_1 : decode cX8_lose 1 = .ok (.iload_n 1, 1) := by decide +kernel
theorem dX8_lose_2 : decode cX8_lose 2 = .ok (.invokevirtual 208, 3) := by decide +kernel
theorem dX8_lose_5 : decode cX8_lose 5 = .ok (.astore_n 2, 1) := by decide +kernel
theorem dX8_lose_6 : decode cX8_lose 6 = .ok (.aload_n 2, 1) := by decide +kernel
theorem dX8_lose_7 : decode cX8_lose 7 = .ok (.ifnonnull 6, 3) := by decide +kernel
theorem dX8_lose_10 : decode cX8_lose 10 = .ok (.bipush (-2), 2) := by decide +kernel
theorem dX8_lose_12 : decode cX8_lose 12 = .ok (.ireturn, 1) := by decide +kernel
theorem dX8_lose_13 : decode cX8_lose 13 = .ok (.aload_n 2, 1) := by decide +kernel
theorem dX8_lose_14 : decode cX8_lose 14 = .ok (.getfield 212, 3) := by decide +kernel
theorem dX8_lose_17 : decode cX8_lose 17 = .ok (.ifCond .eq 9, 3) := by decide +kernel
theorem dX8_lose_20 : decode cX8_lose 20 = .ok (.aload_n 0, 1) := by decide +kernel
theorem dX8_lose_21 : decode cX8_lose 21 = .ok (.iconst 1, 1) := by decide +kernel
theorem dX8_lose_22 : decode cX8_lose 22 = .ok (.invokevirtual 215, 3) := by decide +kernel
theorem dX8_lose_25 : decode cX8_lose 25 = .ok (.ireturn, 1) := by decide +kernel
theorem dX8_lose_26 : decode cX8_lose 26 = .ok (.aload_n 2, 1) := by decide +kernel
theorem dX8_lose_27 : decode cX8_lose 27 = .ok (.iconst 1, 1) := by decide +kernel
theorem dX8_lose_28 : decode cX8_lose 28 = .ok (.putfield 212, 3) := by decide +kernel
theorem dX8_lose_31 : decode cX8_lose 31 = .ok (.aload_n 2, 1) := by decide +kernel
theorem dX8_lose_32 : decode cX8_lose 32 = .ok (.getfield 218, 3) := by decide +kernel
theorem dX8_lose_35 : decode cX8_lose 35 = .ok (.ireturn, 1) := by decide +kernel
theorem dX8_lay_0 : decode cX8_lay 0 = .ok (.aload_n 0, 1) := by decide +kernel
theorem dX8_lay_1 : decode cX8_lay 1 = .ok (.iload_n 1, 1) := by decide +kernel
theorem dX8_lay_2 : decode cX8_lay 2 = .ok (.invokevirtual 208, 3) := by decide +kernel
theorem dX8_lay_5 : decode cX8_lay 5 = .ok (.astore 5, 2) := by decide +kernel
theorem dX8_lay_7 : decode cX8_lay 7 = .ok (.aload 5, 2) := by decide +kernel
theorem dX8_lay_9 : decode cX8_lay 9 = .ok (.ifnull 12, 3) := by decide +kernel
theorem dX8_lay_12 : decode cX8_lay 12 = .ok (.iload_n 2, 1) := by decide +kernel
theorem dX8_lay_13 : decode cX8_lay 13 = .ok (.iconst 0, 1) := by decide +kernel
theorem dX8_lay_14 : decode cX8_lay 14 = .ok (.iconst 2, 1) := by decide +kernel
theorem dX8_lay_15 : decode cX8_lay 15 = .ok (.invokestatic 91, 3) := by decide +kernel
theorem dX8_lay_18 : decode cX8_lay 18 = .ok (.ifCond .ne 6, 3) := by decide +kernel
theorem dX8_lay_21 : decode cX8_lay 21 = .ok (.bipush (-2), 2) := by decide +kernel
theorem dX8_lay_23 : decode cX8_lay 23 = .ok (.ireturn, 1) := by decide +kernel
theorem dX8_lay_24 : decode cX8_lay 24 = .ok (.aload 5, 2) := by decide +kernel
theorem dX8_lay_26 : decode cX8_lay 26 = .ok (.iload_n 2, 1) := by decide +kernel
theorem dX8_lay_27 : decode cX8_lay 27 = .ok (.iload_n 3, 1) := by decide +kernel
theorem dX8_lay_28 : decode cX8_lay 28 = .ok (.invokevirtual 244, 3) := by decide +kernel
theorem dX8_lay_31 : decode cX8_lay 31 = .ok (.istore 6, 2) := by decide +kernel
theorem dX8_lay_33 : decode cX8_lay 33 = .ok (.iload 6, 2) := by decide +kernel
theorem dX8_lay_35 : decode cX8_lay 35 = .ok (.ifCond .eq 10, 3) := by decide +kernel
theorem dX8_lay_38 : decode cX8_lay 38 = .ok (.aload_n 0, 1) := by decide +kernel
theorem dX8_lay_39 : decode cX8_lay 39 = .ok (.iload 6, 2) := by decide +kernel
theorem dX8_lay_41 : decode cX8_lay 41 = .ok (.invokevirtual 215, 3) := by decide +kernel
theorem dX8_lay_44 : decode cX8_lay 44 = .ok (.ireturn, 1) := by decide +kernel
theorem dX8_lay_45 : decode cX8_lay 45 = .ok (.aload 5, 2) := by decide +kernel
theorem dX8_lay_47 : decode cX8_lay 47 = .ok (.iload_n 3, 1) := by decide +kernel
theorem dX8_lay_48 : decode cX8_lay 48 = .ok (.iload 4, 2) := by decide +kernel
theorem dX8_lay_50 : decode cX8_lay 50 = .ok (.invokevirtual 248, 3) := by decide +kernel
theorem dX8_lay_53 : decode cX8_lay 53 = .ok (.iconst 1, 1) := by decide +kernel
theorem dX8_lay_54 : decode cX8_lay 54 = .ok (.ireturn, 1) := by decide +kernel
theorem dX8_get_0 : decode cX8_get 0 = .ok (.aload_n 0, 1) := by decide +kernel
theorem dX8_get_1 : decode cX8_get 1 = .ok (.iload_n 1, 1) := by decide +kernel
theorem dX8_get_2 : decode cX8_get 2 = .ok (.invokevirtual 208, 3) := by decide +kernel
theorem dX8_get_5 : decode cX8_get 5 = .ok (.astore 4, 2) := by decide +kernel
theorem dX8_get_7 : decode cX8_get 7 = .ok (.aload 4, 2) := by decide +kernel
theorem dX8_get_9 : decode cX8_get 9 = .ok (.ifnull 12, 3) := by decide +kernel
theorem dX8_get_12 : decode cX8_get 12 = .ok (.iload_n 2, 1) := by decide +kernel
theorem dX8_get_13 : decode cX8_get 13 = .ok (.iconst 0, 1) := by decide +kernel
theorem dX8_get_14 : decode cX8_get 14 = .ok (.iconst 2, 1) := by decide +kernel
theorem dX8_get_15 : decode cX8_get 15 = .ok (.invokestatic 91, 3) := by decide +kernel
theorem dX8_get_18 : decode cX8_get 18 = .ok (.ifCond .ne 6, 3) := by decide +kernel
theorem dX8_get_21 : decode cX8_get 21 = .ok (.ldc 251, 2) := by decide +kernel
theorem dX8_get_23 : decode cX8_get 23 = .ok (.ireturn, 1) := by decide +kernel
theorem dX8_get_24 : decode cX8_get 24 = .ok (.aload 4, 2) := by decide +kernel
theorem dX8_get_26 : decode cX8_get 26 = .ok (.iload_n 2, 1) := by decide +kernel
theorem dX8_get_27 : decode cX8_get 27 = .ok (.iload_n 3, 1) := by decide +kernel
theorem dX8_get_28 : decode cX8_get 28 = .ok (.invokevirtual 244, 3) := by decide +kernel
theorem dX8_get_31 : decode cX8_get 31 = .ok (.istore 5, 2) := by decide +kernel
theorem dX8_get_33 : decode cX8_get 33 = .ok (.iload 5, 2) := by decide +kernel
theorem dX8_get_35 : decode cX8_get 35 = .ok (.ifCond .eq 13, 3) := by decide +kernel
theorem dX8_get_38 : decode cX8_get 38 = .ok (.aload_n 0, 1) := by decide +kernel
theorem dX8_get_39 : decode cX8_get 39 = .ok (.iload 5, 2) := by decide +kernel
theorem dX8_get_41 : decode cX8_get 41 = .ok (.invokevirtual 215, 3) := by decide +kernel
theorem dX8_get_44 : decode cX8_get 44 = .ok (.pop, 1) := by decide +kernel
theorem dX8_get_45 : decode cX8_get 45 = .ok (.ldc 251, 2) := by decide +kernel
theorem dX8_get_47 : decode cX8_get 47 = .ok (.ireturn, 1) := by decide +kernel
theorem dX8_get_48 : decode cX8_get 48 = .ok (.aload 4, 2) := by decide +kernel
theorem dX8_get_50 : decode cX8_get 50 = .ok (.iload_n 3, 1) := by decide +kernel
theorem dX8_get_51 : decode cX8_get 51 = .ok (.invokevirtual 219, 3) := by decide +kernel
theorem dX8_get_54 : decode cX8_get 54 = .ok (.ireturn, 1) := by decide +kernel
theorem dX8_copy_0 : decode cX8_copy 0 = .ok (.aload_n 0, 1) := by decide +kernel
theorem dX8_copy_1 : decode cX8_copy 1 = .ok (.iload_n 1, 1) := by decide +kernel
theorem dX8_copy_2 : decode cX8_copy 2 = .ok (.invokevirtual 208, 3) := by decide +kernel
theorem dX8_copy_5 : decode cX8_copy 5 = .ok (.astore 6, 2) := by decide +kernel
theorem dX8_copy_7 : decode cX8_copy 7 = .ok (.aload_n 0, 1) := by decide +kernel
theorem dX8_copy_8 : decode cX8_copy 8 = .ok (.iload_n 3, 1) := by decide +kernel
theorem dX8_copy_9 : decode cX8_copy 9 = .ok (.invokevirtual 208, 3) := by decide +kernel
theorem dX8_copy_12 : decode cX8_copy 12 = .ok (.astore 7, 2) := by decide +kernel
theorem dX8_copy_14 : decode cX8_copy 14 = .ok (.aload 6, 2) := by decide +kernel
theorem dX8_copy_16 : decode cX8_copy 16 = .ok (.ifnull 8, 3) := by decide +kernel
theorem dX8_copy_19 : decode cX8_copy 19 = .ok (.aload 7, 2) := by decide +kernel
theorem dX8_copy_21 : decode cX8_copy 21 = .ok (.ifnonnull 6, 3) := by decide +kernel
theorem dX8_copy_24 : decode cX8_copy 24 = .ok (.bipush (-2), 2) := by decide +kernel
theorem dX8_copy_26 : decode cX8_copy 26 = .ok (.ireturn, 1) := by decide +kernel
theorem dX8_copy_27 : decode cX8_copy 27 = .ok (.aload 6, 2) := by decide +kernel
theorem dX8_copy_29 : decode cX8_copy 29 = .ok (.getfield 212, 3) := by decide +kernel
theorem dX8_copy_32 : decode cX8_copy 32 = .ok (.ifCond .ne 11, 3) := by decide +kernel
theorem dX8_copy_35 : decode cX8_copy 35 = .ok (.aload 7, 2) := by decide +kernel
theorem dX8_copy_37 : decode cX8_copy 37 = .ok (.getfield 212, 3) := by decide +kernel
theorem dX8_copy_40 : decode cX8_copy 40 = .ok (.ifCond .eq 9, 3) := by decide +kernel
theorem dX8_copy_43 : decode cX8_copy 43 = .ok (.aload_n 0, 1) := by decide +kernel
theorem dX8_copy_44 : decode cX8_copy 44 = .ok (.iconst 1, 1) := by decide +kernel
theorem dX8_copy_45 : decode cX8_copy 45 = .ok (.invokevirtual 215, 3) := by decide +kernel
theorem dX8_copy_48 : decode cX8_copy 48 = .ok (.ireturn, 1) := by decide +kernel
theorem dX8_copy_49 : decode cX8_copy 49 = .ok (.aload 6, 2) := by decide +kernel
theorem dX8_copy_51 : decode cX8_copy 51 = .ok (.getfield 252, 3) := by decide +kernel
theorem dX8_copy_54 : decode cX8_copy 54 = .ok (.aload 7, 2) := by decide +kernel
theorem dX8_copy_56 : decode cX8_copy 56 = .ok (.getfield 252, 3) := by decide +kernel
theorem dX8_copy_59 : decode cX8_copy 59 = .ok (.if_icmp .eq 9, 3) := by decide +kernel
theorem dX8_copy_62 : decode cX8_copy 62 = .ok (.aload_n 0, 1) := by decide +kernel
theorem dX8_copy_63 : decode cX8_copy 63 = .ok (.iconst 4, 1) := by decide +kernel
theorem dX8_copy_64 : decode cX8_copy 64 = .ok (.invokevirtual 215, 3) := by decide +kernel
theorem dX8_copy_67 : decode cX8_copy 67 = .ok (.ireturn, 1) := by decide +kernel
theorem dX8_copy_68 : decode cX8_copy 68 = .ok (.aload 6, 2) := by decide +kernel
theorem dX8_copy_70 : decode cX8_copy 70 = .ok (.iload_n 2, 1) := by decide +kernel
theorem dX8_copy_71 : decode cX8_copy 71 = .ok (.iload 5, 2) := by decide +kernel
theorem dX8_copy_73 : decode cX8_copy 73 = .ok (.invokevirtual 255, 3) := by decide +kernel
theorem dX8_copy_76 : decode cX8_copy 76 = .ok (.ifCond .eq 15, 3) := by decide +kernel
theorem dX8_copy_79 : decode cX8_copy 79 = .ok (.aload 7, 2) := by decide +kernel
theorem dX8_copy_81 : decode cX8_copy 81 = .ok (.iload 4, 2) := by decide +kernel
theorem dX8_copy_83 : decode cX8_copy 83 = .ok (.iload 5, 2) := by decide +kernel
theorem dX8_copy_85 : decode cX8_copy 85 = .ok (.invokevirtual 255, 3) := by decide +kernel
theorem dX8_copy_88 : decode cX8_copy 88 = .ok (.ifCond .ne 9, 3) := by decide +kernel
theorem dX8_copy_91 : decode cX8_copy 91 = .ok (.aload_n 0, 1) := by decide +kernel
theorem dX8_copy_92 : decode cX8_copy 92 = .ok (.iconst 2, 1) := by decide +kernel
theorem dX8_copy_93 : decode cX8_copy 93 = .ok (.invokevirtual 215, 3) := by decide +kernel
theorem dX8_copy_96 : decode cX8_copy 96 = .ok (.ireturn, 1) := by decide +kernel
theorem dX8_copy_97 : decode cX8_copy 97 = .ok (.aload 6, 2) := by decide +kernel
theorem dX8_copy_99 : decode cX8_copy 99 = .ok (.getfield 258, 3) := by decide +kernel
theorem dX8_copy_102 : decode cX8_copy 102 = .ok (.iload_n 2, 1) := by decide +kernel
theorem dX8_copy_103 : decode cX8_copy 103 = .ok (.aload 7, 2) := by decide +kernel
theorem dX8_copy_105 : decode cX8_copy 105 = .ok (.getfield 258, 3) := by decide +kernel
theorem dX8_copy_108 : decode cX8_copy 108 = .ok (.iload 4, 2) := by decide +kernel
theorem dX8_copy_110 : decode cX8_copy 110 = .ok (.iload 5, 2) := by decide +kernel
theorem dX8_copy_112 : decode cX8_copy 112 = .ok (.invokestatic 222, 3) := by decide +kernel
theorem dX8_copy_115 : decode cX8_copy 115 = .ok (.iconst 1, 1) := by decide +kernel
theorem dX8_copy_116 : decode cX8_copy 116 = .ok (.ireturn, 1) := by decide +kernel
theorem dX8_write_0 : decode cX8_write 0 = .ok (.aload_n 0, 1) := by decide +kernel
theorem dX8_write_1 : decode cX8_write 1 = .ok (.iload_n 1, 1) := by decide +kernel
theorem dX8_write_2 : decode cX8_write 2 = .ok (.invokevirtual 208, 3) := by decide +kernel
theorem dX8_write_5 : decode cX8_write 5 = .ok (.astore_n 2, 1) := by decide +kernel
theorem dX8_write_6 : decode cX8_write 6 = .ok (.aload_n 2, 1) := by decide +kernel
theorem dX8_write_7 : decode cX8_write 7 = .ok (.ifnonnull 6, 3) := by decide +kernel
theorem dX8_write_10 : decode cX8_write 10 = .ok (.bipush (-2), 2) := by decide +kernel
theorem dX8_write_12 : decode cX8_write 12 = .ok (.ireturn, 1) := by decide +kernel
theorem dX8_write_13 : decode cX8_write 13 = .ok (.aload_n 2, 1) := by decide +kernel
theorem dX8_write_14 : decode cX8_write 14 = .ok (.getfield 212, 3) := by decide +kernel
theorem dX8_write_17 : decode cX8_write 17 = .ok (.ifCond .eq 9, 3) := by decide +kernel
theorem dX8_write_20 : decode cX8_write 20 = .ok (.aload_n 0, 1) := by decide +kernel
theorem dX8_write_21 : decode cX8_write 21 = .ok (.iconst 1, 1) := by decide +kernel
theorem dX8_write_22 : decode cX8_write 22 = .ok (.invokevirtual 215, 3) := by decide +kernel
theorem dX8_write_25 : decode cX8_write 25 = .ok (.ireturn, 1) := by decide +kernel
theorem dX8_write_26 : decode cX8_write 26 = .ok (.aload_n 0, 1) := by decide +kernel
theorem dX8_write_27 : decode cX8_write 27 = .ok (.invokevirtual 110, 3) := by decide +kernel
theorem dX8_write_30 : decode cX8_write 30 = .ok (.aload_n 2, 1) := by decide +kernel
theorem dX8_write_31 : decode cX8_write 31 = .ok (.getfield 218, 3) := by decide +kernel
theorem dX8_write_34 : decode cX8_write 34 = .ok (.aload_n 0, 1) := by decide +kernel
theorem dX8_write_35 : decode cX8_write 35 = .ok (.getfield 32, 3) := by decide +kernel
theorem dX8_write_38 : decode cX8_write 38 = .ok (.getfield 154, 3) := by decide +kernel
theorem dX8_write_41 : decode cX8_write 41 = .ok (.iconst 1, 1) := by decide +kernel
theorem dX8_write_42 : decode cX8_write 42 = .ok (.iadd, 1) := by decide +kernel
theorem dX8_write_43 : decode cX8_write 43 = .ok (.invokestatic 261, 3) := by decide +kernel
theorem dX8_write_46 : decode cX8_write 46 = .ok (.istore_n 3, 1) := by decide +kernel
theorem dX8_write_47 : decode cX8_write 47 = .ok (.iconst 0, 1) := by decide +kernel
theorem dX8_write_48 : decode cX8_write 48 = .ok (.istore 4, 2) := by decide +kernel
theorem dX8_write_50 : decode cX8_write 50 = .ok (.iload 4, 2) := by decide +kernel
theorem dX8_write_52 : decode cX8_write 52 = .ok (.iload_n 3, 1) := by decide +kernel
theorem dX8_write_53 : decode cX8_write 53 = .ok (.if_icmp .ge 22, 3) := by decide +kernel
theorem dX8_write_56 : decode cX8_write 56 = .ok (.aload_n 2, 1) := by decide +kernel
theorem dX8_write_57 : decode cX8_write 57 = .ok (.iload 4, 2) := by decide +kernel
theorem dX8_write_59 : decode cX8_write 59 = .ok (.aload_n 0, 1) := by decide +kernel
theorem dX8_write_60 : decode cX8_write 60 = .ok (.getfield 36, 3) := by decide +kernel
theorem dX8_write_63 : decode cX8_write 63 = .ok (.iload 4, 2) := by decide +kernel
theorem dX8_write_65 : decode cX8_write 65 = .ok (.iaload, 1) := by decide +kernel
theorem dX8_write_66 : decode cX8_write 66 = .ok (.invokevirtual 248, 3) := by decide +kernel
theorem dX8_write_69 : decode cX8_write 69 = .ok (.iinc 4 1, 3) := by decide +kernel
theorem dX8_write_72 : decode cX8_write 72 = .ok (.goto (-22), 3) := by decide +kernel
theorem dX8_write_75 : decode cX8_write 75 = .ok (.iload_n 3, 1) := by decide +kernel
theorem dX8_write_76 : decode cX8_write 76 = .ok (.ireturn, 1) := by decide +kernel
theorem dX8_count_0 : decode cX8_count 0 = .ok (.aload_n 0, 1) := by decide +kernel
theorem dX8_count_1 : decode cX8_count 1 = .ok (.invokevirtual 110, 3) := by decide +kernel
theorem dX8_count_4 : decode cX8_count 4 = .ok (.iload_n 1, 1) := by decide +kernel
theorem dX8_count_5 : decode cX8_count 5 = .ok (.tableswitch 130 0 8 #[51, 59, 67, 75, 85, 95, 105, 117, 125], 51) := by decide +kernel
theorem dX8_count_56 : decode cX8_count 56 = .ok (.aload_n 0, 1) := by decide +kernel
theorem dX8_count_57 : decode cX8_count 57 = .ok (.getfield 18, 3) := by decide +kernel
theorem dX8_count_60 : decode cX8_count 60 = .ok (.getfield 176, 3) := by decide +kernel
theorem dX8_count_63 : decode cX8_count 63 = .ok (.ireturn, 1) := by decide +kernel
theorem dX8_count_64 : decode cX8_count 64 = .ok (.aload_n 0, 1) := by decide +kernel
theorem dX8_count_65 : decode cX8_count 65 = .ok (.getfield 25, 3) := by decide +kernel
theorem dX8_count_68 : decode cX8_count 68 = .ok (.getfield 193, 3) := by decide +kernel
theorem dX8_count_71 : decode cX8_count 71 = .ok (.ireturn, 1) := by decide +kernel
theorem dX8_count_72 : decode cX8_count 72 = .ok (.aload_n 0, 1) := by decide +kernel
theorem dX8_count_73 : decode cX8_count 73 = .ok (.getfield 32, 3) := by decide +kernel
theorem dX8_count_76 : decode cX8_count 76 = .ok (.getfield 154, 3) := by decide +kernel
theorem dX8_count_79 : decode cX8_count 79 = .ok (.ireturn, 1) := by decide +kernel
theorem dX8_count_80 : decode cX8_count 80 = .ok (.aload_n 0, 1) := by decide +kernel
theorem dX8_count_81 : decode cX8_count 81 = .ok (.getfield 11, 3) := by decide +kernel
theorem dX8_count_84 : decode cX8_count 84 = .ok (.iconst 0, 1) := by decide +kernel
theorem dX8_count_85 : decode cX8_count 85 = .ok (.aaload, 1) := by decide +kernel
theorem dX8_count_86 : decode cX8_count 86 = .ok (.getfield 102, 3) := by decide +kernel
theorem dX8_count_89 : decode cX8_count 89 = .ok (.ireturn, 1) := by decide +kernel
theorem dX8_count_90 : decode cX8_count 90 = .ok (.aload_n 0, 1) := by decide +kernel
theorem dX8_count_91 : decode cX8_count 91 = .ok (.getfield 11, 3) := by decide +kernel
theorem dX8_count_94 : decode cX8_count 94 = .ok (.iconst 1, 1) := by decide +kernel
theorem dX8_count_95 : decode cX8_count 95 = .ok (.aaload, 1) := by decide +kernel
theorem dX8_count_96 : decode cX8_count 96 = .ok (.getfield 102, 3) := by decide +kernel
theorem dX8_count_99 : decode cX8_count 99 = .ok (.ireturn, 1) := by decide +kernel
theorem dX8_count_100 : decode cX8_count 100 = .ok (.aload_n 0, 1) := by decide +kernel
theorem dX8_count_101 : decode cX8_count 101 = .ok (.getfield 11, 3) := by decide +kernel
theorem dX8_count_104 : decode cX8_count 104 = .ok (.iconst 2, 1) := by decide +kernel
theorem dX8_count_105 : decode cX8_count 105 = .ok (.aaload, 1) := by decide +kernel
theorem dX8_count_106 : decode cX8_count 106 = .ok (.getfield 102, 3) := by decide +kernel
theorem dX8_count_109 : decode cX8_count 109 = .ok (.ireturn, 1) := by decide +kernel
theorem dX8_count_110 : decode cX8_count 110 = .ok (.aload_n 0, 1) := by decide +kernel
theorem dX8_count_111 : decode cX8_count 111 = .ok (.aload_n 0, 1) := by decide +kernel
theorem dX8_count_112 : decode cX8_count 112 = .ok (.getfield 32, 3) := by decide +kernel
theorem dX8_count_115 : decode cX8_count 115 = .ok (.getfield 154, 3) := by decide +kernel
theorem dX8_count_118 : decode cX8_count 118 = .ok (.invokevirtual 170, 3) := by decide +kernel
theorem dX8_count_121 : decode cX8_count 121 = .ok (.ireturn, 1) := by decide +kernel
theorem dX8_count_122 : decode cX8_count 122 = .ok (.aload_n 0, 1) := by decide +kernel
theorem dX8_count_123 : decode cX8_count 123 = .ok (.getfield 59, 3) := by decide +kernel
theorem dX8_count_126 : decode cX8_count 126 = .ok (.getfield 207, 3) := by decide +kernel
theorem dX8_count_129 : decode cX8_count 129 = .ok (.ireturn, 1) := by decide +kernel
theorem dX8_count_130 : decode cX8_count 130 = .ok (.aload_n 0, 1) := by decide +kernel
theorem dX8_count_131 : decode cX8_count 131 = .ok (.getfield 266, 3) := by decide +kernel
theorem dX8_count_134 : decode cX8_count 134 = .ok (.ireturn, 1) := by decide +kernel
theorem dX8_count_135 : decode cX8_count 135 = .ok (.bipush (-2), 2) := by decide +kernel
theorem dX8_count_137 : decode cX8_count 137 = .ok (.ireturn, 1) := by decide +kernel
theorem dX8_digest_0 : decode cX8_digest 0 = .ok (.aload_n 0, 1) := by decide +kernel
theorem dX8_digest_1 : decode cX8_digest 1 = .ok (.invokevirtual 110, 3) := by decide +kernel
theorem dX8_digest_4 : decode cX8_digest 4 = .ok (.ldc2_w 269, 3) := by decide +kernel
theorem dX8_digest_7 : decode cX8_digest 7 = .ok (.lstore_n 1, 1) := by decide +kernel
theorem dX8_digest_8 : decode cX8_digest 8 = .ok (.iconst 0, 1) := by decide +kernel
theorem dX8_digest_9 : decode cX8_digest 9 = .ok (.istore_n 3, 1) := by decide +kernel
theorem dX8_digest_10 : decode cX8_digest 10 = .ok (.iload_n 3, 1) := by decide +kernel
theorem dX8_digest_11 : decode cX8_digest 11 = .ok (.bipush 7, 2) := by decide +kernel
theorem dX8_digest_13 : decode cX8_digest 13 = .ok (.if_icmp .gt 22, 3) := by decide +kernel
theorem dX8_digest_16 : decode cX8_digest 16 = .ok (.ldc2_w 271, 3) := by decide +kernel
theorem dX8_digest_19 : decode cX8_digest 19 = .ok (.lload_n 1, 1) := by decide +kernel
theorem dX8_digest_20 : decode cX8_digest 20 = .ok (.lmul, 1) := by decide +kernel
theorem dX8_digest_21 : decode cX8_digest 21 = .ok (.aload_n 0, 1) := by decide +kernel
theorem dX8_digest_22 : decode cX8_digest 22 = .ok (.iload_n 3, 1) := by decide +kernel
theorem dX8_digest_23 : decode cX8_digest 23 = .ok (.invokevirtual 273, 3) := by decide +kernel
theorem dX8_digest_26 : decode cX8_digest 26 = .ok (.i2l, 1) := by decide +kernel
theorem dX8_digest_27 : decode cX8_digest 27 = .ok (.ladd, 1) := by decide +kernel
theorem dX8_digest_28 : decode cX8_digest 28 = .ok (.lstore_n 1, 1) := by decide +kernel
theorem dX8_digest_29 : decode cX8_digest 29 = .ok (.iinc 3 1, 3) := by decide +kernel
theorem dX8_digest_32 : decode cX8_digest 32 = .ok (.goto (-22), 3) := by decide +kernel
theorem dX8_digest_35 : decode cX8_digest 35 = .ok (.iconst 0, 1) := by decide +kernel
theorem dX8_digest_36 : decode cX8_digest 36 = .ok (.istore_n 3, 1) := by decide +kernel
theorem dX8_digest_37 : decode cX8_digest 37 = .ok (.iload_n 3, 1) := by decide +kernel
theorem dX8_digest_38 : decode cX8_digest 38 = .ok (.aload_n 0, 1) := by decide +kernel
theorem dX8_digest_39 : decode cX8_digest 39 = .ok (.getfield 11, 3) := by decide +kernel
theorem dX8_digest_42 : decode cX8_digest 42 = .ok (.arraylength, 1) := by decide +kernel
theorem dX8_digest_43 : decode cX8_digest 43 = .ok (.if_icmp .ge 22, 3) := by decide +kernel
theorem dX8_digest_46 : decode cX8_digest 46 = .ok (.ldc2_w 271, 3) := by decide +kernel
theorem dX8_digest_49 : decode cX8_digest 49 = .ok (.lload_n 1, 1) := by decide +kernel
theorem dX8_digest_50 : decode cX8_digest 50 = .ok (.lmul, 1) := by decide +kernel
theorem dX8_digest_51 : decode cX8_digest 51 = .ok (.aload_n 0, 1) := by decide +kernel
theorem dX8_digest_52 : decode cX8_digest 52 = .ok (.iload_n 3, 1) := by decide +kernel
theorem dX8_digest_53 : decode cX8_digest 53 = .ok (.invokevirtual 275, 3) := by decide +kernel
theorem dX8_digest_56 : decode cX8_digest 56 = .ok (.i2l, 1) := by decide +kernel
theorem dX8_digest_57 : decode cX8_digest 57 = .ok (.ladd, 1) := by decide +kernel
theorem dX8_digest_58 : decode cX8_digest 58 = .ok (.lstore_n 1, 1) := by decide +kernel
theorem dX8_digest_59 : decode cX8_digest 59 = .ok (.iinc 3 1, 3) := by decide +kernel
theorem dX8_digest_62 : decode cX8_digest 62 = .ok (.goto (-25), 3) := by decide +kernel
theorem dX8_digest_65 : decode cX8_digest 65 = .ok (.aload_n 0, 1) := by decide +kernel
theorem dX8_digest_66 : decode cX8_digest 66 = .ok (.lload_n 1, 1) := by decide +kernel
theorem dX8_digest_67 : decode cX8_digest 67 = .ok (.invokevirtual 278, 3) := by decide +kernel
theorem dX8_digest_70 : decode cX8_digest 70 = .ok (.lstore_n 1, 1) := by decide +kernel
theorem dX8_digest_71 : decode cX8_digest 71 = .ok (.aload_n 0, 1) := by decide +kernel
theorem dX8_digest_72 : decode cX8_digest 72 = .ok (.lload_n 1, 1) := by decide +kernel
theorem dX8_digest_73 : decode cX8_digest 73 = .ok (.invokevirtual 282, 3) := by decide +kernel
theorem dX8_digest_76 : decode cX8_digest 76 = .ok (.lstore_n 1, 1) := by decide +kernel
theorem dX8_digest_77 : decode cX8_digest 77 = .ok (.aload_n 0, 1) := by decide +kernel
theorem dX8_digest_78 : decode cX8_digest 78 = .ok (.lload_n 1, 1) := by decide +kernel
theorem dX8_digest_79 : decode cX8_digest 79 = .ok (.invokevirtual 285, 3) := by decide +kernel
theorem dX8_digest_82 : decode cX8_digest 82 = .ok (.lstore_n 1, 1) := by decide +kernel
theorem dX8_digest_83 : decode cX8_digest 83 = .ok (.ldc2_w 271, 3) := by decide +kernel
theorem dX8_digest_86 : decode cX8_digest 86 = .ok (.lload_n 1, 1) := by decide +kernel
theorem dX8_digest_87 : decode cX8_digest 87 = .ok (.lmul, 1) := by decide +kernel
theorem dX8_digest_88 : decode cX8_digest 88 = .ok (.aload_n 0, 1) := by decide +kernel
theorem dX8_digest_89 : decode cX8_digest 89 = .ok (.invokevirtual 288, 3) := by decide +kernel
theorem dX8_digest_92 : decode cX8_digest 92 = .ok (.i2l, 1) := by decide +kernel
theorem dX8_digest_93 : decode cX8_digest 93 = .ok (.ladd, 1) := by decide +kernel
theorem dX8_digest_94 : decode cX8_digest 94 = .ok (.lstore_n 1, 1) := by decide +kernel
theorem dX8_digest_95 : decode cX8_digest 95 = .ok (.ldc2_w 271, 3) := by decide +kernel
theorem dX8_digest_98 : decode cX8_digest 98 = .ok (.lload_n 1, 1) := by decide +kernel
theorem dX8_digest_99 : decode cX8_digest 99 = .ok (.lmul, 1) := by decide +kernel
theorem dX8_digest_100 : decode cX8_digest 100 = .ok (.aload_n 0, 1) := by decide +kernel
theorem dX8_digest_101 : decode cX8_digest 101 = .ok (.invokevirtual 291, 3) := by decide +kernel
theorem dX8_digest_104 : decode cX8_digest 104 = .ok (.i2l, 1) := by decide +kernel
theorem dX8_digest_105 : decode cX8_digest 105 = .ok (.ladd, 1) := by decide +kernel
theorem dX8_digest_106 : decode cX8_digest 106 = .ok (.lstore_n 1, 1) := by decide +kernel
theorem dX8_digest_107 : decode cX8_digest 107 = .ok (.iconst 0, 1) := by decide +kernel
theorem dX8_digest_108 : decode cX8_digest 108 = .ok (.istore_n 3, 1) := by decide +kernel
theorem dX8_digest_109 : decode cX8_digest 109 = .ok (.iload_n 3, 1) := by decide +kernel
theorem dX8_digest_110 : decode cX8_digest 110 = .ok (.iconst 3, 1) := by decide +kernel
theorem dX8_digest_111 : decode cX8_digest 111 = .ok (.if_icmp .gt 22, 3) := by decide +kernel
theorem dX8_digest_114 : decode cX8_digest 114 = .ok (.ldc2_w 271, 3) := by decide +kernel
theorem dX8_digest_117 : decode cX8_digest 117 = .ok (.lload_n 1, 1) := by decide +kernel
theorem dX8_digest_118 : decode cX8_digest 118 = .ok (.lmul, 1) := by decide +kernel
theorem dX8_digest_119 : decode cX8_digest 119 = .ok (.aload_n 0, 1) := by decide +kernel
theorem dX8_digest_120 : decode cX8_digest 120 = .ok (.iload_n 3, 1) := by decide +kernel
theorem dX8_digest_121 : decode cX8_digest 121 = .ok (.invokevirtual 294, 3) := by decide +kernel
theorem dX8_digest_124 : decode cX8_digest 124 = .ok (.i2l, 1) := by decide +kernel
theorem dX8_digest_125 : decode cX8_digest 125 = .ok (.ladd, 1) := by decide +kernel
theorem dX8_digest_126 : decode cX8_digest 126 = .ok (.lstore_n 1, 1) := by decide +kernel
theorem dX8_digest_127 : decode cX8_digest 127 = .ok (.iinc 3 1, 3) := by decide +kernel
theorem dX8_digest_130 : decode cX8_digest 130 = .ok (.goto (-21), 3) := by decide +kernel
theorem dX8_digest_133 : decode cX8_digest 133 = .ok (.iconst 0, 1) := by decide +kernel
theorem dX8_digest_134 : decode cX8_digest 134 = .ok (.istore_n 3, 1) := by decide +kernel
theorem dX8_digest_135 : decode cX8_digest 135 = .ok (.iload_n 3, 1) := by decide +kernel
theorem dX8_digest_136 : decode cX8_digest 136 = .ok (.iconst 4, 1) := by decide +kernel
theorem dX8_digest_137 : decode cX8_digest 137 = .ok (.if_icmp .ge 22, 3) := by decide +kernel
theorem dX8_digest_140 : decode cX8_digest 140 = .ok (.ldc2_w 271, 3) := by decide +kernel
theorem dX8_digest_143 : decode cX8_digest 143 = .ok (.lload_n 1, 1) := by decide +kernel
theorem dX8_digest_144 : decode cX8_digest 144 = .ok (.lmul, 1) := by decide +kernel
theorem dX8_digest_145 : decode cX8_digest 145 = .ok (.aload_n 0, 1) := by decide +kernel
theorem dX8_digest_146 : decode cX8_digest 146 = .ok (.iload_n 3, 1) := by decide +kernel
theorem dX8_digest_147 : decode cX8_digest 147 = .ok (.invokevirtual 297, 3) := by decide +kernel
theorem dX8_digest_150 : decode cX8_digest 150 = .ok (.i2l, 1) := by decide +kernel
theorem dX8_digest_151 : decode cX8_digest 151 = .ok (.ladd, 1) := by decide +kernel
theorem dX8_digest_152 : decode cX8_digest 152 = .ok (.lstore_n 1, 1) := by decide +kernel
theorem dX8_digest_153 : decode cX8_digest 153 = .ok (.iinc 3 1, 3) := by decide +kernel
theorem dX8_digest_156 : decode cX8_digest 156 = .ok (.goto (-21), 3) := by decide +kernel
theorem dX8_digest_159 : decode cX8_digest 159 = .ok (.ldc2_w 271, 3) := by decide +kernel
theorem dX8_digest_162 : decode cX8_digest 162 = .ok (.lload_n 1, 1) := by decide +kernel
theorem dX8_digest_163 : decode cX8_digest 163 = .ok (.lmul, 1) := by decide +kernel
theorem dX8_digest_164 : decode cX8_digest 164 = .ok (.aload_n 0, 1) := by decide +kernel
theorem dX8_digest_165 : decode cX8_digest 165 = .ok (.invokevirtual 300, 3) := by decide +kernel
theorem dX8_digest_168 : decode cX8_digest 168 = .ok (.i2l, 1) := by decide +kernel
theorem dX8_digest_169 : decode cX8_digest 169 = .ok (.ladd, 1) := by decide +kernel
theorem dX8_digest_170 : decode cX8_digest 170 = .ok (.lstore_n 1, 1) := by decide +kernel
theorem dX8_digest_171 : decode cX8_digest 171 = .ok (.ldc2_w 271, 3) := by decide +kernel
theorem dX8_digest_174 : decode cX8_digest 174 = .ok (.lload_n 1, 1) := by decide +kernel
theorem dX8_digest_175 : decode cX8_digest 175 = .ok (.lmul, 1) := by decide +kernel
theorem dX8_digest_176 : decode cX8_digest 176 = .ok (.aload_n 0, 1) := by decide +kernel
theorem dX8_digest_177 : decode cX8_digest 177 = .ok (.invokevirtual 303, 3) := by decide +kernel
theorem dX8_digest_180 : decode cX8_digest 180 = .ok (.i2l, 1) := by decide +kernel
theorem dX8_digest_181 : decode cX8_digest 181 = .ok (.ladd, 1) := by decide +kernel
theorem dX8_digest_182 : decode cX8_digest 182 = .ok (.lstore_n 1, 1) := by decide +kernel
theorem dX8_digest_183 : decode cX8_digest 183 = .ok (.ldc2_w 271, 3) := by decide +kernel
theorem dX8_digest_186 : decode cX8_digest 186 = .ok (.lload_n 1, 1) := by decide +kernel
theorem dX8_digest_187 : decode cX8_digest 187 = .ok (.lmul, 1) := by decide +kernel
theorem dX8_digest_188 : decode cX8_digest 188 = .ok (.aload_n 0, 1) := by decide +kernel
theorem dX8_digest_189 : decode cX8_digest 189 = .ok (.bipush 7, 2) := by decide +kernel
theorem dX8_digest_191 : decode cX8_digest 191 = .ok (.bipush 30, 2) := by decide +kernel
theorem dX8_digest_193 : decode cX8_digest 193 = .ok (.iconst 0, 1) := by decide +kernel
theorem dX8_digest_194 : decode cX8_digest 194 = .ok (.invokevirtual 306, 3) := by decide +kernel
theorem dX8_digest_197 : decode cX8_digest 197 = .ok (.i2l, 1) := by decide +kernel
theorem dX8_digest_198 : decode cX8_digest 198 = .ok (.ladd, 1) := by decide +kernel
theorem dX8_digest_199 : decode cX8_digest 199 = .ok (.lstore_n 1, 1) := by decide +kernel
theorem dX8_digest_200 : decode cX8_digest 200 = .ok (.ldc2_w 271, 3) := by decide +kernel
theorem dX8_digest_203 : decode cX8_digest 203 = .ok (.lload_n 1, 1) := by decide +kernel
theorem dX8_digest_204 : decode cX8_digest 204 = .ok (.lmul, 1) := by decide +kernel
theorem dX8_digest_205 : decode cX8_digest 205 = .ok (.aload_n 0, 1) := by decide +kernel
theorem dX8_digest_206 : decode cX8_digest 206 = .ok (.bipush 7, 2) := by decide +kernel
theorem dX8_digest_208 : decode cX8_digest 208 = .ok (.bipush 30, 2) := by decide +kernel
theorem dX8_digest_210 : decode cX8_digest 210 = .ok (.iconst 1, 1) := by decide +kernel
theorem dX8_digest_211 : decode cX8_digest 211 = .ok (.invokevirtual 306, 3) := by decide +kernel
theorem dX8_digest_214 : decode cX8_digest 214 = .ok (.i2l, 1) := by decide +kernel
theorem dX8_digest_215 : decode cX8_digest 215 = .ok (.ladd, 1) := by decide +kernel
theorem dX8_digest_216 : decode cX8_digest 216 = .ok (.lreturn, 1) := by decide +kernel
theorem dX8_digestPlanks_0 : decode cX8_digestPlanks 0 = .ok (.lload_n 1, 1) := by decide +kernel
theorem dX8_digestPlanks_1 : decode cX8_digestPlanks 1 = .ok (.lstore_n 3, 1) := by decide +kernel
theorem dX8_digestPlanks_2 : decode cX8_digestPlanks 2 = .ok (.iconst 0, 1) := by decide +kernel
theorem dX8_digestPlanks_3 : decode cX8_digestPlanks 3 = .ok (.istore 5, 2) := by decide +kernel
theorem dX8_digestPlanks_5 : decode cX8_digestPlanks 5 = .ok (.iload 5, 2) := by decide +kernel
theorem dX8_digestPlanks_7 : decode cX8_digestPlanks 7 = .ok (.aload_n 0, 1) := by decide +kernel
theorem dX8_digestPlanks_8 : decode cX8_digestPlanks 8 = .ok (.getfield 18, 3) := by decide +kernel
theorem dX8_digestPlanks_11 : decode cX8_digestPlanks 11 = .ok (.getfield 176, 3) := by decide +kernel
theorem dX8_digestPlanks_14 : decode cX8_digestPlanks 14 = .ok (.if_icmp .ge 53, 3) := by decide +kernel
theorem dX8_digestPlanks_17 : decode cX8_digestPlanks 17 = .ok (.ldc2_w 271, 3) := by decide +kernel
theorem dX8_digestPlanks_20 : decode cX8_digestPlanks 20 = .ok (.lload_n 3, 1) := by decide +kernel
theorem dX8_digestPlanks_21 : decode cX8_digestPlanks 21 = .ok (.lmul, 1) := by decide +kernel
theorem dX8_digestPlanks_22 : decode cX8_digestPlanks 22 = .ok (.aload_n 0, 1) := by decide +kernel
theorem dX8_digestPlanks_23 : decode cX8_digestPlanks 23 = .ok (.iload 5, 2) := by decide +kernel
theorem dX8_digestPlanks_25 : decode cX8_digestPlanks 25 = .ok (.invokevirtual 310, 3) := by decide +kernel
theorem dX8_digestPlanks_28 : decode cX8_digestPlanks 28 = .ok (.i2l, 1) := by decide +kernel
theorem dX8_digestPlanks_29 : decode cX8_digestPlanks 29 = .ok (.ladd, 1) := by decide +kernel
theorem dX8_digestPlanks_30 : decode cX8_digestPlanks 30 = .ok (.lstore_n 3, 1) := by decide +kernel
theorem dX8_digestPlanks_31 : decode cX8_digestPlanks 31 = .ok (.ldc2_w 271, 3) := by decide +kernel
theorem dX8_digestPlanks_34 : decode cX8_digestPlanks 34 = .ok (.lload_n 3, 1) := by decide +kernel
theorem dX8_digestPlanks_35 : decode cX8_digestPlanks 35 = .ok (.lmul, 1) := by decide +kernel
theorem dX8_digestPlanks_36 : decode cX8_digestPlanks 36 = .ok (.aload_n 0, 1) := by decide +kernel
theorem dX8_digestPlanks_37 : decode cX8_digestPlanks 37 = .ok (.iconst 5, 1) := by decide +kernel
theorem dX8_digestPlanks_38 : decode cX8_digestPlanks 38 = .ok (.iload 5, 2) := by decide +kernel
theorem dX8_digestPlanks_40 : decode cX8_digestPlanks 40 = .ok (.iconst 0, 1) := by decide +kernel
theorem dX8_digestPlanks_41 : decode cX8_digestPlanks 41 = .ok (.invokevirtual 313, 3) := by decide +kernel
theorem dX8_digestPlanks_44 : decode cX8_digestPlanks 44 = .ok (.ladd, 1) := by decide +kernel
theorem dX8_digestPlanks_45 : decode cX8_digestPlanks 45 = .ok (.lstore_n 3, 1) := by decide +kernel
theorem dX8_digestPlanks_46 : decode cX8_digestPlanks 46 = .ok (.ldc2_w 271, 3) := by decide +kernel
theorem dX8_digestPlanks_49 : decode cX8_digestPlanks 49 = .ok (.lload_n 3, 1) := by decide +kernel
theorem dX8_digestPlanks_50 : decode cX8_digestPlanks 50 = .ok (.lmul, 1) := by decide +kernel
theorem dX8_digestPlanks_51 : decode cX8_digestPlanks 51 = .ok (.aload_n 0, 1) := by decide +kernel
theorem dX8_digestPlanks_52 : decode cX8_digestPlanks 52 = .ok (.iconst 5, 1) := by decide +kernel
theorem dX8_digestPlanks_53 : decode cX8_digestPlanks 53 = .ok (.iload 5, 2) := by decide +kernel
theorem dX8_digestPlanks_55 : decode cX8_digestPlanks 55 = .ok (.iconst 1, 1) := by decide +kernel
theorem dX8_digestPlanks_56 : decode cX8_digestPlanks 56 = .ok (.invokevirtual 313, 3) := by decide +kernel
theorem dX8_digestPlanks_59 : decode cX8_digestPlanks 59 = .ok (.ladd, 1) := by decide +kernel
theorem dX8_digestPlanks_60 : decode cX8_digestPlanks 60 = .ok (.lstore_n 3, 1) := by decide +kernel
theorem dX8_digestPlanks_61 : decode cX8_digestPlanks 61 = .ok (.iinc 5 1, 3) := by decide +kernel
theorem dX8_digestPlanks_64 : decode cX8_digestPlanks 64 = .ok (.goto (-59), 3) := by decide +kernel
theorem dX8_digestPlanks_67 : decode cX8_digestPlanks 67 = .ok (.lload_n 3, 1) := by decide +kernel
theorem dX8_digestPlanks_68 : decode cX8_digestPlanks 68 = .ok (.lreturn, 1) := by decide +kernel
theorem dX8_digestCrossers_0 : decode cX8_digestCrossers 0 = .ok (.lload_n 1, 1) := by decide +kernel
theorem dX8_digestCrossers_1 : decode cX8_digestCrossers 1 = .ok (.lstore_n 3, 1) := by decide +kernel
theorem dX8_digestCrossers_2 : decode cX8_digestCrossers 2 = .ok (.iconst 0, 1) := by decide +kernel
theorem dX8_digestCrossers_3 : decode cX8_digestCrossers 3 = .ok (.istore 5, 2) := by decide +kernel
theorem dX8_digestCrossers_5 : decode cX8_digestCrossers 5 = .ok (.iload 5, 2) := by decide +kernel
theorem dX8_digestCrossers_7 : decode cX8_digestCrossers 7 = .ok (.aload_n 0, 1) := by decide +kernel
theorem dX8_digestCrossers_8 : decode cX8_digestCrossers 8 = .ok (.getfield 25, 3) := by decide +kernel
theorem dX8_digestCrossers_11 : decode cX8_digestCrossers 11 = .ok (.getfield 193, 3) := by decide +kernel
theorem dX8_digestCrossers_14 : decode cX8_digestCrossers 14 = .ok (.if_icmp .ge 99, 3) := by decide +kernel
theorem dX8_digestCrossers_17 : decode cX8_digestCrossers 17 = .ok (.iconst 0, 1) := by decide +kernel
theorem dX8_digestCrossers_18 : decode cX8_digestCrossers 18 = .ok (.istore 6, 2) := by decide +kernel
theorem dX8_digestCrossers_20 : decode cX8_digestCrossers 20 = .ok (.iload 6, 2) := by decide +kernel
theorem dX8_digestCrossers_22 : decode cX8_digestCrossers 22 = .ok (.iconst 3, 1) := by decide +kernel
theorem dX8_digestCrossers_23 : decode cX8_digestCrossers 23 = .ok (.if_icmp .gt 25, 3) := by decide +kernel
theorem dX8_digestCrossers_26 : decode cX8_digestCrossers 26 = .ok (.ldc2_w 271, 3) := by decide +kernel
theorem dX8_digestCrossers_29 : decode cX8_digestCrossers 29 = .ok (.lload_n 3, 1) := by decide +kernel
theorem dX8_digestCrossers_30 : decode cX8_digestCrossers 30 = .ok (.lmul, 1) := by decide +kernel
theorem dX8_digestCrossers_31 : decode cX8_digestCrossers 31 = .ok (.aload_n 0, 1) := by decide +kernel
theorem dX8_digestCrossers_32 : decode cX8_digestCrossers 32 = .ok (.iload 5, 2) := by decide +kernel
theorem dX8_digestCrossers_34 : decode cX8_digestCrossers 34 = .ok (.iload 6, 2) := by decide +kernel
theorem dX8_digestCrossers_36 : decode cX8_digestCrossers 36 = .ok (.invokevirtual 317, 3) := by decide +kernel
theorem dX8_digestCrossers_39 : decode cX8_digestCrossers 39 = .ok (.i2l, 1) := by decide +kernel
theorem dX8_digestCrossers_40 : decode cX8_digestCrossers 40 = .ok (.ladd, 1) := by decide +kernel
theorem dX8_digestCrossers_41 : decode cX8_digestCrossers 41 = .ok (.lstore_n 3, 1) := by decide +kernel
theorem dX8_digestCrossers_42 : decode cX8_digestCrossers 42 = .ok (.iinc 6 1, 3) := by decide +kernel
theorem dX8_digestCrossers_45 : decode cX8_digestCrossers 45 = .ok (.goto (-25), 3) := by decide +kernel
theorem dX8_digestCrossers_48 : decode cX8_digestCrossers 48 = .ok (.ldc2_w 271, 3) := by decide +kernel
theorem dX8_digestCrossers_51 : decode cX8_digestCrossers 51 = .ok (.lload_n 3, 1) := by decide +kernel
theorem dX8_digestCrossers_52 : decode cX8_digestCrossers 52 = .ok (.lmul, 1) := by decide +kernel
theorem dX8_digestCrossers_53 : decode cX8_digestCrossers 53 = .ok (.aload_n 0, 1) := by decide +kernel
theorem dX8_digestCrossers_54 : decode cX8_digestCrossers 54 = .ok (.iload 5, 2) := by decide +kernel
theorem dX8_digestCrossers_56 : decode cX8_digestCrossers 56 = .ok (.iconst 0, 1) := by decide +kernel
theorem dX8_digestCrossers_57 : decode cX8_digestCrossers 57 = .ok (.invokevirtual 320, 3) := by decide +kernel
theorem dX8_digestCrossers_60 : decode cX8_digestCrossers 60 = .ok (.i2l, 1) := by decide +kernel
theorem dX8_digestCrossers_61 : decode cX8_digestCrossers 61 = .ok (.ladd, 1) := by decide +kernel
theorem dX8_digestCrossers_62 : decode cX8_digestCrossers 62 = .ok (.lstore_n 3, 1) := by decide +kernel
theorem dX8_digestCrossers_63 : decode cX8_digestCrossers 63 = .ok (.ldc2_w 271, 3) := by decide +kernel
theorem dX8_digestCrossers_66 : decode cX8_digestCrossers 66 = .ok (.lload_n 3, 1) := by decide +kernel
theorem dX8_digestCrossers_67 : decode cX8_digestCrossers 67 = .ok (.lmul, 1) := by decide +kernel
theorem dX8_digestCrossers_68 : decode cX8_digestCrossers 68 = .ok (.aload_n 0, 1) := by decide +kernel
theorem dX8_digestCrossers_69 : decode cX8_digestCrossers 69 = .ok (.iload 5, 2) := by decide +kernel
theorem dX8_digestCrossers_71 : decode cX8_digestCrossers 71 = .ok (.iconst 1, 1) := by decide +kernel
theorem dX8_digestCrossers_72 : decode cX8_digestCrossers 72 = .ok (.invokevirtual 320, 3) := by decide +kernel
theorem dX8_digestCrossers_75 : decode cX8_digestCrossers 75 = .ok (.i2l, 1) := by decide +kernel
theorem dX8_digestCrossers_76 : decode cX8_digestCrossers 76 = .ok (.ladd, 1) := by decide +kernel
theorem dX8_digestCrossers_77 : decode cX8_digestCrossers 77 = .ok (.lstore_n 3, 1) := by decide +kernel
theorem dX8_digestCrossers_78 : decode cX8_digestCrossers 78 = .ok (.ldc2_w 271, 3) := by decide +kernel
theorem dX8_digestCrossers_81 : decode cX8_digestCrossers 81 = .ok (.lload_n 3, 1) := by decide +kernel
theorem dX8_digestCrossers_82 : decode cX8_digestCrossers 82 = .ok (.lmul, 1) := by decide +kernel
theorem dX8_digestCrossers_83 : decode cX8_digestCrossers 83 = .ok (.aload_n 0, 1) := by decide +kernel
theorem dX8_digestCrossers_84 : decode cX8_digestCrossers 84 = .ok (.iload 5, 2) := by decide +kernel
theorem dX8_digestCrossers_86 : decode cX8_digestCrossers 86 = .ok (.invokevirtual 323, 3) := by decide +kernel
theorem dX8_digestCrossers_89 : decode cX8_digestCrossers 89 = .ok (.i2l, 1) := by decide +kernel
theorem dX8_digestCrossers_90 : decode cX8_digestCrossers 90 = .ok (.ladd, 1) := by decide +kernel
theorem dX8_digestCrossers_91 : decode cX8_digestCrossers 91 = .ok (.lstore_n 3, 1) := by decide +kernel
theorem dX8_digestCrossers_92 : decode cX8_digestCrossers 92 = .ok (.ldc2_w 271, 3) := by decide +kernel
theorem dX8_digestCrossers_95 : decode cX8_digestCrossers 95 = .ok (.lload_n 3, 1) := by decide +kernel
theorem dX8_digestCrossers_96 : decode cX8_digestCrossers 96 = .ok (.lmul, 1) := by decide +kernel
theorem dX8_digestCrossers_97 : decode cX8_digestCrossers 97 = .ok (.aload_n 0, 1) := by decide +kernel
theorem dX8_digestCrossers_98 : decode cX8_digestCrossers 98 = .ok (.iload 5, 2) := by decide +kernel
theorem dX8_digestCrossers_100 : decode cX8_digestCrossers 100 = .ok (.iconst 0, 1) := by decide +kernel
theorem dX8_digestCrossers_101 : decode cX8_digestCrossers 101 = .ok (.invokevirtual 326, 3) := by decide +kernel
theorem dX8_digestCrossers_104 : decode cX8_digestCrossers 104 = .ok (.i2l, 1) := by decide +kernel
theorem dX8_digestCrossers_105 : decode cX8_digestCrossers 105 = .ok (.ladd, 1) := by decide +kernel
theorem dX8_digestCrossers_106 : decode cX8_digestCrossers 106 = .ok (.lstore_n 3, 1) := by decide +kernel
theorem dX8_digestCrossers_107 : decode cX8_digestCrossers 107 = .ok (.iinc 5 1, 3) := by decide +kernel
theorem dX8_digestCrossers_110 : decode cX8_digestCrossers 110 = .ok (.goto (-105), 3) := by decide +kernel
theorem dX8_digestCrossers_113 : decode cX8_digestCrossers 113 = .ok (.lload_n 3, 1) := by decide +kernel
theorem dX8_digestCrossers_114 : decode cX8_digestCrossers 114 = .ok (.lreturn, 1) := by decide +kernel
theorem dX8_digestCrossings_0 : decode cX8_digestCrossings 0 = .ok (.lload_n 1, 1) := by decide +kernel
theorem dX8_digestCrossings_1 : decode cX8_digestCrossings 1 = .ok (.lstore_n 3, 1) := by decide +kernel
theorem dX8_digestCrossings_2 : decode cX8_digestCrossings 2 = .ok (.iconst 0, 1) := by decide +kernel
theorem dX8_digestCrossings_3 : decode cX8_digestCrossings 3 = .ok (.istore 5, 2) := by decide +kernel
theorem dX8_digestCrossings_5 : decode cX8_digestCrossings 5 = .ok (.iload 5, 2) := by decide +kernel
theorem dX8_digestCrossings_7 : decode cX8_digestCrossings 7 = .ok (.aload_n 0, 1) := by decide +kernel
theorem dX8_digestCrossings_8 : decode cX8_digestCrossings 8 = .ok (.getfield 32, 3) := by decide +kernel
theorem dX8_digestCrossings_11 : decode cX8_digestCrossings 11 = .ok (.getfield 154, 3) := by decide +kernel
theorem dX8_digestCrossings_14 : decode cX8_digestCrossings 14 = .ok (.if_icmp .ge 54, 3) := by decide +kernel
theorem dX8_digestCrossings_17 : decode cX8_digestCrossings 17 = .ok (.ldc2_w 271, 3) := by decide +kernel
theorem dX8_digestCrossings_20 : decode cX8_digestCrossings 20 = .ok (.lload_n 3, 1) := by decide +kernel
theorem dX8_digestCrossings_21 : decode cX8_digestCrossings 21 = .ok (.lmul, 1) := by decide +kernel
theorem dX8_digestCrossings_22 : decode cX8_digestCrossings 22 = .ok (.aload_n 0, 1) := by decide +kernel
theorem dX8_digestCrossings_23 : decode cX8_digestCrossings 23 = .ok (.iload 5, 2) := by decide +kernel
theorem dX8_digestCrossings_25 : decode cX8_digestCrossings 25 = .ok (.invokevirtual 329, 3) := by decide +kernel
theorem dX8_digestCrossings_28 : decode cX8_digestCrossings 28 = .ok (.i2l, 1) := by decide +kernel
theorem dX8_digestCrossings_29 : decode cX8_digestCrossings 29 = .ok (.ladd, 1) := by decide +kernel
theorem dX8_digestCrossings_30 : decode cX8_digestCrossings 30 = .ok (.lstore_n 3, 1) := by decide +kernel
theorem dX8_digestCrossings_31 : decode cX8_digestCrossings 31 = .ok (.iconst 0, 1) := by decide +kernel
theorem dX8_digestCrossings_32 : decode cX8_digestCrossings 32 = .ok (.istore 6, 2) := by decide +kernel
theorem dX8_digestCrossings_34 : decode cX8_digestCrossings 34 = .ok (.iload 6, 2) := by decide +kernel
theorem dX8_digestCrossings_36 : decode cX8_digestCrossings 36 = .ok (.iconst 2, 1) := by decide +kernel
theorem dX8_digestCrossings_37 : decode cX8_digestCrossings 37 = .ok (.if_icmp .gt 25, 3) := by decide +kernel
theorem dX8_digestCrossings_40 : decode cX8_digestCrossings 40 = .ok (.ldc2_w 271, 3) := by decide +kernel
theorem dX8_digestCrossings_43 : decode cX8_digestCrossings 43 = .ok (.lload_n 3, 1) := by decide +kernel
theorem dX8_digestCrossings_44 : decode cX8_digestCrossings 44 = .ok (.lmul, 1) := by decide +kernel
theorem dX8_digestCrossings_45 : decode cX8_digestCrossings 45 = .ok (.aload_n 0, 1) := by decide +kernel
theorem dX8_digestCrossings_46 : decode cX8_digestCrossings 46 = .ok (.iload 5, 2) := by decide +kernel
theorem dX8_digestCrossings_48 : decode cX8_digestCrossings 48 = .ok (.iload 6, 2) := by decide +kernel
theorem dX8_digestCrossings_50 : decode cX8_digestCrossings 50 = .ok (.invokevirtual 331, 3) := by decide +kernel
theorem dX8_digestCrossings_53 : decode cX8_digestCrossings 53 = .ok (.i2l, 1) := by decide +kernel
theorem dX8_digestCrossings_54 : decode cX8_digestCrossings 54 = .ok (.ladd, 1) := by decide +kernel
theorem dX8_digestCrossings_55 : decode cX8_digestCrossings 55 = .ok (.lstore_n 3, 1) := by decide +kernel
theorem dX8_digestCrossings_56 : decode cX8_digestCrossings 56 = .ok (.iinc 6 1, 3) := by decide +kernel
theorem dX8_digestCrossings_59 : decode cX8_digestCrossings 59 = .ok (.goto (-25), 3) := by decide +kernel
theorem dX8_digestCrossings_62 : decode cX8_digestCrossings 62 = .ok (.iinc 5 1, 3) := by decide +kernel
theorem dX8_digestCrossings_65 : decode cX8_digestCrossings 65 = .ok (.goto (-60), 3) := by decide +kernel
theorem dX8_digestCrossings_68 : decode cX8_digestCrossings 68 = .ok (.iconst 0, 1) := by decide +kernel
theorem dX8_digestCrossings_69 : decode cX8_digestCrossings 69 = .ok (.istore 5, 2) := by decide +kernel
theorem dX8_digestCrossings_71 : decode cX8_digestCrossings 71 = .ok (.iload 5, 2) := by decide +kernel
theorem dX8_digestCrossings_73 : decode cX8_digestCrossings 73 = .ok (.aload_n 0, 1) := by decide +kernel
theorem dX8_digestCrossings_74 : decode cX8_digestCrossings 74 = .ok (.getfield 32, 3) := by decide +kernel
theorem dX8_digestCrossings_77 : decode cX8_digestCrossings 77 = .ok (.getfield 154, 3) := by decide +kernel
theorem dX8_digestCrossings_80 : decode cX8_digestCrossings 80 = .ok (.if_icmp .gt 37, 3) := by decide +kernel
theorem dX8_digestCrossings_83 : decode cX8_digestCrossings 83 = .ok (.ldc2_w 271, 3) := by decide +kernel
theorem dX8_digestCrossings_86 : decode cX8_digestCrossings 86 = .ok (.lload_n 3, 1) := by decide +kernel
theorem dX8_digestCrossings_87 : decode cX8_digestCrossings 87 = .ok (.lmul, 1) := by decide +kernel
theorem dX8_digestCrossings_88 : decode cX8_digestCrossings 88 = .ok (.aload_n 0, 1) := by decide +kernel
theorem dX8_digestCrossings_89 : decode cX8_digestCrossings 89 = .ok (.iload 5, 2) := by decide +kernel
theorem dX8_digestCrossings_91 : decode cX8_digestCrossings 91 = .ok (.invokevirtual 334, 3) := by decide +kernel
theorem dX8_digestCrossings_94 : decode cX8_digestCrossings 94 = .ok (.i2l, 1) := by decide +kernel
theorem dX8_digestCrossings_95 : decode cX8_digestCrossings 95 = .ok (.ladd, 1) := by decide +kernel
theorem dX8_digestCrossings_96 : decode cX8_digestCrossings 96 = .ok (.lstore_n 3, 1) := by decide +kernel
theorem dX8_digestCrossings_97 : decode cX8_digestCrossings 97 = .ok (.ldc2_w 271, 3) := by decide +kernel
theorem dX8_digestCrossings_100 : decode cX8_digestCrossings 100 = .ok (.lload_n 3, 1) := by decide +kernel
theorem dX8_digestCrossings_101 : decode cX8_digestCrossings 101 = .ok (.lmul, 1) := by decide +kernel
theorem dX8_digestCrossings_102 : decode cX8_digestCrossings 102 = .ok (.aload_n 0, 1) := by decide +kernel
theorem dX8_digestCrossings_103 : decode cX8_digestCrossings 103 = .ok (.iload 5, 2) := by decide +kernel
theorem dX8_digestCrossings_105 : decode cX8_digestCrossings 105 = .ok (.invokevirtual 337, 3) := by decide +kernel
theorem dX8_digestCrossings_108 : decode cX8_digestCrossings 108 = .ok (.i2l, 1) := by decide +kernel
theorem dX8_digestCrossings_109 : decode cX8_digestCrossings 109 = .ok (.ladd, 1) := by decide +kernel
theorem dX8_digestCrossings_110 : decode cX8_digestCrossings 110 = .ok (.lstore_n 3, 1) := by decide +kernel
theorem dX8_digestCrossings_111 : decode cX8_digestCrossings 111 = .ok (.iinc 5 1, 3) := by decide +kernel
theorem dX8_digestCrossings_114 : decode cX8_digestCrossings 114 = .ok (.goto (-43), 3) := by decide +kernel
theorem dX8_digestCrossings_117 : decode cX8_digestCrossings 117 = .ok (.lload_n 3, 1) := by decide +kernel
theorem dX8_digestCrossings_118 : decode cX8_digestCrossings 118 = .ok (.lreturn, 1) := by decide +kernel
theorem dX8_within_0 : decode cX8_within 0 = .ok (.iload_n 0, 1) := by decide +kernel
theorem dX8_within_1 : decode cX8_within 1 = .ok (.iload_n 1, 1) := by decide +kernel
theorem dX8_within_2 : decode cX8_within 2 = .ok (.if_icmp .lt 12, 3) := by decide +kernel
theorem dX8_within_5 : decode cX8_within 5 = .ok (.iload_n 0, 1) := by decide +kernel
theorem dX8_within_6 : decode cX8_within 6 = .ok (.iload_n 2, 1) := by decide +kernel
theorem dX8_within_7 : decode cX8_within 7 = .ok (.if_icmp .gt 7, 3) := by decide +kernel
theorem dX8_within_10 : decode cX8_within 10 = .ok (.iconst 1, 1) := by decide +kernel
theorem dX8_within_11 : decode cX8_within 11 = .ok (.goto 4, 3) := by decide +kernel
theorem dX8_within_14 : decode cX8_within 14 = .ok (.iconst 0, 1) := by decide +kernel
theorem dX8_within_15 : decode cX8_within 15 = .ok (.ireturn, 1) := by decide +kernel
theorem dX8_textAt_0 : decode cX8_textAt 0 = .ok (.iload_n 1, 1) := by decide +kernel
theorem dX8_textAt_1 : decode cX8_textAt 1 = .ok (.iconst 0, 1) := by decide +kernel
theorem dX8_textAt_2 : decode cX8_textAt 2 = .ok (.aload_n 0, 1) := by decide +kernel
theorem dX8_textAt_3 : decode cX8_textAt 3 = .ok (.getfield 11, 3) := by decide +kernel
theorem dX8_textAt_6 : decode cX8_textAt 6 = .ok (.arraylength, 1) := by decide +kernel
theorem dX8_textAt_7 : decode cX8_textAt 7 = .ok (.iconst 1, 1) := by decide +kernel
theorem dX8_textAt_8 : decode cX8_textAt 8 = .ok (.isub, 1) := by decide +kernel
theorem dX8_textAt_9 : decode cX8_textAt 9 = .ok (.invokestatic 91, 3) := by decide +kernel
theorem dX8_textAt_12 : decode cX8_textAt 12 = .ok (.ifCond .eq 12, 3) := by decide +kernel
theorem dX8_textAt_15 : decode cX8_textAt 15 = .ok (.aload_n 0, 1) := by decide +kernel
theorem dX8_textAt_16 : decode cX8_textAt 16 = .ok (.getfield 11, 3) := by decide +kernel
theorem dX8_textAt_19 : decode cX8_textAt 19 = .ok (.iload_n 1, 1) := by decide +kernel
theorem dX8_textAt_20 : decode cX8_textAt 20 = .ok (.aaload, 1) := by decide +kernel
theorem dX8_textAt_21 : decode cX8_textAt 21 = .ok (.goto 4, 3) := by decide +kernel
theorem dX8_textAt_24 : decode cX8_textAt 24 = .ok (.aconst_null, 1) := by decide +kernel
theorem dX8_textAt_25 : decode cX8_textAt 25 = .ok (.areturn, 1) := by decide +kernel
theorem dX8_placeOf_0 : decode cX8_placeOf 0 = .ok (.iconst 0, 1) := by decide +kernel
theorem dX8_placeOf_1 : decode cX8_placeOf 1 = .ok (.istore_n 2, 1) := by decide +kernel
theorem dX8_placeOf_2 : decode cX8_placeOf 2 = .ok (.iload_n 2, 1) := by decide +kernel
theorem dX8_placeOf_3 : decode cX8_placeOf 3 = .ok (.aload_n 1, 1) := by decide +kernel
theorem dX8_placeOf_4 : decode cX8_placeOf 4 = .ok (.arraylength, 1) := by decide +kernel
theorem dX8_placeOf_5 : decode cX8_placeOf 5 = .ok (.if_icmp .ge 18, 3) := by decide +kernel
theorem dX8_placeOf_8 : decode cX8_placeOf 8 = .ok (.aload_n 1, 1) := by decide +kernel
theorem dX8_placeOf_9 : decode cX8_placeOf 9 = .ok (.iload_n 2, 1) := by decide +kernel
theorem dX8_placeOf_10 : decode cX8_placeOf 10 = .ok (.caload, 1) := by decide +kernel
theorem dX8_placeOf_11 : decode cX8_placeOf 11 = .ok (.iload_n 0, 1) := by decide +kernel
theorem dX8_placeOf_12 : decode cX8_placeOf 12 = .ok (.if_icmp .ne 5, 3) := by decide +kernel
theorem dX8_placeOf_15 : decode cX8_placeOf 15 = .ok (.iload_n 2, 1) := by decide +kernel
theorem dX8_placeOf_16 : decode cX8_placeOf 16 = .ok (.ireturn, 1) := by decide +kernel
theorem dX8_placeOf_17 : decode cX8_placeOf 17 = .ok (.iinc 2 1, 3) := by decide +kernel
theorem dX8_placeOf_20 : decode cX8_placeOf 20 = .ok (.goto (-18), 3) := by decide +kernel
theorem dX8_placeOf_23 : decode cX8_placeOf 23 = .ok (.iconst (-1), 1) := by decide +kernel
theorem dX8_placeOf_24 : decode cX8_placeOf 24 = .ok (.ireturn, 1) := by decide +kernel
theorem dX8_signsFor_0 : decode cX8_signsFor 0 = .ok (.iload_n 0, 1) := by decide +kernel
theorem dX8_signsFor_1 : decode cX8_signsFor 1 = .ok (.ifCond .ne 7, 3) := by decide +kernel
theorem dX8_signsFor_4 : decode cX8_signsFor 4 = .ok (.getstatic 340, 3) := by decide +kernel
theorem dX8_signsFor_7 : decode cX8_signsFor 7 = .ok (.areturn, 1) := by decide +kernel
theorem dX8_signsFor_8 : decode cX8_signsFor 8 = .ok (.iload_n 0, 1) := by decide +kernel
theorem dX8_signsFor_9 : decode cX8_signsFor 9 = .ok (.iconst 2, 1) := by decide +kernel
theorem dX8_signsFor_10 : decode cX8_signsFor 10 = .ok (.if_icmp .ne 7, 3) := by decide +kernel
theorem dX8_signsFor_13 : decode cX8_signsFor 13 = .ok (.getstatic 344, 3) := by decide +kernel
theorem dX8_signsFor_16 : decode cX8_signsFor 16 = .ok (.areturn, 1) := by decide +kernel
theorem dX8_signsFor_17 : decode cX8_signsFor 17 = .ok (.iload_n 1, 1) := by decide +kernel
theorem dX8_signsFor_18 : decode cX8_signsFor 18 = .ok (.iconst 5, 1) := by decide +kernel
theorem dX8_signsFor_19 : decode cX8_signsFor 19 = .ok (.irem, 1) := by decide +kernel
theorem dX8_signsFor_20 : decode cX8_signsFor 20 = .ok (.tableswitch 48 0 3 #[32, 36, 40, 44], 32) := by decide +kernel
theorem dX8_signsFor_52 : decode cX8_signsFor 52 = .ok (.getstatic 347, 3) := by decide +kernel
theorem dX8_signsFor_55 : decode cX8_signsFor 55 = .ok (.areturn, 1) := by decide +kernel
theorem dX8_signsFor_56 : decode cX8_signsFor 56 = .ok (.getstatic 350, 3) := by decide +kernel
theorem dX8_signsFor_59 : decode cX8_signsFor 59 = .ok (.areturn, 1) := by decide +kernel
theorem dX8_signsFor_60 : decode cX8_signsFor 60 = .ok (.getstatic 353, 3) := by decide +kernel
theorem dX8_signsFor_63 : decode cX8_signsFor 63 = .ok (.areturn, 1) := by decide +kernel
theorem dX8_signsFor_64 : decode cX8_signsFor 64 = .ok (.getstatic 356, 3) := by decide +kernel
theorem dX8_signsFor_67 : decode cX8_signsFor 67 = .ok (.areturn, 1) := by decide +kernel
theorem dX8_signsFor_68 : decode cX8_signsFor 68 = .ok (.getstatic 359, 3) := by decide +kernel
theorem dX8_signsFor_71 : decode cX8_signsFor 71 = .ok (.areturn, 1) := by decide +kernel
theorem dX8_faultOf_0 : decode cX8_faultOf 0 = .ok (.iconst 0, 1) := by decide +kernel
theorem dX8_faultOf_1 : decode cX8_faultOf 1 = .ok (.istore_n 2, 1) := by decide +kernel
theorem dX8_faultOf_2 : decode cX8_faultOf 2 = .ok (.iload_n 2, 1) := by decide +kernel
theorem dX8_faultOf_3 : decode cX8_faultOf 3 = .ok (.aload_n 1, 1) := by decide +kernel
theorem dX8_faultOf_4 : decode cX8_faultOf 4 = .ok (.getfield 102, 3) := by decide +kernel
theorem dX8_faultOf_7 : decode cX8_faultOf 7 = .ok (.if_icmp .ge 28, 3) := by decide +kernel
theorem dX8_faultOf_10 : decode cX8_faultOf 10 = .ok (.aload_n 1, 1) := by decide +kernel
theorem dX8_faultOf_11 : decode cX8_faultOf 11 = .ok (.iload_n 2, 1) := by decide +kernel
theorem dX8_faultOf_12 : decode cX8_faultOf 12 = .ok (.invokevirtual 362, 3) := by decide +kernel
theorem dX8_faultOf_15 : decode cX8_faultOf 15 = .ok (.iload_n 0, 1) := by decide +kernel
theorem dX8_faultOf_16 : decode cX8_faultOf 16 = .ok (.iload_n 2, 1) := by decide +kernel
theorem dX8_faultOf_17 : decode cX8_faultOf 17 = .ok (.invokestatic 364, 3) := by decide +kernel
theorem dX8_faultOf_20 : decode cX8_faultOf 20 = .ok (.invokestatic 368, 3) := by decide +kernel
theorem dX8_faultOf_23 : decode cX8_faultOf 23 = .ok (.iconst (-1), 1) := by decide +kernel
theorem dX8_faultOf_24 : decode cX8_faultOf 24 = .ok (.if_icmp .ne 5, 3) := by decide +kernel
theorem dX8_faultOf_27 : decode cX8_faultOf 27 = .ok (.iload_n 2, 1) := by decide +kernel
theorem dX8_faultOf_28 : decode cX8_faultOf 28 = .ok (.ireturn, 1) := by decide +kernel
theorem dX8_faultOf_29 : decode cX8_faultOf 29 = .ok (.iinc 2 1, 3) := by decide +kernel
theorem dX8_faultOf_32 : decode cX8_faultOf 32 = .ok (.goto (-30), 3) := by decide +kernel
theorem dX8_faultOf_35 : decode cX8_faultOf 35 = .ok (.iload_n 0, 1) := by decide +kernel
theorem dX8_faultOf_36 : decode cX8_faultOf 36 = .ok (.iconst 1, 1) := by decide +kernel
theorem dX8_faultOf_37 : decode cX8_faultOf 37 = .ok (.if_icmp .ne 20, 3) := by decide +kernel
theorem dX8_faultOf_40 : decode cX8_faultOf 40 = .ok (.aload_n 1, 1) := by decide +kernel
theorem dX8_faultOf_41 : decode cX8_faultOf 41 = .ok (.getfield 102, 3) := by decide +kernel
theorem dX8_faultOf_44 : decode cX8_faultOf 44 = .ok (.ifCond .eq 13, 3) := by decide +kernel
theorem dX8_faultOf_47 : decode cX8_faultOf 47 = .ok (.aload_n 1, 1) := by decide +kernel
theorem dX8_faultOf_48 : decode cX8_faultOf 48 = .ok (.getfield 102, 3) := by decide +kernel
theorem dX8_faultOf_51 : decode cX8_faultOf 51 = .ok (.iconst 5, 1) := by decide +kernel
theorem dX8_faultOf_52 : decode cX8_faultOf 52 = .ok (.irem, 1) := by decide +kernel
theorem dX8_faultOf_53 : decode cX8_faultOf 53 = .ok (.iconst 4, 1) := by decide +kernel
theorem dX8_faultOf_54 : decode cX8_faultOf 54 = .ok (.if_icmp .ne 7, 3) := by decide +kernel
theorem dX8_faultOf_57 : decode cX8_faultOf 57 = .ok (.iconst 1, 1) := by decide +kernel
theorem dX8_faultOf_58 : decode cX8_faultOf 58 = .ok (.goto 4, 3) := by decide +kernel
theorem dX8_faultOf_61 : decode cX8_faultOf 61 = .ok (.iconst 0, 1) := by decide +kernel
theorem dX8_faultOf_62 : decode cX8_faultOf 62 = .ok (.istore_n 2, 1) := by decide +kernel
theorem dX8_faultOf_63 : decode cX8_faultOf 63 = .ok (.iload_n 2, 1) := by decide +kernel
theorem dX8_faultOf_64 : decode cX8_faultOf 64 = .ok (.ifCond .eq 7, 3) := by decide +kernel
theorem dX8_faultOf_67 : decode cX8_faultOf 67 = .ok (.iconst (-1), 1) := by decide +kernel
theorem dX8_faultOf_68 : decode cX8_faultOf 68 = .ok (.goto 7, 3) := by decide +kernel
theorem dX8_faultOf_71 : decode cX8_faultOf 71 = .ok (.aload_n 1, 1) := by decide +kernel
theorem dX8_faultOf_72 : decode cX8_faultOf 72 = .ok (.getfield 102, 3) := by decide +kernel
theorem dX8_faultOf_75 : decode cX8_faultOf 75 = .ok (.ireturn, 1) := by decide +kernel
theorem dX8_lengthWithoutFault_0 : decode cX8_lengthWithoutFault 0 = .ok (.iload_n 0, 1) := by decide +kernel
theorem dX8_lengthWithoutFault_1 : decode cX8_lengthWithoutFault 1 = .ok (.aload_n 1, 1) := by decide +kernel
theorem dX8_lengthWithoutFault_2 : decode cX8_lengthWithoutFault 2 = .ok (.invokestatic 106, 3) := by decide +kernel
theorem dX8_lengthWithoutFault_5 : decode cX8_lengthWithoutFault 5 = .ok (.iconst (-1), 1) := by decide +kernel
theorem dX8_lengthWithoutFault_6 : decode cX8_lengthWithoutFault 6 = .ok (.if_icmp .ne 10, 3) := by decide +kernel
theorem dX8_lengthWithoutFault_9 : decode cX8_lengthWithoutFault 9 = .ok (.aload_n 1, 1) := by decide +kernel
theorem dX8_lengthWithoutFault_10 : decode cX8_lengthWithoutFault 10 = .ok (.getfield 102, 3) := by decide +kernel
theorem dX8_lengthWithoutFault_13 : decode cX8_lengthWithoutFault 13 = .ok (.goto 4, 3) := by decide +kernel
theorem dX8_lengthWithoutFault_16 : decode cX8_lengthWithoutFault 16 = .ok (.iconst 0, 1) := by decide +kernel
theorem dX8_lengthWithoutFault_17 : decode cX8_lengthWithoutFault 17 = .ok (.ireturn, 1) := by decide +kernel
theorem dX8_freshen_0 : decode cX8_freshen 0 = .ok (.aload_n 0, 1) := by decide +kernel
theorem dX8_freshen_1 : decode cX8_freshen 1 = .ok (.getfield 76, 3) := by decide +kernel
theorem dX8_freshen_4 : decode cX8_freshen 4 = .ok (.ifCond .ne 4, 3) := by decide +kernel
theorem dX8_freshen_7 : decode cX8_freshen 7 = .ok (.return_, 1) := by decide +kernel
theorem dX8_freshen_8 : decode cX8_freshen 8 = .ok (.aload_n 0, 1) := by decide +kernel
theorem dX8_freshen_9 : decode cX8_freshen 9 = .ok (.iconst 0, 1) := by decide +kernel
theorem dX8_freshen_10 : decode cX8_freshen 10 = .ok (.putfield 76, 3) := by decide +kernel
theorem dX8_freshen_13 : decode cX8_freshen 13 = .ok (.aload_n 0, 1) := by decide +kernel
theorem dX8_freshen_14 : decode cX8_freshen 14 = .ok (.iconst 1, 1) := by decide +kernel
theorem dX8_freshen_15 : decode cX8_freshen 15 = .ok (.putfield 80, 3) := by decide +kernel
theorem dX8_freshen_18 : decode cX8_freshen 18 = .ok (.aload_n 0, 1) := by decide +kernel
theorem dX8_freshen_19 : decode cX8_freshen 19 = .ok (.getfield 11, 3) := by decide +kernel
theorem dX8_freshen_22 : decode cX8_freshen 22 = .ok (.iconst 0, 1) := by decide +kernel
theorem dX8_freshen_23 : decode cX8_freshen 23 = .ok (.aaload, 1) := by decide +kernel
theorem dX8_freshen_24 : decode cX8_freshen 24 = .ok (.astore_n 1, 1) := by decide +kernel
theorem dX8_freshen_25 : decode cX8_freshen 25 = .ok (.aload_n 0, 1) := by decide +kernel
theorem dX8_freshen_26 : decode cX8_freshen 26 = .ok (.getfield 18, 3) := by decide +kernel
theorem dX8_freshen_29 : decode cX8_freshen 29 = .ok (.aload_n 1, 1) := by decide +kernel
theorem dX8_freshen_30 : decode cX8_freshen 30 = .ok (.iconst 0, 1) := by decide +kernel
theorem dX8_freshen_31 : decode cX8_freshen 31 = .ok (.aload_n 1, 1) := by decide +kernel
theorem dX8_freshen_32 : decode cX8_freshen 32 = .ok (.invokestatic 372, 3) := by decide +kernel
theorem dX8_freshen_35 : decode cX8_freshen 35 = .ok (.invokevirtual 375, 3) := by decide +kernel
theorem dX8_freshen_38 : decode cX8_freshen 38 = .ok (.aload_n 0, 1) := by decide +kernel
theorem dX8_freshen_39 : decode cX8_freshen 39 = .ok (.getfield 11, 3) := by decide +kernel
theorem dX8_freshen_42 : decode cX8_freshen 42 = .ok (.iconst 1, 1) := by decide +kernel
theorem dX8_freshen_43 : decode cX8_freshen 43 = .ok (.aaload, 1) := by decide +kernel
theorem dX8_freshen_44 : decode cX8_freshen 44 = .ok (.astore_n 2, 1) := by decide +kernel
theorem dX8_freshen_45 : decode cX8_freshen 45 = .ok (.aload_n 0, 1) := by decide +kernel
theorem dX8_freshen_46 : decode cX8_freshen 46 = .ok (.getfield 25, 3) := by decide +kernel
theorem dX8_freshen_49 : decode cX8_freshen 49 = .ok (.aload_n 2, 1) := by decide +kernel
theorem dX8_freshen_50 : decode cX8_freshen 50 = .ok (.iconst 1, 1) := by decide +kernel
theorem dX8_freshen_51 : decode cX8_freshen 51 = .ok (.aload_n 2, 1) := by decide +kernel
theorem dX8_freshen_52 : decode cX8_freshen 52 = .ok (.invokestatic 372, 3) := by decide +kernel
theorem dX8_freshen_55 : decode cX8_freshen 55 = .ok (.invokevirtual 379, 3) := by decide +kernel
theorem dX8_freshen_58 : decode cX8_freshen 58 = .ok (.aload_n 0, 1) := by decide +kernel
theorem dX8_freshen_59 : decode cX8_freshen 59 = .ok (.getfield 11, 3) := by decide +kernel
theorem dX8_freshen_62 : decode cX8_freshen 62 = .ok (.iconst 2, 1) := by decide +kernel
theorem dX8_freshen_63 : decode cX8_freshen 63 = .ok (.aaload, 1) := by decide +kernel
theorem dX8_freshen_64 : decode cX8_freshen 64 = .ok (.astore_n 3, 1) := by decide +kernel
theorem dX8_freshen_65 : decode cX8_freshen 65 = .ok (.aload_n 0, 1) := by decide +kernel
theorem dX8_freshen_66 : decode cX8_freshen 66 = .ok (.getfield 32, 3) := by decide +kernel
theorem dX8_freshen_69 : decode cX8_freshen 69 = .ok (.aload_n 3, 1) := by decide +kernel
theorem dX8_freshen_70 : decode cX8_freshen 70 = .ok (.iconst 2, 1) := by decide +kernel
theorem dX8_freshen_71 : decode cX8_freshen 71 = .ok (.aload_n 3, 1) := by decide +kernel
theorem dX8_freshen_72 : decode cX8_freshen 72 = .ok (.invokestatic 372, 3) := by decide +kernel
theorem dX8_freshen_75 : decode cX8_freshen 75 = .ok (.invokevirtual 380, 3) := by decide +kernel
theorem dX8_freshen_78 : decode cX8_freshen 78 = .ok (.aload_n 0, 1) := by decide +kernel
theorem dX8_freshen_79 : decode cX8_freshen 79 = .ok (.getfield 32, 3) := by decide +kernel
theorem dX8_freshen_82 : decode cX8_freshen 82 = .ok (.aload_n 0, 1) := by decide +kernel
theorem dX8_freshen_83 : decode cX8_freshen 83 = .ok (.getfield 18, 3) := by decide +kernel
theorem dX8_freshen_86 : decode cX8_freshen 86 = .ok (.aload_n 0, 1) := by decide +kernel
theorem dX8_freshen_87 : decode cX8_freshen 87 = .ok (.getfield 25, 3) := by decide +kernel
theorem dX8_freshen_90 : decode cX8_freshen 90 = .ok (.aload_n 0, 1) := by decide +kernel
theorem dX8_freshen_91 : decode cX8_freshen 91 = .ok (.getfield 18, 3) := by decide +kernel
theorem dX8_freshen_94 : decode cX8_freshen 94 = .ok (.invokevirtual 228, 3) := by decide +kernel
theorem dX8_freshen_97 : decode cX8_freshen 97 = .ok (.aload_n 0, 1) := by decide +kernel
theorem dX8_freshen_98 : decode cX8_freshen 98 = .ok (.getfield 18, 3) := by decide +kernel
theorem dX8_freshen_101 : decode cX8_freshen 101 = .ok (.getfield 148, 3) := by decide +kernel
theorem dX8_freshen_104 : decode cX8_freshen 104 = .ok (.aload_n 0, 1) := by decide +kernel
theorem dX8_freshen_105 : decode cX8_freshen 105 = .ok (.getfield 36, 3) := by decide +kernel
theorem dX8_freshen_108 : decode cX8_freshen 108 = .ok (.invokevirtual 381, 3) := by decide +kernel
theorem dX8_freshen_111 : decode cX8_freshen 111 = .ok (.return_, 1) := by decide +kernel
theorem dX8_freshenPlan_0 : decode cX8_freshenPlan 0 = .ok (.aload_n 0, 1) := by decide +kernel
theorem dX8_freshenPlan_1 : decode cX8_freshenPlan 1 = .ok (.invokevirtual 110, 3) := by decide +kernel
theorem dX8_freshenPlan_4 : decode cX8_freshenPlan 4 = .ok (.aload_n 0, 1) := by decide +kernel
theorem dX8_freshenPlan_5 : decode cX8_freshenPlan 5 = .ok (.getfield 80, 3) := by decide +kernel
theorem dX8_freshenPlan_8 : decode cX8_freshenPlan 8 = .ok (.ifCond .eq 23, 3) := by decide +kernel
theorem dX8_freshenPlan_11 : decode cX8_freshenPlan 11 = .ok (.aload_n 0, 1) := by decide +kernel
theorem dX8_freshenPlan_12 : decode cX8_freshenPlan 12 = .ok (.iconst 0, 1) := by decide +kernel
theorem dX8_freshenPlan_13 : decode cX8_freshenPlan 13 = .ok (.putfield 80, 3) := by decide +kernel
theorem dX8_freshenPlan_16 : decode cX8_freshenPlan 16 = .ok (.aload_n 0, 1) := by decide +kernel
theorem dX8_freshenPlan_17 : decode cX8_freshenPlan 17 = .ok (.getfield 52, 3) := by decide +kernel
theorem dX8_freshenPlan_20 : decode cX8_freshenPlan 20 = .ok (.aload_n 0, 1) := by decide +kernel
theorem dX8_freshenPlan_21 : decode cX8_freshenPlan 21 = .ok (.getfield 18, 3) := by decide +kernel
theorem dX8_freshenPlan_24 : decode cX8_freshenPlan 24 = .ok (.aload_n 0, 1) := by decide +kernel
theorem dX8_freshenPlan_25 : decode cX8_freshenPlan 25 = .ok (.getfield 25, 3) := by decide +kernel
theorem dX8_freshenPlan_28 : decode cX8_freshenPlan 28 = .ok (.invokevirtual 385, 3) := by decide +kernel
theorem dX8_freshenPlan_31 : decode cX8_freshenPlan 31 = .ok (.return_, 1) := by decide +kernel
theorem dX8_isNumberOfCrossings_0 : decode cX8_isNumberOfCrossings 0 = .ok (.iload_n 1, 1) := by decide +kernel
theorem dX8_isNumberOfCrossings_1 : decode cX8_isNumberOfCrossings 1 = .ok (.iconst 0, 1) := by decide +kernel
theorem dX8_isNumberOfCrossings_2 : decode cX8_isNumberOfCrossings 2 = .ok (.aload_n 0, 1) := by decide +kernel
theorem dX8_isNumberOfCrossings_3 : decode cX8_isNumberOfCrossings 3 = .ok (.getfield 32, 3) := by decide +kernel
theorem dX8_isNumberOfCrossings_6 : decode cX8_isNumberOfCrossings 6 = .ok (.getfield 154, 3) := by decide +kernel
theorem dX8_isNumberOfCrossings_9 : decode cX8_isNumberOfCrossings 9 = .ok (.invokestatic 91, 3) := by decide +kernel
theorem dX8_isNumberOfCrossings_12 : decode cX8_isNumberOfCrossings 12 = .ok (.ireturn, 1) := by decide +kernel
theorem dX8_gapBehindAll_0 : decode cX8_gapBehindAll 0 = .ok (.aload_n 0, 1) := by decide +kernel
theorem dX8_gapBehindAll_1 : decode cX8_gapBehindAll 1 = .ok (.getfield 36, 3) := by decide +kernel
theorem dX8_gapBehindAll_4 : decode cX8_gapBehindAll 4 = .ok (.aload_n 0, 1) := by decide +kernel
theorem dX8_gapBehindAll_5 : decode cX8_gapBehindAll 5 = .ok (.getfield 32, 3) := by decide +kernel
theorem dX8_gapBehindAll_8 : decode cX8_gapBehindAll 8 = .ok (.getfield 154, 3) := by decide +kernel
theorem dX8_gapBehindAll_11 : decode cX8_gapBehindAll 11 = .ok (.iaload, 1) := by decide +kernel
theorem dX8_gapBehindAll_12 : decode cX8_gapBehindAll 12 = .ok (.ireturn, 1) := by decide +kernel
theorem dX8_outcomeOfCrossing_0 : decode cX8_outcomeOfCrossing 0 = .ok (.aload_n 0, 1) := by decide +kernel
theorem dX8_outcomeOfCrossing_1 : decode cX8_outcomeOfCrossing 1 = .ok (.getfield 18, 3) := by decide +kernel
theorem dX8_outcomeOfCrossing_4 : decode cX8_outcomeOfCrossing 4 = .ok (.aload_n 0, 1) := by decide +kernel
theorem dX8_outcomeOfCrossing_5 : decode cX8_outcomeOfCrossing 5 = .ok (.getfield 25, 3) := by decide +kernel
theorem dX8_outcomeOfCrossing_8 : decode cX8_outcomeOfCrossing 8 = .ok (.aload_n 0, 1) := by decide +kernel
theorem dX8_outcomeOfCrossing_9 : decode cX8_outcomeOfCrossing 9 = .ok (.getfield 32, 3) := by decide +kernel
theorem dX8_outcomeOfCrossing_12 : decode cX8_outcomeOfCrossing 12 = .ok (.iload_n 1, 1) := by decide +kernel
theorem dX8_outcomeOfCrossing_13 : decode cX8_outcomeOfCrossing 13 = .ok (.invokevirtual 138, 3) := by decide +kernel
theorem dX8_outcomeOfCrossing_16 : decode cX8_outcomeOfCrossing 16 = .ok (.invokevirtual 120, 3) := by decide +kernel
theorem dX8_outcomeOfCrossing_19 : decode cX8_outcomeOfCrossing 19 = .ok (.aload_n 0, 1) := by decide +kernel
theorem dX8_outcomeOfCrossing_20 : decode cX8_outcomeOfCrossing 20 = .ok (.getfield 36, 3) := by decide +kernel
theorem dX8_outcomeOfCrossing_23 : decode cX8_outcomeOfCrossing 23 = .ok (.iload_n 1, 1) := by decide +kernel
theorem dX8_outcomeOfCrossing_24 : decode cX8_outcomeOfCrossing 24 = .ok (.iaload, 1) := by decide +kernel
theorem dX8_outcomeOfCrossing_25 : decode cX8_outcomeOfCrossing 25 = .ok (.invokevirtual 157, 3) := by decide +kernel
theorem dX8_outcomeOfCrossing_28 : decode cX8_outcomeOfCrossing 28 = .ok (.ireturn, 1) := by decide +kernel
theorem dX8_tollsBehind_0 : decode cX8_tollsBehind 0 = .ok (.iconst 0, 1) := by decide +kernel
theorem dX8_tollsBehind_1 : decode cX8_tollsBehind 1 = .ok (.istore_n 2, 1) := by decide +kernel
theorem dX8_tollsBehind_2 : decode cX8_tollsBehind 2 = .ok (.iconst 0, 1) := by decide +kernel
theorem dX8_tollsBehind_3 : decode cX8_tollsBehind 3 = .ok (.istore_n 3, 1) := by decide +kernel
theorem dX8_tollsBehind_4 : decode cX8_tollsBehind 4 = .ok (.iload_n 3, 1) := by decide +kernel
theorem dX8_tollsBehind_5 : decode cX8_tollsBehind 5 = .ok (.iload_n 1, 1) := by decide +kernel
theorem dX8_tollsBehind_6 : decode cX8_tollsBehind 6 = .ok (.if_icmp .ge 40, 3) := by decide +kernel
theorem dX8_tollsBehind_9 : decode cX8_tollsBehind 9 = .ok (.iload_n 2, 1) := by decide +kernel
theorem dX8_tollsBehind_10 : decode cX8_tollsBehind 10 = .ok (.aload_n 0, 1) := by decide +kernel
theorem dX8_tollsBehind_11 : decode cX8_tollsBehind 11 = .ok (.getfield 18, 3) := by decide +kernel
theorem dX8_tollsBehind_14 : decode cX8_tollsBehind 14 = .ok (.aload_n 0, 1) := by decide +kernel
theorem dX8_tollsBehind_15 : decode cX8_tollsBehind 15 = .ok (.getfield 25, 3) := by decide +kernel
theorem dX8_tollsBehind_18 : decode cX8_tollsBehind 18 = .ok (.aload_n 0, 1) := by decide +kernel
theorem dX8_tollsBehind_19 : decode cX8_tollsBehind 19 = .ok (.getfield 32, 3) := by decide +kernel
theorem dX8_tollsBehind_22 : decode cX8_tollsBehind 22 = .ok (.iload_n 3, 1) := by decide +kernel
theorem dX8_tollsBehind_23 : decode cX8_tollsBehind 23 = .ok (.invokevirtual 138, 3) := by decide +kernel
theorem dX8_tollsBehind_26 : decode cX8_tollsBehind 26 = .ok (.invokevirtual 120, 3) := by decide +kernel
theorem dX8_tollsBehind_29 : decode cX8_tollsBehind 29 = .ok (.aload_n 0, 1) := by decide +kernel
theorem dX8_tollsBehind_30 : decode cX8_tollsBehind 30 = .ok (.getfield 36, 3) := by decide +kernel
theorem dX8_tollsBehind_33 : decode cX8_tollsBehind 33 = .ok (.iload_n 3, 1) := by decide +kernel
theorem dX8_tollsBehind_34 : decode cX8_tollsBehind 34 = .ok (.iaload, 1) := by decide +kernel
theorem dX8_tollsBehind_35 : decode cX8_tollsBehind 35 = .ok (.invokevirtual 161, 3) := by decide +kernel
theorem dX8_tollsBehind_38 : decode cX8_tollsBehind 38 = .ok (.iadd, 1) := by decide +kernel
theorem dX8_tollsBehind_39 : decode cX8_tollsBehind 39 = .ok (.istore_n 2, 1) := by decide +kernel
theorem dX8_tollsBehind_40 : decode cX8_tollsBehind 40 = .ok (.iinc 3 1, 3) := by decide +kernel
theorem dX8_tollsBehind_43 : decode cX8_tollsBehind 43 = .ok (.goto (-39), 3) := by decide +kernel
theorem dX8_tollsBehind_46 : decode cX8_tollsBehind 46 = .ok (.iload_n 2, 1) := by decide +kernel
theorem dX8_tollsBehind_47 : decode cX8_tollsBehind 47 = .ok (.ireturn, 1) := by decide +kernel
theorem dX8_countVisits_0 : decode cX8_countVisits 0 = .ok (.iconst 0, 1) := by decide +kernel
theorem dX8_countVisits_1 : decode cX8_countVisits 1 = .ok (.istore_n 1, 1) := by decide +kernel
theorem dX8_countVisits_2 : decode cX8_countVisits 2 = .ok (.iload_n 1, 1) := by decide +kernel
theorem dX8_countVisits_3 : decode cX8_countVisits 3 = .ok (.bipush 19, 2) := by decide +kernel
theorem dX8_countVisits_5 : decode cX8_countVisits 5 = .ok (.if_icmp .ge 16, 3) := by decide +kernel
theorem dX8_countVisits_8 : decode cX8_countVisits 8 = .ok (.aload_n 0, 1) := by decide +kernel
theorem dX8_countVisits_9 : decode cX8_countVisits 9 = .ok (.getfield 46, 3) := by decide +kernel
theorem dX8_countVisits_12 : decode cX8_countVisits 12 = .ok (.iload_n 1, 1) := by decide +kernel
theorem dX8_countVisits_13 : decode cX8_countVisits 13 = .ok (.iconst 0, 1) := by decide +kernel
theorem dX8_countVisits_14 : decode cX8_countVisits 14 = .ok (.iastore, 1) := by decide +kernel
theorem dX8_countVisits_15 : decode cX8_countVisits 15 = .ok (.iinc 1 1, 3) := by decide +kernel
theorem dX8_countVisits_18 : decode cX8_countVisits 18 = .ok (.goto (-16), 3) := by decide +kernel
theorem dX8_countVisits_21 : decode cX8_countVisits 21 = .ok (.iconst 0, 1) := by decide +kernel
theorem dX8_countVisits_22 : decode cX8_countVisits 22 = .ok (.istore_n 1, 1) := by decide +kernel
theorem dX8_countVisits_23 : decode cX8_countVisits 23 = .ok (.iload_n 1, 1) := by decide +kernel
theorem dX8_countVisits_24 : decode cX8_countVisits 24 = .ok (.aload_n 0, 1) := by decide +kernel
theorem dX8_countVisits_25 : decode cX8_countVisits 25 = .ok (.getfield 32, 3) := by decide +kernel
theorem dX8_countVisits_28 : decode cX8_countVisits 28 = .ok (.getfield 154, 3) := by decide +kernel
theorem dX8_countVisits_31 : decode cX8_countVisits 31 = .ok (.if_icmp .gt 40, 3) := by decide +kernel
theorem dX8_countVisits_34 : decode cX8_countVisits 34 = .ok (.aload_n 0, 1) := by decide +kernel
theorem dX8_countVisits_35 : decode cX8_countVisits 35 = .ok (.getfield 18, 3) := by decide +kernel
theorem dX8_countVisits_38 : decode cX8_countVisits 38 = .ok (.aload_n 0, 1) := by decide +kernel
theorem dX8_countVisits_39 : decode cX8_countVisits 39 = .ok (.getfield 36, 3) := by decide +kernel
theorem dX8_countVisits_42 : decode cX8_countVisits 42 = .ok (.iload_n 1, 1) := by decide +kernel
theorem dX8_countVisits_43 : decode cX8_countVisits 43 = .ok (.iaload, 1) := by decide +kernel
theorem dX8_countVisits_44 : decode cX8_countVisits 44 = .ok (.invokevirtual 113, 3) := by decide +kernel
theorem dX8_countVisits_47 : decode cX8_countVisits 47 = .ok (.ifCond .eq 18, 3) := by decide +kernel
theorem dX8_countVisits_50 : decode cX8_countVisits 50 = .ok (.aload_n 0, 1) := by decide +kernel
theorem dX8_countVisits_51 : decode cX8_countVisits 51 = .ok (.getfield 46, 3) := by decide +kernel
theorem dX8_countVisits_54 : decode cX8_countVisits 54 = .ok (.aload_n 0, 1) := by decide +kernel
theorem dX8_countVisits_55 : decode cX8_countVisits 55 = .ok (.getfield 36, 3) := by decide +kernel
theorem dX8_countVisits_58 : decode cX8_countVisits 58 = .ok (.iload_n 1, 1) := by decide +kernel
theorem dX8_countVisits_59 : decode cX8_countVisits 59 = .ok (.iaload, 1) := by decide +kernel
theorem dX8_countVisits_60 : decode cX8_countVisits 60 = .ok (.dup2, 1) := by decide +kernel
theorem dX8_countVisits_61 : decode cX8_countVisits 61 = .ok (.iaload, 1) := by decide +kernel
theorem dX8_countVisits_62 : decode cX8_countVisits 62 = .ok (.iconst 1, 1) := by decide +kernel
theorem dX8_countVisits_63 : decode cX8_countVisits 63 = .ok (.iadd, 1) := by decide +kernel
theorem dX8_countVisits_64 : decode cX8_countVisits 64 = .ok (.iastore, 1) := by decide +kernel
theorem dX8_countVisits_65 : decode cX8_countVisits 65 = .ok (.iinc 1 1, 3) := by decide +kernel
theorem dX8_countVisits_68 : decode cX8_countVisits 68 = .ok (.goto (-45), 3) := by decide +kernel
theorem dX8_countVisits_71 : decode cX8_countVisits 71 = .ok (.return_, 1) := by decide +kernel
theorem dX8_comesOutAsSeen_0 : decode cX8_comesOutAsSeen 0 = .ok (.aload_n 0, 1) := by decide +kernel
theorem dX8_comesOutAsSeen_1 : decode cX8_comesOutAsSeen 1 = .ok (.getfield 32, 3) := by decide +kernel
theorem dX8_comesOutAsSeen_4 : decode cX8_comesOutAsSeen 4 = .ok (.aload_n 0, 1) := by decide +kernel
theorem dX8_comesOutAsSeen_5 : decode cX8_comesOutAsSeen 5 = .ok (.getfield 18, 3) := by decide +kernel
theorem dX8_comesOutAsSeen_8 : decode cX8_comesOutAsSeen 8 = .ok (.aload_n 0, 1) := by decide +kernel
theorem dX8_comesOutAsSeen_9 : decode cX8_comesOutAsSeen 9 = .ok (.getfield 25, 3) := by decide +kernel
theorem dX8_comesOutAsSeen_12 : decode cX8_comesOutAsSeen 12 = .ok (.iload_n 1, 1) := by decide +kernel
theorem dX8_comesOutAsSeen_13 : decode cX8_comesOutAsSeen 13 = .ok (.aload_n 2, 1) := by decide +kernel
theorem dX8_comesOutAsSeen_14 : decode cX8_comesOutAsSeen 14 = .ok (.aload_n 0, 1) := by decide +kernel
theorem dX8_comesOutAsSeen_15 : decode cX8_comesOutAsSeen 15 = .ok (.getfield 40, 3) := by decide +kernel
theorem dX8_comesOutAsSeen_18 : decode cX8_comesOutAsSeen 18 = .ok (.invokevirtual 381, 3) := by decide +kernel
theorem dX8_comesOutAsSeen_21 : decode cX8_comesOutAsSeen 21 = .ok (.aload_n 0, 1) := by decide +kernel
theorem dX8_comesOutAsSeen_22 : decode cX8_comesOutAsSeen 22 = .ok (.getfield 59, 3) := by decide +kernel
theorem dX8_comesOutAsSeen_25 : decode cX8_comesOutAsSeen 25 = .ok (.aload_n 0, 1) := by decide +kernel
theorem dX8_comesOutAsSeen_26 : decode cX8_comesOutAsSeen 26 = .ok (.getfield 40, 3) := by decide +kernel
theorem dX8_comesOutAsSeen_29 : decode cX8_comesOutAsSeen 29 = .ok (.aload_n 0, 1) := by decide +kernel
theorem dX8_comesOutAsSeen_30 : decode cX8_comesOutAsSeen 30 = .ok (.getfield 32, 3) := by decide +kernel
theorem dX8_comesOutAsSeen_33 : decode cX8_comesOutAsSeen 33 = .ok (.getfield 154, 3) := by decide +kernel
theorem dX8_comesOutAsSeen_36 : decode cX8_comesOutAsSeen 36 = .ok (.invokevirtual 389, 3) := by decide +kernel
theorem dX8_comesOutAsSeen_39 : decode cX8_comesOutAsSeen 39 = .ok (.ireturn, 1) := by decide +kernel
theorem dX8_spreadChances_0 : decode cX8_spreadChances 0 = .ok (.iconst 0, 1) := by decide +kernel
theorem dX8_spreadChances_1 : decode cX8_spreadChances 1 = .ok (.istore_n 2, 1) := by decide +kernel
theorem dX8_spreadChances_2 : decode cX8_spreadChances 2 = .ok (.iload_n 2, 1) := by decide +kernel
theorem dX8_spreadChances_3 : decode cX8_spreadChances 3 = .ok (.aload_n 0, 1) := by decide +kernel
theorem dX8_spreadChances_4 : decode cX8_spreadChances 4 = .ok (.getfield 18, 3) := by decide +kernel
theorem dX8_spreadChances_7 : decode cX8_spreadChances 7 = .ok (.getfield 176, 3) := by decide +kernel
theorem dX8_spreadChances_10 : decode cX8_spreadChances 10 = .ok (.if_icmp .ge 31, 3) := by decide +kernel
theorem dX8_spreadChances_13 : decode cX8_spreadChances 13 = .ok (.aload_n 0, 1) := by decide +kernel
theorem dX8_spreadChances_14 : decode cX8_spreadChances 14 = .ok (.getfield 63, 3) := by decide +kernel
theorem dX8_spreadChances_17 : decode cX8_spreadChances 17 = .ok (.iload_n 2, 1) := by decide +kernel
theorem dX8_spreadChances_18 : decode cX8_spreadChances 18 = .ok (.iload_n 2, 1) := by decide +kernel
theorem dX8_spreadChances_19 : decode cX8_spreadChances 19 = .ok (.aload_n 0, 1) := by decide +kernel
theorem dX8_spreadChances_20 : decode cX8_spreadChances 20 = .ok (.getfield 18, 3) := by decide +kernel
theorem dX8_spreadChances_23 : decode cX8_spreadChances 23 = .ok (.invokevirtual 228, 3) := by decide +kernel
theorem dX8_spreadChances_26 : decode cX8_spreadChances 26 = .ok (.if_icmp .ne 7, 3) := by decide +kernel
theorem dX8_spreadChances_29 : decode cX8_spreadChances 29 = .ok (.lconst 1, 1) := by decide +kernel
theorem dX8_spreadChances_30 : decode cX8_spreadChances 30 = .ok (.goto 4, 3) := by decide +kernel
theorem dX8_spreadChances_33 : decode cX8_spreadChances 33 = .ok (.lconst 0, 1) := by decide +kernel
theorem dX8_spreadChances_34 : decode cX8_spreadChances 34 = .ok (.lastore, 1) := by decide +kernel
theorem dX8_spreadChances_35 : decode cX8_spreadChances 35 = .ok (.iinc 2 1, 3) := by decide +kernel
theorem dX8_spreadChances_38 : decode cX8_spreadChances 38 = .ok (.goto (-36), 3) := by decide +kernel
theorem dX8_spreadChances_41 : decode cX8_spreadChances 41 = .ok (.iconst 0, 1) := by decide +kernel
theorem dX8_spreadChances_42 : decode cX8_spreadChances 42 = .ok (.istore_n 2, 1) := by decide +kernel
theorem dX8_spreadChances_43 : decode cX8_spreadChances 43 = .ok (.iload_n 2, 1) := by decide +kernel
theorem dX8_spreadChances_44 : decode cX8_spreadChances 44 = .ok (.aload_n 0, 1) := by decide +kernel
theorem dX8_spreadChances_45 : decode cX8_spreadChances 45 = .ok (.getfield 32, 3) := by decide +kernel
theorem dX8_spreadChances_48 : decode cX8_spreadChances 48 = .ok (.getfield 154, 3) := by decide +kernel
theorem dX8_spreadChances_51 : decode cX8_spreadChances 51 = .ok (.if_icmp .ge 29, 3) := by decide +kernel
theorem dX8_spreadChances_54 : decode cX8_spreadChances 54 = .ok (.aload_n 0, 1) := by decide +kernel
theorem dX8_spreadChances_55 : decode cX8_spreadChances 55 = .ok (.aload_n 0, 1) := by decide +kernel
theorem dX8_spreadChances_56 : decode cX8_spreadChances 56 = .ok (.getfield 25, 3) := by decide +kernel
theorem dX8_spreadChances_59 : decode cX8_spreadChances 59 = .ok (.aload_n 0, 1) := by decide +kernel
theorem dX8_spreadChances_60 : decode cX8_spreadChances 60 = .ok (.getfield 32, 3) := by decide +kernel
theorem dX8_spreadChances_63 : decode cX8_spreadChances 63 = .ok (.iload_n 2, 1) := by decide +kernel
theorem dX8_spreadChances_64 : decode cX8_spreadChances 64 = .ok (.invokevirtual 138, 3) := by decide +kernel
theorem dX8_spreadChances_67 : decode cX8_spreadChances 67 = .ok (.invokevirtual 120, 3) := by decide +kernel
theorem dX8_spreadChances_70 : decode cX8_spreadChances 70 = .ok (.iload_n 1, 1) := by decide +kernel
theorem dX8_spreadChances_71 : decode cX8_spreadChances 71 = .ok (.invokevirtual 393, 3) := by decide +kernel
theorem dX8_spreadChances_74 : decode cX8_spreadChances 74 = .ok (.iinc 2 1, 3) := by decide +kernel
theorem dX8_spreadChances_77 : decode cX8_spreadChances 77 = .ok (.goto (-34), 3) := by decide +kernel
theorem dX8_spreadChances_80 : decode cX8_spreadChances 80 = .ok (.return_, 1) := by decide +kernel
theorem dX8_spreadOver_0 : decode cX8_spreadOver 0 = .ok (.iconst 0, 1) := by decide +kernel
theorem dX8_spreadOver_1 : decode cX8_spreadOver 1 = .ok (.istore_n 3, 1) := by decide +kernel
theorem dX8_spreadOver_2 : decode cX8_spreadOver 2 = .ok (.iload_n 3, 1) := by decide +kernel
theorem dX8_spreadOver_3 : decode cX8_spreadOver 3 = .ok (.aload_n 0, 1) := by decide +kernel
theorem dX8_spreadOver_4 : decode cX8_spreadOver 4 = .ok (.getfield 18, 3) := by decide +kernel
theorem dX8_spreadOver_7 : decode cX8_spreadOver 7 = .ok (.getfield 176, 3) := by decide +kernel
theorem dX8_spreadOver_10 : decode cX8_spreadOver 10 = .ok (.if_icmp .ge 27, 3) := by decide +kernel
theorem dX8_spreadOver_13 : decode cX8_spreadOver 13 = .ok (.aload_n 0, 1) := by decide +kernel
theorem dX8_spreadOver_14 : decode cX8_spreadOver 14 = .ok (.getfield 67, 3) := by decide +kernel
theorem dX8_spreadOver_17 : decode cX8_spreadOver 17 = .ok (.iload_n 3, 1) := by decide +kernel
theorem dX8_spreadOver_18 : decode cX8_spreadOver 18 = .ok (.aload_n 0, 1) := by decide +kernel
theorem dX8_spreadOver_19 : decode cX8_spreadOver 19 = .ok (.getfield 63, 3) := by decide +kernel
theorem dX8_spreadOver_22 : decode cX8_spreadOver 22 = .ok (.iload_n 3, 1) := by decide +kernel
theorem dX8_spreadOver_23 : decode cX8_spreadOver 23 = .ok (.laload, 1) := by decide +kernel
theorem dX8_spreadOver_24 : decode cX8_spreadOver 24 = .ok (.bipush 16, 2) := by decide +kernel
theorem dX8_spreadOver_26 : decode cX8_spreadOver 26 = .ok (.iload_n 2, 1) := by decide +kernel
theorem dX8_spreadOver_27 : decode cX8_spreadOver 27 = .ok (.isub, 1) := by decide +kernel
theorem dX8_spreadOver_28 : decode cX8_spreadOver 28 = .ok (.i2l, 1) := by decide +kernel
theorem dX8_spreadOver_29 : decode cX8_spreadOver 29 = .ok (.lmul, 1) := by decide +kernel
theorem dX8_spreadOver_30 : decode cX8_spreadOver 30 = .ok (.lastore, 1) := by decide +kernel
theorem dX8_spreadOver_31 : decode cX8_spreadOver 31 = .ok (.iinc 3 1, 3) := by decide +kernel
theorem dX8_spreadOver_34 : decode cX8_spreadOver 34 = .ok (.goto (-32), 3) := by decide +kernel
theorem dX8_spreadOver_37 : decode cX8_spreadOver 37 = .ok (.iconst 0, 1) := by decide +kernel
theorem dX8_spreadOver_38 : decode cX8_spreadOver 38 = .ok (.istore_n 3, 1) := by decide +kernel
theorem dX8_spreadOver_39 : decode cX8_spreadOver 39 = .ok (.iload_n 3, 1) := by decide +kernel
theorem dX8_spreadOver_40 : decode cX8_spreadOver 40 = .ok (.aload_n 0, 1) := by decide +kernel
theorem dX8_spreadOver_41 : decode cX8_spreadOver 41 = .ok (.getfield 18, 3) := by decide +kernel
theorem dX8_spreadOver_44 : decode cX8_spreadOver 44 = .ok (.getfield 176, 3) := by decide +kernel
theorem dX8_spreadOver_47 : decode cX8_spreadOver 47 = .ok (.if_icmp .ge 58, 3) := by decide +kernel
theorem dX8_spreadOver_50 : decode cX8_spreadOver 50 = .ok (.aload_n 0, 1) := by decide +kernel
theorem dX8_spreadOver_51 : decode cX8_spreadOver 51 = .ok (.getfield 18, 3) := by decide +kernel
theorem dX8_spreadOver_54 : decode cX8_spreadOver 54 = .ok (.aload_n 1, 1) := by decide +kernel
theorem dX8_spreadOver_55 : decode cX8_spreadOver 55 = .ok (.iload_n 3, 1) := by decide +kernel
theorem dX8_spreadOver_56 : decode cX8_spreadOver 56 = .ok (.aload_n 0, 1) := by decide +kernel
theorem dX8_spreadOver_57 : decode cX8_spreadOver 57 = .ok (.getfield 18, 3) := by decide +kernel
theorem dX8_spreadOver_60 : decode cX8_spreadOver 60 = .ok (.getfield 148, 3) := by decide +kernel
theorem dX8_spreadOver_63 : decode cX8_spreadOver 63 = .ok (.invokevirtual 194, 3) := by decide +kernel
theorem dX8_spreadOver_66 : decode cX8_spreadOver 66 = .ok (.istore 4, 2) := by decide +kernel
theorem dX8_spreadOver_68 : decode cX8_spreadOver 68 = .ok (.aload_n 0, 1) := by decide +kernel
theorem dX8_spreadOver_69 : decode cX8_spreadOver 69 = .ok (.getfield 18, 3) := by decide +kernel
theorem dX8_spreadOver_72 : decode cX8_spreadOver 72 = .ok (.iload 4, 2) := by decide +kernel
theorem dX8_spreadOver_74 : decode cX8_spreadOver 74 = .ok (.invokevirtual 113, 3) := by decide +kernel
theorem dX8_spreadOver_77 : decode cX8_spreadOver 77 = .ok (.ifCond .eq 22, 3) := by decide +kernel
theorem dX8_spreadOver_80 : decode cX8_spreadOver 80 = .ok (.aload_n 0, 1) := by decide +kernel
theorem dX8_spreadOver_81 : decode cX8_spreadOver 81 = .ok (.getfield 67, 3) := by decide +kernel
theorem dX8_spreadOver_84 : decode cX8_spreadOver 84 = .ok (.iload 4, 2) := by decide +kernel
theorem dX8_spreadOver_86 : decode cX8_spreadOver 86 = .ok (.dup2, 1) := by decide +kernel
theorem dX8_spreadOver_87 : decode cX8_spreadOver 87 = .ok (.laload, 1) := by decide +kernel
theorem dX8_spreadOver_88 : decode cX8_spreadOver 88 = .ok (.aload_n 0, 1) := by decide +kernel
theorem dX8_spreadOver_89 : decode cX8_spreadOver 89 = .ok (.getfield 63, 3) := by decide +kernel
theorem dX8_spreadOver_92 : decode cX8_spreadOver 92 = .ok (.iload_n 3, 1) := by decide +kernel
theorem dX8_spreadOver_93 : decode cX8_spreadOver 93 = .ok (.laload, 1) := by decide +kernel
theorem dX8_spreadOver_94 : decode cX8_spreadOver 94 = .ok (.iload_n 2, 1) := by decide +kernel
theorem dX8_spreadOver_95 : decode cX8_spreadOver 95 = .ok (.i2l, 1) := by decide +kernel
theorem dX8_spreadOver_96 : decode cX8_spreadOver 96 = .ok (.lmul, 1) := by decide +kernel
theorem dX8_spreadOver_97 : decode cX8_spreadOver 97 = .ok (.ladd, 1) := by decide +kernel
theorem dX8_spreadOver_98 : decode cX8_spreadOver 98 = .ok (.lastore, 1) := by decide +kernel
theorem dX8_spreadOver_99 : decode cX8_spreadOver 99 = .ok (.iinc 3 1, 3) := by decide +kernel
theorem dX8_spreadOver_102 : decode cX8_spreadOver 102 = .ok (.goto (-63), 3) := by decide +kernel
theorem dX8_spreadOver_105 : decode cX8_spreadOver 105 = .ok (.aload_n 0, 1) := by decide +kernel
theorem dX8_spreadOver_106 : decode cX8_spreadOver 106 = .ok (.getfield 67, 3) := by decide +kernel
theorem dX8_spreadOver_109 : decode cX8_spreadOver 109 = .ok (.iconst 0, 1) := by decide +kernel
theorem dX8_spreadOver_110 : decode cX8_spreadOver 110 = .ok (.aload_n 0, 1) := by decide +kernel
theorem dX8_spreadOver_111 : decode cX8_spreadOver 111 = .ok (.getfield 63, 3) := by decide +kernel
theorem dX8_spreadOver_114 : decode cX8_spreadOver 114 = .ok (.iconst 0, 1) := by decide +kernel
theorem dX8_spreadOver_115 : decode cX8_spreadOver 115 = .ok (.bipush 19, 2) := by decide +kernel
theorem dX8_spreadOver_117 : decode cX8_spreadOver 117 = .ok (.invokestatic 222, 3) := by decide +kernel
theorem dX8_spreadOver_120 : decode cX8_spreadOver 120 = .ok (.return_, 1) := by decide +kernel
theorem dX8_sheetAt_0 : decode cX8_sheetAt 0 = .ok (.iload_n 1, 1) := by decide +kernel
theorem dX8_sheetAt_1 : decode cX8_sheetAt 1 = .ok (.iconst 0, 1) := by decide +kernel
theorem dX8_sheetAt_2 : decode cX8_sheetAt 2 = .ok (.iconst 3, 1) := by decide +kernel
theorem dX8_sheetAt_3 : decode cX8_sheetAt 3 = .ok (.invokestatic 91, 3) := by decide +kernel
theorem dX8_sheetAt_6 : decode cX8_sheetAt 6 = .ok (.ifCond .eq 12, 3) := by decide +kernel
theorem dX8_sheetAt_9 : decode cX8_sheetAt 9 = .ok (.aload_n 0, 1) := by decide +kernel
theorem dX8_sheetAt_10 : decode cX8_sheetAt 10 = .ok (.getfield 72, 3) := by decide +kernel
theorem dX8_sheetAt_13 : decode cX8_sheetAt 13 = .ok (.iload_n 1, 1) := by decide +kernel
theorem dX8_sheetAt_14 : decode cX8_sheetAt 14 = .ok (.aaload, 1) := by decide +kernel
theorem dX8_sheetAt_15 : decode cX8_sheetAt 15 = .ok (.goto 4, 3) := by decide +kernel
theorem dX8_sheetAt_18 : decode cX8_sheetAt 18 = .ok (.aconst_null, 1) := by decide +kernel
theorem dX8_sheetAt_19 : decode cX8_sheetAt 19 = .ok (.areturn, 1) := by decide +kernel
theorem dX8_finding_0 : decode cX8_finding 0 = .ok (.aload_n 0, 1) := by decide +kernel
theorem dX8_finding_1 : decode cX8_finding 1 = .ok (.iload_n 1, 1) := by decide +kernel
theorem dX8_finding_2 : decode cX8_finding 2 = .ok (.putfield 266, 3) := by decide +kernel
theorem dX8_finding_5 : decode cX8_finding 5 = .ok (.bipush (-10), 2) := by decide +kernel
theorem dX8_finding_7 : decode cX8_finding 7 = .ok (.iload_n 1, 1) := by decide +kernel
theorem dX8_finding_8 : decode cX8_finding 8 = .ok (.isub, 1) := by decide +kernel
theorem dX8_finding_9 : decode cX8_finding 9 = .ok (.ireturn, 1) := by decide +kernel
end
section
theorem dX9_init_0 : decode cX9_init 0 = .ok (.aload_n 0, 1) := by decide +kernel
theorem dX9_init_1 : decode cX9_init 1 = .ok (.invokespecial 1, 3) := by decide +kernel
theorem dX9_init_4 : decode cX9_init 4 = .ok (.aload_n 0, 1) := by decide +kernel
theorem dX9_init_5 : decode cX9_init 5 = .ok (.iconst 4, 1) := by decide +kernel
theorem dX9_init_6 : decode cX9_init 6 = .ok (.newarray .int, 2) := by decide +kernel
theorem dX9_init_8 : decode cX9_init 8 = .ok (.putfield 7, 3) := by decide +kernel
theorem dX9_init_11 : decode cX9_init 11 = .ok (.aload_n 0, 1) := by decide +kernel
theorem dX9_init_12 : decode cX9_init 12 = .ok (.iconst 4, 1) := by decide +kernel
theorem dX9_init_13 : decode cX9_init 13 = .ok (.newarray .int, 2) := by decide +kernel
theorem dX9_init_15 : decode cX9_init 15 = .ok (.putfield 13, 3) := by decide +kernel
theorem dX9_init_18 : decode cX9_init 18 = .ok (.aload_n 0, 1) := by decide +kernel
theorem dX9_init_19 : decode cX9_init 19 = .ok (.sipush 240, 3) := by decide +kernel
theorem dX9_init_22 : decode cX9_init 22 = .ok (.newarray .int, 2) := by decide +kernel
theorem dX9_init_24 : decode cX9_init 24 = .ok (.putfield 16, 3) := by decide +kernel
theorem dX9_init_27 : decode cX9_init 27 = .ok (.aload_n 0, 1) := by decide +kernel
theorem dX9_init_28 : decode cX9_init 28 = .ok (.bipush 60, 2) := by decide +kernel
theorem dX9_init_30 : decode cX9_init 30 = .ok (.newarray .int, 2) := by decide +kernel
theorem dX9_init_32 : decode cX9_init 32 = .ok (.putfield 19, 3) := by decide +kernel
theorem dX9_init_35 : decode cX9_init 35 = .ok (.aload_n 0, 1) := by decide +kernel
theorem dX9_init_36 : decode cX9_init 36 = .ok (.bipush 120, 2) := by decide +kernel
theorem dX9_init_38 : decode cX9_init 38 = .ok (.newarray .int, 2) := by decide +kernel
theorem dX9_init_40 : decode cX9_init 40 = .ok (.putfield 22, 3) := by decide +kernel
theorem dX9_init_43 : decode cX9_init 43 = .ok (.aload_n 0, 1) := by decide +kernel
theorem dX9_init_44 : decode cX9_init 44 = .ok (.iconst 3, 1) := by decide +kernel
theorem dX9_init_45 : decode cX9_init 45 = .ok (.newarray .int, 2) := by decide +kernel
theorem dX9_init_47 : decode cX9_init 47 = .ok (.putfield 25, 3) := by decide +kernel
theorem dX9_init_50 : decode cX9_init 50 = .ok (.aload_n 0, 1) := by decide +kernel
theorem dX9_init_51 : decode cX9_init 51 = .ok (.bipush 19, 2) := by decide +kernel
theorem dX9_init_53 : decode cX9_init 53 = .ok (.newarray .int, 2) := by decide +kernel
theorem dX9_init_55 : decode cX9_init 55 = .ok (.putfield 28, 3) := by decide +kernel
theorem dX9_init_58 : decode cX9_init 58 = .ok (.aload_n 0, 1) := by decide +kernel
theorem dX9_init_59 : decode cX9_init 59 = .ok (.bipush 32, 2) := by decide +kernel
theorem dX9_init_61 : decode cX9_init 61 = .ok (.newarray .int, 2) := by decide +kernel
theorem dX9_init_63 : decode cX9_init 63 = .ok (.putfield 31, 3) := by decide +kernel
theorem dX9_init_66 : decode cX9_init 66 = .ok (.aload_n 0, 1) := by decide +kernel
theorem dX9_init_67 : decode cX9_init 67 = .ok (.bipush 24, 2) := by decide +kernel
theorem dX9_init_69 : decode cX9_init 69 = .ok (.newarray .int, 2) := by decide +kernel
theorem dX9_init_71 : decode cX9_init 71 = .ok (.putfield 34, 3) := by decide +kernel
theorem dX9_init_74 : decode cX9_init 74 = .ok (.aload_n 0, 1) := by decide +kernel
theorem dX9_init_75 : decode cX9_init 75 = .ok (.iconst 2, 1) := by decide +kernel
theorem dX9_init_76 : decode cX9_init 76 = .ok (.newarray .int, 2) := by decide +kernel
theorem dX9_init_78 : decode cX9_init 78 = .ok (.putfield 37, 3) := by decide +kernel
theorem dX9_init_81 : decode cX9_init 81 = .ok (.aload_n 0, 1) := by decide +kernel
theorem dX9_init_82 : decode cX9_init 82 = .ok (.iconst 4, 1) := by decide +kernel
theorem dX9_init_83 : decode cX9_init 83 = .ok (.newarray .int, 2) := by decide +kernel
theorem dX9_init_85 : decode cX9_init 85 = .ok (.putfield 40, 3) := by decide +kernel
theorem dX9_init_88 : decode cX9_init 88 = .ok (.aload_n 0, 1) := by decide +kernel
theorem dX9_init_89 : decode cX9_init 89 = .ok (.bipush 25, 2) := by decide +kernel
theorem dX9_init_91 : decode cX9_init 91 = .ok (.newarray .int, 2) := by decide +kernel
theorem dX9_init_93 : decode cX9_init 93 = .ok (.putfield 43, 3) := by decide +kernel
theorem dX9_init_96 : decode cX9_init 96 = .ok (.aload_n 0, 1) := by decide +kernel
theorem dX9_init_97 : decode cX9_init 97 = .ok (.bipush 24, 2) := by decide +kernel
theorem dX9_init_99 : decode cX9_init 99 = .ok (.newarray .int, 2) := by decide +kernel
theorem dX9_init_101 : decode cX9_init 101 = .ok (.putfield 46, 3) := by decide +kernel
theorem dX9_init_104 : decode cX9_init 104 = .ok (.aload_n 0, 1) := by decide +kernel
theorem dX9_init_105 : decode cX9_init 105 = .ok (.bipush 24, 2) := by decide +kernel
theorem dX9_init_107 : decode cX9_init 107 = .ok (.newarray .int, 2) := by decide +kernel
theorem dX9_init_109 : decode cX9_init 109 = .ok (.putfield 49, 3) := by decide +kernel
theorem dX9_init_112 : decode cX9_init 112 = .ok (.aload_n 0, 1) := by decide +kernel
theorem dX9_init_113 : decode cX9_init 113 = .ok (.bipush 24, 2) := by decide +kernel
theorem dX9_init_115 : decode cX9_init 115 = .ok (.newarray .int, 2) := by decide +kernel
theorem dX9_init_117 : decode cX9_init 117 = .ok (.putfield 52, 3) := by decide +kernel
theorem dX9_init_120 : decode cX9_init 120 = .ok (.aload_n 0, 1) := by decide +kernel
theorem dX9_init_121 : decode cX9_init 121 = .ok (.bipush 8, 2) := by decide +kernel
theorem dX9_init_123 : decode cX9_init 123 = .ok (.newarray .int, 2) := by decide +kernel
theorem dX9_init_125 : decode cX9_init 125 = .ok (.putfield 55, 3) := by decide +kernel
theorem dX9_init_128 : decode cX9_init 128 = .ok (.aload_n 0, 1) := by decide +kernel
theorem dX9_init_129 : decode cX9_init 129 = .ok (.bipush 8, 2) := by decide +kernel
theorem dX9_init_131 : decode cX9_init 131 = .ok (.newarray .int, 2) := by decide +kernel
theorem dX9_init_133 : decode cX9_init 133 = .ok (.putfield 58, 3) := by decide +kernel
theorem dX9_init_136 : decode cX9_init 136 = .ok (.aload_n 0, 1) := by decide +kernel
theorem dX9_init_137 : decode cX9_init 137 = .ok (.bipush 16, 2) := by decide +kernel
theorem dX9_init_139 : decode cX9_init 139 = .ok (.newarray .int, 2) := by decide +kernel
theorem dX9_init_141 : decode cX9_init 141 = .ok (.putfield 61, 3) := by decide +kernel
theorem dX9_init_144 : decode cX9_init 144 = .ok (.aload_n 0, 1) := by decide +kernel
theorem dX9_init_145 : decode cX9_init 145 = .ok (.sipush 475, 3) := by decide +kernel
theorem dX9_init_148 : decode cX9_init 148 = .ok (.newarray .int, 2) := by decide +kernel
theorem dX9_init_150 : decode cX9_init 150 = .ok (.putfield 64, 3) := by decide +kernel
theorem dX9_init_153 : decode cX9_init 153 = .ok (.iconst 0, 1) := by decide +kernel
theorem dX9_init_154 : decode cX9_init 154 = .ok (.istore_n 1, 1) := by decide +kernel
theorem dX9_init_155 : decode cX9_init 155 = .ok (.iload_n 1, 1) := by decide +kernel
theorem dX9_init_156 : decode cX9_init 156 = .ok (.iconst 4, 1) := by decide +kernel
theorem dX9_init_157 : decode cX9_init 157 = .ok (.if_icmp .ge 16, 3) := by decide +kernel
theorem dX9_init_160 : decode cX9_init 160 = .ok (.aload_n 0, 1) := by decide +kernel
theorem dX9_init_161 : decode cX9_init 161 = .ok (.getfield 7, 3) := by decide +kernel
theorem dX9_init_164 : decode cX9_init 164 = .ok (.iload_n 1, 1) := by decide +kernel
theorem dX9_init_165 : decode cX9_init 165 = .ok (.iconst (-1), 1) := by decide +kernel
theorem dX9_init_166 : decode cX9_init 166 = .ok (.iastore, 1) := by decide +kernel
theorem dX9_init_167 : decode cX9_init 167 = .ok (.iinc 1 1, 3) := by decide +kernel
theorem dX9_init_170 : decode cX9_init 170 = .ok (.goto (-15), 3) := by decide +kernel
theorem dX9_init_173 : decode cX9_init 173 = .ok (.aload_n 0, 1) := by decide +kernel
theorem dX9_init_174 : decode cX9_init 174 = .ok (.getfield 37, 3) := by decide +kernel
theorem dX9_init_177 : decode cX9_init 177 = .ok (.iconst 0, 1) := by decide +kernel
theorem dX9_init_178 : decode cX9_init 178 = .ok (.iconst 5, 1) := by decide +kernel
theorem dX9_init_179 : decode cX9_init 179 = .ok (.iastore, 1) := by decide +kernel
theorem dX9_init_180 : decode cX9_init 180 = .ok (.aload_n 0, 1) := by decide +kernel
theorem dX9_init_181 : decode cX9_init 181 = .ok (.getfield 37, 3) := by decide +kernel
theorem dX9_init_184 : decode cX9_init 184 = .ok (.iconst 1, 1) := by decide +kernel
theorem dX9_init_185 : decode cX9_init 185 = .ok (.bipush 9, 2) := by decide +kernel
theorem dX9_init_187 : decode cX9_init 187 = .ok (.iastore, 1) := by decide +kernel
theorem dX9_init_188 : decode cX9_init 188 = .ok (.aload_n 0, 1) := by decide +kernel
theorem dX9_init_189 : decode cX9_init 189 = .ok (.getfield 40, 3) := by decide +kernel
theorem dX9_init_192 : decode cX9_init 192 = .ok (.iconst 0, 1) := by decide +kernel
theorem dX9_init_193 : decode cX9_init 193 = .ok (.iconst 1, 1) := by decide +kernel
theorem dX9_init_194 : decode cX9_init 194 = .ok (.iastore, 1) := by decide +kernel
theorem dX9_init_195 : decode cX9_init 195 = .ok (.aload_n 0, 1) := by decide +kernel
theorem dX9_init_196 : decode cX9_init 196 = .ok (.getfield 40, 3) := by decide +kernel
theorem dX9_init_199 : decode cX9_init 199 = .ok (.iconst 1, 1) := by decide +kernel
theorem dX9_init_200 : decode cX9_init 200 = .ok (.iconst 2, 1) := by decide +kernel
theorem dX9_init_201 : decode cX9_init 201 = .ok (.iastore, 1) := by decide +kernel
theorem dX9_init_202 : decode cX9_init 202 = .ok (.aload_n 0, 1) := by decide +kernel
theorem dX9_init_203 : decode cX9_init 203 = .ok (.getfield 40, 3) := by decide +kernel
theorem dX9_init_206 : decode cX9_init 206 = .ok (.iconst 2, 1) := by decide +kernel
theorem dX9_init_207 : decode cX9_init 207 = .ok (.iconst (-1), 1) := by decide +kernel
theorem dX9_init_208 : decode cX9_init 208 = .ok (.iastore, 1) := by decide +kernel
theorem dX9_init_209 : decode cX9_init 209 = .ok (.return_, 1) := by decide +kernel
theorem dX9_in_0 : decode cX9_in 0 = .ok (.lload_n 0, 1) := by decide +kernel
theorem dX9_in_1 : decode cX9_in 1 = .ok (.lload_n 2, 1) := by decide +kernel
theorem dX9_in_2 : decode cX9_in 2 = .ok (.lcmp, 1) := by decide +kernel
theorem dX9_in_3 : decode cX9_in 3 = .ok (.ifCond .lt 14, 3) := by decide +kernel
theorem dX9_in_6 : decode cX9_in 6 = .ok (.lload_n 0, 1) := by decide +kernel
theorem dX9_in_7 : decode cX9_in 7 = .ok (.lload 4, 2) := by decide +kernel
theorem dX9_in_9 : decode cX9_in 9 = .ok (.lcmp, 1) := by decide +kernel
theorem dX9_in_10 : decode cX9_in 10 = .ok (.ifCond .gt 7, 3) := by decide +kernel
theorem dX9_in_13 : decode cX9_in 13 = .ok (.iconst 1, 1) := by decide +kernel
theorem dX9_in_14 : decode cX9_in 14 = .ok (.goto 4, 3) := by decide +kernel
theorem dX9_in_17 : decode cX9_in 17 = .ok (.iconst 0, 1) := by decide +kernel
theorem dX9_in_18 : decode cX9_in 18 = .ok (.ireturn, 1) := by decide +kernel
theorem dX9_no_0 : decode cX9_no 0 = .ok (.ldc2_w 67, 3) := by decide +kernel
theorem dX9_no_3 : decode cX9_no 3 = .ok (.iload_n 0, 1) := by decide +kernel
theorem dX9_no_4 : decode cX9_no 4 = .ok (.i2l, 1) := by decide +kernel
theorem dX9_no_5 : decode cX9_no 5 = .ok (.lsub, 1) := by decide +kernel
theorem dX9_no_6 : decode cX9_no 6 = .ok (.lreturn, 1) := by decide +kernel
theorem dX9_isTwo_0 : decode cX9_isTwo 0 = .ok (.iload_n 0, 1) := by decide +kernel
theorem dX9_isTwo_1 : decode cX9_isTwo 1 = .ok (.i2l, 1) := by decide +kernel
theorem dX9_isTwo_2 : decode cX9_isTwo 2 = .ok (.lconst 0, 1) := by decide +kernel
theorem dX9_isTwo_3 : decode cX9_isTwo 3 = .ok (.lconst 1, 1) := by decide +kernel
theorem dX9_isTwo_4 : decode cX9_isTwo 4 = .ok (.invokestatic 69, 3) := by decide +kernel
theorem dX9_isTwo_7 : decode cX9_isTwo 7 = .ok (.ireturn, 1) := by decide +kernel
theorem dX9_isIn_0 : decode cX9_isIn 0 = .ok (.iload_n 0, 1) := by decide +kernel
theorem dX9_isIn_1 : decode cX9_isIn 1 = .ok (.iload_n 1, 1) := by decide +kernel
theorem dX9_isIn_2 : decode cX9_isIn 2 = .ok (.ishr, 1) := by decide +kernel
theorem dX9_isIn_3 : decode cX9_isIn 3 = .ok (.iconst 1, 1) := by decide +kernel
theorem dX9_isIn_4 : decode cX9_isIn 4 = .ok (.iand, 1) := by decide +kernel
theorem dX9_isIn_5 : decode cX9_isIn 5 = .ok (.iconst 1, 1) := by decide +kernel
theorem dX9_isIn_6 : decode cX9_isIn 6 = .ok (.if_icmp .ne 7, 3) := by decide +kernel
theorem dX9_isIn_9 : decode cX9_isIn 9 = .ok (.iconst 1, 1) := by decide +kernel
theorem dX9_isIn_10 : decode cX9_isIn 10 = .ok (.goto 4, 3) := by decide +kernel
theorem dX9_isIn_13 : decode cX9_isIn 13 = .ok (.iconst 0, 1) := by decide +kernel
theorem dX9_isIn_14 : decode cX9_isIn 14 = .ok (.ireturn, 1) := by decide +kernel
theorem dX9_lesser_0 : decode cX9_lesser 0 = .ok (.iload_n 0, 1) := by decide +kernel
theorem dX9_lesser_1 : decode cX9_lesser 1 = .ok (.iload_n 1, 1) := by decide +kernel
theorem dX9_lesser_2 : decode cX9_lesser 2 = .ok (.if_icmp .ge 7, 3) := by decide +kernel
theorem dX9_lesser_5 : decode cX9_lesser 5 = .ok (.iload_n 0, 1) := by decide +kernel
theorem dX9_lesser_6 : decode cX9_lesser 6 = .ok (.goto 4, 3) := by decide +kernel
theorem dX9_lesser_9 : decode cX9_lesser 9 = .ok (.iload_n 1, 1) := by decide +kernel
theorem dX9_lesser_10 : decode cX9_lesser 10 = .ok (.ireturn, 1) := by decide +kernel
theorem dX9_greater_0 : decode cX9_greater 0 = .ok (.iload_n 0, 1) := by decide +kernel
theorem dX9_greater_1 : decode cX9_greater 1 = .ok (.iload_n 1, 1) := by decide +kernel
theorem dX9_greater_2 : decode cX9_greater 2 = .ok (.if_icmp .le 7, 3) := by decide +kernel
theorem dX9_greater_5 : decode cX9_greater 5 = .ok (.iload_n 0, 1) := by decide +kernel
theorem dX9_greater_6 : decode cX9_greater 6 = .ok (.goto 4, 3) := by decide +kernel
theorem dX9_greater_9 : decode cX9_greater 9 = .ok (.iload_n 1, 1) := by decide +kernel
theorem dX9_greater_10 : decode cX9_greater 10 = .ok (.ireturn, 1) := by decide +kernel
theorem dX9_part_0 : decode cX9_part 0 = .ok (.lload_n 0, 1) := by decide +kernel
theorem dX9_part_1 : decode cX9_part 1 = .ok (.lstore 5, 2) := by decide +kernel
theorem dX9_part_3 : decode cX9_part 3 = .ok (.lload_n 2, 1) := by decide +kernel
theorem dX9_part_4 : decode cX9_part 4 = .ok (.lstore 7, 2) := by decide +kernel
theorem dX9_part_6 : decode cX9_part 6 = .ok (.lload 7, 2) := by decide +kernel
theorem dX9_part_8 : decode cX9_part 8 = .ok (.lconst 0, 1) := by decide +kernel
theorem dX9_part_9 : decode cX9_part 9 = .ok (.lcmp, 1) := by decide +kernel
theorem dX9_part_10 : decode cX9_part 10 = .ok (.ifCond .eq 21, 3) := by decide +kernel
theorem dX9_part_13 : decode cX9_part 13 = .ok (.lload 5, 2) := by decide +kernel
theorem dX9_part_15 : decode cX9_part 15 = .ok (.lload 7, 2) := by decide +kernel
theorem dX9_part_17 : decode cX9_part 17 = .ok (.lrem, 1) := by decide +kernel
theorem dX9_part_18 : decode cX9_part 18 = .ok (.lstore 9, 2) := by decide +kernel
theorem dX9_part_20 : decode cX9_part 20 = .ok (.lload 7, 2) := by decide +kernel
theorem dX9_part_22 : decode cX9_part 22 = .ok (.lstore 5, 2) := by decide +kernel
theorem dX9_part_24 : decode cX9_part 24 = .ok (.lload 9, 2) := by decide +kernel
theorem dX9_part_26 : decode cX9_part 26 = .ok (.lstore 7, 2) := by decide +kernel
theorem dX9_part_28 : decode cX9_part 28 = .ok (.goto (-22), 3) := by decide +kernel
theorem dX9_part_31 : decode cX9_part 31 = .ok (.iload 4, 2) := by decide +kernel
theorem dX9_part_33 : decode cX9_part 33 = .ok (.ifCond .ne 7, 3) := by decide +kernel
theorem dX9_part_36 : decode cX9_part 36 = .ok (.lload_n 0, 1) := by decide +kernel
theorem dX9_part_37 : decode cX9_part 37 = .ok (.goto 4, 3) := by decide +kernel
theorem dX9_part_40 : decode cX9_part 40 = .ok (.lload_n 2, 1) := by decide +kernel
theorem dX9_part_41 : decode cX9_part 41 = .ok (.lload 5, 2) := by decide +kernel
theorem dX9_part_43 : decode cX9_part 43 = .ok (.ldiv, 1) := by decide +kernel
theorem dX9_part_44 : decode cX9_part 44 = .ok (.lreturn, 1) := by decide +kernel
theorem dX9_finds_0 : decode cX9_finds 0 = .ok (.aload_n 0, 1) := by decide +kernel
theorem dX9_finds_1 : decode cX9_finds 1 = .ok (.iload_n 1, 1) := by decide +kernel
theorem dX9_finds_2 : decode cX9_finds 2 = .ok (.putfield 73, 3) := by decide +kernel
theorem dX9_finds_5 : decode cX9_finds 5 = .ok (.bipush (-10), 2) := by decide +kernel
theorem dX9_finds_7 : decode cX9_finds 7 = .ok (.iload_n 1, 1) := by decide +kernel
theorem dX9_finds_8 : decode cX9_finds 8 = .ok (.isub, 1) := by decide +kernel
theorem dX9_finds_9 : decode cX9_finds 9 = .ok (.ireturn, 1) := by decide +kernel
theorem dX9_isSheet_0 : decode cX9_isSheet 0 = .ok (.iload_n 0, 1) := by decide +kernel
theorem dX9_isSheet_1 : decode cX9_isSheet 1 = .ok (.i2l, 1) := by decide +kernel
theorem dX9_isSheet_2 : decode cX9_isSheet 2 = .ok (.lconst 0, 1) := by decide +kernel
theorem dX9_isSheet_3 : decode cX9_isSheet 3 = .ok (.ldc2_w 77, 3) := by decide +kernel
theorem dX9_isSheet_6 : decode cX9_isSheet 6 = .ok (.invokestatic 69, 3) := by decide +kernel
theorem dX9_isSheet_9 : decode cX9_isSheet 9 = .ok (.ireturn, 1) := by decide +kernel
theorem dX9_sheet_0 : decode cX9_sheet 0 = .ok (.iload_n 1, 1) := by decide +kernel
theorem dX9_sheet_1 : decode cX9_sheet 1 = .ok (.invokestatic 79, 3) := by decide +kernel
theorem dX9_sheet_4 : decode cX9_sheet 4 = .ok (.ifCond .eq 21, 3) := by decide +kernel
theorem dX9_sheet_7 : decode cX9_sheet 7 = .ok (.iload_n 2, 1) := by decide +kernel
theorem dX9_sheet_8 : decode cX9_sheet 8 = .ok (.i2l, 1) := by decide +kernel
theorem dX9_sheet_9 : decode cX9_sheet 9 = .ok (.lconst 0, 1) := by decide +kernel
theorem dX9_sheet_10 : decode cX9_sheet 10 = .ok (.ldc2_w 83, 3) := by decide +kernel
theorem dX9_sheet_13 : decode cX9_sheet 13 = .ok (.invokestatic 69, 3) := by decide +kernel
theorem dX9_sheet_16 : decode cX9_sheet 16 = .ok (.ifCond .eq 9, 3) := by decide +kernel
theorem dX9_sheet_19 : decode cX9_sheet 19 = .ok (.iload_n 3, 1) := by decide +kernel
theorem dX9_sheet_20 : decode cX9_sheet 20 = .ok (.bipush 60, 2) := by decide +kernel
theorem dX9_sheet_22 : decode cX9_sheet 22 = .ok (.if_icmp .le 6, 3) := by decide +kernel
theorem dX9_sheet_25 : decode cX9_sheet 25 = .ok (.bipush (-2), 2) := by decide +kernel
theorem dX9_sheet_27 : decode cX9_sheet 27 = .ok (.ireturn, 1) := by decide +kernel
theorem dX9_sheet_28 : decode cX9_sheet 28 = .ok (.iload_n 3, 1) := by decide +kernel
theorem dX9_sheet_29 : decode cX9_sheet 29 = .ok (.ifCond .ge 9, 3) := by decide +kernel
theorem dX9_sheet_32 : decode cX9_sheet 32 = .ok (.aload_n 0, 1) := by decide +kernel
theorem dX9_sheet_33 : decode cX9_sheet 33 = .ok (.iconst 5, 1) := by decide +kernel
theorem dX9_sheet_34 : decode cX9_sheet 34 = .ok (.invokevirtual 85, 3) := by decide +kernel
theorem dX9_sheet_37 : decode cX9_sheet 37 = .ok (.ireturn, 1) := by decide +kernel
theorem dX9_sheet_38 : decode cX9_sheet 38 = .ok (.aload_n 0, 1) := by decide +kernel
theorem dX9_sheet_39 : decode cX9_sheet 39 = .ok (.getfield 7, 3) := by decide +kernel
theorem dX9_sheet_42 : decode cX9_sheet 42 = .ok (.iload_n 1, 1) := by decide +kernel
theorem dX9_sheet_43 : decode cX9_sheet 43 = .ok (.iload_n 2, 1) := by decide +kernel
theorem dX9_sheet_44 : decode cX9_sheet 44 = .ok (.iastore, 1) := by decide +kernel
theorem dX9_sheet_45 : decode cX9_sheet 45 = .ok (.aload_n 0, 1) := by decide +kernel
theorem dX9_sheet_46 : decode cX9_sheet 46 = .ok (.getfield 13, 3) := by decide +kernel
theorem dX9_sheet_49 : decode cX9_sheet 49 = .ok (.iload_n 1, 1) := by decide +kernel
theorem dX9_sheet_50 : decode cX9_sheet 50 = .ok (.iload_n 3, 1) := by decide +kernel
theorem dX9_sheet_51 : decode cX9_sheet 51 = .ok (.iastore, 1) := by decide +kernel
theorem dX9_sheet_52 : decode cX9_sheet 52 = .ok (.iconst 0, 1) := by decide +kernel
theorem dX9_sheet_53 : decode cX9_sheet 53 = .ok (.istore 4, 2) := by decide +kernel
theorem dX9_sheet_55 : decode cX9_sheet 55 = .ok (.iload 4, 2) := by decide +kernel
theorem dX9_sheet_57 : decode cX9_sheet 57 = .ok (.iload_n 3, 1) := by decide +kernel
theorem dX9_sheet_58 : decode cX9_sheet 58 = .ok (.if_icmp .ge 22, 3) := by decide +kernel
theorem dX9_sheet_61 : decode cX9_sheet 61 = .ok (.aload_n 0, 1) := by decide +kernel
theorem dX9_sheet_62 : decode cX9_sheet 62 = .ok (.getfield 16, 3) := by decide +kernel
theorem dX9_sheet_65 : decode cX9_sheet 65 = .ok (.bipush 60, 2) := by decide +kernel
theorem dX9_sheet_67 : decode cX9_sheet 67 = .ok (.iload_n 1, 1) := by decide +kernel
theorem dX9_sheet_68 : decode cX9_sheet 68 = .ok (.imul, 1) := by decide +kernel
theorem dX9_sheet_69 : decode cX9_sheet 69 = .ok (.iload 4, 2) := by decide +kernel
theorem dX9_sheet_71 : decode cX9_sheet 71 = .ok (.iadd, 1) := by decide +kernel
theorem dX9_sheet_72 : decode cX9_sheet 72 = .ok (.iconst 0, 1) := by decide +kernel
theorem dX9_sheet_73 : decode cX9_sheet 73 = .ok (.iastore, 1) := by decide +kernel
theorem dX9_sheet_74 : decode cX9_sheet 74 = .ok (.iinc 4 1, 3) := by decide +kernel
theorem dX9_sheet_77 : decode cX9_sheet 77 = .ok (.goto (-22), 3) := by decide +kernel
theorem dX9_sheet_80 : decode cX9_sheet 80 = .ok (.iload_n 3, 1) := by decide +kernel
theorem dX9_sheet_81 : decode cX9_sheet 81 = .ok (.ireturn, 1) := by decide +kernel
theorem dX9_lose_0 : decode cX9_lose 0 = .ok (.iload_n 1, 1) := by decide +kernel
theorem dX9_lose_1 : decode cX9_lose 1 = .ok (.invokestatic 79, 3) := by decide +kernel
theorem dX9_lose_4 : decode cX9_lose 4 = .ok (.ifCond .ne 6, 3) := by decide +kernel
theorem dX9_lose_7 : decode cX9_lose 7 = .ok (.bipush (-2), 2) := by decide +kernel
theorem dX9_lose_9 : decode cX9_lose 9 = .ok (.ireturn, 1) := by decide +kernel
theorem dX9_lose_10 : decode cX9_lose 10 = .ok (.aload_n 0, 1) := by decide +kernel
theorem dX9_lose_11 : decode cX9_lose 11 = .ok (.getfield 7, 3) := by decide +kernel
theorem dX9_lose_14 : decode cX9_lose 14 = .ok (.iload_n 1, 1) := by decide +kernel
theorem dX9_lose_15 : decode cX9_lose 15 = .ok (.iaload, 1) := by decide +kernel
theorem dX9_lose_16 : decode cX9_lose 16 = .ok (.ifCond .ge 9, 3) := by decide +kernel
theorem dX9_lose_19 : decode cX9_lose 19 = .ok (.aload_n 0, 1) := by decide +kernel
theorem dX9_lose_20 : decode cX9_lose 20 = .ok (.iconst 1, 1) := by decide +kernel
theorem dX9_lose_21 : decode cX9_lose 21 = .ok (.invokevirtual 85, 3) := by decide +kernel
theorem dX9_lose_24 : decode cX9_lose 24 = .ok (.ireturn, 1) := by decide +kernel
theorem dX9_lose_25 : decode cX9_lose 25 = .ok (.aload_n 0, 1) := by decide +kernel
theorem dX9_lose_26 : decode cX9_lose 26 = .ok (.getfield 7, 3) := by decide +kernel
theorem dX9_lose_29 : decode cX9_lose 29 = .ok (.iload_n 1, 1) := by decide +kernel
theorem dX9_lose_30 : decode cX9_lose 30 = .ok (.iconst (-1), 1) := by decide +kernel
theorem dX9_lose_31 : decode cX9_lose 31 = .ok (.iastore, 1) := by decide +kernel
theorem dX9_lose_32 : decode cX9_lose 32 = .ok (.aload_n 0, 1) := by decide +kernel
theorem dX9_lose_33 : decode cX9_lose 33 = .ok (.getfield 13, 3) := by decide +kernel
theorem dX9_lose_36 : decode cX9_lose 36 = .ok (.iload_n 1, 1) := by decide +kernel
theorem dX9_lose_37 : decode cX9_lose 37 = .ok (.iaload, 1) := by decide +kernel
theorem dX9_lose_38 : decode cX9_lose 38 = .ok (.ireturn, 1) := by decide +kernel
theorem dX9_lacks_0 : decode cX9_lacks 0 = .ok (.aload_n 0, 1) := by decide +kernel
theorem dX9_lacks_1 : decode cX9_lacks 1 = .ok (.getfield 7, 3) := by decide +kernel
theorem dX9_lacks_4 : decode cX9_lacks 4 = .ok (.iload_n 1, 1) := by decide +kernel
theorem dX9_lacks_5 : decode cX9_lacks 5 = .ok (.iaload, 1) := by decide +kernel
theorem dX9_lacks_6 : decode cX9_lacks 6 = .ok (.ifCond .ge 9, 3) := by decide +kernel
theorem dX9_lacks_9 : decode cX9_lacks 9 = .ok (.aload_n 0, 1) := by decide +kernel
theorem dX9_lacks_10 : decode cX9_lacks 10 = .ok (.iconst 1, 1) := by decide +kernel
theorem dX9_lacks_11 : decode cX9_lacks 11 = .ok (.invokevirtual 85, 3) := by decide +kernel
theorem dX9_lacks_14 : decode cX9_lacks 14 = .ok (.ireturn, 1) := by decide +kernel
theorem dX9_lacks_15 : decode cX9_lacks 15 = .ok (.aload_n 0, 1) := by decide +kernel
theorem dX9_lacks_16 : decode cX9_lacks 16 = .ok (.getfield 7, 3) := by decide +kernel
theorem dX9_lacks_19 : decode cX9_lacks 19 = .ok (.iload_n 1, 1) := by decide +kernel
theorem dX9_lacks_20 : decode cX9_lacks 20 = .ok (.iaload, 1) := by decide +kernel
theorem dX9_lacks_21 : decode cX9_lacks 21 = .ok (.iload_n 2, 1) := by decide +kernel
theorem dX9_lacks_22 : decode cX9_lacks 22 = .ok (.if_icmp .eq 9, 3) := by decide +kernel
theorem dX9_lacks_25 : decode cX9_lacks 25 = .ok (.aload_n 0, 1) := by decide +kernel
theorem dX9_lacks_26 : decode cX9_lacks 26 = .ok (.iconst 3, 1) := by decide +kernel
theorem dX9_lacks_27 : decode cX9_lacks 27 = .ok (.invokevirtual 85, 3) := by decide +kernel
theorem dX9_lacks_30 : decode cX9_lacks 30 = .ok (.ireturn, 1) := by decide +kernel
theorem dX9_lacks_31 : decode cX9_lacks 31 = .ok (.iload_n 3, 1) := by decide +kernel
theorem dX9_lacks_32 : decode cX9_lacks 32 = .ok (.i2l, 1) := by decide +kernel
theorem dX9_lacks_33 : decode cX9_lacks 33 = .ok (.lconst 0, 1) := by decide +kernel
theorem dX9_lacks_34 : decode cX9_lacks 34 = .ok (.aload_n 0, 1) := by decide +kernel
theorem dX9_lacks_35 : decode cX9_lacks 35 = .ok (.getfield 13, 3) := by decide +kernel
theorem dX9_lacks_38 : decode cX9_lacks 38 = .ok (.iload_n 1, 1) := by decide +kernel
theorem dX9_lacks_39 : decode cX9_lacks 39 = .ok (.iaload, 1) := by decide +kernel
theorem dX9_lacks_40 : decode cX9_lacks 40 = .ok (.iconst 1, 1) := by decide +kernel
theorem dX9_lacks_41 : decode cX9_lacks 41 = .ok (.isub, 1) := by decide +kernel
theorem dX9_lacks_42 : decode cX9_lacks 42 = .ok (.i2l, 1) := by decide +kernel
theorem dX9_lacks_43 : decode cX9_lacks 43 = .ok (.invokestatic 69, 3) := by decide +kernel
theorem dX9_lacks_46 : decode cX9_lacks 46 = .ok (.ifCond .eq 7, 3) := by decide +kernel
theorem dX9_lacks_49 : decode cX9_lacks 49 = .ok (.iconst 0, 1) := by decide +kernel
theorem dX9_lacks_50 : decode cX9_lacks 50 = .ok (.goto 8, 3) := by decide +kernel
theorem dX9_lacks_53 : decode cX9_lacks 53 = .ok (.aload_n 0, 1) := by decide +kernel
theorem dX9_lacks_54 : decode cX9_lacks 54 = .ok (.iconst 2, 1) := by decide +kernel
theorem dX9_lacks_55 : decode cX9_lacks 55 = .ok (.invokevirtual 85, 3) := by decide +kernel
theorem dX9_lacks_58 : decode cX9_lacks 58 = .ok (.ireturn, 1) := by decide +kernel
theorem dX9_cut_0 : decode cX9_cut 0 = .ok (.iload_n 0, 1) := by decide +kernel
theorem dX9_cut_1 : decode cX9_cut 1 = .ok (.ifCond .ne 8, 3) := by decide +kernel
theorem dX9_cut_4 : decode cX9_cut 4 = .ok (.iload_n 1, 1) := by decide +kernel
theorem dX9_cut_5 : decode cX9_cut 5 = .ok (.i2b, 1) := by decide +kernel
theorem dX9_cut_6 : decode cX9_cut 6 = .ok (.goto 14, 3) := by decide +kernel
theorem dX9_cut_9 : decode cX9_cut 9 = .ok (.iload_n 0, 1) := by decide +kernel
theorem dX9_cut_10 : decode cX9_cut 10 = .ok (.iconst 1, 1) := by decide +kernel
theorem dX9_cut_11 : decode cX9_cut 11 = .ok (.if_icmp .ne 8, 3) := by decide +kernel
theorem dX9_cut_14 : decode cX9_cut 14 = .ok (.iload_n 1, 1) := by decide +kernel
theorem dX9_cut_15 : decode cX9_cut 15 = .ok (.i2s, 1) := by decide +kernel
theorem dX9_cut_16 : decode cX9_cut 16 = .ok (.goto 4, 3) := by decide +kernel
theorem dX9_cut_19 : decode cX9_cut 19 = .ok (.iload_n 1, 1) := by decide +kernel
theorem dX9_cut_20 : decode cX9_cut 20 = .ok (.ireturn, 1) := by decide +kernel
theorem dX9_lay_0 : decode cX9_lay 0 = .ok (.iload_n 1, 1) := by decide +kernel
theorem dX9_lay_1 : decode cX9_lay 1 = .ok (.invokestatic 79, 3) := by decide +kernel
theorem dX9_lay_4 : decode cX9_lay 4 = .ok (.ifCond .eq 15, 3) := by decide +kernel
theorem dX9_lay_7 : decode cX9_lay 7 = .ok (.iload_n 2, 1) := by decide +kernel
theorem dX9_lay_8 : decode cX9_lay 8 = .ok (.i2l, 1) := by decide +kernel
theorem dX9_lay_9 : decode cX9_lay 9 = .ok (.lconst 0, 1) := by decide +kernel
theorem dX9_lay_10 : decode cX9_lay 10 = .ok (.ldc2_w 83, 3) := by decide +kernel
theorem dX9_lay_13 : decode cX9_lay 13 = .ok (.invokestatic 69, 3) := by decide +kernel
theorem dX9_lay_16 : decode cX9_lay 16 = .ok (.ifCond .ne 6, 3) := by decide +kernel
theorem dX9_lay_19 : decode cX9_lay 19 = .ok (.bipush (-2), 2) := by decide +kernel
theorem dX9_lay_21 : decode cX9_lay 21 = .ok (.ireturn, 1) := by decide +kernel
theorem dX9_lay_22 : decode cX9_lay 22 = .ok (.aload_n 0, 1) := by decide +kernel
theorem dX9_lay_23 : decode cX9_lay 23 = .ok (.iload_n 1, 1) := by decide +kernel
theorem dX9_lay_24 : decode cX9_lay 24 = .ok (.iload_n 2, 1) := by decide +kernel
theorem dX9_lay_25 : decode cX9_lay 25 = .ok (.iload_n 3, 1) := by decide +kernel
theorem dX9_lay_26 : decode cX9_lay 26 = .ok (.invokevirtual 89, 3) := by decide +kernel
theorem dX9_lay_29 : decode cX9_lay 29 = .ok (.istore 5, 2) := by decide +kernel
theorem dX9_lay_31 : decode cX9_lay 31 = .ok (.iload 5, 2) := by decide +kernel
theorem dX9_lay_33 : decode cX9_lay 33 = .ok (.ifCond .eq 6, 3) := by decide +kernel
theorem dX9_lay_36 : decode cX9_lay 36 = .ok (.iload 5, 2) := by decide +kernel
theorem dX9_lay_38 : decode cX9_lay 38 = .ok (.ireturn, 1) := by decide +kernel
theorem dX9_lay_39 : decode cX9_lay 39 = .ok (.aload_n 0, 1) := by decide +kernel
theorem dX9_lay_40 : decode cX9_lay 40 = .ok (.getfield 16, 3) := by decide +kernel
theorem dX9_lay_43 : decode cX9_lay 43 = .ok (.bipush 60, 2) := by decide +kernel
theorem dX9_lay_45 : decode cX9_lay 45 = .ok (.iload_n 1, 1) := by decide +kernel
theorem dX9_lay_46 : decode cX9_lay 46 = .ok (.imul, 1) := by decide +kernel
theorem dX9_lay_47 : decode cX9_lay 47 = .ok (.iload_n 3, 1) := by decide +kernel
theorem dX9_lay_48 : decode cX9_lay 48 = .ok (.iadd, 1) := by decide +kernel
theorem dX9_lay_49 : decode cX9_lay 49 = .ok (.iload_n 2, 1) := by decide +kernel
theorem dX9_lay_50 : decode cX9_lay 50 = .ok (.iload 4, 2) := by decide +kernel
theorem dX9_lay_52 : decode cX9_lay 52 = .ok (.invokestatic 93, 3) := by decide +kernel
theorem dX9_lay_55 : decode cX9_lay 55 = .ok (.iastore, 1) := by decide +kernel
theorem dX9_lay_56 : decode cX9_lay 56 = .ok (.iconst 1, 1) := by decide +kernel
theorem dX9_lay_57 : decode cX9_lay 57 = .ok (.ireturn, 1) := by decide +kernel
theorem dX9_get_0 : decode cX9_get 0 = .ok (.iload_n 1, 1) := by decide +kernel
theorem dX9_get_1 : decode cX9_get 1 = .ok (.invokestatic 79, 3) := by decide +kernel
theorem dX9_get_4 : decode cX9_get 4 = .ok (.ifCond .eq 25, 3) := by decide +kernel
theorem dX9_get_7 : decode cX9_get 7 = .ok (.iload_n 2, 1) := by decide +kernel
theorem dX9_get_8 : decode cX9_get 8 = .ok (.i2l, 1) := by decide +kernel
theorem dX9_get_9 : decode cX9_get 9 = .ok (.lconst 0, 1) := by decide +kernel
theorem dX9_get_10 : decode cX9_get 10 = .ok (.ldc2_w 83, 3) := by decide +kernel
theorem dX9_get_13 : decode cX9_get 13 = .ok (.invokestatic 69, 3) := by decide +kernel
theorem dX9_get_16 : decode cX9_get 16 = .ok (.ifCond .eq 13, 3) := by decide +kernel
theorem dX9_get_19 : decode cX9_get 19 = .ok (.aload_n 0, 1) := by decide +kernel
theorem dX9_get_20 : decode cX9_get 20 = .ok (.iload_n 1, 1) := by decide +kernel
theorem dX9_get_21 : decode cX9_get 21 = .ok (.iload_n 2, 1) := by decide +kernel
theorem dX9_get_22 : decode cX9_get 22 = .ok (.iload_n 3, 1) := by decide +kernel
theorem dX9_get_23 : decode cX9_get 23 = .ok (.invokevirtual 89, 3) := by decide +kernel
theorem dX9_get_26 : decode cX9_get 26 = .ok (.ifCond .eq 6, 3) := by decide +kernel
theorem dX9_get_29 : decode cX9_get 29 = .ok (.ldc 97, 2) := by decide +kernel
theorem dX9_get_31 : decode cX9_get 31 = .ok (.ireturn, 1) := by decide +kernel
theorem dX9_get_32 : decode cX9_get 32 = .ok (.aload_n 0, 1) := by decide +kernel
theorem dX9_get_33 : decode cX9_get 33 = .ok (.getfield 16, 3) := by decide +kernel
theorem dX9_get_36 : decode cX9_get 36 = .ok (.bipush 60, 2) := by decide +kernel
theorem dX9_get_38 : decode cX9_get 38 = .ok (.iload_n 1, 1) := by decide +kernel
theorem dX9_get_39 : decode cX9_get 39 = .ok (.imul, 1) := by decide +kernel
theorem dX9_get_40 : decode cX9_get 40 = .ok (.iload_n 3, 1) := by decide +kernel
theorem dX9_get_41 : decode cX9_get 41 = .ok (.iadd, 1) := by decide +kernel
theorem dX9_get_42 : decode cX9_get 42 = .ok (.iaload, 1) := by decide +kernel
theorem dX9_get_43 : decode cX9_get 43 = .ok (.ireturn, 1) := by decide +kernel
theorem dX9_copy_0 : decode cX9_copy 0 = .ok (.iload_n 1, 1) := by decide +kernel
theorem dX9_copy_1 : decode cX9_copy 1 = .ok (.invokestatic 79, 3) := by decide +kernel
theorem dX9_copy_4 : decode cX9_copy 4 = .ok (.ifCond .eq 10, 3) := by decide +kernel
theorem dX9_copy_7 : decode cX9_copy 7 = .ok (.iload_n 3, 1) := by decide +kernel
theorem dX9_copy_8 : decode cX9_copy 8 = .ok (.invokestatic 79, 3) := by decide +kernel
theorem dX9_copy_11 : decode cX9_copy 11 = .ok (.ifCond .ne 6, 3) := by decide +kernel
theorem dX9_copy_14 : decode cX9_copy 14 = .ok (.bipush (-2), 2) := by decide +kernel
theorem dX9_copy_16 : decode cX9_copy 16 = .ok (.ireturn, 1) := by decide +kernel
theorem dX9_copy_17 : decode cX9_copy 17 = .ok (.aload_n 0, 1) := by decide +kernel
theorem dX9_copy_18 : decode cX9_copy 18 = .ok (.getfield 7, 3) := by decide +kernel
theorem dX9_copy_21 : decode cX9_copy 21 = .ok (.iload_n 1, 1) := by decide +kernel
theorem dX9_copy_22 : decode cX9_copy 22 = .ok (.iaload, 1) := by decide +kernel
theorem dX9_copy_23 : decode cX9_copy 23 = .ok (.ifCond .lt 12, 3) := by decide +kernel
theorem dX9_copy_26 : decode cX9_copy 26 = .ok (.aload_n 0, 1) := by decide +kernel
theorem dX9_copy_27 : decode cX9_copy 27 = .ok (.getfield 7, 3) := by decide +kernel
theorem dX9_copy_30 : decode cX9_copy 30 = .ok (.iload_n 3, 1) := by decide +kernel
theorem dX9_copy_31 : decode cX9_copy 31 = .ok (.iaload, 1) := by decide +kernel
theorem dX9_copy_32 : decode cX9_copy 32 = .ok (.ifCond .ge 9, 3) := by decide +kernel
theorem dX9_copy_35 : decode cX9_copy 35 = .ok (.aload_n 0, 1) := by decide +kernel
theorem dX9_copy_36 : decode cX9_copy 36 = .ok (.iconst 1, 1) := by decide +kernel
theorem dX9_copy_37 : decode cX9_copy 37 = .ok (.invokevirtual 85, 3) := by decide +kernel
theorem dX9_copy_40 : decode cX9_copy 40 = .ok (.ireturn, 1) := by decide +kernel
theorem dX9_copy_41 : decode cX9_copy 41 = .ok (.aload_n 0, 1) := by decide +kernel
theorem dX9_copy_42 : decode cX9_copy 42 = .ok (.getfield 7, 3) := by decide +kernel
theorem dX9_copy_45 : decode cX9_copy 45 = .ok (.iload_n 1, 1) := by decide +kernel
theorem dX9_copy_46 : decode cX9_copy 46 = .ok (.iaload, 1) := by decide +kernel
theorem dX9_copy_47 : decode cX9_copy 47 = .ok (.aload_n 0, 1) := by decide +kernel
theorem dX9_copy_48 : decode cX9_copy 48 = .ok (.getfield 7, 3) := by decide +kernel
theorem dX9_copy_51 : decode cX9_copy 51 = .ok (.iload_n 3, 1) := by decide +kernel
theorem dX9_copy_52 : decode cX9_copy 52 = .ok (.iaload, 1) := by decide +kernel
theorem dX9_copy_53 : decode cX9_copy 53 = .ok (.if_icmp .eq 9, 3) := by decide +kernel
theorem dX9_copy_56 : decode cX9_copy 56 = .ok (.aload_n 0, 1) := by decide +kernel
theorem dX9_copy_57 : decode cX9_copy 57 = .ok (.iconst 4, 1) := by decide +kernel
theorem dX9_copy_58 : decode cX9_copy 58 = .ok (.invokevirtual 85, 3) := by decide +kernel
theorem dX9_copy_61 : decode cX9_copy 61 = .ok (.ireturn, 1) := by decide +kernel
theorem dX9_copy_62 : decode cX9_copy 62 = .ok (.iload_n 2, 1) := by decide +kernel
theorem dX9_copy_63 : decode cX9_copy 63 = .ok (.ifCond .lt 48, 3) := by decide +kernel
theorem dX9_copy_66 : decode cX9_copy 66 = .ok (.iload 4, 2) := by decide +kernel
theorem dX9_copy_68 : decode cX9_copy 68 = .ok (.ifCond .lt 43, 3) := by decide +kernel
theorem dX9_copy_71 : decode cX9_copy 71 = .ok (.iload 5, 2) := by decide +kernel
theorem dX9_copy_73 : decode cX9_copy 73 = .ok (.ifCond .lt 38, 3) := by decide +kernel
theorem dX9_copy_76 : decode cX9_copy 76 = .ok (.iload_n 2, 1) := by decide +kernel
theorem dX9_copy_77 : decode cX9_copy 77 = .ok (.i2l, 1) := by decide +kernel
theorem dX9_copy_78 : decode cX9_copy 78 = .ok (.iload 5, 2) := by decide +kernel
theorem dX9_copy_80 : decode cX9_copy 80 = .ok (.i2l, 1) := by decide +kernel
theorem dX9_copy_81 : decode cX9_copy 81 = .ok (.ladd, 1) := by decide +kernel
theorem dX9_copy_82 : decode cX9_copy 82 = .ok (.aload_n 0, 1) := by decide +kernel
theorem dX9_copy_83 : decode cX9_copy 83 = .ok (.getfield 13, 3) := by decide +kernel
theorem dX9_copy_86 : decode cX9_copy 86 = .ok (.iload_n 1, 1) := by decide +kernel
theorem dX9_copy_87 : decode cX9_copy 87 = .ok (.iaload, 1) := by decide +kernel
theorem dX9_copy_88 : decode cX9_copy 88 = .ok (.i2l, 1) := by decide +kernel
theorem dX9_copy_89 : decode cX9_copy 89 = .ok (.lcmp, 1) := by decide +kernel
theorem dX9_copy_90 : decode cX9_copy 90 = .ok (.ifCond .gt 21, 3) := by decide +kernel
theorem dX9_copy_93 : decode cX9_copy 93 = .ok (.iload 4, 2) := by decide +kernel
theorem dX9_copy_95 : decode cX9_copy 95 = .ok (.i2l, 1) := by decide +kernel
theorem dX9_copy_96 : decode cX9_copy 96 = .ok (.iload 5, 2) := by decide +kernel
theorem dX9_copy_98 : decode cX9_copy 98 = .ok (.i2l, 1) := by decide +kernel
theorem dX9_copy_99 : decode cX9_copy 99 = .ok (.ladd, 1) := by decide +kernel
theorem dX9_copy_100 : decode cX9_copy 100 = .ok (.aload_n 0, 1) := by decide +kernel
theorem dX9_copy_101 : decode cX9_copy 101 = .ok (.getfield 13, 3) := by decide +kernel
theorem dX9_copy_104 : decode cX9_copy 104 = .ok (.iload_n 3, 1) := by decide +kernel
theorem dX9_copy_105 : decode cX9_copy 105 = .ok (.iaload, 1) := by decide +kernel
theorem dX9_copy_106 : decode cX9_copy 106 = .ok (.i2l, 1) := by decide +kernel
theorem dX9_copy_107 : decode cX9_copy 107 = .ok (.lcmp, 1) := by decide +kernel
theorem dX9_copy_108 : decode cX9_copy 108 = .ok (.ifCond .le 9, 3) := by decide +kernel
theorem dX9_copy_111 : decode cX9_copy 111 = .ok (.aload_n 0, 1) := by decide +kernel
theorem dX9_copy_112 : decode cX9_copy 112 = .ok (.iconst 2, 1) := by decide +kernel
theorem dX9_copy_113 : decode cX9_copy 113 = .ok (.invokevirtual 85, 3) := by decide +kernel
theorem dX9_copy_116 : decode cX9_copy 116 = .ok (.ireturn, 1) := by decide +kernel
theorem dX9_copy_117 : decode cX9_copy 117 = .ok (.iconst 0, 1) := by decide +kernel
theorem dX9_copy_118 : decode cX9_copy 118 = .ok (.istore 6, 2) := by decide +kernel
theorem dX9_copy_120 : decode cX9_copy 120 = .ok (.iload 6, 2) := by decide +kernel
theorem dX9_copy_122 : decode cX9_copy 122 = .ok (.iload 5, 2) := by decide +kernel
theorem dX9_copy_124 : decode cX9_copy 124 = .ok (.if_icmp .ge 30, 3) := by decide +kernel
theorem dX9_copy_127 : decode cX9_copy 127 = .ok (.aload_n 0, 1) := by decide +kernel
theorem dX9_copy_128 : decode cX9_copy 128 = .ok (.getfield 19, 3) := by decide +kernel
theorem dX9_copy_131 : decode cX9_copy 131 = .ok (.iload 6, 2) := by decide +kernel
theorem dX9_copy_133 : decode cX9_copy 133 = .ok (.aload_n 0, 1) := by decide +kernel
theorem dX9_copy_134 : decode cX9_copy 134 = .ok (.getfield 16, 3) := by decide +kernel
theorem dX9_copy_137 : decode cX9_copy 137 = .ok (.bipush 60, 2) := by decide +kernel
theorem dX9_copy_139 : decode cX9_copy 139 = .ok (.iload_n 1, 1) := by decide +kernel
theorem dX9_copy_140 : decode cX9_copy 140 = .ok (.imul, 1) := by decide +kernel
theorem dX9_copy_141 : decode cX9_copy 141 = .ok (.iload_n 2, 1) := by decide +kernel
theorem dX9_copy_142 : decode cX9_copy 142 = .ok (.iadd, 1) := by decide +kernel
theorem dX9_copy_143 : decode cX9_copy 143 = .ok (.iload 6, 2) := by decide +kernel
theorem dX9_copy_145 : decode cX9_copy 145 = .ok (.iadd, 1) := by decide +kernel
theorem dX9_copy_146 : decode cX9_copy 146 = .ok (.iaload, 1) := by decide +kernel
theorem dX9_copy_147 : decode cX9_copy 147 = .ok (.iastore, 1) := by decide +kernel
theorem dX9_copy_148 : decode cX9_copy 148 = .ok (.iinc 6 1, 3) := by decide +kernel
theorem dX9_copy_151 : decode cX9_copy 151 = .ok (.goto (-31), 3) := by decide +kernel
theorem dX9_copy_154 : decode cX9_copy 154 = .ok (.iconst 0, 1) := by decide +kernel
theorem dX9_copy_155 : decode cX9_copy 155 = .ok (.istore 6, 2) := by decide +kernel
theorem dX9_copy_157 : decode cX9_copy 157 = .ok (.iload 6, 2) := by decide +kernel
theorem dX9_copy_159 : decode cX9_copy 159 = .ok (.iload 5, 2) := by decide +kernel
theorem dX9_copy_161 : decode cX9_copy 161 = .ok (.if_icmp .ge 31, 3) := by decide +kernel
theorem dX9_copy_164 : decode cX9_copy 164 = .ok (.aload_n 0, 1) := by decide +kernel
theorem dX9_copy_165 : decode cX9_copy 165 = .ok (.getfield 16, 3) := by decide +kernel
theorem dX9_copy_168 : decode cX9_copy 168 = .ok (.bipush 60, 2) := by decide +kernel
theorem dX9_copy_170 : decode cX9_copy 170 = .ok (.iload_n 3, 1) := by decide +kernel
theorem dX9_copy_171 : decode cX9_copy 171 = .ok (.imul, 1) := by decide +kernel
theorem dX9_copy_172 : decode cX9_copy 172 = .ok (.iload 4, 2) := by decide +kernel
theorem dX9_copy_174 : decode cX9_copy 174 = .ok (.iadd, 1) := by decide +kernel
theorem dX9_copy_175 : decode cX9_copy 175 = .ok (.iload 6, 2) := by decide +kernel
theorem dX9_copy_177 : decode cX9_copy 177 = .ok (.iadd, 1) := by decide +kernel
theorem dX9_copy_178 : decode cX9_copy 178 = .ok (.aload_n 0, 1) := by decide +kernel
theorem dX9_copy_179 : decode cX9_copy 179 = .ok (.getfield 19, 3) := by decide +kernel
theorem dX9_copy_182 : decode cX9_copy 182 = .ok (.iload 6, 2) := by decide +kernel
theorem dX9_copy_184 : decode cX9_copy 184 = .ok (.iaload, 1) := by decide +kernel
theorem dX9_copy_185 : decode cX9_copy 185 = .ok (.iastore, 1) := by decide +kernel
theorem dX9_copy_186 : decode cX9_copy 186 = .ok (.iinc 6 1, 3) := by decide +kernel
theorem dX9_copy_189 : decode cX9_copy 189 = .ok (.goto (-32), 3) := by decide +kernel
theorem dX9_copy_192 : decode cX9_copy 192 = .ok (.iconst 1, 1) := by decide +kernel
theorem dX9_copy_193 : decode cX9_copy 193 = .ok (.ireturn, 1) := by decide +kernel
theorem dX9_isText_0 : decode cX9_isText 0 = .ok (.iload_n 0, 1) := by decide +kernel
theorem dX9_isText_1 : decode cX9_isText 1 = .ok (.i2l, 1) := by decide +kernel
theorem dX9_isText_2 : decode cX9_isText 2 = .ok (.lconst 0, 1) := by decide +kernel
theorem dX9_isText_3 : decode cX9_isText 3 = .ok (.ldc2_w 83, 3) := by decide +kernel
theorem dX9_isText_6 : decode cX9_isText 6 = .ok (.invokestatic 69, 3) := by decide +kernel
theorem dX9_isText_9 : decode cX9_isText 9 = .ok (.ireturn, 1) := by decide +kernel
theorem dX9_type_0 : decode cX9_type 0 = .ok (.iload_n 1, 1) := by decide +kernel
theorem dX9_type_1 : decode cX9_type 1 = .ok (.invokestatic 98, 3) := by decide +kernel
theorem dX9_type_4 : decode cX9_type 4 = .ok (.ifCond .eq 15, 3) := by decide +kernel
theorem dX9_type_7 : decode cX9_type 7 = .ok (.iload_n 2, 1) := by decide +kernel
theorem dX9_type_8 : decode cX9_type 8 = .ok (.i2l, 1) := by decide +kernel
theorem dX9_type_9 : decode cX9_type 9 = .ok (.lconst 0, 1) := by decide +kernel
theorem dX9_type_10 : decode cX9_type 10 = .ok (.ldc2_w 101, 3) := by decide +kernel
theorem dX9_type_13 : decode cX9_type 13 = .ok (.invokestatic 69, 3) := by decide +kernel
theorem dX9_type_16 : decode cX9_type 16 = .ok (.ifCond .ne 6, 3) := by decide +kernel
theorem dX9_type_19 : decode cX9_type 19 = .ok (.bipush (-2), 2) := by decide +kernel
theorem dX9_type_21 : decode cX9_type 21 = .ok (.ireturn, 1) := by decide +kernel
theorem dX9_type_22 : decode cX9_type 22 = .ok (.aload_n 0, 1) := by decide +kernel
theorem dX9_type_23 : decode cX9_type 23 = .ok (.getfield 25, 3) := by decide +kernel
theorem dX9_type_26 : decode cX9_type 26 = .ok (.iload_n 1, 1) := by decide +kernel
theorem dX9_type_27 : decode cX9_type 27 = .ok (.iaload, 1) := by decide +kernel
theorem dX9_type_28 : decode cX9_type 28 = .ok (.iload_n 1, 1) := by decide +kernel
theorem dX9_type_29 : decode cX9_type 29 = .ok (.ifCond .ne 8, 3) := by decide +kernel
theorem dX9_type_32 : decode cX9_type 32 = .ok (.bipush 19, 2) := by decide +kernel
theorem dX9_type_34 : decode cX9_type 34 = .ok (.goto 15, 3) := by decide +kernel
theorem dX9_type_37 : decode cX9_type 37 = .ok (.iload_n 1, 1) := by decide +kernel
theorem dX9_type_38 : decode cX9_type 38 = .ok (.iconst 1, 1) := by decide +kernel
theorem dX9_type_39 : decode cX9_type 39 = .ok (.if_icmp .ne 8, 3) := by decide +kernel
theorem dX9_type_42 : decode cX9_type 42 = .ok (.bipush 39, 2) := by decide +kernel
theorem dX9_type_44 : decode cX9_type 44 = .ok (.goto 5, 3) := by decide +kernel
theorem dX9_type_47 : decode cX9_type 47 = .ok (.bipush 24, 2) := by decide +kernel
theorem dX9_type_49 : decode cX9_type 49 = .ok (.if_icmp .ne 6, 3) := by decide +kernel
theorem dX9_type_52 : decode cX9_type 52 = .ok (.bipush (-4), 2) := by decide +kernel
theorem dX9_type_54 : decode cX9_type 54 = .ok (.ireturn, 1) := by decide +kernel
theorem dX9_type_55 : decode cX9_type 55 = .ok (.aload_n 0, 1) := by decide +kernel
theorem dX9_type_56 : decode cX9_type 56 = .ok (.getfield 22, 3) := by decide +kernel
theorem dX9_type_59 : decode cX9_type 59 = .ok (.bipush 40, 2) := by decide +kernel
theorem dX9_type_61 : decode cX9_type 61 = .ok (.iload_n 1, 1) := by decide +kernel
theorem dX9_type_62 : decode cX9_type 62 = .ok (.imul, 1) := by decide +kernel
theorem dX9_type_63 : decode cX9_type 63 = .ok (.aload_n 0, 1) := by decide +kernel
theorem dX9_type_64 : decode cX9_type 64 = .ok (.getfield 25, 3) := by decide +kernel
theorem dX9_type_67 : decode cX9_type 67 = .ok (.iload_n 1, 1) := by decide +kernel
theorem dX9_type_68 : decode cX9_type 68 = .ok (.iaload, 1) := by decide +kernel
theorem dX9_type_69 : decode cX9_type 69 = .ok (.iadd, 1) := by decide +kernel
theorem dX9_type_70 : decode cX9_type 70 = .ok (.iload_n 2, 1) := by decide +kernel
theorem dX9_type_71 : decode cX9_type 71 = .ok (.iastore, 1) := by decide +kernel
theorem dX9_type_72 : decode cX9_type 72 = .ok (.aload_n 0, 1) := by decide +kernel
theorem dX9_type_73 : decode cX9_type 73 = .ok (.getfield 25, 3) := by decide +kernel
theorem dX9_type_76 : decode cX9_type 76 = .ok (.iload_n 1, 1) := by decide +kernel
theorem dX9_type_77 : decode cX9_type 77 = .ok (.dup2, 1) := by decide +kernel
theorem dX9_type_78 : decode cX9_type 78 = .ok (.iaload, 1) := by decide +kernel
theorem dX9_type_79 : decode cX9_type 79 = .ok (.iconst 1, 1) := by decide +kernel
theorem dX9_type_80 : decode cX9_type 80 = .ok (.iadd, 1) := by decide +kernel
theorem dX9_type_81 : decode cX9_type 81 = .ok (.iastore, 1) := by decide +kernel
theorem dX9_type_82 : decode cX9_type 82 = .ok (.aload_n 0, 1) := by decide +kernel
theorem dX9_type_83 : decode cX9_type 83 = .ok (.getfield 25, 3) := by decide +kernel
theorem dX9_type_86 : decode cX9_type 86 = .ok (.iload_n 1, 1) := by decide +kernel
theorem dX9_type_87 : decode cX9_type 87 = .ok (.iaload, 1) := by decide +kernel
theorem dX9_type_88 : decode cX9_type 88 = .ok (.ireturn, 1) := by decide +kernel
theorem dX9_wipe_0 : decode cX9_wipe 0 = .ok (.iload_n 1, 1) := by decide +kernel
theorem dX9_wipe_1 : decode cX9_wipe 1 = .ok (.invokestatic 98, 3) := by decide +kernel
theorem dX9_wipe_4 : decode cX9_wipe 4 = .ok (.ifCond .ne 6, 3) := by decide +kernel
theorem dX9_wipe_7 : decode cX9_wipe 7 = .ok (.bipush (-2), 2) := by decide +kernel
theorem dX9_wipe_9 : decode cX9_wipe 9 = .ok (.ireturn, 1) := by decide +kernel
theorem dX9_wipe_10 : decode cX9_wipe 10 = .ok (.aload_n 0, 1) := by decide +kernel
theorem dX9_wipe_11 : decode cX9_wipe 11 = .ok (.getfield 25, 3) := by decide +kernel
theorem dX9_wipe_14 : decode cX9_wipe 14 = .ok (.iload_n 1, 1) := by decide +kernel
theorem dX9_wipe_15 : decode cX9_wipe 15 = .ok (.iaload, 1) := by decide +kernel
theorem dX9_wipe_16 : decode cX9_wipe 16 = .ok (.istore_n 2, 1) := by decide +kernel
theorem dX9_wipe_17 : decode cX9_wipe 17 = .ok (.aload_n 0, 1) := by decide +kernel
theorem dX9_wipe_18 : decode cX9_wipe 18 = .ok (.getfield 25, 3) := by decide +kernel
theorem dX9_wipe_21 : decode cX9_wipe 21 = .ok (.iload_n 1, 1) := by decide +kernel
theorem dX9_wipe_22 : decode cX9_wipe 22 = .ok (.iconst 0, 1) := by decide +kernel
theorem dX9_wipe_23 : decode cX9_wipe 23 = .ok (.iastore, 1) := by decide +kernel
theorem dX9_wipe_24 : decode cX9_wipe 24 = .ok (.iload_n 2, 1) := by decide +kernel
theorem dX9_wipe_25 : decode cX9_wipe 25 = .ok (.ireturn, 1) := by decide +kernel
theorem dX9_undo_0 : decode cX9_undo 0 = .ok (.iload_n 1, 1) := by decide +kernel
theorem dX9_undo_1 : decode cX9_undo 1 = .ok (.invokestatic 98, 3) := by decide +kernel
theorem dX9_undo_4 : decode cX9_undo 4 = .ok (.ifCond .ne 6, 3) := by decide +kernel
theorem dX9_undo_7 : decode cX9_undo 7 = .ok (.bipush (-2), 2) := by decide +kernel
theorem dX9_undo_9 : decode cX9_undo 9 = .ok (.ireturn, 1) := by decide +kernel
theorem dX9_undo_10 : decode cX9_undo 10 = .ok (.aload_n 0, 1) := by decide +kernel
theorem dX9_undo_11 : decode cX9_undo 11 = .ok (.getfield 25, 3) := by decide +kernel
theorem dX9_undo_14 : decode cX9_undo 14 = .ok (.iload_n 1, 1) := by decide +kernel
theorem dX9_undo_15 : decode cX9_undo 15 = .ok (.iaload, 1) := by decide +kernel
theorem dX9_undo_16 : decode cX9_undo 16 = .ok (.ifCond .ne 6, 3) := by decide +kernel
theorem dX9_undo_19 : decode cX9_undo 19 = .ok (.bipush (-3), 2) := by decide +kernel
theorem dX9_undo_21 : decode cX9_undo 21 = .ok (.ireturn, 1) := by decide +kernel
theorem dX9_undo_22 : decode cX9_undo 22 = .ok (.aload_n 0, 1) := by decide +kernel
theorem dX9_undo_23 : decode cX9_undo 23 = .ok (.getfield 25, 3) := by decide +kernel
theorem dX9_undo_26 : decode cX9_undo 26 = .ok (.iload_n 1, 1) := by decide +kernel
theorem dX9_undo_27 : decode cX9_undo 27 = .ok (.dup2, 1) := by decide +kernel
theorem dX9_undo_28 : decode cX9_undo 28 = .ok (.iaload, 1) := by decide +kernel
theorem dX9_undo_29 : decode cX9_undo 29 = .ok (.iconst 1, 1) := by decide +kernel
theorem dX9_undo_30 : decode cX9_undo 30 = .ok (.isub, 1) := by decide +kernel
theorem dX9_undo_31 : decode cX9_undo 31 = .ok (.iastore, 1) := by decide +kernel
theorem dX9_undo_32 : decode cX9_undo 32 = .ok (.aload_n 0, 1) := by decide +kernel
theorem dX9_undo_33 : decode cX9_undo 33 = .ok (.getfield 25, 3) := by decide +kernel
theorem dX9_undo_36 : decode cX9_undo 36 = .ok (.iload_n 1, 1) := by decide +kernel
theorem dX9_undo_37 : decode cX9_undo 37 = .ok (.iaload, 1) := by decide +kernel
theorem dX9_undo_38 : decode cX9_undo 38 = .ok (.ireturn, 1) := by decide +kernel
theorem dX9_readsPlanks_0 : decode cX9_readsPlanks 0 = .ok (.aload_n 0, 1) := by decide +kernel
theorem dX9_readsPlanks_1 : decode cX9_readsPlanks 1 = .ok (.iconst 0, 1) := by decide +kernel
theorem dX9_readsPlanks_2 : decode cX9_readsPlanks 2 = .ok (.putfield 103, 3) := by decide +kernel
theorem dX9_readsPlanks_5 : decode cX9_readsPlanks 5 = .ok (.iconst 0, 1) := by decide +kernel
theorem dX9_readsPlanks_6 : decode cX9_readsPlanks 6 = .ok (.istore_n 1, 1) := by decide +kernel
theorem dX9_readsPlanks_7 : decode cX9_readsPlanks 7 = .ok (.iload_n 1, 1) := by decide +kernel
theorem dX9_readsPlanks_8 : decode cX9_readsPlanks 8 = .ok (.aload_n 0, 1) := by decide +kernel
theorem dX9_readsPlanks_9 : decode cX9_readsPlanks 9 = .ok (.getfield 25, 3) := by decide +kernel
theorem dX9_readsPlanks_12 : decode cX9_readsPlanks 12 = .ok (.iconst 0, 1) := by decide +kernel
theorem dX9_readsPlanks_13 : decode cX9_readsPlanks 13 = .ok (.iaload, 1) := by decide +kernel
theorem dX9_readsPlanks_14 : decode cX9_readsPlanks 14 = .ok (.if_icmp .ge 62, 3) := by decide +kernel
theorem dX9_readsPlanks_17 : decode cX9_readsPlanks 17 = .ok (.aload_n 0, 1) := by decide +kernel
theorem dX9_readsPlanks_18 : decode cX9_readsPlanks 18 = .ok (.getfield 22, 3) := by decide +kernel
theorem dX9_readsPlanks_21 : decode cX9_readsPlanks 21 = .ok (.iload_n 1, 1) := by decide +kernel
theorem dX9_readsPlanks_22 : decode cX9_readsPlanks 22 = .ok (.iaload, 1) := by decide +kernel
theorem dX9_readsPlanks_23 : decode cX9_readsPlanks 23 = .ok (.istore_n 2, 1) := by decide +kernel
theorem dX9_readsPlanks_24 : decode cX9_readsPlanks 24 = .ok (.iload_n 2, 1) := by decide +kernel
theorem dX9_readsPlanks_25 : decode cX9_readsPlanks 25 = .ok (.bipush 46, 2) := by decide +kernel
theorem dX9_readsPlanks_27 : decode cX9_readsPlanks 27 = .ok (.if_icmp .eq 16, 3) := by decide +kernel
theorem dX9_readsPlanks_30 : decode cX9_readsPlanks 30 = .ok (.iload_n 2, 1) := by decide +kernel
theorem dX9_readsPlanks_31 : decode cX9_readsPlanks 31 = .ok (.bipush 114, 2) := by decide +kernel
theorem dX9_readsPlanks_33 : decode cX9_readsPlanks 33 = .ok (.if_icmp .eq 10, 3) := by decide +kernel
theorem dX9_readsPlanks_36 : decode cX9_readsPlanks 36 = .ok (.aload_n 0, 1) := by decide +kernel
theorem dX9_readsPlanks_37 : decode cX9_readsPlanks 37 = .ok (.iconst 0, 1) := by decide +kernel
theorem dX9_readsPlanks_38 : decode cX9_readsPlanks 38 = .ok (.putfield 103, 3) := by decide +kernel
theorem dX9_readsPlanks_41 : decode cX9_readsPlanks 41 = .ok (.iload_n 1, 1) := by decide +kernel
theorem dX9_readsPlanks_42 : decode cX9_readsPlanks 42 = .ok (.ireturn, 1) := by decide +kernel
theorem dX9_readsPlanks_43 : decode cX9_readsPlanks 43 = .ok (.aload_n 0, 1) := by decide +kernel
theorem dX9_readsPlanks_44 : decode cX9_readsPlanks 44 = .ok (.getfield 28, 3) := by decide +kernel
theorem dX9_readsPlanks_47 : decode cX9_readsPlanks 47 = .ok (.iload_n 1, 1) := by decide +kernel
theorem dX9_readsPlanks_48 : decode cX9_readsPlanks 48 = .ok (.iload_n 2, 1) := by decide +kernel
theorem dX9_readsPlanks_49 : decode cX9_readsPlanks 49 = .ok (.bipush 114, 2) := by decide +kernel
theorem dX9_readsPlanks_51 : decode cX9_readsPlanks 51 = .ok (.if_icmp .ne 7, 3) := by decide +kernel
theorem dX9_readsPlanks_54 : decode cX9_readsPlanks 54 = .ok (.iconst 1, 1) := by decide +kernel
theorem dX9_readsPlanks_55 : decode cX9_readsPlanks 55 = .ok (.goto 4, 3) := by decide +kernel
theorem dX9_readsPlanks_58 : decode cX9_readsPlanks 58 = .ok (.iconst 0, 1) := by decide +kernel
theorem dX9_readsPlanks_59 : decode cX9_readsPlanks 59 = .ok (.iastore, 1) := by decide +kernel
theorem dX9_readsPlanks_60 : decode cX9_readsPlanks 60 = .ok (.aload_n 0, 1) := by decide +kernel
theorem dX9_readsPlanks_61 : decode cX9_readsPlanks 61 = .ok (.dup, 1) := by decide +kernel
theorem dX9_readsPlanks_62 : decode cX9_readsPlanks 62 = .ok (.getfield 103, 3) := by decide +kernel
theorem dX9_readsPlanks_65 : decode cX9_readsPlanks 65 = .ok (.iconst 1, 1) := by decide +kernel
theorem dX9_readsPlanks_66 : decode cX9_readsPlanks 66 = .ok (.iadd, 1) := by decide +kernel
theorem dX9_readsPlanks_67 : decode cX9_readsPlanks 67 = .ok (.putfield 103, 3) := by decide +kernel
theorem dX9_readsPlanks_70 : decode cX9_readsPlanks 70 = .ok (.iinc 1 1, 3) := by decide +kernel
theorem dX9_readsPlanks_73 : decode cX9_readsPlanks 73 = .ok (.goto (-66), 3) := by decide +kernel
theorem dX9_readsPlanks_76 : decode cX9_readsPlanks 76 = .ok (.iconst (-1), 1) := by decide +kernel
theorem dX9_readsPlanks_77 : decode cX9_readsPlanks 77 = .ok (.ireturn, 1) := by decide +kernel
theorem dX9_kindOf_0 : decode cX9_kindOf 0 = .ok (.iload_n 0, 1) := by decide +kernel
theorem dX9_kindOf_1 : decode cX9_kindOf 1 = .ok (.bipush 112, 2) := by decide +kernel
theorem dX9_kindOf_3 : decode cX9_kindOf 3 = .ok (.if_icmp .ne 7, 3) := by decide +kernel
theorem dX9_kindOf_6 : decode cX9_kindOf 6 = .ok (.iconst 0, 1) := by decide +kernel
theorem dX9_kindOf_7 : decode cX9_kindOf 7 = .ok (.goto 45, 3) := by decide +kernel
theorem dX9_kindOf_10 : decode cX9_kindOf 10 = .ok (.iload_n 0, 1) := by decide +kernel
theorem dX9_kindOf_11 : decode cX9_kindOf 11 = .ok (.bipush 104, 2) := by decide +kernel
theorem dX9_kindOf_13 : decode cX9_kindOf 13 = .ok (.if_icmp .ne 7, 3) := by decide +kernel
theorem dX9_kindOf_16 : decode cX9_kindOf 16 = .ok (.iconst 1, 1) := by decide +kernel
theorem dX9_kindOf_17 : decode cX9_kindOf 17 = .ok (.goto 35, 3) := by decide +kernel
theorem dX9_kindOf_20 : decode cX9_kindOf 20 = .ok (.iload_n 0, 1) := by decide +kernel
theorem dX9_kindOf_21 : decode cX9_kindOf 21 = .ok (.bipush 99, 2) := by decide +kernel
theorem dX9_kindOf_23 : decode cX9_kindOf 23 = .ok (.if_icmp .ne 7, 3) := by decide +kernel
theorem dX9_kindOf_26 : decode cX9_kindOf 26 = .ok (.iconst 2, 1) := by decide +kernel
theorem dX9_kindOf_27 : decode cX9_kindOf 27 = .ok (.goto 25, 3) := by decide +kernel
theorem dX9_kindOf_30 : decode cX9_kindOf 30 = .ok (.iload_n 0, 1) := by decide +kernel
theorem dX9_kindOf_31 : decode cX9_kindOf 31 = .ok (.bipush 103, 2) := by decide +kernel
theorem dX9_kindOf_33 : decode cX9_kindOf 33 = .ok (.if_icmp .ne 7, 3) := by decide +kernel
theorem dX9_kindOf_36 : decode cX9_kindOf 36 = .ok (.iconst 3, 1) := by decide +kernel
theorem dX9_kindOf_37 : decode cX9_kindOf 37 = .ok (.goto 15, 3) := by decide +kernel
theorem dX9_kindOf_40 : decode cX9_kindOf 40 = .ok (.iload_n 0, 1) := by decide +kernel
theorem dX9_kindOf_41 : decode cX9_kindOf 41 = .ok (.bipush 98, 2) := by decide +kernel
theorem dX9_kindOf_43 : decode cX9_kindOf 43 = .ok (.if_icmp .ne 7, 3) := by decide +kernel
theorem dX9_kindOf_46 : decode cX9_kindOf 46 = .ok (.iconst 4, 1) := by decide +kernel
theorem dX9_kindOf_47 : decode cX9_kindOf 47 = .ok (.goto 5, 3) := by decide +kernel
theorem dX9_kindOf_50 : decode cX9_kindOf 50 = .ok (.bipush (-9), 2) := by decide +kernel
theorem dX9_kindOf_52 : decode cX9_kindOf 52 = .ok (.ireturn, 1) := by decide +kernel
theorem dX9_crosserOf_0 : decode cX9_crosserOf 0 = .ok (.iload_n 0, 1) := by decide +kernel
theorem dX9_crosserOf_1 : decode cX9_crosserOf 1 = .ok (.tableswitch 107 0 3 #[31, 36, 60, 83], 31) := by decide +kernel
theorem dX9_crosserOf_32 : decode cX9_crosserOf 32 = .ok (.iload_n 1, 1) := by decide +kernel
theorem dX9_crosserOf_33 : decode cX9_crosserOf 33 = .ok (.invokestatic 106, 3) := by decide +kernel
theorem dX9_crosserOf_36 : decode cX9_crosserOf 36 = .ok (.ireturn, 1) := by decide +kernel
theorem dX9_crosserOf_37 : decode cX9_crosserOf 37 = .ok (.iload_n 1, 1) := by decide +kernel
theorem dX9_crosserOf_38 : decode cX9_crosserOf 38 = .ok (.i2l, 1) := by decide +kernel
theorem dX9_crosserOf_39 : decode cX9_crosserOf 39 = .ok (.ldc2_w 109, 3) := by decide +kernel
theorem dX9_crosserOf_42 : decode cX9_crosserOf 42 = .ok (.ldc2_w 111, 3) := by decide +kernel
theorem dX9_crosserOf_45 : decode cX9_crosserOf 45 = .ok (.invokestatic 69, 3) := by decide +kernel
theorem dX9_crosserOf_48 : decode cX9_crosserOf 48 = .ok (.ifCond .eq 10, 3) := by decide +kernel
theorem dX9_crosserOf_51 : decode cX9_crosserOf 51 = .ok (.iload_n 1, 1) := by decide +kernel
theorem dX9_crosserOf_52 : decode cX9_crosserOf 52 = .ok (.bipush 48, 2) := by decide +kernel
theorem dX9_crosserOf_54 : decode cX9_crosserOf 54 = .ok (.isub, 1) := by decide +kernel
theorem dX9_crosserOf_55 : decode cX9_crosserOf 55 = .ok (.goto 5, 3) := by decide +kernel
theorem dX9_crosserOf_58 : decode cX9_crosserOf 58 = .ok (.bipush (-9), 2) := by decide +kernel
theorem dX9_crosserOf_60 : decode cX9_crosserOf 60 = .ok (.ireturn, 1) := by decide +kernel
theorem dX9_crosserOf_61 : decode cX9_crosserOf 61 = .ok (.iload_n 1, 1) := by decide +kernel
theorem dX9_crosserOf_62 : decode cX9_crosserOf 62 = .ok (.bipush 119, 2) := by decide +kernel
theorem dX9_crosserOf_64 : decode cX9_crosserOf 64 = .ok (.if_icmp .ne 7, 3) := by decide +kernel
theorem dX9_crosserOf_67 : decode cX9_crosserOf 67 = .ok (.iconst 0, 1) := by decide +kernel
theorem dX9_crosserOf_68 : decode cX9_crosserOf 68 = .ok (.goto 15, 3) := by decide +kernel
theorem dX9_crosserOf_71 : decode cX9_crosserOf 71 = .ok (.iload_n 1, 1) := by decide +kernel
theorem dX9_crosserOf_72 : decode cX9_crosserOf 72 = .ok (.bipush 101, 2) := by decide +kernel
theorem dX9_crosserOf_74 : decode cX9_crosserOf 74 = .ok (.if_icmp .ne 7, 3) := by decide +kernel
theorem dX9_crosserOf_77 : decode cX9_crosserOf 77 = .ok (.iconst 1, 1) := by decide +kernel
theorem dX9_crosserOf_78 : decode cX9_crosserOf 78 = .ok (.goto 5, 3) := by decide +kernel
theorem dX9_crosserOf_81 : decode cX9_crosserOf 81 = .ok (.bipush (-9), 2) := by decide +kernel
theorem dX9_crosserOf_83 : decode cX9_crosserOf 83 = .ok (.ireturn, 1) := by decide +kernel
theorem dX9_crosserOf_84 : decode cX9_crosserOf 84 = .ok (.iload_n 1, 1) := by decide +kernel
theorem dX9_crosserOf_85 : decode cX9_crosserOf 85 = .ok (.i2l, 1) := by decide +kernel
theorem dX9_crosserOf_86 : decode cX9_crosserOf 86 = .ok (.ldc2_w 113, 3) := by decide +kernel
theorem dX9_crosserOf_89 : decode cX9_crosserOf 89 = .ok (.ldc2_w 111, 3) := by decide +kernel
theorem dX9_crosserOf_92 : decode cX9_crosserOf 92 = .ok (.invokestatic 69, 3) := by decide +kernel
theorem dX9_crosserOf_95 : decode cX9_crosserOf 95 = .ok (.ifCond .eq 10, 3) := by decide +kernel
theorem dX9_crosserOf_98 : decode cX9_crosserOf 98 = .ok (.iload_n 1, 1) := by decide +kernel
theorem dX9_crosserOf_99 : decode cX9_crosserOf 99 = .ok (.bipush 48, 2) := by decide +kernel
theorem dX9_crosserOf_101 : decode cX9_crosserOf 101 = .ok (.isub, 1) := by decide +kernel
theorem dX9_crosserOf_102 : decode cX9_crosserOf 102 = .ok (.goto 5, 3) := by decide +kernel
theorem dX9_crosserOf_105 : decode cX9_crosserOf 105 = .ok (.bipush (-9), 2) := by decide +kernel
theorem dX9_crosserOf_107 : decode cX9_crosserOf 107 = .ok (.ireturn, 1) := by decide +kernel
theorem dX9_crosserOf_108 : decode cX9_crosserOf 108 = .ok (.iload_n 1, 1) := by decide +kernel
theorem dX9_crosserOf_109 : decode cX9_crosserOf 109 = .ok (.bipush 59, 2) := by decide +kernel
theorem dX9_crosserOf_111 : decode cX9_crosserOf 111 = .ok (.if_icmp .ne 7, 3) := by decide +kernel
theorem dX9_crosserOf_114 : decode cX9_crosserOf 114 = .ok (.iconst 0, 1) := by decide +kernel
theorem dX9_crosserOf_115 : decode cX9_crosserOf 115 = .ok (.goto 5, 3) := by decide +kernel
theorem dX9_crosserOf_118 : decode cX9_crosserOf 118 = .ok (.bipush (-9), 2) := by decide +kernel
theorem dX9_crosserOf_120 : decode cX9_crosserOf 120 = .ok (.ireturn, 1) := by decide +kernel
theorem dX9_readsCrossers_0 : decode cX9_readsCrossers 0 = .ok (.aload_n 0, 1) := by decide +kernel
theorem dX9_readsCrossers_1 : decode cX9_readsCrossers 1 = .ok (.iconst 0, 1) := by decide +kernel
theorem dX9_readsCrossers_2 : decode cX9_readsCrossers 2 = .ok (.putfield 115, 3) := by decide +kernel
theorem dX9_readsCrossers_5 : decode cX9_readsCrossers 5 = .ok (.aload_n 0, 1) := by decide +kernel
theorem dX9_readsCrossers_6 : decode cX9_readsCrossers 6 = .ok (.getfield 25, 3) := by decide +kernel
theorem dX9_readsCrossers_9 : decode cX9_readsCrossers 9 = .ok (.iconst 1, 1) := by decide +kernel
theorem dX9_readsCrossers_10 : decode cX9_readsCrossers 10 = .ok (.iaload, 1) := by decide +kernel
theorem dX9_readsCrossers_11 : decode cX9_readsCrossers 11 = .ok (.istore_n 1, 1) := by decide +kernel
theorem dX9_readsCrossers_12 : decode cX9_readsCrossers 12 = .ok (.iconst 0, 1) := by decide +kernel
theorem dX9_readsCrossers_13 : decode cX9_readsCrossers 13 = .ok (.istore_n 2, 1) := by decide +kernel
theorem dX9_readsCrossers_14 : decode cX9_readsCrossers 14 = .ok (.iload_n 2, 1) := by decide +kernel
theorem dX9_readsCrossers_15 : decode cX9_readsCrossers 15 = .ok (.iload_n 1, 1) := by decide +kernel
theorem dX9_readsCrossers_16 : decode cX9_readsCrossers 16 = .ok (.if_icmp .ge 80, 3) := by decide +kernel
theorem dX9_readsCrossers_19 : decode cX9_readsCrossers 19 = .ok (.iload_n 2, 1) := by decide +kernel
theorem dX9_readsCrossers_20 : decode cX9_readsCrossers 20 = .ok (.iconst 5, 1) := by decide +kernel
theorem dX9_readsCrossers_21 : decode cX9_readsCrossers 21 = .ok (.irem, 1) := by decide +kernel
theorem dX9_readsCrossers_22 : decode cX9_readsCrossers 22 = .ok (.istore_n 3, 1) := by decide +kernel
theorem dX9_readsCrossers_23 : decode cX9_readsCrossers 23 = .ok (.iload_n 3, 1) := by decide +kernel
theorem dX9_readsCrossers_24 : decode cX9_readsCrossers 24 = .ok (.aload_n 0, 1) := by decide +kernel
theorem dX9_readsCrossers_25 : decode cX9_readsCrossers 25 = .ok (.getfield 22, 3) := by decide +kernel
theorem dX9_readsCrossers_28 : decode cX9_readsCrossers 28 = .ok (.bipush 40, 2) := by decide +kernel
theorem dX9_readsCrossers_30 : decode cX9_readsCrossers 30 = .ok (.iload_n 2, 1) := by decide +kernel
theorem dX9_readsCrossers_31 : decode cX9_readsCrossers 31 = .ok (.iadd, 1) := by decide +kernel
theorem dX9_readsCrossers_32 : decode cX9_readsCrossers 32 = .ok (.iaload, 1) := by decide +kernel
theorem dX9_readsCrossers_33 : decode cX9_readsCrossers 33 = .ok (.invokestatic 118, 3) := by decide +kernel
theorem dX9_readsCrossers_36 : decode cX9_readsCrossers 36 = .ok (.istore 4, 2) := by decide +kernel
theorem dX9_readsCrossers_38 : decode cX9_readsCrossers 38 = .ok (.iload 4, 2) := by decide +kernel
theorem dX9_readsCrossers_40 : decode cX9_readsCrossers 40 = .ok (.bipush (-9), 2) := by decide +kernel
theorem dX9_readsCrossers_42 : decode cX9_readsCrossers 42 = .ok (.if_icmp .ne 10, 3) := by decide +kernel
theorem dX9_readsCrossers_45 : decode cX9_readsCrossers 45 = .ok (.aload_n 0, 1) := by decide +kernel
theorem dX9_readsCrossers_46 : decode cX9_readsCrossers 46 = .ok (.iconst 0, 1) := by decide +kernel
theorem dX9_readsCrossers_47 : decode cX9_readsCrossers 47 = .ok (.putfield 115, 3) := by decide +kernel
theorem dX9_readsCrossers_50 : decode cX9_readsCrossers 50 = .ok (.iload_n 2, 1) := by decide +kernel
theorem dX9_readsCrossers_51 : decode cX9_readsCrossers 51 = .ok (.ireturn, 1) := by decide +kernel
theorem dX9_readsCrossers_52 : decode cX9_readsCrossers 52 = .ok (.iload_n 3, 1) := by decide +kernel
theorem dX9_readsCrossers_53 : decode cX9_readsCrossers 53 = .ok (.iconst 4, 1) := by decide +kernel
theorem dX9_readsCrossers_54 : decode cX9_readsCrossers 54 = .ok (.if_icmp .ge 17, 3) := by decide +kernel
theorem dX9_readsCrossers_57 : decode cX9_readsCrossers 57 = .ok (.aload_n 0, 1) := by decide +kernel
theorem dX9_readsCrossers_58 : decode cX9_readsCrossers 58 = .ok (.getfield 31, 3) := by decide +kernel
theorem dX9_readsCrossers_61 : decode cX9_readsCrossers 61 = .ok (.iconst 4, 1) := by decide +kernel
theorem dX9_readsCrossers_62 : decode cX9_readsCrossers 62 = .ok (.iload_n 2, 1) := by decide +kernel
theorem dX9_readsCrossers_63 : decode cX9_readsCrossers 63 = .ok (.iconst 5, 1) := by decide +kernel
theorem dX9_readsCrossers_64 : decode cX9_readsCrossers 64 = .ok (.idiv, 1) := by decide +kernel
theorem dX9_readsCrossers_65 : decode cX9_readsCrossers 65 = .ok (.imul, 1) := by decide +kernel
theorem dX9_readsCrossers_66 : decode cX9_readsCrossers 66 = .ok (.iload_n 3, 1) := by decide +kernel
theorem dX9_readsCrossers_67 : decode cX9_readsCrossers 67 = .ok (.iadd, 1) := by decide +kernel
theorem dX9_readsCrossers_68 : decode cX9_readsCrossers 68 = .ok (.iload 4, 2) := by decide +kernel
theorem dX9_readsCrossers_70 : decode cX9_readsCrossers 70 = .ok (.iastore, 1) := by decide +kernel
theorem dX9_readsCrossers_71 : decode cX9_readsCrossers 71 = .ok (.aload_n 0, 1) := by decide +kernel
theorem dX9_readsCrossers_72 : decode cX9_readsCrossers 72 = .ok (.dup, 1) := by decide +kernel
theorem dX9_readsCrossers_73 : decode cX9_readsCrossers 73 = .ok (.getfield 115, 3) := by decide +kernel
theorem dX9_readsCrossers_76 : decode cX9_readsCrossers 76 = .ok (.iload_n 3, 1) := by decide +kernel
theorem dX9_readsCrossers_77 : decode cX9_readsCrossers 77 = .ok (.iconst 3, 1) := by decide +kernel
theorem dX9_readsCrossers_78 : decode cX9_readsCrossers 78 = .ok (.if_icmp .ne 7, 3) := by decide +kernel
theorem dX9_readsCrossers_81 : decode cX9_readsCrossers 81 = .ok (.iconst 1, 1) := by decide +kernel
theorem dX9_readsCrossers_82 : decode cX9_readsCrossers 82 = .ok (.goto 4, 3) := by decide +kernel
theorem dX9_readsCrossers_85 : decode cX9_readsCrossers 85 = .ok (.iconst 0, 1) := by decide +kernel
theorem dX9_readsCrossers_86 : decode cX9_readsCrossers 86 = .ok (.iadd, 1) := by decide +kernel
theorem dX9_readsCrossers_87 : decode cX9_readsCrossers 87 = .ok (.putfield 115, 3) := by decide +kernel
theorem dX9_readsCrossers_90 : decode cX9_readsCrossers 90 = .ok (.iinc 2 1, 3) := by decide +kernel
theorem dX9_readsCrossers_93 : decode cX9_readsCrossers 93 = .ok (.goto (-79), 3) := by decide +kernel
theorem dX9_readsCrossers_96 : decode cX9_readsCrossers 96 = .ok (.iload_n 1, 1) := by decide +kernel
theorem dX9_readsCrossers_97 : decode cX9_readsCrossers 97 = .ok (.ifCond .le 17, 3) := by decide +kernel
theorem dX9_readsCrossers_100 : decode cX9_readsCrossers 100 = .ok (.iload_n 1, 1) := by decide +kernel
theorem dX9_readsCrossers_101 : decode cX9_readsCrossers 101 = .ok (.iconst 5, 1) := by decide +kernel
theorem dX9_readsCrossers_102 : decode cX9_readsCrossers 102 = .ok (.irem, 1) := by decide +kernel
theorem dX9_readsCrossers_103 : decode cX9_readsCrossers 103 = .ok (.iconst 4, 1) := by decide +kernel
theorem dX9_readsCrossers_104 : decode cX9_readsCrossers 104 = .ok (.if_icmp .eq 10, 3) := by decide +kernel
theorem dX9_readsCrossers_107 : decode cX9_readsCrossers 107 = .ok (.aload_n 0, 1) := by decide +kernel
theorem dX9_readsCrossers_108 : decode cX9_readsCrossers 108 = .ok (.iconst 0, 1) := by decide +kernel
theorem dX9_readsCrossers_109 : decode cX9_readsCrossers 109 = .ok (.putfield 115, 3) := by decide +kernel
theorem dX9_readsCrossers_112 : decode cX9_readsCrossers 112 = .ok (.iload_n 1, 1) := by decide +kernel
theorem dX9_readsCrossers_113 : decode cX9_readsCrossers 113 = .ok (.ireturn, 1) := by decide +kernel
theorem dX9_readsCrossers_114 : decode cX9_readsCrossers 114 = .ok (.iconst (-1), 1) := by decide +kernel
theorem dX9_readsCrossers_115 : decode cX9_readsCrossers 115 = .ok (.ireturn, 1) := by decide +kernel
theorem dX9_readsCrossings_0 : decode cX9_readsCrossings 0 = .ok (.aload_n 0, 1) := by decide +kernel
theorem dX9_readsCrossings_1 : decode cX9_readsCrossings 1 = .ok (.iconst 0, 1) := by decide +kernel
theorem dX9_readsCrossings_2 : decode cX9_readsCrossings 2 = .ok (.putfield 121, 3) := by decide +kernel
theorem dX9_readsCrossings_5 : decode cX9_readsCrossings 5 = .ok (.iconst 0, 1) := by decide +kernel
theorem dX9_readsCrossings_6 : decode cX9_readsCrossings 6 = .ok (.istore_n 1, 1) := by decide +kernel
theorem dX9_readsCrossings_7 : decode cX9_readsCrossings 7 = .ok (.iload_n 1, 1) := by decide +kernel
theorem dX9_readsCrossings_8 : decode cX9_readsCrossings 8 = .ok (.aload_n 0, 1) := by decide +kernel
theorem dX9_readsCrossings_9 : decode cX9_readsCrossings 9 = .ok (.getfield 25, 3) := by decide +kernel
theorem dX9_readsCrossings_12 : decode cX9_readsCrossings 12 = .ok (.iconst 2, 1) := by decide +kernel
theorem dX9_readsCrossings_13 : decode cX9_readsCrossings 13 = .ok (.iaload, 1) := by decide +kernel
theorem dX9_readsCrossings_14 : decode cX9_readsCrossings 14 = .ok (.if_icmp .ge 60, 3) := by decide +kernel
theorem dX9_readsCrossings_17 : decode cX9_readsCrossings 17 = .ok (.aload_n 0, 1) := by decide +kernel
theorem dX9_readsCrossings_18 : decode cX9_readsCrossings 18 = .ok (.getfield 22, 3) := by decide +kernel
theorem dX9_readsCrossings_21 : decode cX9_readsCrossings 21 = .ok (.bipush 80, 2) := by decide +kernel
theorem dX9_readsCrossings_23 : decode cX9_readsCrossings 23 = .ok (.iload_n 1, 1) := by decide +kernel
theorem dX9_readsCrossings_24 : decode cX9_readsCrossings 24 = .ok (.iadd, 1) := by decide +kernel
theorem dX9_readsCrossings_25 : decode cX9_readsCrossings 25 = .ok (.iaload, 1) := by decide +kernel
theorem dX9_readsCrossings_26 : decode cX9_readsCrossings 26 = .ok (.istore_n 2, 1) := by decide +kernel
theorem dX9_readsCrossings_27 : decode cX9_readsCrossings 27 = .ok (.iload_n 2, 1) := by decide +kernel
theorem dX9_readsCrossings_28 : decode cX9_readsCrossings 28 = .ok (.i2l, 1) := by decide +kernel
theorem dX9_readsCrossings_29 : decode cX9_readsCrossings 29 = .ok (.ldc2_w 124, 3) := by decide +kernel
theorem dX9_readsCrossings_32 : decode cX9_readsCrossings 32 = .ok (.ldc2_w 126, 3) := by decide +kernel
theorem dX9_readsCrossings_35 : decode cX9_readsCrossings 35 = .ok (.invokestatic 69, 3) := by decide +kernel
theorem dX9_readsCrossings_38 : decode cX9_readsCrossings 38 = .ok (.ifCond .ne 10, 3) := by decide +kernel
theorem dX9_readsCrossings_41 : decode cX9_readsCrossings 41 = .ok (.aload_n 0, 1) := by decide +kernel
theorem dX9_readsCrossings_42 : decode cX9_readsCrossings 42 = .ok (.iconst 0, 1) := by decide +kernel
theorem dX9_readsCrossings_43 : decode cX9_readsCrossings 43 = .ok (.putfield 121, 3) := by decide +kernel
theorem dX9_readsCrossings_46 : decode cX9_readsCrossings 46 = .ok (.iload_n 1, 1) := by decide +kernel
theorem dX9_readsCrossings_47 : decode cX9_readsCrossings 47 = .ok (.ireturn, 1) := by decide +kernel
theorem dX9_readsCrossings_48 : decode cX9_readsCrossings 48 = .ok (.aload_n 0, 1) := by decide +kernel
theorem dX9_readsCrossings_49 : decode cX9_readsCrossings 49 = .ok (.getfield 34, 3) := by decide +kernel
theorem dX9_readsCrossings_52 : decode cX9_readsCrossings 52 = .ok (.iload_n 1, 1) := by decide +kernel
theorem dX9_readsCrossings_53 : decode cX9_readsCrossings 53 = .ok (.iload_n 2, 1) := by decide +kernel
theorem dX9_readsCrossings_54 : decode cX9_readsCrossings 54 = .ok (.bipush 97, 2) := by decide +kernel
theorem dX9_readsCrossings_56 : decode cX9_readsCrossings 56 = .ok (.isub, 1) := by decide +kernel
theorem dX9_readsCrossings_57 : decode cX9_readsCrossings 57 = .ok (.iastore, 1) := by decide +kernel
theorem dX9_readsCrossings_58 : decode cX9_readsCrossings 58 = .ok (.aload_n 0, 1) := by decide +kernel
theorem dX9_readsCrossings_59 : decode cX9_readsCrossings 59 = .ok (.dup, 1) := by decide +kernel
theorem dX9_readsCrossings_60 : decode cX9_readsCrossings 60 = .ok (.getfield 121, 3) := by decide +kernel
theorem dX9_readsCrossings_63 : decode cX9_readsCrossings 63 = .ok (.iconst 1, 1) := by decide +kernel
theorem dX9_readsCrossings_64 : decode cX9_readsCrossings 64 = .ok (.iadd, 1) := by decide +kernel
theorem dX9_readsCrossings_65 : decode cX9_readsCrossings 65 = .ok (.putfield 121, 3) := by decide +kernel
theorem dX9_readsCrossings_68 : decode cX9_readsCrossings 68 = .ok (.iinc 1 1, 3) := by decide +kernel
theorem dX9_readsCrossings_71 : decode cX9_readsCrossings 71 = .ok (.goto (-64), 3) := by decide +kernel
theorem dX9_readsCrossings_74 : decode cX9_readsCrossings 74 = .ok (.iconst (-1), 1) := by decide +kernel
theorem dX9_readsCrossings_75 : decode cX9_readsCrossings 75 = .ok (.ireturn, 1) := by decide +kernel
theorem dX9_readsText_0 : decode cX9_readsText 0 = .ok (.iload_n 1, 1) := by decide +kernel
theorem dX9_readsText_1 : decode cX9_readsText 1 = .ok (.ifCond .ne 10, 3) := by decide +kernel
theorem dX9_readsText_4 : decode cX9_readsText 4 = .ok (.aload_n 0, 1) := by decide +kernel
theorem dX9_readsText_5 : decode cX9_readsText 5 = .ok (.invokevirtual 128, 3) := by decide +kernel
theorem dX9_readsText_8 : decode cX9_readsText 8 = .ok (.goto 19, 3) := by decide +kernel
theorem dX9_readsText_11 : decode cX9_readsText 11 = .ok (.iload_n 1, 1) := by decide +kernel
theorem dX9_readsText_12 : decode cX9_readsText 12 = .ok (.iconst 1, 1) := by decide +kernel
theorem dX9_readsText_13 : decode cX9_readsText 13 = .ok (.if_icmp .ne 10, 3) := by decide +kernel
theorem dX9_readsText_16 : decode cX9_readsText 16 = .ok (.aload_n 0, 1) := by decide +kernel
theorem dX9_readsText_17 : decode cX9_readsText 17 = .ok (.invokevirtual 132, 3) := by decide +kernel
theorem dX9_readsText_20 : decode cX9_readsText 20 = .ok (.goto 7, 3) := by decide +kernel
theorem dX9_readsText_23 : decode cX9_readsText 23 = .ok (.aload_n 0, 1) := by decide +kernel
theorem dX9_readsText_24 : decode cX9_readsText 24 = .ok (.invokevirtual 135, 3) := by decide +kernel
theorem dX9_readsText_27 : decode cX9_readsText 27 = .ok (.ireturn, 1) := by decide +kernel
theorem dX9_fault_0 : decode cX9_fault 0 = .ok (.iload_n 1, 1) := by decide +kernel
theorem dX9_fault_1 : decode cX9_fault 1 = .ok (.invokestatic 98, 3) := by decide +kernel
theorem dX9_fault_4 : decode cX9_fault 4 = .ok (.ifCond .eq 11, 3) := by decide +kernel
theorem dX9_fault_7 : decode cX9_fault 7 = .ok (.aload_n 0, 1) := by decide +kernel
theorem dX9_fault_8 : decode cX9_fault 8 = .ok (.iload_n 1, 1) := by decide +kernel
theorem dX9_fault_9 : decode cX9_fault 9 = .ok (.invokevirtual 138, 3) := by decide +kernel
theorem dX9_fault_12 : decode cX9_fault 12 = .ok (.goto 5, 3) := by decide +kernel
theorem dX9_fault_15 : decode cX9_fault 15 = .ok (.bipush (-2), 2) := by decide +kernel
theorem dX9_fault_17 : decode cX9_fault 17 = .ok (.ireturn, 1) := by decide +kernel
theorem dX9_isCrosser_0 : decode cX9_isCrosser 0 = .ok (.iload_n 1, 1) := by decide +kernel
theorem dX9_isCrosser_1 : decode cX9_isCrosser 1 = .ok (.i2l, 1) := by decide +kernel
theorem dX9_isCrosser_2 : decode cX9_isCrosser 2 = .ok (.lconst 0, 1) := by decide +kernel
theorem dX9_isCrosser_3 : decode cX9_isCrosser 3 = .ok (.aload_n 0, 1) := by decide +kernel
theorem dX9_isCrosser_4 : decode cX9_isCrosser 4 = .ok (.getfield 115, 3) := by decide +kernel
theorem dX9_isCrosser_7 : decode cX9_isCrosser 7 = .ok (.iconst 1, 1) := by decide +kernel
theorem dX9_isCrosser_8 : decode cX9_isCrosser 8 = .ok (.isub, 1) := by decide +kernel
theorem dX9_isCrosser_9 : decode cX9_isCrosser 9 = .ok (.i2l, 1) := by decide +kernel
theorem dX9_isCrosser_10 : decode cX9_isCrosser 10 = .ok (.invokestatic 69, 3) := by decide +kernel
theorem dX9_isCrosser_13 : decode cX9_isCrosser 13 = .ok (.ireturn, 1) := by decide +kernel
theorem dX9_plank_0 : decode cX9_plank 0 = .ok (.aload_n 0, 1) := by decide +kernel
theorem dX9_plank_1 : decode cX9_plank 1 = .ok (.invokevirtual 128, 3) := by decide +kernel
theorem dX9_plank_4 : decode cX9_plank 4 = .ok (.pop, 1) := by decide +kernel
theorem dX9_plank_5 : decode cX9_plank 5 = .ok (.iload_n 1, 1) := by decide +kernel
theorem dX9_plank_6 : decode cX9_plank 6 = .ok (.i2l, 1) := by decide +kernel
theorem dX9_plank_7 : decode cX9_plank 7 = .ok (.lconst 0, 1) := by decide +kernel
theorem dX9_plank_8 : decode cX9_plank 8 = .ok (.ldc2_w 141, 3) := by decide +kernel
theorem dX9_plank_11 : decode cX9_plank 11 = .ok (.invokestatic 69, 3) := by decide +kernel
theorem dX9_plank_14 : decode cX9_plank 14 = .ok (.ifCond .ne 8, 3) := by decide +kernel
theorem dX9_plank_17 : decode cX9_plank 17 = .ok (.bipush (-2), 2) := by decide +kernel
theorem dX9_plank_19 : decode cX9_plank 19 = .ok (.goto 21, 3) := by decide +kernel
theorem dX9_plank_22 : decode cX9_plank 22 = .ok (.iload_n 1, 1) := by decide +kernel
theorem dX9_plank_23 : decode cX9_plank 23 = .ok (.aload_n 0, 1) := by decide +kernel
theorem dX9_plank_24 : decode cX9_plank 24 = .ok (.getfield 103, 3) := by decide +kernel
theorem dX9_plank_27 : decode cX9_plank 27 = .ok (.if_icmp .ge 12, 3) := by decide +kernel
theorem dX9_plank_30 : decode cX9_plank 30 = .ok (.aload_n 0, 1) := by decide +kernel
theorem dX9_plank_31 : decode cX9_plank 31 = .ok (.getfield 28, 3) := by decide +kernel
theorem dX9_plank_34 : decode cX9_plank 34 = .ok (.iload_n 1, 1) := by decide +kernel
theorem dX9_plank_35 : decode cX9_plank 35 = .ok (.iaload, 1) := by decide +kernel
theorem dX9_plank_36 : decode cX9_plank 36 = .ok (.goto 4, 3) := by decide +kernel
theorem dX9_plank_39 : decode cX9_plank 39 = .ok (.iconst (-1), 1) := by decide +kernel
theorem dX9_plank_40 : decode cX9_plank 40 = .ok (.ireturn, 1) := by decide +kernel
theorem dX9_crosser_0 : decode cX9_crosser 0 = .ok (.aload_n 0, 1) := by decide +kernel
theorem dX9_crosser_1 : decode cX9_crosser 1 = .ok (.invokevirtual 132, 3) := by decide +kernel
theorem dX9_crosser_4 : decode cX9_crosser 4 = .ok (.pop, 1) := by decide +kernel
theorem dX9_crosser_5 : decode cX9_crosser 5 = .ok (.aload_n 0, 1) := by decide +kernel
theorem dX9_crosser_6 : decode cX9_crosser 6 = .ok (.iload_n 1, 1) := by decide +kernel
theorem dX9_crosser_7 : decode cX9_crosser 7 = .ok (.invokevirtual 143, 3) := by decide +kernel
theorem dX9_crosser_10 : decode cX9_crosser 10 = .ok (.ifCond .eq 28, 3) := by decide +kernel
theorem dX9_crosser_13 : decode cX9_crosser 13 = .ok (.iload_n 2, 1) := by decide +kernel
theorem dX9_crosser_14 : decode cX9_crosser 14 = .ok (.i2l, 1) := by decide +kernel
theorem dX9_crosser_15 : decode cX9_crosser 15 = .ok (.lconst 0, 1) := by decide +kernel
theorem dX9_crosser_16 : decode cX9_crosser 16 = .ok (.ldc2_w 77, 3) := by decide +kernel
theorem dX9_crosser_19 : decode cX9_crosser 19 = .ok (.invokestatic 69, 3) := by decide +kernel
theorem dX9_crosser_22 : decode cX9_crosser 22 = .ok (.ifCond .eq 16, 3) := by decide +kernel
theorem dX9_crosser_25 : decode cX9_crosser 25 = .ok (.aload_n 0, 1) := by decide +kernel
theorem dX9_crosser_26 : decode cX9_crosser 26 = .ok (.getfield 31, 3) := by decide +kernel
theorem dX9_crosser_29 : decode cX9_crosser 29 = .ok (.iconst 4, 1) := by decide +kernel
theorem dX9_crosser_30 : decode cX9_crosser 30 = .ok (.iload_n 1, 1) := by decide +kernel
theorem dX9_crosser_31 : decode cX9_crosser 31 = .ok (.imul, 1) := by decide +kernel
theorem dX9_crosser_32 : decode cX9_crosser 32 = .ok (.iload_n 2, 1) := by decide +kernel
theorem dX9_crosser_33 : decode cX9_crosser 33 = .ok (.iadd, 1) := by decide +kernel
theorem dX9_crosser_34 : decode cX9_crosser 34 = .ok (.iaload, 1) := by decide +kernel
theorem dX9_crosser_35 : decode cX9_crosser 35 = .ok (.goto 5, 3) := by decide +kernel
theorem dX9_crosser_38 : decode cX9_crosser 38 = .ok (.bipush (-2), 2) := by decide +kernel
theorem dX9_crosser_40 : decode cX9_crosser 40 = .ok (.ireturn, 1) := by decide +kernel
theorem dX9_crossing_0 : decode cX9_crossing 0 = .ok (.aload_n 0, 1) := by decide +kernel
theorem dX9_crossing_1 : decode cX9_crossing 1 = .ok (.invokevirtual 135, 3) := by decide +kernel
theorem dX9_crossing_4 : decode cX9_crossing 4 = .ok (.pop, 1) := by decide +kernel
theorem dX9_crossing_5 : decode cX9_crossing 5 = .ok (.iload_n 1, 1) := by decide +kernel
theorem dX9_crossing_6 : decode cX9_crossing 6 = .ok (.i2l, 1) := by decide +kernel
theorem dX9_crossing_7 : decode cX9_crossing 7 = .ok (.lconst 0, 1) := by decide +kernel
theorem dX9_crossing_8 : decode cX9_crossing 8 = .ok (.ldc2_w 146, 3) := by decide +kernel
theorem dX9_crossing_11 : decode cX9_crossing 11 = .ok (.invokestatic 69, 3) := by decide +kernel
theorem dX9_crossing_14 : decode cX9_crossing 14 = .ok (.ifCond .ne 8, 3) := by decide +kernel
theorem dX9_crossing_17 : decode cX9_crossing 17 = .ok (.bipush (-2), 2) := by decide +kernel
theorem dX9_crossing_19 : decode cX9_crossing 19 = .ok (.goto 21, 3) := by decide +kernel
theorem dX9_crossing_22 : decode cX9_crossing 22 = .ok (.iload_n 1, 1) := by decide +kernel
theorem dX9_crossing_23 : decode cX9_crossing 23 = .ok (.aload_n 0, 1) := by decide +kernel
theorem dX9_crossing_24 : decode cX9_crossing 24 = .ok (.getfield 121, 3) := by decide +kernel
theorem dX9_crossing_27 : decode cX9_crossing 27 = .ok (.if_icmp .ge 12, 3) := by decide +kernel
theorem dX9_crossing_30 : decode cX9_crossing 30 = .ok (.aload_n 0, 1) := by decide +kernel
theorem dX9_crossing_31 : decode cX9_crossing 31 = .ok (.getfield 34, 3) := by decide +kernel
theorem dX9_crossing_34 : decode cX9_crossing 34 = .ok (.iload_n 1, 1) := by decide +kernel
theorem dX9_crossing_35 : decode cX9_crossing 35 = .ok (.iaload, 1) := by decide +kernel
theorem dX9_crossing_36 : decode cX9_crossing 36 = .ok (.goto 4, 3) := by decide +kernel
theorem dX9_crossing_39 : decode cX9_crossing 39 = .ok (.iconst (-1), 1) := by decide +kernel
theorem dX9_crossing_40 : decode cX9_crossing 40 = .ok (.ireturn, 1) := by decide +kernel
theorem dX9_set_0 : decode cX9_set 0 = .ok (.iload_n 1, 1) := by decide +kernel
theorem dX9_set_1 : decode cX9_set 1 = .ok (.invokestatic 148, 3) := by decide +kernel
theorem dX9_set_4 : decode cX9_set 4 = .ok (.ifCond .eq 25, 3) := by decide +kernel
theorem dX9_set_7 : decode cX9_set 7 = .ok (.iload_n 2, 1) := by decide +kernel
theorem dX9_set_8 : decode cX9_set 8 = .ok (.i2l, 1) := by decide +kernel
theorem dX9_set_9 : decode cX9_set 9 = .ok (.lconst 0, 1) := by decide +kernel
theorem dX9_set_10 : decode cX9_set 10 = .ok (.iload_n 1, 1) := by decide +kernel
theorem dX9_set_11 : decode cX9_set 11 = .ok (.ifCond .ne 9, 3) := by decide +kernel
theorem dX9_set_14 : decode cX9_set 14 = .ok (.ldc2_w 151, 3) := by decide +kernel
theorem dX9_set_17 : decode cX9_set 17 = .ok (.goto 6, 3) := by decide +kernel
theorem dX9_set_20 : decode cX9_set 20 = .ok (.ldc2_w 141, 3) := by decide +kernel
theorem dX9_set_23 : decode cX9_set 23 = .ok (.invokestatic 69, 3) := by decide +kernel
theorem dX9_set_26 : decode cX9_set 26 = .ok (.ifCond .ne 6, 3) := by decide +kernel
theorem dX9_set_29 : decode cX9_set 29 = .ok (.bipush (-2), 2) := by decide +kernel
theorem dX9_set_31 : decode cX9_set 31 = .ok (.ireturn, 1) := by decide +kernel
theorem dX9_set_32 : decode cX9_set 32 = .ok (.aload_n 0, 1) := by decide +kernel
theorem dX9_set_33 : decode cX9_set 33 = .ok (.getfield 37, 3) := by decide +kernel
theorem dX9_set_36 : decode cX9_set 36 = .ok (.iload_n 1, 1) := by decide +kernel
theorem dX9_set_37 : decode cX9_set 37 = .ok (.iaload, 1) := by decide +kernel
theorem dX9_set_38 : decode cX9_set 38 = .ok (.istore_n 3, 1) := by decide +kernel
theorem dX9_set_39 : decode cX9_set 39 = .ok (.aload_n 0, 1) := by decide +kernel
theorem dX9_set_40 : decode cX9_set 40 = .ok (.getfield 37, 3) := by decide +kernel
theorem dX9_set_43 : decode cX9_set 43 = .ok (.iload_n 1, 1) := by decide +kernel
theorem dX9_set_44 : decode cX9_set 44 = .ok (.iload_n 2, 1) := by decide +kernel
theorem dX9_set_45 : decode cX9_set 45 = .ok (.iastore, 1) := by decide +kernel
theorem dX9_set_46 : decode cX9_set 46 = .ok (.iload_n 3, 1) := by decide +kernel
theorem dX9_set_47 : decode cX9_set 47 = .ok (.ireturn, 1) := by decide +kernel
theorem dX9_shift_0 : decode cX9_shift 0 = .ok (.iload_n 1, 1) := by decide +kernel
theorem dX9_shift_1 : decode cX9_shift 1 = .ok (.i2l, 1) := by decide +kernel
theorem dX9_shift_2 : decode cX9_shift 2 = .ok (.lconst 0, 1) := by decide +kernel
theorem dX9_shift_3 : decode cX9_shift 3 = .ok (.ldc2_w 77, 3) := by decide +kernel
theorem dX9_shift_6 : decode cX9_shift 6 = .ok (.invokestatic 69, 3) := by decide +kernel
theorem dX9_shift_9 : decode cX9_shift 9 = .ok (.ifCond .eq 17, 3) := by decide +kernel
theorem dX9_shift_12 : decode cX9_shift 12 = .ok (.iload_n 2, 1) := by decide +kernel
theorem dX9_shift_13 : decode cX9_shift 13 = .ok (.i2l, 1) := by decide +kernel
theorem dX9_shift_14 : decode cX9_shift 14 = .ok (.ldc2_w 153, 3) := by decide +kernel
theorem dX9_shift_17 : decode cX9_shift 17 = .ok (.ldc2_w 151, 3) := by decide +kernel
theorem dX9_shift_20 : decode cX9_shift 20 = .ok (.invokestatic 69, 3) := by decide +kernel
theorem dX9_shift_23 : decode cX9_shift 23 = .ok (.ifCond .ne 7, 3) := by decide +kernel
theorem dX9_shift_26 : decode cX9_shift 26 = .ok (.sipush (-10002), 3) := by decide +kernel
theorem dX9_shift_29 : decode cX9_shift 29 = .ok (.ireturn, 1) := by decide +kernel
theorem dX9_shift_30 : decode cX9_shift 30 = .ok (.aload_n 0, 1) := by decide +kernel
theorem dX9_shift_31 : decode cX9_shift 31 = .ok (.getfield 40, 3) := by decide +kernel
theorem dX9_shift_34 : decode cX9_shift 34 = .ok (.iload_n 1, 1) := by decide +kernel
theorem dX9_shift_35 : decode cX9_shift 35 = .ok (.iaload, 1) := by decide +kernel
theorem dX9_shift_36 : decode cX9_shift 36 = .ok (.istore_n 3, 1) := by decide +kernel
theorem dX9_shift_37 : decode cX9_shift 37 = .ok (.aload_n 0, 1) := by decide +kernel
theorem dX9_shift_38 : decode cX9_shift 38 = .ok (.getfield 40, 3) := by decide +kernel
theorem dX9_shift_41 : decode cX9_shift 41 = .ok (.iload_n 1, 1) := by decide +kernel
theorem dX9_shift_42 : decode cX9_shift 42 = .ok (.iload_n 2, 1) := by decide +kernel
theorem dX9_shift_43 : decode cX9_shift 43 = .ok (.iastore, 1) := by decide +kernel
theorem dX9_shift_44 : decode cX9_shift 44 = .ok (.iload_n 3, 1) := by decide +kernel
theorem dX9_shift_45 : decode cX9_shift 45 = .ok (.ireturn, 1) := by decide +kernel
theorem dX9_isHole_0 : decode cX9_isHole 0 = .ok (.aload_n 0, 1) := by decide +kernel
theorem dX9_isHole_1 : decode cX9_isHole 1 = .ok (.getfield 37, 3) := by decide +kernel
theorem dX9_isHole_4 : decode cX9_isHole 4 = .ok (.iconst 0, 1) := by decide +kernel
theorem dX9_isHole_5 : decode cX9_isHole 5 = .ok (.iaload, 1) := by decide +kernel
theorem dX9_isHole_6 : decode cX9_isHole 6 = .ok (.bipush 6, 2) := by decide +kernel
theorem dX9_isHole_8 : decode cX9_isHole 8 = .ok (.if_icmp .le 22, 3) := by decide +kernel
theorem dX9_isHole_11 : decode cX9_isHole 11 = .ok (.iload_n 2, 1) := by decide +kernel
theorem dX9_isHole_12 : decode cX9_isHole 12 = .ok (.aload_n 0, 1) := by decide +kernel
theorem dX9_isHole_13 : decode cX9_isHole 13 = .ok (.getfield 155, 3) := by decide +kernel
theorem dX9_isHole_16 : decode cX9_isHole 16 = .ok (.iconst 1, 1) := by decide +kernel
theorem dX9_isHole_17 : decode cX9_isHole 17 = .ok (.iadd, 1) := by decide +kernel
theorem dX9_isHole_18 : decode cX9_isHole 18 = .ok (.aload_n 0, 1) := by decide +kernel
theorem dX9_isHole_19 : decode cX9_isHole 19 = .ok (.getfield 103, 3) := by decide +kernel
theorem dX9_isHole_22 : decode cX9_isHole 22 = .ok (.irem, 1) := by decide +kernel
theorem dX9_isHole_23 : decode cX9_isHole 23 = .ok (.if_icmp .ne 7, 3) := by decide +kernel
theorem dX9_isHole_26 : decode cX9_isHole 26 = .ok (.iconst 1, 1) := by decide +kernel
theorem dX9_isHole_27 : decode cX9_isHole 27 = .ok (.goto 4, 3) := by decide +kernel
theorem dX9_isHole_30 : decode cX9_isHole 30 = .ok (.iconst 0, 1) := by decide +kernel
theorem dX9_isHole_31 : decode cX9_isHole 31 = .ok (.istore_n 3, 1) := by decide +kernel
theorem dX9_isHole_32 : decode cX9_isHole 32 = .ok (.iload_n 2, 1) := by decide +kernel
theorem dX9_isHole_33 : decode cX9_isHole 33 = .ok (.aload_n 0, 1) := by decide +kernel
theorem dX9_isHole_34 : decode cX9_isHole 34 = .ok (.getfield 155, 3) := by decide +kernel
theorem dX9_isHole_37 : decode cX9_isHole 37 = .ok (.if_icmp .eq 31, 3) := by decide +kernel
theorem dX9_isHole_40 : decode cX9_isHole 40 = .ok (.iload_n 3, 1) := by decide +kernel
theorem dX9_isHole_41 : decode cX9_isHole 41 = .ok (.ifCond .ne 27, 3) := by decide +kernel
theorem dX9_isHole_44 : decode cX9_isHole 44 = .ok (.aload_n 0, 1) := by decide +kernel
theorem dX9_isHole_45 : decode cX9_isHole 45 = .ok (.getfield 28, 3) := by decide +kernel
theorem dX9_isHole_48 : decode cX9_isHole 48 = .ok (.iload_n 2, 1) := by decide +kernel
theorem dX9_isHole_49 : decode cX9_isHole 49 = .ok (.iaload, 1) := by decide +kernel
theorem dX9_isHole_50 : decode cX9_isHole 50 = .ok (.iconst 1, 1) := by decide +kernel
theorem dX9_isHole_51 : decode cX9_isHole 51 = .ok (.if_icmp .ne 21, 3) := by decide +kernel
theorem dX9_isHole_54 : decode cX9_isHole 54 = .ok (.aload_n 0, 1) := by decide +kernel
theorem dX9_isHole_55 : decode cX9_isHole 55 = .ok (.getfield 31, 3) := by decide +kernel
theorem dX9_isHole_58 : decode cX9_isHole 58 = .ok (.iconst 4, 1) := by decide +kernel
theorem dX9_isHole_59 : decode cX9_isHole 59 = .ok (.iload_n 1, 1) := by decide +kernel
theorem dX9_isHole_60 : decode cX9_isHole 60 = .ok (.imul, 1) := by decide +kernel
theorem dX9_isHole_61 : decode cX9_isHole 61 = .ok (.iconst 1, 1) := by decide +kernel
theorem dX9_isHole_62 : decode cX9_isHole 62 = .ok (.iadd, 1) := by decide +kernel
theorem dX9_isHole_63 : decode cX9_isHole 63 = .ok (.iaload, 1) := by decide +kernel
theorem dX9_isHole_64 : decode cX9_isHole 64 = .ok (.iconst 5, 1) := by decide +kernel
theorem dX9_isHole_65 : decode cX9_isHole 65 = .ok (.if_icmp .le 7, 3) := by decide +kernel
theorem dX9_isHole_68 : decode cX9_isHole 68 = .ok (.iconst 1, 1) := by decide +kernel
theorem dX9_isHole_69 : decode cX9_isHole 69 = .ok (.goto 4, 3) := by decide +kernel
theorem dX9_isHole_72 : decode cX9_isHole 72 = .ok (.iconst 0, 1) := by decide +kernel
theorem dX9_isHole_73 : decode cX9_isHole 73 = .ok (.ireturn, 1) := by decide +kernel
theorem dX9_looks_0 : decode cX9_looks 0 = .ok (.aload_n 0, 1) := by decide +kernel
theorem dX9_looks_1 : decode cX9_looks 1 = .ok (.iconst 0, 1) := by decide +kernel
theorem dX9_looks_2 : decode cX9_looks 2 = .ok (.putfield 158, 3) := by decide +kernel
theorem dX9_looks_5 : decode cX9_looks 5 = .ok (.aload_n 0, 1) := by decide +kernel
theorem dX9_looks_6 : decode cX9_looks 6 = .ok (.iconst 0, 1) := by decide +kernel
theorem dX9_looks_7 : decode cX9_looks 7 = .ok (.putfield 161, 3) := by decide +kernel
theorem dX9_looks_10 : decode cX9_looks 10 = .ok (.iconst 0, 1) := by decide +kernel
theorem dX9_looks_11 : decode cX9_looks 11 = .ok (.istore_n 2, 1) := by decide +kernel
theorem dX9_looks_12 : decode cX9_looks 12 = .ok (.iconst 0, 1) := by decide +kernel
theorem dX9_looks_13 : decode cX9_looks 13 = .ok (.istore_n 3, 1) := by decide +kernel
theorem dX9_looks_14 : decode cX9_looks 14 = .ok (.iload_n 3, 1) := by decide +kernel
theorem dX9_looks_15 : decode cX9_looks 15 = .ok (.aload_n 0, 1) := by decide +kernel
theorem dX9_looks_16 : decode cX9_looks 16 = .ok (.getfield 103, 3) := by decide +kernel
theorem dX9_looks_19 : decode cX9_looks 19 = .ok (.if_icmp .ge 65, 3) := by decide +kernel
theorem dX9_looks_22 : decode cX9_looks 22 = .ok (.aload_n 0, 1) := by decide +kernel
theorem dX9_looks_23 : decode cX9_looks 23 = .ok (.iload_n 1, 1) := by decide +kernel
theorem dX9_looks_24 : decode cX9_looks 24 = .ok (.iload_n 3, 1) := by decide +kernel
theorem dX9_looks_25 : decode cX9_looks 25 = .ok (.invokevirtual 164, 3) := by decide +kernel
theorem dX9_looks_28 : decode cX9_looks 28 = .ok (.istore 4, 2) := by decide +kernel
theorem dX9_looks_30 : decode cX9_looks 30 = .ok (.aload_n 0, 1) := by decide +kernel
theorem dX9_looks_31 : decode cX9_looks 31 = .ok (.dup, 1) := by decide +kernel
theorem dX9_looks_32 : decode cX9_looks 32 = .ok (.getfield 158, 3) := by decide +kernel
theorem dX9_looks_35 : decode cX9_looks 35 = .ok (.iload 4, 2) := by decide +kernel
theorem dX9_looks_37 : decode cX9_looks 37 = .ok (.ifCond .eq 11, 3) := by decide +kernel
theorem dX9_looks_40 : decode cX9_looks 40 = .ok (.iload_n 2, 1) := by decide +kernel
theorem dX9_looks_41 : decode cX9_looks 41 = .ok (.ifCond .ne 7, 3) := by decide +kernel
theorem dX9_looks_44 : decode cX9_looks 44 = .ok (.iconst 1, 1) := by decide +kernel
theorem dX9_looks_45 : decode cX9_looks 45 = .ok (.goto 4, 3) := by decide +kernel
theorem dX9_looks_48 : decode cX9_looks 48 = .ok (.iconst 0, 1) := by decide +kernel
theorem dX9_looks_49 : decode cX9_looks 49 = .ok (.iadd, 1) := by decide +kernel
theorem dX9_looks_50 : decode cX9_looks 50 = .ok (.putfield 158, 3) := by decide +kernel
theorem dX9_looks_53 : decode cX9_looks 53 = .ok (.iload 4, 2) := by decide +kernel
theorem dX9_looks_55 : decode cX9_looks 55 = .ok (.ifCond .eq 9, 3) := by decide +kernel
theorem dX9_looks_58 : decode cX9_looks 58 = .ok (.iload_n 2, 1) := by decide +kernel
theorem dX9_looks_59 : decode cX9_looks 59 = .ok (.iconst 1, 1) := by decide +kernel
theorem dX9_looks_60 : decode cX9_looks 60 = .ok (.iadd, 1) := by decide +kernel
theorem dX9_looks_61 : decode cX9_looks 61 = .ok (.goto 4, 3) := by decide +kernel
theorem dX9_looks_64 : decode cX9_looks 64 = .ok (.iconst 0, 1) := by decide +kernel
theorem dX9_looks_65 : decode cX9_looks 65 = .ok (.istore_n 2, 1) := by decide +kernel
theorem dX9_looks_66 : decode cX9_looks 66 = .ok (.aload_n 0, 1) := by decide +kernel
theorem dX9_looks_67 : decode cX9_looks 67 = .ok (.iload_n 2, 1) := by decide +kernel
theorem dX9_looks_68 : decode cX9_looks 68 = .ok (.aload_n 0, 1) := by decide +kernel
theorem dX9_looks_69 : decode cX9_looks 69 = .ok (.getfield 161, 3) := by decide +kernel
theorem dX9_looks_72 : decode cX9_looks 72 = .ok (.invokestatic 168, 3) := by decide +kernel
theorem dX9_looks_75 : decode cX9_looks 75 = .ok (.putfield 161, 3) := by decide +kernel
theorem dX9_looks_78 : decode cX9_looks 78 = .ok (.iinc 3 1, 3) := by decide +kernel
theorem dX9_looks_81 : decode cX9_looks 81 = .ok (.goto (-67), 3) := by decide +kernel
theorem dX9_looks_84 : decode cX9_looks 84 = .ok (.return_, 1) := by decide +kernel
theorem dX9_moves_0 : decode cX9_moves 0 = .ok (.aload_n 0, 1) := by decide +kernel
theorem dX9_moves_1 : decode cX9_moves 1 = .ok (.getfield 31, 3) := by decide +kernel
theorem dX9_moves_4 : decode cX9_moves 4 = .ok (.iconst 4, 1) := by decide +kernel
theorem dX9_moves_5 : decode cX9_moves 5 = .ok (.iload_n 1, 1) := by decide +kernel
theorem dX9_moves_6 : decode cX9_moves 6 = .ok (.imul, 1) := by decide +kernel
theorem dX9_moves_7 : decode cX9_moves 7 = .ok (.iaload, 1) := by decide +kernel
theorem dX9_moves_8 : decode cX9_moves 8 = .ok (.iconst 4, 1) := by decide +kernel
theorem dX9_moves_9 : decode cX9_moves 9 = .ok (.if_icmp .ne 15, 3) := by decide +kernel
theorem dX9_moves_12 : decode cX9_moves 12 = .ok (.aload_n 0, 1) := by decide +kernel
theorem dX9_moves_13 : decode cX9_moves 13 = .ok (.getfield 103, 3) := by decide +kernel
theorem dX9_moves_16 : decode cX9_moves 16 = .ok (.iconst 1, 1) := by decide +kernel
theorem dX9_moves_17 : decode cX9_moves 17 = .ok (.isub, 1) := by decide +kernel
theorem dX9_moves_18 : decode cX9_moves 18 = .ok (.aload_n 0, 1) := by decide +kernel
theorem dX9_moves_19 : decode cX9_moves 19 = .ok (.getfield 155, 3) := by decide +kernel
theorem dX9_moves_22 : decode cX9_moves 22 = .ok (.isub, 1) := by decide +kernel
theorem dX9_moves_23 : decode cX9_moves 23 = .ok (.ireturn, 1) := by decide +kernel
theorem dX9_moves_24 : decode cX9_moves 24 = .ok (.aload_n 0, 1) := by decide +kernel
theorem dX9_moves_25 : decode cX9_moves 25 = .ok (.getfield 40, 3) := by decide +kernel
theorem dX9_moves_28 : decode cX9_moves 28 = .ok (.aload_n 0, 1) := by decide +kernel
theorem dX9_moves_29 : decode cX9_moves 29 = .ok (.getfield 31, 3) := by decide +kernel
theorem dX9_moves_32 : decode cX9_moves 32 = .ok (.iconst 4, 1) := by decide +kernel
theorem dX9_moves_33 : decode cX9_moves 33 = .ok (.iload_n 1, 1) := by decide +kernel
theorem dX9_moves_34 : decode cX9_moves 34 = .ok (.imul, 1) := by decide +kernel
theorem dX9_moves_35 : decode cX9_moves 35 = .ok (.iaload, 1) := by decide +kernel
theorem dX9_moves_36 : decode cX9_moves 36 = .ok (.iaload, 1) := by decide +kernel
theorem dX9_moves_37 : decode cX9_moves 37 = .ok (.aload_n 0, 1) := by decide +kernel
theorem dX9_moves_38 : decode cX9_moves 38 = .ok (.getfield 103, 3) := by decide +kernel
theorem dX9_moves_41 : decode cX9_moves 41 = .ok (.irem, 1) := by decide +kernel
theorem dX9_moves_42 : decode cX9_moves 42 = .ok (.istore_n 2, 1) := by decide +kernel
theorem dX9_moves_43 : decode cX9_moves 43 = .ok (.aload_n 0, 1) := by decide +kernel
theorem dX9_moves_44 : decode cX9_moves 44 = .ok (.getfield 155, 3) := by decide +kernel
theorem dX9_moves_47 : decode cX9_moves 47 = .ok (.aload_n 0, 1) := by decide +kernel
theorem dX9_moves_48 : decode cX9_moves 48 = .ok (.getfield 31, 3) := by decide +kernel
theorem dX9_moves_51 : decode cX9_moves 51 = .ok (.iconst 4, 1) := by decide +kernel
theorem dX9_moves_52 : decode cX9_moves 52 = .ok (.iload_n 1, 1) := by decide +kernel
theorem dX9_moves_53 : decode cX9_moves 53 = .ok (.imul, 1) := by decide +kernel
theorem dX9_moves_54 : decode cX9_moves 54 = .ok (.iconst 2, 1) := by decide +kernel
theorem dX9_moves_55 : decode cX9_moves 55 = .ok (.iadd, 1) := by decide +kernel
theorem dX9_moves_56 : decode cX9_moves 56 = .ok (.iaload, 1) := by decide +kernel
theorem dX9_moves_57 : decode cX9_moves 57 = .ok (.ifCond .ne 7, 3) := by decide +kernel
theorem dX9_moves_60 : decode cX9_moves 60 = .ok (.iload_n 2, 1) := by decide +kernel
theorem dX9_moves_61 : decode cX9_moves 61 = .ok (.goto 5, 3) := by decide +kernel
theorem dX9_moves_64 : decode cX9_moves 64 = .ok (.iload_n 2, 1) := by decide +kernel
theorem dX9_moves_65 : decode cX9_moves 65 = .ok (.ineg, 1) := by decide +kernel
theorem dX9_moves_66 : decode cX9_moves 66 = .ok (.iadd, 1) := by decide +kernel
theorem dX9_moves_67 : decode cX9_moves 67 = .ok (.aload_n 0, 1) := by decide +kernel
theorem dX9_moves_68 : decode cX9_moves 68 = .ok (.getfield 103, 3) := by decide +kernel
theorem dX9_moves_71 : decode cX9_moves 71 = .ok (.iadd, 1) := by decide +kernel
theorem dX9_moves_72 : decode cX9_moves 72 = .ok (.aload_n 0, 1) := by decide +kernel
theorem dX9_moves_73 : decode cX9_moves 73 = .ok (.getfield 103, 3) := by decide +kernel
theorem dX9_moves_76 : decode cX9_moves 76 = .ok (.irem, 1) := by decide +kernel
theorem dX9_moves_77 : decode cX9_moves 77 = .ok (.ireturn, 1) := by decide +kernel
theorem dX9_tries_0 : decode cX9_tries 0 = .ok (.aload_n 0, 1) := by decide +kernel
theorem dX9_tries_1 : decode cX9_tries 1 = .ok (.iconst 0, 1) := by decide +kernel
theorem dX9_tries_2 : decode cX9_tries 2 = .ok (.putfield 158, 3) := by decide +kernel
theorem dX9_tries_5 : decode cX9_tries 5 = .ok (.aload_n 0, 1) := by decide +kernel
theorem dX9_tries_6 : decode cX9_tries 6 = .ok (.iconst 0, 1) := by decide +kernel
theorem dX9_tries_7 : decode cX9_tries 7 = .ok (.putfield 161, 3) := by decide +kernel
theorem dX9_tries_10 : decode cX9_tries 10 = .ok (.aload_n 0, 1) := by decide +kernel
theorem dX9_tries_11 : decode cX9_tries 11 = .ok (.getfield 37, 3) := by decide +kernel
theorem dX9_tries_14 : decode cX9_tries 14 = .ok (.iconst 0, 1) := by decide +kernel
theorem dX9_tries_15 : decode cX9_tries 15 = .ok (.iaload, 1) := by decide +kernel
theorem dX9_tries_16 : decode cX9_tries 16 = .ok (.iconst 2, 1) := by decide +kernel
theorem dX9_tries_17 : decode cX9_tries 17 = .ok (.if_icmp .lt 18, 3) := by decide +kernel
theorem dX9_tries_20 : decode cX9_tries 20 = .ok (.aload_n 0, 1) := by decide +kernel
theorem dX9_tries_21 : decode cX9_tries 21 = .ok (.getfield 103, 3) := by decide +kernel
theorem dX9_tries_24 : decode cX9_tries 24 = .ok (.ifCond .eq 11, 3) := by decide +kernel
theorem dX9_tries_27 : decode cX9_tries 27 = .ok (.aload_n 0, 1) := by decide +kernel
theorem dX9_tries_28 : decode cX9_tries 28 = .ok (.iload_n 1, 1) := by decide +kernel
theorem dX9_tries_29 : decode cX9_tries 29 = .ok (.invokevirtual 143, 3) := by decide +kernel
theorem dX9_tries_32 : decode cX9_tries 32 = .ok (.ifCond .ne 5, 3) := by decide +kernel
theorem dX9_tries_35 : decode cX9_tries 35 = .ok (.iconst 0, 1) := by decide +kernel
theorem dX9_tries_36 : decode cX9_tries 36 = .ok (.ireturn, 1) := by decide +kernel
theorem dX9_tries_37 : decode cX9_tries 37 = .ok (.aload_n 0, 1) := by decide +kernel
theorem dX9_tries_38 : decode cX9_tries 38 = .ok (.iload_n 1, 1) := by decide +kernel
theorem dX9_tries_39 : decode cX9_tries 39 = .ok (.invokevirtual 171, 3) := by decide +kernel
theorem dX9_tries_42 : decode cX9_tries 42 = .ok (.aload_n 0, 1) := by decide +kernel
theorem dX9_tries_43 : decode cX9_tries 43 = .ok (.getfield 161, 3) := by decide +kernel
theorem dX9_tries_46 : decode cX9_tries 46 = .ok (.aload_n 0, 1) := by decide +kernel
theorem dX9_tries_47 : decode cX9_tries 47 = .ok (.getfield 31, 3) := by decide +kernel
theorem dX9_tries_50 : decode cX9_tries 50 = .ok (.iconst 4, 1) := by decide +kernel
theorem dX9_tries_51 : decode cX9_tries 51 = .ok (.iload_n 1, 1) := by decide +kernel
theorem dX9_tries_52 : decode cX9_tries 52 = .ok (.imul, 1) := by decide +kernel
theorem dX9_tries_53 : decode cX9_tries 53 = .ok (.iconst 3, 1) := by decide +kernel
theorem dX9_tries_54 : decode cX9_tries 54 = .ok (.iadd, 1) := by decide +kernel
theorem dX9_tries_55 : decode cX9_tries 55 = .ok (.iaload, 1) := by decide +kernel
theorem dX9_tries_56 : decode cX9_tries 56 = .ok (.if_icmp .le 5, 3) := by decide +kernel
theorem dX9_tries_59 : decode cX9_tries 59 = .ok (.iconst 2, 1) := by decide +kernel
theorem dX9_tries_60 : decode cX9_tries 60 = .ok (.ireturn, 1) := by decide +kernel
theorem dX9_tries_61 : decode cX9_tries 61 = .ok (.aload_n 0, 1) := by decide +kernel
theorem dX9_tries_62 : decode cX9_tries 62 = .ok (.aload_n 0, 1) := by decide +kernel
theorem dX9_tries_63 : decode cX9_tries 63 = .ok (.iload_n 1, 1) := by decide +kernel
theorem dX9_tries_64 : decode cX9_tries 64 = .ok (.invokevirtual 175, 3) := by decide +kernel
theorem dX9_tries_67 : decode cX9_tries 67 = .ok (.putfield 155, 3) := by decide +kernel
theorem dX9_tries_70 : decode cX9_tries 70 = .ok (.iconst 1, 1) := by decide +kernel
theorem dX9_tries_71 : decode cX9_tries 71 = .ok (.ireturn, 1) := by decide +kernel
theorem dX9_tollOf_0 : decode cX9_tollOf 0 = .ok (.iload_n 2, 1) := by decide +kernel
theorem dX9_tollOf_1 : decode cX9_tollOf 1 = .ok (.iconst 1, 1) := by decide +kernel
theorem dX9_tollOf_2 : decode cX9_tollOf 2 = .ok (.if_icmp .ne 22, 3) := by decide +kernel
theorem dX9_tollOf_5 : decode cX9_tollOf 5 = .ok (.aload_n 0, 1) := by decide +kernel
theorem dX9_tollOf_6 : decode cX9_tollOf 6 = .ok (.getfield 31, 3) := by decide +kernel
theorem dX9_tollOf_9 : decode cX9_tollOf 9 = .ok (.iconst 4, 1) := by decide +kernel
theorem dX9_tollOf_10 : decode cX9_tollOf 10 = .ok (.iload_n 1, 1) := by decide +kernel
theorem dX9_tollOf_11 : decode cX9_tollOf 11 = .ok (.imul, 1) := by decide +kernel
theorem dX9_tollOf_12 : decode cX9_tollOf 12 = .ok (.iaload, 1) := by decide +kernel
theorem dX9_tollOf_13 : decode cX9_tollOf 13 = .ok (.iconst 4, 1) := by decide +kernel
theorem dX9_tollOf_14 : decode cX9_tollOf 14 = .ok (.if_icmp .eq 10, 3) := by decide +kernel
theorem dX9_tollOf_17 : decode cX9_tollOf 17 = .ok (.aload_n 0, 1) := by decide +kernel
theorem dX9_tollOf_18 : decode cX9_tollOf 18 = .ok (.getfield 158, 3) := by decide +kernel
theorem dX9_tollOf_21 : decode cX9_tollOf 21 = .ok (.goto 4, 3) := by decide +kernel
theorem dX9_tollOf_24 : decode cX9_tollOf 24 = .ok (.iconst 0, 1) := by decide +kernel
theorem dX9_tollOf_25 : decode cX9_tollOf 25 = .ok (.ireturn, 1) := by decide +kernel
theorem dX9_begins_0 : decode cX9_begins 0 = .ok (.aload_n 0, 1) := by decide +kernel
theorem dX9_begins_1 : decode cX9_begins 1 = .ok (.aload_n 0, 1) := by decide +kernel
theorem dX9_begins_2 : decode cX9_begins 2 = .ok (.getfield 103, 3) := by decide +kernel
theorem dX9_begins_5 : decode cX9_begins 5 = .ok (.ifCond .ne 7, 3) := by decide +kernel
theorem dX9_begins_8 : decode cX9_begins 8 = .ok (.iconst (-1), 1) := by decide +kernel
theorem dX9_begins_9 : decode cX9_begins 9 = .ok (.goto 14, 3) := by decide +kernel
theorem dX9_begins_12 : decode cX9_begins 12 = .ok (.aload_n 0, 1) := by decide +kernel
theorem dX9_begins_13 : decode cX9_begins 13 = .ok (.getfield 37, 3) := by decide +kernel
theorem dX9_begins_16 : decode cX9_begins 16 = .ok (.iconst 1, 1) := by decide +kernel
theorem dX9_begins_17 : decode cX9_begins 17 = .ok (.iaload, 1) := by decide +kernel
theorem dX9_begins_18 : decode cX9_begins 18 = .ok (.aload_n 0, 1) := by decide +kernel
theorem dX9_begins_19 : decode cX9_begins 19 = .ok (.getfield 103, 3) := by decide +kernel
theorem dX9_begins_22 : decode cX9_begins 22 = .ok (.irem, 1) := by decide +kernel
theorem dX9_begins_23 : decode cX9_begins 23 = .ok (.putfield 155, 3) := by decide +kernel
theorem dX9_begins_26 : decode cX9_begins 26 = .ok (.return_, 1) := by decide +kernel
theorem dX9_lives_0 : decode cX9_lives 0 = .ok (.aload_n 0, 1) := by decide +kernel
theorem dX9_lives_1 : decode cX9_lives 1 = .ok (.invokevirtual 178, 3) := by decide +kernel
theorem dX9_lives_4 : decode cX9_lives 4 = .ok (.aload_n 0, 1) := by decide +kernel
theorem dX9_lives_5 : decode cX9_lives 5 = .ok (.getfield 43, 3) := by decide +kernel
theorem dX9_lives_8 : decode cX9_lives 8 = .ok (.iconst 0, 1) := by decide +kernel
theorem dX9_lives_9 : decode cX9_lives 9 = .ok (.aload_n 0, 1) := by decide +kernel
theorem dX9_lives_10 : decode cX9_lives 10 = .ok (.getfield 155, 3) := by decide +kernel
theorem dX9_lives_13 : decode cX9_lives 13 = .ok (.iastore, 1) := by decide +kernel
theorem dX9_lives_14 : decode cX9_lives 14 = .ok (.iconst 0, 1) := by decide +kernel
theorem dX9_lives_15 : decode cX9_lives 15 = .ok (.istore_n 1, 1) := by decide +kernel
theorem dX9_lives_16 : decode cX9_lives 16 = .ok (.iload_n 1, 1) := by decide +kernel
theorem dX9_lives_17 : decode cX9_lives 17 = .ok (.aload_n 0, 1) := by decide +kernel
theorem dX9_lives_18 : decode cX9_lives 18 = .ok (.getfield 121, 3) := by decide +kernel
theorem dX9_lives_21 : decode cX9_lives 21 = .ok (.if_icmp .ge 110, 3) := by decide +kernel
theorem dX9_lives_24 : decode cX9_lives 24 = .ok (.aload_n 0, 1) := by decide +kernel
theorem dX9_lives_25 : decode cX9_lives 25 = .ok (.getfield 181, 3) := by decide +kernel
theorem dX9_lives_28 : decode cX9_lives 28 = .ok (.iload_n 1, 1) := by decide +kernel
theorem dX9_lives_29 : decode cX9_lives 29 = .ok (.invokestatic 184, 3) := by decide +kernel
theorem dX9_lives_32 : decode cX9_lives 32 = .ok (.ifCond .ne 7, 3) := by decide +kernel
theorem dX9_lives_35 : decode cX9_lives 35 = .ok (.iconst 1, 1) := by decide +kernel
theorem dX9_lives_36 : decode cX9_lives 36 = .ok (.goto 4, 3) := by decide +kernel
theorem dX9_lives_39 : decode cX9_lives 39 = .ok (.iconst 0, 1) := by decide +kernel
theorem dX9_lives_40 : decode cX9_lives 40 = .ok (.istore_n 2, 1) := by decide +kernel
theorem dX9_lives_41 : decode cX9_lives 41 = .ok (.aload_n 0, 1) := by decide +kernel
theorem dX9_lives_42 : decode cX9_lives 42 = .ok (.getfield 46, 3) := by decide +kernel
theorem dX9_lives_45 : decode cX9_lives 45 = .ok (.iload_n 1, 1) := by decide +kernel
theorem dX9_lives_46 : decode cX9_lives 46 = .ok (.iload_n 2, 1) := by decide +kernel
theorem dX9_lives_47 : decode cX9_lives 47 = .ok (.ifCond .eq 16, 3) := by decide +kernel
theorem dX9_lives_50 : decode cX9_lives 50 = .ok (.aload_n 0, 1) := by decide +kernel
theorem dX9_lives_51 : decode cX9_lives 51 = .ok (.aload_n 0, 1) := by decide +kernel
theorem dX9_lives_52 : decode cX9_lives 52 = .ok (.getfield 34, 3) := by decide +kernel
theorem dX9_lives_55 : decode cX9_lives 55 = .ok (.iload_n 1, 1) := by decide +kernel
theorem dX9_lives_56 : decode cX9_lives 56 = .ok (.iaload, 1) := by decide +kernel
theorem dX9_lives_57 : decode cX9_lives 57 = .ok (.invokevirtual 187, 3) := by decide +kernel
theorem dX9_lives_60 : decode cX9_lives 60 = .ok (.goto 4, 3) := by decide +kernel
theorem dX9_lives_63 : decode cX9_lives 63 = .ok (.iconst 0, 1) := by decide +kernel
theorem dX9_lives_64 : decode cX9_lives 64 = .ok (.iastore, 1) := by decide +kernel
theorem dX9_lives_65 : decode cX9_lives 65 = .ok (.aload_n 0, 1) := by decide +kernel
theorem dX9_lives_66 : decode cX9_lives 66 = .ok (.getfield 49, 3) := by decide +kernel
theorem dX9_lives_69 : decode cX9_lives 69 = .ok (.iload_n 1, 1) := by decide +kernel
theorem dX9_lives_70 : decode cX9_lives 70 = .ok (.iload_n 2, 1) := by decide +kernel
theorem dX9_lives_71 : decode cX9_lives 71 = .ok (.ifCond .eq 22, 3) := by decide +kernel
theorem dX9_lives_74 : decode cX9_lives 74 = .ok (.aload_n 0, 1) := by decide +kernel
theorem dX9_lives_75 : decode cX9_lives 75 = .ok (.aload_n 0, 1) := by decide +kernel
theorem dX9_lives_76 : decode cX9_lives 76 = .ok (.getfield 34, 3) := by decide +kernel
theorem dX9_lives_79 : decode cX9_lives 79 = .ok (.iload_n 1, 1) := by decide +kernel
theorem dX9_lives_80 : decode cX9_lives 80 = .ok (.iaload, 1) := by decide +kernel
theorem dX9_lives_81 : decode cX9_lives 81 = .ok (.aload_n 0, 1) := by decide +kernel
theorem dX9_lives_82 : decode cX9_lives 82 = .ok (.getfield 46, 3) := by decide +kernel
theorem dX9_lives_85 : decode cX9_lives 85 = .ok (.iload_n 1, 1) := by decide +kernel
theorem dX9_lives_86 : decode cX9_lives 86 = .ok (.iaload, 1) := by decide +kernel
theorem dX9_lives_87 : decode cX9_lives 87 = .ok (.invokevirtual 190, 3) := by decide +kernel
theorem dX9_lives_90 : decode cX9_lives 90 = .ok (.goto 4, 3) := by decide +kernel
theorem dX9_lives_93 : decode cX9_lives 93 = .ok (.iconst 0, 1) := by decide +kernel
theorem dX9_lives_94 : decode cX9_lives 94 = .ok (.iastore, 1) := by decide +kernel
theorem dX9_lives_95 : decode cX9_lives 95 = .ok (.aload_n 0, 1) := by decide +kernel
theorem dX9_lives_96 : decode cX9_lives 96 = .ok (.getfield 52, 3) := by decide +kernel
theorem dX9_lives_99 : decode cX9_lives 99 = .ok (.iload_n 1, 1) := by decide +kernel
theorem dX9_lives_100 : decode cX9_lives 100 = .ok (.iload_n 2, 1) := by decide +kernel
theorem dX9_lives_101 : decode cX9_lives 101 = .ok (.ifCond .eq 10, 3) := by decide +kernel
theorem dX9_lives_104 : decode cX9_lives 104 = .ok (.aload_n 0, 1) := by decide +kernel
theorem dX9_lives_105 : decode cX9_lives 105 = .ok (.getfield 161, 3) := by decide +kernel
theorem dX9_lives_108 : decode cX9_lives 108 = .ok (.goto 4, 3) := by decide +kernel
theorem dX9_lives_111 : decode cX9_lives 111 = .ok (.iconst 0, 1) := by decide +kernel
theorem dX9_lives_112 : decode cX9_lives 112 = .ok (.iastore, 1) := by decide +kernel
theorem dX9_lives_113 : decode cX9_lives 113 = .ok (.aload_n 0, 1) := by decide +kernel
theorem dX9_lives_114 : decode cX9_lives 114 = .ok (.getfield 43, 3) := by decide +kernel
theorem dX9_lives_117 : decode cX9_lives 117 = .ok (.iload_n 1, 1) := by decide +kernel
theorem dX9_lives_118 : decode cX9_lives 118 = .ok (.iconst 1, 1) := by decide +kernel
theorem dX9_lives_119 : decode cX9_lives 119 = .ok (.iadd, 1) := by decide +kernel
theorem dX9_lives_120 : decode cX9_lives 120 = .ok (.aload_n 0, 1) := by decide +kernel
theorem dX9_lives_121 : decode cX9_lives 121 = .ok (.getfield 155, 3) := by decide +kernel
theorem dX9_lives_124 : decode cX9_lives 124 = .ok (.iastore, 1) := by decide +kernel
theorem dX9_lives_125 : decode cX9_lives 125 = .ok (.iinc 1 1, 3) := by decide +kernel
theorem dX9_lives_128 : decode cX9_lives 128 = .ok (.goto (-112), 3) := by decide +kernel
theorem dX9_lives_131 : decode cX9_lives 131 = .ok (.return_, 1) := by decide +kernel
theorem dX9_find_0 : decode cX9_find 0 = .ok (.aload_n 0, 1) := by decide +kernel
theorem dX9_find_1 : decode cX9_find 1 = .ok (.invokevirtual 128, 3) := by decide +kernel
theorem dX9_find_4 : decode cX9_find 4 = .ok (.pop, 1) := by decide +kernel
theorem dX9_find_5 : decode cX9_find 5 = .ok (.aload_n 0, 1) := by decide +kernel
theorem dX9_find_6 : decode cX9_find 6 = .ok (.invokevirtual 132, 3) := by decide +kernel
theorem dX9_find_9 : decode cX9_find 9 = .ok (.pop, 1) := by decide +kernel
theorem dX9_find_10 : decode cX9_find 10 = .ok (.aload_n 0, 1) := by decide +kernel
theorem dX9_find_11 : decode cX9_find 11 = .ok (.invokevirtual 135, 3) := by decide +kernel
theorem dX9_find_14 : decode cX9_find 14 = .ok (.pop, 1) := by decide +kernel
theorem dX9_find_15 : decode cX9_find 15 = .ok (.aload_n 0, 1) := by decide +kernel
theorem dX9_find_16 : decode cX9_find 16 = .ok (.invokevirtual 193, 3) := by decide +kernel
theorem dX9_find_19 : decode cX9_find 19 = .ok (.return_, 1) := by decide +kernel
theorem dX9_gap_0 : decode cX9_gap 0 = .ok (.aload_n 0, 1) := by decide +kernel
theorem dX9_gap_1 : decode cX9_gap 1 = .ok (.invokevirtual 196, 3) := by decide +kernel
theorem dX9_gap_4 : decode cX9_gap 4 = .ok (.iload_n 1, 1) := by decide +kernel
theorem dX9_gap_5 : decode cX9_gap 5 = .ok (.i2l, 1) := by decide +kernel
theorem dX9_gap_6 : decode cX9_gap 6 = .ok (.lconst 0, 1) := by decide +kernel
theorem dX9_gap_7 : decode cX9_gap 7 = .ok (.aload_n 0, 1) := by decide +kernel
theorem dX9_gap_8 : decode cX9_gap 8 = .ok (.getfield 121, 3) := by decide +kernel
theorem dX9_gap_11 : decode cX9_gap 11 = .ok (.i2l, 1) := by decide +kernel
theorem dX9_gap_12 : decode cX9_gap 12 = .ok (.invokestatic 69, 3) := by decide +kernel
theorem dX9_gap_15 : decode cX9_gap 15 = .ok (.ifCond .eq 12, 3) := by decide +kernel
theorem dX9_gap_18 : decode cX9_gap 18 = .ok (.aload_n 0, 1) := by decide +kernel
theorem dX9_gap_19 : decode cX9_gap 19 = .ok (.getfield 43, 3) := by decide +kernel
theorem dX9_gap_22 : decode cX9_gap 22 = .ok (.iload_n 1, 1) := by decide +kernel
theorem dX9_gap_23 : decode cX9_gap 23 = .ok (.iaload, 1) := by decide +kernel
theorem dX9_gap_24 : decode cX9_gap 24 = .ok (.goto 5, 3) := by decide +kernel
theorem dX9_gap_27 : decode cX9_gap 27 = .ok (.bipush (-2), 2) := by decide +kernel
theorem dX9_gap_29 : decode cX9_gap 29 = .ok (.ireturn, 1) := by decide +kernel
theorem dX9_comesBy_0 : decode cX9_comesBy 0 = .ok (.iload_n 2, 1) := by decide +kernel
theorem dX9_comesBy_1 : decode cX9_comesBy 1 = .ok (.ifCond .ne 12, 3) := by decide +kernel
theorem dX9_comesBy_4 : decode cX9_comesBy 4 = .ok (.aload_n 0, 1) := by decide +kernel
theorem dX9_comesBy_5 : decode cX9_comesBy 5 = .ok (.getfield 46, 3) := by decide +kernel
theorem dX9_comesBy_8 : decode cX9_comesBy 8 = .ok (.iload_n 1, 1) := by decide +kernel
theorem dX9_comesBy_9 : decode cX9_comesBy 9 = .ok (.iaload, 1) := by decide +kernel
theorem dX9_comesBy_10 : decode cX9_comesBy 10 = .ok (.goto 23, 3) := by decide +kernel
theorem dX9_comesBy_13 : decode cX9_comesBy 13 = .ok (.iload_n 2, 1) := by decide +kernel
theorem dX9_comesBy_14 : decode cX9_comesBy 14 = .ok (.iconst 1, 1) := by decide +kernel
theorem dX9_comesBy_15 : decode cX9_comesBy 15 = .ok (.if_icmp .ne 12, 3) := by decide +kernel
theorem dX9_comesBy_18 : decode cX9_comesBy 18 = .ok (.aload_n 0, 1) := by decide +kernel
theorem dX9_comesBy_19 : decode cX9_comesBy 19 = .ok (.getfield 49, 3) := by decide +kernel
theorem dX9_comesBy_22 : decode cX9_comesBy 22 = .ok (.iload_n 1, 1) := by decide +kernel
theorem dX9_comesBy_23 : decode cX9_comesBy 23 = .ok (.iaload, 1) := by decide +kernel
theorem dX9_comesBy_24 : decode cX9_comesBy 24 = .ok (.goto 9, 3) := by decide +kernel
theorem dX9_comesBy_27 : decode cX9_comesBy 27 = .ok (.aload_n 0, 1) := by decide +kernel
theorem dX9_comesBy_28 : decode cX9_comesBy 28 = .ok (.getfield 52, 3) := by decide +kernel
theorem dX9_comesBy_31 : decode cX9_comesBy 31 = .ok (.iload_n 1, 1) := by decide +kernel
theorem dX9_comesBy_32 : decode cX9_comesBy 32 = .ok (.iaload, 1) := by decide +kernel
theorem dX9_comesBy_33 : decode cX9_comesBy 33 = .ok (.ireturn, 1) := by decide +kernel
theorem dX9_comes_0 : decode cX9_comes 0 = .ok (.aload_n 0, 1) := by decide +kernel
theorem dX9_comes_1 : decode cX9_comes 1 = .ok (.invokevirtual 196, 3) := by decide +kernel
theorem dX9_comes_4 : decode cX9_comes 4 = .ok (.iload_n 1, 1) := by decide +kernel
theorem dX9_comes_5 : decode cX9_comes 5 = .ok (.i2l, 1) := by decide +kernel
theorem dX9_comes_6 : decode cX9_comes 6 = .ok (.lconst 0, 1) := by decide +kernel
theorem dX9_comes_7 : decode cX9_comes 7 = .ok (.aload_n 0, 1) := by decide +kernel
theorem dX9_comes_8 : decode cX9_comes 8 = .ok (.getfield 121, 3) := by decide +kernel
theorem dX9_comes_11 : decode cX9_comes 11 = .ok (.iconst 1, 1) := by decide +kernel
theorem dX9_comes_12 : decode cX9_comes 12 = .ok (.isub, 1) := by decide +kernel
theorem dX9_comes_13 : decode cX9_comes 13 = .ok (.i2l, 1) := by decide +kernel
theorem dX9_comes_14 : decode cX9_comes 14 = .ok (.invokestatic 69, 3) := by decide +kernel
theorem dX9_comes_17 : decode cX9_comes 17 = .ok (.ifCond .eq 24, 3) := by decide +kernel
theorem dX9_comes_20 : decode cX9_comes 20 = .ok (.iload_n 2, 1) := by decide +kernel
theorem dX9_comes_21 : decode cX9_comes 21 = .ok (.i2l, 1) := by decide +kernel
theorem dX9_comes_22 : decode cX9_comes 22 = .ok (.lconst 0, 1) := by decide +kernel
theorem dX9_comes_23 : decode cX9_comes 23 = .ok (.ldc2_w 83, 3) := by decide +kernel
theorem dX9_comes_26 : decode cX9_comes 26 = .ok (.invokestatic 69, 3) := by decide +kernel
theorem dX9_comes_29 : decode cX9_comes 29 = .ok (.ifCond .eq 12, 3) := by decide +kernel
theorem dX9_comes_32 : decode cX9_comes 32 = .ok (.aload_n 0, 1) := by decide +kernel
theorem dX9_comes_33 : decode cX9_comes 33 = .ok (.iload_n 1, 1) := by decide +kernel
theorem dX9_comes_34 : decode cX9_comes 34 = .ok (.iload_n 2, 1) := by decide +kernel
theorem dX9_comes_35 : decode cX9_comes 35 = .ok (.invokevirtual 199, 3) := by decide +kernel
theorem dX9_comes_38 : decode cX9_comes 38 = .ok (.goto 5, 3) := by decide +kernel
theorem dX9_comes_41 : decode cX9_comes 41 = .ok (.bipush (-2), 2) := by decide +kernel
theorem dX9_comes_43 : decode cX9_comes 43 = .ok (.ireturn, 1) := by decide +kernel
theorem dX9_timesBy_0 : decode cX9_timesBy 0 = .ok (.iconst 0, 1) := by decide +kernel
theorem dX9_timesBy_1 : decode cX9_timesBy 1 = .ok (.istore_n 3, 1) := by decide +kernel
theorem dX9_timesBy_2 : decode cX9_timesBy 2 = .ok (.iconst 0, 1) := by decide +kernel
theorem dX9_timesBy_3 : decode cX9_timesBy 3 = .ok (.istore 4, 2) := by decide +kernel
theorem dX9_timesBy_5 : decode cX9_timesBy 5 = .ok (.iload 4, 2) := by decide +kernel
theorem dX9_timesBy_7 : decode cX9_timesBy 7 = .ok (.aload_n 0, 1) := by decide +kernel
theorem dX9_timesBy_8 : decode cX9_timesBy 8 = .ok (.getfield 121, 3) := by decide +kernel
theorem dX9_timesBy_11 : decode cX9_timesBy 11 = .ok (.if_icmp .ge 41, 3) := by decide +kernel
theorem dX9_timesBy_14 : decode cX9_timesBy 14 = .ok (.iload_n 3, 1) := by decide +kernel
theorem dX9_timesBy_15 : decode cX9_timesBy 15 = .ok (.aload_n 0, 1) := by decide +kernel
theorem dX9_timesBy_16 : decode cX9_timesBy 16 = .ok (.getfield 34, 3) := by decide +kernel
theorem dX9_timesBy_19 : decode cX9_timesBy 19 = .ok (.iload 4, 2) := by decide +kernel
theorem dX9_timesBy_21 : decode cX9_timesBy 21 = .ok (.iaload, 1) := by decide +kernel
theorem dX9_timesBy_22 : decode cX9_timesBy 22 = .ok (.iload_n 1, 1) := by decide +kernel
theorem dX9_timesBy_23 : decode cX9_timesBy 23 = .ok (.if_icmp .ne 20, 3) := by decide +kernel
theorem dX9_timesBy_26 : decode cX9_timesBy 26 = .ok (.aload_n 0, 1) := by decide +kernel
theorem dX9_timesBy_27 : decode cX9_timesBy 27 = .ok (.getfield 46, 3) := by decide +kernel
theorem dX9_timesBy_30 : decode cX9_timesBy 30 = .ok (.iload 4, 2) := by decide +kernel
theorem dX9_timesBy_32 : decode cX9_timesBy 32 = .ok (.iaload, 1) := by decide +kernel
theorem dX9_timesBy_33 : decode cX9_timesBy 33 = .ok (.iload_n 2, 1) := by decide +kernel
theorem dX9_timesBy_34 : decode cX9_timesBy 34 = .ok (.iconst 1, 1) := by decide +kernel
theorem dX9_timesBy_35 : decode cX9_timesBy 35 = .ok (.iadd, 1) := by decide +kernel
theorem dX9_timesBy_36 : decode cX9_timesBy 36 = .ok (.if_icmp .ne 7, 3) := by decide +kernel
theorem dX9_timesBy_39 : decode cX9_timesBy 39 = .ok (.iconst 1, 1) := by decide +kernel
theorem dX9_timesBy_40 : decode cX9_timesBy 40 = .ok (.goto 4, 3) := by decide +kernel
theorem dX9_timesBy_43 : decode cX9_timesBy 43 = .ok (.iconst 0, 1) := by decide +kernel
theorem dX9_timesBy_44 : decode cX9_timesBy 44 = .ok (.iadd, 1) := by decide +kernel
theorem dX9_timesBy_45 : decode cX9_timesBy 45 = .ok (.istore_n 3, 1) := by decide +kernel
theorem dX9_timesBy_46 : decode cX9_timesBy 46 = .ok (.iinc 4 1, 3) := by decide +kernel
theorem dX9_timesBy_49 : decode cX9_timesBy 49 = .ok (.goto (-44), 3) := by decide +kernel
theorem dX9_timesBy_52 : decode cX9_timesBy 52 = .ok (.iload_n 3, 1) := by decide +kernel
theorem dX9_timesBy_53 : decode cX9_timesBy 53 = .ok (.ireturn, 1) := by decide +kernel
theorem dX9_times_0 : decode cX9_times 0 = .ok (.aload_n 0, 1) := by decide +kernel
theorem dX9_times_1 : decode cX9_times 1 = .ok (.invokevirtual 196, 3) := by decide +kernel
theorem dX9_times_4 : decode cX9_times 4 = .ok (.aload_n 0, 1) := by decide +kernel
end
section
theorem dX9_times_5 : decode cX9_times 5 = .ok (.iload_n 1, 1) := by decide +kernel
theorem dX9_times_6 : decode cX9_times 6 = .ok (.invokevirtual 143, 3) := by decide +kernel
theorem dX9_times_9 : decode cX9_times 9 = .ok (.ifCond .eq 19, 3) := by decide +kernel
theorem dX9_times_12 : decode cX9_times 12 = .ok (.iload_n 2, 1) := by decide +kernel
theorem dX9_times_13 : decode cX9_times 13 = .ok (.invokestatic 148, 3) := by decide +kernel
theorem dX9_times_16 : decode cX9_times 16 = .ok (.ifCond .eq 12, 3) := by decide +kernel
theorem dX9_times_19 : decode cX9_times 19 = .ok (.aload_n 0, 1) := by decide +kernel
theorem dX9_times_20 : decode cX9_times 20 = .ok (.iload_n 1, 1) := by decide +kernel
theorem dX9_times_21 : decode cX9_times 21 = .ok (.iload_n 2, 1) := by decide +kernel
theorem dX9_times_22 : decode cX9_times 22 = .ok (.invokevirtual 202, 3) := by decide +kernel
theorem dX9_times_25 : decode cX9_times 25 = .ok (.goto 5, 3) := by decide +kernel
theorem dX9_times_28 : decode cX9_times 28 = .ok (.bipush (-2), 2) := by decide +kernel
theorem dX9_times_30 : decode cX9_times 30 = .ok (.ireturn, 1) := by decide +kernel
theorem dX9_takenBy_0 : decode cX9_takenBy 0 = .ok (.iconst 0, 1) := by decide +kernel
theorem dX9_takenBy_1 : decode cX9_takenBy 1 = .ok (.istore_n 2, 1) := by decide +kernel
theorem dX9_takenBy_2 : decode cX9_takenBy 2 = .ok (.iconst 0, 1) := by decide +kernel
theorem dX9_takenBy_3 : decode cX9_takenBy 3 = .ok (.istore_n 3, 1) := by decide +kernel
theorem dX9_takenBy_4 : decode cX9_takenBy 4 = .ok (.iload_n 3, 1) := by decide +kernel
theorem dX9_takenBy_5 : decode cX9_takenBy 5 = .ok (.iload_n 1, 1) := by decide +kernel
theorem dX9_takenBy_6 : decode cX9_takenBy 6 = .ok (.if_icmp .ge 18, 3) := by decide +kernel
theorem dX9_takenBy_9 : decode cX9_takenBy 9 = .ok (.iload_n 2, 1) := by decide +kernel
theorem dX9_takenBy_10 : decode cX9_takenBy 10 = .ok (.aload_n 0, 1) := by decide +kernel
theorem dX9_takenBy_11 : decode cX9_takenBy 11 = .ok (.getfield 49, 3) := by decide +kernel
theorem dX9_takenBy_14 : decode cX9_takenBy 14 = .ok (.iload_n 3, 1) := by decide +kernel
theorem dX9_takenBy_15 : decode cX9_takenBy 15 = .ok (.iaload, 1) := by decide +kernel
theorem dX9_takenBy_16 : decode cX9_takenBy 16 = .ok (.iadd, 1) := by decide +kernel
theorem dX9_takenBy_17 : decode cX9_takenBy 17 = .ok (.istore_n 2, 1) := by decide +kernel
theorem dX9_takenBy_18 : decode cX9_takenBy 18 = .ok (.iinc 3 1, 3) := by decide +kernel
theorem dX9_takenBy_21 : decode cX9_takenBy 21 = .ok (.goto (-17), 3) := by decide +kernel
theorem dX9_takenBy_24 : decode cX9_takenBy 24 = .ok (.iload_n 2, 1) := by decide +kernel
theorem dX9_takenBy_25 : decode cX9_takenBy 25 = .ok (.ireturn, 1) := by decide +kernel
theorem dX9_taken_0 : decode cX9_taken 0 = .ok (.aload_n 0, 1) := by decide +kernel
theorem dX9_taken_1 : decode cX9_taken 1 = .ok (.invokevirtual 196, 3) := by decide +kernel
theorem dX9_taken_4 : decode cX9_taken 4 = .ok (.iload_n 1, 1) := by decide +kernel
theorem dX9_taken_5 : decode cX9_taken 5 = .ok (.i2l, 1) := by decide +kernel
theorem dX9_taken_6 : decode cX9_taken 6 = .ok (.lconst 0, 1) := by decide +kernel
theorem dX9_taken_7 : decode cX9_taken 7 = .ok (.aload_n 0, 1) := by decide +kernel
theorem dX9_taken_8 : decode cX9_taken 8 = .ok (.getfield 121, 3) := by decide +kernel
theorem dX9_taken_11 : decode cX9_taken 11 = .ok (.i2l, 1) := by decide +kernel
theorem dX9_taken_12 : decode cX9_taken 12 = .ok (.invokestatic 69, 3) := by decide +kernel
theorem dX9_taken_15 : decode cX9_taken 15 = .ok (.ifCond .eq 11, 3) := by decide +kernel
theorem dX9_taken_18 : decode cX9_taken 18 = .ok (.aload_n 0, 1) := by decide +kernel
theorem dX9_taken_19 : decode cX9_taken 19 = .ok (.iload_n 1, 1) := by decide +kernel
theorem dX9_taken_20 : decode cX9_taken 20 = .ok (.invokevirtual 205, 3) := by decide +kernel
theorem dX9_taken_23 : decode cX9_taken 23 = .ok (.goto 5, 3) := by decide +kernel
theorem dX9_taken_26 : decode cX9_taken 26 = .ok (.bipush (-2), 2) := by decide +kernel
theorem dX9_taken_28 : decode cX9_taken 28 = .ok (.ireturn, 1) := by decide +kernel
theorem dX9_stuckNow_0 : decode cX9_stuckNow 0 = .ok (.iconst 0, 1) := by decide +kernel
theorem dX9_stuckNow_1 : decode cX9_stuckNow 1 = .ok (.istore_n 1, 1) := by decide +kernel
theorem dX9_stuckNow_2 : decode cX9_stuckNow 2 = .ok (.iload_n 1, 1) := by decide +kernel
theorem dX9_stuckNow_3 : decode cX9_stuckNow 3 = .ok (.aload_n 0, 1) := by decide +kernel
theorem dX9_stuckNow_4 : decode cX9_stuckNow 4 = .ok (.getfield 121, 3) := by decide +kernel
theorem dX9_stuckNow_7 : decode cX9_stuckNow 7 = .ok (.if_icmp .ge 21, 3) := by decide +kernel
theorem dX9_stuckNow_10 : decode cX9_stuckNow 10 = .ok (.aload_n 0, 1) := by decide +kernel
theorem dX9_stuckNow_11 : decode cX9_stuckNow 11 = .ok (.getfield 46, 3) := by decide +kernel
theorem dX9_stuckNow_14 : decode cX9_stuckNow 14 = .ok (.iload_n 1, 1) := by decide +kernel
theorem dX9_stuckNow_15 : decode cX9_stuckNow 15 = .ok (.iaload, 1) := by decide +kernel
theorem dX9_stuckNow_16 : decode cX9_stuckNow 16 = .ok (.iconst 2, 1) := by decide +kernel
theorem dX9_stuckNow_17 : decode cX9_stuckNow 17 = .ok (.if_icmp .ne 5, 3) := by decide +kernel
theorem dX9_stuckNow_20 : decode cX9_stuckNow 20 = .ok (.iload_n 1, 1) := by decide +kernel
theorem dX9_stuckNow_21 : decode cX9_stuckNow 21 = .ok (.ireturn, 1) := by decide +kernel
theorem dX9_stuckNow_22 : decode cX9_stuckNow 22 = .ok (.iinc 1 1, 3) := by decide +kernel
theorem dX9_stuckNow_25 : decode cX9_stuckNow 25 = .ok (.goto (-23), 3) := by decide +kernel
theorem dX9_stuckNow_28 : decode cX9_stuckNow 28 = .ok (.iconst (-1), 1) := by decide +kernel
theorem dX9_stuckNow_29 : decode cX9_stuckNow 29 = .ok (.ireturn, 1) := by decide +kernel
theorem dX9_stuck_0 : decode cX9_stuck 0 = .ok (.aload_n 0, 1) := by decide +kernel
theorem dX9_stuck_1 : decode cX9_stuck 1 = .ok (.invokevirtual 196, 3) := by decide +kernel
theorem dX9_stuck_4 : decode cX9_stuck 4 = .ok (.aload_n 0, 1) := by decide +kernel
theorem dX9_stuck_5 : decode cX9_stuck 5 = .ok (.invokevirtual 208, 3) := by decide +kernel
theorem dX9_stuck_8 : decode cX9_stuck 8 = .ok (.ireturn, 1) := by decide +kernel
theorem dX9_wornNow_0 : decode cX9_wornNow 0 = .ok (.iconst (-1), 1) := by decide +kernel
theorem dX9_wornNow_1 : decode cX9_wornNow 1 = .ok (.istore_n 1, 1) := by decide +kernel
theorem dX9_wornNow_2 : decode cX9_wornNow 2 = .ok (.iconst 0, 1) := by decide +kernel
theorem dX9_wornNow_3 : decode cX9_wornNow 3 = .ok (.istore_n 2, 1) := by decide +kernel
theorem dX9_wornNow_4 : decode cX9_wornNow 4 = .ok (.iconst 0, 1) := by decide +kernel
theorem dX9_wornNow_5 : decode cX9_wornNow 5 = .ok (.istore_n 3, 1) := by decide +kernel
theorem dX9_wornNow_6 : decode cX9_wornNow 6 = .ok (.iload_n 3, 1) := by decide +kernel
theorem dX9_wornNow_7 : decode cX9_wornNow 7 = .ok (.aload_n 0, 1) := by decide +kernel
theorem dX9_wornNow_8 : decode cX9_wornNow 8 = .ok (.getfield 103, 3) := by decide +kernel
theorem dX9_wornNow_11 : decode cX9_wornNow 11 = .ok (.if_icmp .ge 70, 3) := by decide +kernel
theorem dX9_wornNow_14 : decode cX9_wornNow 14 = .ok (.iconst 0, 1) := by decide +kernel
theorem dX9_wornNow_15 : decode cX9_wornNow 15 = .ok (.istore 4, 2) := by decide +kernel
theorem dX9_wornNow_17 : decode cX9_wornNow 17 = .ok (.iconst 0, 1) := by decide +kernel
theorem dX9_wornNow_18 : decode cX9_wornNow 18 = .ok (.istore 5, 2) := by decide +kernel
theorem dX9_wornNow_20 : decode cX9_wornNow 20 = .ok (.iload 5, 2) := by decide +kernel
theorem dX9_wornNow_22 : decode cX9_wornNow 22 = .ok (.aload_n 0, 1) := by decide +kernel
theorem dX9_wornNow_23 : decode cX9_wornNow 23 = .ok (.getfield 121, 3) := by decide +kernel
theorem dX9_wornNow_26 : decode cX9_wornNow 26 = .ok (.if_icmp .gt 30, 3) := by decide +kernel
theorem dX9_wornNow_29 : decode cX9_wornNow 29 = .ok (.iload 4, 2) := by decide +kernel
theorem dX9_wornNow_31 : decode cX9_wornNow 31 = .ok (.aload_n 0, 1) := by decide +kernel
theorem dX9_wornNow_32 : decode cX9_wornNow 32 = .ok (.getfield 43, 3) := by decide +kernel
theorem dX9_wornNow_35 : decode cX9_wornNow 35 = .ok (.iload 5, 2) := by decide +kernel
theorem dX9_wornNow_37 : decode cX9_wornNow 37 = .ok (.iaload, 1) := by decide +kernel
theorem dX9_wornNow_38 : decode cX9_wornNow 38 = .ok (.iload_n 3, 1) := by decide +kernel
theorem dX9_wornNow_39 : decode cX9_wornNow 39 = .ok (.if_icmp .ne 7, 3) := by decide +kernel
theorem dX9_wornNow_42 : decode cX9_wornNow 42 = .ok (.iconst 1, 1) := by decide +kernel
theorem dX9_wornNow_43 : decode cX9_wornNow 43 = .ok (.goto 4, 3) := by decide +kernel
theorem dX9_wornNow_46 : decode cX9_wornNow 46 = .ok (.iconst 0, 1) := by decide +kernel
theorem dX9_wornNow_47 : decode cX9_wornNow 47 = .ok (.iadd, 1) := by decide +kernel
theorem dX9_wornNow_48 : decode cX9_wornNow 48 = .ok (.istore 4, 2) := by decide +kernel
theorem dX9_wornNow_50 : decode cX9_wornNow 50 = .ok (.iinc 5 1, 3) := by decide +kernel
theorem dX9_wornNow_53 : decode cX9_wornNow 53 = .ok (.goto (-33), 3) := by decide +kernel
theorem dX9_wornNow_56 : decode cX9_wornNow 56 = .ok (.iload 4, 2) := by decide +kernel
theorem dX9_wornNow_58 : decode cX9_wornNow 58 = .ok (.iload_n 2, 1) := by decide +kernel
theorem dX9_wornNow_59 : decode cX9_wornNow 59 = .ok (.if_icmp .le 7, 3) := by decide +kernel
theorem dX9_wornNow_62 : decode cX9_wornNow 62 = .ok (.iload_n 3, 1) := by decide +kernel
theorem dX9_wornNow_63 : decode cX9_wornNow 63 = .ok (.goto 4, 3) := by decide +kernel
theorem dX9_wornNow_66 : decode cX9_wornNow 66 = .ok (.iload_n 1, 1) := by decide +kernel
theorem dX9_wornNow_67 : decode cX9_wornNow 67 = .ok (.istore_n 1, 1) := by decide +kernel
theorem dX9_wornNow_68 : decode cX9_wornNow 68 = .ok (.iload 4, 2) := by decide +kernel
theorem dX9_wornNow_70 : decode cX9_wornNow 70 = .ok (.iload_n 2, 1) := by decide +kernel
theorem dX9_wornNow_71 : decode cX9_wornNow 71 = .ok (.invokestatic 168, 3) := by decide +kernel
theorem dX9_wornNow_74 : decode cX9_wornNow 74 = .ok (.istore_n 2, 1) := by decide +kernel
theorem dX9_wornNow_75 : decode cX9_wornNow 75 = .ok (.iinc 3 1, 3) := by decide +kernel
theorem dX9_wornNow_78 : decode cX9_wornNow 78 = .ok (.goto (-72), 3) := by decide +kernel
theorem dX9_wornNow_81 : decode cX9_wornNow 81 = .ok (.iload_n 1, 1) := by decide +kernel
theorem dX9_wornNow_82 : decode cX9_wornNow 82 = .ok (.ireturn, 1) := by decide +kernel
theorem dX9_worn_0 : decode cX9_worn 0 = .ok (.aload_n 0, 1) := by decide +kernel
theorem dX9_worn_1 : decode cX9_worn 1 = .ok (.invokevirtual 196, 3) := by decide +kernel
theorem dX9_worn_4 : decode cX9_worn 4 = .ok (.aload_n 0, 1) := by decide +kernel
theorem dX9_worn_5 : decode cX9_worn 5 = .ok (.invokevirtual 211, 3) := by decide +kernel
theorem dX9_worn_8 : decode cX9_worn 8 = .ok (.ireturn, 1) := by decide +kernel
theorem dX9_nextRow_0 : decode cX9_nextRow 0 = .ok (.aload_n 0, 1) := by decide +kernel
theorem dX9_nextRow_1 : decode cX9_nextRow 1 = .ok (.getfield 115, 3) := by decide +kernel
theorem dX9_nextRow_4 : decode cX9_nextRow 4 = .ok (.iconst 2, 1) := by decide +kernel
theorem dX9_nextRow_5 : decode cX9_nextRow 5 = .ok (.isub, 1) := by decide +kernel
theorem dX9_nextRow_6 : decode cX9_nextRow 6 = .ok (.istore_n 1, 1) := by decide +kernel
theorem dX9_nextRow_7 : decode cX9_nextRow 7 = .ok (.iload_n 1, 1) := by decide +kernel
theorem dX9_nextRow_8 : decode cX9_nextRow 8 = .ok (.ifCond .lt 26, 3) := by decide +kernel
theorem dX9_nextRow_11 : decode cX9_nextRow 11 = .ok (.aload_n 0, 1) := by decide +kernel
theorem dX9_nextRow_12 : decode cX9_nextRow 12 = .ok (.getfield 55, 3) := by decide +kernel
theorem dX9_nextRow_15 : decode cX9_nextRow 15 = .ok (.iload_n 1, 1) := by decide +kernel
theorem dX9_nextRow_16 : decode cX9_nextRow 16 = .ok (.iaload, 1) := by decide +kernel
theorem dX9_nextRow_17 : decode cX9_nextRow 17 = .ok (.aload_n 0, 1) := by decide +kernel
theorem dX9_nextRow_18 : decode cX9_nextRow 18 = .ok (.getfield 55, 3) := by decide +kernel
theorem dX9_nextRow_21 : decode cX9_nextRow 21 = .ok (.iload_n 1, 1) := by decide +kernel
theorem dX9_nextRow_22 : decode cX9_nextRow 22 = .ok (.iconst 1, 1) := by decide +kernel
theorem dX9_nextRow_23 : decode cX9_nextRow 23 = .ok (.iadd, 1) := by decide +kernel
theorem dX9_nextRow_24 : decode cX9_nextRow 24 = .ok (.iaload, 1) := by decide +kernel
theorem dX9_nextRow_25 : decode cX9_nextRow 25 = .ok (.if_icmp .le 9, 3) := by decide +kernel
theorem dX9_nextRow_28 : decode cX9_nextRow 28 = .ok (.iinc 1 (-1), 3) := by decide +kernel
theorem dX9_nextRow_31 : decode cX9_nextRow 31 = .ok (.goto (-24), 3) := by decide +kernel
theorem dX9_nextRow_34 : decode cX9_nextRow 34 = .ok (.iload_n 1, 1) := by decide +kernel
theorem dX9_nextRow_35 : decode cX9_nextRow 35 = .ok (.ifCond .ge 5, 3) := by decide +kernel
theorem dX9_nextRow_38 : decode cX9_nextRow 38 = .ok (.iconst 0, 1) := by decide +kernel
theorem dX9_nextRow_39 : decode cX9_nextRow 39 = .ok (.ireturn, 1) := by decide +kernel
theorem dX9_nextRow_40 : decode cX9_nextRow 40 = .ok (.aload_n 0, 1) := by decide +kernel
theorem dX9_nextRow_41 : decode cX9_nextRow 41 = .ok (.getfield 115, 3) := by decide +kernel
theorem dX9_nextRow_44 : decode cX9_nextRow 44 = .ok (.iconst 1, 1) := by decide +kernel
theorem dX9_nextRow_45 : decode cX9_nextRow 45 = .ok (.isub, 1) := by decide +kernel
theorem dX9_nextRow_46 : decode cX9_nextRow 46 = .ok (.istore_n 2, 1) := by decide +kernel
theorem dX9_nextRow_47 : decode cX9_nextRow 47 = .ok (.aload_n 0, 1) := by decide +kernel
theorem dX9_nextRow_48 : decode cX9_nextRow 48 = .ok (.getfield 55, 3) := by decide +kernel
theorem dX9_nextRow_51 : decode cX9_nextRow 51 = .ok (.iload_n 2, 1) := by decide +kernel
theorem dX9_nextRow_52 : decode cX9_nextRow 52 = .ok (.iaload, 1) := by decide +kernel
theorem dX9_nextRow_53 : decode cX9_nextRow 53 = .ok (.aload_n 0, 1) := by decide +kernel
theorem dX9_nextRow_54 : decode cX9_nextRow 54 = .ok (.getfield 55, 3) := by decide +kernel
theorem dX9_nextRow_57 : decode cX9_nextRow 57 = .ok (.iload_n 1, 1) := by decide +kernel
theorem dX9_nextRow_58 : decode cX9_nextRow 58 = .ok (.iaload, 1) := by decide +kernel
theorem dX9_nextRow_59 : decode cX9_nextRow 59 = .ok (.if_icmp .ge 9, 3) := by decide +kernel
theorem dX9_nextRow_62 : decode cX9_nextRow 62 = .ok (.iinc 2 (-1), 3) := by decide +kernel
theorem dX9_nextRow_65 : decode cX9_nextRow 65 = .ok (.goto (-18), 3) := by decide +kernel
theorem dX9_nextRow_68 : decode cX9_nextRow 68 = .ok (.aload_n 0, 1) := by decide +kernel
theorem dX9_nextRow_69 : decode cX9_nextRow 69 = .ok (.getfield 55, 3) := by decide +kernel
theorem dX9_nextRow_72 : decode cX9_nextRow 72 = .ok (.iload_n 1, 1) := by decide +kernel
theorem dX9_nextRow_73 : decode cX9_nextRow 73 = .ok (.iaload, 1) := by decide +kernel
theorem dX9_nextRow_74 : decode cX9_nextRow 74 = .ok (.istore_n 3, 1) := by decide +kernel
theorem dX9_nextRow_75 : decode cX9_nextRow 75 = .ok (.aload_n 0, 1) := by decide +kernel
theorem dX9_nextRow_76 : decode cX9_nextRow 76 = .ok (.getfield 55, 3) := by decide +kernel
theorem dX9_nextRow_79 : decode cX9_nextRow 79 = .ok (.iload_n 1, 1) := by decide +kernel
theorem dX9_nextRow_80 : decode cX9_nextRow 80 = .ok (.aload_n 0, 1) := by decide +kernel
theorem dX9_nextRow_81 : decode cX9_nextRow 81 = .ok (.getfield 55, 3) := by decide +kernel
theorem dX9_nextRow_84 : decode cX9_nextRow 84 = .ok (.iload_n 2, 1) := by decide +kernel
theorem dX9_nextRow_85 : decode cX9_nextRow 85 = .ok (.iaload, 1) := by decide +kernel
theorem dX9_nextRow_86 : decode cX9_nextRow 86 = .ok (.iastore, 1) := by decide +kernel
theorem dX9_nextRow_87 : decode cX9_nextRow 87 = .ok (.aload_n 0, 1) := by decide +kernel
theorem dX9_nextRow_88 : decode cX9_nextRow 88 = .ok (.getfield 55, 3) := by decide +kernel
theorem dX9_nextRow_91 : decode cX9_nextRow 91 = .ok (.iload_n 2, 1) := by decide +kernel
theorem dX9_nextRow_92 : decode cX9_nextRow 92 = .ok (.iload_n 3, 1) := by decide +kernel
theorem dX9_nextRow_93 : decode cX9_nextRow 93 = .ok (.iastore, 1) := by decide +kernel
theorem dX9_nextRow_94 : decode cX9_nextRow 94 = .ok (.iload_n 1, 1) := by decide +kernel
theorem dX9_nextRow_95 : decode cX9_nextRow 95 = .ok (.iconst 1, 1) := by decide +kernel
theorem dX9_nextRow_96 : decode cX9_nextRow 96 = .ok (.iadd, 1) := by decide +kernel
theorem dX9_nextRow_97 : decode cX9_nextRow 97 = .ok (.istore 4, 2) := by decide +kernel
theorem dX9_nextRow_99 : decode cX9_nextRow 99 = .ok (.aload_n 0, 1) := by decide +kernel
theorem dX9_nextRow_100 : decode cX9_nextRow 100 = .ok (.getfield 115, 3) := by decide +kernel
theorem dX9_nextRow_103 : decode cX9_nextRow 103 = .ok (.iconst 1, 1) := by decide +kernel
theorem dX9_nextRow_104 : decode cX9_nextRow 104 = .ok (.isub, 1) := by decide +kernel
theorem dX9_nextRow_105 : decode cX9_nextRow 105 = .ok (.istore 5, 2) := by decide +kernel
theorem dX9_nextRow_107 : decode cX9_nextRow 107 = .ok (.iload 4, 2) := by decide +kernel
theorem dX9_nextRow_109 : decode cX9_nextRow 109 = .ok (.iload 5, 2) := by decide +kernel
theorem dX9_nextRow_111 : decode cX9_nextRow 111 = .ok (.if_icmp .ge 42, 3) := by decide +kernel
theorem dX9_nextRow_114 : decode cX9_nextRow 114 = .ok (.aload_n 0, 1) := by decide +kernel
theorem dX9_nextRow_115 : decode cX9_nextRow 115 = .ok (.getfield 55, 3) := by decide +kernel
theorem dX9_nextRow_118 : decode cX9_nextRow 118 = .ok (.iload 4, 2) := by decide +kernel
theorem dX9_nextRow_120 : decode cX9_nextRow 120 = .ok (.iaload, 1) := by decide +kernel
theorem dX9_nextRow_121 : decode cX9_nextRow 121 = .ok (.istore_n 3, 1) := by decide +kernel
theorem dX9_nextRow_122 : decode cX9_nextRow 122 = .ok (.aload_n 0, 1) := by decide +kernel
theorem dX9_nextRow_123 : decode cX9_nextRow 123 = .ok (.getfield 55, 3) := by decide +kernel
theorem dX9_nextRow_126 : decode cX9_nextRow 126 = .ok (.iload 4, 2) := by decide +kernel
theorem dX9_nextRow_128 : decode cX9_nextRow 128 = .ok (.aload_n 0, 1) := by decide +kernel
theorem dX9_nextRow_129 : decode cX9_nextRow 129 = .ok (.getfield 55, 3) := by decide +kernel
theorem dX9_nextRow_132 : decode cX9_nextRow 132 = .ok (.iload 5, 2) := by decide +kernel
theorem dX9_nextRow_134 : decode cX9_nextRow 134 = .ok (.iaload, 1) := by decide +kernel
theorem dX9_nextRow_135 : decode cX9_nextRow 135 = .ok (.iastore, 1) := by decide +kernel
theorem dX9_nextRow_136 : decode cX9_nextRow 136 = .ok (.aload_n 0, 1) := by decide +kernel
theorem dX9_nextRow_137 : decode cX9_nextRow 137 = .ok (.getfield 55, 3) := by decide +kernel
theorem dX9_nextRow_140 : decode cX9_nextRow 140 = .ok (.iload 5, 2) := by decide +kernel
theorem dX9_nextRow_142 : decode cX9_nextRow 142 = .ok (.iload_n 3, 1) := by decide +kernel
theorem dX9_nextRow_143 : decode cX9_nextRow 143 = .ok (.iastore, 1) := by decide +kernel
theorem dX9_nextRow_144 : decode cX9_nextRow 144 = .ok (.iinc 4 1, 3) := by decide +kernel
theorem dX9_nextRow_147 : decode cX9_nextRow 147 = .ok (.iinc 5 (-1), 3) := by decide +kernel
theorem dX9_nextRow_150 : decode cX9_nextRow 150 = .ok (.goto (-43), 3) := by decide +kernel
theorem dX9_nextRow_153 : decode cX9_nextRow 153 = .ok (.iconst 1, 1) := by decide +kernel
theorem dX9_nextRow_154 : decode cX9_nextRow 154 = .ok (.ireturn, 1) := by decide +kernel
theorem dX9_weighs_0 : decode cX9_weighs 0 = .ok (.aload_n 0, 1) := by decide +kernel
theorem dX9_weighs_1 : decode cX9_weighs 1 = .ok (.invokevirtual 178, 3) := by decide +kernel
theorem dX9_weighs_4 : decode cX9_weighs 4 = .ok (.iconst 0, 1) := by decide +kernel
theorem dX9_weighs_5 : decode cX9_weighs 5 = .ok (.istore_n 1, 1) := by decide +kernel
theorem dX9_weighs_6 : decode cX9_weighs 6 = .ok (.iconst 0, 1) := by decide +kernel
theorem dX9_weighs_7 : decode cX9_weighs 7 = .ok (.istore_n 2, 1) := by decide +kernel
theorem dX9_weighs_8 : decode cX9_weighs 8 = .ok (.iconst 0, 1) := by decide +kernel
theorem dX9_weighs_9 : decode cX9_weighs 9 = .ok (.istore_n 3, 1) := by decide +kernel
theorem dX9_weighs_10 : decode cX9_weighs 10 = .ok (.iload_n 3, 1) := by decide +kernel
theorem dX9_weighs_11 : decode cX9_weighs 11 = .ok (.aload_n 0, 1) := by decide +kernel
theorem dX9_weighs_12 : decode cX9_weighs 12 = .ok (.getfield 115, 3) := by decide +kernel
theorem dX9_weighs_15 : decode cX9_weighs 15 = .ok (.if_icmp .ge 50, 3) := by decide +kernel
theorem dX9_weighs_18 : decode cX9_weighs 18 = .ok (.aload_n 0, 1) := by decide +kernel
theorem dX9_weighs_19 : decode cX9_weighs 19 = .ok (.aload_n 0, 1) := by decide +kernel
theorem dX9_weighs_20 : decode cX9_weighs 20 = .ok (.getfield 55, 3) := by decide +kernel
theorem dX9_weighs_23 : decode cX9_weighs 23 = .ok (.iload_n 3, 1) := by decide +kernel
theorem dX9_weighs_24 : decode cX9_weighs 24 = .ok (.iaload, 1) := by decide +kernel
theorem dX9_weighs_25 : decode cX9_weighs 25 = .ok (.invokevirtual 187, 3) := by decide +kernel
theorem dX9_weighs_28 : decode cX9_weighs 28 = .ok (.istore 4, 2) := by decide +kernel
theorem dX9_weighs_30 : decode cX9_weighs 30 = .ok (.iload_n 1, 1) := by decide +kernel
theorem dX9_weighs_31 : decode cX9_weighs 31 = .ok (.iload 4, 2) := by decide +kernel
theorem dX9_weighs_33 : decode cX9_weighs 33 = .ok (.iconst 1, 1) := by decide +kernel
theorem dX9_weighs_34 : decode cX9_weighs 34 = .ok (.if_icmp .ne 7, 3) := by decide +kernel
theorem dX9_weighs_37 : decode cX9_weighs 37 = .ok (.iconst 1, 1) := by decide +kernel
theorem dX9_weighs_38 : decode cX9_weighs 38 = .ok (.goto 4, 3) := by decide +kernel
theorem dX9_weighs_41 : decode cX9_weighs 41 = .ok (.iconst 0, 1) := by decide +kernel
theorem dX9_weighs_42 : decode cX9_weighs 42 = .ok (.iadd, 1) := by decide +kernel
theorem dX9_weighs_43 : decode cX9_weighs 43 = .ok (.istore_n 1, 1) := by decide +kernel
theorem dX9_weighs_44 : decode cX9_weighs 44 = .ok (.iload_n 2, 1) := by decide +kernel
theorem dX9_weighs_45 : decode cX9_weighs 45 = .ok (.aload_n 0, 1) := by decide +kernel
theorem dX9_weighs_46 : decode cX9_weighs 46 = .ok (.aload_n 0, 1) := by decide +kernel
theorem dX9_weighs_47 : decode cX9_weighs 47 = .ok (.getfield 55, 3) := by decide +kernel
theorem dX9_weighs_50 : decode cX9_weighs 50 = .ok (.iload_n 3, 1) := by decide +kernel
theorem dX9_weighs_51 : decode cX9_weighs 51 = .ok (.iaload, 1) := by decide +kernel
theorem dX9_weighs_52 : decode cX9_weighs 52 = .ok (.iload 4, 2) := by decide +kernel
theorem dX9_weighs_54 : decode cX9_weighs 54 = .ok (.invokevirtual 190, 3) := by decide +kernel
theorem dX9_weighs_57 : decode cX9_weighs 57 = .ok (.iadd, 1) := by decide +kernel
theorem dX9_weighs_58 : decode cX9_weighs 58 = .ok (.istore_n 2, 1) := by decide +kernel
theorem dX9_weighs_59 : decode cX9_weighs 59 = .ok (.iinc 3 1, 3) := by decide +kernel
theorem dX9_weighs_62 : decode cX9_weighs 62 = .ok (.goto (-52), 3) := by decide +kernel
theorem dX9_weighs_65 : decode cX9_weighs 65 = .ok (.iload_n 1, 1) := by decide +kernel
theorem dX9_weighs_66 : decode cX9_weighs 66 = .ok (.aload_n 0, 1) := by decide +kernel
theorem dX9_weighs_67 : decode cX9_weighs 67 = .ok (.getfield 214, 3) := by decide +kernel
theorem dX9_weighs_70 : decode cX9_weighs 70 = .ok (.if_icmp .gt 19, 3) := by decide +kernel
theorem dX9_weighs_73 : decode cX9_weighs 73 = .ok (.iload_n 1, 1) := by decide +kernel
theorem dX9_weighs_74 : decode cX9_weighs 74 = .ok (.aload_n 0, 1) := by decide +kernel
theorem dX9_weighs_75 : decode cX9_weighs 75 = .ok (.getfield 214, 3) := by decide +kernel
theorem dX9_weighs_78 : decode cX9_weighs 78 = .ok (.if_icmp .ne 49, 3) := by decide +kernel
theorem dX9_weighs_81 : decode cX9_weighs 81 = .ok (.iload_n 2, 1) := by decide +kernel
theorem dX9_weighs_82 : decode cX9_weighs 82 = .ok (.aload_n 0, 1) := by decide +kernel
theorem dX9_weighs_83 : decode cX9_weighs 83 = .ok (.getfield 217, 3) := by decide +kernel
theorem dX9_weighs_86 : decode cX9_weighs 86 = .ok (.if_icmp .ge 41, 3) := by decide +kernel
theorem dX9_weighs_89 : decode cX9_weighs 89 = .ok (.aload_n 0, 1) := by decide +kernel
theorem dX9_weighs_90 : decode cX9_weighs 90 = .ok (.iload_n 1, 1) := by decide +kernel
theorem dX9_weighs_91 : decode cX9_weighs 91 = .ok (.putfield 214, 3) := by decide +kernel
theorem dX9_weighs_94 : decode cX9_weighs 94 = .ok (.aload_n 0, 1) := by decide +kernel
theorem dX9_weighs_95 : decode cX9_weighs 95 = .ok (.iload_n 2, 1) := by decide +kernel
theorem dX9_weighs_96 : decode cX9_weighs 96 = .ok (.putfield 217, 3) := by decide +kernel
theorem dX9_weighs_99 : decode cX9_weighs 99 = .ok (.iconst 0, 1) := by decide +kernel
theorem dX9_weighs_100 : decode cX9_weighs 100 = .ok (.istore_n 3, 1) := by decide +kernel
theorem dX9_weighs_101 : decode cX9_weighs 101 = .ok (.iload_n 3, 1) := by decide +kernel
theorem dX9_weighs_102 : decode cX9_weighs 102 = .ok (.aload_n 0, 1) := by decide +kernel
theorem dX9_weighs_103 : decode cX9_weighs 103 = .ok (.getfield 115, 3) := by decide +kernel
theorem dX9_weighs_106 : decode cX9_weighs 106 = .ok (.if_icmp .ge 21, 3) := by decide +kernel
theorem dX9_weighs_109 : decode cX9_weighs 109 = .ok (.aload_n 0, 1) := by decide +kernel
theorem dX9_weighs_110 : decode cX9_weighs 110 = .ok (.getfield 58, 3) := by decide +kernel
theorem dX9_weighs_113 : decode cX9_weighs 113 = .ok (.iload_n 3, 1) := by decide +kernel
theorem dX9_weighs_114 : decode cX9_weighs 114 = .ok (.aload_n 0, 1) := by decide +kernel
theorem dX9_weighs_115 : decode cX9_weighs 115 = .ok (.getfield 55, 3) := by decide +kernel
theorem dX9_weighs_118 : decode cX9_weighs 118 = .ok (.iload_n 3, 1) := by decide +kernel
theorem dX9_weighs_119 : decode cX9_weighs 119 = .ok (.iaload, 1) := by decide +kernel
theorem dX9_weighs_120 : decode cX9_weighs 120 = .ok (.iastore, 1) := by decide +kernel
theorem dX9_weighs_121 : decode cX9_weighs 121 = .ok (.iinc 3 1, 3) := by decide +kernel
theorem dX9_weighs_124 : decode cX9_weighs 124 = .ok (.goto (-23), 3) := by decide +kernel
theorem dX9_weighs_127 : decode cX9_weighs 127 = .ok (.return_, 1) := by decide +kernel
theorem dX9_findOrder_0 : decode cX9_findOrder 0 = .ok (.aload_n 0, 1) := by decide +kernel
theorem dX9_findOrder_1 : decode cX9_findOrder 1 = .ok (.iconst (-1), 1) := by decide +kernel
theorem dX9_findOrder_2 : decode cX9_findOrder 2 = .ok (.putfield 214, 3) := by decide +kernel
theorem dX9_findOrder_5 : decode cX9_findOrder 5 = .ok (.aload_n 0, 1) := by decide +kernel
theorem dX9_findOrder_6 : decode cX9_findOrder 6 = .ok (.iconst 0, 1) := by decide +kernel
theorem dX9_findOrder_7 : decode cX9_findOrder 7 = .ok (.putfield 217, 3) := by decide +kernel
theorem dX9_findOrder_10 : decode cX9_findOrder 10 = .ok (.iconst 0, 1) := by decide +kernel
theorem dX9_findOrder_11 : decode cX9_findOrder 11 = .ok (.istore_n 1, 1) := by decide +kernel
theorem dX9_findOrder_12 : decode cX9_findOrder 12 = .ok (.iload_n 1, 1) := by decide +kernel
theorem dX9_findOrder_13 : decode cX9_findOrder 13 = .ok (.aload_n 0, 1) := by decide +kernel
theorem dX9_findOrder_14 : decode cX9_findOrder 14 = .ok (.getfield 115, 3) := by decide +kernel
theorem dX9_findOrder_17 : decode cX9_findOrder 17 = .ok (.if_icmp .ge 16, 3) := by decide +kernel
theorem dX9_findOrder_20 : decode cX9_findOrder 20 = .ok (.aload_n 0, 1) := by decide +kernel
theorem dX9_findOrder_21 : decode cX9_findOrder 21 = .ok (.getfield 55, 3) := by decide +kernel
theorem dX9_findOrder_24 : decode cX9_findOrder 24 = .ok (.iload_n 1, 1) := by decide +kernel
theorem dX9_findOrder_25 : decode cX9_findOrder 25 = .ok (.iload_n 1, 1) := by decide +kernel
theorem dX9_findOrder_26 : decode cX9_findOrder 26 = .ok (.iastore, 1) := by decide +kernel
theorem dX9_findOrder_27 : decode cX9_findOrder 27 = .ok (.iinc 1 1, 3) := by decide +kernel
theorem dX9_findOrder_30 : decode cX9_findOrder 30 = .ok (.goto (-18), 3) := by decide +kernel
theorem dX9_findOrder_33 : decode cX9_findOrder 33 = .ok (.iconst 1, 1) := by decide +kernel
theorem dX9_findOrder_34 : decode cX9_findOrder 34 = .ok (.istore_n 1, 1) := by decide +kernel
theorem dX9_findOrder_35 : decode cX9_findOrder 35 = .ok (.iload_n 1, 1) := by decide +kernel
theorem dX9_findOrder_36 : decode cX9_findOrder 36 = .ok (.ifCond .eq 15, 3) := by decide +kernel
theorem dX9_findOrder_39 : decode cX9_findOrder 39 = .ok (.aload_n 0, 1) := by decide +kernel
theorem dX9_findOrder_40 : decode cX9_findOrder 40 = .ok (.invokevirtual 220, 3) := by decide +kernel
theorem dX9_findOrder_43 : decode cX9_findOrder 43 = .ok (.aload_n 0, 1) := by decide +kernel
theorem dX9_findOrder_44 : decode cX9_findOrder 44 = .ok (.invokevirtual 223, 3) := by decide +kernel
theorem dX9_findOrder_47 : decode cX9_findOrder 47 = .ok (.istore_n 1, 1) := by decide +kernel
theorem dX9_findOrder_48 : decode cX9_findOrder 48 = .ok (.goto (-13), 3) := by decide +kernel
theorem dX9_findOrder_51 : decode cX9_findOrder 51 = .ok (.return_, 1) := by decide +kernel
theorem dX9_orderBy_0 : decode cX9_orderBy 0 = .ok (.iload_n 1, 1) := by decide +kernel
theorem dX9_orderBy_1 : decode cX9_orderBy 1 = .ok (.ifCond .ne 10, 3) := by decide +kernel
theorem dX9_orderBy_4 : decode cX9_orderBy 4 = .ok (.aload_n 0, 1) := by decide +kernel
theorem dX9_orderBy_5 : decode cX9_orderBy 5 = .ok (.getfield 214, 3) := by decide +kernel
theorem dX9_orderBy_8 : decode cX9_orderBy 8 = .ok (.goto 37, 3) := by decide +kernel
theorem dX9_orderBy_11 : decode cX9_orderBy 11 = .ok (.iload_n 1, 1) := by decide +kernel
theorem dX9_orderBy_12 : decode cX9_orderBy 12 = .ok (.iconst 1, 1) := by decide +kernel
theorem dX9_orderBy_13 : decode cX9_orderBy 13 = .ok (.if_icmp .ne 10, 3) := by decide +kernel
theorem dX9_orderBy_16 : decode cX9_orderBy 16 = .ok (.aload_n 0, 1) := by decide +kernel
theorem dX9_orderBy_17 : decode cX9_orderBy 17 = .ok (.getfield 217, 3) := by decide +kernel
theorem dX9_orderBy_20 : decode cX9_orderBy 20 = .ok (.goto 25, 3) := by decide +kernel
theorem dX9_orderBy_23 : decode cX9_orderBy 23 = .ok (.iload_n 1, 1) := by decide +kernel
theorem dX9_orderBy_24 : decode cX9_orderBy 24 = .ok (.iconst 2, 1) := by decide +kernel
theorem dX9_orderBy_25 : decode cX9_orderBy 25 = .ok (.isub, 1) := by decide +kernel
theorem dX9_orderBy_26 : decode cX9_orderBy 26 = .ok (.aload_n 0, 1) := by decide +kernel
theorem dX9_orderBy_27 : decode cX9_orderBy 27 = .ok (.getfield 115, 3) := by decide +kernel
theorem dX9_orderBy_30 : decode cX9_orderBy 30 = .ok (.if_icmp .ge 14, 3) := by decide +kernel
theorem dX9_orderBy_33 : decode cX9_orderBy 33 = .ok (.aload_n 0, 1) := by decide +kernel
theorem dX9_orderBy_34 : decode cX9_orderBy 34 = .ok (.getfield 58, 3) := by decide +kernel
theorem dX9_orderBy_37 : decode cX9_orderBy 37 = .ok (.iload_n 1, 1) := by decide +kernel
theorem dX9_orderBy_38 : decode cX9_orderBy 38 = .ok (.iconst 2, 1) := by decide +kernel
theorem dX9_orderBy_39 : decode cX9_orderBy 39 = .ok (.isub, 1) := by decide +kernel
theorem dX9_orderBy_40 : decode cX9_orderBy 40 = .ok (.iaload, 1) := by decide +kernel
theorem dX9_orderBy_41 : decode cX9_orderBy 41 = .ok (.goto 4, 3) := by decide +kernel
theorem dX9_orderBy_44 : decode cX9_orderBy 44 = .ok (.iconst (-1), 1) := by decide +kernel
theorem dX9_orderBy_45 : decode cX9_orderBy 45 = .ok (.ireturn, 1) := by decide +kernel
theorem dX9_order_0 : decode cX9_order 0 = .ok (.aload_n 0, 1) := by decide +kernel
theorem dX9_order_1 : decode cX9_order 1 = .ok (.invokevirtual 196, 3) := by decide +kernel
theorem dX9_order_4 : decode cX9_order 4 = .ok (.iload_n 1, 1) := by decide +kernel
theorem dX9_order_5 : decode cX9_order 5 = .ok (.i2l, 1) := by decide +kernel
theorem dX9_order_6 : decode cX9_order 6 = .ok (.lconst 0, 1) := by decide +kernel
theorem dX9_order_7 : decode cX9_order 7 = .ok (.ldc2_w 151, 3) := by decide +kernel
theorem dX9_order_10 : decode cX9_order 10 = .ok (.invokestatic 69, 3) := by decide +kernel
theorem dX9_order_13 : decode cX9_order 13 = .ok (.ifCond .ne 6, 3) := by decide +kernel
theorem dX9_order_16 : decode cX9_order 16 = .ok (.bipush (-2), 2) := by decide +kernel
theorem dX9_order_18 : decode cX9_order 18 = .ok (.ireturn, 1) := by decide +kernel
theorem dX9_order_19 : decode cX9_order 19 = .ok (.aload_n 0, 1) := by decide +kernel
theorem dX9_order_20 : decode cX9_order 20 = .ok (.invokevirtual 227, 3) := by decide +kernel
theorem dX9_order_23 : decode cX9_order 23 = .ok (.aload_n 0, 1) := by decide +kernel
theorem dX9_order_24 : decode cX9_order 24 = .ok (.iload_n 1, 1) := by decide +kernel
theorem dX9_order_25 : decode cX9_order 25 = .ok (.invokevirtual 230, 3) := by decide +kernel
theorem dX9_order_28 : decode cX9_order 28 = .ok (.ireturn, 1) := by decide +kernel
theorem dX9_aheadOf_0 : decode cX9_aheadOf 0 = .ok (.aload_n 0, 1) := by decide +kernel
theorem dX9_aheadOf_1 : decode cX9_aheadOf 1 = .ok (.invokevirtual 193, 3) := by decide +kernel
theorem dX9_aheadOf_4 : decode cX9_aheadOf 4 = .ok (.aload_n 0, 1) := by decide +kernel
theorem dX9_aheadOf_5 : decode cX9_aheadOf 5 = .ok (.getfield 155, 3) := by decide +kernel
theorem dX9_aheadOf_8 : decode cX9_aheadOf 8 = .ok (.istore_n 2, 1) := by decide +kernel
theorem dX9_aheadOf_9 : decode cX9_aheadOf 9 = .ok (.aload_n 0, 1) := by decide +kernel
theorem dX9_aheadOf_10 : decode cX9_aheadOf 10 = .ok (.iload_n 1, 1) := by decide +kernel
theorem dX9_aheadOf_11 : decode cX9_aheadOf 11 = .ok (.invokevirtual 187, 3) := by decide +kernel
theorem dX9_aheadOf_14 : decode cX9_aheadOf 14 = .ok (.iconst 1, 1) := by decide +kernel
theorem dX9_aheadOf_15 : decode cX9_aheadOf 15 = .ok (.if_icmp .ne 6, 3) := by decide +kernel
theorem dX9_aheadOf_18 : decode cX9_aheadOf 18 = .ok (.bipush (-3), 2) := by decide +kernel
theorem dX9_aheadOf_20 : decode cX9_aheadOf 20 = .ok (.ireturn, 1) := by decide +kernel
theorem dX9_aheadOf_21 : decode cX9_aheadOf 21 = .ok (.iconst 0, 1) := by decide +kernel
theorem dX9_aheadOf_22 : decode cX9_aheadOf 22 = .ok (.istore_n 3, 1) := by decide +kernel
theorem dX9_aheadOf_23 : decode cX9_aheadOf 23 = .ok (.iload_n 3, 1) := by decide +kernel
theorem dX9_aheadOf_24 : decode cX9_aheadOf 24 = .ok (.aload_n 0, 1) := by decide +kernel
theorem dX9_aheadOf_25 : decode cX9_aheadOf 25 = .ok (.getfield 115, 3) := by decide +kernel
theorem dX9_aheadOf_28 : decode cX9_aheadOf 28 = .ok (.if_icmp .ge 36, 3) := by decide +kernel
theorem dX9_aheadOf_31 : decode cX9_aheadOf 31 = .ok (.iload_n 3, 1) := by decide +kernel
theorem dX9_aheadOf_32 : decode cX9_aheadOf 32 = .ok (.iload_n 1, 1) := by decide +kernel
theorem dX9_aheadOf_33 : decode cX9_aheadOf 33 = .ok (.if_icmp .eq 25, 3) := by decide +kernel
theorem dX9_aheadOf_36 : decode cX9_aheadOf 36 = .ok (.aload_n 0, 1) := by decide +kernel
theorem dX9_aheadOf_37 : decode cX9_aheadOf 37 = .ok (.iload_n 2, 1) := by decide +kernel
theorem dX9_aheadOf_38 : decode cX9_aheadOf 38 = .ok (.putfield 155, 3) := by decide +kernel
theorem dX9_aheadOf_41 : decode cX9_aheadOf 41 = .ok (.aload_n 0, 1) := by decide +kernel
theorem dX9_aheadOf_42 : decode cX9_aheadOf 42 = .ok (.iload_n 3, 1) := by decide +kernel
theorem dX9_aheadOf_43 : decode cX9_aheadOf 43 = .ok (.invokevirtual 187, 3) := by decide +kernel
theorem dX9_aheadOf_46 : decode cX9_aheadOf 46 = .ok (.pop, 1) := by decide +kernel
theorem dX9_aheadOf_47 : decode cX9_aheadOf 47 = .ok (.aload_n 0, 1) := by decide +kernel
theorem dX9_aheadOf_48 : decode cX9_aheadOf 48 = .ok (.iload_n 1, 1) := by decide +kernel
theorem dX9_aheadOf_49 : decode cX9_aheadOf 49 = .ok (.invokevirtual 187, 3) := by decide +kernel
theorem dX9_aheadOf_52 : decode cX9_aheadOf 52 = .ok (.iconst 1, 1) := by decide +kernel
theorem dX9_aheadOf_53 : decode cX9_aheadOf 53 = .ok (.if_icmp .ne 5, 3) := by decide +kernel
theorem dX9_aheadOf_56 : decode cX9_aheadOf 56 = .ok (.iload_n 3, 1) := by decide +kernel
theorem dX9_aheadOf_57 : decode cX9_aheadOf 57 = .ok (.ireturn, 1) := by decide +kernel
theorem dX9_aheadOf_58 : decode cX9_aheadOf 58 = .ok (.iinc 3 1, 3) := by decide +kernel
theorem dX9_aheadOf_61 : decode cX9_aheadOf 61 = .ok (.goto (-38), 3) := by decide +kernel
theorem dX9_aheadOf_64 : decode cX9_aheadOf 64 = .ok (.iconst (-1), 1) := by decide +kernel
theorem dX9_aheadOf_65 : decode cX9_aheadOf 65 = .ok (.ireturn, 1) := by decide +kernel
theorem dX9_ahead_0 : decode cX9_ahead 0 = .ok (.aload_n 0, 1) := by decide +kernel
theorem dX9_ahead_1 : decode cX9_ahead 1 = .ok (.invokevirtual 196, 3) := by decide +kernel
theorem dX9_ahead_4 : decode cX9_ahead 4 = .ok (.aload_n 0, 1) := by decide +kernel
theorem dX9_ahead_5 : decode cX9_ahead 5 = .ok (.iload_n 1, 1) := by decide +kernel
theorem dX9_ahead_6 : decode cX9_ahead 6 = .ok (.invokevirtual 143, 3) := by decide +kernel
theorem dX9_ahead_9 : decode cX9_ahead 9 = .ok (.ifCond .eq 11, 3) := by decide +kernel
theorem dX9_ahead_12 : decode cX9_ahead 12 = .ok (.aload_n 0, 1) := by decide +kernel
theorem dX9_ahead_13 : decode cX9_ahead 13 = .ok (.iload_n 1, 1) := by decide +kernel
theorem dX9_ahead_14 : decode cX9_ahead 14 = .ok (.invokevirtual 233, 3) := by decide +kernel
theorem dX9_ahead_17 : decode cX9_ahead 17 = .ok (.goto 5, 3) := by decide +kernel
theorem dX9_ahead_20 : decode cX9_ahead 20 = .ok (.bipush (-2), 2) := by decide +kernel
theorem dX9_ahead_22 : decode cX9_ahead 22 = .ok (.ireturn, 1) := by decide +kernel
theorem dX9_oftenOf_0 : decode cX9_oftenOf 0 = .ok (.aload_n 0, 1) := by decide +kernel
theorem dX9_oftenOf_1 : decode cX9_oftenOf 1 = .ok (.invokevirtual 193, 3) := by decide +kernel
theorem dX9_oftenOf_4 : decode cX9_oftenOf 4 = .ok (.iconst 0, 1) := by decide +kernel
theorem dX9_oftenOf_5 : decode cX9_oftenOf 5 = .ok (.istore_n 3, 1) := by decide +kernel
theorem dX9_oftenOf_6 : decode cX9_oftenOf 6 = .ok (.iload_n 3, 1) := by decide +kernel
theorem dX9_oftenOf_7 : decode cX9_oftenOf 7 = .ok (.bipush 10, 2) := by decide +kernel
theorem dX9_oftenOf_9 : decode cX9_oftenOf 9 = .ok (.if_icmp .ge 38, 3) := by decide +kernel
theorem dX9_oftenOf_12 : decode cX9_oftenOf 12 = .ok (.aload_n 0, 1) := by decide +kernel
theorem dX9_oftenOf_13 : decode cX9_oftenOf 13 = .ok (.getfield 155, 3) := by decide +kernel
theorem dX9_oftenOf_16 : decode cX9_oftenOf 16 = .ok (.istore 4, 2) := by decide +kernel
theorem dX9_oftenOf_18 : decode cX9_oftenOf 18 = .ok (.aload_n 0, 1) := by decide +kernel
theorem dX9_oftenOf_19 : decode cX9_oftenOf 19 = .ok (.iload_n 1, 1) := by decide +kernel
theorem dX9_oftenOf_20 : decode cX9_oftenOf 20 = .ok (.invokevirtual 187, 3) := by decide +kernel
theorem dX9_oftenOf_23 : decode cX9_oftenOf 23 = .ok (.iconst 1, 1) := by decide +kernel
theorem dX9_oftenOf_24 : decode cX9_oftenOf 24 = .ok (.if_icmp .ne 5, 3) := by decide +kernel
theorem dX9_oftenOf_27 : decode cX9_oftenOf 27 = .ok (.iload_n 3, 1) := by decide +kernel
theorem dX9_oftenOf_28 : decode cX9_oftenOf 28 = .ok (.ireturn, 1) := by decide +kernel
theorem dX9_oftenOf_29 : decode cX9_oftenOf 29 = .ok (.aload_n 0, 1) := by decide +kernel
theorem dX9_oftenOf_30 : decode cX9_oftenOf 30 = .ok (.iload 4, 2) := by decide +kernel
theorem dX9_oftenOf_32 : decode cX9_oftenOf 32 = .ok (.putfield 155, 3) := by decide +kernel
theorem dX9_oftenOf_35 : decode cX9_oftenOf 35 = .ok (.aload_n 0, 1) := by decide +kernel
theorem dX9_oftenOf_36 : decode cX9_oftenOf 36 = .ok (.iload_n 2, 1) := by decide +kernel
theorem dX9_oftenOf_37 : decode cX9_oftenOf 37 = .ok (.invokevirtual 187, 3) := by decide +kernel
theorem dX9_oftenOf_40 : decode cX9_oftenOf 40 = .ok (.pop, 1) := by decide +kernel
theorem dX9_oftenOf_41 : decode cX9_oftenOf 41 = .ok (.iinc 3 1, 3) := by decide +kernel
theorem dX9_oftenOf_44 : decode cX9_oftenOf 44 = .ok (.goto (-38), 3) := by decide +kernel
theorem dX9_oftenOf_47 : decode cX9_oftenOf 47 = .ok (.iconst (-1), 1) := by decide +kernel
theorem dX9_oftenOf_48 : decode cX9_oftenOf 48 = .ok (.ireturn, 1) := by decide +kernel
theorem dX9_often_0 : decode cX9_often 0 = .ok (.aload_n 0, 1) := by decide +kernel
theorem dX9_often_1 : decode cX9_often 1 = .ok (.invokevirtual 196, 3) := by decide +kernel
theorem dX9_often_4 : decode cX9_often 4 = .ok (.aload_n 0, 1) := by decide +kernel
theorem dX9_often_5 : decode cX9_often 5 = .ok (.iload_n 1, 1) := by decide +kernel
theorem dX9_often_6 : decode cX9_often 6 = .ok (.invokevirtual 143, 3) := by decide +kernel
theorem dX9_often_9 : decode cX9_often 9 = .ok (.ifCond .eq 25, 3) := by decide +kernel
theorem dX9_often_12 : decode cX9_often 12 = .ok (.aload_n 0, 1) := by decide +kernel
theorem dX9_often_13 : decode cX9_often 13 = .ok (.iload_n 2, 1) := by decide +kernel
theorem dX9_often_14 : decode cX9_often 14 = .ok (.invokevirtual 143, 3) := by decide +kernel
theorem dX9_often_17 : decode cX9_often 17 = .ok (.ifCond .eq 17, 3) := by decide +kernel
theorem dX9_often_20 : decode cX9_often 20 = .ok (.iload_n 1, 1) := by decide +kernel
theorem dX9_often_21 : decode cX9_often 21 = .ok (.iload_n 2, 1) := by decide +kernel
theorem dX9_often_22 : decode cX9_often 22 = .ok (.if_icmp .eq 12, 3) := by decide +kernel
theorem dX9_often_25 : decode cX9_often 25 = .ok (.aload_n 0, 1) := by decide +kernel
theorem dX9_often_26 : decode cX9_often 26 = .ok (.iload_n 1, 1) := by decide +kernel
theorem dX9_often_27 : decode cX9_often 27 = .ok (.iload_n 2, 1) := by decide +kernel
theorem dX9_often_28 : decode cX9_often 28 = .ok (.invokevirtual 236, 3) := by decide +kernel
theorem dX9_often_31 : decode cX9_often 31 = .ok (.goto 5, 3) := by decide +kernel
theorem dX9_often_34 : decode cX9_often 34 = .ok (.bipush (-2), 2) := by decide +kernel
theorem dX9_often_36 : decode cX9_often 36 = .ok (.ireturn, 1) := by decide +kernel
theorem dX9_seen_0 : decode cX9_seen 0 = .ok (.iload_n 1, 1) := by decide +kernel
theorem dX9_seen_1 : decode cX9_seen 1 = .ok (.i2l, 1) := by decide +kernel
theorem dX9_seen_2 : decode cX9_seen 2 = .ok (.lconst 0, 1) := by decide +kernel
theorem dX9_seen_3 : decode cX9_seen 3 = .ok (.ldc2_w 239, 3) := by decide +kernel
theorem dX9_seen_6 : decode cX9_seen 6 = .ok (.invokestatic 69, 3) := by decide +kernel
theorem dX9_seen_9 : decode cX9_seen 9 = .ok (.ifCond .eq 15, 3) := by decide +kernel
theorem dX9_seen_12 : decode cX9_seen 12 = .ok (.iload_n 2, 1) := by decide +kernel
theorem dX9_seen_13 : decode cX9_seen 13 = .ok (.i2l, 1) := by decide +kernel
theorem dX9_seen_14 : decode cX9_seen 14 = .ok (.lconst 0, 1) := by decide +kernel
theorem dX9_seen_15 : decode cX9_seen 15 = .ok (.ldc2_w 141, 3) := by decide +kernel
theorem dX9_seen_18 : decode cX9_seen 18 = .ok (.invokestatic 69, 3) := by decide +kernel
theorem dX9_seen_21 : decode cX9_seen 21 = .ok (.ifCond .ne 6, 3) := by decide +kernel
theorem dX9_seen_24 : decode cX9_seen 24 = .ok (.bipush (-2), 2) := by decide +kernel
theorem dX9_seen_26 : decode cX9_seen 26 = .ok (.ireturn, 1) := by decide +kernel
theorem dX9_seen_27 : decode cX9_seen 27 = .ok (.aload_n 0, 1) := by decide +kernel
theorem dX9_seen_28 : decode cX9_seen 28 = .ok (.getfield 241, 3) := by decide +kernel
theorem dX9_seen_31 : decode cX9_seen 31 = .ok (.bipush 8, 2) := by decide +kernel
theorem dX9_seen_33 : decode cX9_seen 33 = .ok (.if_icmp .ne 6, 3) := by decide +kernel
theorem dX9_seen_36 : decode cX9_seen 36 = .ok (.bipush (-4), 2) := by decide +kernel
theorem dX9_seen_38 : decode cX9_seen 38 = .ok (.ireturn, 1) := by decide +kernel
theorem dX9_seen_39 : decode cX9_seen 39 = .ok (.aload_n 0, 1) := by decide +kernel
theorem dX9_seen_40 : decode cX9_seen 40 = .ok (.getfield 61, 3) := by decide +kernel
theorem dX9_seen_43 : decode cX9_seen 43 = .ok (.iconst 2, 1) := by decide +kernel
theorem dX9_seen_44 : decode cX9_seen 44 = .ok (.aload_n 0, 1) := by decide +kernel
theorem dX9_seen_45 : decode cX9_seen 45 = .ok (.getfield 241, 3) := by decide +kernel
theorem dX9_seen_48 : decode cX9_seen 48 = .ok (.imul, 1) := by decide +kernel
theorem dX9_seen_49 : decode cX9_seen 49 = .ok (.iload_n 1, 1) := by decide +kernel
theorem dX9_seen_50 : decode cX9_seen 50 = .ok (.iastore, 1) := by decide +kernel
theorem dX9_seen_51 : decode cX9_seen 51 = .ok (.aload_n 0, 1) := by decide +kernel
theorem dX9_seen_52 : decode cX9_seen 52 = .ok (.getfield 61, 3) := by decide +kernel
theorem dX9_seen_55 : decode cX9_seen 55 = .ok (.iconst 2, 1) := by decide +kernel
theorem dX9_seen_56 : decode cX9_seen 56 = .ok (.aload_n 0, 1) := by decide +kernel
theorem dX9_seen_57 : decode cX9_seen 57 = .ok (.getfield 241, 3) := by decide +kernel
theorem dX9_seen_60 : decode cX9_seen 60 = .ok (.imul, 1) := by decide +kernel
theorem dX9_seen_61 : decode cX9_seen 61 = .ok (.iconst 1, 1) := by decide +kernel
theorem dX9_seen_62 : decode cX9_seen 62 = .ok (.iadd, 1) := by decide +kernel
theorem dX9_seen_63 : decode cX9_seen 63 = .ok (.iload_n 2, 1) := by decide +kernel
theorem dX9_seen_64 : decode cX9_seen 64 = .ok (.iastore, 1) := by decide +kernel
theorem dX9_seen_65 : decode cX9_seen 65 = .ok (.aload_n 0, 1) := by decide +kernel
theorem dX9_seen_66 : decode cX9_seen 66 = .ok (.dup, 1) := by decide +kernel
theorem dX9_seen_67 : decode cX9_seen 67 = .ok (.getfield 241, 3) := by decide +kernel
theorem dX9_seen_70 : decode cX9_seen 70 = .ok (.iconst 1, 1) := by decide +kernel
theorem dX9_seen_71 : decode cX9_seen 71 = .ok (.iadd, 1) := by decide +kernel
theorem dX9_seen_72 : decode cX9_seen 72 = .ok (.putfield 241, 3) := by decide +kernel
theorem dX9_seen_75 : decode cX9_seen 75 = .ok (.aload_n 0, 1) := by decide +kernel
theorem dX9_seen_76 : decode cX9_seen 76 = .ok (.getfield 241, 3) := by decide +kernel
theorem dX9_seen_79 : decode cX9_seen 79 = .ok (.ireturn, 1) := by decide +kernel
theorem dX9_forget_0 : decode cX9_forget 0 = .ok (.aload_n 0, 1) := by decide +kernel
theorem dX9_forget_1 : decode cX9_forget 1 = .ok (.getfield 241, 3) := by decide +kernel
theorem dX9_forget_4 : decode cX9_forget 4 = .ok (.istore_n 1, 1) := by decide +kernel
theorem dX9_forget_5 : decode cX9_forget 5 = .ok (.aload_n 0, 1) := by decide +kernel
theorem dX9_forget_6 : decode cX9_forget 6 = .ok (.iconst 0, 1) := by decide +kernel
theorem dX9_forget_7 : decode cX9_forget 7 = .ok (.putfield 241, 3) := by decide +kernel
theorem dX9_forget_10 : decode cX9_forget 10 = .ok (.iload_n 1, 1) := by decide +kernel
theorem dX9_forget_11 : decode cX9_forget 11 = .ok (.ireturn, 1) := by decide +kernel
theorem dX9_read_0 : decode cX9_read 0 = .ok (.iload_n 1, 1) := by decide +kernel
theorem dX9_read_1 : decode cX9_read 1 = .ok (.invokestatic 79, 3) := by decide +kernel
theorem dX9_read_4 : decode cX9_read 4 = .ok (.ifCond .ne 6, 3) := by decide +kernel
theorem dX9_read_7 : decode cX9_read 7 = .ok (.bipush (-2), 2) := by decide +kernel
theorem dX9_read_9 : decode cX9_read 9 = .ok (.ireturn, 1) := by decide +kernel
theorem dX9_read_10 : decode cX9_read 10 = .ok (.aload_n 0, 1) := by decide +kernel
theorem dX9_read_11 : decode cX9_read 11 = .ok (.getfield 7, 3) := by decide +kernel
theorem dX9_read_14 : decode cX9_read 14 = .ok (.iload_n 1, 1) := by decide +kernel
theorem dX9_read_15 : decode cX9_read 15 = .ok (.iaload, 1) := by decide +kernel
theorem dX9_read_16 : decode cX9_read 16 = .ok (.ifCond .ge 9, 3) := by decide +kernel
theorem dX9_read_19 : decode cX9_read 19 = .ok (.aload_n 0, 1) := by decide +kernel
theorem dX9_read_20 : decode cX9_read 20 = .ok (.iconst 1, 1) := by decide +kernel
theorem dX9_read_21 : decode cX9_read 21 = .ok (.invokevirtual 85, 3) := by decide +kernel
theorem dX9_read_24 : decode cX9_read 24 = .ok (.ireturn, 1) := by decide +kernel
theorem dX9_read_25 : decode cX9_read 25 = .ok (.iconst 0, 1) := by decide +kernel
theorem dX9_read_26 : decode cX9_read 26 = .ok (.istore_n 2, 1) := by decide +kernel
theorem dX9_read_27 : decode cX9_read 27 = .ok (.iconst 1, 1) := by decide +kernel
theorem dX9_read_28 : decode cX9_read 28 = .ok (.istore_n 3, 1) := by decide +kernel
theorem dX9_read_29 : decode cX9_read 29 = .ok (.iload_n 3, 1) := by decide +kernel
theorem dX9_read_30 : decode cX9_read 30 = .ok (.ifCond .eq 73, 3) := by decide +kernel
theorem dX9_read_33 : decode cX9_read 33 = .ok (.iconst 2, 1) := by decide +kernel
theorem dX9_read_34 : decode cX9_read 34 = .ok (.iload_n 2, 1) := by decide +kernel
theorem dX9_read_35 : decode cX9_read 35 = .ok (.imul, 1) := by decide +kernel
theorem dX9_read_36 : decode cX9_read 36 = .ok (.iconst 2, 1) := by decide +kernel
theorem dX9_read_37 : decode cX9_read 37 = .ok (.iadd, 1) := by decide +kernel
theorem dX9_read_38 : decode cX9_read 38 = .ok (.aload_n 0, 1) := by decide +kernel
theorem dX9_read_39 : decode cX9_read 39 = .ok (.getfield 13, 3) := by decide +kernel
theorem dX9_read_42 : decode cX9_read 42 = .ok (.iload_n 1, 1) := by decide +kernel
theorem dX9_read_43 : decode cX9_read 43 = .ok (.iaload, 1) := by decide +kernel
theorem dX9_read_44 : decode cX9_read 44 = .ok (.if_icmp .gt 59, 3) := by decide +kernel
theorem dX9_read_47 : decode cX9_read 47 = .ok (.aload_n 0, 1) := by decide +kernel
theorem dX9_read_48 : decode cX9_read 48 = .ok (.aload_n 0, 1) := by decide +kernel
theorem dX9_read_49 : decode cX9_read 49 = .ok (.getfield 16, 3) := by decide +kernel
theorem dX9_read_52 : decode cX9_read 52 = .ok (.bipush 60, 2) := by decide +kernel
theorem dX9_read_54 : decode cX9_read 54 = .ok (.iload_n 1, 1) := by decide +kernel
theorem dX9_read_55 : decode cX9_read 55 = .ok (.imul, 1) := by decide +kernel
theorem dX9_read_56 : decode cX9_read 56 = .ok (.iconst 2, 1) := by decide +kernel
theorem dX9_read_57 : decode cX9_read 57 = .ok (.iload_n 2, 1) := by decide +kernel
theorem dX9_read_58 : decode cX9_read 58 = .ok (.imul, 1) := by decide +kernel
theorem dX9_read_59 : decode cX9_read 59 = .ok (.iadd, 1) := by decide +kernel
theorem dX9_read_60 : decode cX9_read 60 = .ok (.iaload, 1) := by decide +kernel
theorem dX9_read_61 : decode cX9_read 61 = .ok (.aload_n 0, 1) := by decide +kernel
theorem dX9_read_62 : decode cX9_read 62 = .ok (.getfield 16, 3) := by decide +kernel
theorem dX9_read_65 : decode cX9_read 65 = .ok (.bipush 60, 2) := by decide +kernel
theorem dX9_read_67 : decode cX9_read 67 = .ok (.iload_n 1, 1) := by decide +kernel
theorem dX9_read_68 : decode cX9_read 68 = .ok (.imul, 1) := by decide +kernel
theorem dX9_read_69 : decode cX9_read 69 = .ok (.iconst 2, 1) := by decide +kernel
theorem dX9_read_70 : decode cX9_read 70 = .ok (.iload_n 2, 1) := by decide +kernel
theorem dX9_read_71 : decode cX9_read 71 = .ok (.imul, 1) := by decide +kernel
theorem dX9_read_72 : decode cX9_read 72 = .ok (.iadd, 1) := by decide +kernel
theorem dX9_read_73 : decode cX9_read 73 = .ok (.iconst 1, 1) := by decide +kernel
theorem dX9_read_74 : decode cX9_read 74 = .ok (.iadd, 1) := by decide +kernel
theorem dX9_read_75 : decode cX9_read 75 = .ok (.iaload, 1) := by decide +kernel
theorem dX9_read_76 : decode cX9_read 76 = .ok (.invokevirtual 244, 3) := by decide +kernel
theorem dX9_read_79 : decode cX9_read 79 = .ok (.ifCond .lt 7, 3) := by decide +kernel
theorem dX9_read_82 : decode cX9_read 82 = .ok (.iconst 1, 1) := by decide +kernel
theorem dX9_read_83 : decode cX9_read 83 = .ok (.goto 4, 3) := by decide +kernel
theorem dX9_read_86 : decode cX9_read 86 = .ok (.iconst 0, 1) := by decide +kernel
theorem dX9_read_87 : decode cX9_read 87 = .ok (.istore_n 3, 1) := by decide +kernel
theorem dX9_read_88 : decode cX9_read 88 = .ok (.iload_n 2, 1) := by decide +kernel
theorem dX9_read_89 : decode cX9_read 89 = .ok (.iload_n 3, 1) := by decide +kernel
theorem dX9_read_90 : decode cX9_read 90 = .ok (.ifCond .eq 7, 3) := by decide +kernel
theorem dX9_read_93 : decode cX9_read 93 = .ok (.iconst 1, 1) := by decide +kernel
theorem dX9_read_94 : decode cX9_read 94 = .ok (.goto 4, 3) := by decide +kernel
theorem dX9_read_97 : decode cX9_read 97 = .ok (.iconst 0, 1) := by decide +kernel
theorem dX9_read_98 : decode cX9_read 98 = .ok (.iadd, 1) := by decide +kernel
theorem dX9_read_99 : decode cX9_read 99 = .ok (.istore_n 2, 1) := by decide +kernel
theorem dX9_read_100 : decode cX9_read 100 = .ok (.goto (-71), 3) := by decide +kernel
theorem dX9_read_103 : decode cX9_read 103 = .ok (.iload_n 2, 1) := by decide +kernel
theorem dX9_read_104 : decode cX9_read 104 = .ok (.ireturn, 1) := by decide +kernel
theorem dX9_isSeen_0 : decode cX9_isSeen 0 = .ok (.aload_n 0, 1) := by decide +kernel
theorem dX9_isSeen_1 : decode cX9_isSeen 1 = .ok (.invokevirtual 193, 3) := by decide +kernel
theorem dX9_isSeen_4 : decode cX9_isSeen 4 = .ok (.iconst 1, 1) := by decide +kernel
theorem dX9_isSeen_5 : decode cX9_isSeen 5 = .ok (.istore_n 1, 1) := by decide +kernel
theorem dX9_isSeen_6 : decode cX9_isSeen 6 = .ok (.iconst 0, 1) := by decide +kernel
theorem dX9_isSeen_7 : decode cX9_isSeen 7 = .ok (.istore_n 2, 1) := by decide +kernel
theorem dX9_isSeen_8 : decode cX9_isSeen 8 = .ok (.iload_n 2, 1) := by decide +kernel
theorem dX9_isSeen_9 : decode cX9_isSeen 9 = .ok (.aload_n 0, 1) := by decide +kernel
theorem dX9_isSeen_10 : decode cX9_isSeen 10 = .ok (.getfield 241, 3) := by decide +kernel
theorem dX9_isSeen_13 : decode cX9_isSeen 13 = .ok (.if_icmp .ge 60, 3) := by decide +kernel
theorem dX9_isSeen_16 : decode cX9_isSeen 16 = .ok (.iload_n 1, 1) := by decide +kernel
theorem dX9_isSeen_17 : decode cX9_isSeen 17 = .ok (.ifCond .eq 48, 3) := by decide +kernel
theorem dX9_isSeen_20 : decode cX9_isSeen 20 = .ok (.aload_n 0, 1) := by decide +kernel
theorem dX9_isSeen_21 : decode cX9_isSeen 21 = .ok (.getfield 61, 3) := by decide +kernel
theorem dX9_isSeen_24 : decode cX9_isSeen 24 = .ok (.iconst 2, 1) := by decide +kernel
theorem dX9_isSeen_25 : decode cX9_isSeen 25 = .ok (.iload_n 2, 1) := by decide +kernel
theorem dX9_isSeen_26 : decode cX9_isSeen 26 = .ok (.imul, 1) := by decide +kernel
theorem dX9_isSeen_27 : decode cX9_isSeen 27 = .ok (.iaload, 1) := by decide +kernel
theorem dX9_isSeen_28 : decode cX9_isSeen 28 = .ok (.aload_n 0, 1) := by decide +kernel
theorem dX9_isSeen_29 : decode cX9_isSeen 29 = .ok (.getfield 121, 3) := by decide +kernel
theorem dX9_isSeen_32 : decode cX9_isSeen 32 = .ok (.if_icmp .gt 33, 3) := by decide +kernel
theorem dX9_isSeen_35 : decode cX9_isSeen 35 = .ok (.aload_n 0, 1) := by decide +kernel
theorem dX9_isSeen_36 : decode cX9_isSeen 36 = .ok (.getfield 43, 3) := by decide +kernel
theorem dX9_isSeen_39 : decode cX9_isSeen 39 = .ok (.aload_n 0, 1) := by decide +kernel
theorem dX9_isSeen_40 : decode cX9_isSeen 40 = .ok (.getfield 61, 3) := by decide +kernel
theorem dX9_isSeen_43 : decode cX9_isSeen 43 = .ok (.iconst 2, 1) := by decide +kernel
theorem dX9_isSeen_44 : decode cX9_isSeen 44 = .ok (.iload_n 2, 1) := by decide +kernel
theorem dX9_isSeen_45 : decode cX9_isSeen 45 = .ok (.imul, 1) := by decide +kernel
theorem dX9_isSeen_46 : decode cX9_isSeen 46 = .ok (.iaload, 1) := by decide +kernel
theorem dX9_isSeen_47 : decode cX9_isSeen 47 = .ok (.iaload, 1) := by decide +kernel
theorem dX9_isSeen_48 : decode cX9_isSeen 48 = .ok (.aload_n 0, 1) := by decide +kernel
theorem dX9_isSeen_49 : decode cX9_isSeen 49 = .ok (.getfield 61, 3) := by decide +kernel
theorem dX9_isSeen_52 : decode cX9_isSeen 52 = .ok (.iconst 2, 1) := by decide +kernel
theorem dX9_isSeen_53 : decode cX9_isSeen 53 = .ok (.iload_n 2, 1) := by decide +kernel
theorem dX9_isSeen_54 : decode cX9_isSeen 54 = .ok (.imul, 1) := by decide +kernel
theorem dX9_isSeen_55 : decode cX9_isSeen 55 = .ok (.iconst 1, 1) := by decide +kernel
theorem dX9_isSeen_56 : decode cX9_isSeen 56 = .ok (.iadd, 1) := by decide +kernel
theorem dX9_isSeen_57 : decode cX9_isSeen 57 = .ok (.iaload, 1) := by decide +kernel
theorem dX9_isSeen_58 : decode cX9_isSeen 58 = .ok (.if_icmp .ne 7, 3) := by decide +kernel
theorem dX9_isSeen_61 : decode cX9_isSeen 61 = .ok (.iconst 1, 1) := by decide +kernel
theorem dX9_isSeen_62 : decode cX9_isSeen 62 = .ok (.goto 4, 3) := by decide +kernel
theorem dX9_isSeen_65 : decode cX9_isSeen 65 = .ok (.iconst 0, 1) := by decide +kernel
theorem dX9_isSeen_66 : decode cX9_isSeen 66 = .ok (.istore_n 1, 1) := by decide +kernel
theorem dX9_isSeen_67 : decode cX9_isSeen 67 = .ok (.iinc 2 1, 3) := by decide +kernel
theorem dX9_isSeen_70 : decode cX9_isSeen 70 = .ok (.goto (-62), 3) := by decide +kernel
theorem dX9_isSeen_73 : decode cX9_isSeen 73 = .ok (.iload_n 1, 1) := by decide +kernel
theorem dX9_isSeen_74 : decode cX9_isSeen 74 = .ok (.ireturn, 1) := by decide +kernel
theorem dX9_ruleOf_0 : decode cX9_ruleOf 0 = .ok (.aload_n 0, 1) := by decide +kernel
theorem dX9_ruleOf_1 : decode cX9_ruleOf 1 = .ok (.getfield 40, 3) := by decide +kernel
theorem dX9_ruleOf_4 : decode cX9_ruleOf 4 = .ok (.iload_n 1, 1) := by decide +kernel
theorem dX9_ruleOf_5 : decode cX9_ruleOf 5 = .ok (.iaload, 1) := by decide +kernel
theorem dX9_ruleOf_6 : decode cX9_ruleOf 6 = .ok (.istore_n 2, 1) := by decide +kernel
theorem dX9_ruleOf_7 : decode cX9_ruleOf 7 = .ok (.iconst 0, 1) := by decide +kernel
theorem dX9_ruleOf_8 : decode cX9_ruleOf 8 = .ok (.istore_n 3, 1) := by decide +kernel
theorem dX9_ruleOf_9 : decode cX9_ruleOf 9 = .ok (.iconst 0, 1) := by decide +kernel
theorem dX9_ruleOf_10 : decode cX9_ruleOf 10 = .ok (.istore 4, 2) := by decide +kernel
theorem dX9_ruleOf_12 : decode cX9_ruleOf 12 = .ok (.iload 4, 2) := by decide +kernel
theorem dX9_ruleOf_14 : decode cX9_ruleOf 14 = .ok (.bipush 19, 2) := by decide +kernel
theorem dX9_ruleOf_16 : decode cX9_ruleOf 16 = .ok (.if_icmp .ge 38, 3) := by decide +kernel
theorem dX9_ruleOf_19 : decode cX9_ruleOf 19 = .ok (.aload_n 0, 1) := by decide +kernel
theorem dX9_ruleOf_20 : decode cX9_ruleOf 20 = .ok (.getfield 40, 3) := by decide +kernel
theorem dX9_ruleOf_23 : decode cX9_ruleOf 23 = .ok (.iload_n 1, 1) := by decide +kernel
theorem dX9_ruleOf_24 : decode cX9_ruleOf 24 = .ok (.iload 4, 2) := by decide +kernel
theorem dX9_ruleOf_26 : decode cX9_ruleOf 26 = .ok (.bipush 9, 2) := by decide +kernel
theorem dX9_ruleOf_28 : decode cX9_ruleOf 28 = .ok (.isub, 1) := by decide +kernel
theorem dX9_ruleOf_29 : decode cX9_ruleOf 29 = .ok (.iastore, 1) := by decide +kernel
theorem dX9_ruleOf_30 : decode cX9_ruleOf 30 = .ok (.iload_n 3, 1) := by decide +kernel
theorem dX9_ruleOf_31 : decode cX9_ruleOf 31 = .ok (.aload_n 0, 1) := by decide +kernel
theorem dX9_ruleOf_32 : decode cX9_ruleOf 32 = .ok (.invokevirtual 247, 3) := by decide +kernel
theorem dX9_ruleOf_35 : decode cX9_ruleOf 35 = .ok (.ifCond .eq 10, 3) := by decide +kernel
theorem dX9_ruleOf_38 : decode cX9_ruleOf 38 = .ok (.iconst 1, 1) := by decide +kernel
theorem dX9_ruleOf_39 : decode cX9_ruleOf 39 = .ok (.iload 4, 2) := by decide +kernel
theorem dX9_ruleOf_41 : decode cX9_ruleOf 41 = .ok (.ishl, 1) := by decide +kernel
theorem dX9_ruleOf_42 : decode cX9_ruleOf 42 = .ok (.goto 4, 3) := by decide +kernel
theorem dX9_ruleOf_45 : decode cX9_ruleOf 45 = .ok (.iconst 0, 1) := by decide +kernel
theorem dX9_ruleOf_46 : decode cX9_ruleOf 46 = .ok (.ior, 1) := by decide +kernel
theorem dX9_ruleOf_47 : decode cX9_ruleOf 47 = .ok (.istore_n 3, 1) := by decide +kernel
theorem dX9_ruleOf_48 : decode cX9_ruleOf 48 = .ok (.iinc 4 1, 3) := by decide +kernel
theorem dX9_ruleOf_51 : decode cX9_ruleOf 51 = .ok (.goto (-39), 3) := by decide +kernel
theorem dX9_ruleOf_54 : decode cX9_ruleOf 54 = .ok (.aload_n 0, 1) := by decide +kernel
theorem dX9_ruleOf_55 : decode cX9_ruleOf 55 = .ok (.getfield 40, 3) := by decide +kernel
theorem dX9_ruleOf_58 : decode cX9_ruleOf 58 = .ok (.iload_n 1, 1) := by decide +kernel
theorem dX9_ruleOf_59 : decode cX9_ruleOf 59 = .ok (.iload_n 2, 1) := by decide +kernel
theorem dX9_ruleOf_60 : decode cX9_ruleOf 60 = .ok (.iastore, 1) := by decide +kernel
theorem dX9_ruleOf_61 : decode cX9_ruleOf 61 = .ok (.iload_n 3, 1) := by decide +kernel
theorem dX9_ruleOf_62 : decode cX9_ruleOf 62 = .ok (.ireturn, 1) := by decide +kernel
theorem dX9_rule_0 : decode cX9_rule 0 = .ok (.aload_n 0, 1) := by decide +kernel
theorem dX9_rule_1 : decode cX9_rule 1 = .ok (.invokevirtual 196, 3) := by decide +kernel
theorem dX9_rule_4 : decode cX9_rule 4 = .ok (.iload_n 1, 1) := by decide +kernel
theorem dX9_rule_5 : decode cX9_rule 5 = .ok (.i2l, 1) := by decide +kernel
theorem dX9_rule_6 : decode cX9_rule 6 = .ok (.lconst 0, 1) := by decide +kernel
theorem dX9_rule_7 : decode cX9_rule 7 = .ok (.ldc2_w 77, 3) := by decide +kernel
theorem dX9_rule_10 : decode cX9_rule 10 = .ok (.invokestatic 69, 3) := by decide +kernel
theorem dX9_rule_13 : decode cX9_rule 13 = .ok (.ifCond .eq 11, 3) := by decide +kernel
theorem dX9_rule_16 : decode cX9_rule 16 = .ok (.aload_n 0, 1) := by decide +kernel
theorem dX9_rule_17 : decode cX9_rule 17 = .ok (.iload_n 1, 1) := by decide +kernel
theorem dX9_rule_18 : decode cX9_rule 18 = .ok (.invokevirtual 250, 3) := by decide +kernel
theorem dX9_rule_21 : decode cX9_rule 21 = .ok (.goto 5, 3) := by decide +kernel
theorem dX9_rule_24 : decode cX9_rule 24 = .ok (.bipush (-2), 2) := by decide +kernel
theorem dX9_rule_26 : decode cX9_rule 26 = .ok (.ireturn, 1) := by decide +kernel
theorem dX9_beganNow_0 : decode cX9_beganNow 0 = .ok (.aload_n 0, 1) := by decide +kernel
theorem dX9_beganNow_1 : decode cX9_beganNow 1 = .ok (.getfield 37, 3) := by decide +kernel
theorem dX9_beganNow_4 : decode cX9_beganNow 4 = .ok (.iconst 1, 1) := by decide +kernel
theorem dX9_beganNow_5 : decode cX9_beganNow 5 = .ok (.iaload, 1) := by decide +kernel
theorem dX9_beganNow_6 : decode cX9_beganNow 6 = .ok (.istore_n 1, 1) := by decide +kernel
theorem dX9_beganNow_7 : decode cX9_beganNow 7 = .ok (.iconst 0, 1) := by decide +kernel
theorem dX9_beganNow_8 : decode cX9_beganNow 8 = .ok (.istore_n 2, 1) := by decide +kernel
theorem dX9_beganNow_9 : decode cX9_beganNow 9 = .ok (.iconst 0, 1) := by decide +kernel
theorem dX9_beganNow_10 : decode cX9_beganNow 10 = .ok (.istore_n 3, 1) := by decide +kernel
theorem dX9_beganNow_11 : decode cX9_beganNow 11 = .ok (.iload_n 3, 1) := by decide +kernel
theorem dX9_beganNow_12 : decode cX9_beganNow 12 = .ok (.aload_n 0, 1) := by decide +kernel
theorem dX9_beganNow_13 : decode cX9_beganNow 13 = .ok (.getfield 103, 3) := by decide +kernel
theorem dX9_beganNow_16 : decode cX9_beganNow 16 = .ok (.if_icmp .ge 33, 3) := by decide +kernel
theorem dX9_beganNow_19 : decode cX9_beganNow 19 = .ok (.aload_n 0, 1) := by decide +kernel
theorem dX9_beganNow_20 : decode cX9_beganNow 20 = .ok (.getfield 37, 3) := by decide +kernel
theorem dX9_beganNow_23 : decode cX9_beganNow 23 = .ok (.iconst 1, 1) := by decide +kernel
theorem dX9_beganNow_24 : decode cX9_beganNow 24 = .ok (.iload_n 3, 1) := by decide +kernel
theorem dX9_beganNow_25 : decode cX9_beganNow 25 = .ok (.iastore, 1) := by decide +kernel
theorem dX9_beganNow_26 : decode cX9_beganNow 26 = .ok (.iload_n 2, 1) := by decide +kernel
theorem dX9_beganNow_27 : decode cX9_beganNow 27 = .ok (.aload_n 0, 1) := by decide +kernel
theorem dX9_beganNow_28 : decode cX9_beganNow 28 = .ok (.invokevirtual 247, 3) := by decide +kernel
theorem dX9_beganNow_31 : decode cX9_beganNow 31 = .ok (.ifCond .eq 9, 3) := by decide +kernel
theorem dX9_beganNow_34 : decode cX9_beganNow 34 = .ok (.iconst 1, 1) := by decide +kernel
theorem dX9_beganNow_35 : decode cX9_beganNow 35 = .ok (.iload_n 3, 1) := by decide +kernel
theorem dX9_beganNow_36 : decode cX9_beganNow 36 = .ok (.ishl, 1) := by decide +kernel
theorem dX9_beganNow_37 : decode cX9_beganNow 37 = .ok (.goto 4, 3) := by decide +kernel
theorem dX9_beganNow_40 : decode cX9_beganNow 40 = .ok (.iconst 0, 1) := by decide +kernel
theorem dX9_beganNow_41 : decode cX9_beganNow 41 = .ok (.ior, 1) := by decide +kernel
theorem dX9_beganNow_42 : decode cX9_beganNow 42 = .ok (.istore_n 2, 1) := by decide +kernel
theorem dX9_beganNow_43 : decode cX9_beganNow 43 = .ok (.iinc 3 1, 3) := by decide +kernel
theorem dX9_beganNow_46 : decode cX9_beganNow 46 = .ok (.goto (-35), 3) := by decide +kernel
theorem dX9_beganNow_49 : decode cX9_beganNow 49 = .ok (.aload_n 0, 1) := by decide +kernel
theorem dX9_beganNow_50 : decode cX9_beganNow 50 = .ok (.getfield 37, 3) := by decide +kernel
theorem dX9_beganNow_53 : decode cX9_beganNow 53 = .ok (.iconst 1, 1) := by decide +kernel
theorem dX9_beganNow_54 : decode cX9_beganNow 54 = .ok (.iload_n 1, 1) := by decide +kernel
theorem dX9_beganNow_55 : decode cX9_beganNow 55 = .ok (.iastore, 1) := by decide +kernel
theorem dX9_beganNow_56 : decode cX9_beganNow 56 = .ok (.iload_n 2, 1) := by decide +kernel
theorem dX9_beganNow_57 : decode cX9_beganNow 57 = .ok (.ireturn, 1) := by decide +kernel
theorem dX9_began_0 : decode cX9_began 0 = .ok (.aload_n 0, 1) := by decide +kernel
theorem dX9_began_1 : decode cX9_began 1 = .ok (.invokevirtual 196, 3) := by decide +kernel
theorem dX9_began_4 : decode cX9_began 4 = .ok (.aload_n 0, 1) := by decide +kernel
theorem dX9_began_5 : decode cX9_began 5 = .ok (.invokevirtual 253, 3) := by decide +kernel
theorem dX9_began_8 : decode cX9_began 8 = .ok (.ireturn, 1) := by decide +kernel
theorem dX9_askNow_0 : decode cX9_askNow 0 = .ok (.aload_n 0, 1) := by decide +kernel
theorem dX9_askNow_1 : decode cX9_askNow 1 = .ok (.invokevirtual 253, 3) := by decide +kernel
theorem dX9_askNow_4 : decode cX9_askNow 4 = .ok (.istore_n 1, 1) := by decide +kernel
theorem dX9_askNow_5 : decode cX9_askNow 5 = .ok (.aload_n 0, 1) := by decide +kernel
theorem dX9_askNow_6 : decode cX9_askNow 6 = .ok (.getfield 37, 3) := by decide +kernel
theorem dX9_askNow_9 : decode cX9_askNow 9 = .ok (.iconst 1, 1) := by decide +kernel
theorem dX9_askNow_10 : decode cX9_askNow 10 = .ok (.iaload, 1) := by decide +kernel
theorem dX9_askNow_11 : decode cX9_askNow 11 = .ok (.istore_n 2, 1) := by decide +kernel
theorem dX9_askNow_12 : decode cX9_askNow 12 = .ok (.iconst 0, 1) := by decide +kernel
theorem dX9_askNow_13 : decode cX9_askNow 13 = .ok (.istore_n 3, 1) := by decide +kernel
theorem dX9_askNow_14 : decode cX9_askNow 14 = .ok (.iload_n 3, 1) := by decide +kernel
theorem dX9_askNow_15 : decode cX9_askNow 15 = .ok (.sipush 475, 3) := by decide +kernel
theorem dX9_askNow_18 : decode cX9_askNow 18 = .ok (.if_icmp .ge 16, 3) := by decide +kernel
theorem dX9_askNow_21 : decode cX9_askNow 21 = .ok (.aload_n 0, 1) := by decide +kernel
theorem dX9_askNow_22 : decode cX9_askNow 22 = .ok (.getfield 64, 3) := by decide +kernel
theorem dX9_askNow_25 : decode cX9_askNow 25 = .ok (.iload_n 3, 1) := by decide +kernel
theorem dX9_askNow_26 : decode cX9_askNow 26 = .ok (.iconst 0, 1) := by decide +kernel
theorem dX9_askNow_27 : decode cX9_askNow 27 = .ok (.iastore, 1) := by decide +kernel
theorem dX9_askNow_28 : decode cX9_askNow 28 = .ok (.iinc 3 1, 3) := by decide +kernel
theorem dX9_askNow_31 : decode cX9_askNow 31 = .ok (.goto (-17), 3) := by decide +kernel
theorem dX9_askNow_34 : decode cX9_askNow 34 = .ok (.iconst 0, 1) := by decide +kernel
theorem dX9_askNow_35 : decode cX9_askNow 35 = .ok (.istore_n 3, 1) := by decide +kernel
theorem dX9_askNow_36 : decode cX9_askNow 36 = .ok (.iload_n 3, 1) := by decide +kernel
theorem dX9_askNow_37 : decode cX9_askNow 37 = .ok (.aload_n 0, 1) := by decide +kernel
theorem dX9_askNow_38 : decode cX9_askNow 38 = .ok (.getfield 103, 3) := by decide +kernel
theorem dX9_askNow_41 : decode cX9_askNow 41 = .ok (.if_icmp .ge 68, 3) := by decide +kernel
theorem dX9_askNow_44 : decode cX9_askNow 44 = .ok (.iload_n 1, 1) := by decide +kernel
theorem dX9_askNow_45 : decode cX9_askNow 45 = .ok (.iload_n 3, 1) := by decide +kernel
theorem dX9_askNow_46 : decode cX9_askNow 46 = .ok (.invokestatic 184, 3) := by decide +kernel
theorem dX9_askNow_49 : decode cX9_askNow 49 = .ok (.ifCond .eq 54, 3) := by decide +kernel
theorem dX9_askNow_52 : decode cX9_askNow 52 = .ok (.aload_n 0, 1) := by decide +kernel
theorem dX9_askNow_53 : decode cX9_askNow 53 = .ok (.getfield 37, 3) := by decide +kernel
theorem dX9_askNow_56 : decode cX9_askNow 56 = .ok (.iconst 1, 1) := by decide +kernel
theorem dX9_askNow_57 : decode cX9_askNow 57 = .ok (.iload_n 3, 1) := by decide +kernel
theorem dX9_askNow_58 : decode cX9_askNow 58 = .ok (.iastore, 1) := by decide +kernel
theorem dX9_askNow_59 : decode cX9_askNow 59 = .ok (.aload_n 0, 1) := by decide +kernel
theorem dX9_askNow_60 : decode cX9_askNow 60 = .ok (.invokevirtual 193, 3) := by decide +kernel
theorem dX9_askNow_63 : decode cX9_askNow 63 = .ok (.iconst 0, 1) := by decide +kernel
theorem dX9_askNow_64 : decode cX9_askNow 64 = .ok (.istore 4, 2) := by decide +kernel
theorem dX9_askNow_66 : decode cX9_askNow 66 = .ok (.iload 4, 2) := by decide +kernel
theorem dX9_askNow_68 : decode cX9_askNow 68 = .ok (.aload_n 0, 1) := by decide +kernel
theorem dX9_askNow_69 : decode cX9_askNow 69 = .ok (.getfield 121, 3) := by decide +kernel
theorem dX9_askNow_72 : decode cX9_askNow 72 = .ok (.if_icmp .gt 31, 3) := by decide +kernel
theorem dX9_askNow_75 : decode cX9_askNow 75 = .ok (.aload_n 0, 1) := by decide +kernel
theorem dX9_askNow_76 : decode cX9_askNow 76 = .ok (.getfield 64, 3) := by decide +kernel
theorem dX9_askNow_79 : decode cX9_askNow 79 = .ok (.bipush 19, 2) := by decide +kernel
theorem dX9_askNow_81 : decode cX9_askNow 81 = .ok (.iload 4, 2) := by decide +kernel
theorem dX9_askNow_83 : decode cX9_askNow 83 = .ok (.imul, 1) := by decide +kernel
theorem dX9_askNow_84 : decode cX9_askNow 84 = .ok (.aload_n 0, 1) := by decide +kernel
theorem dX9_askNow_85 : decode cX9_askNow 85 = .ok (.getfield 43, 3) := by decide +kernel
theorem dX9_askNow_88 : decode cX9_askNow 88 = .ok (.iload 4, 2) := by decide +kernel
theorem dX9_askNow_90 : decode cX9_askNow 90 = .ok (.iaload, 1) := by decide +kernel
theorem dX9_askNow_91 : decode cX9_askNow 91 = .ok (.iadd, 1) := by decide +kernel
theorem dX9_askNow_92 : decode cX9_askNow 92 = .ok (.dup2, 1) := by decide +kernel
theorem dX9_askNow_93 : decode cX9_askNow 93 = .ok (.iaload, 1) := by decide +kernel
theorem dX9_askNow_94 : decode cX9_askNow 94 = .ok (.iconst 1, 1) := by decide +kernel
theorem dX9_askNow_95 : decode cX9_askNow 95 = .ok (.iadd, 1) := by decide +kernel
theorem dX9_askNow_96 : decode cX9_askNow 96 = .ok (.iastore, 1) := by decide +kernel
theorem dX9_askNow_97 : decode cX9_askNow 97 = .ok (.iinc 4 1, 3) := by decide +kernel
theorem dX9_askNow_100 : decode cX9_askNow 100 = .ok (.goto (-34), 3) := by decide +kernel
theorem dX9_askNow_103 : decode cX9_askNow 103 = .ok (.iinc 3 1, 3) := by decide +kernel
theorem dX9_askNow_106 : decode cX9_askNow 106 = .ok (.goto (-70), 3) := by decide +kernel
theorem dX9_askNow_109 : decode cX9_askNow 109 = .ok (.aload_n 0, 1) := by decide +kernel
theorem dX9_askNow_110 : decode cX9_askNow 110 = .ok (.getfield 37, 3) := by decide +kernel
theorem dX9_askNow_113 : decode cX9_askNow 113 = .ok (.iconst 1, 1) := by decide +kernel
theorem dX9_askNow_114 : decode cX9_askNow 114 = .ok (.iload_n 2, 1) := by decide +kernel
theorem dX9_askNow_115 : decode cX9_askNow 115 = .ok (.iastore, 1) := by decide +kernel
theorem dX9_askNow_116 : decode cX9_askNow 116 = .ok (.iconst (-1), 1) := by decide +kernel
theorem dX9_askNow_117 : decode cX9_askNow 117 = .ok (.istore_n 3, 1) := by decide +kernel
theorem dX9_askNow_118 : decode cX9_askNow 118 = .ok (.iconst 0, 1) := by decide +kernel
theorem dX9_askNow_119 : decode cX9_askNow 119 = .ok (.istore 4, 2) := by decide +kernel
theorem dX9_askNow_121 : decode cX9_askNow 121 = .ok (.iconst 0, 1) := by decide +kernel
theorem dX9_askNow_122 : decode cX9_askNow 122 = .ok (.istore 5, 2) := by decide +kernel
theorem dX9_askNow_124 : decode cX9_askNow 124 = .ok (.iload 5, 2) := by decide +kernel
theorem dX9_askNow_126 : decode cX9_askNow 126 = .ok (.aload_n 0, 1) := by decide +kernel
theorem dX9_askNow_127 : decode cX9_askNow 127 = .ok (.getfield 121, 3) := by decide +kernel
theorem dX9_askNow_130 : decode cX9_askNow 130 = .ok (.if_icmp .gt 93, 3) := by decide +kernel
theorem dX9_askNow_133 : decode cX9_askNow 133 = .ok (.iconst 0, 1) := by decide +kernel
theorem dX9_askNow_134 : decode cX9_askNow 134 = .ok (.istore 6, 2) := by decide +kernel
theorem dX9_askNow_136 : decode cX9_askNow 136 = .ok (.iconst 0, 1) := by decide +kernel
theorem dX9_askNow_137 : decode cX9_askNow 137 = .ok (.istore 7, 2) := by decide +kernel
theorem dX9_askNow_139 : decode cX9_askNow 139 = .ok (.iload 7, 2) := by decide +kernel
theorem dX9_askNow_141 : decode cX9_askNow 141 = .ok (.bipush 19, 2) := by decide +kernel
theorem dX9_askNow_143 : decode cX9_askNow 143 = .ok (.if_icmp .ge 29, 3) := by decide +kernel
theorem dX9_askNow_146 : decode cX9_askNow 146 = .ok (.aload_n 0, 1) := by decide +kernel
theorem dX9_askNow_147 : decode cX9_askNow 147 = .ok (.getfield 64, 3) := by decide +kernel
theorem dX9_askNow_150 : decode cX9_askNow 150 = .ok (.bipush 19, 2) := by decide +kernel
theorem dX9_askNow_152 : decode cX9_askNow 152 = .ok (.iload 5, 2) := by decide +kernel
theorem dX9_askNow_154 : decode cX9_askNow 154 = .ok (.imul, 1) := by decide +kernel
theorem dX9_askNow_155 : decode cX9_askNow 155 = .ok (.iload 7, 2) := by decide +kernel
theorem dX9_askNow_157 : decode cX9_askNow 157 = .ok (.iadd, 1) := by decide +kernel
theorem dX9_askNow_158 : decode cX9_askNow 158 = .ok (.iaload, 1) := by decide +kernel
theorem dX9_askNow_159 : decode cX9_askNow 159 = .ok (.iload 6, 2) := by decide +kernel
theorem dX9_askNow_161 : decode cX9_askNow 161 = .ok (.invokestatic 168, 3) := by decide +kernel
theorem dX9_askNow_164 : decode cX9_askNow 164 = .ok (.istore 6, 2) := by decide +kernel
theorem dX9_askNow_166 : decode cX9_askNow 166 = .ok (.iinc 7 1, 3) := by decide +kernel
theorem dX9_askNow_169 : decode cX9_askNow 169 = .ok (.goto (-30), 3) := by decide +kernel
theorem dX9_askNow_172 : decode cX9_askNow 172 = .ok (.iload_n 3, 1) := by decide +kernel
theorem dX9_askNow_173 : decode cX9_askNow 173 = .ok (.iconst (-1), 1) := by decide +kernel
theorem dX9_askNow_174 : decode cX9_askNow 174 = .ok (.if_icmp .eq 10, 3) := by decide +kernel
theorem dX9_askNow_177 : decode cX9_askNow 177 = .ok (.iload 6, 2) := by decide +kernel
theorem dX9_askNow_179 : decode cX9_askNow 179 = .ok (.iload 4, 2) := by decide +kernel
theorem dX9_askNow_181 : decode cX9_askNow 181 = .ok (.if_icmp .ge 7, 3) := by decide +kernel
theorem dX9_askNow_184 : decode cX9_askNow 184 = .ok (.iconst 1, 1) := by decide +kernel
theorem dX9_askNow_185 : decode cX9_askNow 185 = .ok (.goto 4, 3) := by decide +kernel
theorem dX9_askNow_188 : decode cX9_askNow 188 = .ok (.iconst 0, 1) := by decide +kernel
theorem dX9_askNow_189 : decode cX9_askNow 189 = .ok (.istore 7, 2) := by decide +kernel
theorem dX9_askNow_191 : decode cX9_askNow 191 = .ok (.iload 7, 2) := by decide +kernel
theorem dX9_askNow_193 : decode cX9_askNow 193 = .ok (.ifCond .eq 8, 3) := by decide +kernel
theorem dX9_askNow_196 : decode cX9_askNow 196 = .ok (.iload 5, 2) := by decide +kernel
theorem dX9_askNow_198 : decode cX9_askNow 198 = .ok (.goto 4, 3) := by decide +kernel
theorem dX9_askNow_201 : decode cX9_askNow 201 = .ok (.iload_n 3, 1) := by decide +kernel
theorem dX9_askNow_202 : decode cX9_askNow 202 = .ok (.istore_n 3, 1) := by decide +kernel
theorem dX9_askNow_203 : decode cX9_askNow 203 = .ok (.iload 7, 2) := by decide +kernel
theorem dX9_askNow_205 : decode cX9_askNow 205 = .ok (.ifCond .eq 8, 3) := by decide +kernel
theorem dX9_askNow_208 : decode cX9_askNow 208 = .ok (.iload 6, 2) := by decide +kernel
theorem dX9_askNow_210 : decode cX9_askNow 210 = .ok (.goto 5, 3) := by decide +kernel
theorem dX9_askNow_213 : decode cX9_askNow 213 = .ok (.iload 4, 2) := by decide +kernel
theorem dX9_askNow_215 : decode cX9_askNow 215 = .ok (.istore 4, 2) := by decide +kernel
theorem dX9_askNow_217 : decode cX9_askNow 217 = .ok (.iinc 5 1, 3) := by decide +kernel
theorem dX9_askNow_220 : decode cX9_askNow 220 = .ok (.goto (-96), 3) := by decide +kernel
theorem dX9_askNow_223 : decode cX9_askNow 223 = .ok (.iload_n 3, 1) := by decide +kernel
theorem dX9_askNow_224 : decode cX9_askNow 224 = .ok (.ireturn, 1) := by decide +kernel
theorem dX9_ask_0 : decode cX9_ask 0 = .ok (.aload_n 0, 1) := by decide +kernel
theorem dX9_ask_1 : decode cX9_ask 1 = .ok (.invokevirtual 196, 3) := by decide +kernel
theorem dX9_ask_4 : decode cX9_ask 4 = .ok (.aload_n 0, 1) := by decide +kernel
theorem dX9_ask_5 : decode cX9_ask 5 = .ok (.invokevirtual 256, 3) := by decide +kernel
theorem dX9_ask_8 : decode cX9_ask 8 = .ok (.ireturn, 1) := by decide +kernel
theorem dX9_maybeOf_0 : decode cX9_maybeOf 0 = .ok (.lconst 0, 1) := by decide +kernel
theorem dX9_maybeOf_1 : decode cX9_maybeOf 1 = .ok (.lstore 4, 2) := by decide +kernel
theorem dX9_maybeOf_3 : decode cX9_maybeOf 3 = .ok (.iconst 0, 1) := by decide +kernel
theorem dX9_maybeOf_4 : decode cX9_maybeOf 4 = .ok (.istore 6, 2) := by decide +kernel
theorem dX9_maybeOf_6 : decode cX9_maybeOf 6 = .ok (.iload 6, 2) := by decide +kernel
theorem dX9_maybeOf_8 : decode cX9_maybeOf 8 = .ok (.iconst 1, 1) := by decide +kernel
theorem dX9_maybeOf_9 : decode cX9_maybeOf 9 = .ok (.aload_n 0, 1) := by decide +kernel
theorem dX9_maybeOf_10 : decode cX9_maybeOf 10 = .ok (.getfield 121, 3) := by decide +kernel
theorem dX9_maybeOf_13 : decode cX9_maybeOf 13 = .ok (.ishl, 1) := by decide +kernel
theorem dX9_maybeOf_14 : decode cX9_maybeOf 14 = .ok (.if_icmp .ge 80, 3) := by decide +kernel
theorem dX9_maybeOf_17 : decode cX9_maybeOf 17 = .ok (.aload_n 0, 1) := by decide +kernel
theorem dX9_maybeOf_18 : decode cX9_maybeOf 18 = .ok (.iload 6, 2) := by decide +kernel
theorem dX9_maybeOf_20 : decode cX9_maybeOf 20 = .ok (.putfield 181, 3) := by decide +kernel
theorem dX9_maybeOf_23 : decode cX9_maybeOf 23 = .ok (.aload_n 0, 1) := by decide +kernel
theorem dX9_maybeOf_24 : decode cX9_maybeOf 24 = .ok (.invokevirtual 193, 3) := by decide +kernel
theorem dX9_maybeOf_27 : decode cX9_maybeOf 27 = .ok (.aload_n 0, 1) := by decide +kernel
theorem dX9_maybeOf_28 : decode cX9_maybeOf 28 = .ok (.getfield 155, 3) := by decide +kernel
theorem dX9_maybeOf_31 : decode cX9_maybeOf 31 = .ok (.iload_n 2, 1) := by decide +kernel
theorem dX9_maybeOf_32 : decode cX9_maybeOf 32 = .ok (.if_icmp .ne 56, 3) := by decide +kernel
theorem dX9_maybeOf_35 : decode cX9_maybeOf 35 = .ok (.lconst 1, 1) := by decide +kernel
theorem dX9_maybeOf_36 : decode cX9_maybeOf 36 = .ok (.lstore 7, 2) := by decide +kernel
theorem dX9_maybeOf_38 : decode cX9_maybeOf 38 = .ok (.iconst 0, 1) := by decide +kernel
theorem dX9_maybeOf_39 : decode cX9_maybeOf 39 = .ok (.istore 9, 2) := by decide +kernel
theorem dX9_maybeOf_41 : decode cX9_maybeOf 41 = .ok (.iload 9, 2) := by decide +kernel
theorem dX9_maybeOf_43 : decode cX9_maybeOf 43 = .ok (.aload_n 0, 1) := by decide +kernel
theorem dX9_maybeOf_44 : decode cX9_maybeOf 44 = .ok (.getfield 121, 3) := by decide +kernel
theorem dX9_maybeOf_47 : decode cX9_maybeOf 47 = .ok (.if_icmp .ge 34, 3) := by decide +kernel
theorem dX9_maybeOf_50 : decode cX9_maybeOf 50 = .ok (.lload 7, 2) := by decide +kernel
theorem dX9_maybeOf_52 : decode cX9_maybeOf 52 = .ok (.iload 6, 2) := by decide +kernel
theorem dX9_maybeOf_54 : decode cX9_maybeOf 54 = .ok (.iload 9, 2) := by decide +kernel
theorem dX9_maybeOf_56 : decode cX9_maybeOf 56 = .ok (.invokestatic 184, 3) := by decide +kernel
theorem dX9_maybeOf_59 : decode cX9_maybeOf 59 = .ok (.ifCond .eq 11, 3) := by decide +kernel
theorem dX9_maybeOf_62 : decode cX9_maybeOf 62 = .ok (.bipush 16, 2) := by decide +kernel
theorem dX9_maybeOf_64 : decode cX9_maybeOf 64 = .ok (.iload_n 1, 1) := by decide +kernel
theorem dX9_maybeOf_65 : decode cX9_maybeOf 65 = .ok (.isub, 1) := by decide +kernel
theorem dX9_maybeOf_66 : decode cX9_maybeOf 66 = .ok (.i2l, 1) := by decide +kernel
theorem dX9_maybeOf_67 : decode cX9_maybeOf 67 = .ok (.goto 5, 3) := by decide +kernel
theorem dX9_maybeOf_70 : decode cX9_maybeOf 70 = .ok (.iload_n 1, 1) := by decide +kernel
theorem dX9_maybeOf_71 : decode cX9_maybeOf 71 = .ok (.i2l, 1) := by decide +kernel
theorem dX9_maybeOf_72 : decode cX9_maybeOf 72 = .ok (.lmul, 1) := by decide +kernel
theorem dX9_maybeOf_73 : decode cX9_maybeOf 73 = .ok (.lstore 7, 2) := by decide +kernel
theorem dX9_maybeOf_75 : decode cX9_maybeOf 75 = .ok (.iinc 9 1, 3) := by decide +kernel
theorem dX9_maybeOf_78 : decode cX9_maybeOf 78 = .ok (.goto (-37), 3) := by decide +kernel
theorem dX9_maybeOf_81 : decode cX9_maybeOf 81 = .ok (.lload 4, 2) := by decide +kernel
theorem dX9_maybeOf_83 : decode cX9_maybeOf 83 = .ok (.lload 7, 2) := by decide +kernel
theorem dX9_maybeOf_85 : decode cX9_maybeOf 85 = .ok (.ladd, 1) := by decide +kernel
theorem dX9_maybeOf_86 : decode cX9_maybeOf 86 = .ok (.lstore 4, 2) := by decide +kernel
theorem dX9_maybeOf_88 : decode cX9_maybeOf 88 = .ok (.iinc 6 1, 3) := by decide +kernel
theorem dX9_maybeOf_91 : decode cX9_maybeOf 91 = .ok (.goto (-85), 3) := by decide +kernel
theorem dX9_maybeOf_94 : decode cX9_maybeOf 94 = .ok (.aload_n 0, 1) := by decide +kernel
theorem dX9_maybeOf_95 : decode cX9_maybeOf 95 = .ok (.iconst 0, 1) := by decide +kernel
theorem dX9_maybeOf_96 : decode cX9_maybeOf 96 = .ok (.putfield 181, 3) := by decide +kernel
theorem dX9_maybeOf_99 : decode cX9_maybeOf 99 = .ok (.lload 4, 2) := by decide +kernel
theorem dX9_maybeOf_101 : decode cX9_maybeOf 101 = .ok (.lconst 1, 1) := by decide +kernel
theorem dX9_maybeOf_102 : decode cX9_maybeOf 102 = .ok (.iconst 4, 1) := by decide +kernel
theorem dX9_maybeOf_103 : decode cX9_maybeOf 103 = .ok (.aload_n 0, 1) := by decide +kernel
theorem dX9_maybeOf_104 : decode cX9_maybeOf 104 = .ok (.getfield 121, 3) := by decide +kernel
theorem dX9_maybeOf_107 : decode cX9_maybeOf 107 = .ok (.imul, 1) := by decide +kernel
theorem dX9_maybeOf_108 : decode cX9_maybeOf 108 = .ok (.lshl, 1) := by decide +kernel
theorem dX9_maybeOf_109 : decode cX9_maybeOf 109 = .ok (.iload_n 3, 1) := by decide +kernel
theorem dX9_maybeOf_110 : decode cX9_maybeOf 110 = .ok (.invokestatic 259, 3) := by decide +kernel
theorem dX9_maybeOf_113 : decode cX9_maybeOf 113 = .ok (.lreturn, 1) := by decide +kernel
theorem dX9_maybe_0 : decode cX9_maybe 0 = .ok (.aload_n 0, 1) := by decide +kernel
theorem dX9_maybe_1 : decode cX9_maybe 1 = .ok (.invokevirtual 196, 3) := by decide +kernel
theorem dX9_maybe_4 : decode cX9_maybe 4 = .ok (.iload_n 1, 1) := by decide +kernel
theorem dX9_maybe_5 : decode cX9_maybe 5 = .ok (.i2l, 1) := by decide +kernel
theorem dX9_maybe_6 : decode cX9_maybe 6 = .ok (.lconst 0, 1) := by decide +kernel
theorem dX9_maybe_7 : decode cX9_maybe 7 = .ok (.ldc2_w 263, 3) := by decide +kernel
theorem dX9_maybe_10 : decode cX9_maybe 10 = .ok (.invokestatic 69, 3) := by decide +kernel
theorem dX9_maybe_13 : decode cX9_maybe 13 = .ok (.ifCond .eq 45, 3) := by decide +kernel
theorem dX9_maybe_16 : decode cX9_maybe 16 = .ok (.iload_n 2, 1) := by decide +kernel
theorem dX9_maybe_17 : decode cX9_maybe 17 = .ok (.i2l, 1) := by decide +kernel
theorem dX9_maybe_18 : decode cX9_maybe 18 = .ok (.lconst 0, 1) := by decide +kernel
theorem dX9_maybe_19 : decode cX9_maybe 19 = .ok (.aload_n 0, 1) := by decide +kernel
theorem dX9_maybe_20 : decode cX9_maybe 20 = .ok (.getfield 103, 3) := by decide +kernel
theorem dX9_maybe_23 : decode cX9_maybe 23 = .ok (.iconst 1, 1) := by decide +kernel
theorem dX9_maybe_24 : decode cX9_maybe 24 = .ok (.isub, 1) := by decide +kernel
theorem dX9_maybe_25 : decode cX9_maybe 25 = .ok (.i2l, 1) := by decide +kernel
theorem dX9_maybe_26 : decode cX9_maybe 26 = .ok (.invokestatic 69, 3) := by decide +kernel
theorem dX9_maybe_29 : decode cX9_maybe 29 = .ok (.ifCond .eq 29, 3) := by decide +kernel
theorem dX9_maybe_32 : decode cX9_maybe 32 = .ok (.iload_n 3, 1) := by decide +kernel
theorem dX9_maybe_33 : decode cX9_maybe 33 = .ok (.invokestatic 148, 3) := by decide +kernel
theorem dX9_maybe_36 : decode cX9_maybe 36 = .ok (.ifCond .eq 22, 3) := by decide +kernel
theorem dX9_maybe_39 : decode cX9_maybe 39 = .ok (.aload_n 0, 1) := by decide +kernel
theorem dX9_maybe_40 : decode cX9_maybe 40 = .ok (.getfield 121, 3) := by decide +kernel
theorem dX9_maybe_43 : decode cX9_maybe 43 = .ok (.bipush 10, 2) := by decide +kernel
theorem dX9_maybe_45 : decode cX9_maybe 45 = .ok (.if_icmp .gt 13, 3) := by decide +kernel
theorem dX9_maybe_48 : decode cX9_maybe 48 = .ok (.aload_n 0, 1) := by decide +kernel
theorem dX9_maybe_49 : decode cX9_maybe 49 = .ok (.iload_n 1, 1) := by decide +kernel
theorem dX9_maybe_50 : decode cX9_maybe 50 = .ok (.iload_n 2, 1) := by decide +kernel
theorem dX9_maybe_51 : decode cX9_maybe 51 = .ok (.iload_n 3, 1) := by decide +kernel
theorem dX9_maybe_52 : decode cX9_maybe 52 = .ok (.invokevirtual 265, 3) := by decide +kernel
theorem dX9_maybe_55 : decode cX9_maybe 55 = .ok (.goto 8, 3) := by decide +kernel
theorem dX9_maybe_58 : decode cX9_maybe 58 = .ok (.bipush (-2), 2) := by decide +kernel
theorem dX9_maybe_60 : decode cX9_maybe 60 = .ok (.invokestatic 269, 3) := by decide +kernel
theorem dX9_maybe_63 : decode cX9_maybe 63 = .ok (.lreturn, 1) := by decide +kernel
theorem dX9_lot_0 : decode cX9_lot 0 = .ok (.aload_n 0, 1) := by decide +kernel
theorem dX9_lot_1 : decode cX9_lot 1 = .ok (.ldc_w 273, 3) := by decide +kernel
theorem dX9_lot_4 : decode cX9_lot 4 = .ok (.aload_n 0, 1) := by decide +kernel
theorem dX9_lot_5 : decode cX9_lot 5 = .ok (.getfield 274, 3) := by decide +kernel
theorem dX9_lot_8 : decode cX9_lot 8 = .ok (.imul, 1) := by decide +kernel
theorem dX9_lot_9 : decode cX9_lot 9 = .ok (.sipush 12345, 3) := by decide +kernel
theorem dX9_lot_12 : decode cX9_lot 12 = .ok (.iadd, 1) := by decide +kernel
theorem dX9_lot_13 : decode cX9_lot 13 = .ok (.putfield 274, 3) := by decide +kernel
theorem dX9_lot_16 : decode cX9_lot 16 = .ok (.aload_n 0, 1) := by decide +kernel
theorem dX9_lot_17 : decode cX9_lot 17 = .ok (.getfield 274, 3) := by decide +kernel
theorem dX9_lot_20 : decode cX9_lot 20 = .ok (.bipush 16, 2) := by decide +kernel
theorem dX9_lot_22 : decode cX9_lot 22 = .ok (.iushr, 1) := by decide +kernel
theorem dX9_lot_23 : decode cX9_lot 23 = .ok (.iload_n 1, 1) := by decide +kernel
theorem dX9_lot_24 : decode cX9_lot 24 = .ok (.irem, 1) := by decide +kernel
theorem dX9_lot_25 : decode cX9_lot 25 = .ok (.ireturn, 1) := by decide +kernel
theorem dX9_weekOf_0 : decode cX9_weekOf 0 = .ok (.aload_n 0, 1) := by decide +kernel
theorem dX9_weekOf_1 : decode cX9_weekOf 1 = .ok (.invokevirtual 193, 3) := by decide +kernel
theorem dX9_weekOf_4 : decode cX9_weekOf 4 = .ok (.aload_n 0, 1) := by decide +kernel
theorem dX9_weekOf_5 : decode cX9_weekOf 5 = .ok (.iload_n 1, 1) := by decide +kernel
theorem dX9_weekOf_6 : decode cX9_weekOf 6 = .ok (.putfield 274, 3) := by decide +kernel
theorem dX9_weekOf_9 : decode cX9_weekOf 9 = .ok (.iconst 0, 1) := by decide +kernel
theorem dX9_weekOf_10 : decode cX9_weekOf 10 = .ok (.istore 4, 2) := by decide +kernel
theorem dX9_weekOf_12 : decode cX9_weekOf 12 = .ok (.iconst 0, 1) := by decide +kernel
theorem dX9_weekOf_13 : decode cX9_weekOf 13 = .ok (.istore 5, 2) := by decide +kernel
theorem dX9_weekOf_15 : decode cX9_weekOf 15 = .ok (.iload 5, 2) := by decide +kernel
theorem dX9_weekOf_17 : decode cX9_weekOf 17 = .ok (.iload_n 2, 1) := by decide +kernel
theorem dX9_weekOf_18 : decode cX9_weekOf 18 = .ok (.if_icmp .ge 42, 3) := by decide +kernel
theorem dX9_weekOf_21 : decode cX9_weekOf 21 = .ok (.aload_n 0, 1) := by decide +kernel
theorem dX9_weekOf_22 : decode cX9_weekOf 22 = .ok (.getfield 115, 3) := by decide +kernel
theorem dX9_weekOf_25 : decode cX9_weekOf 25 = .ok (.ifCond .le 35, 3) := by decide +kernel
theorem dX9_weekOf_28 : decode cX9_weekOf 28 = .ok (.iload 4, 2) := by decide +kernel
theorem dX9_weekOf_30 : decode cX9_weekOf 30 = .ok (.aload_n 0, 1) := by decide +kernel
theorem dX9_weekOf_31 : decode cX9_weekOf 31 = .ok (.aload_n 0, 1) := by decide +kernel
theorem dX9_weekOf_32 : decode cX9_weekOf 32 = .ok (.aload_n 0, 1) := by decide +kernel
theorem dX9_weekOf_33 : decode cX9_weekOf 33 = .ok (.getfield 115, 3) := by decide +kernel
theorem dX9_weekOf_36 : decode cX9_weekOf 36 = .ok (.invokevirtual 277, 3) := by decide +kernel
theorem dX9_weekOf_39 : decode cX9_weekOf 39 = .ok (.invokevirtual 187, 3) := by decide +kernel
theorem dX9_weekOf_42 : decode cX9_weekOf 42 = .ok (.iconst 1, 1) := by decide +kernel
theorem dX9_weekOf_43 : decode cX9_weekOf 43 = .ok (.if_icmp .ne 7, 3) := by decide +kernel
theorem dX9_weekOf_46 : decode cX9_weekOf 46 = .ok (.iconst 1, 1) := by decide +kernel
theorem dX9_weekOf_47 : decode cX9_weekOf 47 = .ok (.goto 4, 3) := by decide +kernel
theorem dX9_weekOf_50 : decode cX9_weekOf 50 = .ok (.iconst 0, 1) := by decide +kernel
theorem dX9_weekOf_51 : decode cX9_weekOf 51 = .ok (.iadd, 1) := by decide +kernel
theorem dX9_weekOf_52 : decode cX9_weekOf 52 = .ok (.istore 4, 2) := by decide +kernel
theorem dX9_weekOf_54 : decode cX9_weekOf 54 = .ok (.iinc 5 1, 3) := by decide +kernel
theorem dX9_weekOf_57 : decode cX9_weekOf 57 = .ok (.goto (-42), 3) := by decide +kernel
theorem dX9_weekOf_60 : decode cX9_weekOf 60 = .ok (.iload_n 3, 1) := by decide +kernel
theorem dX9_weekOf_61 : decode cX9_weekOf 61 = .ok (.ifCond .ne 10, 3) := by decide +kernel
theorem dX9_weekOf_64 : decode cX9_weekOf 64 = .ok (.aload_n 0, 1) := by decide +kernel
theorem dX9_weekOf_65 : decode cX9_weekOf 65 = .ok (.getfield 155, 3) := by decide +kernel
theorem dX9_weekOf_68 : decode cX9_weekOf 68 = .ok (.goto 5, 3) := by decide +kernel
theorem dX9_weekOf_71 : decode cX9_weekOf 71 = .ok (.iload 4, 2) := by decide +kernel
theorem dX9_weekOf_73 : decode cX9_weekOf 73 = .ok (.ireturn, 1) := by decide +kernel
theorem dX9_week_0 : decode cX9_week 0 = .ok (.aload_n 0, 1) := by decide +kernel
theorem dX9_week_1 : decode cX9_week 1 = .ok (.invokevirtual 196, 3) := by decide +kernel
theorem dX9_week_4 : decode cX9_week 4 = .ok (.iload_n 2, 1) := by decide +kernel
theorem dX9_week_5 : decode cX9_week 5 = .ok (.i2l, 1) := by decide +kernel
theorem dX9_week_6 : decode cX9_week 6 = .ok (.lconst 1, 1) := by decide +kernel
theorem dX9_week_7 : decode cX9_week 7 = .ok (.ldc2_w 280, 3) := by decide +kernel
theorem dX9_week_10 : decode cX9_week 10 = .ok (.invokestatic 69, 3) := by decide +kernel
theorem dX9_week_13 : decode cX9_week 13 = .ok (.ifCond .eq 20, 3) := by decide +kernel
theorem dX9_week_16 : decode cX9_week 16 = .ok (.iload_n 3, 1) := by decide +kernel
theorem dX9_week_17 : decode cX9_week 17 = .ok (.invokestatic 148, 3) := by decide +kernel
theorem dX9_week_20 : decode cX9_week 20 = .ok (.ifCond .eq 13, 3) := by decide +kernel
theorem dX9_week_23 : decode cX9_week 23 = .ok (.aload_n 0, 1) := by decide +kernel
theorem dX9_week_24 : decode cX9_week 24 = .ok (.iload_n 1, 1) := by decide +kernel
theorem dX9_week_25 : decode cX9_week 25 = .ok (.iload_n 2, 1) := by decide +kernel
theorem dX9_week_26 : decode cX9_week 26 = .ok (.iload_n 3, 1) := by decide +kernel
theorem dX9_week_27 : decode cX9_week 27 = .ok (.invokevirtual 282, 3) := by decide +kernel
theorem dX9_week_30 : decode cX9_week 30 = .ok (.goto 5, 3) := by decide +kernel
theorem dX9_week_33 : decode cX9_week 33 = .ok (.bipush (-2), 2) := by decide +kernel
theorem dX9_week_35 : decode cX9_week 35 = .ok (.ireturn, 1) := by decide +kernel
theorem dX9_write_0 : decode cX9_write 0 = .ok (.iload_n 1, 1) := by decide +kernel
theorem dX9_write_1 : decode cX9_write 1 = .ok (.invokestatic 79, 3) := by decide +kernel
theorem dX9_write_4 : decode cX9_write 4 = .ok (.ifCond .ne 6, 3) := by decide +kernel
theorem dX9_write_7 : decode cX9_write 7 = .ok (.bipush (-2), 2) := by decide +kernel
theorem dX9_write_9 : decode cX9_write 9 = .ok (.ireturn, 1) := by decide +kernel
theorem dX9_write_10 : decode cX9_write 10 = .ok (.aload_n 0, 1) := by decide +kernel
theorem dX9_write_11 : decode cX9_write 11 = .ok (.getfield 7, 3) := by decide +kernel
theorem dX9_write_14 : decode cX9_write 14 = .ok (.iload_n 1, 1) := by decide +kernel
theorem dX9_write_15 : decode cX9_write 15 = .ok (.iaload, 1) := by decide +kernel
theorem dX9_write_16 : decode cX9_write 16 = .ok (.ifCond .ge 9, 3) := by decide +kernel
theorem dX9_write_19 : decode cX9_write 19 = .ok (.aload_n 0, 1) := by decide +kernel
theorem dX9_write_20 : decode cX9_write 20 = .ok (.iconst 1, 1) := by decide +kernel
theorem dX9_write_21 : decode cX9_write 21 = .ok (.invokevirtual 85, 3) := by decide +kernel
theorem dX9_write_24 : decode cX9_write 24 = .ok (.ireturn, 1) := by decide +kernel
theorem dX9_write_25 : decode cX9_write 25 = .ok (.aload_n 0, 1) := by decide +kernel
theorem dX9_write_26 : decode cX9_write 26 = .ok (.invokevirtual 196, 3) := by decide +kernel
theorem dX9_write_29 : decode cX9_write 29 = .ok (.aload_n 0, 1) := by decide +kernel
theorem dX9_write_30 : decode cX9_write 30 = .ok (.getfield 13, 3) := by decide +kernel
theorem dX9_write_33 : decode cX9_write 33 = .ok (.iload_n 1, 1) := by decide +kernel
theorem dX9_write_34 : decode cX9_write 34 = .ok (.iaload, 1) := by decide +kernel
theorem dX9_write_35 : decode cX9_write 35 = .ok (.aload_n 0, 1) := by decide +kernel
theorem dX9_write_36 : decode cX9_write 36 = .ok (.getfield 121, 3) := by decide +kernel
theorem dX9_write_39 : decode cX9_write 39 = .ok (.iconst 1, 1) := by decide +kernel
theorem dX9_write_40 : decode cX9_write 40 = .ok (.iadd, 1) := by decide +kernel
theorem dX9_write_41 : decode cX9_write 41 = .ok (.invokestatic 285, 3) := by decide +kernel
theorem dX9_write_44 : decode cX9_write 44 = .ok (.istore_n 2, 1) := by decide +kernel
theorem dX9_write_45 : decode cX9_write 45 = .ok (.iconst 0, 1) := by decide +kernel
theorem dX9_write_46 : decode cX9_write 46 = .ok (.istore_n 3, 1) := by decide +kernel
theorem dX9_write_47 : decode cX9_write 47 = .ok (.iload_n 3, 1) := by decide +kernel
theorem dX9_write_48 : decode cX9_write 48 = .ok (.iload_n 2, 1) := by decide +kernel
theorem dX9_write_49 : decode cX9_write 49 = .ok (.if_icmp .ge 35, 3) := by decide +kernel
theorem dX9_write_52 : decode cX9_write 52 = .ok (.aload_n 0, 1) := by decide +kernel
theorem dX9_write_53 : decode cX9_write 53 = .ok (.getfield 16, 3) := by decide +kernel
theorem dX9_write_56 : decode cX9_write 56 = .ok (.bipush 60, 2) := by decide +kernel
theorem dX9_write_58 : decode cX9_write 58 = .ok (.iload_n 1, 1) := by decide +kernel
theorem dX9_write_59 : decode cX9_write 59 = .ok (.imul, 1) := by decide +kernel
theorem dX9_write_60 : decode cX9_write 60 = .ok (.iload_n 3, 1) := by decide +kernel
theorem dX9_write_61 : decode cX9_write 61 = .ok (.iadd, 1) := by decide +kernel
theorem dX9_write_62 : decode cX9_write 62 = .ok (.aload_n 0, 1) := by decide +kernel
theorem dX9_write_63 : decode cX9_write 63 = .ok (.getfield 7, 3) := by decide +kernel
theorem dX9_write_66 : decode cX9_write 66 = .ok (.iload_n 1, 1) := by decide +kernel
theorem dX9_write_67 : decode cX9_write 67 = .ok (.iaload, 1) := by decide +kernel
theorem dX9_write_68 : decode cX9_write 68 = .ok (.aload_n 0, 1) := by decide +kernel
theorem dX9_write_69 : decode cX9_write 69 = .ok (.getfield 43, 3) := by decide +kernel
theorem dX9_write_72 : decode cX9_write 72 = .ok (.iload_n 3, 1) := by decide +kernel
theorem dX9_write_73 : decode cX9_write 73 = .ok (.iaload, 1) := by decide +kernel
theorem dX9_write_74 : decode cX9_write 74 = .ok (.invokestatic 93, 3) := by decide +kernel
theorem dX9_write_77 : decode cX9_write 77 = .ok (.iastore, 1) := by decide +kernel
theorem dX9_write_78 : decode cX9_write 78 = .ok (.iinc 3 1, 3) := by decide +kernel
theorem dX9_write_81 : decode cX9_write 81 = .ok (.goto (-34), 3) := by decide +kernel
theorem dX9_write_84 : decode cX9_write 84 = .ok (.iload_n 2, 1) := by decide +kernel
theorem dX9_write_85 : decode cX9_write 85 = .ok (.ireturn, 1) := by decide +kernel
theorem dX9_count_0 : decode cX9_count 0 = .ok (.aload_n 0, 1) := by decide +kernel
theorem dX9_count_1 : decode cX9_count 1 = .ok (.invokevirtual 196, 3) := by decide +kernel
theorem dX9_count_4 : decode cX9_count 4 = .ok (.iload_n 1, 1) := by decide +kernel
theorem dX9_count_5 : decode cX9_count 5 = .ok (.tableswitch 94 0 8 #[51, 56, 61, 66, 66, 66, 75, 84, 89], 51) := by decide +kernel
theorem dX9_count_56 : decode cX9_count 56 = .ok (.aload_n 0, 1) := by decide +kernel
theorem dX9_count_57 : decode cX9_count 57 = .ok (.getfield 103, 3) := by decide +kernel
theorem dX9_count_60 : decode cX9_count 60 = .ok (.ireturn, 1) := by decide +kernel
theorem dX9_count_61 : decode cX9_count 61 = .ok (.aload_n 0, 1) := by decide +kernel
theorem dX9_count_62 : decode cX9_count 62 = .ok (.getfield 115, 3) := by decide +kernel
theorem dX9_count_65 : decode cX9_count 65 = .ok (.ireturn, 1) := by decide +kernel
theorem dX9_count_66 : decode cX9_count 66 = .ok (.aload_n 0, 1) := by decide +kernel
theorem dX9_count_67 : decode cX9_count 67 = .ok (.getfield 121, 3) := by decide +kernel
theorem dX9_count_70 : decode cX9_count 70 = .ok (.ireturn, 1) := by decide +kernel
theorem dX9_count_71 : decode cX9_count 71 = .ok (.aload_n 0, 1) := by decide +kernel
theorem dX9_count_72 : decode cX9_count 72 = .ok (.getfield 25, 3) := by decide +kernel
theorem dX9_count_75 : decode cX9_count 75 = .ok (.iload_n 1, 1) := by decide +kernel
theorem dX9_count_76 : decode cX9_count 76 = .ok (.iconst 3, 1) := by decide +kernel
theorem dX9_count_77 : decode cX9_count 77 = .ok (.isub, 1) := by decide +kernel
theorem dX9_count_78 : decode cX9_count 78 = .ok (.iaload, 1) := by decide +kernel
theorem dX9_count_79 : decode cX9_count 79 = .ok (.ireturn, 1) := by decide +kernel
theorem dX9_count_80 : decode cX9_count 80 = .ok (.aload_n 0, 1) := by decide +kernel
theorem dX9_count_81 : decode cX9_count 81 = .ok (.aload_n 0, 1) := by decide +kernel
theorem dX9_count_82 : decode cX9_count 82 = .ok (.getfield 121, 3) := by decide +kernel
theorem dX9_count_85 : decode cX9_count 85 = .ok (.invokevirtual 205, 3) := by decide +kernel
theorem dX9_count_88 : decode cX9_count 88 = .ok (.ireturn, 1) := by decide +kernel
theorem dX9_count_89 : decode cX9_count 89 = .ok (.aload_n 0, 1) := by decide +kernel
theorem dX9_count_90 : decode cX9_count 90 = .ok (.getfield 241, 3) := by decide +kernel
theorem dX9_count_93 : decode cX9_count 93 = .ok (.ireturn, 1) := by decide +kernel
theorem dX9_count_94 : decode cX9_count 94 = .ok (.aload_n 0, 1) := by decide +kernel
theorem dX9_count_95 : decode cX9_count 95 = .ok (.getfield 73, 3) := by decide +kernel
theorem dX9_count_98 : decode cX9_count 98 = .ok (.ireturn, 1) := by decide +kernel
theorem dX9_count_99 : decode cX9_count 99 = .ok (.bipush (-2), 2) := by decide +kernel
theorem dX9_count_101 : decode cX9_count 101 = .ok (.ireturn, 1) := by decide +kernel
theorem dX9_tellsCrosser_0 : decode cX9_tellsCrosser 0 = .ok (.aload_n 0, 1) := by decide +kernel
theorem dX9_tellsCrosser_1 : decode cX9_tellsCrosser 1 = .ok (.invokevirtual 193, 3) := by decide +kernel
theorem dX9_tellsCrosser_4 : decode cX9_tellsCrosser 4 = .ok (.lload_n 1, 1) := by decide +kernel
theorem dX9_tellsCrosser_5 : decode cX9_tellsCrosser 5 = .ok (.lstore 4, 2) := by decide +kernel
theorem dX9_tellsCrosser_7 : decode cX9_tellsCrosser 7 = .ok (.iconst 0, 1) := by decide +kernel
theorem dX9_tellsCrosser_8 : decode cX9_tellsCrosser 8 = .ok (.istore 6, 2) := by decide +kernel
theorem dX9_tellsCrosser_10 : decode cX9_tellsCrosser 10 = .ok (.iload 6, 2) := by decide +kernel
theorem dX9_tellsCrosser_12 : decode cX9_tellsCrosser 12 = .ok (.iconst 4, 1) := by decide +kernel
theorem dX9_tellsCrosser_13 : decode cX9_tellsCrosser 13 = .ok (.if_icmp .ge 30, 3) := by decide +kernel
theorem dX9_tellsCrosser_16 : decode cX9_tellsCrosser 16 = .ok (.ldc2_w 288, 3) := by decide +kernel
theorem dX9_tellsCrosser_19 : decode cX9_tellsCrosser 19 = .ok (.lload 4, 2) := by decide +kernel
theorem dX9_tellsCrosser_21 : decode cX9_tellsCrosser 21 = .ok (.lmul, 1) := by decide +kernel
theorem dX9_tellsCrosser_22 : decode cX9_tellsCrosser 22 = .ok (.aload_n 0, 1) := by decide +kernel
theorem dX9_tellsCrosser_23 : decode cX9_tellsCrosser 23 = .ok (.getfield 31, 3) := by decide +kernel
theorem dX9_tellsCrosser_26 : decode cX9_tellsCrosser 26 = .ok (.iconst 4, 1) := by decide +kernel
theorem dX9_tellsCrosser_27 : decode cX9_tellsCrosser 27 = .ok (.iload_n 3, 1) := by decide +kernel
theorem dX9_tellsCrosser_28 : decode cX9_tellsCrosser 28 = .ok (.imul, 1) := by decide +kernel
theorem dX9_tellsCrosser_29 : decode cX9_tellsCrosser 29 = .ok (.iload 6, 2) := by decide +kernel
theorem dX9_tellsCrosser_31 : decode cX9_tellsCrosser 31 = .ok (.iadd, 1) := by decide +kernel
theorem dX9_tellsCrosser_32 : decode cX9_tellsCrosser 32 = .ok (.iaload, 1) := by decide +kernel
theorem dX9_tellsCrosser_33 : decode cX9_tellsCrosser 33 = .ok (.i2l, 1) := by decide +kernel
theorem dX9_tellsCrosser_34 : decode cX9_tellsCrosser 34 = .ok (.ladd, 1) := by decide +kernel
theorem dX9_tellsCrosser_35 : decode cX9_tellsCrosser 35 = .ok (.lstore 4, 2) := by decide +kernel
theorem dX9_tellsCrosser_37 : decode cX9_tellsCrosser 37 = .ok (.iinc 6 1, 3) := by decide +kernel
theorem dX9_tellsCrosser_40 : decode cX9_tellsCrosser 40 = .ok (.goto (-30), 3) := by decide +kernel
theorem dX9_tellsCrosser_43 : decode cX9_tellsCrosser 43 = .ok (.ldc2_w 288, 3) := by decide +kernel
theorem dX9_tellsCrosser_46 : decode cX9_tellsCrosser 46 = .ok (.lload 4, 2) := by decide +kernel
theorem dX9_tellsCrosser_48 : decode cX9_tellsCrosser 48 = .ok (.lmul, 1) := by decide +kernel
theorem dX9_tellsCrosser_49 : decode cX9_tellsCrosser 49 = .ok (.aload_n 0, 1) := by decide +kernel
theorem dX9_tellsCrosser_50 : decode cX9_tellsCrosser 50 = .ok (.iload_n 3, 1) := by decide +kernel
theorem dX9_tellsCrosser_51 : decode cX9_tellsCrosser 51 = .ok (.iconst 0, 1) := by decide +kernel
theorem dX9_tellsCrosser_52 : decode cX9_tellsCrosser 52 = .ok (.invokevirtual 202, 3) := by decide +kernel
theorem dX9_tellsCrosser_55 : decode cX9_tellsCrosser 55 = .ok (.i2l, 1) := by decide +kernel
theorem dX9_tellsCrosser_56 : decode cX9_tellsCrosser 56 = .ok (.ladd, 1) := by decide +kernel
theorem dX9_tellsCrosser_57 : decode cX9_tellsCrosser 57 = .ok (.lstore 4, 2) := by decide +kernel
theorem dX9_tellsCrosser_59 : decode cX9_tellsCrosser 59 = .ok (.ldc2_w 288, 3) := by decide +kernel
theorem dX9_tellsCrosser_62 : decode cX9_tellsCrosser 62 = .ok (.lload 4, 2) := by decide +kernel
theorem dX9_tellsCrosser_64 : decode cX9_tellsCrosser 64 = .ok (.lmul, 1) := by decide +kernel
theorem dX9_tellsCrosser_65 : decode cX9_tellsCrosser 65 = .ok (.aload_n 0, 1) := by decide +kernel
theorem dX9_tellsCrosser_66 : decode cX9_tellsCrosser 66 = .ok (.iload_n 3, 1) := by decide +kernel
theorem dX9_tellsCrosser_67 : decode cX9_tellsCrosser 67 = .ok (.iconst 1, 1) := by decide +kernel
theorem dX9_tellsCrosser_68 : decode cX9_tellsCrosser 68 = .ok (.invokevirtual 202, 3) := by decide +kernel
theorem dX9_tellsCrosser_71 : decode cX9_tellsCrosser 71 = .ok (.i2l, 1) := by decide +kernel
theorem dX9_tellsCrosser_72 : decode cX9_tellsCrosser 72 = .ok (.ladd, 1) := by decide +kernel
theorem dX9_tellsCrosser_73 : decode cX9_tellsCrosser 73 = .ok (.lstore 4, 2) := by decide +kernel
theorem dX9_tellsCrosser_75 : decode cX9_tellsCrosser 75 = .ok (.ldc2_w 288, 3) := by decide +kernel
theorem dX9_tellsCrosser_78 : decode cX9_tellsCrosser 78 = .ok (.lload 4, 2) := by decide +kernel
theorem dX9_tellsCrosser_80 : decode cX9_tellsCrosser 80 = .ok (.lmul, 1) := by decide +kernel
theorem dX9_tellsCrosser_81 : decode cX9_tellsCrosser 81 = .ok (.aload_n 0, 1) := by decide +kernel
theorem dX9_tellsCrosser_82 : decode cX9_tellsCrosser 82 = .ok (.iload_n 3, 1) := by decide +kernel
theorem dX9_tellsCrosser_83 : decode cX9_tellsCrosser 83 = .ok (.invokevirtual 233, 3) := by decide +kernel
theorem dX9_tellsCrosser_86 : decode cX9_tellsCrosser 86 = .ok (.i2l, 1) := by decide +kernel
theorem dX9_tellsCrosser_87 : decode cX9_tellsCrosser 87 = .ok (.ladd, 1) := by decide +kernel
theorem dX9_tellsCrosser_88 : decode cX9_tellsCrosser 88 = .ok (.lstore 4, 2) := by decide +kernel
theorem dX9_tellsCrosser_90 : decode cX9_tellsCrosser 90 = .ok (.ldc2_w 288, 3) := by decide +kernel
theorem dX9_tellsCrosser_93 : decode cX9_tellsCrosser 93 = .ok (.lload 4, 2) := by decide +kernel
theorem dX9_tellsCrosser_95 : decode cX9_tellsCrosser 95 = .ok (.lmul, 1) := by decide +kernel
theorem dX9_tellsCrosser_96 : decode cX9_tellsCrosser 96 = .ok (.aload_n 0, 1) := by decide +kernel
theorem dX9_tellsCrosser_97 : decode cX9_tellsCrosser 97 = .ok (.iload_n 3, 1) := by decide +kernel
theorem dX9_tellsCrosser_98 : decode cX9_tellsCrosser 98 = .ok (.iconst 0, 1) := by decide +kernel
theorem dX9_tellsCrosser_99 : decode cX9_tellsCrosser 99 = .ok (.invokevirtual 290, 3) := by decide +kernel
theorem dX9_tellsCrosser_102 : decode cX9_tellsCrosser 102 = .ok (.i2l, 1) := by decide +kernel
theorem dX9_tellsCrosser_103 : decode cX9_tellsCrosser 103 = .ok (.ladd, 1) := by decide +kernel
theorem dX9_tellsCrosser_104 : decode cX9_tellsCrosser 104 = .ok (.lreturn, 1) := by decide +kernel
theorem dX9_digest_0 : decode cX9_digest 0 = .ok (.ldc2_w 293, 3) := by decide +kernel
theorem dX9_digest_3 : decode cX9_digest 3 = .ok (.lstore_n 1, 1) := by decide +kernel
theorem dX9_digest_4 : decode cX9_digest 4 = .ok (.iconst 0, 1) := by decide +kernel
theorem dX9_digest_5 : decode cX9_digest 5 = .ok (.istore_n 3, 1) := by decide +kernel
theorem dX9_digest_6 : decode cX9_digest 6 = .ok (.iload_n 3, 1) := by decide +kernel
theorem dX9_digest_7 : decode cX9_digest 7 = .ok (.bipush 8, 2) := by decide +kernel
theorem dX9_digest_9 : decode cX9_digest 9 = .ok (.if_icmp .ge 22, 3) := by decide +kernel
theorem dX9_digest_12 : decode cX9_digest 12 = .ok (.ldc2_w 288, 3) := by decide +kernel
theorem dX9_digest_15 : decode cX9_digest 15 = .ok (.lload_n 1, 1) := by decide +kernel
theorem dX9_digest_16 : decode cX9_digest 16 = .ok (.lmul, 1) := by decide +kernel
theorem dX9_digest_17 : decode cX9_digest 17 = .ok (.aload_n 0, 1) := by decide +kernel
theorem dX9_digest_18 : decode cX9_digest 18 = .ok (.iload_n 3, 1) := by decide +kernel
theorem dX9_digest_19 : decode cX9_digest 19 = .ok (.invokevirtual 295, 3) := by decide +kernel
theorem dX9_digest_22 : decode cX9_digest 22 = .ok (.i2l, 1) := by decide +kernel
theorem dX9_digest_23 : decode cX9_digest 23 = .ok (.ladd, 1) := by decide +kernel
theorem dX9_digest_24 : decode cX9_digest 24 = .ok (.lstore_n 1, 1) := by decide +kernel
theorem dX9_digest_25 : decode cX9_digest 25 = .ok (.iinc 3 1, 3) := by decide +kernel
theorem dX9_digest_28 : decode cX9_digest 28 = .ok (.goto (-22), 3) := by decide +kernel
theorem dX9_digest_31 : decode cX9_digest 31 = .ok (.iconst 0, 1) := by decide +kernel
theorem dX9_digest_32 : decode cX9_digest 32 = .ok (.istore_n 3, 1) := by decide +kernel
theorem dX9_digest_33 : decode cX9_digest 33 = .ok (.iload_n 3, 1) := by decide +kernel
theorem dX9_digest_34 : decode cX9_digest 34 = .ok (.iconst 3, 1) := by decide +kernel
theorem dX9_digest_35 : decode cX9_digest 35 = .ok (.if_icmp .ge 22, 3) := by decide +kernel
theorem dX9_digest_38 : decode cX9_digest 38 = .ok (.ldc2_w 288, 3) := by decide +kernel
theorem dX9_digest_41 : decode cX9_digest 41 = .ok (.lload_n 1, 1) := by decide +kernel
theorem dX9_digest_42 : decode cX9_digest 42 = .ok (.lmul, 1) := by decide +kernel
theorem dX9_digest_43 : decode cX9_digest 43 = .ok (.aload_n 0, 1) := by decide +kernel
theorem dX9_digest_44 : decode cX9_digest 44 = .ok (.iload_n 3, 1) := by decide +kernel
theorem dX9_digest_45 : decode cX9_digest 45 = .ok (.invokevirtual 138, 3) := by decide +kernel
theorem dX9_digest_48 : decode cX9_digest 48 = .ok (.i2l, 1) := by decide +kernel
theorem dX9_digest_49 : decode cX9_digest 49 = .ok (.ladd, 1) := by decide +kernel
theorem dX9_digest_50 : decode cX9_digest 50 = .ok (.lstore_n 1, 1) := by decide +kernel
theorem dX9_digest_51 : decode cX9_digest 51 = .ok (.iinc 3 1, 3) := by decide +kernel
theorem dX9_digest_54 : decode cX9_digest 54 = .ok (.goto (-21), 3) := by decide +kernel
theorem dX9_digest_57 : decode cX9_digest 57 = .ok (.iconst 0, 1) := by decide +kernel
theorem dX9_digest_58 : decode cX9_digest 58 = .ok (.istore_n 3, 1) := by decide +kernel
theorem dX9_digest_59 : decode cX9_digest 59 = .ok (.iload_n 3, 1) := by decide +kernel
theorem dX9_digest_60 : decode cX9_digest 60 = .ok (.aload_n 0, 1) := by decide +kernel
theorem dX9_digest_61 : decode cX9_digest 61 = .ok (.getfield 103, 3) := by decide +kernel
theorem dX9_digest_64 : decode cX9_digest 64 = .ok (.if_icmp .ge 51, 3) := by decide +kernel
theorem dX9_digest_67 : decode cX9_digest 67 = .ok (.ldc2_w 288, 3) := by decide +kernel
theorem dX9_digest_70 : decode cX9_digest 70 = .ok (.lload_n 1, 1) := by decide +kernel
theorem dX9_digest_71 : decode cX9_digest 71 = .ok (.lmul, 1) := by decide +kernel
theorem dX9_digest_72 : decode cX9_digest 72 = .ok (.aload_n 0, 1) := by decide +kernel
theorem dX9_digest_73 : decode cX9_digest 73 = .ok (.getfield 28, 3) := by decide +kernel
theorem dX9_digest_76 : decode cX9_digest 76 = .ok (.iload_n 3, 1) := by decide +kernel
theorem dX9_digest_77 : decode cX9_digest 77 = .ok (.iaload, 1) := by decide +kernel
theorem dX9_digest_78 : decode cX9_digest 78 = .ok (.i2l, 1) := by decide +kernel
theorem dX9_digest_79 : decode cX9_digest 79 = .ok (.ladd, 1) := by decide +kernel
theorem dX9_digest_80 : decode cX9_digest 80 = .ok (.lstore_n 1, 1) := by decide +kernel
theorem dX9_digest_81 : decode cX9_digest 81 = .ok (.ldc2_w 288, 3) := by decide +kernel
theorem dX9_digest_84 : decode cX9_digest 84 = .ok (.lload_n 1, 1) := by decide +kernel
theorem dX9_digest_85 : decode cX9_digest 85 = .ok (.lmul, 1) := by decide +kernel
theorem dX9_digest_86 : decode cX9_digest 86 = .ok (.aload_n 0, 1) := by decide +kernel
theorem dX9_digest_87 : decode cX9_digest 87 = .ok (.iconst 5, 1) := by decide +kernel
theorem dX9_digest_88 : decode cX9_digest 88 = .ok (.iload_n 3, 1) := by decide +kernel
theorem dX9_digest_89 : decode cX9_digest 89 = .ok (.iconst 0, 1) := by decide +kernel
theorem dX9_digest_90 : decode cX9_digest 90 = .ok (.invokevirtual 298, 3) := by decide +kernel
theorem dX9_digest_93 : decode cX9_digest 93 = .ok (.ladd, 1) := by decide +kernel
theorem dX9_digest_94 : decode cX9_digest 94 = .ok (.lstore_n 1, 1) := by decide +kernel
theorem dX9_digest_95 : decode cX9_digest 95 = .ok (.ldc2_w 288, 3) := by decide +kernel
theorem dX9_digest_98 : decode cX9_digest 98 = .ok (.lload_n 1, 1) := by decide +kernel
theorem dX9_digest_99 : decode cX9_digest 99 = .ok (.lmul, 1) := by decide +kernel
theorem dX9_digest_100 : decode cX9_digest 100 = .ok (.aload_n 0, 1) := by decide +kernel
theorem dX9_digest_101 : decode cX9_digest 101 = .ok (.iconst 5, 1) := by decide +kernel
theorem dX9_digest_102 : decode cX9_digest 102 = .ok (.iload_n 3, 1) := by decide +kernel
theorem dX9_digest_103 : decode cX9_digest 103 = .ok (.iconst 1, 1) := by decide +kernel
theorem dX9_digest_104 : decode cX9_digest 104 = .ok (.invokevirtual 298, 3) := by decide +kernel
theorem dX9_digest_107 : decode cX9_digest 107 = .ok (.ladd, 1) := by decide +kernel
theorem dX9_digest_108 : decode cX9_digest 108 = .ok (.lstore_n 1, 1) := by decide +kernel
theorem dX9_digest_109 : decode cX9_digest 109 = .ok (.iinc 3 1, 3) := by decide +kernel
theorem dX9_digest_112 : decode cX9_digest 112 = .ok (.goto (-53), 3) := by decide +kernel
theorem dX9_digest_115 : decode cX9_digest 115 = .ok (.iconst 0, 1) := by decide +kernel
theorem dX9_digest_116 : decode cX9_digest 116 = .ok (.istore_n 3, 1) := by decide +kernel
theorem dX9_digest_117 : decode cX9_digest 117 = .ok (.iload_n 3, 1) := by decide +kernel
theorem dX9_digest_118 : decode cX9_digest 118 = .ok (.aload_n 0, 1) := by decide +kernel
theorem dX9_digest_119 : decode cX9_digest 119 = .ok (.getfield 115, 3) := by decide +kernel
theorem dX9_digest_122 : decode cX9_digest 122 = .ok (.if_icmp .ge 16, 3) := by decide +kernel
theorem dX9_digest_125 : decode cX9_digest 125 = .ok (.aload_n 0, 1) := by decide +kernel
theorem dX9_digest_126 : decode cX9_digest 126 = .ok (.lload_n 1, 1) := by decide +kernel
theorem dX9_digest_127 : decode cX9_digest 127 = .ok (.iload_n 3, 1) := by decide +kernel
theorem dX9_digest_128 : decode cX9_digest 128 = .ok (.invokevirtual 301, 3) := by decide +kernel
theorem dX9_digest_131 : decode cX9_digest 131 = .ok (.lstore_n 1, 1) := by decide +kernel
theorem dX9_digest_132 : decode cX9_digest 132 = .ok (.iinc 3 1, 3) := by decide +kernel
theorem dX9_digest_135 : decode cX9_digest 135 = .ok (.goto (-18), 3) := by decide +kernel
theorem dX9_digest_138 : decode cX9_digest 138 = .ok (.aload_n 0, 1) := by decide +kernel
theorem dX9_digest_139 : decode cX9_digest 139 = .ok (.invokevirtual 193, 3) := by decide +kernel
theorem dX9_digest_142 : decode cX9_digest 142 = .ok (.iconst 0, 1) := by decide +kernel
theorem dX9_digest_143 : decode cX9_digest 143 = .ok (.istore_n 3, 1) := by decide +kernel
theorem dX9_digest_144 : decode cX9_digest 144 = .ok (.iload_n 3, 1) := by decide +kernel
theorem dX9_digest_145 : decode cX9_digest 145 = .ok (.aload_n 0, 1) := by decide +kernel
theorem dX9_digest_146 : decode cX9_digest 146 = .ok (.getfield 121, 3) := by decide +kernel
theorem dX9_digest_149 : decode cX9_digest 149 = .ok (.if_icmp .ge 53, 3) := by decide +kernel
theorem dX9_digest_152 : decode cX9_digest 152 = .ok (.ldc2_w 288, 3) := by decide +kernel
theorem dX9_digest_155 : decode cX9_digest 155 = .ok (.lload_n 1, 1) := by decide +kernel
theorem dX9_digest_156 : decode cX9_digest 156 = .ok (.lmul, 1) := by decide +kernel
theorem dX9_digest_157 : decode cX9_digest 157 = .ok (.aload_n 0, 1) := by decide +kernel
theorem dX9_digest_158 : decode cX9_digest 158 = .ok (.getfield 34, 3) := by decide +kernel
theorem dX9_digest_161 : decode cX9_digest 161 = .ok (.iload_n 3, 1) := by decide +kernel
theorem dX9_digest_162 : decode cX9_digest 162 = .ok (.iaload, 1) := by decide +kernel
theorem dX9_digest_163 : decode cX9_digest 163 = .ok (.i2l, 1) := by decide +kernel
theorem dX9_digest_164 : decode cX9_digest 164 = .ok (.ladd, 1) := by decide +kernel
theorem dX9_digest_165 : decode cX9_digest 165 = .ok (.lstore_n 1, 1) := by decide +kernel
theorem dX9_digest_166 : decode cX9_digest 166 = .ok (.iconst 0, 1) := by decide +kernel
theorem dX9_digest_167 : decode cX9_digest 167 = .ok (.istore 4, 2) := by decide +kernel
theorem dX9_digest_169 : decode cX9_digest 169 = .ok (.iload 4, 2) := by decide +kernel
theorem dX9_digest_171 : decode cX9_digest 171 = .ok (.iconst 3, 1) := by decide +kernel
theorem dX9_digest_172 : decode cX9_digest 172 = .ok (.if_icmp .ge 24, 3) := by decide +kernel
theorem dX9_digest_175 : decode cX9_digest 175 = .ok (.ldc2_w 288, 3) := by decide +kernel
theorem dX9_digest_178 : decode cX9_digest 178 = .ok (.lload_n 1, 1) := by decide +kernel
theorem dX9_digest_179 : decode cX9_digest 179 = .ok (.lmul, 1) := by decide +kernel
theorem dX9_digest_180 : decode cX9_digest 180 = .ok (.aload_n 0, 1) := by decide +kernel
theorem dX9_digest_181 : decode cX9_digest 181 = .ok (.iload_n 3, 1) := by decide +kernel
theorem dX9_digest_182 : decode cX9_digest 182 = .ok (.iload 4, 2) := by decide +kernel
theorem dX9_digest_184 : decode cX9_digest 184 = .ok (.invokevirtual 199, 3) := by decide +kernel
theorem dX9_digest_187 : decode cX9_digest 187 = .ok (.i2l, 1) := by decide +kernel
theorem dX9_digest_188 : decode cX9_digest 188 = .ok (.ladd, 1) := by decide +kernel
theorem dX9_digest_189 : decode cX9_digest 189 = .ok (.lstore_n 1, 1) := by decide +kernel
theorem dX9_digest_190 : decode cX9_digest 190 = .ok (.iinc 4 1, 3) := by decide +kernel
theorem dX9_digest_193 : decode cX9_digest 193 = .ok (.goto (-24), 3) := by decide +kernel
theorem dX9_digest_196 : decode cX9_digest 196 = .ok (.iinc 3 1, 3) := by decide +kernel
theorem dX9_digest_199 : decode cX9_digest 199 = .ok (.goto (-55), 3) := by decide +kernel
theorem dX9_digest_202 : decode cX9_digest 202 = .ok (.iconst 0, 1) := by decide +kernel
theorem dX9_digest_203 : decode cX9_digest 203 = .ok (.istore_n 3, 1) := by decide +kernel
theorem dX9_digest_204 : decode cX9_digest 204 = .ok (.iload_n 3, 1) := by decide +kernel
theorem dX9_digest_205 : decode cX9_digest 205 = .ok (.aload_n 0, 1) := by decide +kernel
theorem dX9_digest_206 : decode cX9_digest 206 = .ok (.getfield 121, 3) := by decide +kernel
theorem dX9_digest_209 : decode cX9_digest 209 = .ok (.if_icmp .gt 36, 3) := by decide +kernel
theorem dX9_digest_212 : decode cX9_digest 212 = .ok (.ldc2_w 288, 3) := by decide +kernel
theorem dX9_digest_215 : decode cX9_digest 215 = .ok (.lload_n 1, 1) := by decide +kernel
theorem dX9_digest_216 : decode cX9_digest 216 = .ok (.lmul, 1) := by decide +kernel
theorem dX9_digest_217 : decode cX9_digest 217 = .ok (.aload_n 0, 1) := by decide +kernel
theorem dX9_digest_218 : decode cX9_digest 218 = .ok (.getfield 43, 3) := by decide +kernel
theorem dX9_digest_221 : decode cX9_digest 221 = .ok (.iload_n 3, 1) := by decide +kernel
theorem dX9_digest_222 : decode cX9_digest 222 = .ok (.iaload, 1) := by decide +kernel
theorem dX9_digest_223 : decode cX9_digest 223 = .ok (.i2l, 1) := by decide +kernel
theorem dX9_digest_224 : decode cX9_digest 224 = .ok (.ladd, 1) := by decide +kernel
theorem dX9_digest_225 : decode cX9_digest 225 = .ok (.lstore_n 1, 1) := by decide +kernel
theorem dX9_digest_226 : decode cX9_digest 226 = .ok (.ldc2_w 288, 3) := by decide +kernel
theorem dX9_digest_229 : decode cX9_digest 229 = .ok (.lload_n 1, 1) := by decide +kernel
theorem dX9_digest_230 : decode cX9_digest 230 = .ok (.lmul, 1) := by decide +kernel
theorem dX9_digest_231 : decode cX9_digest 231 = .ok (.aload_n 0, 1) := by decide +kernel
theorem dX9_digest_232 : decode cX9_digest 232 = .ok (.iload_n 3, 1) := by decide +kernel
theorem dX9_digest_233 : decode cX9_digest 233 = .ok (.invokevirtual 205, 3) := by decide +kernel
theorem dX9_digest_236 : decode cX9_digest 236 = .ok (.i2l, 1) := by decide +kernel
theorem dX9_digest_237 : decode cX9_digest 237 = .ok (.ladd, 1) := by decide +kernel
theorem dX9_digest_238 : decode cX9_digest 238 = .ok (.lstore_n 1, 1) := by decide +kernel
theorem dX9_digest_239 : decode cX9_digest 239 = .ok (.iinc 3 1, 3) := by decide +kernel
theorem dX9_digest_242 : decode cX9_digest 242 = .ok (.goto (-38), 3) := by decide +kernel
theorem dX9_digest_245 : decode cX9_digest 245 = .ok (.ldc2_w 288, 3) := by decide +kernel
theorem dX9_digest_248 : decode cX9_digest 248 = .ok (.lload_n 1, 1) := by decide +kernel
theorem dX9_digest_249 : decode cX9_digest 249 = .ok (.lmul, 1) := by decide +kernel
theorem dX9_digest_250 : decode cX9_digest 250 = .ok (.aload_n 0, 1) := by decide +kernel
theorem dX9_digest_251 : decode cX9_digest 251 = .ok (.invokevirtual 208, 3) := by decide +kernel
theorem dX9_digest_254 : decode cX9_digest 254 = .ok (.i2l, 1) := by decide +kernel
theorem dX9_digest_255 : decode cX9_digest 255 = .ok (.ladd, 1) := by decide +kernel
theorem dX9_digest_256 : decode cX9_digest 256 = .ok (.lstore_n 1, 1) := by decide +kernel
theorem dX9_digest_257 : decode cX9_digest 257 = .ok (.ldc2_w 288, 3) := by decide +kernel
theorem dX9_digest_260 : decode cX9_digest 260 = .ok (.lload_n 1, 1) := by decide +kernel
theorem dX9_digest_261 : decode cX9_digest 261 = .ok (.lmul, 1) := by decide +kernel
theorem dX9_digest_262 : decode cX9_digest 262 = .ok (.aload_n 0, 1) := by decide +kernel
theorem dX9_digest_263 : decode cX9_digest 263 = .ok (.invokevirtual 211, 3) := by decide +kernel
theorem dX9_digest_266 : decode cX9_digest 266 = .ok (.i2l, 1) := by decide +kernel
theorem dX9_digest_267 : decode cX9_digest 267 = .ok (.ladd, 1) := by decide +kernel
theorem dX9_digest_268 : decode cX9_digest 268 = .ok (.lstore_n 1, 1) := by decide +kernel
theorem dX9_digest_269 : decode cX9_digest 269 = .ok (.aload_n 0, 1) := by decide +kernel
theorem dX9_digest_270 : decode cX9_digest 270 = .ok (.invokevirtual 227, 3) := by decide +kernel
theorem dX9_digest_273 : decode cX9_digest 273 = .ok (.iconst 0, 1) := by decide +kernel
theorem dX9_digest_274 : decode cX9_digest 274 = .ok (.istore_n 3, 1) := by decide +kernel
theorem dX9_digest_275 : decode cX9_digest 275 = .ok (.iload_n 3, 1) := by decide +kernel
theorem dX9_digest_276 : decode cX9_digest 276 = .ok (.iconst 4, 1) := by decide +kernel
theorem dX9_digest_277 : decode cX9_digest 277 = .ok (.if_icmp .ge 22, 3) := by decide +kernel
theorem dX9_digest_280 : decode cX9_digest 280 = .ok (.ldc2_w 288, 3) := by decide +kernel
theorem dX9_digest_283 : decode cX9_digest 283 = .ok (.lload_n 1, 1) := by decide +kernel
theorem dX9_digest_284 : decode cX9_digest 284 = .ok (.lmul, 1) := by decide +kernel
theorem dX9_digest_285 : decode cX9_digest 285 = .ok (.aload_n 0, 1) := by decide +kernel
theorem dX9_digest_286 : decode cX9_digest 286 = .ok (.iload_n 3, 1) := by decide +kernel
theorem dX9_digest_287 : decode cX9_digest 287 = .ok (.invokevirtual 230, 3) := by decide +kernel
theorem dX9_digest_290 : decode cX9_digest 290 = .ok (.i2l, 1) := by decide +kernel
theorem dX9_digest_291 : decode cX9_digest 291 = .ok (.ladd, 1) := by decide +kernel
theorem dX9_digest_292 : decode cX9_digest 292 = .ok (.lstore_n 1, 1) := by decide +kernel
theorem dX9_digest_293 : decode cX9_digest 293 = .ok (.iinc 3 1, 3) := by decide +kernel
theorem dX9_digest_296 : decode cX9_digest 296 = .ok (.goto (-21), 3) := by decide +kernel
theorem dX9_digest_299 : decode cX9_digest 299 = .ok (.iconst 0, 1) := by decide +kernel
theorem dX9_digest_300 : decode cX9_digest 300 = .ok (.istore_n 3, 1) := by decide +kernel
theorem dX9_digest_301 : decode cX9_digest 301 = .ok (.iload_n 3, 1) := by decide +kernel
theorem dX9_digest_302 : decode cX9_digest 302 = .ok (.iconst 4, 1) := by decide +kernel
theorem dX9_digest_303 : decode cX9_digest 303 = .ok (.if_icmp .ge 22, 3) := by decide +kernel
theorem dX9_digest_306 : decode cX9_digest 306 = .ok (.ldc2_w 288, 3) := by decide +kernel
theorem dX9_digest_309 : decode cX9_digest 309 = .ok (.lload_n 1, 1) := by decide +kernel
theorem dX9_digest_310 : decode cX9_digest 310 = .ok (.lmul, 1) := by decide +kernel
theorem dX9_digest_311 : decode cX9_digest 311 = .ok (.aload_n 0, 1) := by decide +kernel
theorem dX9_digest_312 : decode cX9_digest 312 = .ok (.iload_n 3, 1) := by decide +kernel
theorem dX9_digest_313 : decode cX9_digest 313 = .ok (.invokevirtual 250, 3) := by decide +kernel
theorem dX9_digest_316 : decode cX9_digest 316 = .ok (.i2l, 1) := by decide +kernel
theorem dX9_digest_317 : decode cX9_digest 317 = .ok (.ladd, 1) := by decide +kernel
theorem dX9_digest_318 : decode cX9_digest 318 = .ok (.lstore_n 1, 1) := by decide +kernel
theorem dX9_digest_319 : decode cX9_digest 319 = .ok (.iinc 3 1, 3) := by decide +kernel
theorem dX9_digest_322 : decode cX9_digest 322 = .ok (.goto (-21), 3) := by decide +kernel
theorem dX9_digest_325 : decode cX9_digest 325 = .ok (.ldc2_w 288, 3) := by decide +kernel
theorem dX9_digest_328 : decode cX9_digest 328 = .ok (.lload_n 1, 1) := by decide +kernel
theorem dX9_digest_329 : decode cX9_digest 329 = .ok (.lmul, 1) := by decide +kernel
theorem dX9_digest_330 : decode cX9_digest 330 = .ok (.aload_n 0, 1) := by decide +kernel
theorem dX9_digest_331 : decode cX9_digest 331 = .ok (.invokevirtual 253, 3) := by decide +kernel
theorem dX9_digest_334 : decode cX9_digest 334 = .ok (.i2l, 1) := by decide +kernel
theorem dX9_digest_335 : decode cX9_digest 335 = .ok (.ladd, 1) := by decide +kernel
theorem dX9_digest_336 : decode cX9_digest 336 = .ok (.lstore_n 1, 1) := by decide +kernel
theorem dX9_digest_337 : decode cX9_digest 337 = .ok (.ldc2_w 288, 3) := by decide +kernel
theorem dX9_digest_340 : decode cX9_digest 340 = .ok (.lload_n 1, 1) := by decide +kernel
theorem dX9_digest_341 : decode cX9_digest 341 = .ok (.lmul, 1) := by decide +kernel
theorem dX9_digest_342 : decode cX9_digest 342 = .ok (.aload_n 0, 1) := by decide +kernel
theorem dX9_digest_343 : decode cX9_digest 343 = .ok (.invokevirtual 256, 3) := by decide +kernel
theorem dX9_digest_346 : decode cX9_digest 346 = .ok (.i2l, 1) := by decide +kernel
theorem dX9_digest_347 : decode cX9_digest 347 = .ok (.ladd, 1) := by decide +kernel
theorem dX9_digest_348 : decode cX9_digest 348 = .ok (.lstore_n 1, 1) := by decide +kernel
theorem dX9_digest_349 : decode cX9_digest 349 = .ok (.ldc2_w 288, 3) := by decide +kernel
theorem dX9_digest_352 : decode cX9_digest 352 = .ok (.lload_n 1, 1) := by decide +kernel
theorem dX9_digest_353 : decode cX9_digest 353 = .ok (.lmul, 1) := by decide +kernel
theorem dX9_digest_354 : decode cX9_digest 354 = .ok (.aload_n 0, 1) := by decide +kernel
theorem dX9_digest_355 : decode cX9_digest 355 = .ok (.bipush 7, 2) := by decide +kernel
theorem dX9_digest_357 : decode cX9_digest 357 = .ok (.bipush 30, 2) := by decide +kernel
theorem dX9_digest_359 : decode cX9_digest 359 = .ok (.iconst 0, 1) := by decide +kernel
theorem dX9_digest_360 : decode cX9_digest 360 = .ok (.invokevirtual 282, 3) := by decide +kernel
theorem dX9_digest_363 : decode cX9_digest 363 = .ok (.i2l, 1) := by decide +kernel
theorem dX9_digest_364 : decode cX9_digest 364 = .ok (.ladd, 1) := by decide +kernel
theorem dX9_digest_365 : decode cX9_digest 365 = .ok (.lstore_n 1, 1) := by decide +kernel
theorem dX9_digest_366 : decode cX9_digest 366 = .ok (.ldc2_w 288, 3) := by decide +kernel
theorem dX9_digest_369 : decode cX9_digest 369 = .ok (.lload_n 1, 1) := by decide +kernel
theorem dX9_digest_370 : decode cX9_digest 370 = .ok (.lmul, 1) := by decide +kernel
theorem dX9_digest_371 : decode cX9_digest 371 = .ok (.aload_n 0, 1) := by decide +kernel
theorem dX9_digest_372 : decode cX9_digest 372 = .ok (.bipush 7, 2) := by decide +kernel
theorem dX9_digest_374 : decode cX9_digest 374 = .ok (.bipush 30, 2) := by decide +kernel
theorem dX9_digest_376 : decode cX9_digest 376 = .ok (.iconst 1, 1) := by decide +kernel
theorem dX9_digest_377 : decode cX9_digest 377 = .ok (.invokevirtual 282, 3) := by decide +kernel
theorem dX9_digest_380 : decode cX9_digest 380 = .ok (.i2l, 1) := by decide +kernel
theorem dX9_digest_381 : decode cX9_digest 381 = .ok (.ladd, 1) := by decide +kernel
theorem dX9_digest_382 : decode cX9_digest 382 = .ok (.lreturn, 1) := by decide +kernel
end
section
theorem dL_law_0 : decode cL_law 0 = .ok (.new 7, 3) := by decide +kernel
theorem dL_law_3 : decode cL_law 3 = .ok (.dup, 1) := by decide +kernel
theorem dL_law_4 : decode cL_law 4 = .ok (.invokespecial 9, 3) := by decide +kernel
theorem dL_law_7 : decode cL_law 7 = .ok (.astore_n 1, 1) := by decide +kernel
theorem dL_law_8 : decode cL_law 8 = .ok (.new 10, 3) := by decide +kernel
theorem dL_law_11 : decode cL_law 11 = .ok (.dup, 1) := by decide +kernel
theorem dL_law_12 : decode cL_law 12 = .ok (.invokespecial 12, 3) := by decide +kernel
theorem dL_law_15 : decode cL_law 15 = .ok (.astore_n 2, 1) := by decide +kernel
theorem dL_law_16 : decode cL_law 16 = .ok (.iconst 0, 1) := by decide +kernel
theorem dL_law_17 : decode cL_law 17 = .ok (.istore_n 3, 1) := by decide +kernel
theorem dL_law_18 : decode cL_law 18 = .ok (.iload_n 3, 1) := by decide +kernel
theorem dL_law_19 : decode cL_law 19 = .ok (.aload_n 0, 1) := by decide +kernel
theorem dL_law_20 : decode cL_law 20 = .ok (.arraylength, 1) := by decide +kernel
theorem dL_law_21 : decode cL_law 21 = .ok (.bipush 6, 2) := by decide +kernel
theorem dL_law_23 : decode cL_law 23 = .ok (.isub, 1) := by decide +kernel
theorem dL_law_24 : decode cL_law 24 = .ok (.if_icmp .gt 1120, 3) := by decide +kernel
theorem dL_law_27 : decode cL_law 27 = .ok (.aload_n 0, 1) := by decide +kernel
theorem dL_law_28 : decode cL_law 28 = .ok (.iload_n 3, 1) := by decide +kernel
theorem dL_law_29 : decode cL_law 29 = .ok (.iaload, 1) := by decide +kernel
theorem dL_law_30 : decode cL_law 30 = .ok (.bipush 63, 2) := by decide +kernel
theorem dL_law_32 : decode cL_law 32 = .ok (.iand, 1) := by decide +kernel
theorem dL_law_33 : decode cL_law 33 = .ok (.tableswitch 1105 0 33 #[151, 184, 207, 230, 253, 276, 309, 332, 365, 398, 421, 454, 487, 510, 523, 536, 559, 582, 615, 648, 661, 684, 707, 720, 733, 777, 820, 863, 886, 939, 982, 1045, 1068, 1091], 151) := by decide +kernel
theorem dL_law_184 : decode cL_law 184 = .ok (.aload_n 1, 1) := by decide +kernel
theorem dL_law_185 : decode cL_law 185 = .ok (.aload_n 0, 1) := by decide +kernel
theorem dL_law_186 : decode cL_law 186 = .ok (.iload_n 3, 1) := by decide +kernel
theorem dL_law_187 : decode cL_law 187 = .ok (.iconst 1, 1) := by decide +kernel
theorem dL_law_188 : decode cL_law 188 = .ok (.iadd, 1) := by decide +kernel
theorem dL_law_189 : decode cL_law 189 = .ok (.iaload, 1) := by decide +kernel
theorem dL_law_190 : decode cL_law 190 = .ok (.aload_n 0, 1) := by decide +kernel
theorem dL_law_191 : decode cL_law 191 = .ok (.iload_n 3, 1) := by decide +kernel
theorem dL_law_192 : decode cL_law 192 = .ok (.iconst 2, 1) := by decide +kernel
theorem dL_law_193 : decode cL_law 193 = .ok (.iadd, 1) := by decide +kernel
theorem dL_law_194 : decode cL_law 194 = .ok (.iaload, 1) := by decide +kernel
theorem dL_law_195 : decode cL_law 195 = .ok (.invokevirtual 13, 3) := by decide +kernel
theorem dL_law_198 : decode cL_law 198 = .ok (.aload_n 2, 1) := by decide +kernel
theorem dL_law_199 : decode cL_law 199 = .ok (.aload_n 0, 1) := by decide +kernel
theorem dL_law_200 : decode cL_law 200 = .ok (.iload_n 3, 1) := by decide +kernel
theorem dL_law_201 : decode cL_law 201 = .ok (.iconst 1, 1) := by decide +kernel
theorem dL_law_202 : decode cL_law 202 = .ok (.iadd, 1) := by decide +kernel
theorem dL_law_203 : decode cL_law 203 = .ok (.iaload, 1) := by decide +kernel
theorem dL_law_204 : decode cL_law 204 = .ok (.aload_n 0, 1) := by decide +kernel
theorem dL_law_205 : decode cL_law 205 = .ok (.iload_n 3, 1) := by decide +kernel
theorem dL_law_206 : decode cL_law 206 = .ok (.iconst 2, 1) := by decide +kernel
theorem dL_law_207 : decode cL_law 207 = .ok (.iadd, 1) := by decide +kernel
theorem dL_law_208 : decode cL_law 208 = .ok (.iaload, 1) := by decide +kernel
theorem dL_law_209 : decode cL_law 209 = .ok (.invokevirtual 17, 3) := by decide +kernel
theorem dL_law_212 : decode cL_law 212 = .ok (.if_icmp .eq 926, 3) := by decide +kernel
theorem dL_law_215 : decode cL_law 215 = .ok (.iconst 0, 1) := by decide +kernel
theorem dL_law_216 : decode cL_law 216 = .ok (.ireturn, 1) := by decide +kernel
theorem dL_law_217 : decode cL_law 217 = .ok (.aload_n 1, 1) := by decide +kernel
theorem dL_law_218 : decode cL_law 218 = .ok (.aload_n 0, 1) := by decide +kernel
theorem dL_law_219 : decode cL_law 219 = .ok (.iload_n 3, 1) := by decide +kernel
theorem dL_law_220 : decode cL_law 220 = .ok (.iconst 1, 1) := by decide +kernel
theorem dL_law_221 : decode cL_law 221 = .ok (.iadd, 1) := by decide +kernel
theorem dL_law_222 : decode cL_law 222 = .ok (.iaload, 1) := by decide +kernel
theorem dL_law_223 : decode cL_law 223 = .ok (.invokevirtual 18, 3) := by decide +kernel
theorem dL_law_226 : decode cL_law 226 = .ok (.aload_n 2, 1) := by decide +kernel
theorem dL_law_227 : decode cL_law 227 = .ok (.aload_n 0, 1) := by decide +kernel
theorem dL_law_228 : decode cL_law 228 = .ok (.iload_n 3, 1) := by decide +kernel
theorem dL_law_229 : decode cL_law 229 = .ok (.iconst 1, 1) := by decide +kernel
theorem dL_law_230 : decode cL_law 230 = .ok (.iadd, 1) := by decide +kernel
theorem dL_law_231 : decode cL_law 231 = .ok (.iaload, 1) := by decide +kernel
theorem dL_law_232 : decode cL_law 232 = .ok (.invokevirtual 22, 3) := by decide +kernel
theorem dL_law_235 : decode cL_law 235 = .ok (.if_icmp .eq 903, 3) := by decide +kernel
theorem dL_law_238 : decode cL_law 238 = .ok (.iconst 0, 1) := by decide +kernel
theorem dL_law_239 : decode cL_law 239 = .ok (.ireturn, 1) := by decide +kernel
theorem dL_law_240 : decode cL_law 240 = .ok (.aload_n 1, 1) := by decide +kernel
theorem dL_law_241 : decode cL_law 241 = .ok (.aload_n 0, 1) := by decide +kernel
theorem dL_law_242 : decode cL_law 242 = .ok (.iload_n 3, 1) := by decide +kernel
theorem dL_law_243 : decode cL_law 243 = .ok (.iconst 1, 1) := by decide +kernel
theorem dL_law_244 : decode cL_law 244 = .ok (.iadd, 1) := by decide +kernel
theorem dL_law_245 : decode cL_law 245 = .ok (.iaload, 1) := by decide +kernel
theorem dL_law_246 : decode cL_law 246 = .ok (.invokevirtual 23, 3) := by decide +kernel
theorem dL_law_249 : decode cL_law 249 = .ok (.aload_n 2, 1) := by decide +kernel
theorem dL_law_250 : decode cL_law 250 = .ok (.aload_n 0, 1) := by decide +kernel
theorem dL_law_251 : decode cL_law 251 = .ok (.iload_n 3, 1) := by decide +kernel
theorem dL_law_252 : decode cL_law 252 = .ok (.iconst 1, 1) := by decide +kernel
theorem dL_law_253 : decode cL_law 253 = .ok (.iadd, 1) := by decide +kernel
theorem dL_law_254 : decode cL_law 254 = .ok (.iaload, 1) := by decide +kernel
theorem dL_law_255 : decode cL_law 255 = .ok (.invokevirtual 26, 3) := by decide +kernel
theorem dL_law_258 : decode cL_law 258 = .ok (.if_icmp .eq 880, 3) := by decide +kernel
theorem dL_law_261 : decode cL_law 261 = .ok (.iconst 0, 1) := by decide +kernel
theorem dL_law_262 : decode cL_law 262 = .ok (.ireturn, 1) := by decide +kernel
theorem dL_law_263 : decode cL_law 263 = .ok (.aload_n 1, 1) := by decide +kernel
theorem dL_law_264 : decode cL_law 264 = .ok (.aload_n 0, 1) := by decide +kernel
theorem dL_law_265 : decode cL_law 265 = .ok (.iload_n 3, 1) := by decide +kernel
theorem dL_law_266 : decode cL_law 266 = .ok (.iconst 1, 1) := by decide +kernel
theorem dL_law_267 : decode cL_law 267 = .ok (.iadd, 1) := by decide +kernel
theorem dL_law_268 : decode cL_law 268 = .ok (.iaload, 1) := by decide +kernel
theorem dL_law_269 : decode cL_law 269 = .ok (.invokevirtual 27, 3) := by decide +kernel
theorem dL_law_272 : decode cL_law 272 = .ok (.aload_n 2, 1) := by decide +kernel
theorem dL_law_273 : decode cL_law 273 = .ok (.aload_n 0, 1) := by decide +kernel
theorem dL_law_274 : decode cL_law 274 = .ok (.iload_n 3, 1) := by decide +kernel
theorem dL_law_275 : decode cL_law 275 = .ok (.iconst 1, 1) := by decide +kernel
theorem dL_law_276 : decode cL_law 276 = .ok (.iadd, 1) := by decide +kernel
theorem dL_law_277 : decode cL_law 277 = .ok (.iaload, 1) := by decide +kernel
theorem dL_law_278 : decode cL_law 278 = .ok (.invokevirtual 30, 3) := by decide +kernel
theorem dL_law_281 : decode cL_law 281 = .ok (.if_icmp .eq 857, 3) := by decide +kernel
theorem dL_law_284 : decode cL_law 284 = .ok (.iconst 0, 1) := by decide +kernel
theorem dL_law_285 : decode cL_law 285 = .ok (.ireturn, 1) := by decide +kernel
theorem dL_law_286 : decode cL_law 286 = .ok (.aload_n 1, 1) := by decide +kernel
theorem dL_law_287 : decode cL_law 287 = .ok (.aload_n 0, 1) := by decide +kernel
theorem dL_law_288 : decode cL_law 288 = .ok (.iload_n 3, 1) := by decide +kernel
theorem dL_law_289 : decode cL_law 289 = .ok (.iconst 1, 1) := by decide +kernel
theorem dL_law_290 : decode cL_law 290 = .ok (.iadd, 1) := by decide +kernel
theorem dL_law_291 : decode cL_law 291 = .ok (.iaload, 1) := by decide +kernel
theorem dL_law_292 : decode cL_law 292 = .ok (.invokevirtual 31, 3) := by decide +kernel
theorem dL_law_295 : decode cL_law 295 = .ok (.aload_n 2, 1) := by decide +kernel
theorem dL_law_296 : decode cL_law 296 = .ok (.aload_n 0, 1) := by decide +kernel
theorem dL_law_297 : decode cL_law 297 = .ok (.iload_n 3, 1) := by decide +kernel
theorem dL_law_298 : decode cL_law 298 = .ok (.iconst 1, 1) := by decide +kernel
theorem dL_law_299 : decode cL_law 299 = .ok (.iadd, 1) := by decide +kernel
theorem dL_law_300 : decode cL_law 300 = .ok (.iaload, 1) := by decide +kernel
theorem dL_law_301 : decode cL_law 301 = .ok (.invokevirtual 34, 3) := by decide +kernel
theorem dL_law_304 : decode cL_law 304 = .ok (.if_icmp .eq 834, 3) := by decide +kernel
theorem dL_law_307 : decode cL_law 307 = .ok (.iconst 0, 1) := by decide +kernel
theorem dL_law_308 : decode cL_law 308 = .ok (.ireturn, 1) := by decide +kernel
theorem dL_law_309 : decode cL_law 309 = .ok (.aload_n 1, 1) := by decide +kernel
theorem dL_law_310 : decode cL_law 310 = .ok (.aload_n 0, 1) := by decide +kernel
theorem dL_law_311 : decode cL_law 311 = .ok (.iload_n 3, 1) := by decide +kernel
theorem dL_law_312 : decode cL_law 312 = .ok (.iconst 1, 1) := by decide +kernel
theorem dL_law_313 : decode cL_law 313 = .ok (.iadd, 1) := by decide +kernel
theorem dL_law_314 : decode cL_law 314 = .ok (.iaload, 1) := by decide +kernel
theorem dL_law_315 : decode cL_law 315 = .ok (.aload_n 0, 1) := by decide +kernel
theorem dL_law_316 : decode cL_law 316 = .ok (.iload_n 3, 1) := by decide +kernel
theorem dL_law_317 : decode cL_law 317 = .ok (.iconst 2, 1) := by decide +kernel
theorem dL_law_318 : decode cL_law 318 = .ok (.iadd, 1) := by decide +kernel
theorem dL_law_319 : decode cL_law 319 = .ok (.iaload, 1) := by decide +kernel
theorem dL_law_320 : decode cL_law 320 = .ok (.invokevirtual 35, 3) := by decide +kernel
theorem dL_law_323 : decode cL_law 323 = .ok (.aload_n 2, 1) := by decide +kernel
theorem dL_law_324 : decode cL_law 324 = .ok (.aload_n 0, 1) := by decide +kernel
theorem dL_law_325 : decode cL_law 325 = .ok (.iload_n 3, 1) := by decide +kernel
theorem dL_law_326 : decode cL_law 326 = .ok (.iconst 1, 1) := by decide +kernel
theorem dL_law_327 : decode cL_law 327 = .ok (.iadd, 1) := by decide +kernel
theorem dL_law_328 : decode cL_law 328 = .ok (.iaload, 1) := by decide +kernel
theorem dL_law_329 : decode cL_law 329 = .ok (.aload_n 0, 1) := by decide +kernel
theorem dL_law_330 : decode cL_law 330 = .ok (.iload_n 3, 1) := by decide +kernel
theorem dL_law_331 : decode cL_law 331 = .ok (.iconst 2, 1) := by decide +kernel
theorem dL_law_332 : decode cL_law 332 = .ok (.iadd, 1) := by decide +kernel
theorem dL_law_333 : decode cL_law 333 = .ok (.iaload, 1) := by decide +kernel
theorem dL_law_334 : decode cL_law 334 = .ok (.invokevirtual 38, 3) := by decide +kernel
theorem dL_law_337 : decode cL_law 337 = .ok (.if_icmp .eq 801, 3) := by decide +kernel
theorem dL_law_340 : decode cL_law 340 = .ok (.iconst 0, 1) := by decide +kernel
theorem dL_law_341 : decode cL_law 341 = .ok (.ireturn, 1) := by decide +kernel
theorem dL_law_342 : decode cL_law 342 = .ok (.aload_n 1, 1) := by decide +kernel
theorem dL_law_343 : decode cL_law 343 = .ok (.aload_n 0, 1) := by decide +kernel
theorem dL_law_344 : decode cL_law 344 = .ok (.iload_n 3, 1) := by decide +kernel
theorem dL_law_345 : decode cL_law 345 = .ok (.iconst 1, 1) := by decide +kernel
theorem dL_law_346 : decode cL_law 346 = .ok (.iadd, 1) := by decide +kernel
theorem dL_law_347 : decode cL_law 347 = .ok (.iaload, 1) := by decide +kernel
theorem dL_law_348 : decode cL_law 348 = .ok (.invokevirtual 39, 3) := by decide +kernel
theorem dL_law_351 : decode cL_law 351 = .ok (.aload_n 2, 1) := by decide +kernel
theorem dL_law_352 : decode cL_law 352 = .ok (.aload_n 0, 1) := by decide +kernel
theorem dL_law_353 : decode cL_law 353 = .ok (.iload_n 3, 1) := by decide +kernel
theorem dL_law_354 : decode cL_law 354 = .ok (.iconst 1, 1) := by decide +kernel
theorem dL_law_355 : decode cL_law 355 = .ok (.iadd, 1) := by decide +kernel
theorem dL_law_356 : decode cL_law 356 = .ok (.iaload, 1) := by decide +kernel
theorem dL_law_357 : decode cL_law 357 = .ok (.invokevirtual 42, 3) := by decide +kernel
theorem dL_law_360 : decode cL_law 360 = .ok (.if_icmp .eq 778, 3) := by decide +kernel
theorem dL_law_363 : decode cL_law 363 = .ok (.iconst 0, 1) := by decide +kernel
theorem dL_law_364 : decode cL_law 364 = .ok (.ireturn, 1) := by decide +kernel
theorem dL_law_365 : decode cL_law 365 = .ok (.aload_n 1, 1) := by decide +kernel
theorem dL_law_366 : decode cL_law 366 = .ok (.aload_n 0, 1) := by decide +kernel
theorem dL_law_367 : decode cL_law 367 = .ok (.iload_n 3, 1) := by decide +kernel
theorem dL_law_368 : decode cL_law 368 = .ok (.iconst 1, 1) := by decide +kernel
theorem dL_law_369 : decode cL_law 369 = .ok (.iadd, 1) := by decide +kernel
theorem dL_law_370 : decode cL_law 370 = .ok (.iaload, 1) := by decide +kernel
theorem dL_law_371 : decode cL_law 371 = .ok (.aload_n 0, 1) := by decide +kernel
theorem dL_law_372 : decode cL_law 372 = .ok (.iload_n 3, 1) := by decide +kernel
theorem dL_law_373 : decode cL_law 373 = .ok (.iconst 2, 1) := by decide +kernel
theorem dL_law_374 : decode cL_law 374 = .ok (.iadd, 1) := by decide +kernel
theorem dL_law_375 : decode cL_law 375 = .ok (.iaload, 1) := by decide +kernel
theorem dL_law_376 : decode cL_law 376 = .ok (.invokevirtual 43, 3) := by decide +kernel
theorem dL_law_379 : decode cL_law 379 = .ok (.aload_n 2, 1) := by decide +kernel
theorem dL_law_380 : decode cL_law 380 = .ok (.aload_n 0, 1) := by decide +kernel
theorem dL_law_381 : decode cL_law 381 = .ok (.iload_n 3, 1) := by decide +kernel
theorem dL_law_382 : decode cL_law 382 = .ok (.iconst 1, 1) := by decide +kernel
theorem dL_law_383 : decode cL_law 383 = .ok (.iadd, 1) := by decide +kernel
theorem dL_law_384 : decode cL_law 384 = .ok (.iaload, 1) := by decide +kernel
theorem dL_law_385 : decode cL_law 385 = .ok (.aload_n 0, 1) := by decide +kernel
theorem dL_law_386 : decode cL_law 386 = .ok (.iload_n 3, 1) := by decide +kernel
theorem dL_law_387 : decode cL_law 387 = .ok (.iconst 2, 1) := by decide +kernel
theorem dL_law_388 : decode cL_law 388 = .ok (.iadd, 1) := by decide +kernel
theorem dL_law_389 : decode cL_law 389 = .ok (.iaload, 1) := by decide +kernel
theorem dL_law_390 : decode cL_law 390 = .ok (.invokevirtual 46, 3) := by decide +kernel
theorem dL_law_393 : decode cL_law 393 = .ok (.if_icmp .eq 745, 3) := by decide +kernel
theorem dL_law_396 : decode cL_law 396 = .ok (.iconst 0, 1) := by decide +kernel
theorem dL_law_397 : decode cL_law 397 = .ok (.ireturn, 1) := by decide +kernel
theorem dL_law_398 : decode cL_law 398 = .ok (.aload_n 1, 1) := by decide +kernel
theorem dL_law_399 : decode cL_law 399 = .ok (.aload_n 0, 1) := by decide +kernel
theorem dL_law_400 : decode cL_law 400 = .ok (.iload_n 3, 1) := by decide +kernel
theorem dL_law_401 : decode cL_law 401 = .ok (.iconst 1, 1) := by decide +kernel
theorem dL_law_402 : decode cL_law 402 = .ok (.iadd, 1) := by decide +kernel
theorem dL_law_403 : decode cL_law 403 = .ok (.iaload, 1) := by decide +kernel
theorem dL_law_404 : decode cL_law 404 = .ok (.aload_n 0, 1) := by decide +kernel
theorem dL_law_405 : decode cL_law 405 = .ok (.iload_n 3, 1) := by decide +kernel
theorem dL_law_406 : decode cL_law 406 = .ok (.iconst 2, 1) := by decide +kernel
theorem dL_law_407 : decode cL_law 407 = .ok (.iadd, 1) := by decide +kernel
theorem dL_law_408 : decode cL_law 408 = .ok (.iaload, 1) := by decide +kernel
theorem dL_law_409 : decode cL_law 409 = .ok (.invokevirtual 47, 3) := by decide +kernel
end
section
theorem dL_law_412 : decode cL_law 412 = .ok (.aload_n 2, 1) := by decide +kernel
theorem dL_law_413 : decode cL_law 413 = .ok (.aload_n 0, 1) := by decide +kernel
theorem dL_law_414 : decode cL_law 414 = .ok (.iload_n 3, 1) := by decide +kernel
theorem dL_law_415 : decode cL_law 415 = .ok (.iconst 1, 1) := by decide +kernel
theorem dL_law_416 : decode cL_law 416 = .ok (.iadd, 1) := by decide +kernel
theorem dL_law_417 : decode cL_law 417 = .ok (.iaload, 1) := by decide +kernel
theorem dL_law_418 : decode cL_law 418 = .ok (.aload_n 0, 1) := by decide +kernel
theorem dL_law_419 : decode cL_law 419 = .ok (.iload_n 3, 1) := by decide +kernel
theorem dL_law_420 : decode cL_law 420 = .ok (.iconst 2, 1) := by decide +kernel
theorem dL_law_421 : decode cL_law 421 = .ok (.iadd, 1) := by decide +kernel
theorem dL_law_422 : decode cL_law 422 = .ok (.iaload, 1) := by decide +kernel
theorem dL_law_423 : decode cL_law 423 = .ok (.invokevirtual 50, 3) := by decide +kernel
theorem dL_law_426 : decode cL_law 426 = .ok (.if_icmp .eq 712, 3) := by decide +kernel
theorem dL_law_429 : decode cL_law 429 = .ok (.iconst 0, 1) := by decide +kernel
theorem dL_law_430 : decode cL_law 430 = .ok (.ireturn, 1) := by decide +kernel
theorem dL_law_431 : decode cL_law 431 = .ok (.aload_n 1, 1) := by decide +kernel
theorem dL_law_432 : decode cL_law 432 = .ok (.aload_n 0, 1) := by decide +kernel
theorem dL_law_433 : decode cL_law 433 = .ok (.iload_n 3, 1) := by decide +kernel
theorem dL_law_434 : decode cL_law 434 = .ok (.iconst 1, 1) := by decide +kernel
theorem dL_law_435 : decode cL_law 435 = .ok (.iadd, 1) := by decide +kernel
theorem dL_law_436 : decode cL_law 436 = .ok (.iaload, 1) := by decide +kernel
theorem dL_law_437 : decode cL_law 437 = .ok (.invokevirtual 51, 3) := by decide +kernel
theorem dL_law_440 : decode cL_law 440 = .ok (.aload_n 2, 1) := by decide +kernel
theorem dL_law_441 : decode cL_law 441 = .ok (.aload_n 0, 1) := by decide +kernel
theorem dL_law_442 : decode cL_law 442 = .ok (.iload_n 3, 1) := by decide +kernel
theorem dL_law_443 : decode cL_law 443 = .ok (.iconst 1, 1) := by decide +kernel
theorem dL_law_444 : decode cL_law 444 = .ok (.iadd, 1) := by decide +kernel
theorem dL_law_445 : decode cL_law 445 = .ok (.iaload, 1) := by decide +kernel
theorem dL_law_446 : decode cL_law 446 = .ok (.invokevirtual 54, 3) := by decide +kernel
theorem dL_law_449 : decode cL_law 449 = .ok (.if_icmp .eq 689, 3) := by decide +kernel
theorem dL_law_452 : decode cL_law 452 = .ok (.iconst 0, 1) := by decide +kernel
theorem dL_law_453 : decode cL_law 453 = .ok (.ireturn, 1) := by decide +kernel
theorem dL_law_454 : decode cL_law 454 = .ok (.aload_n 1, 1) := by decide +kernel
theorem dL_law_455 : decode cL_law 455 = .ok (.aload_n 0, 1) := by decide +kernel
theorem dL_law_456 : decode cL_law 456 = .ok (.iload_n 3, 1) := by decide +kernel
theorem dL_law_457 : decode cL_law 457 = .ok (.iconst 1, 1) := by decide +kernel
theorem dL_law_458 : decode cL_law 458 = .ok (.iadd, 1) := by decide +kernel
theorem dL_law_459 : decode cL_law 459 = .ok (.iaload, 1) := by decide +kernel
theorem dL_law_460 : decode cL_law 460 = .ok (.aload_n 0, 1) := by decide +kernel
theorem dL_law_461 : decode cL_law 461 = .ok (.iload_n 3, 1) := by decide +kernel
theorem dL_law_462 : decode cL_law 462 = .ok (.iconst 2, 1) := by decide +kernel
theorem dL_law_463 : decode cL_law 463 = .ok (.iadd, 1) := by decide +kernel
theorem dL_law_464 : decode cL_law 464 = .ok (.iaload, 1) := by decide +kernel
theorem dL_law_465 : decode cL_law 465 = .ok (.invokevirtual 55, 3) := by decide +kernel
theorem dL_law_468 : decode cL_law 468 = .ok (.aload_n 2, 1) := by decide +kernel
theorem dL_law_469 : decode cL_law 469 = .ok (.aload_n 0, 1) := by decide +kernel
theorem dL_law_470 : decode cL_law 470 = .ok (.iload_n 3, 1) := by decide +kernel
theorem dL_law_471 : decode cL_law 471 = .ok (.iconst 1, 1) := by decide +kernel
theorem dL_law_472 : decode cL_law 472 = .ok (.iadd, 1) := by decide +kernel
theorem dL_law_473 : decode cL_law 473 = .ok (.iaload, 1) := by decide +kernel
theorem dL_law_474 : decode cL_law 474 = .ok (.aload_n 0, 1) := by decide +kernel
theorem dL_law_475 : decode cL_law 475 = .ok (.iload_n 3, 1) := by decide +kernel
theorem dL_law_476 : decode cL_law 476 = .ok (.iconst 2, 1) := by decide +kernel
theorem dL_law_477 : decode cL_law 477 = .ok (.iadd, 1) := by decide +kernel
theorem dL_law_478 : decode cL_law 478 = .ok (.iaload, 1) := by decide +kernel
theorem dL_law_479 : decode cL_law 479 = .ok (.invokevirtual 58, 3) := by decide +kernel
theorem dL_law_482 : decode cL_law 482 = .ok (.if_icmp .eq 656, 3) := by decide +kernel
theorem dL_law_485 : decode cL_law 485 = .ok (.iconst 0, 1) := by decide +kernel
theorem dL_law_486 : decode cL_law 486 = .ok (.ireturn, 1) := by decide +kernel
theorem dL_law_487 : decode cL_law 487 = .ok (.aload_n 1, 1) := by decide +kernel
theorem dL_law_488 : decode cL_law 488 = .ok (.aload_n 0, 1) := by decide +kernel
theorem dL_law_489 : decode cL_law 489 = .ok (.iload_n 3, 1) := by decide +kernel
theorem dL_law_490 : decode cL_law 490 = .ok (.iconst 1, 1) := by decide +kernel
theorem dL_law_491 : decode cL_law 491 = .ok (.iadd, 1) := by decide +kernel
theorem dL_law_492 : decode cL_law 492 = .ok (.iaload, 1) := by decide +kernel
theorem dL_law_493 : decode cL_law 493 = .ok (.aload_n 0, 1) := by decide +kernel
theorem dL_law_494 : decode cL_law 494 = .ok (.iload_n 3, 1) := by decide +kernel
theorem dL_law_495 : decode cL_law 495 = .ok (.iconst 2, 1) := by decide +kernel
theorem dL_law_496 : decode cL_law 496 = .ok (.iadd, 1) := by decide +kernel
theorem dL_law_497 : decode cL_law 497 = .ok (.iaload, 1) := by decide +kernel
theorem dL_law_498 : decode cL_law 498 = .ok (.invokevirtual 59, 3) := by decide +kernel
theorem dL_law_501 : decode cL_law 501 = .ok (.aload_n 2, 1) := by decide +kernel
theorem dL_law_502 : decode cL_law 502 = .ok (.aload_n 0, 1) := by decide +kernel
theorem dL_law_503 : decode cL_law 503 = .ok (.iload_n 3, 1) := by decide +kernel
theorem dL_law_504 : decode cL_law 504 = .ok (.iconst 1, 1) := by decide +kernel
theorem dL_law_505 : decode cL_law 505 = .ok (.iadd, 1) := by decide +kernel
theorem dL_law_506 : decode cL_law 506 = .ok (.iaload, 1) := by decide +kernel
theorem dL_law_507 : decode cL_law 507 = .ok (.aload_n 0, 1) := by decide +kernel
theorem dL_law_508 : decode cL_law 508 = .ok (.iload_n 3, 1) := by decide +kernel
theorem dL_law_509 : decode cL_law 509 = .ok (.iconst 2, 1) := by decide +kernel
theorem dL_law_510 : decode cL_law 510 = .ok (.iadd, 1) := by decide +kernel
theorem dL_law_511 : decode cL_law 511 = .ok (.iaload, 1) := by decide +kernel
theorem dL_law_512 : decode cL_law 512 = .ok (.invokevirtual 62, 3) := by decide +kernel
theorem dL_law_515 : decode cL_law 515 = .ok (.if_icmp .eq 623, 3) := by decide +kernel
theorem dL_law_518 : decode cL_law 518 = .ok (.iconst 0, 1) := by decide +kernel
theorem dL_law_519 : decode cL_law 519 = .ok (.ireturn, 1) := by decide +kernel
theorem dL_law_520 : decode cL_law 520 = .ok (.aload_n 1, 1) := by decide +kernel
theorem dL_law_521 : decode cL_law 521 = .ok (.aload_n 0, 1) := by decide +kernel
theorem dL_law_522 : decode cL_law 522 = .ok (.iload_n 3, 1) := by decide +kernel
theorem dL_law_523 : decode cL_law 523 = .ok (.iconst 1, 1) := by decide +kernel
theorem dL_law_524 : decode cL_law 524 = .ok (.iadd, 1) := by decide +kernel
theorem dL_law_525 : decode cL_law 525 = .ok (.iaload, 1) := by decide +kernel
theorem dL_law_526 : decode cL_law 526 = .ok (.invokevirtual 63, 3) := by decide +kernel
theorem dL_law_529 : decode cL_law 529 = .ok (.aload_n 2, 1) := by decide +kernel
theorem dL_law_530 : decode cL_law 530 = .ok (.aload_n 0, 1) := by decide +kernel
theorem dL_law_531 : decode cL_law 531 = .ok (.iload_n 3, 1) := by decide +kernel
theorem dL_law_532 : decode cL_law 532 = .ok (.iconst 1, 1) := by decide +kernel
theorem dL_law_533 : decode cL_law 533 = .ok (.iadd, 1) := by decide +kernel
theorem dL_law_534 : decode cL_law 534 = .ok (.iaload, 1) := by decide +kernel
theorem dL_law_535 : decode cL_law 535 = .ok (.invokevirtual 66, 3) := by decide +kernel
theorem dL_law_538 : decode cL_law 538 = .ok (.if_icmp .eq 600, 3) := by decide +kernel
theorem dL_law_541 : decode cL_law 541 = .ok (.iconst 0, 1) := by decide +kernel
theorem dL_law_542 : decode cL_law 542 = .ok (.ireturn, 1) := by decide +kernel
theorem dL_law_543 : decode cL_law 543 = .ok (.aload_n 1, 1) := by decide +kernel
theorem dL_law_544 : decode cL_law 544 = .ok (.invokevirtual 67, 3) := by decide +kernel
theorem dL_law_547 : decode cL_law 547 = .ok (.aload_n 2, 1) := by decide +kernel
theorem dL_law_548 : decode cL_law 548 = .ok (.invokevirtual 71, 3) := by decide +kernel
theorem dL_law_551 : decode cL_law 551 = .ok (.if_icmp .eq 587, 3) := by decide +kernel
theorem dL_law_554 : decode cL_law 554 = .ok (.iconst 0, 1) := by decide +kernel
theorem dL_law_555 : decode cL_law 555 = .ok (.ireturn, 1) := by decide +kernel
theorem dL_law_556 : decode cL_law 556 = .ok (.aload_n 1, 1) := by decide +kernel
theorem dL_law_557 : decode cL_law 557 = .ok (.invokevirtual 72, 3) := by decide +kernel
theorem dL_law_560 : decode cL_law 560 = .ok (.aload_n 2, 1) := by decide +kernel
theorem dL_law_561 : decode cL_law 561 = .ok (.invokevirtual 75, 3) := by decide +kernel
theorem dL_law_564 : decode cL_law 564 = .ok (.if_icmp .eq 574, 3) := by decide +kernel
theorem dL_law_567 : decode cL_law 567 = .ok (.iconst 0, 1) := by decide +kernel
theorem dL_law_568 : decode cL_law 568 = .ok (.ireturn, 1) := by decide +kernel
theorem dL_law_569 : decode cL_law 569 = .ok (.aload_n 1, 1) := by decide +kernel
theorem dL_law_570 : decode cL_law 570 = .ok (.aload_n 0, 1) := by decide +kernel
theorem dL_law_571 : decode cL_law 571 = .ok (.iload_n 3, 1) := by decide +kernel
theorem dL_law_572 : decode cL_law 572 = .ok (.iconst 1, 1) := by decide +kernel
theorem dL_law_573 : decode cL_law 573 = .ok (.iadd, 1) := by decide +kernel
theorem dL_law_574 : decode cL_law 574 = .ok (.iaload, 1) := by decide +kernel
theorem dL_law_575 : decode cL_law 575 = .ok (.invokevirtual 76, 3) := by decide +kernel
theorem dL_law_578 : decode cL_law 578 = .ok (.aload_n 2, 1) := by decide +kernel
theorem dL_law_579 : decode cL_law 579 = .ok (.aload_n 0, 1) := by decide +kernel
theorem dL_law_580 : decode cL_law 580 = .ok (.iload_n 3, 1) := by decide +kernel
theorem dL_law_581 : decode cL_law 581 = .ok (.iconst 1, 1) := by decide +kernel
theorem dL_law_582 : decode cL_law 582 = .ok (.iadd, 1) := by decide +kernel
theorem dL_law_583 : decode cL_law 583 = .ok (.iaload, 1) := by decide +kernel
theorem dL_law_584 : decode cL_law 584 = .ok (.invokevirtual 79, 3) := by decide +kernel
theorem dL_law_587 : decode cL_law 587 = .ok (.if_icmp .eq 551, 3) := by decide +kernel
theorem dL_law_590 : decode cL_law 590 = .ok (.iconst 0, 1) := by decide +kernel
theorem dL_law_591 : decode cL_law 591 = .ok (.ireturn, 1) := by decide +kernel
theorem dL_law_592 : decode cL_law 592 = .ok (.aload_n 1, 1) := by decide +kernel
theorem dL_law_593 : decode cL_law 593 = .ok (.aload_n 0, 1) := by decide +kernel
theorem dL_law_594 : decode cL_law 594 = .ok (.iload_n 3, 1) := by decide +kernel
theorem dL_law_595 : decode cL_law 595 = .ok (.iconst 1, 1) := by decide +kernel
theorem dL_law_596 : decode cL_law 596 = .ok (.iadd, 1) := by decide +kernel
theorem dL_law_597 : decode cL_law 597 = .ok (.iaload, 1) := by decide +kernel
theorem dL_law_598 : decode cL_law 598 = .ok (.invokevirtual 80, 3) := by decide +kernel
theorem dL_law_601 : decode cL_law 601 = .ok (.aload_n 2, 1) := by decide +kernel
theorem dL_law_602 : decode cL_law 602 = .ok (.aload_n 0, 1) := by decide +kernel
theorem dL_law_603 : decode cL_law 603 = .ok (.iload_n 3, 1) := by decide +kernel
theorem dL_law_604 : decode cL_law 604 = .ok (.iconst 1, 1) := by decide +kernel
theorem dL_law_605 : decode cL_law 605 = .ok (.iadd, 1) := by decide +kernel
theorem dL_law_606 : decode cL_law 606 = .ok (.iaload, 1) := by decide +kernel
theorem dL_law_607 : decode cL_law 607 = .ok (.invokevirtual 83, 3) := by decide +kernel
theorem dL_law_610 : decode cL_law 610 = .ok (.if_icmp .eq 528, 3) := by decide +kernel
theorem dL_law_613 : decode cL_law 613 = .ok (.iconst 0, 1) := by decide +kernel
theorem dL_law_614 : decode cL_law 614 = .ok (.ireturn, 1) := by decide +kernel
theorem dL_law_615 : decode cL_law 615 = .ok (.aload_n 1, 1) := by decide +kernel
theorem dL_law_616 : decode cL_law 616 = .ok (.aload_n 0, 1) := by decide +kernel
theorem dL_law_617 : decode cL_law 617 = .ok (.iload_n 3, 1) := by decide +kernel
theorem dL_law_618 : decode cL_law 618 = .ok (.iconst 1, 1) := by decide +kernel
theorem dL_law_619 : decode cL_law 619 = .ok (.iadd, 1) := by decide +kernel
theorem dL_law_620 : decode cL_law 620 = .ok (.iaload, 1) := by decide +kernel
theorem dL_law_621 : decode cL_law 621 = .ok (.aload_n 0, 1) := by decide +kernel
theorem dL_law_622 : decode cL_law 622 = .ok (.iload_n 3, 1) := by decide +kernel
theorem dL_law_623 : decode cL_law 623 = .ok (.iconst 2, 1) := by decide +kernel
theorem dL_law_624 : decode cL_law 624 = .ok (.iadd, 1) := by decide +kernel
theorem dL_law_625 : decode cL_law 625 = .ok (.iaload, 1) := by decide +kernel
theorem dL_law_626 : decode cL_law 626 = .ok (.invokevirtual 84, 3) := by decide +kernel
theorem dL_law_629 : decode cL_law 629 = .ok (.aload_n 2, 1) := by decide +kernel
theorem dL_law_630 : decode cL_law 630 = .ok (.aload_n 0, 1) := by decide +kernel
theorem dL_law_631 : decode cL_law 631 = .ok (.iload_n 3, 1) := by decide +kernel
theorem dL_law_632 : decode cL_law 632 = .ok (.iconst 1, 1) := by decide +kernel
theorem dL_law_633 : decode cL_law 633 = .ok (.iadd, 1) := by decide +kernel
theorem dL_law_634 : decode cL_law 634 = .ok (.iaload, 1) := by decide +kernel
theorem dL_law_635 : decode cL_law 635 = .ok (.aload_n 0, 1) := by decide +kernel
theorem dL_law_636 : decode cL_law 636 = .ok (.iload_n 3, 1) := by decide +kernel
theorem dL_law_637 : decode cL_law 637 = .ok (.iconst 2, 1) := by decide +kernel
theorem dL_law_638 : decode cL_law 638 = .ok (.iadd, 1) := by decide +kernel
theorem dL_law_639 : decode cL_law 639 = .ok (.iaload, 1) := by decide +kernel
theorem dL_law_640 : decode cL_law 640 = .ok (.invokevirtual 87, 3) := by decide +kernel
theorem dL_law_643 : decode cL_law 643 = .ok (.if_icmp .eq 495, 3) := by decide +kernel
theorem dL_law_646 : decode cL_law 646 = .ok (.iconst 0, 1) := by decide +kernel
theorem dL_law_647 : decode cL_law 647 = .ok (.ireturn, 1) := by decide +kernel
theorem dL_law_648 : decode cL_law 648 = .ok (.aload_n 1, 1) := by decide +kernel
theorem dL_law_649 : decode cL_law 649 = .ok (.aload_n 0, 1) := by decide +kernel
theorem dL_law_650 : decode cL_law 650 = .ok (.iload_n 3, 1) := by decide +kernel
theorem dL_law_651 : decode cL_law 651 = .ok (.iconst 1, 1) := by decide +kernel
theorem dL_law_652 : decode cL_law 652 = .ok (.iadd, 1) := by decide +kernel
theorem dL_law_653 : decode cL_law 653 = .ok (.iaload, 1) := by decide +kernel
theorem dL_law_654 : decode cL_law 654 = .ok (.aload_n 0, 1) := by decide +kernel
theorem dL_law_655 : decode cL_law 655 = .ok (.iload_n 3, 1) := by decide +kernel
theorem dL_law_656 : decode cL_law 656 = .ok (.iconst 2, 1) := by decide +kernel
theorem dL_law_657 : decode cL_law 657 = .ok (.iadd, 1) := by decide +kernel
theorem dL_law_658 : decode cL_law 658 = .ok (.iaload, 1) := by decide +kernel
theorem dL_law_659 : decode cL_law 659 = .ok (.invokevirtual 88, 3) := by decide +kernel
theorem dL_law_662 : decode cL_law 662 = .ok (.aload_n 2, 1) := by decide +kernel
theorem dL_law_663 : decode cL_law 663 = .ok (.aload_n 0, 1) := by decide +kernel
theorem dL_law_664 : decode cL_law 664 = .ok (.iload_n 3, 1) := by decide +kernel
theorem dL_law_665 : decode cL_law 665 = .ok (.iconst 1, 1) := by decide +kernel
theorem dL_law_666 : decode cL_law 666 = .ok (.iadd, 1) := by decide +kernel
theorem dL_law_667 : decode cL_law 667 = .ok (.iaload, 1) := by decide +kernel
theorem dL_law_668 : decode cL_law 668 = .ok (.aload_n 0, 1) := by decide +kernel
theorem dL_law_669 : decode cL_law 669 = .ok (.iload_n 3, 1) := by decide +kernel
theorem dL_law_670 : decode cL_law 670 = .ok (.iconst 2, 1) := by decide +kernel
theorem dL_law_671 : decode cL_law 671 = .ok (.iadd, 1) := by decide +kernel
end
section
theorem dL_law_672 : decode cL_law 672 = .ok (.iaload, 1) := by decide +kernel
theorem dL_law_673 : decode cL_law 673 = .ok (.invokevirtual 91, 3) := by decide +kernel
theorem dL_law_676 : decode cL_law 676 = .ok (.if_icmp .eq 462, 3) := by decide +kernel
theorem dL_law_679 : decode cL_law 679 = .ok (.iconst 0, 1) := by decide +kernel
theorem dL_law_680 : decode cL_law 680 = .ok (.ireturn, 1) := by decide +kernel
theorem dL_law_681 : decode cL_law 681 = .ok (.aload_n 1, 1) := by decide +kernel
theorem dL_law_682 : decode cL_law 682 = .ok (.invokevirtual 92, 3) := by decide +kernel
theorem dL_law_685 : decode cL_law 685 = .ok (.aload_n 2, 1) := by decide +kernel
theorem dL_law_686 : decode cL_law 686 = .ok (.invokevirtual 95, 3) := by decide +kernel
theorem dL_law_689 : decode cL_law 689 = .ok (.if_icmp .eq 449, 3) := by decide +kernel
theorem dL_law_692 : decode cL_law 692 = .ok (.iconst 0, 1) := by decide +kernel
theorem dL_law_693 : decode cL_law 693 = .ok (.ireturn, 1) := by decide +kernel
theorem dL_law_694 : decode cL_law 694 = .ok (.aload_n 1, 1) := by decide +kernel
theorem dL_law_695 : decode cL_law 695 = .ok (.aload_n 0, 1) := by decide +kernel
theorem dL_law_696 : decode cL_law 696 = .ok (.iload_n 3, 1) := by decide +kernel
theorem dL_law_697 : decode cL_law 697 = .ok (.iconst 1, 1) := by decide +kernel
theorem dL_law_698 : decode cL_law 698 = .ok (.iadd, 1) := by decide +kernel
theorem dL_law_699 : decode cL_law 699 = .ok (.iaload, 1) := by decide +kernel
theorem dL_law_700 : decode cL_law 700 = .ok (.invokevirtual 96, 3) := by decide +kernel
theorem dL_law_703 : decode cL_law 703 = .ok (.aload_n 2, 1) := by decide +kernel
theorem dL_law_704 : decode cL_law 704 = .ok (.aload_n 0, 1) := by decide +kernel
theorem dL_law_705 : decode cL_law 705 = .ok (.iload_n 3, 1) := by decide +kernel
theorem dL_law_706 : decode cL_law 706 = .ok (.iconst 1, 1) := by decide +kernel
theorem dL_law_707 : decode cL_law 707 = .ok (.iadd, 1) := by decide +kernel
theorem dL_law_708 : decode cL_law 708 = .ok (.iaload, 1) := by decide +kernel
theorem dL_law_709 : decode cL_law 709 = .ok (.invokevirtual 99, 3) := by decide +kernel
theorem dL_law_712 : decode cL_law 712 = .ok (.if_icmp .eq 426, 3) := by decide +kernel
theorem dL_law_715 : decode cL_law 715 = .ok (.iconst 0, 1) := by decide +kernel
theorem dL_law_716 : decode cL_law 716 = .ok (.ireturn, 1) := by decide +kernel
theorem dL_law_717 : decode cL_law 717 = .ok (.aload_n 1, 1) := by decide +kernel
theorem dL_law_718 : decode cL_law 718 = .ok (.aload_n 0, 1) := by decide +kernel
theorem dL_law_719 : decode cL_law 719 = .ok (.iload_n 3, 1) := by decide +kernel
theorem dL_law_720 : decode cL_law 720 = .ok (.iconst 1, 1) := by decide +kernel
theorem dL_law_721 : decode cL_law 721 = .ok (.iadd, 1) := by decide +kernel
theorem dL_law_722 : decode cL_law 722 = .ok (.iaload, 1) := by decide +kernel
theorem dL_law_723 : decode cL_law 723 = .ok (.invokevirtual 100, 3) := by decide +kernel
theorem dL_law_726 : decode cL_law 726 = .ok (.aload_n 2, 1) := by decide +kernel
theorem dL_law_727 : decode cL_law 727 = .ok (.aload_n 0, 1) := by decide +kernel
theorem dL_law_728 : decode cL_law 728 = .ok (.iload_n 3, 1) := by decide +kernel
theorem dL_law_729 : decode cL_law 729 = .ok (.iconst 1, 1) := by decide +kernel
theorem dL_law_730 : decode cL_law 730 = .ok (.iadd, 1) := by decide +kernel
theorem dL_law_731 : decode cL_law 731 = .ok (.iaload, 1) := by decide +kernel
theorem dL_law_732 : decode cL_law 732 = .ok (.invokevirtual 103, 3) := by decide +kernel
theorem dL_law_735 : decode cL_law 735 = .ok (.if_icmp .eq 403, 3) := by decide +kernel
theorem dL_law_738 : decode cL_law 738 = .ok (.iconst 0, 1) := by decide +kernel
theorem dL_law_739 : decode cL_law 739 = .ok (.ireturn, 1) := by decide +kernel
theorem dL_law_740 : decode cL_law 740 = .ok (.aload_n 1, 1) := by decide +kernel
theorem dL_law_741 : decode cL_law 741 = .ok (.invokevirtual 104, 3) := by decide +kernel
theorem dL_law_744 : decode cL_law 744 = .ok (.aload_n 2, 1) := by decide +kernel
theorem dL_law_745 : decode cL_law 745 = .ok (.invokevirtual 107, 3) := by decide +kernel
theorem dL_law_748 : decode cL_law 748 = .ok (.if_icmp .eq 390, 3) := by decide +kernel
theorem dL_law_751 : decode cL_law 751 = .ok (.iconst 0, 1) := by decide +kernel
theorem dL_law_752 : decode cL_law 752 = .ok (.ireturn, 1) := by decide +kernel
theorem dL_law_753 : decode cL_law 753 = .ok (.aload_n 1, 1) := by decide +kernel
theorem dL_law_754 : decode cL_law 754 = .ok (.invokevirtual 108, 3) := by decide +kernel
theorem dL_law_757 : decode cL_law 757 = .ok (.aload_n 2, 1) := by decide +kernel
theorem dL_law_758 : decode cL_law 758 = .ok (.invokevirtual 111, 3) := by decide +kernel
theorem dL_law_761 : decode cL_law 761 = .ok (.if_icmp .eq 377, 3) := by decide +kernel
theorem dL_law_764 : decode cL_law 764 = .ok (.iconst 0, 1) := by decide +kernel
theorem dL_law_765 : decode cL_law 765 = .ok (.ireturn, 1) := by decide +kernel
theorem dL_law_766 : decode cL_law 766 = .ok (.aload_n 1, 1) := by decide +kernel
theorem dL_law_767 : decode cL_law 767 = .ok (.aload_n 0, 1) := by decide +kernel
theorem dL_law_768 : decode cL_law 768 = .ok (.iload_n 3, 1) := by decide +kernel
theorem dL_law_769 : decode cL_law 769 = .ok (.iconst 1, 1) := by decide +kernel
theorem dL_law_770 : decode cL_law 770 = .ok (.iadd, 1) := by decide +kernel
theorem dL_law_771 : decode cL_law 771 = .ok (.iaload, 1) := by decide +kernel
theorem dL_law_772 : decode cL_law 772 = .ok (.aload_n 0, 1) := by decide +kernel
theorem dL_law_773 : decode cL_law 773 = .ok (.iload_n 3, 1) := by decide +kernel
theorem dL_law_774 : decode cL_law 774 = .ok (.iconst 2, 1) := by decide +kernel
theorem dL_law_775 : decode cL_law 775 = .ok (.iadd, 1) := by decide +kernel
theorem dL_law_776 : decode cL_law 776 = .ok (.iaload, 1) := by decide +kernel
theorem dL_law_777 : decode cL_law 777 = .ok (.aload_n 0, 1) := by decide +kernel
theorem dL_law_778 : decode cL_law 778 = .ok (.iload_n 3, 1) := by decide +kernel
theorem dL_law_779 : decode cL_law 779 = .ok (.iconst 3, 1) := by decide +kernel
theorem dL_law_780 : decode cL_law 780 = .ok (.iadd, 1) := by decide +kernel
theorem dL_law_781 : decode cL_law 781 = .ok (.iaload, 1) := by decide +kernel
theorem dL_law_782 : decode cL_law 782 = .ok (.invokevirtual 112, 3) := by decide +kernel
theorem dL_law_785 : decode cL_law 785 = .ok (.aload_n 2, 1) := by decide +kernel
theorem dL_law_786 : decode cL_law 786 = .ok (.aload_n 0, 1) := by decide +kernel
theorem dL_law_787 : decode cL_law 787 = .ok (.iload_n 3, 1) := by decide +kernel
theorem dL_law_788 : decode cL_law 788 = .ok (.iconst 1, 1) := by decide +kernel
theorem dL_law_789 : decode cL_law 789 = .ok (.iadd, 1) := by decide +kernel
theorem dL_law_790 : decode cL_law 790 = .ok (.iaload, 1) := by decide +kernel
theorem dL_law_791 : decode cL_law 791 = .ok (.aload_n 0, 1) := by decide +kernel
theorem dL_law_792 : decode cL_law 792 = .ok (.iload_n 3, 1) := by decide +kernel
theorem dL_law_793 : decode cL_law 793 = .ok (.iconst 2, 1) := by decide +kernel
theorem dL_law_794 : decode cL_law 794 = .ok (.iadd, 1) := by decide +kernel
theorem dL_law_795 : decode cL_law 795 = .ok (.iaload, 1) := by decide +kernel
theorem dL_law_796 : decode cL_law 796 = .ok (.aload_n 0, 1) := by decide +kernel
theorem dL_law_797 : decode cL_law 797 = .ok (.iload_n 3, 1) := by decide +kernel
theorem dL_law_798 : decode cL_law 798 = .ok (.iconst 3, 1) := by decide +kernel
theorem dL_law_799 : decode cL_law 799 = .ok (.iadd, 1) := by decide +kernel
theorem dL_law_800 : decode cL_law 800 = .ok (.iaload, 1) := by decide +kernel
theorem dL_law_801 : decode cL_law 801 = .ok (.invokevirtual 116, 3) := by decide +kernel
theorem dL_law_804 : decode cL_law 804 = .ok (.lcmp, 1) := by decide +kernel
theorem dL_law_805 : decode cL_law 805 = .ok (.ifCond .eq 333, 3) := by decide +kernel
theorem dL_law_808 : decode cL_law 808 = .ok (.iconst 0, 1) := by decide +kernel
theorem dL_law_809 : decode cL_law 809 = .ok (.ireturn, 1) := by decide +kernel
theorem dL_law_810 : decode cL_law 810 = .ok (.aload_n 1, 1) := by decide +kernel
theorem dL_law_811 : decode cL_law 811 = .ok (.aload_n 0, 1) := by decide +kernel
theorem dL_law_812 : decode cL_law 812 = .ok (.iload_n 3, 1) := by decide +kernel
theorem dL_law_813 : decode cL_law 813 = .ok (.iconst 1, 1) := by decide +kernel
theorem dL_law_814 : decode cL_law 814 = .ok (.iadd, 1) := by decide +kernel
theorem dL_law_815 : decode cL_law 815 = .ok (.iaload, 1) := by decide +kernel
theorem dL_law_816 : decode cL_law 816 = .ok (.aload_n 0, 1) := by decide +kernel
theorem dL_law_817 : decode cL_law 817 = .ok (.iload_n 3, 1) := by decide +kernel
theorem dL_law_818 : decode cL_law 818 = .ok (.iconst 2, 1) := by decide +kernel
theorem dL_law_819 : decode cL_law 819 = .ok (.iadd, 1) := by decide +kernel
theorem dL_law_820 : decode cL_law 820 = .ok (.iaload, 1) := by decide +kernel
theorem dL_law_821 : decode cL_law 821 = .ok (.aload_n 0, 1) := by decide +kernel
theorem dL_law_822 : decode cL_law 822 = .ok (.iload_n 3, 1) := by decide +kernel
theorem dL_law_823 : decode cL_law 823 = .ok (.iconst 3, 1) := by decide +kernel
theorem dL_law_824 : decode cL_law 824 = .ok (.iadd, 1) := by decide +kernel
theorem dL_law_825 : decode cL_law 825 = .ok (.iaload, 1) := by decide +kernel
theorem dL_law_826 : decode cL_law 826 = .ok (.invokevirtual 117, 3) := by decide +kernel
theorem dL_law_829 : decode cL_law 829 = .ok (.aload_n 2, 1) := by decide +kernel
theorem dL_law_830 : decode cL_law 830 = .ok (.aload_n 0, 1) := by decide +kernel
theorem dL_law_831 : decode cL_law 831 = .ok (.iload_n 3, 1) := by decide +kernel
theorem dL_law_832 : decode cL_law 832 = .ok (.iconst 1, 1) := by decide +kernel
theorem dL_law_833 : decode cL_law 833 = .ok (.iadd, 1) := by decide +kernel
theorem dL_law_834 : decode cL_law 834 = .ok (.iaload, 1) := by decide +kernel
theorem dL_law_835 : decode cL_law 835 = .ok (.aload_n 0, 1) := by decide +kernel
theorem dL_law_836 : decode cL_law 836 = .ok (.iload_n 3, 1) := by decide +kernel
theorem dL_law_837 : decode cL_law 837 = .ok (.iconst 2, 1) := by decide +kernel
theorem dL_law_838 : decode cL_law 838 = .ok (.iadd, 1) := by decide +kernel
theorem dL_law_839 : decode cL_law 839 = .ok (.iaload, 1) := by decide +kernel
theorem dL_law_840 : decode cL_law 840 = .ok (.aload_n 0, 1) := by decide +kernel
theorem dL_law_841 : decode cL_law 841 = .ok (.iload_n 3, 1) := by decide +kernel
theorem dL_law_842 : decode cL_law 842 = .ok (.iconst 3, 1) := by decide +kernel
theorem dL_law_843 : decode cL_law 843 = .ok (.iadd, 1) := by decide +kernel
theorem dL_law_844 : decode cL_law 844 = .ok (.iaload, 1) := by decide +kernel
theorem dL_law_845 : decode cL_law 845 = .ok (.invokevirtual 121, 3) := by decide +kernel
theorem dL_law_848 : decode cL_law 848 = .ok (.if_icmp .eq 290, 3) := by decide +kernel
theorem dL_law_851 : decode cL_law 851 = .ok (.iconst 0, 1) := by decide +kernel
theorem dL_law_852 : decode cL_law 852 = .ok (.ireturn, 1) := by decide +kernel
theorem dL_law_853 : decode cL_law 853 = .ok (.aload_n 1, 1) := by decide +kernel
theorem dL_law_854 : decode cL_law 854 = .ok (.aload_n 0, 1) := by decide +kernel
theorem dL_law_855 : decode cL_law 855 = .ok (.iload_n 3, 1) := by decide +kernel
theorem dL_law_856 : decode cL_law 856 = .ok (.iconst 1, 1) := by decide +kernel
theorem dL_law_857 : decode cL_law 857 = .ok (.iadd, 1) := by decide +kernel
theorem dL_law_858 : decode cL_law 858 = .ok (.iaload, 1) := by decide +kernel
theorem dL_law_859 : decode cL_law 859 = .ok (.aload_n 0, 1) := by decide +kernel
theorem dL_law_860 : decode cL_law 860 = .ok (.iload_n 3, 1) := by decide +kernel
theorem dL_law_861 : decode cL_law 861 = .ok (.iconst 2, 1) := by decide +kernel
theorem dL_law_862 : decode cL_law 862 = .ok (.iadd, 1) := by decide +kernel
theorem dL_law_863 : decode cL_law 863 = .ok (.iaload, 1) := by decide +kernel
theorem dL_law_864 : decode cL_law 864 = .ok (.aload_n 0, 1) := by decide +kernel
theorem dL_law_865 : decode cL_law 865 = .ok (.iload_n 3, 1) := by decide +kernel
theorem dL_law_866 : decode cL_law 866 = .ok (.iconst 3, 1) := by decide +kernel
theorem dL_law_867 : decode cL_law 867 = .ok (.iadd, 1) := by decide +kernel
theorem dL_law_868 : decode cL_law 868 = .ok (.iaload, 1) := by decide +kernel
theorem dL_law_869 : decode cL_law 869 = .ok (.invokevirtual 122, 3) := by decide +kernel
theorem dL_law_872 : decode cL_law 872 = .ok (.aload_n 2, 1) := by decide +kernel
theorem dL_law_873 : decode cL_law 873 = .ok (.aload_n 0, 1) := by decide +kernel
theorem dL_law_874 : decode cL_law 874 = .ok (.iload_n 3, 1) := by decide +kernel
theorem dL_law_875 : decode cL_law 875 = .ok (.iconst 1, 1) := by decide +kernel
theorem dL_law_876 : decode cL_law 876 = .ok (.iadd, 1) := by decide +kernel
theorem dL_law_877 : decode cL_law 877 = .ok (.iaload, 1) := by decide +kernel
theorem dL_law_878 : decode cL_law 878 = .ok (.aload_n 0, 1) := by decide +kernel
theorem dL_law_879 : decode cL_law 879 = .ok (.iload_n 3, 1) := by decide +kernel
theorem dL_law_880 : decode cL_law 880 = .ok (.iconst 2, 1) := by decide +kernel
theorem dL_law_881 : decode cL_law 881 = .ok (.iadd, 1) := by decide +kernel
theorem dL_law_882 : decode cL_law 882 = .ok (.iaload, 1) := by decide +kernel
theorem dL_law_883 : decode cL_law 883 = .ok (.aload_n 0, 1) := by decide +kernel
theorem dL_law_884 : decode cL_law 884 = .ok (.iload_n 3, 1) := by decide +kernel
theorem dL_law_885 : decode cL_law 885 = .ok (.iconst 3, 1) := by decide +kernel
theorem dL_law_886 : decode cL_law 886 = .ok (.iadd, 1) := by decide +kernel
theorem dL_law_887 : decode cL_law 887 = .ok (.iaload, 1) := by decide +kernel
theorem dL_law_888 : decode cL_law 888 = .ok (.invokevirtual 125, 3) := by decide +kernel
theorem dL_law_891 : decode cL_law 891 = .ok (.if_icmp .eq 247, 3) := by decide +kernel
theorem dL_law_894 : decode cL_law 894 = .ok (.iconst 0, 1) := by decide +kernel
theorem dL_law_895 : decode cL_law 895 = .ok (.ireturn, 1) := by decide +kernel
theorem dL_law_896 : decode cL_law 896 = .ok (.aload_n 1, 1) := by decide +kernel
theorem dL_law_897 : decode cL_law 897 = .ok (.aload_n 0, 1) := by decide +kernel
theorem dL_law_898 : decode cL_law 898 = .ok (.iload_n 3, 1) := by decide +kernel
theorem dL_law_899 : decode cL_law 899 = .ok (.iconst 1, 1) := by decide +kernel
theorem dL_law_900 : decode cL_law 900 = .ok (.iadd, 1) := by decide +kernel
theorem dL_law_901 : decode cL_law 901 = .ok (.iaload, 1) := by decide +kernel
theorem dL_law_902 : decode cL_law 902 = .ok (.invokevirtual 126, 3) := by decide +kernel
theorem dL_law_905 : decode cL_law 905 = .ok (.aload_n 2, 1) := by decide +kernel
theorem dL_law_906 : decode cL_law 906 = .ok (.aload_n 0, 1) := by decide +kernel
theorem dL_law_907 : decode cL_law 907 = .ok (.iload_n 3, 1) := by decide +kernel
theorem dL_law_908 : decode cL_law 908 = .ok (.iconst 1, 1) := by decide +kernel
theorem dL_law_909 : decode cL_law 909 = .ok (.iadd, 1) := by decide +kernel
theorem dL_law_910 : decode cL_law 910 = .ok (.iaload, 1) := by decide +kernel
theorem dL_law_911 : decode cL_law 911 = .ok (.invokevirtual 129, 3) := by decide +kernel
theorem dL_law_914 : decode cL_law 914 = .ok (.if_icmp .eq 224, 3) := by decide +kernel
theorem dL_law_917 : decode cL_law 917 = .ok (.iconst 0, 1) := by decide +kernel
theorem dL_law_918 : decode cL_law 918 = .ok (.ireturn, 1) := by decide +kernel
theorem dL_law_919 : decode cL_law 919 = .ok (.aload_n 1, 1) := by decide +kernel
theorem dL_law_920 : decode cL_law 920 = .ok (.aload_n 0, 1) := by decide +kernel
theorem dL_law_921 : decode cL_law 921 = .ok (.iload_n 3, 1) := by decide +kernel
theorem dL_law_922 : decode cL_law 922 = .ok (.iconst 1, 1) := by decide +kernel
theorem dL_law_923 : decode cL_law 923 = .ok (.iadd, 1) := by decide +kernel
theorem dL_law_924 : decode cL_law 924 = .ok (.iaload, 1) := by decide +kernel
theorem dL_law_925 : decode cL_law 925 = .ok (.aload_n 0, 1) := by decide +kernel
theorem dL_law_926 : decode cL_law 926 = .ok (.iload_n 3, 1) := by decide +kernel
theorem dL_law_927 : decode cL_law 927 = .ok (.iconst 2, 1) := by decide +kernel
theorem dL_law_928 : decode cL_law 928 = .ok (.iadd, 1) := by decide +kernel
theorem dL_law_929 : decode cL_law 929 = .ok (.iaload, 1) := by decide +kernel
end
section
theorem dL_law_930 : decode cL_law 930 = .ok (.aload_n 0, 1) := by decide +kernel
theorem dL_law_931 : decode cL_law 931 = .ok (.iload_n 3, 1) := by decide +kernel
theorem dL_law_932 : decode cL_law 932 = .ok (.iconst 3, 1) := by decide +kernel
theorem dL_law_933 : decode cL_law 933 = .ok (.iadd, 1) := by decide +kernel
theorem dL_law_934 : decode cL_law 934 = .ok (.iaload, 1) := by decide +kernel
theorem dL_law_935 : decode cL_law 935 = .ok (.aload_n 0, 1) := by decide +kernel
theorem dL_law_936 : decode cL_law 936 = .ok (.iload_n 3, 1) := by decide +kernel
theorem dL_law_937 : decode cL_law 937 = .ok (.iconst 4, 1) := by decide +kernel
theorem dL_law_938 : decode cL_law 938 = .ok (.iadd, 1) := by decide +kernel
theorem dL_law_939 : decode cL_law 939 = .ok (.iaload, 1) := by decide +kernel
theorem dL_law_940 : decode cL_law 940 = .ok (.invokevirtual 130, 3) := by decide +kernel
theorem dL_law_943 : decode cL_law 943 = .ok (.aload_n 2, 1) := by decide +kernel
theorem dL_law_944 : decode cL_law 944 = .ok (.aload_n 0, 1) := by decide +kernel
theorem dL_law_945 : decode cL_law 945 = .ok (.iload_n 3, 1) := by decide +kernel
theorem dL_law_946 : decode cL_law 946 = .ok (.iconst 1, 1) := by decide +kernel
theorem dL_law_947 : decode cL_law 947 = .ok (.iadd, 1) := by decide +kernel
theorem dL_law_948 : decode cL_law 948 = .ok (.iaload, 1) := by decide +kernel
theorem dL_law_949 : decode cL_law 949 = .ok (.aload_n 0, 1) := by decide +kernel
theorem dL_law_950 : decode cL_law 950 = .ok (.iload_n 3, 1) := by decide +kernel
theorem dL_law_951 : decode cL_law 951 = .ok (.iconst 2, 1) := by decide +kernel
theorem dL_law_952 : decode cL_law 952 = .ok (.iadd, 1) := by decide +kernel
theorem dL_law_953 : decode cL_law 953 = .ok (.iaload, 1) := by decide +kernel
theorem dL_law_954 : decode cL_law 954 = .ok (.aload_n 0, 1) := by decide +kernel
theorem dL_law_955 : decode cL_law 955 = .ok (.iload_n 3, 1) := by decide +kernel
theorem dL_law_956 : decode cL_law 956 = .ok (.iconst 3, 1) := by decide +kernel
theorem dL_law_957 : decode cL_law 957 = .ok (.iadd, 1) := by decide +kernel
theorem dL_law_958 : decode cL_law 958 = .ok (.iaload, 1) := by decide +kernel
theorem dL_law_959 : decode cL_law 959 = .ok (.aload_n 0, 1) := by decide +kernel
theorem dL_law_960 : decode cL_law 960 = .ok (.iload_n 3, 1) := by decide +kernel
theorem dL_law_961 : decode cL_law 961 = .ok (.iconst 4, 1) := by decide +kernel
theorem dL_law_962 : decode cL_law 962 = .ok (.iadd, 1) := by decide +kernel
theorem dL_law_963 : decode cL_law 963 = .ok (.iaload, 1) := by decide +kernel
theorem dL_law_964 : decode cL_law 964 = .ok (.invokevirtual 134, 3) := by decide +kernel
theorem dL_law_967 : decode cL_law 967 = .ok (.if_icmp .eq 171, 3) := by decide +kernel
theorem dL_law_970 : decode cL_law 970 = .ok (.iconst 0, 1) := by decide +kernel
theorem dL_law_971 : decode cL_law 971 = .ok (.ireturn, 1) := by decide +kernel
theorem dL_law_972 : decode cL_law 972 = .ok (.aload_n 1, 1) := by decide +kernel
theorem dL_law_973 : decode cL_law 973 = .ok (.aload_n 0, 1) := by decide +kernel
theorem dL_law_974 : decode cL_law 974 = .ok (.iload_n 3, 1) := by decide +kernel
theorem dL_law_975 : decode cL_law 975 = .ok (.iconst 1, 1) := by decide +kernel
theorem dL_law_976 : decode cL_law 976 = .ok (.iadd, 1) := by decide +kernel
theorem dL_law_977 : decode cL_law 977 = .ok (.iaload, 1) := by decide +kernel
theorem dL_law_978 : decode cL_law 978 = .ok (.aload_n 0, 1) := by decide +kernel
theorem dL_law_979 : decode cL_law 979 = .ok (.iload_n 3, 1) := by decide +kernel
theorem dL_law_980 : decode cL_law 980 = .ok (.iconst 2, 1) := by decide +kernel
theorem dL_law_981 : decode cL_law 981 = .ok (.iadd, 1) := by decide +kernel
theorem dL_law_982 : decode cL_law 982 = .ok (.iaload, 1) := by decide +kernel
theorem dL_law_983 : decode cL_law 983 = .ok (.aload_n 0, 1) := by decide +kernel
theorem dL_law_984 : decode cL_law 984 = .ok (.iload_n 3, 1) := by decide +kernel
theorem dL_law_985 : decode cL_law 985 = .ok (.iconst 3, 1) := by decide +kernel
theorem dL_law_986 : decode cL_law 986 = .ok (.iadd, 1) := by decide +kernel
theorem dL_law_987 : decode cL_law 987 = .ok (.iaload, 1) := by decide +kernel
theorem dL_law_988 : decode cL_law 988 = .ok (.invokevirtual 135, 3) := by decide +kernel
theorem dL_law_991 : decode cL_law 991 = .ok (.aload_n 2, 1) := by decide +kernel
theorem dL_law_992 : decode cL_law 992 = .ok (.aload_n 0, 1) := by decide +kernel
theorem dL_law_993 : decode cL_law 993 = .ok (.iload_n 3, 1) := by decide +kernel
theorem dL_law_994 : decode cL_law 994 = .ok (.iconst 1, 1) := by decide +kernel
theorem dL_law_995 : decode cL_law 995 = .ok (.iadd, 1) := by decide +kernel
theorem dL_law_996 : decode cL_law 996 = .ok (.iaload, 1) := by decide +kernel
theorem dL_law_997 : decode cL_law 997 = .ok (.aload_n 0, 1) := by decide +kernel
theorem dL_law_998 : decode cL_law 998 = .ok (.iload_n 3, 1) := by decide +kernel
theorem dL_law_999 : decode cL_law 999 = .ok (.iconst 2, 1) := by decide +kernel
theorem dL_law_1000 : decode cL_law 1000 = .ok (.iadd, 1) := by decide +kernel
theorem dL_law_1001 : decode cL_law 1001 = .ok (.iaload, 1) := by decide +kernel
theorem dL_law_1002 : decode cL_law 1002 = .ok (.aload_n 0, 1) := by decide +kernel
theorem dL_law_1003 : decode cL_law 1003 = .ok (.iload_n 3, 1) := by decide +kernel
theorem dL_law_1004 : decode cL_law 1004 = .ok (.iconst 3, 1) := by decide +kernel
theorem dL_law_1005 : decode cL_law 1005 = .ok (.iadd, 1) := by decide +kernel
theorem dL_law_1006 : decode cL_law 1006 = .ok (.iaload, 1) := by decide +kernel
theorem dL_law_1007 : decode cL_law 1007 = .ok (.invokevirtual 138, 3) := by decide +kernel
theorem dL_law_1010 : decode cL_law 1010 = .ok (.if_icmp .eq 128, 3) := by decide +kernel
theorem dL_law_1013 : decode cL_law 1013 = .ok (.iconst 0, 1) := by decide +kernel
theorem dL_law_1014 : decode cL_law 1014 = .ok (.ireturn, 1) := by decide +kernel
theorem dL_law_1015 : decode cL_law 1015 = .ok (.aload_n 1, 1) := by decide +kernel
theorem dL_law_1016 : decode cL_law 1016 = .ok (.aload_n 0, 1) := by decide +kernel
theorem dL_law_1017 : decode cL_law 1017 = .ok (.iload_n 3, 1) := by decide +kernel
theorem dL_law_1018 : decode cL_law 1018 = .ok (.iconst 1, 1) := by decide +kernel
theorem dL_law_1019 : decode cL_law 1019 = .ok (.iadd, 1) := by decide +kernel
theorem dL_law_1020 : decode cL_law 1020 = .ok (.iaload, 1) := by decide +kernel
theorem dL_law_1021 : decode cL_law 1021 = .ok (.aload_n 0, 1) := by decide +kernel
theorem dL_law_1022 : decode cL_law 1022 = .ok (.iload_n 3, 1) := by decide +kernel
theorem dL_law_1023 : decode cL_law 1023 = .ok (.iconst 2, 1) := by decide +kernel
theorem dL_law_1024 : decode cL_law 1024 = .ok (.iadd, 1) := by decide +kernel
theorem dL_law_1025 : decode cL_law 1025 = .ok (.iaload, 1) := by decide +kernel
theorem dL_law_1026 : decode cL_law 1026 = .ok (.aload_n 0, 1) := by decide +kernel
theorem dL_law_1027 : decode cL_law 1027 = .ok (.iload_n 3, 1) := by decide +kernel
theorem dL_law_1028 : decode cL_law 1028 = .ok (.iconst 3, 1) := by decide +kernel
theorem dL_law_1029 : decode cL_law 1029 = .ok (.iadd, 1) := by decide +kernel
theorem dL_law_1030 : decode cL_law 1030 = .ok (.iaload, 1) := by decide +kernel
theorem dL_law_1031 : decode cL_law 1031 = .ok (.aload_n 0, 1) := by decide +kernel
theorem dL_law_1032 : decode cL_law 1032 = .ok (.iload_n 3, 1) := by decide +kernel
theorem dL_law_1033 : decode cL_law 1033 = .ok (.iconst 4, 1) := by decide +kernel
theorem dL_law_1034 : decode cL_law 1034 = .ok (.iadd, 1) := by decide +kernel
theorem dL_law_1035 : decode cL_law 1035 = .ok (.iaload, 1) := by decide +kernel
theorem dL_law_1036 : decode cL_law 1036 = .ok (.aload_n 0, 1) := by decide +kernel
theorem dL_law_1037 : decode cL_law 1037 = .ok (.iload_n 3, 1) := by decide +kernel
theorem dL_law_1038 : decode cL_law 1038 = .ok (.iconst 5, 1) := by decide +kernel
theorem dL_law_1039 : decode cL_law 1039 = .ok (.iadd, 1) := by decide +kernel
theorem dL_law_1040 : decode cL_law 1040 = .ok (.iaload, 1) := by decide +kernel
theorem dL_law_1041 : decode cL_law 1041 = .ok (.invokevirtual 139, 3) := by decide +kernel
theorem dL_law_1044 : decode cL_law 1044 = .ok (.aload_n 2, 1) := by decide +kernel
theorem dL_law_1045 : decode cL_law 1045 = .ok (.aload_n 0, 1) := by decide +kernel
theorem dL_law_1046 : decode cL_law 1046 = .ok (.iload_n 3, 1) := by decide +kernel
theorem dL_law_1047 : decode cL_law 1047 = .ok (.iconst 1, 1) := by decide +kernel
theorem dL_law_1048 : decode cL_law 1048 = .ok (.iadd, 1) := by decide +kernel
theorem dL_law_1049 : decode cL_law 1049 = .ok (.iaload, 1) := by decide +kernel
theorem dL_law_1050 : decode cL_law 1050 = .ok (.aload_n 0, 1) := by decide +kernel
theorem dL_law_1051 : decode cL_law 1051 = .ok (.iload_n 3, 1) := by decide +kernel
theorem dL_law_1052 : decode cL_law 1052 = .ok (.iconst 2, 1) := by decide +kernel
theorem dL_law_1053 : decode cL_law 1053 = .ok (.iadd, 1) := by decide +kernel
theorem dL_law_1054 : decode cL_law 1054 = .ok (.iaload, 1) := by decide +kernel
theorem dL_law_1055 : decode cL_law 1055 = .ok (.aload_n 0, 1) := by decide +kernel
theorem dL_law_1056 : decode cL_law 1056 = .ok (.iload_n 3, 1) := by decide +kernel
theorem dL_law_1057 : decode cL_law 1057 = .ok (.iconst 3, 1) := by decide +kernel
theorem dL_law_1058 : decode cL_law 1058 = .ok (.iadd, 1) := by decide +kernel
theorem dL_law_1059 : decode cL_law 1059 = .ok (.iaload, 1) := by decide +kernel
theorem dL_law_1060 : decode cL_law 1060 = .ok (.aload_n 0, 1) := by decide +kernel
theorem dL_law_1061 : decode cL_law 1061 = .ok (.iload_n 3, 1) := by decide +kernel
theorem dL_law_1062 : decode cL_law 1062 = .ok (.iconst 4, 1) := by decide +kernel
theorem dL_law_1063 : decode cL_law 1063 = .ok (.iadd, 1) := by decide +kernel
theorem dL_law_1064 : decode cL_law 1064 = .ok (.iaload, 1) := by decide +kernel
theorem dL_law_1065 : decode cL_law 1065 = .ok (.aload_n 0, 1) := by decide +kernel
theorem dL_law_1066 : decode cL_law 1066 = .ok (.iload_n 3, 1) := by decide +kernel
theorem dL_law_1067 : decode cL_law 1067 = .ok (.iconst 5, 1) := by decide +kernel
theorem dL_law_1068 : decode cL_law 1068 = .ok (.iadd, 1) := by decide +kernel
theorem dL_law_1069 : decode cL_law 1069 = .ok (.iaload, 1) := by decide +kernel
theorem dL_law_1070 : decode cL_law 1070 = .ok (.invokevirtual 143, 3) := by decide +kernel
theorem dL_law_1073 : decode cL_law 1073 = .ok (.if_icmp .eq 65, 3) := by decide +kernel
theorem dL_law_1076 : decode cL_law 1076 = .ok (.iconst 0, 1) := by decide +kernel
theorem dL_law_1077 : decode cL_law 1077 = .ok (.ireturn, 1) := by decide +kernel
theorem dL_law_1078 : decode cL_law 1078 = .ok (.aload_n 1, 1) := by decide +kernel
theorem dL_law_1079 : decode cL_law 1079 = .ok (.aload_n 0, 1) := by decide +kernel
theorem dL_law_1080 : decode cL_law 1080 = .ok (.iload_n 3, 1) := by decide +kernel
theorem dL_law_1081 : decode cL_law 1081 = .ok (.iconst 1, 1) := by decide +kernel
theorem dL_law_1082 : decode cL_law 1082 = .ok (.iadd, 1) := by decide +kernel
theorem dL_law_1083 : decode cL_law 1083 = .ok (.iaload, 1) := by decide +kernel
theorem dL_law_1084 : decode cL_law 1084 = .ok (.invokevirtual 144, 3) := by decide +kernel
theorem dL_law_1087 : decode cL_law 1087 = .ok (.aload_n 2, 1) := by decide +kernel
theorem dL_law_1088 : decode cL_law 1088 = .ok (.aload_n 0, 1) := by decide +kernel
theorem dL_law_1089 : decode cL_law 1089 = .ok (.iload_n 3, 1) := by decide +kernel
theorem dL_law_1090 : decode cL_law 1090 = .ok (.iconst 1, 1) := by decide +kernel
theorem dL_law_1091 : decode cL_law 1091 = .ok (.iadd, 1) := by decide +kernel
theorem dL_law_1092 : decode cL_law 1092 = .ok (.iaload, 1) := by decide +kernel
theorem dL_law_1093 : decode cL_law 1093 = .ok (.invokevirtual 147, 3) := by decide +kernel
theorem dL_law_1096 : decode cL_law 1096 = .ok (.if_icmp .eq 42, 3) := by decide +kernel
theorem dL_law_1099 : decode cL_law 1099 = .ok (.iconst 0, 1) := by decide +kernel
theorem dL_law_1100 : decode cL_law 1100 = .ok (.ireturn, 1) := by decide +kernel
theorem dL_law_1101 : decode cL_law 1101 = .ok (.aload_n 1, 1) := by decide +kernel
theorem dL_law_1102 : decode cL_law 1102 = .ok (.aload_n 0, 1) := by decide +kernel
theorem dL_law_1103 : decode cL_law 1103 = .ok (.iload_n 3, 1) := by decide +kernel
theorem dL_law_1104 : decode cL_law 1104 = .ok (.iconst 1, 1) := by decide +kernel
theorem dL_law_1105 : decode cL_law 1105 = .ok (.iadd, 1) := by decide +kernel
theorem dL_law_1106 : decode cL_law 1106 = .ok (.iaload, 1) := by decide +kernel
theorem dL_law_1107 : decode cL_law 1107 = .ok (.invokevirtual 148, 3) := by decide +kernel
theorem dL_law_1110 : decode cL_law 1110 = .ok (.aload_n 2, 1) := by decide +kernel
theorem dL_law_1111 : decode cL_law 1111 = .ok (.aload_n 0, 1) := by decide +kernel
theorem dL_law_1112 : decode cL_law 1112 = .ok (.iload_n 3, 1) := by decide +kernel
theorem dL_law_1113 : decode cL_law 1113 = .ok (.iconst 1, 1) := by decide +kernel
theorem dL_law_1114 : decode cL_law 1114 = .ok (.iadd, 1) := by decide +kernel
theorem dL_law_1115 : decode cL_law 1115 = .ok (.iaload, 1) := by decide +kernel
theorem dL_law_1116 : decode cL_law 1116 = .ok (.invokevirtual 151, 3) := by decide +kernel
theorem dL_law_1119 : decode cL_law 1119 = .ok (.if_icmp .eq 19, 3) := by decide +kernel
theorem dL_law_1122 : decode cL_law 1122 = .ok (.iconst 0, 1) := by decide +kernel
theorem dL_law_1123 : decode cL_law 1123 = .ok (.ireturn, 1) := by decide +kernel
theorem dL_law_1124 : decode cL_law 1124 = .ok (.aload_n 1, 1) := by decide +kernel
theorem dL_law_1125 : decode cL_law 1125 = .ok (.invokevirtual 152, 3) := by decide +kernel
theorem dL_law_1128 : decode cL_law 1128 = .ok (.aload_n 2, 1) := by decide +kernel
theorem dL_law_1129 : decode cL_law 1129 = .ok (.invokevirtual 156, 3) := by decide +kernel
theorem dL_law_1132 : decode cL_law 1132 = .ok (.lcmp, 1) := by decide +kernel
theorem dL_law_1133 : decode cL_law 1133 = .ok (.ifCond .eq 5, 3) := by decide +kernel
theorem dL_law_1136 : decode cL_law 1136 = .ok (.iconst 0, 1) := by decide +kernel
theorem dL_law_1137 : decode cL_law 1137 = .ok (.ireturn, 1) := by decide +kernel
theorem dL_law_1138 : decode cL_law 1138 = .ok (.iinc 3 6, 3) := by decide +kernel
theorem dL_law_1141 : decode cL_law 1141 = .ok (.goto (-1123), 3) := by decide +kernel
theorem dL_law_1144 : decode cL_law 1144 = .ok (.iconst 1, 1) := by decide +kernel
theorem dL_law_1145 : decode cL_law 1145 = .ok (.ireturn, 1) := by decide +kernel
end
section
/-! ===== the pure heap, the world's shape ===== -/
abbrev pH : Type := (Nat → Nat → Int32) × (Nat → Nat → Int64)
def pw (h : pH) (k j : Nat) (v : Int32) : pH := (fun a => if a = k then upd (h.1 k) j v else h.1 a, h.2)
def pv (h : pH) (k j : Nat) (v : Int64) : pH := (h.1, fun a => if a = k then vp_updL (h.2 k) j v else h.2 a)
def pcI (h : pH) (k1 k2 sp dp n : Nat) : pH := (fun a => if a = k2 then va_cpy (h.1 k1) (h.1 k2) sp dp n else h.1 a, h.2)
def pcL (h : pH) (k1 k2 sp dp n : Nat) : pH := (h.1, fun a => if a = k2 then va_cpy (h.2 k1) (h.2 k2) sp dp n else h.2 a)
abbrev pS : Type := (Nat × List Nat) ⊕ (Nat × Nat × List Nat)
def shpL : List pS := [.inr (9, 0, []), .inl (8, [2, 9, 14, 24, 26, 27, 28, 29, 30, 35, 38, 39, 40, 0, 0, 0]), .inr (4, 3, [3, 4, 5]), .inl (7, [6, 0]), .inl (7, [7, 0]), .inl (7, [8, 0]), .inr (0, 19, []), .inr (0, 39, []), .inr (0, 24, []), .inl (0, [0, 0, 10, 0, 11, 12, 13]), .inr (0, 4, []), .inr (1, 19, []), .inr (0, 38, []), .inr (0, 38, []), .inl (2, [15, 0]), .inr (5, 8, [16, 17, 18, 19, 20, 21, 22, 23]), .inl (1, [0, 0, 0, 0, 0]), .inl (1, [0, 0, 0, 0, 0]), .inl (1, [0, 0, 0, 0, 0]), .inl (1, [0, 0, 0, 0, 0]), .inl (1, [0, 0, 0, 0, 0]), .inl (1, [0, 0, 0, 0, 0]), .inl (1, [0, 0, 0, 0, 0]), .inl (1, [0, 0, 0, 0, 0]), .inl (3, [25, 0]), .inr (0, 24, []), .inr (0, 25, []), .inr (0, 25, []), .inr (0, 4, []), .inr (0, 19, []), .inl (4, [31, 32, 33, 34, 0, 0, 0, 0]), .inr (0, 4864, []), .inr (0, 152, []), .inr (0, 152, []), .inr (0, 8, []), .inl (6, [36, 37, 0]), .inr (0, 8, []), .inr (0, 8, []), .inr (3, 19, []), .inr (3, 19, []), .inr (6, 4, [41, 42, 43, 44]), .inl (5, [45, 0, 0, 0]), .inl (5, [46, 0, 0, 0]), .inl (5, [47, 0, 0, 0]), .inl (5, [48, 0, 0, 0]), .inr (0, 60, []), .inr (0, 60, []), .inr (0, 60, []), .inr (0, 60, []), .inl (9, [50, 51, 52, 53, 0, 54, 55, 0, 56, 0, 57, 0, 58, 59, 60, 61, 62, 63, 64, 0, 0, 0, 0, 65, 66, 0, 0, 0, 67, 68, 0]), .inr (0, 4, []), .inr (0, 4, []), .inr (0, 240, []), .inr (0, 60, []), .inr (0, 120, []), .inr (0, 3, []), .inr (0, 19, []), .inr (0, 32, []), .inr (0, 24, []), .inr (0, 2, []), .inr (0, 4, []), .inr (0, 25, []), .inr (0, 24, []), .inr (0, 24, []), .inr (0, 24, []), .inr (0, 8, []), .inr (0, 8, []), .inr (0, 16, []), .inr (0, 475, [])]
def shp (k : Nat) : pS := shpL.getD k (.inr (9, 0, []))
def isO (ci r : Nat) : Bool := match shp r with
  | .inl (c, _) => c == ci
  | .inr _ => false
def fI (ci j r : Nat) : Bool := match shp r with
  | .inl (c, fs) => c == ci && fs[j]? == some 0
  | .inr _ => false
def fR (r j : Nat) : Nat := match shp r with
  | .inl (_, fs) => fs.getD j 0
  | .inr _ => 0
def aK (r : Nat) : Nat := match shp r with
  | .inl _ => 9
  | .inr (t, _, _) => t
def aN (r : Nat) : Nat := match shp r with
  | .inl _ => 0
  | .inr (_, n, _) => n
def aE (r j : Nat) : Nat := match shp r with
  | .inl _ => 0
  | .inr (_, _, els) => els.getD j 0
def rf (q : Nat → Nat) : Nat → Value
  | 0 => .null
  | k + 1 => .ref (q (k + 1))
def rfo (q : Nat → Nat) : Nat → Option Nat
  | 0 => none
  | k + 1 => some (q (k + 1))
theorem va_rf_rfo (q : Nat → Nat) (r : Nat) : va_rf (rfo q r) = rf q r := by cases r <;> rfl
theorem rf_cat (q : Nat → Nat) (r : Nat) : (rf q r).category = 1 := by cases r <;> rfl
def flv (q : Nat → Nat) (h : pH) (k : Nat) (fs : List Nat) : List Value := fs.mapIdx (fun j r => if r = 0 then Value.int (h.1 k j) else .ref (q r))
def cel (q : Nat → Nat) (cA : Nat → ClassId) (h : pH) (k : Nat) : va_E := match shp k with
  | .inl (ci, fs) => .inr (ci, flv q h k fs)
  | .inr (t, n, els) => .inl (cA t, n, if t = 3 then .inr (.inl (h.2 k)) else if t < 3 then .inl (h.1 k) else .inr (.inr (.inr (.inr (fun j => rfo q (els.getD j 0))))))
def gw (q : Nat → Nat) (cA : Nat → ClassId) (h : pH) : va_W := (List.range 68).map (fun i => (q (i + 1), cel q cA h (i + 1)))
def ix (i : Int32) (n : Nat) : Bool := decide (¬ (i < 0 ∨ n ≤ i.toNatClampNeg))
theorem ix_in {i : Int32} {n : Nat} (h : ix i n = true) : vp_in i n := by
  have h1 : ¬ (i < 0 ∨ n ≤ i.toNatClampNeg) := by simpa [ix] using h
  exact h1
theorem shp_lt {k : Nat} (h : shp k ≠ .inr (9, 0, [])) : 1 ≤ k ∧ k ≤ 68 := by
  rcases Nat.lt_or_ge 68 k with q | q
  · have e : shpL.length = 69 := rfl
    have e2 : shp k = .inr (9, 0, []) := by
      unfold shp
      rw [List.getD_eq_getElem?_getD, List.getElem?_eq_none (by omega)]
      rfl
    exact absurd e2 h
  · exact ⟨Nat.pos_of_ne_zero (fun e => h (by subst e; rfl)), q⟩
theorem gw_at {q : Nat → Nat} {cA : Nat → ClassId} {h : pH} {k : Nat} (hk : 1 ≤ k ∧ k ≤ 68) : (gw q cA h)[k - 1]? = some (q k, cel q cA h k) := by
  unfold gw
  rw [List.getElem?_map, List.getElem?_range (by omega)]
  simp only [Option.map_some]
  rw [show k - 1 + 1 = k by omega]
theorem gw_set {q : Nat → Nat} {cA : Nat → ClassId} {h h' : pH} {k : Nat} {x : va_E} (hk : 1 ≤ k ∧ k ≤ 68) (hx : x = cel q cA h' k) (ho : ∀ j, j ≠ k → cel q cA h' j = cel q cA h j) : (gw q cA h).set (k - 1) (q k, x) = gw q cA h' := by
  subst hx
  apply List.ext_getElem?
  intro i
  rw [List.getElem?_set]
  unfold gw
  simp only [List.getElem?_map, List.length_map, List.length_range]
  by_cases hi : i < 68
  · rw [List.getElem?_range hi]
    by_cases he : k - 1 = i
    · subst he
      simp [hi, show k - 1 + 1 = k by omega]
    · simp only [he, if_false, Option.map_some]
      rw [ho (i + 1) (by omega)]
  · rw [if_neg (by omega), List.getElem?_eq_none (by simpa using hi)]
    rfl
theorem cel_congr {q : Nat → Nat} {cA : Nat → ClassId} {h h' : pH} {j : Nat} (e1 : h'.1 j = h.1 j) (e2 : h'.2 j = h.2 j) : cel q cA h' j = cel q cA h j := by
  unfold cel flv
  rw [e1, e2]
theorem cel_pw {q : Nat → Nat} {cA : Nat → ClassId} {h : pH} {k i : Nat} {v : Int32} : ∀ j, j ≠ k → cel q cA (pw h k i v) j = cel q cA h j := fun j hj => cel_congr (by simp [pw, hj]) rfl
theorem cel_pv {q : Nat → Nat} {cA : Nat → ClassId} {h : pH} {k i : Nat} {v : Int64} : ∀ j, j ≠ k → cel q cA (pv h k i v) j = cel q cA h j := fun j hj => cel_congr rfl (by simp [pv, hj])
theorem isO_of {ci r : Nat} (h : isO ci r = true) : ∃ fs, shp r = .inl (ci, fs) := by
  unfold isO at h
  split at h
  · rename_i c fs e
    exact ⟨fs, by rw [e]; simp at h; rw [h]⟩
  · cases h
theorem fI_of {ci j r : Nat} (h : fI ci j r = true) : ∃ fs, shp r = .inl (ci, fs) ∧ fs[j]? = some 0 := by
  unfold fI at h
  split at h
  · rename_i c fs e
    simp at h
    exact ⟨fs, by rw [e, h.1], h.2⟩
  · cases h
theorem aK_of {r t : Nat} (h : aK r = t) (ht : t ≠ 9) : ∃ els, shp r = .inr (t, aN r, els) := by
  unfold aK at h
  unfold aN
  split at h
  · exact absurd h.symm ht
  · rename_i t' n els e
    exact ⟨els, by rw [e, ← h]⟩
theorem flv_get {q : Nat → Nat} {h : pH} {k j r : Nat} {fs : List Nat} (e : fs[j]? = some r) : (flv q h k fs)[j]? = some (if r = 0 then Value.int (h.1 k j) else .ref (q r)) := by
  unfold flv
  rw [List.getElem?_mapIdx, e]
  rfl
theorem flv_set {q : Nat → Nat} {h : pH} {k j : Nat} {fs : List Nat} {v : Int32} (e : fs[j]? = some 0) : (flv q h k fs).set j (.int v) = flv q (pw h k j v) k fs := by
  unfold flv
  apply List.ext_getElem?
  intro i
  rw [List.getElem?_set]
  simp only [List.getElem?_mapIdx, List.length_mapIdx]
  by_cases he : j = i
  · subst he
    have hl : j < fs.length := (List.getElem?_eq_some_iff.mp e).1
    have he := (List.getElem?_eq_some_iff.mp e).2
    simp [hl, pw, upd, he]
  · simp only [he, if_false]
    cases fs[i]? with
    | none => rfl
    | some r => simp [pw, upd, Ne.symm he]
/-! ===== words ===== -/
def lw_g : List Cond := lw_tbl.filter goodWord
theorem lw_in {i : Nat} {w : Cond} (h : lw_tbl[i]? = some w) (hg : goodWord w = true) : w ∈ lw_g := List.mem_filter.mpr ⟨List.mem_of_getElem? h, hg⟩
theorem lw_gg {w : Cond} (h : w ∈ lw_g) : (w.onTables && w.keeps) = true ∨ ∃ ty, w = .arrayClass ty := good_of_word (List.mem_filter.mp h).2
theorem lw_good {big : List Cond} {z : Cond} (hb : ∀ w ∈ lw_g, w ∈ big) (hz : z ∈ lw_g) : GoodIn big (z :: lw_g) := fun w hw => by
  rcases List.mem_cons.mp hw with e | e
  · subst e; exact ⟨hb _ hz, lw_gg hz⟩
  · exact ⟨hb _ e, lw_gg e⟩
def nsF : List (String × Nat × String × String × String × String) := [("MiddlePlank", 142, "MiddlePlank$Bridge", "river", "I", "MiddlePlank"), ("MiddlePlank", 145, "MiddlePlank$Bridge", "begin", "I", "MiddlePlank"), ("MiddlePlank$Plan", 75, "MiddlePlank$Bridge", "shifts", "[I", "MiddlePlank"), ("MiddlePlank", 148, "MiddlePlank$Bridge", "shifts", "[I", "MiddlePlank"), ("MiddlePlank$Plan", 24, "MiddlePlank$Bridge", "planks", "I", "MiddlePlank"), ("MiddlePlank", 176, "MiddlePlank$Bridge", "planks", "I", "MiddlePlank"), ("MiddlePlank", 124, "MiddlePlank$Crosser", "kind", "I", "MiddlePlank"), ("MiddlePlank$Bridge", 77, "MiddlePlank$Crosser", "kind", "I", "MiddlePlank"), ("MiddlePlank", 129, "MiddlePlank$Crosser", "weight", "I", "MiddlePlank"), ("MiddlePlank$Bridge", 65, "MiddlePlank$Crosser", "load", "I", "MiddlePlank"), ("MiddlePlank", 132, "MiddlePlank$Crosser", "end", "I", "MiddlePlank"), ("MiddlePlank$Bridge", 84, "MiddlePlank$Crosser", "end", "I", "MiddlePlank"), ("MiddlePlank", 135, "MiddlePlank$Crosser", "leap", "I", "MiddlePlank"), ("MiddlePlank$Bridge", 70, "MiddlePlank$Crosser", "leap", "I", "MiddlePlank"), ("MiddlePlank$Plan", 39, "MiddlePlank$Crossers", "count", "I", "MiddlePlank"), ("MiddlePlank", 193, "MiddlePlank$Crossers", "count", "I", "MiddlePlank"), ("MiddlePlank", 154, "MiddlePlank$Crossings", "count", "I", "MiddlePlank"), ("MiddlePlank", 182, "MiddlePlank$Plan", "crossing", "I", "MiddlePlank"), ("MiddlePlank", 185, "MiddlePlank$Plan", "tolls", "I", "MiddlePlank"), ("MiddlePlank", 207, "MiddlePlank$Sightings", "count", "I", "MiddlePlank"), ("MiddlePlank", 102, "MiddlePlank$Text", "length", "I", "MiddlePlank"), ("MiddlePlank", 258, "MiddlePlank$Sheet", "items", "[I", "MiddlePlank"), ("MiddlePlank", 212, "MiddlePlank$Sheet", "lost", "Z", "MiddlePlank"), ("MiddlePlank", 252, "MiddlePlank$Sheet", "form", "I", "MiddlePlank"), ("MiddlePlank", 218, "MiddlePlank$Sheet", "length", "I", "MiddlePlank"), ("MiddlePlank$Crosser", 15, "MiddlePlank", "KIND_SIGNS", "[C", "MiddlePlank"), ("MiddlePlank$Crosser", 29, "MiddlePlank", "WEIGHT_SIGNS", "[C", "MiddlePlank"), ("MiddlePlank$Crosser", 38, "MiddlePlank", "END_SIGNS", "[C", "MiddlePlank"), ("MiddlePlank$Crosser", 44, "MiddlePlank", "LEAP_SIGNS", "[C", "MiddlePlank"), ("MiddlePlank$Crossings", 31, "MiddlePlank", "CROSSING_SIGNS", "[C", "MiddlePlank")]
def nsM : List (String × Nat × MethodName × String) := [("MiddlePlank", 17, ⟨"MiddlePlank$Bridge", "<init>", "()V"⟩, "MiddlePlank"), ("MiddlePlank$Crossers", 17, ⟨"MiddlePlank$Crosser", "<init>", "()V"⟩, "MiddlePlank"), ("MiddlePlank", 31, ⟨"MiddlePlank$Crossings", "<init>", "()V"⟩, "MiddlePlank"), ("MiddlePlank", 51, ⟨"MiddlePlank$Plan", "<init>", "()V"⟩, "MiddlePlank"), ("MiddlePlank", 58, ⟨"MiddlePlank$Sightings", "<init>", "()V"⟩, "MiddlePlank"), ("MiddlePlank", 86, ⟨"MiddlePlank$Sheet", "<init>", "()V"⟩, "MiddlePlank"), ("MiddlePlank$Crosser", 19, ⟨"MiddlePlank", "placeOf", "(I[C)I"⟩, "MiddlePlank"), ("MiddlePlank$Crossings", 35, ⟨"MiddlePlank", "placeOf", "(I[C)I"⟩, "MiddlePlank"), ("MiddlePlank$Crossings", 39, ⟨"MiddlePlank", "within", "(III)Z"⟩, "MiddlePlank"), ("MiddlePlank$Crossers", 32, ⟨"MiddlePlank", "within", "(III)Z"⟩, "MiddlePlank"), ("MiddlePlank$Bridge", 58, ⟨"MiddlePlank", "within", "(III)Z"⟩, "MiddlePlank"), ("MiddlePlank$Plan", 64, ⟨"MiddlePlank", "within", "(III)Z"⟩, "MiddlePlank"), ("MiddlePlank$Sightings", 18, ⟨"MiddlePlank", "within", "(III)Z"⟩, "MiddlePlank")]
def nsK (U : State) : Prop := (∀ x ∈ nsF, va_Nw (.fieldLinkNest x.1 x.2.1 x.2.2.1 x.2.2.2.1 x.2.2.2.2.1 x.2.2.2.2.2) U) ∧ ∀ x ∈ nsM, va_Nw (.methodLinkNest x.1 x.2.1 x.2.2.1 x.2.2.2) U
theorem nsK.warm {s U : State} (hW : s.WarmedH U.vm) (h : nsK s) : nsK U := ⟨fun x hx => (h.1 x hx).warmF hW, fun x hx => (h.2 x hx).warmM hW⟩
theorem nsK.same {u U : State} (hv : u.vm = U.vm) (h : nsK u) : nsK U := ⟨fun x hx => (h.1 x hx).same rfl hv, fun x hx => (h.2 x hx).same rfl hv⟩
/-! ===== the static rows of signs ===== -/
def stN : Nat → String := fun i => match i with
  | 0 => "PLANK_SIGNS"
  | 1 => "KIND_SIGNS"
  | 2 => "WEIGHT_SIGNS"
  | 3 => "END_SIGNS"
  | 4 => "LEAP_SIGNS"
  | 5 => "BETWEEN_SIGNS"
  | _ => "CROSSING_SIGNS"
def stL : Nat → List Int32 := fun i => match i with
  | 0 => [46, 114]
  | 1 => [112, 104, 99, 103, 98]
  | 2 => [49, 50, 51, 52, 53, 54, 55, 56, 57]
  | 3 => [119, 101]
  | 4 => [48, 49, 50, 51, 52, 53, 54, 55, 56, 57]
  | 5 => [59]
  | _ => [97, 98, 99, 100, 101, 102, 103, 104]
def stc (i j : Nat) : Int32 := (stL i).getD j 0
def cxT (cA : Nat → ClassId) : List (ClassId × FieldType) := [(cA 0, .int), (cA 1, .boolean), (cA 2, .char), (cA 3, .long), (cA 4, .object RX7), (cA 5, .object RX1), (cA 6, .object RX5)]
def stE (cA : Nat → ClassId) (i : Nat) : va_E := .inl (cA 2, (stL i).length, .inl (stc i))
def stK (D : va_G) (q : Nat → Nat) (cA : Nat → ClassId) (A : Nat → Prop) (U : State) (H : Heap) : Prop := ∀ i, i < 7 → va_Z "MiddlePlank" (stN i) "[C" (.ref (q (69 + i))) A U H ∧ va_at D vwCl (q (69 + i), stE cA i) H ∧ ¬ A (q (69 + i))
theorem stK.kept {D : va_G} {q : Nat → Nat} {cA : Nat → ClassId} {A B : Nat → Prop} {u U : State} {H H1 : Heap} (hvm : u.vm.Alike U.vm) (h : stK D q cA A u H) (hq : ∀ a : Nat, a < H.size → ¬ A a → H1[a]? = H[a]?) (hAB : ∀ a, B a → A a) : stK D q cA B U H1 := fun i hi => by
  obtain ⟨h1, h2, h3⟩ := h i hi
  exact ⟨((h1.kept hq).narrow hAB).moved hvm, h2.kept (hq _ h2.lt h3), fun z => h3 (hAB _ z)⟩
/-! ===== the walk's own judgement ===== -/
abbrev Xt : Type := Program × Launch × Env × Room × State × MethodId × Array Value × List Frame × Method × Code × (Nat × Nat) × (State → Prop) × va_G × (Nat → Nat) × (Nat → ClassId) × (Nat → Prop)
def qo (X : Xt) : Nat → Nat := X.2.2.2.2.2.2.2.2.2.2.2.2.2.1
def ro (X : Xt) : Room := X.2.2.2.1
def lo (X : Xt) : Launch := X.2.1
def wA (q : Nat → Nat) : Nat → Prop := fun a => ∃ k, (1 ≤ k ∧ k ≤ 68) ∧ a = q k
def inj (q : Nat → Nat) : Prop := ∀ i j, (1 ≤ i ∧ i ≤ 68) → (1 ≤ j ∧ j ≤ 68) → q i = q j → i = j
def Wx : Xt → Nat → Nat → List (Nat × Value) → List Value → pH → Prop
  | (p, l, e, R, s, m, args, below, meth, c, cs, Q, D, q, cA, A), nL, pc, lv, st, h => ∀ (H : Heap) (locs : List Loc) (ls : Array Slot), va_P D vwCl (gw q cA h) H → va_S A s.heap H locs → lv_has ls nL lv → W p l e R s m args below meth c H locs cs.1 cs.2 Q (F0 m pc ls st)
def Cx : Xt → ByteArray → String → Nat → Prop
  | (p, _, _, R, s, m, args, _, _, c, cs, _, D, q, cA, A), cc, own, nL => p.tables.exec = Jvm.exec ∧ c.code = cc ∧ c.maxLocals = nL ∧ s.vm.findClass own = some m.cls ∧ (∀ w ∈ lw_g, w.before args s = true) ∧ nsK s ∧ va_K D vwCl (cxT cA) s ∧ inj q ∧ (∀ a, wA q a → A a) ∧ stK D q cA A s s.heap ∧ cs.1 ≤ R.cells ∧ cs.2 ≤ R.slots
theorem gwD {q : Nat → Nat} {cA : Nat → ClassId} {h : pH} {A : Nat → Prop} (hi : inj q) (hA : ∀ a, wA q a → A a) : va_D A (gw q cA h) := by
  have key : ∀ (k : Nat) (x : Nat × va_E), (gw q cA h)[k]? = some x → k < 68 ∧ x.1 = q (k + 1) := by
    intro k x hk
    have hl : k < 68 := by simpa [gw] using (List.getElem?_eq_some_iff.mp hk).1
    have h2 := gw_at (q := q) (cA := cA) (h := h) (k := k + 1) (by omega)
    rw [Nat.add_sub_cancel, hk] at h2
    exact ⟨hl, by rw [Option.some.inj h2]⟩
  refine ⟨fun i j a b ha hb e => ?_, fun k x hk => ?_⟩
  · obtain ⟨l1, e1⟩ := key i a ha
    obtain ⟨l2, e2⟩ := key j b hb
    have := hi (i + 1) (j + 1) (by omega) (by omega) (by rw [← e1, ← e2, e])
    omega
  · obtain ⟨l1, e1⟩ := key k x hk
    exact hA _ ⟨k + 1, by omega, e1⟩
end
section
theorem x_iadd {X : Xt} {cc : ByteArray} {own : String} {nL pc : Nat} {lv : List (Nat × Value)} {rest : List Value} {h : pH} {x y : Int32} (C : Cx X cc own nL) (d : decode cc pc = .ok (.iadd, 1)) (k : Wx X nL (pc + 1) lv (.int (x + y) :: rest) h) : Wx X nL pc lv (.int y :: .int x :: rest) h := by
  obtain ⟨p, l, e, R, s, m, args, below, meth, c, cs, Q, D, q, cA, A⟩ := X
  intro H locs ls hP hS hl
  exact lv_iadd C.1 C.2.1 d (k H locs ls hP hS hl)
theorem x_isub {X : Xt} {cc : ByteArray} {own : String} {nL pc : Nat} {lv : List (Nat × Value)} {rest : List Value} {h : pH} {x y : Int32} (C : Cx X cc own nL) (d : decode cc pc = .ok (.isub, 1)) (k : Wx X nL (pc + 1) lv (.int (x - y) :: rest) h) : Wx X nL pc lv (.int y :: .int x :: rest) h := by
  obtain ⟨p, l, e, R, s, m, args, below, meth, c, cs, Q, D, q, cA, A⟩ := X
  intro H locs ls hP hS hl
  exact lv_isub C.1 C.2.1 d (k H locs ls hP hS hl)
theorem x_imul {X : Xt} {cc : ByteArray} {own : String} {nL pc : Nat} {lv : List (Nat × Value)} {rest : List Value} {h : pH} {x y : Int32} (C : Cx X cc own nL) (d : decode cc pc = .ok (.imul, 1)) (k : Wx X nL (pc + 1) lv (.int (x * y) :: rest) h) : Wx X nL pc lv (.int y :: .int x :: rest) h := by
  obtain ⟨p, l, e, R, s, m, args, below, meth, c, cs, Q, D, q, cA, A⟩ := X
  intro H locs ls hP hS hl
  exact lv_imul C.1 C.2.1 d (k H locs ls hP hS hl)
theorem x_ishl {X : Xt} {cc : ByteArray} {own : String} {nL pc : Nat} {lv : List (Nat × Value)} {rest : List Value} {h : pH} {x y : Int32} (C : Cx X cc own nL) (d : decode cc pc = .ok (.ishl, 1)) (k : Wx X nL (pc + 1) lv (.int (x <<< (y &&& 31)) :: rest) h) : Wx X nL pc lv (.int y :: .int x :: rest) h := by
  obtain ⟨p, l, e, R, s, m, args, below, meth, c, cs, Q, D, q, cA, A⟩ := X
  intro H locs ls hP hS hl
  exact lv_ishl C.1 C.2.1 d (k H locs ls hP hS hl)
theorem x_ishr {X : Xt} {cc : ByteArray} {own : String} {nL pc : Nat} {lv : List (Nat × Value)} {rest : List Value} {h : pH} {x y : Int32} (C : Cx X cc own nL) (d : decode cc pc = .ok (.ishr, 1)) (k : Wx X nL (pc + 1) lv (.int (x >>> (y &&& 31)) :: rest) h) : Wx X nL pc lv (.int y :: .int x :: rest) h := by
  obtain ⟨p, l, e, R, s, m, args, below, meth, c, cs, Q, D, q, cA, A⟩ := X
  intro H locs ls hP hS hl
  exact lv_ishr C.1 C.2.1 d (k H locs ls hP hS hl)
theorem x_iand {X : Xt} {cc : ByteArray} {own : String} {nL pc : Nat} {lv : List (Nat × Value)} {rest : List Value} {h : pH} {x y : Int32} (C : Cx X cc own nL) (d : decode cc pc = .ok (.iand, 1)) (k : Wx X nL (pc + 1) lv (.int (x &&& y) :: rest) h) : Wx X nL pc lv (.int y :: .int x :: rest) h := by
  obtain ⟨p, l, e, R, s, m, args, below, meth, c, cs, Q, D, q, cA, A⟩ := X
  intro H locs ls hP hS hl
  exact lv_iand C.1 C.2.1 d (k H locs ls hP hS hl)
theorem x_ior {X : Xt} {cc : ByteArray} {own : String} {nL pc : Nat} {lv : List (Nat × Value)} {rest : List Value} {h : pH} {x y : Int32} (C : Cx X cc own nL) (d : decode cc pc = .ok (.ior, 1)) (k : Wx X nL (pc + 1) lv (.int (x ||| y) :: rest) h) : Wx X nL pc lv (.int y :: .int x :: rest) h := by
  obtain ⟨p, l, e, R, s, m, args, below, meth, c, cs, Q, D, q, cA, A⟩ := X
  intro H locs ls hP hS hl
  exact lv_ior C.1 C.2.1 d (k H locs ls hP hS hl)
theorem x_idiv {X : Xt} {cc : ByteArray} {own : String} {nL pc : Nat} {lv : List (Nat × Value)} {rest : List Value} {h : pH} {x y : Int32} (C : Cx X cc own nL) (d : decode cc pc = .ok (.idiv, 1)) (hne : ¬ y = 0) (k : Wx X nL (pc + 1) lv (.int (x / y) :: rest) h) : Wx X nL pc lv (.int y :: .int x :: rest) h := by
  obtain ⟨p, l, e, R, s, m, args, below, meth, c, cs, Q, D, q, cA, A⟩ := X
  intro H locs ls hP hS hl
  exact lv_idiv C.1 C.2.1 d hne (k H locs ls hP hS hl)
theorem x_irem {X : Xt} {cc : ByteArray} {own : String} {nL pc : Nat} {lv : List (Nat × Value)} {rest : List Value} {h : pH} {x y : Int32} (C : Cx X cc own nL) (d : decode cc pc = .ok (.irem, 1)) (hne : ¬ y = 0) (k : Wx X nL (pc + 1) lv (.int (x - x / y * y) :: rest) h) : Wx X nL pc lv (.int y :: .int x :: rest) h := by
  obtain ⟨p, l, e, R, s, m, args, below, meth, c, cs, Q, D, q, cA, A⟩ := X
  intro H locs ls hP hS hl
  exact lv_irem C.1 C.2.1 d hne (k H locs ls hP hS hl)
theorem x_ladd {X : Xt} {cc : ByteArray} {own : String} {nL pc : Nat} {lv : List (Nat × Value)} {rest : List Value} {h : pH} {x y : Int64} (C : Cx X cc own nL) (d : decode cc pc = .ok (.ladd, 1)) (k : Wx X nL (pc + 1) lv (.long (x + y) :: rest) h) : Wx X nL pc lv (.long y :: .long x :: rest) h := by
  obtain ⟨p, l, e, R, s, m, args, below, meth, c, cs, Q, D, q, cA, A⟩ := X
  intro H locs ls hP hS hl
  exact lv_ladd C.1 C.2.1 d (k H locs ls hP hS hl)
theorem x_lsub {X : Xt} {cc : ByteArray} {own : String} {nL pc : Nat} {lv : List (Nat × Value)} {rest : List Value} {h : pH} {x y : Int64} (C : Cx X cc own nL) (d : decode cc pc = .ok (.lsub, 1)) (k : Wx X nL (pc + 1) lv (.long (x - y) :: rest) h) : Wx X nL pc lv (.long y :: .long x :: rest) h := by
  obtain ⟨p, l, e, R, s, m, args, below, meth, c, cs, Q, D, q, cA, A⟩ := X
  intro H locs ls hP hS hl
  exact lv_lsub C.1 C.2.1 d (k H locs ls hP hS hl)
theorem x_lmul {X : Xt} {cc : ByteArray} {own : String} {nL pc : Nat} {lv : List (Nat × Value)} {rest : List Value} {h : pH} {x y : Int64} (C : Cx X cc own nL) (d : decode cc pc = .ok (.lmul, 1)) (k : Wx X nL (pc + 1) lv (.long (x * y) :: rest) h) : Wx X nL pc lv (.long y :: .long x :: rest) h := by
  obtain ⟨p, l, e, R, s, m, args, below, meth, c, cs, Q, D, q, cA, A⟩ := X
  intro H locs ls hP hS hl
  exact lv_lmul C.1 C.2.1 d (k H locs ls hP hS hl)
theorem x_land {X : Xt} {cc : ByteArray} {own : String} {nL pc : Nat} {lv : List (Nat × Value)} {rest : List Value} {h : pH} {x y : Int64} (C : Cx X cc own nL) (d : decode cc pc = .ok (.land, 1)) (k : Wx X nL (pc + 1) lv (.long (x &&& y) :: rest) h) : Wx X nL pc lv (.long y :: .long x :: rest) h := by
  obtain ⟨p, l, e, R, s, m, args, below, meth, c, cs, Q, D, q, cA, A⟩ := X
  intro H locs ls hP hS hl
  exact lv_land C.1 C.2.1 d (k H locs ls hP hS hl)
theorem x_ldiv {X : Xt} {cc : ByteArray} {own : String} {nL pc : Nat} {lv : List (Nat × Value)} {rest : List Value} {h : pH} {x y : Int64} (C : Cx X cc own nL) (d : decode cc pc = .ok (.ldiv, 1)) (hne : ¬ y = 0) (k : Wx X nL (pc + 1) lv (.long (x / y) :: rest) h) : Wx X nL pc lv (.long y :: .long x :: rest) h := by
  obtain ⟨p, l, e, R, s, m, args, below, meth, c, cs, Q, D, q, cA, A⟩ := X
  intro H locs ls hP hS hl
  exact lv_ldiv C.1 C.2.1 d hne (k H locs ls hP hS hl)
theorem x_lrem {X : Xt} {cc : ByteArray} {own : String} {nL pc : Nat} {lv : List (Nat × Value)} {rest : List Value} {h : pH} {x y : Int64} (C : Cx X cc own nL) (d : decode cc pc = .ok (.lrem, 1)) (hne : ¬ y = 0) (k : Wx X nL (pc + 1) lv (.long (x - x / y * y) :: rest) h) : Wx X nL pc lv (.long y :: .long x :: rest) h := by
  obtain ⟨p, l, e, R, s, m, args, below, meth, c, cs, Q, D, q, cA, A⟩ := X
  intro H locs ls hP hS hl
  exact lv_lrem C.1 C.2.1 d hne (k H locs ls hP hS hl)
theorem x_ineg {X : Xt} {cc : ByteArray} {own : String} {nL pc : Nat} {lv : List (Nat × Value)} {rest : List Value} {h : pH} {x : Int32} (C : Cx X cc own nL) (d : decode cc pc = .ok (.ineg, 1)) (k : Wx X nL (pc + 1) lv (.int (-x) :: rest) h) : Wx X nL pc lv (.int x :: rest) h := by
  obtain ⟨p, l, e, R, s, m, args, below, meth, c, cs, Q, D, q, cA, A⟩ := X
  intro H locs ls hP hS hl
  exact lv_ineg C.1 C.2.1 d (k H locs ls hP hS hl)
theorem x_iushr {X : Xt} {cc : ByteArray} {own : String} {nL pc : Nat} {lv : List (Nat × Value)} {rest : List Value} {h : pH} {x y : Int32} (C : Cx X cc own nL) (d : decode cc pc = .ok (.iushr, 1)) (k : Wx X nL (pc + 1) lv (.int ((x.toUInt32 >>> (y.toUInt32 &&& Int32.toUInt32 31)).toInt32) :: rest) h) : Wx X nL pc lv (.int y :: .int x :: rest) h := by
  obtain ⟨p, l, e, R, s, m, args, below, meth, c, cs, Q, D, q, cA, A⟩ := X
  intro H locs ls hP hS hl
  exact lv_iushr C.1 C.2.1 d rfl (k H locs ls hP hS hl)
theorem x_i2l {X : Xt} {cc : ByteArray} {own : String} {nL pc : Nat} {lv : List (Nat × Value)} {rest : List Value} {h : pH} {x : Int32} (C : Cx X cc own nL) (d : decode cc pc = .ok (.i2l, 1)) (k : Wx X nL (pc + 1) lv (.long x.toInt64 :: rest) h) : Wx X nL pc lv (.int x :: rest) h := by
  obtain ⟨p, l, e, R, s, m, args, below, meth, c, cs, Q, D, q, cA, A⟩ := X
  intro H locs ls hP hS hl
  exact lv_i2l C.1 C.2.1 d rfl (k H locs ls hP hS hl)
theorem x_i2b {X : Xt} {cc : ByteArray} {own : String} {nL pc : Nat} {lv : List (Nat × Value)} {rest : List Value} {h : pH} {x : Int32} (C : Cx X cc own nL) (d : decode cc pc = .ok (.i2b, 1)) (k : Wx X nL (pc + 1) lv (.int x.toInt8.toInt32 :: rest) h) : Wx X nL pc lv (.int x :: rest) h := by
  obtain ⟨p, l, e, R, s, m, args, below, meth, c, cs, Q, D, q, cA, A⟩ := X
  intro H locs ls hP hS hl
  exact lv_i2b C.1 C.2.1 d rfl (k H locs ls hP hS hl)
theorem x_i2s {X : Xt} {cc : ByteArray} {own : String} {nL pc : Nat} {lv : List (Nat × Value)} {rest : List Value} {h : pH} {x : Int32} (C : Cx X cc own nL) (d : decode cc pc = .ok (.i2s, 1)) (k : Wx X nL (pc + 1) lv (.int x.toInt16.toInt32 :: rest) h) : Wx X nL pc lv (.int x :: rest) h := by
  obtain ⟨p, l, e, R, s, m, args, below, meth, c, cs, Q, D, q, cA, A⟩ := X
  intro H locs ls hP hS hl
  exact lv_i2s C.1 C.2.1 d rfl (k H locs ls hP hS hl)
theorem x_lshl {X : Xt} {cc : ByteArray} {own : String} {nL pc : Nat} {lv : List (Nat × Value)} {rest : List Value} {h : pH} {x : Int64} {y : Int32} (C : Cx X cc own nL) (d : decode cc pc = .ok (.lshl, 1)) (k : Wx X nL (pc + 1) lv (.long (x <<< (y.toInt64 &&& 63)) :: rest) h) : Wx X nL pc lv (.int y :: .long x :: rest) h := by
  obtain ⟨p, l, e, R, s, m, args, below, meth, c, cs, Q, D, q, cA, A⟩ := X
  intro H locs ls hP hS hl
  exact lv_lshl C.1 C.2.1 d rfl (k H locs ls hP hS hl)
theorem x_lshr {X : Xt} {cc : ByteArray} {own : String} {nL pc : Nat} {lv : List (Nat × Value)} {rest : List Value} {h : pH} {x : Int64} {y : Int32} (C : Cx X cc own nL) (d : decode cc pc = .ok (.lshr, 1)) (k : Wx X nL (pc + 1) lv (.long (x >>> (y.toInt64 &&& 63)) :: rest) h) : Wx X nL pc lv (.int y :: .long x :: rest) h := by
  obtain ⟨p, l, e, R, s, m, args, below, meth, c, cs, Q, D, q, cA, A⟩ := X
  intro H locs ls hP hS hl
  exact lv_lshr C.1 C.2.1 d rfl (k H locs ls hP hS hl)
theorem x_lcmp {X : Xt} {cc : ByteArray} {own : String} {nL pc : Nat} {lv : List (Nat × Value)} {rest : List Value} {h : pH} {x y : Int64} (C : Cx X cc own nL) (d : decode cc pc = .ok (.lcmp, 1)) (k : Wx X nL (pc + 1) lv (.int (lg_cmp x y) :: rest) h) : Wx X nL pc lv (.long y :: .long x :: rest) h := by
  obtain ⟨p, l, e, R, s, m, args, below, meth, c, cs, Q, D, q, cA, A⟩ := X
  intro H locs ls hP hS hl
  exact W.lcmp C.1 C.2.1 d (k H locs ls hP hS hl)
theorem x_iconst {X : Xt} {cc : ByteArray} {own : String} {nL pc : Nat} {lv : List (Nat × Value)} {rest : List Value} {h : pH} {n : Int} {v : Int32} (C : Cx X cc own nL) (d : decode cc pc = .ok (.iconst n, 1)) (hv : Int32.ofInt n = v) (k : Wx X nL (pc + 1) lv (.int v :: rest) h) : Wx X nL pc lv (rest) h := by
  obtain ⟨p, l, e, R, s, m, args, below, meth, c, cs, Q, D, q, cA, A⟩ := X
  intro H locs ls hP hS hl
  exact lv_iconst C.1 C.2.1 d hv (k H locs ls hP hS hl)
theorem x_bipush {X : Xt} {cc : ByteArray} {own : String} {nL pc : Nat} {lv : List (Nat × Value)} {rest : List Value} {h : pH} {n : Int} {v : Int32} (C : Cx X cc own nL) (d : decode cc pc = .ok (.bipush n, 2)) (hv : (Int8.ofInt n).toInt32 = v) (k : Wx X nL (pc + 2) lv (.int v :: rest) h) : Wx X nL pc lv (rest) h := by
  obtain ⟨p, l, e, R, s, m, args, below, meth, c, cs, Q, D, q, cA, A⟩ := X
  intro H locs ls hP hS hl
  exact lv_bipush C.1 C.2.1 d hv (k H locs ls hP hS hl)
theorem x_sipush {X : Xt} {cc : ByteArray} {own : String} {nL pc : Nat} {lv : List (Nat × Value)} {rest : List Value} {h : pH} {n : Int} {v : Int32} (C : Cx X cc own nL) (d : decode cc pc = .ok (.sipush n, 3)) (hv : (Int16.ofInt n).toInt32 = v) (k : Wx X nL (pc + 3) lv (.int v :: rest) h) : Wx X nL pc lv (rest) h := by
  obtain ⟨p, l, e, R, s, m, args, below, meth, c, cs, Q, D, q, cA, A⟩ := X
  intro H locs ls hP hS hl
  exact lv_sipush C.1 C.2.1 d hv (k H locs ls hP hS hl)
theorem x_lconst {X : Xt} {cc : ByteArray} {own : String} {nL pc : Nat} {lv : List (Nat × Value)} {rest : List Value} {h : pH} {n : Fin 2} {v : Int64} (C : Cx X cc own nL) (d : decode cc pc = .ok (.lconst n, 1)) (hv : Int64.ofNat (n : Nat) = v) (k : Wx X nL (pc + 1) lv (.long v :: rest) h) : Wx X nL pc lv (rest) h := by
  obtain ⟨p, l, e, R, s, m, args, below, meth, c, cs, Q, D, q, cA, A⟩ := X
  intro H locs ls hP hS hl
  exact lv_lconst C.1 C.2.1 d hv (k H locs ls hP hS hl)
theorem x_ldc {X : Xt} {cc : ByteArray} {own : String} {nL pc : Nat} {lv : List (Nat × Value)} {rest : List Value} {h : pH} {i : Nat} {v : Int32} (C : Cx X cc own nL) (d : decode cc pc = .ok (.ldc i, 2)) (hv : Cond.constant own i v ∈ lw_g) (k : Wx X nL (pc + 2) lv (.int v :: rest) h) : Wx X nL pc lv (rest) h := by
  obtain ⟨p, l, e, R, s, m, args, below, meth, c, cs, Q, D, q, cA, A⟩ := X
  intro H locs ls hP hS hl
  exact lv_ldc C.1 C.2.1 C.2.2.2.1 (C.2.2.2.2.1 _ hv) d (k H locs ls hP hS hl)
theorem x_ldcw {X : Xt} {cc : ByteArray} {own : String} {nL pc : Nat} {lv : List (Nat × Value)} {rest : List Value} {h : pH} {i : Nat} {v : Int32} (C : Cx X cc own nL) (d : decode cc pc = .ok (.ldc_w i, 3)) (hv : Cond.constant own i v ∈ lw_g) (k : Wx X nL (pc + 3) lv (.int v :: rest) h) : Wx X nL pc lv (rest) h := by
  obtain ⟨p, l, e, R, s, m, args, below, meth, c, cs, Q, D, q, cA, A⟩ := X
  intro H locs ls hP hS hl
  exact lv_ldcw C.1 C.2.1 C.2.2.2.1 (C.2.2.2.2.1 _ hv) d (k H locs ls hP hS hl)
theorem x_ldc2 {X : Xt} {cc : ByteArray} {own : String} {nL pc : Nat} {lv : List (Nat × Value)} {rest : List Value} {h : pH} {i : Nat} {v : Int64} (C : Cx X cc own nL) (d : decode cc pc = .ok (.ldc2_w i, 3)) (hv : Cond.constantLong own i v ∈ lw_g) (k : Wx X nL (pc + 3) lv (.long v :: rest) h) : Wx X nL pc lv (rest) h := by
  obtain ⟨p, l, e, R, s, m, args, below, meth, c, cs, Q, D, q, cA, A⟩ := X
  intro H locs ls hP hS hl
  exact lv_ldc2 C.1 C.2.1 C.2.2.2.1 (C.2.2.2.2.1 _ hv) d (k H locs ls hP hS hl)
theorem x_null {X : Xt} {cc : ByteArray} {own : String} {nL pc : Nat} {lv : List (Nat × Value)} {rest : List Value} {h : pH}  (C : Cx X cc own nL) (d : decode cc pc = .ok (.aconst_null, 1)) (k : Wx X nL (pc + 1) lv (rf (qo X) 0 :: rest) h) : Wx X nL pc lv (rest) h := by
  obtain ⟨p, l, e, R, s, m, args, below, meth, c, cs, Q, D, q, cA, A⟩ := X
  intro H locs ls hP hS hl
  exact lv_null C.1 C.2.1 d (k H locs ls hP hS hl)
theorem x_dupI {X : Xt} {cc : ByteArray} {own : String} {nL pc : Nat} {lv : List (Nat × Value)} {rest : List Value} {h : pH} {x : Int32} (C : Cx X cc own nL) (d : decode cc pc = .ok (.dup, 1)) (k : Wx X nL (pc + 1) lv (.int x :: .int x :: rest) h) : Wx X nL pc lv (.int x :: rest) h := by
  obtain ⟨p, l, e, R, s, m, args, below, meth, c, cs, Q, D, q, cA, A⟩ := X
  intro H locs ls hP hS hl
  exact lv_dup C.1 C.2.1 d rfl (k H locs ls hP hS hl)
theorem x_dupA {X : Xt} {cc : ByteArray} {own : String} {nL pc : Nat} {lv : List (Nat × Value)} {rest : List Value} {h : pH} {r : Nat} (C : Cx X cc own nL) (d : decode cc pc = .ok (.dup, 1)) (k : Wx X nL (pc + 1) lv (rf (qo X) r :: rf (qo X) r :: rest) h) : Wx X nL pc lv (rf (qo X) r :: rest) h := by
  obtain ⟨p, l, e, R, s, m, args, below, meth, c, cs, Q, D, q, cA, A⟩ := X
  intro H locs ls hP hS hl
  exact lv_dup C.1 C.2.1 d (rf_cat _ _) (k H locs ls hP hS hl)
theorem x_dup2IA {X : Xt} {cc : ByteArray} {own : String} {nL pc : Nat} {lv : List (Nat × Value)} {rest : List Value} {h : pH} {x : Int32} {r : Nat} (C : Cx X cc own nL) (d : decode cc pc = .ok (.dup2, 1)) (k : Wx X nL (pc + 1) lv (.int x :: rf (qo X) r :: .int x :: rf (qo X) r :: rest) h) : Wx X nL pc lv (.int x :: rf (qo X) r :: rest) h := by
  obtain ⟨p, l, e, R, s, m, args, below, meth, c, cs, Q, D, q, cA, A⟩ := X
  intro H locs ls hP hS hl
  exact lv_dup2_11 C.1 C.2.1 d (by first | rfl | exact rf_cat _ _) (by first | rfl | exact rf_cat _ _) (k H locs ls hP hS hl)
theorem x_popI {X : Xt} {cc : ByteArray} {own : String} {nL pc : Nat} {lv : List (Nat × Value)} {rest : List Value} {h : pH} {x : Int32} (C : Cx X cc own nL) (d : decode cc pc = .ok (.pop, 1)) (k : Wx X nL (pc + 1) lv (rest) h) : Wx X nL pc lv (.int x :: rest) h := by
  obtain ⟨p, l, e, R, s, m, args, below, meth, c, cs, Q, D, q, cA, A⟩ := X
  intro H locs ls hP hS hl
  exact lv_pop C.1 C.2.1 d rfl (k H locs ls hP hS hl)
theorem x_iload_n {X : Xt} {cc : ByteArray} {own : String} {nL pc : Nat} {lv : List (Nat × Value)} {rest : List Value} {h : pH} {n : Fin 4} {i : Nat} {x : Int32} (j : Nat) (C : Cx X cc own nL) (d : decode cc pc = .ok (.iload_n n, 1)) (hi : (n : Nat) = i) (hj : lv[j]? = some (i, .int x)) (k : Wx X nL (pc + 1) lv (.int x :: rest) h) : Wx X nL pc lv rest h := by
  obtain ⟨p, l, e, R, s, m, args, below, meth, c, cs, Q, D, q, cA, A⟩ := X
  intro H locs ls hP hS hl
  exact lv_iload_n C.1 C.2.1 d hi (lv_at hl j hj) (k H locs ls hP hS hl)
theorem x_iload {X : Xt} {cc : ByteArray} {own : String} {nL pc : Nat} {lv : List (Nat × Value)} {rest : List Value} {h : pH} {i : Nat} {x : Int32} (j : Nat) (C : Cx X cc own nL) (d : decode cc pc = .ok (.iload i, 2)) (hj : lv[j]? = some (i, .int x)) (k : Wx X nL (pc + 2) lv (.int x :: rest) h) : Wx X nL pc lv rest h := by
  obtain ⟨p, l, e, R, s, m, args, below, meth, c, cs, Q, D, q, cA, A⟩ := X
  intro H locs ls hP hS hl
  exact lv_iload C.1 C.2.1 d (lv_at hl j hj) (k H locs ls hP hS hl)
theorem x_lload_n {X : Xt} {cc : ByteArray} {own : String} {nL pc : Nat} {lv : List (Nat × Value)} {rest : List Value} {h : pH} {n : Fin 4} {i : Nat} {x : Int64} (j : Nat) (C : Cx X cc own nL) (d : decode cc pc = .ok (.lload_n n, 1)) (hi : (n : Nat) = i) (hj : lv[j]? = some (i, .long x)) (k : Wx X nL (pc + 1) lv (.long x :: rest) h) : Wx X nL pc lv rest h := by
  obtain ⟨p, l, e, R, s, m, args, below, meth, c, cs, Q, D, q, cA, A⟩ := X
  intro H locs ls hP hS hl
  exact lv_lload_n C.1 C.2.1 d hi (lv_at hl j hj) (k H locs ls hP hS hl)
theorem x_lload {X : Xt} {cc : ByteArray} {own : String} {nL pc : Nat} {lv : List (Nat × Value)} {rest : List Value} {h : pH} {i : Nat} {x : Int64} (j : Nat) (C : Cx X cc own nL) (d : decode cc pc = .ok (.lload i, 2)) (hj : lv[j]? = some (i, .long x)) (k : Wx X nL (pc + 2) lv (.long x :: rest) h) : Wx X nL pc lv rest h := by
  obtain ⟨p, l, e, R, s, m, args, below, meth, c, cs, Q, D, q, cA, A⟩ := X
  intro H locs ls hP hS hl
  exact lv_lload C.1 C.2.1 d (lv_at hl j hj) (k H locs ls hP hS hl)
theorem x_aload_n {X : Xt} {cc : ByteArray} {own : String} {nL pc : Nat} {lv : List (Nat × Value)} {rest : List Value} {h : pH} {n : Fin 4} {i : Nat} {r : Nat} (j : Nat) (C : Cx X cc own nL) (d : decode cc pc = .ok (.aload_n n, 1)) (hi : (n : Nat) = i) (hj : lv[j]? = some (i, rf (qo X) r)) (k : Wx X nL (pc + 1) lv (rf (qo X) r :: rest) h) : Wx X nL pc lv rest h := by
  obtain ⟨p, l, e, R, s, m, args, below, meth, c, cs, Q, D, q, cA, A⟩ := X
  intro H locs ls hP hS hl
  cases r with
  | zero => exact lv_aload_nN C.1 C.2.1 d hi (lv_at hl j hj) (k H locs ls hP hS hl)
  | succ r => exact lv_aload_n C.1 C.2.1 d hi (lv_at hl j hj) (k H locs ls hP hS hl)
theorem x_aload {X : Xt} {cc : ByteArray} {own : String} {nL pc : Nat} {lv : List (Nat × Value)} {rest : List Value} {h : pH} {i : Nat} {r : Nat} (j : Nat) (C : Cx X cc own nL) (d : decode cc pc = .ok (.aload i, 2)) (hj : lv[j]? = some (i, rf (qo X) r)) (k : Wx X nL (pc + 2) lv (rf (qo X) r :: rest) h) : Wx X nL pc lv rest h := by
  obtain ⟨p, l, e, R, s, m, args, below, meth, c, cs, Q, D, q, cA, A⟩ := X
  intro H locs ls hP hS hl
  cases r with
  | zero => exact lv_aloadN C.1 C.2.1 d (lv_at hl j hj) (k H locs ls hP hS hl)
  | succ r => exact lv_aload C.1 C.2.1 d (lv_at hl j hj) (k H locs ls hP hS hl)
theorem x_istore_n {X : Xt} {cc : ByteArray} {own : String} {nL pc : Nat} {lv lv' : List (Nat × Value)} {rest : List Value} {h : pH} {n : Fin 4} {i : Nat} {x : Int32} (C : Cx X cc own nL) (d : decode cc pc = .ok (.istore_n n, 1)) (hi : (n : Nat) = i) (hn : i < nL) (hv : (i, Value.int x) :: lv.filter (fun q => !(q.1 == i) && !(q.1 + 1 == i && q.2.category == 2)) = lv') (k : Wx X nL (pc + 1) lv' rest h) : Wx X nL pc lv (Value.int x :: rest) h := by
  obtain ⟨p, l, e, R, s, m, args, below, meth, c, cs, Q, D, q, cA, A⟩ := X
  intro H locs ls hP hS hl
  exact lv_istore_n C.1 C.2.1 d hi hl hn hv (fun ls' hl' => k H locs ls' hP hS hl')
theorem x_istore {X : Xt} {cc : ByteArray} {own : String} {nL pc : Nat} {lv lv' : List (Nat × Value)} {rest : List Value} {h : pH} {i : Nat} {x : Int32} (C : Cx X cc own nL) (d : decode cc pc = .ok (.istore i, 2)) (hn : i < nL) (hv : (i, Value.int x) :: lv.filter (fun q => !(q.1 == i) && !(q.1 + 1 == i && q.2.category == 2)) = lv') (k : Wx X nL (pc + 2) lv' rest h) : Wx X nL pc lv (Value.int x :: rest) h := by
  obtain ⟨p, l, e, R, s, m, args, below, meth, c, cs, Q, D, q, cA, A⟩ := X
  intro H locs ls hP hS hl
  exact lv_istore C.1 C.2.1 d hl hn hv (fun ls' hl' => k H locs ls' hP hS hl')
theorem x_lstore_n {X : Xt} {cc : ByteArray} {own : String} {nL pc : Nat} {lv lv' : List (Nat × Value)} {rest : List Value} {h : pH} {n : Fin 4} {i : Nat} {x : Int64} (C : Cx X cc own nL) (d : decode cc pc = .ok (.lstore_n n, 1)) (hi : (n : Nat) = i) (hn : i + 1 < nL) (hv : (i, Value.long x) :: lv.filter (fun q => !(q.1 == i) && (!(q.1 == i + 1) && !(q.1 + 1 == i && q.2.category == 2))) = lv') (k : Wx X nL (pc + 1) lv' rest h) : Wx X nL pc lv (Value.long x :: rest) h := by
  obtain ⟨p, l, e, R, s, m, args, below, meth, c, cs, Q, D, q, cA, A⟩ := X
  intro H locs ls hP hS hl
  exact lv_lstore_n C.1 C.2.1 d hi hl hn hv (fun ls' hl' => k H locs ls' hP hS hl')
theorem x_lstore {X : Xt} {cc : ByteArray} {own : String} {nL pc : Nat} {lv lv' : List (Nat × Value)} {rest : List Value} {h : pH} {i : Nat} {x : Int64} (C : Cx X cc own nL) (d : decode cc pc = .ok (.lstore i, 2)) (hn : i + 1 < nL) (hv : (i, Value.long x) :: lv.filter (fun q => !(q.1 == i) && (!(q.1 == i + 1) && !(q.1 + 1 == i && q.2.category == 2))) = lv') (k : Wx X nL (pc + 2) lv' rest h) : Wx X nL pc lv (Value.long x :: rest) h := by
  obtain ⟨p, l, e, R, s, m, args, below, meth, c, cs, Q, D, q, cA, A⟩ := X
  intro H locs ls hP hS hl
  exact lv_lstore C.1 C.2.1 d hl hn hv (fun ls' hl' => k H locs ls' hP hS hl')
theorem x_astore_n {X : Xt} {cc : ByteArray} {own : String} {nL pc : Nat} {lv lv' : List (Nat × Value)} {rest : List Value} {h : pH} {n : Fin 4} {i : Nat} {r : Nat} (C : Cx X cc own nL) (d : decode cc pc = .ok (.astore_n n, 1)) (hi : (n : Nat) = i) (hn : i < nL) (hv : (i, rf (qo X) r) :: lv.filter (fun q => !(q.1 == i) && !(q.1 + 1 == i && q.2.category == 2)) = lv') (k : Wx X nL (pc + 1) lv' rest h) : Wx X nL pc lv (rf (qo X) r :: rest) h := by
  obtain ⟨p, l, e, R, s, m, args, below, meth, c, cs, Q, D, q, cA, A⟩ := X
  intro H locs ls hP hS hl
  cases r with
  | zero => exact lv_astore_nN C.1 C.2.1 d hi hl hn hv (fun ls' hl' => k H locs ls' hP hS hl')
  | succ r => exact lv_astore_n C.1 C.2.1 d hi hl hn hv (fun ls' hl' => k H locs ls' hP hS hl')
theorem x_astore {X : Xt} {cc : ByteArray} {own : String} {nL pc : Nat} {lv lv' : List (Nat × Value)} {rest : List Value} {h : pH} {i : Nat} {r : Nat} (C : Cx X cc own nL) (d : decode cc pc = .ok (.astore i, 2)) (hn : i < nL) (hv : (i, rf (qo X) r) :: lv.filter (fun q => !(q.1 == i) && !(q.1 + 1 == i && q.2.category == 2)) = lv') (k : Wx X nL (pc + 2) lv' rest h) : Wx X nL pc lv (rf (qo X) r :: rest) h := by
  obtain ⟨p, l, e, R, s, m, args, below, meth, c, cs, Q, D, q, cA, A⟩ := X
  intro H locs ls hP hS hl
  cases r with
  | zero => exact lv_astoreN C.1 C.2.1 d hl hn hv (fun ls' hl' => k H locs ls' hP hS hl')
  | succ r => exact lv_astore C.1 C.2.1 d hl hn hv (fun ls' hl' => k H locs ls' hP hS hl')
theorem x_iinc {X : Xt} {cc : ByteArray} {own : String} {nL pc : Nat} {lv lv' : List (Nat × Value)} {rest : List Value} {h : pH} {i : Nat} {n : Int} {x v : Int32} (j : Nat) (C : Cx X cc own nL) (d : decode cc pc = .ok (.iinc i n, 3)) (hj : lv[j]? = some (i, .int x)) (hx : x + Int32.ofInt n = v) (hn : i < nL) (hv : (i, Value.int v) :: lv.filter (fun q => !(q.1 == i) && !(q.1 + 1 == i && q.2.category == 2)) = lv') (k : Wx X nL (pc + 3) lv' rest h) : Wx X nL pc lv rest h := by
  obtain ⟨p, l, e, R, s, m, args, below, meth, c, cs, Q, D, q, cA, A⟩ := X
  intro H locs ls hP hS hl
  exact lv_iinc C.1 C.2.1 d hl hj hx hn hv (fun ls' hl' => k H locs ls' hP hS hl')
theorem x_icmp_eq {X : Xt} {cc : ByteArray} {own : String} {nL pc : Nat} {lv : List (Nat × Value)} {rest : List Value} {h : pH} {x y : Int32} {off : Int} {tgt : Nat} (C : Cx X cc own nL) (d : decode cc pc = .ok (.if_icmp .eq off, 3)) (ht : (pc : Int) + off = (tgt : Int)) (kt : x = y → Wx X nL tgt lv rest h) (kf : ¬ x = y → Wx X nL (pc + 3) lv rest h) : Wx X nL pc lv (.int y :: .int x :: rest) h := by
  obtain ⟨p, l, e, R, s, m, args, below, meth, c, cs, Q, D, q, cA, A⟩ := X
  intro H locs ls hP hS hl
  exact lv_icmp_eq C.1 C.2.1 d ht (fun z => kt z H locs ls hP hS hl) (fun z => kf z H locs ls hP hS hl)
theorem x_icmp_lt {X : Xt} {cc : ByteArray} {own : String} {nL pc : Nat} {lv : List (Nat × Value)} {rest : List Value} {h : pH} {x y : Int32} {off : Int} {tgt : Nat} (C : Cx X cc own nL) (d : decode cc pc = .ok (.if_icmp .lt off, 3)) (ht : (pc : Int) + off = (tgt : Int)) (kt : x < y → Wx X nL tgt lv rest h) (kf : ¬ x < y → Wx X nL (pc + 3) lv rest h) : Wx X nL pc lv (.int y :: .int x :: rest) h := by
  obtain ⟨p, l, e, R, s, m, args, below, meth, c, cs, Q, D, q, cA, A⟩ := X
  intro H locs ls hP hS hl
  exact lv_icmp_lt C.1 C.2.1 d ht (fun z => kt z H locs ls hP hS hl) (fun z => kf z H locs ls hP hS hl)
theorem x_icmp_ge {X : Xt} {cc : ByteArray} {own : String} {nL pc : Nat} {lv : List (Nat × Value)} {rest : List Value} {h : pH} {x y : Int32} {off : Int} {tgt : Nat} (C : Cx X cc own nL) (d : decode cc pc = .ok (.if_icmp .ge off, 3)) (ht : (pc : Int) + off = (tgt : Int)) (kt : y ≤ x → Wx X nL tgt lv rest h) (kf : ¬ y ≤ x → Wx X nL (pc + 3) lv rest h) : Wx X nL pc lv (.int y :: .int x :: rest) h := by
  obtain ⟨p, l, e, R, s, m, args, below, meth, c, cs, Q, D, q, cA, A⟩ := X
  intro H locs ls hP hS hl
  exact lv_icmp_ge C.1 C.2.1 d ht (fun z => kt z H locs ls hP hS hl) (fun z => kf z H locs ls hP hS hl)
theorem x_icmp_gt {X : Xt} {cc : ByteArray} {own : String} {nL pc : Nat} {lv : List (Nat × Value)} {rest : List Value} {h : pH} {x y : Int32} {off : Int} {tgt : Nat} (C : Cx X cc own nL) (d : decode cc pc = .ok (.if_icmp .gt off, 3)) (ht : (pc : Int) + off = (tgt : Int)) (kt : y < x → Wx X nL tgt lv rest h) (kf : ¬ y < x → Wx X nL (pc + 3) lv rest h) : Wx X nL pc lv (.int y :: .int x :: rest) h := by
  obtain ⟨p, l, e, R, s, m, args, below, meth, c, cs, Q, D, q, cA, A⟩ := X
  intro H locs ls hP hS hl
  exact lv_icmp_gt C.1 C.2.1 d ht (fun z => kt z H locs ls hP hS hl) (fun z => kf z H locs ls hP hS hl)
theorem x_icmp_le {X : Xt} {cc : ByteArray} {own : String} {nL pc : Nat} {lv : List (Nat × Value)} {rest : List Value} {h : pH} {x y : Int32} {off : Int} {tgt : Nat} (C : Cx X cc own nL) (d : decode cc pc = .ok (.if_icmp .le off, 3)) (ht : (pc : Int) + off = (tgt : Int)) (kt : x ≤ y → Wx X nL tgt lv rest h) (kf : ¬ x ≤ y → Wx X nL (pc + 3) lv rest h) : Wx X nL pc lv (.int y :: .int x :: rest) h := by
  obtain ⟨p, l, e, R, s, m, args, below, meth, c, cs, Q, D, q, cA, A⟩ := X
  intro H locs ls hP hS hl
  exact lv_icmp_le C.1 C.2.1 d ht (fun z => kt z H locs ls hP hS hl) (fun z => kf z H locs ls hP hS hl)
theorem x_icmp_ne {X : Xt} {cc : ByteArray} {own : String} {nL pc : Nat} {lv : List (Nat × Value)} {rest : List Value} {h : pH} {x y : Int32} {off : Int} {tgt : Nat} (C : Cx X cc own nL) (d : decode cc pc = .ok (.if_icmp .ne off, 3)) (ht : (pc : Int) + off = (tgt : Int)) (kt : ¬ x = y → Wx X nL tgt lv rest h) (kf : x = y → Wx X nL (pc + 3) lv rest h) : Wx X nL pc lv (.int y :: .int x :: rest) h := by
  obtain ⟨p, l, e, R, s, m, args, below, meth, c, cs, Q, D, q, cA, A⟩ := X
  intro H locs ls hP hS hl
  exact lv_icmp_ne C.1 C.2.1 d ht (fun z => kt z H locs ls hP hS hl) (fun z => kf z H locs ls hP hS hl)
theorem x_if_eq {X : Xt} {cc : ByteArray} {own : String} {nL pc : Nat} {lv : List (Nat × Value)} {rest : List Value} {h : pH} {x : Int32} {off : Int} {tgt : Nat} (C : Cx X cc own nL) (d : decode cc pc = .ok (.ifCond .eq off, 3)) (ht : (pc : Int) + off = (tgt : Int)) (kt : x = 0 → Wx X nL tgt lv rest h) (kf : ¬ x = 0 → Wx X nL (pc + 3) lv rest h) : Wx X nL pc lv (.int x :: rest) h := by
  obtain ⟨p, l, e, R, s, m, args, below, meth, c, cs, Q, D, q, cA, A⟩ := X
  intro H locs ls hP hS hl
  exact lv_if_eq C.1 C.2.1 d ht (fun z => kt z H locs ls hP hS hl) (fun z => kf z H locs ls hP hS hl)
theorem x_if_lt {X : Xt} {cc : ByteArray} {own : String} {nL pc : Nat} {lv : List (Nat × Value)} {rest : List Value} {h : pH} {x : Int32} {off : Int} {tgt : Nat} (C : Cx X cc own nL) (d : decode cc pc = .ok (.ifCond .lt off, 3)) (ht : (pc : Int) + off = (tgt : Int)) (kt : x < 0 → Wx X nL tgt lv rest h) (kf : ¬ x < 0 → Wx X nL (pc + 3) lv rest h) : Wx X nL pc lv (.int x :: rest) h := by
  obtain ⟨p, l, e, R, s, m, args, below, meth, c, cs, Q, D, q, cA, A⟩ := X
  intro H locs ls hP hS hl
  exact lv_if_lt C.1 C.2.1 d ht (fun z => kt z H locs ls hP hS hl) (fun z => kf z H locs ls hP hS hl)
theorem x_if_ge {X : Xt} {cc : ByteArray} {own : String} {nL pc : Nat} {lv : List (Nat × Value)} {rest : List Value} {h : pH} {x : Int32} {off : Int} {tgt : Nat} (C : Cx X cc own nL) (d : decode cc pc = .ok (.ifCond .ge off, 3)) (ht : (pc : Int) + off = (tgt : Int)) (kt : 0 ≤ x → Wx X nL tgt lv rest h) (kf : ¬ 0 ≤ x → Wx X nL (pc + 3) lv rest h) : Wx X nL pc lv (.int x :: rest) h := by
  obtain ⟨p, l, e, R, s, m, args, below, meth, c, cs, Q, D, q, cA, A⟩ := X
  intro H locs ls hP hS hl
  exact lv_if_ge C.1 C.2.1 d ht (fun z => kt z H locs ls hP hS hl) (fun z => kf z H locs ls hP hS hl)
theorem x_if_gt {X : Xt} {cc : ByteArray} {own : String} {nL pc : Nat} {lv : List (Nat × Value)} {rest : List Value} {h : pH} {x : Int32} {off : Int} {tgt : Nat} (C : Cx X cc own nL) (d : decode cc pc = .ok (.ifCond .gt off, 3)) (ht : (pc : Int) + off = (tgt : Int)) (kt : 0 < x → Wx X nL tgt lv rest h) (kf : ¬ 0 < x → Wx X nL (pc + 3) lv rest h) : Wx X nL pc lv (.int x :: rest) h := by
  obtain ⟨p, l, e, R, s, m, args, below, meth, c, cs, Q, D, q, cA, A⟩ := X
  intro H locs ls hP hS hl
  exact lv_if_gt C.1 C.2.1 d ht (fun z => kt z H locs ls hP hS hl) (fun z => kf z H locs ls hP hS hl)
theorem x_if_le {X : Xt} {cc : ByteArray} {own : String} {nL pc : Nat} {lv : List (Nat × Value)} {rest : List Value} {h : pH} {x : Int32} {off : Int} {tgt : Nat} (C : Cx X cc own nL) (d : decode cc pc = .ok (.ifCond .le off, 3)) (ht : (pc : Int) + off = (tgt : Int)) (kt : x ≤ 0 → Wx X nL tgt lv rest h) (kf : ¬ x ≤ 0 → Wx X nL (pc + 3) lv rest h) : Wx X nL pc lv (.int x :: rest) h := by
  obtain ⟨p, l, e, R, s, m, args, below, meth, c, cs, Q, D, q, cA, A⟩ := X
  intro H locs ls hP hS hl
  exact lv_if_le C.1 C.2.1 d ht (fun z => kt z H locs ls hP hS hl) (fun z => kf z H locs ls hP hS hl)
theorem x_if_ne {X : Xt} {cc : ByteArray} {own : String} {nL pc : Nat} {lv : List (Nat × Value)} {rest : List Value} {h : pH} {x : Int32} {off : Int} {tgt : Nat} (C : Cx X cc own nL) (d : decode cc pc = .ok (.ifCond .ne off, 3)) (ht : (pc : Int) + off = (tgt : Int)) (kt : ¬ x = 0 → Wx X nL tgt lv rest h) (kf : x = 0 → Wx X nL (pc + 3) lv rest h) : Wx X nL pc lv (.int x :: rest) h := by
  obtain ⟨p, l, e, R, s, m, args, below, meth, c, cs, Q, D, q, cA, A⟩ := X
  intro H locs ls hP hS hl
  exact lv_if_ne C.1 C.2.1 d ht (fun z => kt z H locs ls hP hS hl) (fun z => kf z H locs ls hP hS hl)
theorem x_goto {X : Xt} {cc : ByteArray} {own : String} {nL pc : Nat} {lv : List (Nat × Value)} {rest : List Value} {h : pH} {off : Int} {tgt : Nat} (C : Cx X cc own nL) (d : decode cc pc = .ok (.goto off, 3)) (ht : (pc : Int) + off = (tgt : Int)) (k : Wx X nL tgt lv rest h) : Wx X nL pc lv rest h := by
  obtain ⟨p, l, e, R, s, m, args, below, meth, c, cs, Q, D, q, cA, A⟩ := X
  intro H locs ls hP hS hl
  exact lv_goto C.1 C.2.1 d ht (k H locs ls hP hS hl)
theorem x_ifnull {X : Xt} {cc : ByteArray} {own : String} {nL pc : Nat} {lv : List (Nat × Value)} {rest : List Value} {h : pH} {r : Nat} {off : Int} {tgt : Nat} (C : Cx X cc own nL) (d : decode cc pc = .ok (.ifnull off, 3)) (ht : (pc : Int) + off = (tgt : Int)) (kt : r = 0 → Wx X nL tgt lv rest h) (kf : ¬ r = 0 → Wx X nL (pc + 3) lv rest h) : Wx X nL pc lv (rf (qo X) r :: rest) h := by
  obtain ⟨p, l, e, R, s, m, args, below, meth, c, cs, Q, D, q, cA, A⟩ := X
  intro H locs ls hP hS hl
  cases r with
  | zero => exact lv_ifnullN C.1 C.2.1 d ht (kt rfl H locs ls hP hS hl)
  | succ r => exact lv_ifnull C.1 C.2.1 d (kf (by omega) H locs ls hP hS hl)
theorem x_ifnonnull {X : Xt} {cc : ByteArray} {own : String} {nL pc : Nat} {lv : List (Nat × Value)} {rest : List Value} {h : pH} {r : Nat} {off : Int} {tgt : Nat} (C : Cx X cc own nL) (d : decode cc pc = .ok (.ifnonnull off, 3)) (ht : (pc : Int) + off = (tgt : Int)) (kt : ¬ r = 0 → Wx X nL tgt lv rest h) (kf : r = 0 → Wx X nL (pc + 3) lv rest h) : Wx X nL pc lv (rf (qo X) r :: rest) h := by
  obtain ⟨p, l, e, R, s, m, args, below, meth, c, cs, Q, D, q, cA, A⟩ := X
  intro H locs ls hP hS hl
  cases r with
  | zero => exact lv_ifnonnullN C.1 C.2.1 d (kf rfl H locs ls hP hS hl)
  | succ r => exact lv_ifnonnull C.1 C.2.1 d ht (kt (by omega) H locs ls hP hS hl)
theorem x_table {X : Xt} {cc : ByteArray} {own : String} {nL pc : Nat} {lv : List (Nat × Value)} {rest : List Value} {h : pH} {x : Int32} {dflt lo hi : Int} {offs : Array Int} {len : Nat} (C : Cx X cc own nL) (d : decode cc pc = .ok (.tableswitch dflt lo hi offs, len)) (kd : (x.toInt < lo ∨ hi < x.toInt) → ∃ tgt : Nat, (pc : Int) + dflt = (tgt : Int) ∧ Wx X nL tgt lv rest h) (kt : ¬ x.toInt < lo → ¬ hi < x.toInt → ∃ (off : Int) (tgt : Nat), offs[(x.toInt - lo).toNat]? = some off ∧ (pc : Int) + off = (tgt : Int) ∧ Wx X nL tgt lv rest h) : Wx X nL pc lv (.int x :: rest) h := by
  obtain ⟨p, l, e, R, s, m, args, below, meth, c, cs, Q, D, q, cA, A⟩ := X
  intro H locs ls hP hS hl
  by_cases hh : x.toInt < lo ∨ hi < x.toInt
  · obtain ⟨tgt, ht, k⟩ := kd hh
    exact lv_tableOut C.1 C.2.1 d hh ht (k H locs ls hP hS hl)
  · obtain ⟨off, tgt, ho, ht, k⟩ := kt (fun z => hh (Or.inl z)) (fun z => hh (Or.inr z))
    exact lv_tableIn C.1 C.2.1 d (fun z => hh (Or.inl z)) (fun z => hh (Or.inr z)) ho ht (k H locs ls hP hS hl)
theorem x_lookup {X : Xt} {cc : ByteArray} {own : String} {nL pc : Nat} {lv : List (Nat × Value)} {rest : List Value} {h : pH} {x : Int32} {dflt off : Int} {ps : Array (Int × Int)} {len tgt : Nat} (C : Cx X cc own nL) (d : decode cc pc = .ok (.lookupswitch dflt ps, len)) (hp : (ps.toList.zip (ps.toList.drop 1)).all (fun (a, next) => a.1 < next.1) = true) (ho : Op.lookupswitch.offset ps.toList dflt x.toInt = off) (ht : (pc : Int) + off = (tgt : Int)) (k : Wx X nL tgt lv rest h) : Wx X nL pc lv (.int x :: rest) h := by
  obtain ⟨p, l, e, R, s, m, args, below, meth, c, cs, Q, D, q, cA, A⟩ := X
  intro H locs ls hP hS hl
  exact lv_lookup C.1 C.2.1 d hp ho ht (k H locs ls hP hS hl)
theorem x_lv {X : Xt} {nL pc : Nat} {lv lv' : List (Nat × Value)} {st : List Value} {h : pH} (is : List Nat) (hl2 : lv_pick lv is = lv') (k : Wx X nL pc lv' st h) : Wx X nL pc lv st h := by
  obtain ⟨p, l, e, R, s, m, args, below, meth, c, cs, Q, D, q, cA, A⟩ := X
  intro H locs ls hP hS hl
  exact k H locs ls hP hS (lv_sub hl is hl2)
end
section
/-! ===== links ===== -/
def KCl (ci : Nat) (Cn : String) (T : u_T) (N : Nat) (ty0 : Nat → FieldType) : Prop := vwCl[ci]? = some (Cn, T, N) ∧ (∀ w ∈ u_ws Cn T N, w ∈ lw_g) ∧ (∀ k, k < N → parseFieldDescriptor (T k).2.2.1 = some (ty0 k)) ∧ (∀ a, a < N → ∀ b, b < N → a ≠ b → (T a).2.1 ≠ (T b).2.1)
def LkF (own : String) (idx ci j : Nat) (ty : FieldType) (fin : Bool) : Prop := ∃ (Cn : String) (T : u_T) (N : Nat) (ty0 : Nat → FieldType), KCl ci Cn T N ty0 ∧ j < N ∧ ty0 j = ty ∧ (T j).2.2.2 = fin ∧ (Cond.fieldLink own idx (T j).1 (T j).2.1 (T j).2.2.1 ∈ lw_g ∨ ∃ host, (own, idx, (T j).1, (T j).2.1, (T j).2.2.1, host) ∈ nsF)
def LkG (own : String) (idx i : Nat) : Prop := Cond.fieldLink own idx "MiddlePlank" (stN i) "[C" ∈ lw_g ∨ ∃ host, (own, idx, "MiddlePlank", stN i, "[C", host) ∈ nsF
def nmOk (y : MethodName) (n : Nat) : Prop := y.cls ≠ "java/lang/invoke/MethodHandle" ∧ y.cls ≠ "java/lang/invoke/VarHandle" ∧ (parseMethodDescriptor y.desc).map (fun d => d.parameters.length) = some n
def LkM (own : String) (idx : Nat) (y : MethodName) : Prop := Cond.methodLink own idx y ∈ lw_g ∨ ∃ host, (own, idx, y, host) ∈ nsM
def MiV (ci : Nat) (y : MethodName) (bytes : ByteArray) (maxL : Nat) (ret : Option FieldType) (n : Nat) : Prop := (∃ T N, vwCl[ci]? = some (y.cls, T, N)) ∧ Cond.code y bytes maxL ret ∈ lw_g ∧ Cond.initialized y.cls ∈ lw_g ∧ Cond.instanceMethod y ∈ lw_g ∧ Cond.selects y.cls y y ∈ lw_g ∧ nmOk y n
def MiS (y : MethodName) (bytes : ByteArray) (maxL : Nat) (ret : Option FieldType) (n : Nat) : Prop := Cond.code y bytes maxL ret ∈ lw_g ∧ Cond.initialized y.cls ∈ lw_g ∧ Cond.static y ∈ lw_g ∧ nmOk y n
/-! ===== fields and arrays ===== -/
theorem x_getI {X : Xt} {cc : ByteArray} {own : String} {nL pc : Nat} {lv : List (Nat × Value)} {rest : List Value} {h : pH} {r j ci idx : Nat} {ty : FieldType} {fin : Bool} (C : Cx X cc own nL) (d : decode cc pc = .ok (.getfield idx, 3)) (L : LkF own idx ci j ty fin) (hf : fI ci j r = true) (k : Wx X nL (pc + 3) lv (.int (h.1 r j) :: rest) h) : Wx X nL pc lv (rf (qo X) r :: rest) h := by
  obtain ⟨p, l, e, R, s, m, args, below, meth, c, cs, Q, D, q, cA, A⟩ := X
  intro H locs ls hP hS hl
  obtain ⟨hx, hb, hml, hown, hts, hns, hK, hi, hA, hst, -⟩ := C
  obtain ⟨Cn, T, N, ty0, ⟨k1, k2, k3, k4⟩, hj, -, -, hlk⟩ := L
  obtain ⟨fs, e1, e2⟩ := fI_of hf
  have hr := shp_lt (k := r) (by rw [e1]; exact fun z => by cases z)
  have he : (gw q cA h)[r - 1]? = some (q r, .inr (ci, flv q h r fs)) := by rw [gw_at hr]; simp only [cel, e1]
  have hv := flv_get (q := q) (h := h) (k := r) e2
  rw [if_pos rfl] at hv
  obtain ⟨r, rfl⟩ : ∃ r', r = r' + 1 := ⟨r - 1, by omega⟩
  rcases hlk with hlk | ⟨host, hlk⟩
  · exact va_get hx hb hts k2 hown hK hP _ he k1 j hj (hts _ hlk) (fun _ z => z) hv d (k H locs ls hP hS hl)
  · exact va_getN hx hb hts k2 hown hK hP _ he k1 j hj (va_Nw.use rfl (hns.1 _ hlk)) (fun _ z => z) hv d (k H locs ls hP hS hl)
theorem x_getR {X : Xt} {cc : ByteArray} {own : String} {nL pc : Nat} {lv : List (Nat × Value)} {rest : List Value} {h : pH} {r j ci idx r2 : Nat} {ty : FieldType} {fin : Bool} (C : Cx X cc own nL) (d : decode cc pc = .ok (.getfield idx, 3)) (L : LkF own idx ci j ty fin) (hf : isO ci r = true) (he2 : fR r j = r2) (hn : ¬ r2 = 0) (k : Wx X nL (pc + 3) lv (rf (qo X) r2 :: rest) h) : Wx X nL pc lv (rf (qo X) r :: rest) h := by
  obtain ⟨p, l, e, R, s, m, args, below, meth, c, cs, Q, D, q, cA, A⟩ := X
  intro H locs ls hP hS hl
  obtain ⟨hx, hb, hml, hown, hts, hns, hK, hi, hA, hst, -⟩ := C
  obtain ⟨Cn, T, N, ty0, ⟨k1, k2, k3, k4⟩, hj, -, -, hlk⟩ := L
  obtain ⟨fs, e1⟩ := isO_of hf
  have hr := shp_lt (k := r) (by rw [e1]; exact fun z => by cases z)
  have he : (gw q cA h)[r - 1]? = some (q r, .inr (ci, flv q h r fs)) := by rw [gw_at hr]; simp only [cel, e1]
  have e2 : fs[j]? = some r2 := by
    simp only [fR, e1] at he2
    rw [List.getD_eq_getElem?_getD] at he2
    cases hz : fs[j]? with
    | none => rw [hz] at he2; exact absurd he2.symm hn
    | some z => rw [hz] at he2; exact congrArg some he2
  have hv := flv_get (q := q) (h := h) (k := r) e2
  rw [if_neg hn] at hv
  obtain ⟨r, rfl⟩ : ∃ r', r = r' + 1 := ⟨r - 1, by omega⟩
  obtain ⟨r2, rfl⟩ : ∃ r', r2 = r' + 1 := ⟨r2 - 1, by omega⟩
  rcases hlk with hlk | ⟨host, hlk⟩
  · exact va_get hx hb hts k2 hown hK hP _ he k1 j hj (hts _ hlk) (fun _ z => z) hv d (k H locs ls hP hS hl)
  · exact va_getN hx hb hts k2 hown hK hP _ he k1 j hj (va_Nw.use rfl (hns.1 _ hlk)) (fun _ z => z) hv d (k H locs ls hP hS hl)
theorem x_putI {X : Xt} {cc : ByteArray} {own : String} {nL pc : Nat} {lv : List (Nat × Value)} {rest : List Value} {h : pH} {r j ci idx : Nat} {ty : FieldType} {v : Int32} (C : Cx X cc own nL) (d : decode cc pc = .ok (.putfield idx, 3)) (L : LkF own idx ci j ty false) (hf : fI ci j r = true) (hn : narrow ty (.int v) = .int v) (hfit : fits ty (.int v) = true) (k : Wx X nL (pc + 3) lv rest (pw h r j v)) : Wx X nL pc lv (.int v :: rf (qo X) r :: rest) h := by
  obtain ⟨p, l, e, R, s, m, args, below, meth, c, cs, Q, D, q, cA, A⟩ := X
  intro H locs ls hP hS hl
  obtain ⟨hx, hb, hml, hown, hts, hns, hK, hi, hA, hst, -⟩ := C
  obtain ⟨Cn, T, N, ty0, ⟨k1, k2, k3, k4⟩, hj, hty, hfin, hlk⟩ := L
  obtain ⟨fs, e1, e2⟩ := fI_of hf
  have hr := shp_lt (k := r) (by rw [e1]; exact fun z => by cases z)
  have he : (gw q cA h)[r - 1]? = some (q r, .inr (ci, flv q h r fs)) := by rw [gw_at hr]; simp only [cel, e1]
  have hset : (gw q cA h).set (r - 1) (q r, .inr (ci, (flv q h r fs).set j (.int v))) = gw q cA (pw h r j v) := gw_set hr (by simp only [cel, e1]; rw [flv_set e2]) cel_pw
  have hlen : j < (flv q h r fs).length := by simp only [flv, List.length_mapIdx]; exact (List.getElem?_eq_some_iff.mp e2).1
  have hd : parseFieldDescriptor (T j).2.2.1 = some ty := by rw [← hty]; exact k3 j hj
  have hD := gwD (cA := cA) (h := h) hi hA
  have kk : ∀ (H1 : Heap) (locs1 : List Loc), va_P D vwCl ((gw q cA h).set (r - 1) (q r, .inr (ci, (flv q h r fs).set j (.int v)))) H1 → va_D A ((gw q cA h).set (r - 1) (q r, .inr (ci, (flv q h r fs).set j (.int v)))) → va_S A s.heap H1 locs1 → W p l e R s m args below meth c H1 locs1 cs.1 cs.2 Q (F0 m (pc + 3) ls rest) := fun H1 locs1 a1 _ a3 => k H1 locs1 ls (by rw [hset] at a1; exact a1) a3 hl
  obtain ⟨r, rfl⟩ : ∃ r', r = r' + 1 := ⟨r - 1, by omega⟩
  rcases hlk with hlk | ⟨host, hlk⟩
  · exact va_put hx hb hts k2 ty0 k3 k4 hown hK hP hD hS _ he k1 j hj (hts _ hlk) (fun _ z => z) hfin hd hn hfit hlen d kk
  · exact va_putN hx hb hts k2 ty0 k3 k4 hown hK hP hD hS _ he k1 j hj (va_Nw.use rfl (hns.1 _ hlk)) (fun _ z => z) hfin hd hn hfit hlen d kk

theorem x_iald {X : Xt} {cc : ByteArray} {own : String} {nL pc : Nat} {lv : List (Nat × Value)} {rest : List Value} {h : pH} {r : Nat} {i : Int32} (C : Cx X cc own nL) (d : decode cc pc = .ok (.iaload, 1)) (ha : aK r = 0) (hi : ix i (aN r) = true) (k : Wx X nL (pc + 1) lv (.int (h.1 r i.toNatClampNeg) :: rest) h) : Wx X nL pc lv (.int i :: rf (qo X) r :: rest) h := by
  obtain ⟨p, l, e, R, s, m, args, below, meth, c, cs, Q, D, q, cA, A⟩ := X
  intro H locs ls hP hS hl
  obtain ⟨hx, hb, hml, hown, hts, hns, hK, hij, hA, hst, -⟩ := C
  obtain ⟨els, e1⟩ := aK_of ha (by decide)
  have hr := shp_lt (k := r) (by rw [e1]; exact fun z => by cases z)
  have he : (gw q cA h)[r - 1]? = some (q r, .inl (cA 0, aN r, .inl (h.1 r))) := by rw [gw_at hr]; simp [cel, e1]
  obtain ⟨r, rfl⟩ : ∃ r', r = r' + 1 := ⟨r - 1, by omega⟩
  exact va_iald hx hb hK hP _ 0 he rfl (ix_in hi) d (k H locs ls hP hS hl)
theorem x_zald {X : Xt} {cc : ByteArray} {own : String} {nL pc : Nat} {lv : List (Nat × Value)} {rest : List Value} {h : pH} {r : Nat} {i : Int32} (C : Cx X cc own nL) (d : decode cc pc = .ok (.baload, 1)) (ha : aK r = 1) (hi : ix i (aN r) = true) (k : Wx X nL (pc + 1) lv (.int (h.1 r i.toNatClampNeg) :: rest) h) : Wx X nL pc lv (.int i :: rf (qo X) r :: rest) h := by
  obtain ⟨p, l, e, R, s, m, args, below, meth, c, cs, Q, D, q, cA, A⟩ := X
  intro H locs ls hP hS hl
  obtain ⟨hx, hb, hml, hown, hts, hns, hK, hij, hA, hst, -⟩ := C
  obtain ⟨els, e1⟩ := aK_of ha (by decide)
  have hr := shp_lt (k := r) (by rw [e1]; exact fun z => by cases z)
  have he : (gw q cA h)[r - 1]? = some (q r, .inl (cA 1, aN r, .inl (h.1 r))) := by rw [gw_at hr]; simp [cel, e1]
  obtain ⟨r, rfl⟩ : ∃ r', r = r' + 1 := ⟨r - 1, by omega⟩
  exact va_zald hx hb hK hP _ 1 he rfl (ix_in hi) d (k H locs ls hP hS hl)
theorem x_lald {X : Xt} {cc : ByteArray} {own : String} {nL pc : Nat} {lv : List (Nat × Value)} {rest : List Value} {h : pH} {r : Nat} {i : Int32} (C : Cx X cc own nL) (d : decode cc pc = .ok (.laload, 1)) (ha : aK r = 3) (hi : ix i (aN r) = true) (k : Wx X nL (pc + 1) lv (.long (h.2 r i.toNatClampNeg) :: rest) h) : Wx X nL pc lv (.int i :: rf (qo X) r :: rest) h := by
  obtain ⟨p, l, e, R, s, m, args, below, meth, c, cs, Q, D, q, cA, A⟩ := X
  intro H locs ls hP hS hl
  obtain ⟨hx, hb, hml, hown, hts, hns, hK, hij, hA, hst, -⟩ := C
  obtain ⟨els, e1⟩ := aK_of ha (by decide)
  have hr := shp_lt (k := r) (by rw [e1]; exact fun z => by cases z)
  have he : (gw q cA h)[r - 1]? = some (q r, .inl (cA 3, aN r, .inr (.inl (h.2 r)))) := by rw [gw_at hr]; simp [cel, e1]
  obtain ⟨r, rfl⟩ : ∃ r', r = r' + 1 := ⟨r - 1, by omega⟩
  exact va_lald hx hb hK hP _ 3 he rfl (ix_in hi) d (k H locs ls hP hS hl)
theorem x_aald4 {X : Xt} {cc : ByteArray} {own : String} {nL pc : Nat} {lv : List (Nat × Value)} {rest : List Value} {h : pH} {r : Nat} {i : Int32} (C : Cx X cc own nL) (d : decode cc pc = .ok (.aaload, 1)) (ha : aK r = 4) (hi : ix i (aN r) = true) (k : Wx X nL (pc + 1) lv (rf (qo X) (aE r i.toNatClampNeg) :: rest) h) : Wx X nL pc lv (.int i :: rf (qo X) r :: rest) h := by
  obtain ⟨p, l, e, R, s, m, args, below, meth, c, cs, Q, D, q, cA, A⟩ := X
  intro H locs ls hP hS hl
  obtain ⟨hx, hb, hml, hown, hts, hns, hK, hij, hA, hst, -⟩ := C
  obtain ⟨els, e1⟩ := aK_of ha (by decide)
  have hr := shp_lt (k := r) (by rw [e1]; exact fun z => by cases z)
  have he : (gw q cA h)[r - 1]? = some (q r, .inl (cA 4, aN r, .inr (.inr (.inr (.inr (fun j => rfo q (els.getD j 0))))))) := by rw [gw_at hr]; simp [cel, e1]
  have hv : va_rf ((fun j => rfo q (els.getD j 0)) i.toNatClampNeg) = rf q (aE r i.toNatClampNeg) := by rw [va_rf_rfo]; simp only [aE, e1]
  obtain ⟨r, rfl⟩ : ∃ r', r = r' + 1 := ⟨r - 1, by omega⟩
  exact va_aldq hx hb hK hP _ 4 he rfl (ix_in hi) d (by rw [hv]; exact k H locs ls hP hS hl)
theorem x_aald5 {X : Xt} {cc : ByteArray} {own : String} {nL pc : Nat} {lv : List (Nat × Value)} {rest : List Value} {h : pH} {r : Nat} {i : Int32} (C : Cx X cc own nL) (d : decode cc pc = .ok (.aaload, 1)) (ha : aK r = 5) (hi : ix i (aN r) = true) (k : Wx X nL (pc + 1) lv (rf (qo X) (aE r i.toNatClampNeg) :: rest) h) : Wx X nL pc lv (.int i :: rf (qo X) r :: rest) h := by
  obtain ⟨p, l, e, R, s, m, args, below, meth, c, cs, Q, D, q, cA, A⟩ := X
  intro H locs ls hP hS hl
  obtain ⟨hx, hb, hml, hown, hts, hns, hK, hij, hA, hst, -⟩ := C
  obtain ⟨els, e1⟩ := aK_of ha (by decide)
  have hr := shp_lt (k := r) (by rw [e1]; exact fun z => by cases z)
  have he : (gw q cA h)[r - 1]? = some (q r, .inl (cA 5, aN r, .inr (.inr (.inr (.inr (fun j => rfo q (els.getD j 0))))))) := by rw [gw_at hr]; simp [cel, e1]
  have hv : va_rf ((fun j => rfo q (els.getD j 0)) i.toNatClampNeg) = rf q (aE r i.toNatClampNeg) := by rw [va_rf_rfo]; simp only [aE, e1]
  obtain ⟨r, rfl⟩ : ∃ r', r = r' + 1 := ⟨r - 1, by omega⟩
  exact va_aldq hx hb hK hP _ 5 he rfl (ix_in hi) d (by rw [hv]; exact k H locs ls hP hS hl)
theorem x_aald6 {X : Xt} {cc : ByteArray} {own : String} {nL pc : Nat} {lv : List (Nat × Value)} {rest : List Value} {h : pH} {r : Nat} {i : Int32} (C : Cx X cc own nL) (d : decode cc pc = .ok (.aaload, 1)) (ha : aK r = 6) (hi : ix i (aN r) = true) (k : Wx X nL (pc + 1) lv (rf (qo X) (aE r i.toNatClampNeg) :: rest) h) : Wx X nL pc lv (.int i :: rf (qo X) r :: rest) h := by
  obtain ⟨p, l, e, R, s, m, args, below, meth, c, cs, Q, D, q, cA, A⟩ := X
  intro H locs ls hP hS hl
  obtain ⟨hx, hb, hml, hown, hts, hns, hK, hij, hA, hst, -⟩ := C
  obtain ⟨els, e1⟩ := aK_of ha (by decide)
  have hr := shp_lt (k := r) (by rw [e1]; exact fun z => by cases z)
  have he : (gw q cA h)[r - 1]? = some (q r, .inl (cA 6, aN r, .inr (.inr (.inr (.inr (fun j => rfo q (els.getD j 0))))))) := by rw [gw_at hr]; simp [cel, e1]
  have hv : va_rf ((fun j => rfo q (els.getD j 0)) i.toNatClampNeg) = rf q (aE r i.toNatClampNeg) := by rw [va_rf_rfo]; simp only [aE, e1]
  obtain ⟨r, rfl⟩ : ∃ r', r = r' + 1 := ⟨r - 1, by omega⟩
  exact va_aldq hx hb hK hP _ 6 he rfl (ix_in hi) d (by rw [hv]; exact k H locs ls hP hS hl)
theorem x_iast {X : Xt} {cc : ByteArray} {own : String} {nL pc : Nat} {lv : List (Nat × Value)} {rest : List Value} {h : pH} {r : Nat} {i : Int32} {x : Int32} (C : Cx X cc own nL) (d : decode cc pc = .ok (.iastore, 1)) (ha : aK r = 0) (hi : ix i (aN r) = true) (k : Wx X nL (pc + 1) lv rest (pw h r i.toNatClampNeg x)) : Wx X nL pc lv (.int x :: .int i :: rf (qo X) r :: rest) h := by
  obtain ⟨p, l, e, R, s, m, args, below, meth, c, cs, Q, D, q, cA, A⟩ := X
  intro H locs ls hP hS hl
  obtain ⟨hx, hb, hml, hown, hts, hns, hK, hij, hA, hst, -⟩ := C
  obtain ⟨els, e1⟩ := aK_of ha (by decide)
  have hr := shp_lt (k := r) (by rw [e1]; exact fun z => by cases z)
  have he : (gw q cA h)[r - 1]? = some (q r, .inl (cA 0, aN r, .inl (h.1 r))) := by rw [gw_at hr]; simp [cel, e1]
  have hset : (gw q cA h).set (r - 1) (q r, .inl (cA 0, aN r, .inl (upd (h.1 r) i.toNatClampNeg x))) = gw q cA (pw h r i.toNatClampNeg x) := gw_set hr (by simp [cel, e1, pw, pv]) cel_pw
  have hD := gwD (cA := cA) (h := h) hij hA
  have kk : ∀ (H1 : Heap) (locs1 : List Loc), va_P D vwCl ((gw q cA h).set (r - 1) (q r, .inl (cA 0, aN r, .inl (upd (h.1 r) i.toNatClampNeg x)))) H1 → va_D A ((gw q cA h).set (r - 1) (q r, .inl (cA 0, aN r, .inl (upd (h.1 r) i.toNatClampNeg x)))) → va_S A s.heap H1 locs1 → W p l e R s m args below meth c H1 locs1 cs.1 cs.2 Q (F0 m (pc + 1) ls rest) := fun H1 locs1 a1 _ a3 => k H1 locs1 ls (by rw [hset] at a1; exact a1) a3 hl
  obtain ⟨r, rfl⟩ : ∃ r', r = r' + 1 := ⟨r - 1, by omega⟩
  exact va_iast hx hb hK hP hD hS _ 0 he rfl (ix_in hi) d kk
theorem x_zast {X : Xt} {cc : ByteArray} {own : String} {nL pc : Nat} {lv : List (Nat × Value)} {rest : List Value} {h : pH} {r : Nat} {i : Int32} {x : Int32} (C : Cx X cc own nL) (d : decode cc pc = .ok (.bastore, 1)) (ha : aK r = 1) (hi : ix i (aN r) = true) (k : Wx X nL (pc + 1) lv rest (pw h r i.toNatClampNeg (vp_nar .boolean x))) : Wx X nL pc lv (.int x :: .int i :: rf (qo X) r :: rest) h := by
  obtain ⟨p, l, e, R, s, m, args, below, meth, c, cs, Q, D, q, cA, A⟩ := X
  intro H locs ls hP hS hl
  obtain ⟨hx, hb, hml, hown, hts, hns, hK, hij, hA, hst, -⟩ := C
  obtain ⟨els, e1⟩ := aK_of ha (by decide)
  have hr := shp_lt (k := r) (by rw [e1]; exact fun z => by cases z)
  have he : (gw q cA h)[r - 1]? = some (q r, .inl (cA 1, aN r, .inl (h.1 r))) := by rw [gw_at hr]; simp [cel, e1]
  have hset : (gw q cA h).set (r - 1) (q r, .inl (cA 1, aN r, .inl (upd (h.1 r) i.toNatClampNeg (vp_nar .boolean x)))) = gw q cA (pw h r i.toNatClampNeg (vp_nar .boolean x)) := gw_set hr (by simp [cel, e1, pw, pv]) cel_pw
  have hD := gwD (cA := cA) (h := h) hij hA
  have kk : ∀ (H1 : Heap) (locs1 : List Loc), va_P D vwCl ((gw q cA h).set (r - 1) (q r, .inl (cA 1, aN r, .inl (upd (h.1 r) i.toNatClampNeg (vp_nar .boolean x))))) H1 → va_D A ((gw q cA h).set (r - 1) (q r, .inl (cA 1, aN r, .inl (upd (h.1 r) i.toNatClampNeg (vp_nar .boolean x))))) → va_S A s.heap H1 locs1 → W p l e R s m args below meth c H1 locs1 cs.1 cs.2 Q (F0 m (pc + 1) ls rest) := fun H1 locs1 a1 _ a3 => k H1 locs1 ls (by rw [hset] at a1; exact a1) a3 hl
  obtain ⟨r, rfl⟩ : ∃ r', r = r' + 1 := ⟨r - 1, by omega⟩
  exact va_zast hx hb hK hP hD hS _ 1 he rfl (ix_in hi) d kk
theorem x_last {X : Xt} {cc : ByteArray} {own : String} {nL pc : Nat} {lv : List (Nat × Value)} {rest : List Value} {h : pH} {r : Nat} {i : Int32} {x : Int64} (C : Cx X cc own nL) (d : decode cc pc = .ok (.lastore, 1)) (ha : aK r = 3) (hi : ix i (aN r) = true) (k : Wx X nL (pc + 1) lv rest (pv h r i.toNatClampNeg x)) : Wx X nL pc lv (.long x :: .int i :: rf (qo X) r :: rest) h := by
  obtain ⟨p, l, e, R, s, m, args, below, meth, c, cs, Q, D, q, cA, A⟩ := X
  intro H locs ls hP hS hl
  obtain ⟨hx, hb, hml, hown, hts, hns, hK, hij, hA, hst, -⟩ := C
  obtain ⟨els, e1⟩ := aK_of ha (by decide)
  have hr := shp_lt (k := r) (by rw [e1]; exact fun z => by cases z)
  have he : (gw q cA h)[r - 1]? = some (q r, .inl (cA 3, aN r, .inr (.inl (h.2 r)))) := by rw [gw_at hr]; simp [cel, e1]
  have hset : (gw q cA h).set (r - 1) (q r, .inl (cA 3, aN r, .inr (.inl (vp_updL (h.2 r) i.toNatClampNeg x)))) = gw q cA (pv h r i.toNatClampNeg x) := gw_set hr (by simp [cel, e1, pw, pv]) cel_pv
  have hD := gwD (cA := cA) (h := h) hij hA
  have kk : ∀ (H1 : Heap) (locs1 : List Loc), va_P D vwCl ((gw q cA h).set (r - 1) (q r, .inl (cA 3, aN r, .inr (.inl (vp_updL (h.2 r) i.toNatClampNeg x))))) H1 → va_D A ((gw q cA h).set (r - 1) (q r, .inl (cA 3, aN r, .inr (.inl (vp_updL (h.2 r) i.toNatClampNeg x))))) → va_S A s.heap H1 locs1 → W p l e R s m args below meth c H1 locs1 cs.1 cs.2 Q (F0 m (pc + 1) ls rest) := fun H1 locs1 a1 _ a3 => k H1 locs1 ls (by rw [hset] at a1; exact a1) a3 hl
  obtain ⟨r, rfl⟩ : ∃ r', r = r' + 1 := ⟨r - 1, by omega⟩
  exact va_last hx hb hK hP hD hS _ 3 he rfl (ix_in hi) d kk
theorem x_alen0 {X : Xt} {cc : ByteArray} {own : String} {nL pc : Nat} {lv : List (Nat × Value)} {rest : List Value} {h : pH} {r : Nat} {v : Int32} (C : Cx X cc own nL) (d : decode cc pc = .ok (.arraylength, 1)) (ha : aK r = 0) (hv : Int32.ofNat (aN r) = v) (k : Wx X nL (pc + 1) lv (.int v :: rest) h) : Wx X nL pc lv (rf (qo X) r :: rest) h := by
  obtain ⟨p, l, e, R, s, m, args, below, meth, c, cs, Q, D, q, cA, A⟩ := X
  intro H locs ls hP hS hl
  obtain ⟨hx, hb, hml, hown, hts, hns, hK, hij, hA, hst, -⟩ := C
  obtain ⟨els, e1⟩ := aK_of ha (by decide)
  have hr := shp_lt (k := r) (by rw [e1]; exact fun z => by cases z)
  have he : (gw q cA h)[r - 1]? = some (q r, .inl (cA 0, aN r, .inl (h.1 r))) := by rw [gw_at hr]; simp [cel, e1]
  obtain ⟨r, rfl⟩ : ∃ r', r = r' + 1 := ⟨r - 1, by omega⟩
  exact va_alen hx hb hK hP _ 0 he rfl hv d (k H locs ls hP hS hl)
theorem x_alen4 {X : Xt} {cc : ByteArray} {own : String} {nL pc : Nat} {lv : List (Nat × Value)} {rest : List Value} {h : pH} {r : Nat} {v : Int32} (C : Cx X cc own nL) (d : decode cc pc = .ok (.arraylength, 1)) (ha : aK r = 4) (hv : Int32.ofNat (aN r) = v) (k : Wx X nL (pc + 1) lv (.int v :: rest) h) : Wx X nL pc lv (rf (qo X) r :: rest) h := by
  obtain ⟨p, l, e, R, s, m, args, below, meth, c, cs, Q, D, q, cA, A⟩ := X
  intro H locs ls hP hS hl
  obtain ⟨hx, hb, hml, hown, hts, hns, hK, hij, hA, hst, -⟩ := C
  obtain ⟨els, e1⟩ := aK_of ha (by decide)
  have hr := shp_lt (k := r) (by rw [e1]; exact fun z => by cases z)
  have he : (gw q cA h)[r - 1]? = some (q r, .inl (cA 4, aN r, .inr (.inr (.inr (.inr (fun j => rfo q (els.getD j 0))))))) := by rw [gw_at hr]; simp [cel, e1]
  obtain ⟨r, rfl⟩ : ∃ r', r = r' + 1 := ⟨r - 1, by omega⟩
  exact va_alen hx hb hK hP _ 4 he rfl hv d (k H locs ls hP hS hl)
theorem stP {D : va_G} {q : Nat → Nat} {cA : Nat → ClassId} {A : Nat → Prop} {s : State} {H : Heap} {locs : List Loc} (hst : stK D q cA A s s.heap) (hS : va_S A s.heap H locs) {i : Nat} (hi : i < 7) : va_P D vwCl [(q (69 + i), stE cA i)] H := fun k x hk => by
  obtain ⟨-, h2, h3⟩ := hst i hi
  have hz : k < 1 := (List.getElem?_eq_some_iff.mp hk).1
  rw [show k = 0 by omega] at hk
  cases hk
  exact h2.kept (hS.2.1 _ h2.lt h3)
theorem x_cald {X : Xt} {cc : ByteArray} {own : String} {nL pc : Nat} {lv : List (Nat × Value)} {rest : List Value} {h : pH} {t : Nat} {i : Int32} (C : Cx X cc own nL) (d : decode cc pc = .ok (.caload, 1)) (ht : t < 7) (hi : ix i (stL t).length = true) (k : Wx X nL (pc + 1) lv (.int (stc t i.toNatClampNeg) :: rest) h) : Wx X nL pc lv (.int i :: rf (qo X) (69 + t) :: rest) h := by
  obtain ⟨p, l, e, R, s, m, args, below, meth, c, cs, Q, D, q, cA, A⟩ := X
  intro H locs ls hP hS hl
  obtain ⟨hx, hb, hml, hown, hts, hns, hK, hij, hA, hst, -⟩ := C
  have e : rf (qo (p, l, e, R, s, m, args, below, meth, c, cs, Q, D, q, cA, A)) (69 + t) = .ref (q (69 + t)) := by rw [show 69 + t = (68 + t) + 1 by omega]; rfl
  rw [e]
  exact va_cald hx hb hK (stP hst hS ht) 0 2 rfl rfl (ix_in hi) d (k H locs ls hP hS hl)
theorem x_alenC {X : Xt} {cc : ByteArray} {own : String} {nL pc : Nat} {lv : List (Nat × Value)} {rest : List Value} {h : pH} {t : Nat} {v : Int32} (C : Cx X cc own nL) (d : decode cc pc = .ok (.arraylength, 1)) (ht : t < 7) (hv : Int32.ofNat (stL t).length = v) (k : Wx X nL (pc + 1) lv (.int v :: rest) h) : Wx X nL pc lv (rf (qo X) (69 + t) :: rest) h := by
  obtain ⟨p, l, e, R, s, m, args, below, meth, c, cs, Q, D, q, cA, A⟩ := X
  intro H locs ls hP hS hl
  obtain ⟨hx, hb, hml, hown, hts, hns, hK, hij, hA, hst, -⟩ := C
  have e : rf (qo (p, l, e, R, s, m, args, below, meth, c, cs, Q, D, q, cA, A)) (69 + t) = .ref (q (69 + t)) := by rw [show 69 + t = (68 + t) + 1 by omega]; rfl
  rw [e]
  exact va_alen hx hb hK (stP hst hS ht) 0 2 rfl rfl hv d (k H locs ls hP hS hl)
theorem x_gets {X : Xt} {cc : ByteArray} {own : String} {nL pc : Nat} {lv : List (Nat × Value)} {rest : List Value} {h : pH} {t idx : Nat} (C : Cx X cc own nL) (d : decode cc pc = .ok (.getstatic idx, 3)) (L : LkG own idx t) (ht : t < 7) (k : Wx X nL (pc + 3) lv (rf (qo X) (69 + t) :: rest) h) : Wx X nL pc lv rest h := by
  obtain ⟨p, l, e, R, s, m, args, below, meth, c, cs, Q, D, q, cA, A⟩ := X
  intro H locs ls hP hS hl
  obtain ⟨hx, hb, hml, hown, hts, hns, hK, hij, hA, hst, -⟩ := C
  have e : rf (qo (p, l, e, R, s, m, args, below, meth, c, cs, Q, D, q, cA, A)) (69 + t) = .ref (q (69 + t)) := by rw [show 69 + t = (68 + t) + 1 by omega]; rfl
  rw [e] at k
  rcases L with L | ⟨host, L⟩
  · exact va_gets hx hb (hst t ht).1 hS hown (hts _ L) (fun _ z => z) d (k H locs ls hP hS hl)
  · exact va_getsN hx hb (hst t ht).1 hS hown (va_Nw.use rfl (hns.1 _ L)) (fun _ z => z) d (k H locs ls hP hS hl)
theorem x_max {X : Xt} {cc : ByteArray} {own : String} {nL pc : Nat} {lv : List (Nat × Value)} {rest : List Value} {h : pH} {idx : Nat} {x y : Int32} (C : Cx X cc own nL) (d : decode cc pc = .ok (.invokestatic idx, 3)) (L : LkM own idx Lib.Math.max.name) (M : MiS Lib.Math.max.name Lib.Math.max.code 2 (some .int) 2) (hR : 1 ≤ (ro X).frames ∧ (rest.map fun v => v.category).sum + 13 ≤ (ro X).locals) (hN : Cond.methodLink own idx Lib.Math.max.name ∈ lw_g) (k : Wx X nL (pc + 3) lv (.int (if x < y then y else x) :: rest) h) : Wx X nL pc lv (.int y :: .int x :: rest) h := by
  obtain ⟨p, l, e, R, s, m, args, below, meth, c, cs, Q, D, q, cA, A⟩ := X
  intro H locs ls hP hS hl
  obtain ⟨hx, hb, hml, hown, hts, hns, hK, hij, hA, hst, hc1, hc2⟩ := C
  exact va_mmax hx hb (by rw [hml]; exact hl.1.symm) hown (hts _ hN) (hts _ M.2.2.1) (hts _ M.2.1) (hts _ M.1) hR.1 hR.2 hc1 hc2 d (k H locs ls hP hS hl)
theorem x_min {X : Xt} {cc : ByteArray} {own : String} {nL pc : Nat} {lv : List (Nat × Value)} {rest : List Value} {h : pH} {idx : Nat} {x y : Int32} (C : Cx X cc own nL) (d : decode cc pc = .ok (.invokestatic idx, 3)) (M : MiS Lib.Math.min.name Lib.Math.min.code 2 (some .int) 2) (hR : 1 ≤ (ro X).frames ∧ (rest.map fun v => v.category).sum + 13 ≤ (ro X).locals) (hN : Cond.methodLink own idx Lib.Math.min.name ∈ lw_g) (k : Wx X nL (pc + 3) lv (.int (if y < x then y else x) :: rest) h) : Wx X nL pc lv (.int y :: .int x :: rest) h := by
  obtain ⟨p, l, e, R, s, m, args, below, meth, c, cs, Q, D, q, cA, A⟩ := X
  intro H locs ls hP hS hl
  obtain ⟨hx, hb, hml, hown, hts, hns, hK, hij, hA, hst, hc1, hc2⟩ := C
  exact va_mmin hx hb (by rw [hml]; exact hl.1.symm) hown (hts _ hN) (hts _ M.2.2.1) (hts _ M.2.1) (hts _ M.1) hR.1 hR.2 hc1 hc2 d (k H locs ls hP hS hl)
theorem cel_pcI {q : Nat → Nat} {cA : Nat → ClassId} {h : pH} {k1 k2 a b n : Nat} : ∀ j, j ≠ k2 → cel q cA (pcI h k1 k2 a b n) j = cel q cA h j := fun j hj => cel_congr (by simp [pcI, hj]) rfl
theorem cel_pcL {q : Nat → Nat} {cA : Nat → ClassId} {h : pH} {k1 k2 a b n : Nat} : ∀ j, j ≠ k2 → cel q cA (pcL h k1 k2 a b n) j = cel q cA h j := fun j hj => cel_congr rfl (by simp [pcL, hj])
def cpyOk (sp dp n : Int32) (n1 n2 : Nat) : Prop := ¬ sp < 0 ∧ ¬ dp < 0 ∧ ¬ n < 0 ∧ sp.toNatClampNeg + n.toNatClampNeg ≤ n1 ∧ dp.toNatClampNeg + n.toNatClampNeg ≤ n2

theorem x_copyi {X : Xt} {cc : ByteArray} {own : String} {nL pc : Nat} {lv : List (Nat × Value)} {rest : List Value} {h : pH} {idx r1 r2 : Nat} {sp dp n : Int32} (C : Cx X cc own nL) (d : decode cc pc = .ok (.invokestatic idx, 3)) (hN : Cond.methodLink own idx arraycopyName ∈ lw_g) (hn1 : Cond.native arraycopyName ∈ lw_g) (hn2 : Cond.static arraycopyName ∈ lw_g) (hn3 : Cond.initialized "java/lang/System" ∈ lw_g) (ha1 : aK r1 = 0) (ha2 : aK r2 = 0) (hc : cpyOk sp dp n (aN r1) (aN r2)) (hR : 1 ≤ (ro X).frames ∧ (rest.map fun v => v.category).sum + (nativeFrameWords "java/lang/System" "arraycopy" 5 + 11) ≤ (ro X).locals) (k : Wx X nL (pc + 3) lv rest (pcI h r1 r2 sp.toNatClampNeg dp.toNatClampNeg n.toNatClampNeg)) : Wx X nL pc lv (.int n :: .int dp :: rf (qo X) r2 :: .int sp :: rf (qo X) r1 :: rest) h := by
  obtain ⟨p, l, e, R, s, m, args, below, meth, c, cs, Q, D, q, cA, A⟩ := X
  intro H locs ls hP hS hl
  obtain ⟨hx, hb, hml, hown, hts, hns, hK, hij, hA, hst, -⟩ := C
  obtain ⟨els1, e1⟩ := aK_of ha1 (by decide)
  obtain ⟨els2, e2⟩ := aK_of ha2 (by decide)
  have hr1 := shp_lt (k := r1) (by rw [e1]; exact fun z => by cases z)
  have hr2 := shp_lt (k := r2) (by rw [e2]; exact fun z => by cases z)
  have he1 : (gw q cA h)[r1 - 1]? = some (q r1, .inl (cA 0, aN r1, .inl (h.1 r1))) := by rw [gw_at hr1]; simp [cel, e1]
  have he2 : (gw q cA h)[r2 - 1]? = some (q r2, .inl (cA 0, aN r2, .inl (h.1 r2))) := by rw [gw_at hr2]; simp [cel, e2]
  have hset : (gw q cA h).set (r2 - 1) (q r2, .inl (cA 0, aN r2, .inl (va_cpy (h.1 r1) (h.1 r2) sp.toNatClampNeg dp.toNatClampNeg n.toNatClampNeg))) = gw q cA (pcI h r1 r2 sp.toNatClampNeg dp.toNatClampNeg n.toNatClampNeg) := gw_set hr2 (by simp [cel, e2, pcI]) cel_pcI
  have hD := gwD (cA := cA) (h := h) hij hA
  have kk : ∀ (H1 : Heap) (locs1 : List Loc), va_P D vwCl ((gw q cA h).set (r2 - 1) (q r2, .inl (cA 0, aN r2, .inl (va_cpy (h.1 r1) (h.1 r2) sp.toNatClampNeg dp.toNatClampNeg n.toNatClampNeg)))) H1 → va_D A ((gw q cA h).set (r2 - 1) (q r2, .inl (cA 0, aN r2, .inl (va_cpy (h.1 r1) (h.1 r2) sp.toNatClampNeg dp.toNatClampNeg n.toNatClampNeg)))) → va_S A s.heap H1 locs1 → W p l e R s m args below meth c H1 locs1 cs.1 cs.2 Q (F0 m (pc + 3) ls rest) := fun H1 locs1 a1 _ a3 => k H1 locs1 ls (by rw [hset] at a1; exact a1) a3 hl
  obtain ⟨h1, h2, h3, h4, h5⟩ := hc
  have z1 : rf q r1 = .ref (q r1) := by obtain ⟨r, rfl⟩ : ∃ r', r1 = r' + 1 := ⟨r1 - 1, by omega⟩; rfl
  have z2 : rf q r2 = .ref (q r2) := by obtain ⟨r, rfl⟩ : ∃ r', r2 = r' + 1 := ⟨r2 - 1, by omega⟩; rfl
  show W p l e R s m args below meth c H locs cs.1 cs.2 Q (F0 m pc ls (.int n :: .int dp :: rf q r2 :: .int sp :: rf q r1 :: rest))
  rw [z1, z2]
  exact va_copyi hx hb (by rw [hml]; exact hl.1.symm) hown (hts _ hN) (hts _ hn1) (hts _ hn2) (hts _ hn3) hK hP hD hS _ _ 0 0 he1 he2 rfl rfl rfl h1 h2 h3 h4 h5 (fun _ _ => rfl) hR.1 hR.2 d kk
theorem x_copyl {X : Xt} {cc : ByteArray} {own : String} {nL pc : Nat} {lv : List (Nat × Value)} {rest : List Value} {h : pH} {idx r1 r2 : Nat} {sp dp n : Int32} (C : Cx X cc own nL) (d : decode cc pc = .ok (.invokestatic idx, 3)) (hN : Cond.methodLink own idx arraycopyName ∈ lw_g) (hn1 : Cond.native arraycopyName ∈ lw_g) (hn2 : Cond.static arraycopyName ∈ lw_g) (hn3 : Cond.initialized "java/lang/System" ∈ lw_g) (ha1 : aK r1 = 3) (ha2 : aK r2 = 3) (hc : cpyOk sp dp n (aN r1) (aN r2)) (hR : 1 ≤ (ro X).frames ∧ (rest.map fun v => v.category).sum + (nativeFrameWords "java/lang/System" "arraycopy" 5 + 11) ≤ (ro X).locals) (k : Wx X nL (pc + 3) lv rest (pcL h r1 r2 sp.toNatClampNeg dp.toNatClampNeg n.toNatClampNeg)) : Wx X nL pc lv (.int n :: .int dp :: rf (qo X) r2 :: .int sp :: rf (qo X) r1 :: rest) h := by
  obtain ⟨p, l, e, R, s, m, args, below, meth, c, cs, Q, D, q, cA, A⟩ := X
  intro H locs ls hP hS hl
  obtain ⟨hx, hb, hml, hown, hts, hns, hK, hij, hA, hst, -⟩ := C
  obtain ⟨els1, e1⟩ := aK_of ha1 (by decide)
  obtain ⟨els2, e2⟩ := aK_of ha2 (by decide)
  have hr1 := shp_lt (k := r1) (by rw [e1]; exact fun z => by cases z)
  have hr2 := shp_lt (k := r2) (by rw [e2]; exact fun z => by cases z)
  have he1 : (gw q cA h)[r1 - 1]? = some (q r1, .inl (cA 3, aN r1, .inr (.inl (h.2 r1)))) := by rw [gw_at hr1]; simp [cel, e1]
  have he2 : (gw q cA h)[r2 - 1]? = some (q r2, .inl (cA 3, aN r2, .inr (.inl (h.2 r2)))) := by rw [gw_at hr2]; simp [cel, e2]
  have hset : (gw q cA h).set (r2 - 1) (q r2, .inl (cA 3, aN r2, .inr (.inl (va_cpy (h.2 r1) (h.2 r2) sp.toNatClampNeg dp.toNatClampNeg n.toNatClampNeg)))) = gw q cA (pcL h r1 r2 sp.toNatClampNeg dp.toNatClampNeg n.toNatClampNeg) := gw_set hr2 (by simp [cel, e2, pcL]) cel_pcL
  have hD := gwD (cA := cA) (h := h) hij hA
  have kk : ∀ (H1 : Heap) (locs1 : List Loc), va_P D vwCl ((gw q cA h).set (r2 - 1) (q r2, .inl (cA 3, aN r2, .inr (.inl (va_cpy (h.2 r1) (h.2 r2) sp.toNatClampNeg dp.toNatClampNeg n.toNatClampNeg))))) H1 → va_D A ((gw q cA h).set (r2 - 1) (q r2, .inl (cA 3, aN r2, .inr (.inl (va_cpy (h.2 r1) (h.2 r2) sp.toNatClampNeg dp.toNatClampNeg n.toNatClampNeg))))) → va_S A s.heap H1 locs1 → W p l e R s m args below meth c H1 locs1 cs.1 cs.2 Q (F0 m (pc + 3) ls rest) := fun H1 locs1 a1 _ a3 => k H1 locs1 ls (by rw [hset] at a1; exact a1) a3 hl
  obtain ⟨h1, h2, h3, h4, h5⟩ := hc
  have z1 : rf q r1 = .ref (q r1) := by obtain ⟨r, rfl⟩ : ∃ r', r1 = r' + 1 := ⟨r1 - 1, by omega⟩; rfl
  have z2 : rf q r2 = .ref (q r2) := by obtain ⟨r, rfl⟩ : ∃ r', r2 = r' + 1 := ⟨r2 - 1, by omega⟩; rfl
  show W p l e R s m args below meth c H locs cs.1 cs.2 Q (F0 m pc ls (.int n :: .int dp :: rf q r2 :: .int sp :: rf q r1 :: rest))
  rw [z1, z2]
  exact va_copyl hx hb (by rw [hml]; exact hl.1.symm) hown (hts _ hN) (hts _ hn1) (hts _ hn2) (hts _ hn3) hK hP hD hS _ _ 3 3 he1 he2 rfl rfl rfl h1 h2 h3 h4 h5 (fun _ _ => rfl) hR.1 hR.2 d kk
end
section
theorem kc0 : KCl 0 RX0 TX0 7 tyX0 := ⟨rfl, fun w hw => List.mem_filter.mpr ⟨(by decide +kernel : ∀ w ∈ u_ws RX0 TX0 7, w ∈ lw_tbl) w hw, (by decide +kernel : ∀ w ∈ u_ws RX0 TX0 7, goodWord w = true) w hw⟩, tyX0_ok, nmX0⟩
theorem kc1 : KCl 1 RX1 TX1 5 tyX1 := ⟨rfl, fun w hw => List.mem_filter.mpr ⟨(by decide +kernel : ∀ w ∈ u_ws RX1 TX1 5, w ∈ lw_tbl) w hw, (by decide +kernel : ∀ w ∈ u_ws RX1 TX1 5, goodWord w = true) w hw⟩, tyX1_ok, nmX1⟩
theorem kc2 : KCl 2 RX2 TX2 2 tyX2 := ⟨rfl, fun w hw => List.mem_filter.mpr ⟨(by decide +kernel : ∀ w ∈ u_ws RX2 TX2 2, w ∈ lw_tbl) w hw, (by decide +kernel : ∀ w ∈ u_ws RX2 TX2 2, goodWord w = true) w hw⟩, tyX2_ok, nmX2⟩
theorem kc3 : KCl 3 RX3 TX3 2 tyX3 := ⟨rfl, fun w hw => List.mem_filter.mpr ⟨(by decide +kernel : ∀ w ∈ u_ws RX3 TX3 2, w ∈ lw_tbl) w hw, (by decide +kernel : ∀ w ∈ u_ws RX3 TX3 2, goodWord w = true) w hw⟩, tyX3_ok, nmX3⟩
theorem kc4 : KCl 4 RX4 TX4 8 tyX4 := ⟨rfl, fun w hw => List.mem_filter.mpr ⟨(by decide +kernel : ∀ w ∈ u_ws RX4 TX4 8, w ∈ lw_tbl) w hw, (by decide +kernel : ∀ w ∈ u_ws RX4 TX4 8, goodWord w = true) w hw⟩, tyX4_ok, nmX4⟩
theorem kc5 : KCl 5 RX5 TX5 4 tyX5 := ⟨rfl, fun w hw => List.mem_filter.mpr ⟨(by decide +kernel : ∀ w ∈ u_ws RX5 TX5 4, w ∈ lw_tbl) w hw, (by decide +kernel : ∀ w ∈ u_ws RX5 TX5 4, goodWord w = true) w hw⟩, tyX5_ok, nmX5⟩
theorem kc6 : KCl 6 RX6 TX6 3 tyX6 := ⟨rfl, fun w hw => List.mem_filter.mpr ⟨(by decide +kernel : ∀ w ∈ u_ws RX6 TX6 3, w ∈ lw_tbl) w hw, (by decide +kernel : ∀ w ∈ u_ws RX6 TX6 3, goodWord w = true) w hw⟩, tyX6_ok, nmX6⟩
theorem kc7 : KCl 7 RX7 TX7 2 tyX7 := ⟨rfl, fun w hw => List.mem_filter.mpr ⟨(by decide +kernel : ∀ w ∈ u_ws RX7 TX7 2, w ∈ lw_tbl) w hw, (by decide +kernel : ∀ w ∈ u_ws RX7 TX7 2, goodWord w = true) w hw⟩, tyX7_ok, nmX7⟩
theorem kc8 : KCl 8 RX8 TX8 16 tyX8 := ⟨rfl, fun w hw => List.mem_filter.mpr ⟨(by decide +kernel : ∀ w ∈ u_ws RX8 TX8 16, w ∈ lw_tbl) w hw, (by decide +kernel : ∀ w ∈ u_ws RX8 TX8 16, goodWord w = true) w hw⟩, tyX8_ok, nmX8⟩
theorem kc9 : KCl 9 RX9 TX9 31 tyX9 := ⟨rfl, fun w hw => List.mem_filter.mpr ⟨(by decide +kernel : ∀ w ∈ u_ws RX9 TX9 31, w ∈ lw_tbl) w hw, (by decide +kernel : ∀ w ∈ u_ws RX9 TX9 31, goodWord w = true) w hw⟩, tyX9_ok, nmX9⟩
theorem kfX8_11 : LkF RX8 11 8 0 (.array (.object "MiddlePlank$Text")) true := ⟨RX8, TX8, 16, tyX8, kc8, by decide, rfl, rfl, Or.inl (lw_in (i := 269) (by decide +kernel) rfl)⟩
theorem kfX8_18 : LkF RX8 18 8 1 (.object "MiddlePlank$Bridge") true := ⟨RX8, TX8, 16, tyX8, kc8, by decide, rfl, rfl, Or.inl (lw_in (i := 270) (by decide +kernel) rfl)⟩
theorem kfX8_25 : LkF RX8 25 8 2 (.object "MiddlePlank$Crossers") true := ⟨RX8, TX8, 16, tyX8, kc8, by decide, rfl, rfl, Or.inl (lw_in (i := 271) (by decide +kernel) rfl)⟩
theorem kfX8_32 : LkF RX8 32 8 3 (.object "MiddlePlank$Crossings") true := ⟨RX8, TX8, 16, tyX8, kc8, by decide, rfl, rfl, Or.inl (lw_in (i := 272) (by decide +kernel) rfl)⟩
theorem kfX8_36 : LkF RX8 36 8 4 (.array .int) true := ⟨RX8, TX8, 16, tyX8, kc8, by decide, rfl, rfl, Or.inl (lw_in (i := 273) (by decide +kernel) rfl)⟩
theorem kfX8_40 : LkF RX8 40 8 5 (.array .int) true := ⟨RX8, TX8, 16, tyX8, kc8, by decide, rfl, rfl, Or.inl (lw_in (i := 274) (by decide +kernel) rfl)⟩
theorem kfX8_43 : LkF RX8 43 8 6 (.array .int) true := ⟨RX8, TX8, 16, tyX8, kc8, by decide, rfl, rfl, Or.inl (lw_in (i := 275) (by decide +kernel) rfl)⟩
theorem kfX8_46 : LkF RX8 46 8 7 (.array .int) true := ⟨RX8, TX8, 16, tyX8, kc8, by decide, rfl, rfl, Or.inl (lw_in (i := 276) (by decide +kernel) rfl)⟩
theorem kfX8_52 : LkF RX8 52 8 8 (.object "MiddlePlank$Plan") true := ⟨RX8, TX8, 16, tyX8, kc8, by decide, rfl, rfl, Or.inl (lw_in (i := 277) (by decide +kernel) rfl)⟩
theorem kfX8_59 : LkF RX8 59 8 9 (.object "MiddlePlank$Sightings") true := ⟨RX8, TX8, 16, tyX8, kc8, by decide, rfl, rfl, Or.inl (lw_in (i := 278) (by decide +kernel) rfl)⟩
theorem kfX8_63 : LkF RX8 63 8 10 (.array .long) true := ⟨RX8, TX8, 16, tyX8, kc8, by decide, rfl, rfl, Or.inl (lw_in (i := 279) (by decide +kernel) rfl)⟩
theorem kfX8_67 : LkF RX8 67 8 11 (.array .long) true := ⟨RX8, TX8, 16, tyX8, kc8, by decide, rfl, rfl, Or.inl (lw_in (i := 280) (by decide +kernel) rfl)⟩
theorem kfX8_72 : LkF RX8 72 8 12 (.array (.object "MiddlePlank$Sheet")) true := ⟨RX8, TX8, 16, tyX8, kc8, by decide, rfl, rfl, Or.inl (lw_in (i := 281) (by decide +kernel) rfl)⟩
theorem kfX8_76 : LkF RX8 76 8 14 .boolean false := ⟨RX8, TX8, 16, tyX8, kc8, by decide, rfl, rfl, Or.inl (lw_in (i := 283) (by decide +kernel) rfl)⟩
theorem kfX8_80 : LkF RX8 80 8 15 .boolean false := ⟨RX8, TX8, 16, tyX8, kc8, by decide, rfl, rfl, Or.inl (lw_in (i := 284) (by decide +kernel) rfl)⟩
theorem kfX8_102 : LkF RX8 102 7 1 .int false := ⟨RX7, TX7, 2, tyX7, kc7, by decide, rfl, rfl, Or.inr ⟨"MiddlePlank", by decide +kernel⟩⟩
theorem kfX8_124 : LkF RX8 124 1 0 .int false := ⟨RX1, TX1, 5, tyX1, kc1, by decide, rfl, rfl, Or.inr ⟨"MiddlePlank", by decide +kernel⟩⟩
theorem kfX8_129 : LkF RX8 129 1 1 .int false := ⟨RX1, TX1, 5, tyX1, kc1, by decide, rfl, rfl, Or.inr ⟨"MiddlePlank", by decide +kernel⟩⟩
theorem kfX8_132 : LkF RX8 132 1 3 .int false := ⟨RX1, TX1, 5, tyX1, kc1, by decide, rfl, rfl, Or.inr ⟨"MiddlePlank", by decide +kernel⟩⟩
theorem kfX8_135 : LkF RX8 135 1 4 .int false := ⟨RX1, TX1, 5, tyX1, kc1, by decide, rfl, rfl, Or.inr ⟨"MiddlePlank", by decide +kernel⟩⟩
theorem kfX8_142 : LkF RX8 142 0 0 .int false := ⟨RX0, TX0, 7, tyX0, kc0, by decide, rfl, rfl, Or.inr ⟨"MiddlePlank", by decide +kernel⟩⟩
theorem kfX8_145 : LkF RX8 145 0 1 .int false := ⟨RX0, TX0, 7, tyX0, kc0, by decide, rfl, rfl, Or.inr ⟨"MiddlePlank", by decide +kernel⟩⟩
theorem kfX8_148 : LkF RX8 148 0 2 (.array .int) true := ⟨RX0, TX0, 7, tyX0, kc0, by decide, rfl, rfl, Or.inr ⟨"MiddlePlank", by decide +kernel⟩⟩
theorem kfX8_154 : LkF RX8 154 3 1 .int false := ⟨RX3, TX3, 2, tyX3, kc3, by decide, rfl, rfl, Or.inr ⟨"MiddlePlank", by decide +kernel⟩⟩
theorem kfX8_176 : LkF RX8 176 0 3 .int false := ⟨RX0, TX0, 7, tyX0, kc0, by decide, rfl, rfl, Or.inr ⟨"MiddlePlank", by decide +kernel⟩⟩
theorem kfX8_182 : LkF RX8 182 4 6 .int false := ⟨RX4, TX4, 8, tyX4, kc4, by decide, rfl, rfl, Or.inr ⟨"MiddlePlank", by decide +kernel⟩⟩
theorem kfX8_185 : LkF RX8 185 4 7 .int false := ⟨RX4, TX4, 8, tyX4, kc4, by decide, rfl, rfl, Or.inr ⟨"MiddlePlank", by decide +kernel⟩⟩
theorem kfX8_193 : LkF RX8 193 2 1 .int false := ⟨RX2, TX2, 2, tyX2, kc2, by decide, rfl, rfl, Or.inr ⟨"MiddlePlank", by decide +kernel⟩⟩
theorem kfX8_207 : LkF RX8 207 6 2 .int false := ⟨RX6, TX6, 3, tyX6, kc6, by decide, rfl, rfl, Or.inr ⟨"MiddlePlank", by decide +kernel⟩⟩
theorem kfX8_212 : LkF RX8 212 5 1 .boolean false := ⟨RX5, TX5, 4, tyX5, kc5, by decide, rfl, rfl, Or.inr ⟨"MiddlePlank", by decide +kernel⟩⟩
theorem kfX8_218 : LkF RX8 218 5 3 .int false := ⟨RX5, TX5, 4, tyX5, kc5, by decide, rfl, rfl, Or.inr ⟨"MiddlePlank", by decide +kernel⟩⟩
theorem kfX8_252 : LkF RX8 252 5 2 .int false := ⟨RX5, TX5, 4, tyX5, kc5, by decide, rfl, rfl, Or.inr ⟨"MiddlePlank", by decide +kernel⟩⟩
theorem kfX8_258 : LkF RX8 258 5 0 (.array .int) true := ⟨RX5, TX5, 4, tyX5, kc5, by decide, rfl, rfl, Or.inr ⟨"MiddlePlank", by decide +kernel⟩⟩
theorem kfX8_266 : LkF RX8 266 8 13 .int false := ⟨RX8, TX8, 16, tyX8, kc8, by decide, rfl, rfl, Or.inl (lw_in (i := 282) (by decide +kernel) rfl)⟩
theorem kgX8_340 : LkG RX8 340 0 := Or.inl (lw_in (i := 360) (by decide +kernel) rfl)
theorem kgX8_344 : LkG RX8 344 6 := Or.inl (lw_in (i := 362) (by decide +kernel) rfl)
theorem kgX8_347 : LkG RX8 347 1 := Or.inl (lw_in (i := 364) (by decide +kernel) rfl)
theorem kgX8_350 : LkG RX8 350 2 := Or.inl (lw_in (i := 366) (by decide +kernel) rfl)
theorem kgX8_353 : LkG RX8 353 3 := Or.inl (lw_in (i := 368) (by decide +kernel) rfl)
theorem kgX8_356 : LkG RX8 356 4 := Or.inl (lw_in (i := 370) (by decide +kernel) rfl)
theorem kgX8_359 : LkG RX8 359 5 := Or.inl (lw_in (i := 372) (by decide +kernel) rfl)
theorem kfX0_9 : LkF RX0 9 0 0 .int false := ⟨RX0, TX0, 7, tyX0, kc0, by decide, rfl, rfl, Or.inl (lw_in (i := 88) (by decide +kernel) rfl)⟩
theorem kfX0_15 : LkF RX0 15 0 1 .int false := ⟨RX0, TX0, 7, tyX0, kc0, by decide, rfl, rfl, Or.inl (lw_in (i := 90) (by decide +kernel) rfl)⟩
theorem kfX0_18 : LkF RX0 18 0 2 (.array .int) true := ⟨RX0, TX0, 7, tyX0, kc0, by decide, rfl, rfl, Or.inl (lw_in (i := 92) (by decide +kernel) rfl)⟩
theorem kfX0_22 : LkF RX0 22 0 4 (.array .boolean) true := ⟨RX0, TX0, 7, tyX0, kc0, by decide, rfl, rfl, Or.inl (lw_in (i := 98) (by decide +kernel) rfl)⟩
theorem kfX0_26 : LkF RX0 26 0 5 (.array .int) true := ⟨RX0, TX0, 7, tyX0, kc0, by decide, rfl, rfl, Or.inl (lw_in (i := 99) (by decide +kernel) rfl)⟩
theorem kfX0_29 : LkF RX0 29 0 6 (.array .int) true := ⟨RX0, TX0, 7, tyX0, kc0, by decide, rfl, rfl, Or.inl (lw_in (i := 100) (by decide +kernel) rfl)⟩
theorem kfX0_38 : LkF RX0 38 0 3 .int false := ⟨RX0, TX0, 7, tyX0, kc0, by decide, rfl, rfl, Or.inl (lw_in (i := 96) (by decide +kernel) rfl)⟩
theorem kfX0_65 : LkF RX0 65 1 2 .int false := ⟨RX1, TX1, 5, tyX1, kc1, by decide, rfl, rfl, Or.inr ⟨"MiddlePlank", by decide +kernel⟩⟩
theorem kfX0_70 : LkF RX0 70 1 4 .int false := ⟨RX1, TX1, 5, tyX1, kc1, by decide, rfl, rfl, Or.inr ⟨"MiddlePlank", by decide +kernel⟩⟩
theorem kfX0_77 : LkF RX0 77 1 0 .int false := ⟨RX1, TX1, 5, tyX1, kc1, by decide, rfl, rfl, Or.inr ⟨"MiddlePlank", by decide +kernel⟩⟩
theorem kfX0_84 : LkF RX0 84 1 3 .int false := ⟨RX1, TX1, 5, tyX1, kc1, by decide, rfl, rfl, Or.inr ⟨"MiddlePlank", by decide +kernel⟩⟩
theorem kgX1_15 : LkG RX1 15 1 := Or.inr ⟨"MiddlePlank", by decide +kernel⟩
theorem kfX1_23 : LkF RX1 23 1 0 .int false := ⟨RX1, TX1, 5, tyX1, kc1, by decide, rfl, rfl, Or.inl (lw_in (i := 131) (by decide +kernel) rfl)⟩
theorem kgX1_29 : LkG RX1 29 2 := Or.inr ⟨"MiddlePlank", by decide +kernel⟩
theorem kfX1_32 : LkF RX1 32 1 1 .int false := ⟨RX1, TX1, 5, tyX1, kc1, by decide, rfl, rfl, Or.inl (lw_in (i := 134) (by decide +kernel) rfl)⟩
theorem kfX1_35 : LkF RX1 35 1 2 .int false := ⟨RX1, TX1, 5, tyX1, kc1, by decide, rfl, rfl, Or.inl (lw_in (i := 136) (by decide +kernel) rfl)⟩
theorem kgX1_38 : LkG RX1 38 3 := Or.inr ⟨"MiddlePlank", by decide +kernel⟩
theorem kfX1_41 : LkF RX1 41 1 3 .int false := ⟨RX1, TX1, 5, tyX1, kc1, by decide, rfl, rfl, Or.inl (lw_in (i := 138) (by decide +kernel) rfl)⟩
theorem kgX1_44 : LkG RX1 44 4 := Or.inr ⟨"MiddlePlank", by decide +kernel⟩
theorem kfX1_47 : LkF RX1 47 1 4 .int false := ⟨RX1, TX1, 5, tyX1, kc1, by decide, rfl, rfl, Or.inl (lw_in (i := 141) (by decide +kernel) rfl)⟩
theorem kfX2_11 : LkF RX2 11 2 0 (.array (.object "MiddlePlank$Crosser")) true := ⟨RX2, TX2, 2, tyX2, kc2, by decide, rfl, rfl, Or.inl (lw_in (i := 155) (by decide +kernel) rfl)⟩
theorem kfX2_24 : LkF RX2 24 2 1 .int false := ⟨RX2, TX2, 2, tyX2, kc2, by decide, rfl, rfl, Or.inl (lw_in (i := 156) (by decide +kernel) rfl)⟩
theorem kfX3_9 : LkF RX3 9 3 0 (.array .int) true := ⟨RX3, TX3, 2, tyX3, kc3, by decide, rfl, rfl, Or.inl (lw_in (i := 170) (by decide +kernel) rfl)⟩
theorem kfX3_21 : LkF RX3 21 3 1 .int false := ⟨RX3, TX3, 2, tyX3, kc3, by decide, rfl, rfl, Or.inl (lw_in (i := 171) (by decide +kernel) rfl)⟩
theorem kgX3_31 : LkG RX3 31 6 := Or.inr ⟨"MiddlePlank", by decide +kernel⟩
theorem kfX4_9 : LkF RX4 9 4 0 (.array .int) true := ⟨RX4, TX4, 8, tyX4, kc4, by decide, rfl, rfl, Or.inl (lw_in (i := 184) (by decide +kernel) rfl)⟩
theorem kfX4_15 : LkF RX4 15 4 1 (.array .int) true := ⟨RX4, TX4, 8, tyX4, kc4, by decide, rfl, rfl, Or.inl (lw_in (i := 185) (by decide +kernel) rfl)⟩
theorem kfX4_18 : LkF RX4 18 4 2 (.array .int) true := ⟨RX4, TX4, 8, tyX4, kc4, by decide, rfl, rfl, Or.inl (lw_in (i := 186) (by decide +kernel) rfl)⟩
theorem kfX4_21 : LkF RX4 21 4 3 (.array .int) true := ⟨RX4, TX4, 8, tyX4, kc4, by decide, rfl, rfl, Or.inl (lw_in (i := 187) (by decide +kernel) rfl)⟩
theorem kfX4_24 : LkF RX4 24 0 3 .int false := ⟨RX0, TX0, 7, tyX0, kc0, by decide, rfl, rfl, Or.inr ⟨"MiddlePlank", by decide +kernel⟩⟩
theorem kfX4_36 : LkF RX4 36 4 4 .int false := ⟨RX4, TX4, 8, tyX4, kc4, by decide, rfl, rfl, Or.inl (lw_in (i := 188) (by decide +kernel) rfl)⟩
theorem kfX4_39 : LkF RX4 39 2 1 .int false := ⟨RX2, TX2, 2, tyX2, kc2, by decide, rfl, rfl, Or.inr ⟨"MiddlePlank", by decide +kernel⟩⟩
theorem kfX4_44 : LkF RX4 44 4 5 .int false := ⟨RX4, TX4, 8, tyX4, kc4, by decide, rfl, rfl, Or.inl (lw_in (i := 189) (by decide +kernel) rfl)⟩
theorem kfX4_75 : LkF RX4 75 0 2 (.array .int) true := ⟨RX0, TX0, 7, tyX0, kc0, by decide, rfl, rfl, Or.inr ⟨"MiddlePlank", by decide +kernel⟩⟩
theorem kfX4_89 : LkF RX4 89 4 6 .int false := ⟨RX4, TX4, 8, tyX4, kc4, by decide, rfl, rfl, Or.inl (lw_in (i := 190) (by decide +kernel) rfl)⟩
theorem kfX4_92 : LkF RX4 92 4 7 .int false := ⟨RX4, TX4, 8, tyX4, kc4, by decide, rfl, rfl, Or.inl (lw_in (i := 192) (by decide +kernel) rfl)⟩
theorem kfX5_9 : LkF RX5 9 5 0 (.array .int) true := ⟨RX5, TX5, 4, tyX5, kc5, by decide, rfl, rfl, Or.inl (lw_in (i := 252) (by decide +kernel) rfl)⟩
theorem kfX5_15 : LkF RX5 15 5 1 .boolean false := ⟨RX5, TX5, 4, tyX5, kc5, by decide, rfl, rfl, Or.inl (lw_in (i := 254) (by decide +kernel) rfl)⟩
theorem kfX5_19 : LkF RX5 19 5 2 .int false := ⟨RX5, TX5, 4, tyX5, kc5, by decide, rfl, rfl, Or.inl (lw_in (i := 256) (by decide +kernel) rfl)⟩
theorem kfX5_29 : LkF RX5 29 5 3 .int false := ⟨RX5, TX5, 4, tyX5, kc5, by decide, rfl, rfl, Or.inl (lw_in (i := 258) (by decide +kernel) rfl)⟩
theorem kfX6_9 : LkF RX6 9 6 0 (.array .int) true := ⟨RX6, TX6, 3, tyX6, kc6, by decide, rfl, rfl, Or.inl (lw_in (i := 217) (by decide +kernel) rfl)⟩
theorem kfX6_15 : LkF RX6 15 6 1 (.array .int) true := ⟨RX6, TX6, 3, tyX6, kc6, by decide, rfl, rfl, Or.inl (lw_in (i := 218) (by decide +kernel) rfl)⟩
theorem kfX6_22 : LkF RX6 22 6 2 .int false := ⟨RX6, TX6, 3, tyX6, kc6, by decide, rfl, rfl, Or.inl (lw_in (i := 219) (by decide +kernel) rfl)⟩
theorem kfX7_15 : LkF RX7 15 7 0 (.array .int) true := ⟨RX7, TX7, 2, tyX7, kc7, by decide, rfl, rfl, Or.inl (lw_in (i := 238) (by decide +kernel) rfl)⟩
theorem kfX7_21 : LkF RX7 21 7 1 .int false := ⟨RX7, TX7, 2, tyX7, kc7, by decide, rfl, rfl, Or.inl (lw_in (i := 239) (by decide +kernel) rfl)⟩
theorem kfX9_7 : LkF RX9 7 9 0 (.array .int) true := ⟨RX9, TX9, 31, tyX9, kc9, by decide, rfl, rfl, Or.inl (lw_in (i := 771) (by decide +kernel) rfl)⟩
theorem kfX9_13 : LkF RX9 13 9 1 (.array .int) true := ⟨RX9, TX9, 31, tyX9, kc9, by decide, rfl, rfl, Or.inl (lw_in (i := 772) (by decide +kernel) rfl)⟩
theorem kfX9_16 : LkF RX9 16 9 2 (.array .int) true := ⟨RX9, TX9, 31, tyX9, kc9, by decide, rfl, rfl, Or.inl (lw_in (i := 773) (by decide +kernel) rfl)⟩
theorem kfX9_19 : LkF RX9 19 9 3 (.array .int) true := ⟨RX9, TX9, 31, tyX9, kc9, by decide, rfl, rfl, Or.inl (lw_in (i := 774) (by decide +kernel) rfl)⟩
theorem kfX9_22 : LkF RX9 22 9 5 (.array .int) true := ⟨RX9, TX9, 31, tyX9, kc9, by decide, rfl, rfl, Or.inl (lw_in (i := 776) (by decide +kernel) rfl)⟩
theorem kfX9_25 : LkF RX9 25 9 6 (.array .int) true := ⟨RX9, TX9, 31, tyX9, kc9, by decide, rfl, rfl, Or.inl (lw_in (i := 777) (by decide +kernel) rfl)⟩
theorem kfX9_28 : LkF RX9 28 9 8 (.array .int) true := ⟨RX9, TX9, 31, tyX9, kc9, by decide, rfl, rfl, Or.inl (lw_in (i := 779) (by decide +kernel) rfl)⟩
theorem kfX9_31 : LkF RX9 31 9 10 (.array .int) true := ⟨RX9, TX9, 31, tyX9, kc9, by decide, rfl, rfl, Or.inl (lw_in (i := 781) (by decide +kernel) rfl)⟩
theorem kfX9_34 : LkF RX9 34 9 12 (.array .int) true := ⟨RX9, TX9, 31, tyX9, kc9, by decide, rfl, rfl, Or.inl (lw_in (i := 783) (by decide +kernel) rfl)⟩
theorem kfX9_37 : LkF RX9 37 9 13 (.array .int) true := ⟨RX9, TX9, 31, tyX9, kc9, by decide, rfl, rfl, Or.inl (lw_in (i := 784) (by decide +kernel) rfl)⟩
theorem kfX9_40 : LkF RX9 40 9 14 (.array .int) true := ⟨RX9, TX9, 31, tyX9, kc9, by decide, rfl, rfl, Or.inl (lw_in (i := 785) (by decide +kernel) rfl)⟩
theorem kfX9_43 : LkF RX9 43 9 15 (.array .int) true := ⟨RX9, TX9, 31, tyX9, kc9, by decide, rfl, rfl, Or.inl (lw_in (i := 786) (by decide +kernel) rfl)⟩
theorem kfX9_46 : LkF RX9 46 9 16 (.array .int) true := ⟨RX9, TX9, 31, tyX9, kc9, by decide, rfl, rfl, Or.inl (lw_in (i := 787) (by decide +kernel) rfl)⟩
theorem kfX9_49 : LkF RX9 49 9 17 (.array .int) true := ⟨RX9, TX9, 31, tyX9, kc9, by decide, rfl, rfl, Or.inl (lw_in (i := 788) (by decide +kernel) rfl)⟩
theorem kfX9_52 : LkF RX9 52 9 18 (.array .int) true := ⟨RX9, TX9, 31, tyX9, kc9, by decide, rfl, rfl, Or.inl (lw_in (i := 789) (by decide +kernel) rfl)⟩
theorem kfX9_55 : LkF RX9 55 9 23 (.array .int) true := ⟨RX9, TX9, 31, tyX9, kc9, by decide, rfl, rfl, Or.inl (lw_in (i := 794) (by decide +kernel) rfl)⟩
theorem kfX9_58 : LkF RX9 58 9 24 (.array .int) true := ⟨RX9, TX9, 31, tyX9, kc9, by decide, rfl, rfl, Or.inl (lw_in (i := 795) (by decide +kernel) rfl)⟩
theorem kfX9_61 : LkF RX9 61 9 28 (.array .int) true := ⟨RX9, TX9, 31, tyX9, kc9, by decide, rfl, rfl, Or.inl (lw_in (i := 799) (by decide +kernel) rfl)⟩
theorem kfX9_64 : LkF RX9 64 9 29 (.array .int) true := ⟨RX9, TX9, 31, tyX9, kc9, by decide, rfl, rfl, Or.inl (lw_in (i := 800) (by decide +kernel) rfl)⟩
theorem kfX9_73 : LkF RX9 73 9 4 .int false := ⟨RX9, TX9, 31, tyX9, kc9, by decide, rfl, rfl, Or.inl (lw_in (i := 775) (by decide +kernel) rfl)⟩
theorem kfX9_103 : LkF RX9 103 9 7 .int false := ⟨RX9, TX9, 31, tyX9, kc9, by decide, rfl, rfl, Or.inl (lw_in (i := 778) (by decide +kernel) rfl)⟩
theorem kfX9_115 : LkF RX9 115 9 9 .int false := ⟨RX9, TX9, 31, tyX9, kc9, by decide, rfl, rfl, Or.inl (lw_in (i := 780) (by decide +kernel) rfl)⟩
theorem kfX9_121 : LkF RX9 121 9 11 .int false := ⟨RX9, TX9, 31, tyX9, kc9, by decide, rfl, rfl, Or.inl (lw_in (i := 782) (by decide +kernel) rfl)⟩
theorem kfX9_155 : LkF RX9 155 9 19 .int false := ⟨RX9, TX9, 31, tyX9, kc9, by decide, rfl, rfl, Or.inl (lw_in (i := 790) (by decide +kernel) rfl)⟩
theorem kfX9_158 : LkF RX9 158 9 21 .int false := ⟨RX9, TX9, 31, tyX9, kc9, by decide, rfl, rfl, Or.inl (lw_in (i := 792) (by decide +kernel) rfl)⟩
theorem kfX9_161 : LkF RX9 161 9 22 .int false := ⟨RX9, TX9, 31, tyX9, kc9, by decide, rfl, rfl, Or.inl (lw_in (i := 793) (by decide +kernel) rfl)⟩
theorem kfX9_181 : LkF RX9 181 9 20 .int false := ⟨RX9, TX9, 31, tyX9, kc9, by decide, rfl, rfl, Or.inl (lw_in (i := 791) (by decide +kernel) rfl)⟩
theorem kfX9_214 : LkF RX9 214 9 25 .int false := ⟨RX9, TX9, 31, tyX9, kc9, by decide, rfl, rfl, Or.inl (lw_in (i := 796) (by decide +kernel) rfl)⟩
theorem kfX9_217 : LkF RX9 217 9 26 .int false := ⟨RX9, TX9, 31, tyX9, kc9, by decide, rfl, rfl, Or.inl (lw_in (i := 797) (by decide +kernel) rfl)⟩
theorem kfX9_241 : LkF RX9 241 9 27 .int false := ⟨RX9, TX9, 31, tyX9, kc9, by decide, rfl, rfl, Or.inl (lw_in (i := 798) (by decide +kernel) rfl)⟩
theorem kfX9_274 : LkF RX9 274 9 30 .int false := ⟨RX9, TX9, 31, tyX9, kc9, by decide, rfl, rfl, Or.inl (lw_in (i := 801) (by decide +kernel) rfl)⟩
theorem miX0_take : MiV 0 yX0_take cX0_take 4 none 2 := ⟨⟨_, _, rfl⟩, lw_in (i := 391) (by decide +kernel) rfl, lw_in (i := 61) (by decide +kernel) rfl, lw_in (i := 389) (by decide +kernel) rfl, lw_in (i := 390) (by decide +kernel) rfl, ⟨by decide +kernel, by decide +kernel, by decide +kernel⟩⟩
theorem miX0_measure : MiV 0 yX0_measure cX0_measure 7 none 2 := ⟨⟨_, _, rfl⟩, lw_in (i := 399) (by decide +kernel) rfl, lw_in (i := 61) (by decide +kernel) rfl, lw_in (i := 398) (by decide +kernel) rfl, lw_in (i := 2) (by decide +kernel) rfl, ⟨by decide +kernel, by decide +kernel, by decide +kernel⟩⟩
theorem miX0_isHole : MiV 0 yX0_isHole cX0_isHole 5 (some .boolean) 3 := ⟨⟨_, _, rfl⟩, lw_in (i := 403) (by decide +kernel) rfl, lw_in (i := 61) (by decide +kernel) rfl, lw_in (i := 402) (by decide +kernel) rfl, lw_in (i := 3) (by decide +kernel) rfl, ⟨by decide +kernel, by decide +kernel, by decide +kernel⟩⟩
theorem miX0_hasPlank : MiV 0 yX0_hasPlank cX0_hasPlank 2 (some .boolean) 1 := ⟨⟨_, _, rfl⟩, lw_in (i := 464) (by decide +kernel) rfl, lw_in (i := 61) (by decide +kernel) rfl, lw_in (i := 462) (by decide +kernel) rfl, lw_in (i := 463) (by decide +kernel) rfl, ⟨by decide +kernel, by decide +kernel, by decide +kernel⟩⟩
theorem miX0_isRotten : MiV 0 yX0_isRotten cX0_isRotten 2 (some .boolean) 1 := ⟨⟨_, _, rfl⟩, lw_in (i := 469) (by decide +kernel) rfl, lw_in (i := 61) (by decide +kernel) rfl, lw_in (i := 467) (by decide +kernel) rfl, lw_in (i := 468) (by decide +kernel) rfl, ⟨by decide +kernel, by decide +kernel, by decide +kernel⟩⟩
theorem miX0_firstGap : MiV 0 yX0_firstGap cX0_firstGap 1 (some .int) 0 := ⟨⟨_, _, rfl⟩, lw_in (i := 431) (by decide +kernel) rfl, lw_in (i := 61) (by decide +kernel) rfl, lw_in (i := 429) (by decide +kernel) rfl, lw_in (i := 430) (by decide +kernel) rfl, ⟨by decide +kernel, by decide +kernel, by decide +kernel⟩⟩
theorem miX0_outcome : MiV 0 yX0_outcome cX0_outcome 3 (some .int) 2 := ⟨⟨_, _, rfl⟩, lw_in (i := 453) (by decide +kernel) rfl, lw_in (i := 61) (by decide +kernel) rfl, lw_in (i := 451) (by decide +kernel) rfl, lw_in (i := 452) (by decide +kernel) rfl, ⟨by decide +kernel, by decide +kernel, by decide +kernel⟩⟩
theorem miX0_toll : MiV 0 yX0_toll cX0_toll 3 (some .int) 2 := ⟨⟨_, _, rfl⟩, lw_in (i := 505) (by decide +kernel) rfl, lw_in (i := 61) (by decide +kernel) rfl, lw_in (i := 503) (by decide +kernel) rfl, lw_in (i := 504) (by decide +kernel) rfl, ⟨by decide +kernel, by decide +kernel, by decide +kernel⟩⟩
theorem miX0_longestRow : MiV 0 yX0_longestRow cX0_longestRow 3 (some .int) 2 := ⟨⟨_, _, rfl⟩, lw_in (i := 509) (by decide +kernel) rfl, lw_in (i := 61) (by decide +kernel) rfl, lw_in (i := 507) (by decide +kernel) rfl, lw_in (i := 508) (by decide +kernel) rfl, ⟨by decide +kernel, by decide +kernel, by decide +kernel⟩⟩
theorem miX0_gapBehind : MiV 0 yX0_gapBehind cX0_gapBehind 5 (some .int) 3 := ⟨⟨_, _, rfl⟩, lw_in (i := 449) (by decide +kernel) rfl, lw_in (i := 61) (by decide +kernel) rfl, lw_in (i := 447) (by decide +kernel) rfl, lw_in (i := 448) (by decide +kernel) rfl, ⟨by decide +kernel, by decide +kernel, by decide +kernel⟩⟩
theorem miX1_take : MiV 1 yX1_take cX1_take 3 none 2 := ⟨⟨_, _, rfl⟩, lw_in (i := 413) (by decide +kernel) rfl, lw_in (i := 63) (by decide +kernel) rfl, lw_in (i := 411) (by decide +kernel) rfl, lw_in (i := 412) (by decide +kernel) rfl, ⟨by decide +kernel, by decide +kernel, by decide +kernel⟩⟩
theorem miX1_shiftBy : MiV 1 yX1_shiftBy cX1_shiftBy 2 (some .int) 1 := ⟨⟨_, _, rfl⟩, lw_in (i := 457) (by decide +kernel) rfl, lw_in (i := 63) (by decide +kernel) rfl, lw_in (i := 455) (by decide +kernel) rfl, lw_in (i := 456) (by decide +kernel) rfl, ⟨by decide +kernel, by decide +kernel, by decide +kernel⟩⟩
theorem miX2_take : MiV 2 yX2_take cX2_take 4 none 2 := ⟨⟨_, _, rfl⟩, lw_in (i := 408) (by decide +kernel) rfl, lw_in (i := 62) (by decide +kernel) rfl, lw_in (i := 406) (by decide +kernel) rfl, lw_in (i := 407) (by decide +kernel) rfl, ⟨by decide +kernel, by decide +kernel, by decide +kernel⟩⟩
theorem miX2_at : MiV 2 yX2_at cX2_at 2 (some (.object "MiddlePlank$Crosser")) 1 := ⟨⟨_, _, rfl⟩, lw_in (i := 444) (by decide +kernel) rfl, lw_in (i := 62) (by decide +kernel) rfl, lw_in (i := 442) (by decide +kernel) rfl, lw_in (i := 443) (by decide +kernel) rfl, ⟨by decide +kernel, by decide +kernel, by decide +kernel⟩⟩
theorem miX3_take : MiV 3 yX3_take cX3_take 4 none 2 := ⟨⟨_, _, rfl⟩, lw_in (i := 423) (by decide +kernel) rfl, lw_in (i := 64) (by decide +kernel) rfl, lw_in (i := 421) (by decide +kernel) rfl, lw_in (i := 422) (by decide +kernel) rfl, ⟨by decide +kernel, by decide +kernel, by decide +kernel⟩⟩
theorem miX3_whoAt : MiV 3 yX3_whoAt cX3_whoAt 2 (some .int) 1 := ⟨⟨_, _, rfl⟩, lw_in (i := 439) (by decide +kernel) rfl, lw_in (i := 64) (by decide +kernel) rfl, lw_in (i := 437) (by decide +kernel) rfl, lw_in (i := 438) (by decide +kernel) rfl, ⟨by decide +kernel, by decide +kernel, by decide +kernel⟩⟩
theorem miX3_follow : MiV 3 yX3_follow cX3_follow 8 none 5 := ⟨⟨_, _, rfl⟩, lw_in (i := 435) (by decide +kernel) rfl, lw_in (i := 64) (by decide +kernel) rfl, lw_in (i := 433) (by decide +kernel) rfl, lw_in (i := 434) (by decide +kernel) rfl, ⟨by decide +kernel, by decide +kernel, by decide +kernel⟩⟩
theorem miX4_make : MiV 4 yX4_make cX4_make 4 none 2 := ⟨⟨_, _, rfl⟩, lw_in (i := 549) (by decide +kernel) rfl, lw_in (i := 65) (by decide +kernel) rfl, lw_in (i := 547) (by decide +kernel) rfl, lw_in (i := 548) (by decide +kernel) rfl, ⟨by decide +kernel, by decide +kernel, by decide +kernel⟩⟩
theorem miX4_whoAt : MiV 4 yX4_whoAt cX4_whoAt 2 (some .int) 1 := ⟨⟨_, _, rfl⟩, lw_in (i := 583) (by decide +kernel) rfl, lw_in (i := 65) (by decide +kernel) rfl, lw_in (i := 581) (by decide +kernel) rfl, lw_in (i := 582) (by decide +kernel) rfl, ⟨by decide +kernel, by decide +kernel, by decide +kernel⟩⟩
theorem miX4_weigh : MiV 4 yX4_weigh cX4_weigh 7 none 3 := ⟨⟨_, _, rfl⟩, lw_in (i := 555) (by decide +kernel) rfl, lw_in (i := 65) (by decide +kernel) rfl, lw_in (i := 554) (by decide +kernel) rfl, lw_in (i := 9) (by decide +kernel) rfl, ⟨by decide +kernel, by decide +kernel, by decide +kernel⟩⟩
theorem miX4_findBest : MiV 4 yX4_findBest cX4_findBest 4 none 0 := ⟨⟨_, _, rfl⟩, lw_in (i := 562) (by decide +kernel) rfl, lw_in (i := 65) (by decide +kernel) rfl, lw_in (i := 561) (by decide +kernel) rfl, lw_in (i := 10) (by decide +kernel) rfl, ⟨by decide +kernel, by decide +kernel, by decide +kernel⟩⟩
theorem miX4_bestOf : MiV 4 yX4_bestOf cX4_bestOf 5 (some .int) 2 := ⟨⟨_, _, rfl⟩, lw_in (i := 566) (by decide +kernel) rfl, lw_in (i := 65) (by decide +kernel) rfl, lw_in (i := 565) (by decide +kernel) rfl, lw_in (i := 11) (by decide +kernel) rfl, ⟨by decide +kernel, by decide +kernel, by decide +kernel⟩⟩
theorem miX4_worthOf : MiV 4 yX4_worthOf cX4_worthOf 5 (some .int) 3 := ⟨⟨_, _, rfl⟩, lw_in (i := 570) (by decide +kernel) rfl, lw_in (i := 65) (by decide +kernel) rfl, lw_in (i := 569) (by decide +kernel) rfl, lw_in (i := 12) (by decide +kernel) rfl, ⟨by decide +kernel, by decide +kernel, by decide +kernel⟩⟩
theorem miX4_followBest : MiV 4 yX4_followBest cX4_followBest 8 none 3 := ⟨⟨_, _, rfl⟩, lw_in (i := 575) (by decide +kernel) rfl, lw_in (i := 65) (by decide +kernel) rfl, lw_in (i := 574) (by decide +kernel) rfl, lw_in (i := 13) (by decide +kernel) rfl, ⟨by decide +kernel, by decide +kernel, by decide +kernel⟩⟩
theorem miX4_leastOfBest : MiV 4 yX4_leastOfBest cX4_leastOfBest 4 (some .int) 2 := ⟨⟨_, _, rfl⟩, lw_in (i := 579) (by decide +kernel) rfl, lw_in (i := 65) (by decide +kernel) rfl, lw_in (i := 578) (by decide +kernel) rfl, lw_in (i := 14) (by decide +kernel) rfl, ⟨by decide +kernel, by decide +kernel, by decide +kernel⟩⟩
theorem miX5_renew : MiV 5 yX5_renew cX5_renew 4 none 2 := ⟨⟨_, _, rfl⟩, lw_in (i := 687) (by decide +kernel) rfl, lw_in (i := 69) (by decide +kernel) rfl, lw_in (i := 685) (by decide +kernel) rfl, lw_in (i := 686) (by decide +kernel) rfl, ⟨by decide +kernel, by decide +kernel, by decide +kernel⟩⟩
theorem miX5_hasItems : MiV 5 yX5_hasItems cX5_hasItems 3 (some .boolean) 2 := ⟨⟨_, _, rfl⟩, lw_in (i := 638) (by decide +kernel) rfl, lw_in (i := 69) (by decide +kernel) rfl, lw_in (i := 636) (by decide +kernel) rfl, lw_in (i := 637) (by decide +kernel) rfl, ⟨by decide +kernel, by decide +kernel, by decide +kernel⟩⟩
theorem miX5_findingAt : MiV 5 yX5_findingAt cX5_findingAt 3 (some .int) 2 := ⟨⟨_, _, rfl⟩, lw_in (i := 700) (by decide +kernel) rfl, lw_in (i := 69) (by decide +kernel) rfl, lw_in (i := 698) (by decide +kernel) rfl, lw_in (i := 699) (by decide +kernel) rfl, ⟨by decide +kernel, by decide +kernel, by decide +kernel⟩⟩
theorem miX5_itemAt : MiV 5 yX5_itemAt cX5_itemAt 2 (some .int) 1 := ⟨⟨_, _, rfl⟩, lw_in (i := 634) (by decide +kernel) rfl, lw_in (i := 69) (by decide +kernel) rfl, lw_in (i := 632) (by decide +kernel) rfl, lw_in (i := 633) (by decide +kernel) rfl, ⟨by decide +kernel, by decide +kernel, by decide +kernel⟩⟩
theorem miX5_put : MiV 5 yX5_put cX5_put 3 none 2 := ⟨⟨_, _, rfl⟩, lw_in (i := 704) (by decide +kernel) rfl, lw_in (i := 69) (by decide +kernel) rfl, lw_in (i := 702) (by decide +kernel) rfl, lw_in (i := 703) (by decide +kernel) rfl, ⟨by decide +kernel, by decide +kernel, by decide +kernel⟩⟩
theorem miX5_lowestBits : MiV 5 yX5_lowestBits cX5_lowestBits 2 (some .int) 1 := ⟨⟨_, _, rfl⟩, lw_in (i := 708) (by decide +kernel) rfl, lw_in (i := 69) (by decide +kernel) rfl, lw_in (i := 707) (by decide +kernel) rfl, lw_in (i := 21) (by decide +kernel) rfl, ⟨by decide +kernel, by decide +kernel, by decide +kernel⟩⟩
theorem miX6_isPossible : MiS yX6_isPossible cX6_isPossible 2 (some .boolean) 2 := ⟨lw_in (i := 604) (by decide +kernel) rfl, lw_in (i := 66) (by decide +kernel) rfl, lw_in (i := 603) (by decide +kernel) rfl, ⟨by decide +kernel, by decide +kernel, by decide +kernel⟩⟩
theorem miX6_isFull : MiV 6 yX6_isFull cX6_isFull 1 (some .boolean) 0 := ⟨⟨_, _, rfl⟩, lw_in (i := 609) (by decide +kernel) rfl, lw_in (i := 66) (by decide +kernel) rfl, lw_in (i := 607) (by decide +kernel) rfl, lw_in (i := 608) (by decide +kernel) rfl, ⟨by decide +kernel, by decide +kernel, by decide +kernel⟩⟩
theorem miX6_add : MiV 6 yX6_add cX6_add 3 none 2 := ⟨⟨_, _, rfl⟩, lw_in (i := 613) (by decide +kernel) rfl, lw_in (i := 66) (by decide +kernel) rfl, lw_in (i := 611) (by decide +kernel) rfl, lw_in (i := 612) (by decide +kernel) rfl, ⟨by decide +kernel, by decide +kernel, by decide +kernel⟩⟩
theorem miX6_agreeWith : MiV 6 yX6_agreeWith cX6_agreeWith 5 (some .boolean) 2 := ⟨⟨_, _, rfl⟩, lw_in (i := 653) (by decide +kernel) rfl, lw_in (i := 66) (by decide +kernel) rfl, lw_in (i := 651) (by decide +kernel) rfl, lw_in (i := 652) (by decide +kernel) rfl, ⟨by decide +kernel, by decide +kernel, by decide +kernel⟩⟩
theorem miX7_isFull : MiV 7 yX7_isFull cX7_isFull 1 (some .boolean) 0 := ⟨⟨_, _, rfl⟩, lw_in (i := 332) (by decide +kernel) rfl, lw_in (i := 67) (by decide +kernel) rfl, lw_in (i := 330) (by decide +kernel) rfl, lw_in (i := 331) (by decide +kernel) rfl, ⟨by decide +kernel, by decide +kernel, by decide +kernel⟩⟩
theorem miX7_append : MiV 7 yX7_append cX7_append 2 none 1 := ⟨⟨_, _, rfl⟩, lw_in (i := 336) (by decide +kernel) rfl, lw_in (i := 67) (by decide +kernel) rfl, lw_in (i := 334) (by decide +kernel) rfl, lw_in (i := 335) (by decide +kernel) rfl, ⟨by decide +kernel, by decide +kernel, by decide +kernel⟩⟩
theorem miX7_at : MiV 7 yX7_at cX7_at 2 (some .int) 1 := ⟨⟨_, _, rfl⟩, lw_in (i := 356) (by decide +kernel) rfl, lw_in (i := 67) (by decide +kernel) rfl, lw_in (i := 354) (by decide +kernel) rfl, lw_in (i := 355) (by decide +kernel) rfl, ⟨by decide +kernel, by decide +kernel, by decide +kernel⟩⟩
theorem miX8_type : MiV 8 yX8_type cX8_type 4 (some .int) 2 := ⟨⟨_, _, rfl⟩, lw_in (i := 321) (by decide +kernel) rfl, lw_in (i := 60) (by decide +kernel) rfl, lw_in (i := 319) (by decide +kernel) rfl, lw_in (i := 320) (by decide +kernel) rfl, ⟨by decide +kernel, by decide +kernel, by decide +kernel⟩⟩
theorem miX8_wipe : MiV 8 yX8_wipe cX8_wipe 4 (some .int) 1 := ⟨⟨_, _, rfl⟩, lw_in (i := 341) (by decide +kernel) rfl, lw_in (i := 60) (by decide +kernel) rfl, lw_in (i := 339) (by decide +kernel) rfl, lw_in (i := 340) (by decide +kernel) rfl, ⟨by decide +kernel, by decide +kernel, by decide +kernel⟩⟩
theorem miX8_undo : MiV 8 yX8_undo cX8_undo 3 (some .int) 1 := ⟨⟨_, _, rfl⟩, lw_in (i := 345) (by decide +kernel) rfl, lw_in (i := 60) (by decide +kernel) rfl, lw_in (i := 343) (by decide +kernel) rfl, lw_in (i := 344) (by decide +kernel) rfl, ⟨by decide +kernel, by decide +kernel, by decide +kernel⟩⟩
theorem miX8_fault : MiV 8 yX8_fault cX8_fault 3 (some .int) 1 := ⟨⟨_, _, rfl⟩, lw_in (i := 349) (by decide +kernel) rfl, lw_in (i := 60) (by decide +kernel) rfl, lw_in (i := 347) (by decide +kernel) rfl, lw_in (i := 348) (by decide +kernel) rfl, ⟨by decide +kernel, by decide +kernel, by decide +kernel⟩⟩
theorem miX8_plank : MiV 8 yX8_plank cX8_plank 2 (some .int) 1 := ⟨⟨_, _, rfl⟩, lw_in (i := 380) (by decide +kernel) rfl, lw_in (i := 60) (by decide +kernel) rfl, lw_in (i := 378) (by decide +kernel) rfl, lw_in (i := 379) (by decide +kernel) rfl, ⟨by decide +kernel, by decide +kernel, by decide +kernel⟩⟩
theorem miX8_crosser : MiV 8 yX8_crosser cX8_crosser 4 (some .int) 2 := ⟨⟨_, _, rfl⟩, lw_in (i := 474) (by decide +kernel) rfl, lw_in (i := 60) (by decide +kernel) rfl, lw_in (i := 472) (by decide +kernel) rfl, lw_in (i := 473) (by decide +kernel) rfl, ⟨by decide +kernel, by decide +kernel, by decide +kernel⟩⟩
theorem miX8_crossing : MiV 8 yX8_crossing cX8_crossing 2 (some .int) 1 := ⟨⟨_, _, rfl⟩, lw_in (i := 479) (by decide +kernel) rfl, lw_in (i := 60) (by decide +kernel) rfl, lw_in (i := 477) (by decide +kernel) rfl, lw_in (i := 478) (by decide +kernel) rfl, ⟨by decide +kernel, by decide +kernel, by decide +kernel⟩⟩
theorem miX8_set : MiV 8 yX8_set cX8_set 4 (some .int) 2 := ⟨⟨_, _, rfl⟩, lw_in (i := 484) (by decide +kernel) rfl, lw_in (i := 60) (by decide +kernel) rfl, lw_in (i := 482) (by decide +kernel) rfl, lw_in (i := 483) (by decide +kernel) rfl, ⟨by decide +kernel, by decide +kernel, by decide +kernel⟩⟩
theorem miX8_shift : MiV 8 yX8_shift cX8_shift 4 (some .int) 2 := ⟨⟨_, _, rfl⟩, lw_in (i := 488) (by decide +kernel) rfl, lw_in (i := 60) (by decide +kernel) rfl, lw_in (i := 486) (by decide +kernel) rfl, lw_in (i := 487) (by decide +kernel) rfl, ⟨by decide +kernel, by decide +kernel, by decide +kernel⟩⟩
theorem miX8_gap : MiV 8 yX8_gap cX8_gap 2 (some .int) 1 := ⟨⟨_, _, rfl⟩, lw_in (i := 492) (by decide +kernel) rfl, lw_in (i := 60) (by decide +kernel) rfl, lw_in (i := 490) (by decide +kernel) rfl, lw_in (i := 491) (by decide +kernel) rfl, ⟨by decide +kernel, by decide +kernel, by decide +kernel⟩⟩
theorem miX8_comes : MiV 8 yX8_comes cX8_comes 5 (some .int) 2 := ⟨⟨_, _, rfl⟩, lw_in (i := 500) (by decide +kernel) rfl, lw_in (i := 60) (by decide +kernel) rfl, lw_in (i := 498) (by decide +kernel) rfl, lw_in (i := 499) (by decide +kernel) rfl, ⟨by decide +kernel, by decide +kernel, by decide +kernel⟩⟩
theorem miX8_times : MiV 8 yX8_times cX8_times 6 (some .int) 2 := ⟨⟨_, _, rfl⟩, lw_in (i := 513) (by decide +kernel) rfl, lw_in (i := 60) (by decide +kernel) rfl, lw_in (i := 511) (by decide +kernel) rfl, lw_in (i := 512) (by decide +kernel) rfl, ⟨by decide +kernel, by decide +kernel, by decide +kernel⟩⟩
theorem miX8_taken : MiV 8 yX8_taken cX8_taken 2 (some .int) 1 := ⟨⟨_, _, rfl⟩, lw_in (i := 521) (by decide +kernel) rfl, lw_in (i := 60) (by decide +kernel) rfl, lw_in (i := 519) (by decide +kernel) rfl, lw_in (i := 520) (by decide +kernel) rfl, ⟨by decide +kernel, by decide +kernel, by decide +kernel⟩⟩
theorem miX8_stuck : MiV 8 yX8_stuck cX8_stuck 2 (some .int) 0 := ⟨⟨_, _, rfl⟩, lw_in (i := 529) (by decide +kernel) rfl, lw_in (i := 60) (by decide +kernel) rfl, lw_in (i := 527) (by decide +kernel) rfl, lw_in (i := 528) (by decide +kernel) rfl, ⟨by decide +kernel, by decide +kernel, by decide +kernel⟩⟩
theorem miX8_worn : MiV 8 yX8_worn cX8_worn 4 (some .int) 0 := ⟨⟨_, _, rfl⟩, lw_in (i := 533) (by decide +kernel) rfl, lw_in (i := 60) (by decide +kernel) rfl, lw_in (i := 531) (by decide +kernel) rfl, lw_in (i := 532) (by decide +kernel) rfl, ⟨by decide +kernel, by decide +kernel, by decide +kernel⟩⟩
theorem miX8_order : MiV 8 yX8_order cX8_order 2 (some .int) 1 := ⟨⟨_, _, rfl⟩, lw_in (i := 541) (by decide +kernel) rfl, lw_in (i := 60) (by decide +kernel) rfl, lw_in (i := 539) (by decide +kernel) rfl, lw_in (i := 540) (by decide +kernel) rfl, ⟨by decide +kernel, by decide +kernel, by decide +kernel⟩⟩
theorem miX8_ahead : MiV 8 yX8_ahead cX8_ahead 6 (some .int) 1 := ⟨⟨_, _, rfl⟩, lw_in (i := 588) (by decide +kernel) rfl, lw_in (i := 60) (by decide +kernel) rfl, lw_in (i := 586) (by decide +kernel) rfl, lw_in (i := 587) (by decide +kernel) rfl, ⟨by decide +kernel, by decide +kernel, by decide +kernel⟩⟩
theorem miX8_often : MiV 8 yX8_often cX8_often 7 (some .int) 2 := ⟨⟨_, _, rfl⟩, lw_in (i := 597) (by decide +kernel) rfl, lw_in (i := 60) (by decide +kernel) rfl, lw_in (i := 595) (by decide +kernel) rfl, lw_in (i := 596) (by decide +kernel) rfl, ⟨by decide +kernel, by decide +kernel, by decide +kernel⟩⟩
theorem miX8_seen : MiV 8 yX8_seen cX8_seen 3 (some .int) 2 := ⟨⟨_, _, rfl⟩, lw_in (i := 601) (by decide +kernel) rfl, lw_in (i := 60) (by decide +kernel) rfl, lw_in (i := 599) (by decide +kernel) rfl, lw_in (i := 600) (by decide +kernel) rfl, ⟨by decide +kernel, by decide +kernel, by decide +kernel⟩⟩
theorem miX8_forget : MiV 8 yX8_forget cX8_forget 2 (some .int) 0 := ⟨⟨_, _, rfl⟩, lw_in (i := 618) (by decide +kernel) rfl, lw_in (i := 60) (by decide +kernel) rfl, lw_in (i := 616) (by decide +kernel) rfl, lw_in (i := 617) (by decide +kernel) rfl, ⟨by decide +kernel, by decide +kernel, by decide +kernel⟩⟩
theorem miX8_read : MiV 8 yX8_read cX8_read 4 (some .int) 1 := ⟨⟨_, _, rfl⟩, lw_in (i := 622) (by decide +kernel) rfl, lw_in (i := 60) (by decide +kernel) rfl, lw_in (i := 620) (by decide +kernel) rfl, lw_in (i := 621) (by decide +kernel) rfl, ⟨by decide +kernel, by decide +kernel, by decide +kernel⟩⟩
theorem miX8_rule : MiV 8 yX8_rule cX8_rule 4 (some .int) 1 := ⟨⟨_, _, rfl⟩, lw_in (i := 642) (by decide +kernel) rfl, lw_in (i := 60) (by decide +kernel) rfl, lw_in (i := 640) (by decide +kernel) rfl, lw_in (i := 641) (by decide +kernel) rfl, ⟨by decide +kernel, by decide +kernel, by decide +kernel⟩⟩
theorem miX8_began : MiV 8 yX8_began cX8_began 3 (some .int) 0 := ⟨⟨_, _, rfl⟩, lw_in (i := 657) (by decide +kernel) rfl, lw_in (i := 60) (by decide +kernel) rfl, lw_in (i := 655) (by decide +kernel) rfl, lw_in (i := 656) (by decide +kernel) rfl, ⟨by decide +kernel, by decide +kernel, by decide +kernel⟩⟩
theorem miX8_ask : MiV 8 yX8_ask cX8_ask 1 (some .int) 0 := ⟨⟨_, _, rfl⟩, lw_in (i := 661) (by decide +kernel) rfl, lw_in (i := 60) (by decide +kernel) rfl, lw_in (i := 659) (by decide +kernel) rfl, lw_in (i := 660) (by decide +kernel) rfl, ⟨by decide +kernel, by decide +kernel, by decide +kernel⟩⟩
theorem miX8_maybe : MiV 8 yX8_maybe cX8_maybe 7 (some .long) 3 := ⟨⟨_, _, rfl⟩, lw_in (i := 665) (by decide +kernel) rfl, lw_in (i := 60) (by decide +kernel) rfl, lw_in (i := 663) (by decide +kernel) rfl, lw_in (i := 664) (by decide +kernel) rfl, ⟨by decide +kernel, by decide +kernel, by decide +kernel⟩⟩
theorem miX8_week : MiV 8 yX8_week cX8_week 9 (some .int) 3 := ⟨⟨_, _, rfl⟩, lw_in (i := 678) (by decide +kernel) rfl, lw_in (i := 60) (by decide +kernel) rfl, lw_in (i := 676) (by decide +kernel) rfl, lw_in (i := 677) (by decide +kernel) rfl, ⟨by decide +kernel, by decide +kernel, by decide +kernel⟩⟩
theorem miX8_sheet : MiV 8 yX8_sheet cX8_sheet 5 (some .int) 3 := ⟨⟨_, _, rfl⟩, lw_in (i := 683) (by decide +kernel) rfl, lw_in (i := 60) (by decide +kernel) rfl, lw_in (i := 681) (by decide +kernel) rfl, lw_in (i := 682) (by decide +kernel) rfl, ⟨by decide +kernel, by decide +kernel, by decide +kernel⟩⟩
theorem miX8_lose : MiV 8 yX8_lose cX8_lose 3 (some .int) 1 := ⟨⟨_, _, rfl⟩, lw_in (i := 692) (by decide +kernel) rfl, lw_in (i := 60) (by decide +kernel) rfl, lw_in (i := 690) (by decide +kernel) rfl, lw_in (i := 691) (by decide +kernel) rfl, ⟨by decide +kernel, by decide +kernel, by decide +kernel⟩⟩
theorem miX8_lay : MiV 8 yX8_lay cX8_lay 7 (some .int) 4 := ⟨⟨_, _, rfl⟩, lw_in (i := 696) (by decide +kernel) rfl, lw_in (i := 60) (by decide +kernel) rfl, lw_in (i := 694) (by decide +kernel) rfl, lw_in (i := 695) (by decide +kernel) rfl, ⟨by decide +kernel, by decide +kernel, by decide +kernel⟩⟩
theorem miX8_get : MiV 8 yX8_get cX8_get 6 (some .int) 3 := ⟨⟨_, _, rfl⟩, lw_in (i := 712) (by decide +kernel) rfl, lw_in (i := 60) (by decide +kernel) rfl, lw_in (i := 710) (by decide +kernel) rfl, lw_in (i := 711) (by decide +kernel) rfl, ⟨by decide +kernel, by decide +kernel, by decide +kernel⟩⟩
theorem miX8_copy : MiV 8 yX8_copy cX8_copy 8 (some .int) 5 := ⟨⟨_, _, rfl⟩, lw_in (i := 717) (by decide +kernel) rfl, lw_in (i := 60) (by decide +kernel) rfl, lw_in (i := 715) (by decide +kernel) rfl, lw_in (i := 716) (by decide +kernel) rfl, ⟨by decide +kernel, by decide +kernel, by decide +kernel⟩⟩
theorem miX8_write : MiV 8 yX8_write cX8_write 5 (some .int) 1 := ⟨⟨_, _, rfl⟩, lw_in (i := 722) (by decide +kernel) rfl, lw_in (i := 60) (by decide +kernel) rfl, lw_in (i := 720) (by decide +kernel) rfl, lw_in (i := 721) (by decide +kernel) rfl, ⟨by decide +kernel, by decide +kernel, by decide +kernel⟩⟩
theorem miX8_count : MiV 8 yX8_count cX8_count 2 (some .int) 1 := ⟨⟨_, _, rfl⟩, lw_in (i := 727) (by decide +kernel) rfl, lw_in (i := 60) (by decide +kernel) rfl, lw_in (i := 725) (by decide +kernel) rfl, lw_in (i := 726) (by decide +kernel) rfl, ⟨by decide +kernel, by decide +kernel, by decide +kernel⟩⟩
theorem miX8_digest : MiV 8 yX8_digest cX8_digest 4 (some .long) 0 := ⟨⟨_, _, rfl⟩, lw_in (i := 731) (by decide +kernel) rfl, lw_in (i := 60) (by decide +kernel) rfl, lw_in (i := 729) (by decide +kernel) rfl, lw_in (i := 730) (by decide +kernel) rfl, ⟨by decide +kernel, by decide +kernel, by decide +kernel⟩⟩
theorem miX8_digestPlanks : MiV 8 yX8_digestPlanks cX8_digestPlanks 6 (some .long) 1 := ⟨⟨_, _, rfl⟩, lw_in (i := 739) (by decide +kernel) rfl, lw_in (i := 60) (by decide +kernel) rfl, lw_in (i := 738) (by decide +kernel) rfl, lw_in (i := 22) (by decide +kernel) rfl, ⟨by decide +kernel, by decide +kernel, by decide +kernel⟩⟩
theorem miX8_digestCrossers : MiV 8 yX8_digestCrossers cX8_digestCrossers 7 (some .long) 1 := ⟨⟨_, _, rfl⟩, lw_in (i := 745) (by decide +kernel) rfl, lw_in (i := 60) (by decide +kernel) rfl, lw_in (i := 744) (by decide +kernel) rfl, lw_in (i := 23) (by decide +kernel) rfl, ⟨by decide +kernel, by decide +kernel, by decide +kernel⟩⟩
theorem miX8_digestCrossings : MiV 8 yX8_digestCrossings cX8_digestCrossings 7 (some .long) 1 := ⟨⟨_, _, rfl⟩, lw_in (i := 753) (by decide +kernel) rfl, lw_in (i := 60) (by decide +kernel) rfl, lw_in (i := 752) (by decide +kernel) rfl, lw_in (i := 24) (by decide +kernel) rfl, ⟨by decide +kernel, by decide +kernel, by decide +kernel⟩⟩
theorem miX8_within : MiS yX8_within cX8_within 3 (some .boolean) 3 := ⟨lw_in (i := 328) (by decide +kernel) rfl, lw_in (i := 60) (by decide +kernel) rfl, lw_in (i := 327) (by decide +kernel) rfl, ⟨by decide +kernel, by decide +kernel, by decide +kernel⟩⟩
theorem miX8_textAt : MiV 8 yX8_textAt cX8_textAt 2 (some (.object "MiddlePlank$Text")) 1 := ⟨⟨_, _, rfl⟩, lw_in (i := 325) (by decide +kernel) rfl, lw_in (i := 60) (by decide +kernel) rfl, lw_in (i := 324) (by decide +kernel) rfl, lw_in (i := 0) (by decide +kernel) rfl, ⟨by decide +kernel, by decide +kernel, by decide +kernel⟩⟩
theorem miX8_placeOf : MiS yX8_placeOf cX8_placeOf 3 (some .int) 2 := ⟨lw_in (i := 376) (by decide +kernel) rfl, lw_in (i := 60) (by decide +kernel) rfl, lw_in (i := 375) (by decide +kernel) rfl, ⟨by decide +kernel, by decide +kernel, by decide +kernel⟩⟩
theorem miX8_signsFor : MiS yX8_signsFor cX8_signsFor 2 (some (.array .char)) 2 := ⟨lw_in (i := 359) (by decide +kernel) rfl, lw_in (i := 60) (by decide +kernel) rfl, lw_in (i := 358) (by decide +kernel) rfl, ⟨by decide +kernel, by decide +kernel, by decide +kernel⟩⟩
theorem miX8_faultOf : MiS yX8_faultOf cX8_faultOf 3 (some .int) 2 := ⟨lw_in (i := 352) (by decide +kernel) rfl, lw_in (i := 60) (by decide +kernel) rfl, lw_in (i := 351) (by decide +kernel) rfl, ⟨by decide +kernel, by decide +kernel, by decide +kernel⟩⟩
theorem miX8_lengthWithoutFault : MiS yX8_lengthWithoutFault cX8_lengthWithoutFault 2 (some .int) 2 := ⟨lw_in (i := 387) (by decide +kernel) rfl, lw_in (i := 60) (by decide +kernel) rfl, lw_in (i := 386) (by decide +kernel) rfl, ⟨by decide +kernel, by decide +kernel, by decide +kernel⟩⟩
theorem miX8_freshen : MiV 8 yX8_freshen cX8_freshen 4 none 0 := ⟨⟨_, _, rfl⟩, lw_in (i := 384) (by decide +kernel) rfl, lw_in (i := 60) (by decide +kernel) rfl, lw_in (i := 383) (by decide +kernel) rfl, lw_in (i := 1) (by decide +kernel) rfl, ⟨by decide +kernel, by decide +kernel, by decide +kernel⟩⟩
theorem miX8_freshenPlan : MiV 8 yX8_freshenPlan cX8_freshenPlan 1 none 0 := ⟨⟨_, _, rfl⟩, lw_in (i := 545) (by decide +kernel) rfl, lw_in (i := 60) (by decide +kernel) rfl, lw_in (i := 544) (by decide +kernel) rfl, lw_in (i := 8) (by decide +kernel) rfl, ⟨by decide +kernel, by decide +kernel, by decide +kernel⟩⟩
theorem miX8_isNumberOfCrossings : MiV 8 yX8_isNumberOfCrossings cX8_isNumberOfCrossings 2 (some .boolean) 1 := ⟨⟨_, _, rfl⟩, lw_in (i := 496) (by decide +kernel) rfl, lw_in (i := 60) (by decide +kernel) rfl, lw_in (i := 495) (by decide +kernel) rfl, lw_in (i := 4) (by decide +kernel) rfl, ⟨by decide +kernel, by decide +kernel, by decide +kernel⟩⟩
theorem miX8_gapBehindAll : MiV 8 yX8_gapBehindAll cX8_gapBehindAll 1 (some .int) 0 := ⟨⟨_, _, rfl⟩, lw_in (i := 592) (by decide +kernel) rfl, lw_in (i := 60) (by decide +kernel) rfl, lw_in (i := 591) (by decide +kernel) rfl, lw_in (i := 15) (by decide +kernel) rfl, ⟨by decide +kernel, by decide +kernel, by decide +kernel⟩⟩
theorem miX8_outcomeOfCrossing : MiV 8 yX8_outcomeOfCrossing cX8_outcomeOfCrossing 2 (some .int) 1 := ⟨⟨_, _, rfl⟩, lw_in (i := 517) (by decide +kernel) rfl, lw_in (i := 60) (by decide +kernel) rfl, lw_in (i := 516) (by decide +kernel) rfl, lw_in (i := 5) (by decide +kernel) rfl, ⟨by decide +kernel, by decide +kernel, by decide +kernel⟩⟩
theorem miX8_tollsBehind : MiV 8 yX8_tollsBehind cX8_tollsBehind 4 (some .int) 1 := ⟨⟨_, _, rfl⟩, lw_in (i := 525) (by decide +kernel) rfl, lw_in (i := 60) (by decide +kernel) rfl, lw_in (i := 524) (by decide +kernel) rfl, lw_in (i := 6) (by decide +kernel) rfl, ⟨by decide +kernel, by decide +kernel, by decide +kernel⟩⟩
theorem miX8_countVisits : MiV 8 yX8_countVisits cX8_countVisits 2 none 0 := ⟨⟨_, _, rfl⟩, lw_in (i := 537) (by decide +kernel) rfl, lw_in (i := 60) (by decide +kernel) rfl, lw_in (i := 536) (by decide +kernel) rfl, lw_in (i := 7) (by decide +kernel) rfl, ⟨by decide +kernel, by decide +kernel, by decide +kernel⟩⟩
theorem miX8_comesOutAsSeen : MiV 8 yX8_comesOutAsSeen cX8_comesOutAsSeen 3 (some .boolean) 2 := ⟨⟨_, _, rfl⟩, lw_in (i := 649) (by decide +kernel) rfl, lw_in (i := 60) (by decide +kernel) rfl, lw_in (i := 648) (by decide +kernel) rfl, lw_in (i := 18) (by decide +kernel) rfl, ⟨by decide +kernel, by decide +kernel, by decide +kernel⟩⟩
theorem miX8_spreadChances : MiV 8 yX8_spreadChances cX8_spreadChances 3 none 1 := ⟨⟨_, _, rfl⟩, lw_in (i := 670) (by decide +kernel) rfl, lw_in (i := 60) (by decide +kernel) rfl, lw_in (i := 669) (by decide +kernel) rfl, lw_in (i := 19) (by decide +kernel) rfl, ⟨by decide +kernel, by decide +kernel, by decide +kernel⟩⟩
theorem miX8_spreadOver : MiV 8 yX8_spreadOver cX8_spreadOver 5 none 2 := ⟨⟨_, _, rfl⟩, lw_in (i := 674) (by decide +kernel) rfl, lw_in (i := 60) (by decide +kernel) rfl, lw_in (i := 673) (by decide +kernel) rfl, lw_in (i := 20) (by decide +kernel) rfl, ⟨by decide +kernel, by decide +kernel, by decide +kernel⟩⟩
theorem miX8_sheetAt : MiV 8 yX8_sheetAt cX8_sheetAt 2 (some (.object "MiddlePlank$Sheet")) 1 := ⟨⟨_, _, rfl⟩, lw_in (i := 626) (by decide +kernel) rfl, lw_in (i := 60) (by decide +kernel) rfl, lw_in (i := 625) (by decide +kernel) rfl, lw_in (i := 16) (by decide +kernel) rfl, ⟨by decide +kernel, by decide +kernel, by decide +kernel⟩⟩
theorem miX8_finding : MiV 8 yX8_finding cX8_finding 2 (some .int) 1 := ⟨⟨_, _, rfl⟩, lw_in (i := 630) (by decide +kernel) rfl, lw_in (i := 60) (by decide +kernel) rfl, lw_in (i := 629) (by decide +kernel) rfl, lw_in (i := 17) (by decide +kernel) rfl, ⟨by decide +kernel, by decide +kernel, by decide +kernel⟩⟩
theorem miX9_in : MiS yX9_in cX9_in 6 (some .boolean) 3 := ⟨lw_in (i := 875) (by decide +kernel) rfl, lw_in (i := 70) (by decide +kernel) rfl, lw_in (i := 874) (by decide +kernel) rfl, ⟨by decide +kernel, by decide +kernel, by decide +kernel⟩⟩
theorem miX9_no : MiS yX9_no cX9_no 1 (some .long) 1 := ⟨lw_in (i := 1157) (by decide +kernel) rfl, lw_in (i := 70) (by decide +kernel) rfl, lw_in (i := 1156) (by decide +kernel) rfl, ⟨by decide +kernel, by decide +kernel, by decide +kernel⟩⟩
theorem miX9_isTwo : MiS yX9_isTwo cX9_isTwo 1 (some .boolean) 1 := ⟨lw_in (i := 976) (by decide +kernel) rfl, lw_in (i := 70) (by decide +kernel) rfl, lw_in (i := 975) (by decide +kernel) rfl, ⟨by decide +kernel, by decide +kernel, by decide +kernel⟩⟩
theorem miX9_isIn : MiS yX9_isIn cX9_isIn 2 (some .boolean) 2 := ⟨lw_in (i := 1001) (by decide +kernel) rfl, lw_in (i := 70) (by decide +kernel) rfl, lw_in (i := 1000) (by decide +kernel) rfl, ⟨by decide +kernel, by decide +kernel, by decide +kernel⟩⟩
theorem miX9_lesser : MiS yX9_lesser cX9_lesser 2 (some .int) 2 := ⟨lw_in (i := 1179) (by decide +kernel) rfl, lw_in (i := 70) (by decide +kernel) rfl, lw_in (i := 1178) (by decide +kernel) rfl, ⟨by decide +kernel, by decide +kernel, by decide +kernel⟩⟩
theorem miX9_greater : MiS yX9_greater cX9_greater 2 (some .int) 2 := ⟨lw_in (i := 1016) (by decide +kernel) rfl, lw_in (i := 70) (by decide +kernel) rfl, lw_in (i := 1015) (by decide +kernel) rfl, ⟨by decide +kernel, by decide +kernel, by decide +kernel⟩⟩
theorem miX9_part : MiS yX9_part cX9_part 11 (some .long) 3 := ⟨lw_in (i := 1154) (by decide +kernel) rfl, lw_in (i := 70) (by decide +kernel) rfl, lw_in (i := 1153) (by decide +kernel) rfl, ⟨by decide +kernel, by decide +kernel, by decide +kernel⟩⟩
theorem miX9_finds : MiV 9 yX9_finds cX9_finds 2 (some .int) 1 := ⟨⟨_, _, rfl⟩, lw_in (i := 880) (by decide +kernel) rfl, lw_in (i := 70) (by decide +kernel) rfl, lw_in (i := 879) (by decide +kernel) rfl, lw_in (i := 25) (by decide +kernel) rfl, ⟨by decide +kernel, by decide +kernel, by decide +kernel⟩⟩
theorem miX9_isSheet : MiS yX9_isSheet cX9_isSheet 1 (some .boolean) 1 := ⟨lw_in (i := 871) (by decide +kernel) rfl, lw_in (i := 70) (by decide +kernel) rfl, lw_in (i := 870) (by decide +kernel) rfl, ⟨by decide +kernel, by decide +kernel, by decide +kernel⟩⟩
theorem miX9_sheet : MiV 9 yX9_sheet cX9_sheet 5 (some .int) 3 := ⟨⟨_, _, rfl⟩, lw_in (i := 868) (by decide +kernel) rfl, lw_in (i := 70) (by decide +kernel) rfl, lw_in (i := 866) (by decide +kernel) rfl, lw_in (i := 867) (by decide +kernel) rfl, ⟨by decide +kernel, by decide +kernel, by decide +kernel⟩⟩
theorem miX9_lose : MiV 9 yX9_lose cX9_lose 2 (some .int) 1 := ⟨⟨_, _, rfl⟩, lw_in (i := 884) (by decide +kernel) rfl, lw_in (i := 70) (by decide +kernel) rfl, lw_in (i := 882) (by decide +kernel) rfl, lw_in (i := 883) (by decide +kernel) rfl, ⟨by decide +kernel, by decide +kernel, by decide +kernel⟩⟩
theorem miX9_lacks : MiV 9 yX9_lacks cX9_lacks 4 (some .int) 3 := ⟨⟨_, _, rfl⟩, lw_in (i := 892) (by decide +kernel) rfl, lw_in (i := 70) (by decide +kernel) rfl, lw_in (i := 891) (by decide +kernel) rfl, lw_in (i := 26) (by decide +kernel) rfl, ⟨by decide +kernel, by decide +kernel, by decide +kernel⟩⟩
theorem miX9_cut : MiS yX9_cut cX9_cut 2 (some .int) 2 := ⟨lw_in (i := 895) (by decide +kernel) rfl, lw_in (i := 70) (by decide +kernel) rfl, lw_in (i := 894) (by decide +kernel) rfl, ⟨by decide +kernel, by decide +kernel, by decide +kernel⟩⟩
theorem miX9_lay : MiV 9 yX9_lay cX9_lay 6 (some .int) 4 := ⟨⟨_, _, rfl⟩, lw_in (i := 888) (by decide +kernel) rfl, lw_in (i := 70) (by decide +kernel) rfl, lw_in (i := 886) (by decide +kernel) rfl, lw_in (i := 887) (by decide +kernel) rfl, ⟨by decide +kernel, by decide +kernel, by decide +kernel⟩⟩
theorem miX9_get : MiV 9 yX9_get cX9_get 4 (some .int) 3 := ⟨⟨_, _, rfl⟩, lw_in (i := 899) (by decide +kernel) rfl, lw_in (i := 70) (by decide +kernel) rfl, lw_in (i := 897) (by decide +kernel) rfl, lw_in (i := 898) (by decide +kernel) rfl, ⟨by decide +kernel, by decide +kernel, by decide +kernel⟩⟩
theorem miX9_copy : MiV 9 yX9_copy cX9_copy 7 (some .int) 5 := ⟨⟨_, _, rfl⟩, lw_in (i := 904) (by decide +kernel) rfl, lw_in (i := 70) (by decide +kernel) rfl, lw_in (i := 902) (by decide +kernel) rfl, lw_in (i := 903) (by decide +kernel) rfl, ⟨by decide +kernel, by decide +kernel, by decide +kernel⟩⟩
theorem miX9_isText : MiS yX9_isText cX9_isText 1 (some .boolean) 1 := ⟨lw_in (i := 911) (by decide +kernel) rfl, lw_in (i := 70) (by decide +kernel) rfl, lw_in (i := 910) (by decide +kernel) rfl, ⟨by decide +kernel, by decide +kernel, by decide +kernel⟩⟩
theorem miX9_type : MiV 9 yX9_type cX9_type 3 (some .int) 2 := ⟨⟨_, _, rfl⟩, lw_in (i := 908) (by decide +kernel) rfl, lw_in (i := 70) (by decide +kernel) rfl, lw_in (i := 906) (by decide +kernel) rfl, lw_in (i := 907) (by decide +kernel) rfl, ⟨by decide +kernel, by decide +kernel, by decide +kernel⟩⟩
theorem miX9_wipe : MiV 9 yX9_wipe cX9_wipe 3 (some .int) 1 := ⟨⟨_, _, rfl⟩, lw_in (i := 916) (by decide +kernel) rfl, lw_in (i := 70) (by decide +kernel) rfl, lw_in (i := 914) (by decide +kernel) rfl, lw_in (i := 915) (by decide +kernel) rfl, ⟨by decide +kernel, by decide +kernel, by decide +kernel⟩⟩
theorem miX9_undo : MiV 9 yX9_undo cX9_undo 2 (some .int) 1 := ⟨⟨_, _, rfl⟩, lw_in (i := 920) (by decide +kernel) rfl, lw_in (i := 70) (by decide +kernel) rfl, lw_in (i := 918) (by decide +kernel) rfl, lw_in (i := 919) (by decide +kernel) rfl, ⟨by decide +kernel, by decide +kernel, by decide +kernel⟩⟩
theorem miX9_readsPlanks : MiV 9 yX9_readsPlanks cX9_readsPlanks 3 (some .int) 0 := ⟨⟨_, _, rfl⟩, lw_in (i := 932) (by decide +kernel) rfl, lw_in (i := 70) (by decide +kernel) rfl, lw_in (i := 931) (by decide +kernel) rfl, lw_in (i := 28) (by decide +kernel) rfl, ⟨by decide +kernel, by decide +kernel, by decide +kernel⟩⟩
theorem miX9_kindOf : MiS yX9_kindOf cX9_kindOf 1 (some .int) 1 := ⟨lw_in (i := 942) (by decide +kernel) rfl, lw_in (i := 70) (by decide +kernel) rfl, lw_in (i := 941) (by decide +kernel) rfl, ⟨by decide +kernel, by decide +kernel, by decide +kernel⟩⟩
theorem miX9_crosserOf : MiS yX9_crosserOf cX9_crosserOf 2 (some .int) 2 := ⟨lw_in (i := 939) (by decide +kernel) rfl, lw_in (i := 70) (by decide +kernel) rfl, lw_in (i := 938) (by decide +kernel) rfl, ⟨by decide +kernel, by decide +kernel, by decide +kernel⟩⟩
theorem miX9_readsCrossers : MiV 9 yX9_readsCrossers cX9_readsCrossers 5 (some .int) 0 := ⟨⟨_, _, rfl⟩, lw_in (i := 936) (by decide +kernel) rfl, lw_in (i := 70) (by decide +kernel) rfl, lw_in (i := 935) (by decide +kernel) rfl, lw_in (i := 29) (by decide +kernel) rfl, ⟨by decide +kernel, by decide +kernel, by decide +kernel⟩⟩
theorem miX9_readsCrossings : MiV 9 yX9_readsCrossings cX9_readsCrossings 3 (some .int) 0 := ⟨⟨_, _, rfl⟩, lw_in (i := 949) (by decide +kernel) rfl, lw_in (i := 70) (by decide +kernel) rfl, lw_in (i := 948) (by decide +kernel) rfl, lw_in (i := 30) (by decide +kernel) rfl, ⟨by decide +kernel, by decide +kernel, by decide +kernel⟩⟩
theorem miX9_readsText : MiV 9 yX9_readsText cX9_readsText 2 (some .int) 1 := ⟨⟨_, _, rfl⟩, lw_in (i := 928) (by decide +kernel) rfl, lw_in (i := 70) (by decide +kernel) rfl, lw_in (i := 927) (by decide +kernel) rfl, lw_in (i := 27) (by decide +kernel) rfl, ⟨by decide +kernel, by decide +kernel, by decide +kernel⟩⟩
theorem miX9_fault : MiV 9 yX9_fault cX9_fault 2 (some .int) 1 := ⟨⟨_, _, rfl⟩, lw_in (i := 924) (by decide +kernel) rfl, lw_in (i := 70) (by decide +kernel) rfl, lw_in (i := 922) (by decide +kernel) rfl, lw_in (i := 923) (by decide +kernel) rfl, ⟨by decide +kernel, by decide +kernel, by decide +kernel⟩⟩
theorem miX9_isCrosser : MiV 9 yX9_isCrosser cX9_isCrosser 2 (some .boolean) 1 := ⟨⟨_, _, rfl⟩, lw_in (i := 964) (by decide +kernel) rfl, lw_in (i := 70) (by decide +kernel) rfl, lw_in (i := 963) (by decide +kernel) rfl, lw_in (i := 31) (by decide +kernel) rfl, ⟨by decide +kernel, by decide +kernel, by decide +kernel⟩⟩
theorem miX9_plank : MiV 9 yX9_plank cX9_plank 2 (some .int) 1 := ⟨⟨_, _, rfl⟩, lw_in (i := 955) (by decide +kernel) rfl, lw_in (i := 70) (by decide +kernel) rfl, lw_in (i := 953) (by decide +kernel) rfl, lw_in (i := 954) (by decide +kernel) rfl, ⟨by decide +kernel, by decide +kernel, by decide +kernel⟩⟩
theorem miX9_crosser : MiV 9 yX9_crosser cX9_crosser 3 (some .int) 2 := ⟨⟨_, _, rfl⟩, lw_in (i := 960) (by decide +kernel) rfl, lw_in (i := 70) (by decide +kernel) rfl, lw_in (i := 958) (by decide +kernel) rfl, lw_in (i := 959) (by decide +kernel) rfl, ⟨by decide +kernel, by decide +kernel, by decide +kernel⟩⟩
theorem miX9_crossing : MiV 9 yX9_crossing cX9_crossing 2 (some .int) 1 := ⟨⟨_, _, rfl⟩, lw_in (i := 968) (by decide +kernel) rfl, lw_in (i := 70) (by decide +kernel) rfl, lw_in (i := 966) (by decide +kernel) rfl, lw_in (i := 967) (by decide +kernel) rfl, ⟨by decide +kernel, by decide +kernel, by decide +kernel⟩⟩
theorem miX9_set : MiV 9 yX9_set cX9_set 4 (some .int) 2 := ⟨⟨_, _, rfl⟩, lw_in (i := 973) (by decide +kernel) rfl, lw_in (i := 70) (by decide +kernel) rfl, lw_in (i := 971) (by decide +kernel) rfl, lw_in (i := 972) (by decide +kernel) rfl, ⟨by decide +kernel, by decide +kernel, by decide +kernel⟩⟩
theorem miX9_shift : MiV 9 yX9_shift cX9_shift 4 (some .int) 2 := ⟨⟨_, _, rfl⟩, lw_in (i := 981) (by decide +kernel) rfl, lw_in (i := 70) (by decide +kernel) rfl, lw_in (i := 979) (by decide +kernel) rfl, lw_in (i := 980) (by decide +kernel) rfl, ⟨by decide +kernel, by decide +kernel, by decide +kernel⟩⟩
theorem miX9_isHole : MiV 9 yX9_isHole cX9_isHole 4 (some .boolean) 2 := ⟨⟨_, _, rfl⟩, lw_in (i := 1013) (by decide +kernel) rfl, lw_in (i := 70) (by decide +kernel) rfl, lw_in (i := 1012) (by decide +kernel) rfl, lw_in (i := 37) (by decide +kernel) rfl, ⟨by decide +kernel, by decide +kernel, by decide +kernel⟩⟩
theorem miX9_looks : MiV 9 yX9_looks cX9_looks 5 none 1 := ⟨⟨_, _, rfl⟩, lw_in (i := 1009) (by decide +kernel) rfl, lw_in (i := 70) (by decide +kernel) rfl, lw_in (i := 1008) (by decide +kernel) rfl, lw_in (i := 36) (by decide +kernel) rfl, ⟨by decide +kernel, by decide +kernel, by decide +kernel⟩⟩
theorem miX9_moves : MiV 9 yX9_moves cX9_moves 3 (some .int) 1 := ⟨⟨_, _, rfl⟩, lw_in (i := 1020) (by decide +kernel) rfl, lw_in (i := 70) (by decide +kernel) rfl, lw_in (i := 1019) (by decide +kernel) rfl, lw_in (i := 38) (by decide +kernel) rfl, ⟨by decide +kernel, by decide +kernel, by decide +kernel⟩⟩
theorem miX9_tries : MiV 9 yX9_tries cX9_tries 2 (some .int) 1 := ⟨⟨_, _, rfl⟩, lw_in (i := 1005) (by decide +kernel) rfl, lw_in (i := 70) (by decide +kernel) rfl, lw_in (i := 1004) (by decide +kernel) rfl, lw_in (i := 35) (by decide +kernel) rfl, ⟨by decide +kernel, by decide +kernel, by decide +kernel⟩⟩
theorem miX9_tollOf : MiV 9 yX9_tollOf cX9_tollOf 3 (some .int) 2 := ⟨⟨_, _, rfl⟩, lw_in (i := 1024) (by decide +kernel) rfl, lw_in (i := 70) (by decide +kernel) rfl, lw_in (i := 1023) (by decide +kernel) rfl, lw_in (i := 39) (by decide +kernel) rfl, ⟨by decide +kernel, by decide +kernel, by decide +kernel⟩⟩
theorem miX9_begins : MiV 9 yX9_begins cX9_begins 1 none 0 := ⟨⟨_, _, rfl⟩, lw_in (i := 998) (by decide +kernel) rfl, lw_in (i := 70) (by decide +kernel) rfl, lw_in (i := 997) (by decide +kernel) rfl, lw_in (i := 34) (by decide +kernel) rfl, ⟨by decide +kernel, by decide +kernel, by decide +kernel⟩⟩
theorem miX9_lives : MiV 9 yX9_lives cX9_lives 3 none 0 := ⟨⟨_, _, rfl⟩, lw_in (i := 994) (by decide +kernel) rfl, lw_in (i := 70) (by decide +kernel) rfl, lw_in (i := 993) (by decide +kernel) rfl, lw_in (i := 33) (by decide +kernel) rfl, ⟨by decide +kernel, by decide +kernel, by decide +kernel⟩⟩
theorem miX9_find : MiV 9 yX9_find cX9_find 1 none 0 := ⟨⟨_, _, rfl⟩, lw_in (i := 990) (by decide +kernel) rfl, lw_in (i := 70) (by decide +kernel) rfl, lw_in (i := 989) (by decide +kernel) rfl, lw_in (i := 32) (by decide +kernel) rfl, ⟨by decide +kernel, by decide +kernel, by decide +kernel⟩⟩
theorem miX9_gap : MiV 9 yX9_gap cX9_gap 2 (some .int) 1 := ⟨⟨_, _, rfl⟩, lw_in (i := 986) (by decide +kernel) rfl, lw_in (i := 70) (by decide +kernel) rfl, lw_in (i := 984) (by decide +kernel) rfl, lw_in (i := 985) (by decide +kernel) rfl, ⟨by decide +kernel, by decide +kernel, by decide +kernel⟩⟩
theorem miX9_comesBy : MiV 9 yX9_comesBy cX9_comesBy 3 (some .int) 2 := ⟨⟨_, _, rfl⟩, lw_in (i := 1032) (by decide +kernel) rfl, lw_in (i := 70) (by decide +kernel) rfl, lw_in (i := 1031) (by decide +kernel) rfl, lw_in (i := 40) (by decide +kernel) rfl, ⟨by decide +kernel, by decide +kernel, by decide +kernel⟩⟩
theorem miX9_comes : MiV 9 yX9_comes cX9_comes 3 (some .int) 2 := ⟨⟨_, _, rfl⟩, lw_in (i := 1028) (by decide +kernel) rfl, lw_in (i := 70) (by decide +kernel) rfl, lw_in (i := 1026) (by decide +kernel) rfl, lw_in (i := 1027) (by decide +kernel) rfl, ⟨by decide +kernel, by decide +kernel, by decide +kernel⟩⟩
theorem miX9_timesBy : MiV 9 yX9_timesBy cX9_timesBy 5 (some .int) 2 := ⟨⟨_, _, rfl⟩, lw_in (i := 1040) (by decide +kernel) rfl, lw_in (i := 70) (by decide +kernel) rfl, lw_in (i := 1039) (by decide +kernel) rfl, lw_in (i := 41) (by decide +kernel) rfl, ⟨by decide +kernel, by decide +kernel, by decide +kernel⟩⟩
theorem miX9_times : MiV 9 yX9_times cX9_times 3 (some .int) 2 := ⟨⟨_, _, rfl⟩, lw_in (i := 1036) (by decide +kernel) rfl, lw_in (i := 70) (by decide +kernel) rfl, lw_in (i := 1034) (by decide +kernel) rfl, lw_in (i := 1035) (by decide +kernel) rfl, ⟨by decide +kernel, by decide +kernel, by decide +kernel⟩⟩
theorem miX9_takenBy : MiV 9 yX9_takenBy cX9_takenBy 4 (some .int) 1 := ⟨⟨_, _, rfl⟩, lw_in (i := 1048) (by decide +kernel) rfl, lw_in (i := 70) (by decide +kernel) rfl, lw_in (i := 1047) (by decide +kernel) rfl, lw_in (i := 42) (by decide +kernel) rfl, ⟨by decide +kernel, by decide +kernel, by decide +kernel⟩⟩
theorem miX9_taken : MiV 9 yX9_taken cX9_taken 2 (some .int) 1 := ⟨⟨_, _, rfl⟩, lw_in (i := 1044) (by decide +kernel) rfl, lw_in (i := 70) (by decide +kernel) rfl, lw_in (i := 1042) (by decide +kernel) rfl, lw_in (i := 1043) (by decide +kernel) rfl, ⟨by decide +kernel, by decide +kernel, by decide +kernel⟩⟩
theorem miX9_stuckNow : MiV 9 yX9_stuckNow cX9_stuckNow 2 (some .int) 0 := ⟨⟨_, _, rfl⟩, lw_in (i := 1056) (by decide +kernel) rfl, lw_in (i := 70) (by decide +kernel) rfl, lw_in (i := 1055) (by decide +kernel) rfl, lw_in (i := 43) (by decide +kernel) rfl, ⟨by decide +kernel, by decide +kernel, by decide +kernel⟩⟩
theorem miX9_stuck : MiV 9 yX9_stuck cX9_stuck 1 (some .int) 0 := ⟨⟨_, _, rfl⟩, lw_in (i := 1052) (by decide +kernel) rfl, lw_in (i := 70) (by decide +kernel) rfl, lw_in (i := 1050) (by decide +kernel) rfl, lw_in (i := 1051) (by decide +kernel) rfl, ⟨by decide +kernel, by decide +kernel, by decide +kernel⟩⟩
theorem miX9_wornNow : MiV 9 yX9_wornNow cX9_wornNow 6 (some .int) 0 := ⟨⟨_, _, rfl⟩, lw_in (i := 1064) (by decide +kernel) rfl, lw_in (i := 70) (by decide +kernel) rfl, lw_in (i := 1063) (by decide +kernel) rfl, lw_in (i := 44) (by decide +kernel) rfl, ⟨by decide +kernel, by decide +kernel, by decide +kernel⟩⟩
theorem miX9_worn : MiV 9 yX9_worn cX9_worn 1 (some .int) 0 := ⟨⟨_, _, rfl⟩, lw_in (i := 1060) (by decide +kernel) rfl, lw_in (i := 70) (by decide +kernel) rfl, lw_in (i := 1058) (by decide +kernel) rfl, lw_in (i := 1059) (by decide +kernel) rfl, ⟨by decide +kernel, by decide +kernel, by decide +kernel⟩⟩
theorem miX9_nextRow : MiV 9 yX9_nextRow cX9_nextRow 6 (some .boolean) 0 := ⟨⟨_, _, rfl⟩, lw_in (i := 1080) (by decide +kernel) rfl, lw_in (i := 70) (by decide +kernel) rfl, lw_in (i := 1079) (by decide +kernel) rfl, lw_in (i := 47) (by decide +kernel) rfl, ⟨by decide +kernel, by decide +kernel, by decide +kernel⟩⟩
theorem miX9_weighs : MiV 9 yX9_weighs cX9_weighs 5 none 0 := ⟨⟨_, _, rfl⟩, lw_in (i := 1076) (by decide +kernel) rfl, lw_in (i := 70) (by decide +kernel) rfl, lw_in (i := 1075) (by decide +kernel) rfl, lw_in (i := 46) (by decide +kernel) rfl, ⟨by decide +kernel, by decide +kernel, by decide +kernel⟩⟩
theorem miX9_findOrder : MiV 9 yX9_findOrder cX9_findOrder 2 none 0 := ⟨⟨_, _, rfl⟩, lw_in (i := 1072) (by decide +kernel) rfl, lw_in (i := 70) (by decide +kernel) rfl, lw_in (i := 1071) (by decide +kernel) rfl, lw_in (i := 45) (by decide +kernel) rfl, ⟨by decide +kernel, by decide +kernel, by decide +kernel⟩⟩
theorem miX9_orderBy : MiV 9 yX9_orderBy cX9_orderBy 2 (some .int) 1 := ⟨⟨_, _, rfl⟩, lw_in (i := 1084) (by decide +kernel) rfl, lw_in (i := 70) (by decide +kernel) rfl, lw_in (i := 1083) (by decide +kernel) rfl, lw_in (i := 48) (by decide +kernel) rfl, ⟨by decide +kernel, by decide +kernel, by decide +kernel⟩⟩
theorem miX9_order : MiV 9 yX9_order cX9_order 2 (some .int) 1 := ⟨⟨_, _, rfl⟩, lw_in (i := 1068) (by decide +kernel) rfl, lw_in (i := 70) (by decide +kernel) rfl, lw_in (i := 1066) (by decide +kernel) rfl, lw_in (i := 1067) (by decide +kernel) rfl, ⟨by decide +kernel, by decide +kernel, by decide +kernel⟩⟩
theorem miX9_aheadOf : MiV 9 yX9_aheadOf cX9_aheadOf 4 (some .int) 1 := ⟨⟨_, _, rfl⟩, lw_in (i := 1092) (by decide +kernel) rfl, lw_in (i := 70) (by decide +kernel) rfl, lw_in (i := 1091) (by decide +kernel) rfl, lw_in (i := 49) (by decide +kernel) rfl, ⟨by decide +kernel, by decide +kernel, by decide +kernel⟩⟩
theorem miX9_ahead : MiV 9 yX9_ahead cX9_ahead 2 (some .int) 1 := ⟨⟨_, _, rfl⟩, lw_in (i := 1088) (by decide +kernel) rfl, lw_in (i := 70) (by decide +kernel) rfl, lw_in (i := 1086) (by decide +kernel) rfl, lw_in (i := 1087) (by decide +kernel) rfl, ⟨by decide +kernel, by decide +kernel, by decide +kernel⟩⟩
theorem miX9_oftenOf : MiV 9 yX9_oftenOf cX9_oftenOf 5 (some .int) 2 := ⟨⟨_, _, rfl⟩, lw_in (i := 1100) (by decide +kernel) rfl, lw_in (i := 70) (by decide +kernel) rfl, lw_in (i := 1099) (by decide +kernel) rfl, lw_in (i := 50) (by decide +kernel) rfl, ⟨by decide +kernel, by decide +kernel, by decide +kernel⟩⟩
theorem miX9_often : MiV 9 yX9_often cX9_often 3 (some .int) 2 := ⟨⟨_, _, rfl⟩, lw_in (i := 1096) (by decide +kernel) rfl, lw_in (i := 70) (by decide +kernel) rfl, lw_in (i := 1094) (by decide +kernel) rfl, lw_in (i := 1095) (by decide +kernel) rfl, ⟨by decide +kernel, by decide +kernel, by decide +kernel⟩⟩
theorem miX9_seen : MiV 9 yX9_seen cX9_seen 3 (some .int) 2 := ⟨⟨_, _, rfl⟩, lw_in (i := 1104) (by decide +kernel) rfl, lw_in (i := 70) (by decide +kernel) rfl, lw_in (i := 1102) (by decide +kernel) rfl, lw_in (i := 1103) (by decide +kernel) rfl, ⟨by decide +kernel, by decide +kernel, by decide +kernel⟩⟩
theorem miX9_forget : MiV 9 yX9_forget cX9_forget 2 (some .int) 0 := ⟨⟨_, _, rfl⟩, lw_in (i := 1109) (by decide +kernel) rfl, lw_in (i := 70) (by decide +kernel) rfl, lw_in (i := 1107) (by decide +kernel) rfl, lw_in (i := 1108) (by decide +kernel) rfl, ⟨by decide +kernel, by decide +kernel, by decide +kernel⟩⟩
theorem miX9_read : MiV 9 yX9_read cX9_read 4 (some .int) 1 := ⟨⟨_, _, rfl⟩, lw_in (i := 1113) (by decide +kernel) rfl, lw_in (i := 70) (by decide +kernel) rfl, lw_in (i := 1111) (by decide +kernel) rfl, lw_in (i := 1112) (by decide +kernel) rfl, ⟨by decide +kernel, by decide +kernel, by decide +kernel⟩⟩
theorem miX9_isSeen : MiV 9 yX9_isSeen cX9_isSeen 3 (some .boolean) 0 := ⟨⟨_, _, rfl⟩, lw_in (i := 1126) (by decide +kernel) rfl, lw_in (i := 70) (by decide +kernel) rfl, lw_in (i := 1125) (by decide +kernel) rfl, lw_in (i := 52) (by decide +kernel) rfl, ⟨by decide +kernel, by decide +kernel, by decide +kernel⟩⟩
theorem miX9_ruleOf : MiV 9 yX9_ruleOf cX9_ruleOf 5 (some .int) 1 := ⟨⟨_, _, rfl⟩, lw_in (i := 1122) (by decide +kernel) rfl, lw_in (i := 70) (by decide +kernel) rfl, lw_in (i := 1121) (by decide +kernel) rfl, lw_in (i := 51) (by decide +kernel) rfl, ⟨by decide +kernel, by decide +kernel, by decide +kernel⟩⟩
theorem miX9_rule : MiV 9 yX9_rule cX9_rule 2 (some .int) 1 := ⟨⟨_, _, rfl⟩, lw_in (i := 1118) (by decide +kernel) rfl, lw_in (i := 70) (by decide +kernel) rfl, lw_in (i := 1116) (by decide +kernel) rfl, lw_in (i := 1117) (by decide +kernel) rfl, ⟨by decide +kernel, by decide +kernel, by decide +kernel⟩⟩
theorem miX9_beganNow : MiV 9 yX9_beganNow cX9_beganNow 4 (some .int) 0 := ⟨⟨_, _, rfl⟩, lw_in (i := 1134) (by decide +kernel) rfl, lw_in (i := 70) (by decide +kernel) rfl, lw_in (i := 1133) (by decide +kernel) rfl, lw_in (i := 53) (by decide +kernel) rfl, ⟨by decide +kernel, by decide +kernel, by decide +kernel⟩⟩
theorem miX9_began : MiV 9 yX9_began cX9_began 1 (some .int) 0 := ⟨⟨_, _, rfl⟩, lw_in (i := 1130) (by decide +kernel) rfl, lw_in (i := 70) (by decide +kernel) rfl, lw_in (i := 1128) (by decide +kernel) rfl, lw_in (i := 1129) (by decide +kernel) rfl, ⟨by decide +kernel, by decide +kernel, by decide +kernel⟩⟩
theorem miX9_askNow : MiV 9 yX9_askNow cX9_askNow 8 (some .int) 0 := ⟨⟨_, _, rfl⟩, lw_in (i := 1142) (by decide +kernel) rfl, lw_in (i := 70) (by decide +kernel) rfl, lw_in (i := 1141) (by decide +kernel) rfl, lw_in (i := 54) (by decide +kernel) rfl, ⟨by decide +kernel, by decide +kernel, by decide +kernel⟩⟩
theorem miX9_ask : MiV 9 yX9_ask cX9_ask 1 (some .int) 0 := ⟨⟨_, _, rfl⟩, lw_in (i := 1138) (by decide +kernel) rfl, lw_in (i := 70) (by decide +kernel) rfl, lw_in (i := 1136) (by decide +kernel) rfl, lw_in (i := 1137) (by decide +kernel) rfl, ⟨by decide +kernel, by decide +kernel, by decide +kernel⟩⟩
theorem miX9_maybeOf : MiV 9 yX9_maybeOf cX9_maybeOf 10 (some .long) 3 := ⟨⟨_, _, rfl⟩, lw_in (i := 1151) (by decide +kernel) rfl, lw_in (i := 70) (by decide +kernel) rfl, lw_in (i := 1150) (by decide +kernel) rfl, lw_in (i := 55) (by decide +kernel) rfl, ⟨by decide +kernel, by decide +kernel, by decide +kernel⟩⟩
theorem miX9_maybe : MiV 9 yX9_maybe cX9_maybe 4 (some .long) 3 := ⟨⟨_, _, rfl⟩, lw_in (i := 1146) (by decide +kernel) rfl, lw_in (i := 70) (by decide +kernel) rfl, lw_in (i := 1144) (by decide +kernel) rfl, lw_in (i := 1145) (by decide +kernel) rfl, ⟨by decide +kernel, by decide +kernel, by decide +kernel⟩⟩
theorem miX9_lot : MiV 9 yX9_lot cX9_lot 2 (some .int) 1 := ⟨⟨_, _, rfl⟩, lw_in (i := 1171) (by decide +kernel) rfl, lw_in (i := 70) (by decide +kernel) rfl, lw_in (i := 1170) (by decide +kernel) rfl, lw_in (i := 57) (by decide +kernel) rfl, ⟨by decide +kernel, by decide +kernel, by decide +kernel⟩⟩
theorem miX9_weekOf : MiV 9 yX9_weekOf cX9_weekOf 6 (some .int) 3 := ⟨⟨_, _, rfl⟩, lw_in (i := 1167) (by decide +kernel) rfl, lw_in (i := 70) (by decide +kernel) rfl, lw_in (i := 1166) (by decide +kernel) rfl, lw_in (i := 56) (by decide +kernel) rfl, ⟨by decide +kernel, by decide +kernel, by decide +kernel⟩⟩
theorem miX9_week : MiV 9 yX9_week cX9_week 4 (some .int) 3 := ⟨⟨_, _, rfl⟩, lw_in (i := 1162) (by decide +kernel) rfl, lw_in (i := 70) (by decide +kernel) rfl, lw_in (i := 1160) (by decide +kernel) rfl, lw_in (i := 1161) (by decide +kernel) rfl, ⟨by decide +kernel, by decide +kernel, by decide +kernel⟩⟩
theorem miX9_write : MiV 9 yX9_write cX9_write 4 (some .int) 1 := ⟨⟨_, _, rfl⟩, lw_in (i := 1176) (by decide +kernel) rfl, lw_in (i := 70) (by decide +kernel) rfl, lw_in (i := 1174) (by decide +kernel) rfl, lw_in (i := 1175) (by decide +kernel) rfl, ⟨by decide +kernel, by decide +kernel, by decide +kernel⟩⟩
theorem miX9_count : MiV 9 yX9_count cX9_count 2 (some .int) 1 := ⟨⟨_, _, rfl⟩, lw_in (i := 1183) (by decide +kernel) rfl, lw_in (i := 70) (by decide +kernel) rfl, lw_in (i := 1181) (by decide +kernel) rfl, lw_in (i := 1182) (by decide +kernel) rfl, ⟨by decide +kernel, by decide +kernel, by decide +kernel⟩⟩
theorem miX9_tellsCrosser : MiV 9 yX9_tellsCrosser cX9_tellsCrosser 7 (some .long) 2 := ⟨⟨_, _, rfl⟩, lw_in (i := 1195) (by decide +kernel) rfl, lw_in (i := 70) (by decide +kernel) rfl, lw_in (i := 1194) (by decide +kernel) rfl, lw_in (i := 58) (by decide +kernel) rfl, ⟨by decide +kernel, by decide +kernel, by decide +kernel⟩⟩
theorem miX9_digest : MiV 9 yX9_digest cX9_digest 5 (some .long) 0 := ⟨⟨_, _, rfl⟩, lw_in (i := 1187) (by decide +kernel) rfl, lw_in (i := 70) (by decide +kernel) rfl, lw_in (i := 1185) (by decide +kernel) rfl, lw_in (i := 1186) (by decide +kernel) rfl, ⟨by decide +kernel, by decide +kernel, by decide +kernel⟩⟩
theorem miJ9_floorMod_7cf53 : MiS yJ9_floorMod_7cf53 cJ9_floorMod_7cf53 3 (some .int) 2 := ⟨lw_in (i := 460) (by decide +kernel) rfl, lw_in (i := 68) (by decide +kernel) rfl, lw_in (i := 459) (by decide +kernel) rfl, ⟨by decide +kernel, by decide +kernel, by decide +kernel⟩⟩
theorem miJ9_max_7cf53 : MiS yJ9_max_7cf53 cJ9_max_7cf53 2 (some .int) 2 := ⟨lw_in (i := 237) (by decide +kernel) rfl, lw_in (i := 68) (by decide +kernel) rfl, lw_in (i := 236) (by decide +kernel) rfl, ⟨by decide +kernel, by decide +kernel, by decide +kernel⟩⟩
theorem miJ9_min_7cf53 : MiS yJ9_min_7cf53 cJ9_min_7cf53 2 (some .int) 2 := ⟨lw_in (i := 394) (by decide +kernel) rfl, lw_in (i := 68) (by decide +kernel) rfl, lw_in (i := 393) (by decide +kernel) rfl, ⟨by decide +kernel, by decide +kernel, by decide +kernel⟩⟩
theorem kmX8_87 : LkM RX8 87 yX8_textAt := Or.inl (lw_in (i := 322) (by decide +kernel) rfl)
theorem kmX8_91 : LkM RX8 91 yX8_within := Or.inl (lw_in (i := 326) (by decide +kernel) rfl)
theorem kmX8_95 : LkM RX8 95 yX7_isFull := Or.inl (lw_in (i := 329) (by decide +kernel) rfl)
theorem kmX8_99 : LkM RX8 99 yX7_append := Or.inl (lw_in (i := 333) (by decide +kernel) rfl)
theorem kmX8_106 : LkM RX8 106 yX8_faultOf := Or.inl (lw_in (i := 350) (by decide +kernel) rfl)
theorem kmX8_110 : LkM RX8 110 yX8_freshen := Or.inl (lw_in (i := 381) (by decide +kernel) rfl)
theorem kmX8_113 : LkM RX8 113 yX0_hasPlank := Or.inl (lw_in (i := 461) (by decide +kernel) rfl)
theorem kmX8_117 : LkM RX8 117 yX0_isRotten := Or.inl (lw_in (i := 466) (by decide +kernel) rfl)
theorem kmX8_120 : LkM RX8 120 yX2_at := Or.inl (lw_in (i := 475) (by decide +kernel) rfl)
theorem kmX8_138 : LkM RX8 138 yX3_whoAt := Or.inl (lw_in (i := 480) (by decide +kernel) rfl)
theorem kmX8_151 : LkM RX8 151 yX8_isNumberOfCrossings := Or.inl (lw_in (i := 493) (by decide +kernel) rfl)
theorem kmX8_157 : LkM RX8 157 yX0_outcome := Or.inl (lw_in (i := 501) (by decide +kernel) rfl)
theorem kmX8_161 : LkM RX8 161 yX0_toll := Or.inl (lw_in (i := 502) (by decide +kernel) rfl)
theorem kmX8_164 : LkM RX8 164 yX0_longestRow := Or.inl (lw_in (i := 506) (by decide +kernel) rfl)
theorem kmX8_167 : LkM RX8 167 yX8_outcomeOfCrossing := Or.inl (lw_in (i := 514) (by decide +kernel) rfl)
theorem kmX8_170 : LkM RX8 170 yX8_tollsBehind := Or.inl (lw_in (i := 522) (by decide +kernel) rfl)
theorem kmX8_173 : LkM RX8 173 yX8_countVisits := Or.inl (lw_in (i := 534) (by decide +kernel) rfl)
theorem kmX8_179 : LkM RX8 179 yX8_freshenPlan := Or.inl (lw_in (i := 542) (by decide +kernel) rfl)
theorem kmX8_188 : LkM RX8 188 yX4_whoAt := Or.inl (lw_in (i := 580) (by decide +kernel) rfl)
theorem kmX8_189 : LkM RX8 189 yX8_gapBehindAll := Or.inl (lw_in (i := 589) (by decide +kernel) rfl)
theorem kmX8_194 : LkM RX8 194 yX0_gapBehind := Or.inl (lw_in (i := 593) (by decide +kernel) rfl)
theorem kmX8_198 : LkM RX8 198 yX6_isPossible := Or.inl (lw_in (i := 602) (by decide +kernel) rfl)
theorem kmX8_202 : LkM RX8 202 yX6_isFull := Or.inl (lw_in (i := 606) (by decide +kernel) rfl)
theorem kmX8_203 : LkM RX8 203 yX6_add := Or.inl (lw_in (i := 610) (by decide +kernel) rfl)
theorem kmX8_208 : LkM RX8 208 yX8_sheetAt := Or.inl (lw_in (i := 623) (by decide +kernel) rfl)
theorem kmX8_215 : LkM RX8 215 yX8_finding := Or.inl (lw_in (i := 627) (by decide +kernel) rfl)
theorem kmX8_219 : LkM RX8 219 yX5_itemAt := Or.inl (lw_in (i := 631) (by decide +kernel) rfl)
theorem kmX8_228 : LkM RX8 228 yX0_firstGap := Or.inl (lw_in (i := 428) (by decide +kernel) rfl)
theorem kmX8_231 : LkM RX8 231 yX8_comesOutAsSeen := Or.inl (lw_in (i := 646) (by decide +kernel) rfl)
theorem kmX8_237 : LkM RX8 237 yX8_spreadChances := Or.inl (lw_in (i := 667) (by decide +kernel) rfl)
theorem kmX8_241 : LkM RX8 241 yX5_renew := Or.inl (lw_in (i := 684) (by decide +kernel) rfl)
theorem kmX8_244 : LkM RX8 244 yX5_findingAt := Or.inl (lw_in (i := 697) (by decide +kernel) rfl)
theorem kmX8_248 : LkM RX8 248 yX5_put := Or.inl (lw_in (i := 701) (by decide +kernel) rfl)
theorem kmX8_255 : LkM RX8 255 yX5_hasItems := Or.inl (lw_in (i := 718) (by decide +kernel) rfl)
theorem kmX8_261 : LkM RX8 261 yJ9_min_7cf53 := Or.inl (lw_in (i := 723) (by decide +kernel) rfl)
theorem kmX8_273 : LkM RX8 273 yX8_count := Or.inl (lw_in (i := 734) (by decide +kernel) rfl)
theorem kmX8_275 : LkM RX8 275 yX8_fault := Or.inl (lw_in (i := 735) (by decide +kernel) rfl)
theorem kmX8_278 : LkM RX8 278 yX8_digestPlanks := Or.inl (lw_in (i := 736) (by decide +kernel) rfl)
theorem kmX8_282 : LkM RX8 282 yX8_digestCrossers := Or.inl (lw_in (i := 742) (by decide +kernel) rfl)
theorem kmX8_285 : LkM RX8 285 yX8_digestCrossings := Or.inl (lw_in (i := 750) (by decide +kernel) rfl)
theorem kmX8_288 : LkM RX8 288 yX8_stuck := Or.inl (lw_in (i := 758) (by decide +kernel) rfl)
theorem kmX8_291 : LkM RX8 291 yX8_worn := Or.inl (lw_in (i := 759) (by decide +kernel) rfl)
theorem kmX8_294 : LkM RX8 294 yX8_order := Or.inl (lw_in (i := 760) (by decide +kernel) rfl)
theorem kmX8_297 : LkM RX8 297 yX8_rule := Or.inl (lw_in (i := 761) (by decide +kernel) rfl)
theorem kmX8_300 : LkM RX8 300 yX8_began := Or.inl (lw_in (i := 762) (by decide +kernel) rfl)
theorem kmX8_303 : LkM RX8 303 yX8_ask := Or.inl (lw_in (i := 763) (by decide +kernel) rfl)
theorem kmX8_306 : LkM RX8 306 yX8_week := Or.inl (lw_in (i := 764) (by decide +kernel) rfl)
theorem kmX8_310 : LkM RX8 310 yX8_plank := Or.inl (lw_in (i := 740) (by decide +kernel) rfl)
theorem kmX8_313 : LkM RX8 313 yX8_maybe := Or.inl (lw_in (i := 741) (by decide +kernel) rfl)
theorem kmX8_317 : LkM RX8 317 yX8_crosser := Or.inl (lw_in (i := 746) (by decide +kernel) rfl)
theorem kmX8_320 : LkM RX8 320 yX8_times := Or.inl (lw_in (i := 747) (by decide +kernel) rfl)
theorem kmX8_323 : LkM RX8 323 yX8_ahead := Or.inl (lw_in (i := 748) (by decide +kernel) rfl)
theorem kmX8_326 : LkM RX8 326 yX8_often := Or.inl (lw_in (i := 749) (by decide +kernel) rfl)
theorem kmX8_329 : LkM RX8 329 yX8_crossing := Or.inl (lw_in (i := 754) (by decide +kernel) rfl)
theorem kmX8_331 : LkM RX8 331 yX8_comes := Or.inl (lw_in (i := 755) (by decide +kernel) rfl)
theorem kmX8_334 : LkM RX8 334 yX8_gap := Or.inl (lw_in (i := 756) (by decide +kernel) rfl)
theorem kmX8_337 : LkM RX8 337 yX8_taken := Or.inl (lw_in (i := 757) (by decide +kernel) rfl)
theorem kmX8_362 : LkM RX8 362 yX7_at := Or.inl (lw_in (i := 353) (by decide +kernel) rfl)
theorem kmX8_364 : LkM RX8 364 yX8_signsFor := Or.inl (lw_in (i := 357) (by decide +kernel) rfl)
theorem kmX8_368 : LkM RX8 368 yX8_placeOf := Or.inl (lw_in (i := 374) (by decide +kernel) rfl)
theorem kmX8_372 : LkM RX8 372 yX8_lengthWithoutFault := Or.inl (lw_in (i := 385) (by decide +kernel) rfl)
theorem kmX8_375 : LkM RX8 375 yX0_take := Or.inl (lw_in (i := 388) (by decide +kernel) rfl)
theorem kmX8_379 : LkM RX8 379 yX2_take := Or.inl (lw_in (i := 405) (by decide +kernel) rfl)
theorem kmX8_380 : LkM RX8 380 yX3_take := Or.inl (lw_in (i := 420) (by decide +kernel) rfl)
theorem kmX8_381 : LkM RX8 381 yX3_follow := Or.inl (lw_in (i := 432) (by decide +kernel) rfl)
theorem kmX8_385 : LkM RX8 385 yX4_make := Or.inl (lw_in (i := 546) (by decide +kernel) rfl)
theorem kmX8_389 : LkM RX8 389 yX6_agreeWith := Or.inl (lw_in (i := 650) (by decide +kernel) rfl)
theorem kmX8_393 : LkM RX8 393 yX8_spreadOver := Or.inl (lw_in (i := 671) (by decide +kernel) rfl)
theorem kmX0_32 : LkM RX0 32 yJ9_min_7cf53 := Or.inl (lw_in (i := 392) (by decide +kernel) rfl)
theorem kmX0_41 : LkM RX0 41 yX7_at := Or.inl (lw_in (i := 395) (by decide +kernel) rfl)
theorem kmX0_47 : LkM RX0 47 yX0_measure := Or.inl (lw_in (i := 396) (by decide +kernel) rfl)
theorem kmX0_51 : LkM RX0 51 yX0_isHole := Or.inl (lw_in (i := 400) (by decide +kernel) rfl)
theorem kmX0_55 : LkM RX0 55 yJ9_max_7cf53 := Or.inl (lw_in (i := 404) (by decide +kernel) rfl)
theorem kmX0_58 : LkM RX0 58 yX8_within := Or.inr ⟨"MiddlePlank", by decide +kernel⟩
theorem kmX0_61 : LkM RX0 61 yX0_hasPlank := Or.inl (lw_in (i := 470) (by decide +kernel) rfl)
theorem kmX0_73 : LkM RX0 73 yX0_outcome := Or.inl (lw_in (i := 450) (by decide +kernel) rfl)
theorem kmX0_80 : LkM RX0 80 yX1_shiftBy := Or.inl (lw_in (i := 454) (by decide +kernel) rfl)
theorem kmX0_87 : LkM RX0 87 yJ9_floorMod_7cf53 := Or.inl (lw_in (i := 458) (by decide +kernel) rfl)
theorem kmX1_9 : LkM RX1 9 yX7_at := Or.inl (lw_in (i := 414) (by decide +kernel) rfl)
theorem kmX1_19 : LkM RX1 19 yX8_placeOf := Or.inr ⟨"MiddlePlank", by decide +kernel⟩
theorem kmX2_18 : LkM RX2 18 yJ9_min_7cf53 := Or.inl (lw_in (i := 409) (by decide +kernel) rfl)
theorem kmX2_28 : LkM RX2 28 yX1_take := Or.inl (lw_in (i := 410) (by decide +kernel) rfl)
theorem kmX2_32 : LkM RX2 32 yX8_within := Or.inr ⟨"MiddlePlank", by decide +kernel⟩
theorem kmX3_15 : LkM RX3 15 yJ9_min_7cf53 := Or.inl (lw_in (i := 424) (by decide +kernel) rfl)
theorem kmX3_25 : LkM RX3 25 yX7_at := Or.inl (lw_in (i := 425) (by decide +kernel) rfl)
theorem kmX3_35 : LkM RX3 35 yX8_placeOf := Or.inr ⟨"MiddlePlank", by decide +kernel⟩
theorem kmX3_39 : LkM RX3 39 yX8_within := Or.inr ⟨"MiddlePlank", by decide +kernel⟩
theorem kmX3_43 : LkM RX3 43 yX3_whoAt := Or.inl (lw_in (i := 436) (by decide +kernel) rfl)
theorem kmX3_46 : LkM RX3 46 yX2_at := Or.inl (lw_in (i := 441) (by decide +kernel) rfl)
theorem kmX3_51 : LkM RX3 51 yX0_gapBehind := Or.inl (lw_in (i := 446) (by decide +kernel) rfl)
theorem kmX4_30 : LkM RX4 30 yJ9_max_7cf53 := Or.inl (lw_in (i := 550) (by decide +kernel) rfl)
theorem kmX4_45 : LkM RX4 45 yX2_at := Or.inl (lw_in (i := 551) (by decide +kernel) rfl)
theorem kmX4_49 : LkM RX4 49 yX4_weigh := Or.inl (lw_in (i := 552) (by decide +kernel) rfl)
theorem kmX4_53 : LkM RX4 53 yX4_findBest := Or.inl (lw_in (i := 559) (by decide +kernel) rfl)
theorem kmX4_56 : LkM RX4 56 yX0_firstGap := Or.inl (lw_in (i := 571) (by decide +kernel) rfl)
theorem kmX4_60 : LkM RX4 60 yX4_followBest := Or.inl (lw_in (i := 572) (by decide +kernel) rfl)
theorem kmX4_64 : LkM RX4 64 yX8_within := Or.inr ⟨"MiddlePlank", by decide +kernel⟩
theorem kmX4_68 : LkM RX4 68 yX0_outcome := Or.inl (lw_in (i := 556) (by decide +kernel) rfl)
theorem kmX4_72 : LkM RX4 72 yX0_toll := Or.inl (lw_in (i := 557) (by decide +kernel) rfl)
theorem kmX4_78 : LkM RX4 78 yX0_gapBehind := Or.inl (lw_in (i := 558) (by decide +kernel) rfl)
theorem kmX4_82 : LkM RX4 82 yX4_bestOf := Or.inl (lw_in (i := 563) (by decide +kernel) rfl)
theorem kmX4_85 : LkM RX4 85 yX4_worthOf := Or.inl (lw_in (i := 567) (by decide +kernel) rfl)
theorem kmX4_95 : LkM RX4 95 yX4_leastOfBest := Or.inl (lw_in (i := 576) (by decide +kernel) rfl)
theorem kmX5_23 : LkM RX5 23 yJ9_min_7cf53 := Or.inl (lw_in (i := 688) (by decide +kernel) rfl)
theorem kmX5_32 : LkM RX5 32 yX5_hasItems := Or.inl (lw_in (i := 635) (by decide +kernel) rfl)
theorem kmX5_36 : LkM RX5 36 yX5_lowestBits := Or.inl (lw_in (i := 705) (by decide +kernel) rfl)
theorem kmX6_18 : LkM RX6 18 yX8_within := Or.inr ⟨"MiddlePlank", by decide +kernel⟩
theorem kmX6_26 : LkM RX6 26 yX6_isFull := Or.inl (lw_in (i := 614) (by decide +kernel) rfl)
theorem kmX7_9 : LkM RX7 9 yJ9_max_7cf53 := Or.inl (lw_in (i := 235) (by decide +kernel) rfl)
theorem kmX7_25 : LkM RX7 25 yX7_isFull := Or.inl (lw_in (i := 337) (by decide +kernel) rfl)
theorem kmL_13 : LkM RL 13 yX8_type := Or.inl (lw_in (i := 318) (by decide +kernel) rfl)
theorem kmL_17 : LkM RL 17 yX9_type := Or.inl (lw_in (i := 905) (by decide +kernel) rfl)
theorem kmL_18 : LkM RL 18 yX8_wipe := Or.inl (lw_in (i := 338) (by decide +kernel) rfl)
theorem kmL_22 : LkM RL 22 yX9_wipe := Or.inl (lw_in (i := 913) (by decide +kernel) rfl)
theorem kmL_23 : LkM RL 23 yX8_undo := Or.inl (lw_in (i := 342) (by decide +kernel) rfl)
theorem kmL_26 : LkM RL 26 yX9_undo := Or.inl (lw_in (i := 917) (by decide +kernel) rfl)
theorem kmL_27 : LkM RL 27 yX8_fault := Or.inl (lw_in (i := 346) (by decide +kernel) rfl)
theorem kmL_30 : LkM RL 30 yX9_fault := Or.inl (lw_in (i := 921) (by decide +kernel) rfl)
theorem kmL_31 : LkM RL 31 yX8_plank := Or.inl (lw_in (i := 377) (by decide +kernel) rfl)
theorem kmL_34 : LkM RL 34 yX9_plank := Or.inl (lw_in (i := 952) (by decide +kernel) rfl)
theorem kmL_35 : LkM RL 35 yX8_crosser := Or.inl (lw_in (i := 471) (by decide +kernel) rfl)
theorem kmL_38 : LkM RL 38 yX9_crosser := Or.inl (lw_in (i := 957) (by decide +kernel) rfl)
theorem kmL_39 : LkM RL 39 yX8_crossing := Or.inl (lw_in (i := 476) (by decide +kernel) rfl)
theorem kmL_42 : LkM RL 42 yX9_crossing := Or.inl (lw_in (i := 965) (by decide +kernel) rfl)
theorem kmL_43 : LkM RL 43 yX8_set := Or.inl (lw_in (i := 481) (by decide +kernel) rfl)
theorem kmL_46 : LkM RL 46 yX9_set := Or.inl (lw_in (i := 970) (by decide +kernel) rfl)
theorem kmL_47 : LkM RL 47 yX8_shift := Or.inl (lw_in (i := 485) (by decide +kernel) rfl)
theorem kmL_50 : LkM RL 50 yX9_shift := Or.inl (lw_in (i := 978) (by decide +kernel) rfl)
theorem kmL_51 : LkM RL 51 yX8_gap := Or.inl (lw_in (i := 489) (by decide +kernel) rfl)
theorem kmL_54 : LkM RL 54 yX9_gap := Or.inl (lw_in (i := 983) (by decide +kernel) rfl)
theorem kmL_55 : LkM RL 55 yX8_comes := Or.inl (lw_in (i := 497) (by decide +kernel) rfl)
theorem kmL_58 : LkM RL 58 yX9_comes := Or.inl (lw_in (i := 1025) (by decide +kernel) rfl)
theorem kmL_59 : LkM RL 59 yX8_times := Or.inl (lw_in (i := 510) (by decide +kernel) rfl)
theorem kmL_62 : LkM RL 62 yX9_times := Or.inl (lw_in (i := 1033) (by decide +kernel) rfl)
theorem kmL_63 : LkM RL 63 yX8_taken := Or.inl (lw_in (i := 518) (by decide +kernel) rfl)
theorem kmL_66 : LkM RL 66 yX9_taken := Or.inl (lw_in (i := 1041) (by decide +kernel) rfl)
theorem kmL_67 : LkM RL 67 yX8_stuck := Or.inl (lw_in (i := 526) (by decide +kernel) rfl)
theorem kmL_71 : LkM RL 71 yX9_stuck := Or.inl (lw_in (i := 1049) (by decide +kernel) rfl)
theorem kmL_72 : LkM RL 72 yX8_worn := Or.inl (lw_in (i := 530) (by decide +kernel) rfl)
theorem kmL_75 : LkM RL 75 yX9_worn := Or.inl (lw_in (i := 1057) (by decide +kernel) rfl)
theorem kmL_76 : LkM RL 76 yX8_order := Or.inl (lw_in (i := 538) (by decide +kernel) rfl)
theorem kmL_79 : LkM RL 79 yX9_order := Or.inl (lw_in (i := 1065) (by decide +kernel) rfl)
theorem kmL_80 : LkM RL 80 yX8_ahead := Or.inl (lw_in (i := 585) (by decide +kernel) rfl)
theorem kmL_83 : LkM RL 83 yX9_ahead := Or.inl (lw_in (i := 1085) (by decide +kernel) rfl)
theorem kmL_84 : LkM RL 84 yX8_often := Or.inl (lw_in (i := 594) (by decide +kernel) rfl)
theorem kmL_87 : LkM RL 87 yX9_often := Or.inl (lw_in (i := 1093) (by decide +kernel) rfl)
theorem kmL_88 : LkM RL 88 yX8_seen := Or.inl (lw_in (i := 598) (by decide +kernel) rfl)
theorem kmL_91 : LkM RL 91 yX9_seen := Or.inl (lw_in (i := 1101) (by decide +kernel) rfl)
theorem kmL_92 : LkM RL 92 yX8_forget := Or.inl (lw_in (i := 615) (by decide +kernel) rfl)
theorem kmL_95 : LkM RL 95 yX9_forget := Or.inl (lw_in (i := 1106) (by decide +kernel) rfl)
theorem kmL_96 : LkM RL 96 yX8_read := Or.inl (lw_in (i := 619) (by decide +kernel) rfl)
theorem kmL_99 : LkM RL 99 yX9_read := Or.inl (lw_in (i := 1110) (by decide +kernel) rfl)
theorem kmL_100 : LkM RL 100 yX8_rule := Or.inl (lw_in (i := 639) (by decide +kernel) rfl)
theorem kmL_103 : LkM RL 103 yX9_rule := Or.inl (lw_in (i := 1115) (by decide +kernel) rfl)
theorem kmL_104 : LkM RL 104 yX8_began := Or.inl (lw_in (i := 654) (by decide +kernel) rfl)
theorem kmL_107 : LkM RL 107 yX9_began := Or.inl (lw_in (i := 1127) (by decide +kernel) rfl)
theorem kmL_108 : LkM RL 108 yX8_ask := Or.inl (lw_in (i := 658) (by decide +kernel) rfl)
theorem kmL_111 : LkM RL 111 yX9_ask := Or.inl (lw_in (i := 1135) (by decide +kernel) rfl)
theorem kmL_112 : LkM RL 112 yX8_maybe := Or.inl (lw_in (i := 662) (by decide +kernel) rfl)
theorem kmL_116 : LkM RL 116 yX9_maybe := Or.inl (lw_in (i := 1143) (by decide +kernel) rfl)
theorem kmL_117 : LkM RL 117 yX8_week := Or.inl (lw_in (i := 675) (by decide +kernel) rfl)
theorem kmL_121 : LkM RL 121 yX9_week := Or.inl (lw_in (i := 1159) (by decide +kernel) rfl)
theorem kmL_122 : LkM RL 122 yX8_sheet := Or.inl (lw_in (i := 680) (by decide +kernel) rfl)
theorem kmL_125 : LkM RL 125 yX9_sheet := Or.inl (lw_in (i := 865) (by decide +kernel) rfl)
theorem kmL_126 : LkM RL 126 yX8_lose := Or.inl (lw_in (i := 689) (by decide +kernel) rfl)
theorem kmL_129 : LkM RL 129 yX9_lose := Or.inl (lw_in (i := 881) (by decide +kernel) rfl)
theorem kmL_130 : LkM RL 130 yX8_lay := Or.inl (lw_in (i := 693) (by decide +kernel) rfl)
theorem kmL_134 : LkM RL 134 yX9_lay := Or.inl (lw_in (i := 885) (by decide +kernel) rfl)
theorem kmL_135 : LkM RL 135 yX8_get := Or.inl (lw_in (i := 709) (by decide +kernel) rfl)
theorem kmL_138 : LkM RL 138 yX9_get := Or.inl (lw_in (i := 896) (by decide +kernel) rfl)
theorem kmL_139 : LkM RL 139 yX8_copy := Or.inl (lw_in (i := 714) (by decide +kernel) rfl)
theorem kmL_143 : LkM RL 143 yX9_copy := Or.inl (lw_in (i := 901) (by decide +kernel) rfl)
theorem kmL_144 : LkM RL 144 yX8_write := Or.inl (lw_in (i := 719) (by decide +kernel) rfl)
theorem kmL_147 : LkM RL 147 yX9_write := Or.inl (lw_in (i := 1173) (by decide +kernel) rfl)
theorem kmL_148 : LkM RL 148 yX8_count := Or.inl (lw_in (i := 724) (by decide +kernel) rfl)
theorem kmL_151 : LkM RL 151 yX9_count := Or.inl (lw_in (i := 1180) (by decide +kernel) rfl)
theorem kmL_152 : LkM RL 152 yX8_digest := Or.inl (lw_in (i := 728) (by decide +kernel) rfl)
theorem kmL_156 : LkM RL 156 yX9_digest := Or.inl (lw_in (i := 1184) (by decide +kernel) rfl)
theorem kmX9_69 : LkM RX9 69 yX9_in := Or.inl (lw_in (i := 873) (by decide +kernel) rfl)
theorem kmX9_79 : LkM RX9 79 yX9_isSheet := Or.inl (lw_in (i := 869) (by decide +kernel) rfl)
theorem kmX9_85 : LkM RX9 85 yX9_finds := Or.inl (lw_in (i := 877) (by decide +kernel) rfl)
theorem kmX9_89 : LkM RX9 89 yX9_lacks := Or.inl (lw_in (i := 889) (by decide +kernel) rfl)
theorem kmX9_93 : LkM RX9 93 yX9_cut := Or.inl (lw_in (i := 893) (by decide +kernel) rfl)
theorem kmX9_98 : LkM RX9 98 yX9_isText := Or.inl (lw_in (i := 909) (by decide +kernel) rfl)
theorem kmX9_106 : LkM RX9 106 yX9_kindOf := Or.inl (lw_in (i := 940) (by decide +kernel) rfl)
theorem kmX9_118 : LkM RX9 118 yX9_crosserOf := Or.inl (lw_in (i := 937) (by decide +kernel) rfl)
theorem kmX9_128 : LkM RX9 128 yX9_readsPlanks := Or.inl (lw_in (i := 929) (by decide +kernel) rfl)
theorem kmX9_132 : LkM RX9 132 yX9_readsCrossers := Or.inl (lw_in (i := 933) (by decide +kernel) rfl)
theorem kmX9_135 : LkM RX9 135 yX9_readsCrossings := Or.inl (lw_in (i := 946) (by decide +kernel) rfl)
theorem kmX9_138 : LkM RX9 138 yX9_readsText := Or.inl (lw_in (i := 925) (by decide +kernel) rfl)
theorem kmX9_143 : LkM RX9 143 yX9_isCrosser := Or.inl (lw_in (i := 961) (by decide +kernel) rfl)
theorem kmX9_148 : LkM RX9 148 yX9_isTwo := Or.inl (lw_in (i := 974) (by decide +kernel) rfl)
theorem kmX9_164 : LkM RX9 164 yX9_isHole := Or.inl (lw_in (i := 1010) (by decide +kernel) rfl)
theorem kmX9_168 : LkM RX9 168 yX9_greater := Or.inl (lw_in (i := 1014) (by decide +kernel) rfl)
theorem kmX9_171 : LkM RX9 171 yX9_looks := Or.inl (lw_in (i := 1006) (by decide +kernel) rfl)
theorem kmX9_175 : LkM RX9 175 yX9_moves := Or.inl (lw_in (i := 1017) (by decide +kernel) rfl)
theorem kmX9_178 : LkM RX9 178 yX9_begins := Or.inl (lw_in (i := 995) (by decide +kernel) rfl)
theorem kmX9_184 : LkM RX9 184 yX9_isIn := Or.inl (lw_in (i := 999) (by decide +kernel) rfl)
theorem kmX9_187 : LkM RX9 187 yX9_tries := Or.inl (lw_in (i := 1002) (by decide +kernel) rfl)
theorem kmX9_190 : LkM RX9 190 yX9_tollOf := Or.inl (lw_in (i := 1021) (by decide +kernel) rfl)
theorem kmX9_193 : LkM RX9 193 yX9_lives := Or.inl (lw_in (i := 991) (by decide +kernel) rfl)
theorem kmX9_196 : LkM RX9 196 yX9_find := Or.inl (lw_in (i := 987) (by decide +kernel) rfl)
theorem kmX9_199 : LkM RX9 199 yX9_comesBy := Or.inl (lw_in (i := 1029) (by decide +kernel) rfl)
theorem kmX9_202 : LkM RX9 202 yX9_timesBy := Or.inl (lw_in (i := 1037) (by decide +kernel) rfl)
theorem kmX9_205 : LkM RX9 205 yX9_takenBy := Or.inl (lw_in (i := 1045) (by decide +kernel) rfl)
theorem kmX9_208 : LkM RX9 208 yX9_stuckNow := Or.inl (lw_in (i := 1053) (by decide +kernel) rfl)
theorem kmX9_211 : LkM RX9 211 yX9_wornNow := Or.inl (lw_in (i := 1061) (by decide +kernel) rfl)
theorem kmX9_220 : LkM RX9 220 yX9_weighs := Or.inl (lw_in (i := 1073) (by decide +kernel) rfl)
theorem kmX9_223 : LkM RX9 223 yX9_nextRow := Or.inl (lw_in (i := 1077) (by decide +kernel) rfl)
theorem kmX9_227 : LkM RX9 227 yX9_findOrder := Or.inl (lw_in (i := 1069) (by decide +kernel) rfl)
theorem kmX9_230 : LkM RX9 230 yX9_orderBy := Or.inl (lw_in (i := 1081) (by decide +kernel) rfl)
theorem kmX9_233 : LkM RX9 233 yX9_aheadOf := Or.inl (lw_in (i := 1089) (by decide +kernel) rfl)
theorem kmX9_236 : LkM RX9 236 yX9_oftenOf := Or.inl (lw_in (i := 1097) (by decide +kernel) rfl)
theorem kmX9_244 : LkM RX9 244 yX9_seen := Or.inl (lw_in (i := 1114) (by decide +kernel) rfl)
theorem kmX9_247 : LkM RX9 247 yX9_isSeen := Or.inl (lw_in (i := 1123) (by decide +kernel) rfl)
theorem kmX9_250 : LkM RX9 250 yX9_ruleOf := Or.inl (lw_in (i := 1119) (by decide +kernel) rfl)
theorem kmX9_253 : LkM RX9 253 yX9_beganNow := Or.inl (lw_in (i := 1131) (by decide +kernel) rfl)
theorem kmX9_256 : LkM RX9 256 yX9_askNow := Or.inl (lw_in (i := 1139) (by decide +kernel) rfl)
theorem kmX9_259 : LkM RX9 259 yX9_part := Or.inl (lw_in (i := 1152) (by decide +kernel) rfl)
theorem kmX9_265 : LkM RX9 265 yX9_maybeOf := Or.inl (lw_in (i := 1148) (by decide +kernel) rfl)
theorem kmX9_269 : LkM RX9 269 yX9_no := Or.inl (lw_in (i := 1155) (by decide +kernel) rfl)
theorem kmX9_277 : LkM RX9 277 yX9_lot := Or.inl (lw_in (i := 1168) (by decide +kernel) rfl)
theorem kmX9_282 : LkM RX9 282 yX9_weekOf := Or.inl (lw_in (i := 1164) (by decide +kernel) rfl)
theorem kmX9_285 : LkM RX9 285 yX9_lesser := Or.inl (lw_in (i := 1177) (by decide +kernel) rfl)
theorem kmX9_290 : LkM RX9 290 yX9_often := Or.inl (lw_in (i := 1196) (by decide +kernel) rfl)
theorem kmX9_295 : LkM RX9 295 yX9_count := Or.inl (lw_in (i := 1190) (by decide +kernel) rfl)
theorem kmX9_298 : LkM RX9 298 yX9_maybe := Or.inl (lw_in (i := 1191) (by decide +kernel) rfl)
theorem kmX9_301 : LkM RX9 301 yX9_tellsCrosser := Or.inl (lw_in (i := 1192) (by decide +kernel) rfl)
theorem kna : Cond.native arraycopyName ∈ lw_g := lw_in (i := 645) (by decide +kernel) rfl
theorem kns : Cond.static arraycopyName ∈ lw_g := lw_in (i := 644) (by decide +kernel) rfl
theorem kni : Cond.initialized "java/lang/System" ∈ lw_g := lw_in (i := 71) (by decide +kernel) rfl
theorem kcX8_222 : Cond.methodLink RX8 222 arraycopyName ∈ lw_g := lw_in (i := 643) (by decide +kernel) rfl
theorem kkX8_235 : Cond.constantLong RX8 235 (-9223372036854775806 : Int64) ∈ lw_g := lw_in (i := 666) (by decide +kernel) rfl
theorem kkX8_240 : Cond.constant RX8 240 (1103515245 : Int32) ∈ lw_g := lw_in (i := 679) (by decide +kernel) rfl
theorem kkX8_251 : Cond.constant RX8 251 (-2147483648 : Int32) ∈ lw_g := lw_in (i := 713) (by decide +kernel) rfl
theorem kkX8_269 : Cond.constantLong RX8 269 (17 : Int64) ∈ lw_g := lw_in (i := 732) (by decide +kernel) rfl
theorem kkX8_271 : Cond.constantLong RX8 271 (31 : Int64) ∈ lw_g := lw_in (i := 733) (by decide +kernel) rfl
theorem kkX9_67 : Cond.constantLong RX9 67 (-9223372036854775808 : Int64) ∈ lw_g := lw_in (i := 1158) (by decide +kernel) rfl
theorem kkX9_77 : Cond.constantLong RX9 77 (3 : Int64) ∈ lw_g := lw_in (i := 872) (by decide +kernel) rfl
theorem kkX9_83 : Cond.constantLong RX9 83 (2 : Int64) ∈ lw_g := lw_in (i := 876) (by decide +kernel) rfl
theorem kkX9_97 : Cond.constant RX9 97 (-2147483648 : Int32) ∈ lw_g := lw_in (i := 900) (by decide +kernel) rfl
theorem kkX9_101 : Cond.constantLong RX9 101 (255 : Int64) ∈ lw_g := lw_in (i := 912) (by decide +kernel) rfl
theorem kkX9_109 : Cond.constantLong RX9 109 (49 : Int64) ∈ lw_g := lw_in (i := 943) (by decide +kernel) rfl
theorem kkX9_111 : Cond.constantLong RX9 111 (57 : Int64) ∈ lw_g := lw_in (i := 944) (by decide +kernel) rfl
theorem kkX9_113 : Cond.constantLong RX9 113 (48 : Int64) ∈ lw_g := lw_in (i := 945) (by decide +kernel) rfl
theorem kkX9_124 : Cond.constantLong RX9 124 (97 : Int64) ∈ lw_g := lw_in (i := 950) (by decide +kernel) rfl
theorem kkX9_126 : Cond.constantLong RX9 126 (104 : Int64) ∈ lw_g := lw_in (i := 951) (by decide +kernel) rfl
theorem kkX9_141 : Cond.constantLong RX9 141 (18 : Int64) ∈ lw_g := lw_in (i := 956) (by decide +kernel) rfl
theorem kkX9_146 : Cond.constantLong RX9 146 (23 : Int64) ∈ lw_g := lw_in (i := 969) (by decide +kernel) rfl
theorem kkX9_151 : Cond.constantLong RX9 151 (9 : Int64) ∈ lw_g := lw_in (i := 977) (by decide +kernel) rfl
theorem kkX9_153 : Cond.constantLong RX9 153 (-9 : Int64) ∈ lw_g := lw_in (i := 982) (by decide +kernel) rfl
theorem kkX9_239 : Cond.constantLong RX9 239 (24 : Int64) ∈ lw_g := lw_in (i := 1105) (by decide +kernel) rfl
theorem kkX9_263 : Cond.constantLong RX9 263 (16 : Int64) ∈ lw_g := lw_in (i := 1147) (by decide +kernel) rfl
theorem kkX9_273 : Cond.constant RX9 273 (1103515245 : Int32) ∈ lw_g := lw_in (i := 1172) (by decide +kernel) rfl
theorem kkX9_280 : Cond.constantLong RX9 280 (99 : Int64) ∈ lw_g := lw_in (i := 1163) (by decide +kernel) rfl
theorem kkX9_288 : Cond.constantLong RX9 288 (31 : Int64) ∈ lw_g := lw_in (i := 1189) (by decide +kernel) rfl
theorem kkX9_293 : Cond.constantLong RX9 293 (17 : Int64) ∈ lw_g := lw_in (i := 1188) (by decide +kernel) rfl
end
section
/-! ===== contracts and calls ===== -/
def Wd (D : va_G) (q : Nat → Nat) (cA : Nat → ClassId) (h : pH) (U : State) : Prop := va_P D vwCl (gw q cA h) U.heap ∧ va_K D vwCl (cxT cA) U ∧ nsK U ∧ inj q ∧ stK D q cA (wA q) U U.heap
def Qd (D : va_G) (q : Nat → Nat) (cA : Nat → ClassId) (h' : pH) (rv : Option Value) : Array Value → State → Outcome → State → Prop := fun _ st oc t => oc = .returned rv ∧ va_P D vwCl (gw q cA h') t.heap ∧ va_F (wA q) st t
def Ctr (l : Launch) (q : Nat → Nat) (y : MethodName) (bytes : ByteArray) (maxL : Nat) (ret : Option FieldType) (fr lc : Nat) (av : List Value) (h h' : pH) (rv : Option Value) : Prop := ∀ (D : va_G) (cA : Nat → ClassId), Met l y (.code y bytes maxL ret :: lw_g) { frames := fr, cells := 0, slots := 0, locals := lc } (va_Pc av (Wd D q cA h)) (Qd D q cA h' rv) 0 0 (wA q)
theorem Wd_blind {D : va_G} {q : Nat → Nat} {cA : Nat → ClassId} {h : pH} {av : List Value} : FrameBlind (va_Pc av (Wd D q cA h)) := fun a U g mk z => by
  obtain ⟨h1, h2, h3, h4, h5, h6⟩ := z
  exact ⟨h1, h2, va_K.moved (u := U) (U := U.calling g mk a) (Vm.Alike.refl U.vm) h3, h4.same rfl, h5, h6.kept (Vm.Alike.refl U.vm) (fun _ _ _ => rfl) (fun _ z => z)⟩
theorem Wd_pre {D : va_G} {q : Nat → Nat} {cA : Nat → ClassId} {h : pH} {av : List Value} {A : Nat → Prop} {s : State} {H : Heap} {locs : List Loc} (hP : va_P D vwCl (gw q cA h) H) (hS : va_S A s.heap H locs) (hns : nsK s) (hK : va_K D vwCl (cxT cA) s) (hij : inj q) (hA : ∀ a, wA q a → A a) (hst : stK D q cA A s s.heap) : ∀ U : State, U.heap = H → s.WarmedH U.vm → va_Pc av (Wd D q cA h) av.toArray U := fun U hU hW =>
  ⟨rfl, by rw [hU]; exact hP, va_K.moved hW.alike hK, hns.warm hW, hij, by rw [hU]; exact hst.kept hW.alike hS.2.1 hA⟩
theorem x_run {p : Program} {l : Launch} {e : Env} {R : Room} {s : State} {m : MethodId} {args : Array Value} {below : List Frame} {meth : Method} {c : Code} {cs : Nat × Nat} {Q : State → Prop} {D : va_G} {q : Nat → Nat} {cA : Nat → ClassId} {A : Nat → Prop} {nL pc : Nat} {lv : List (Nat × Value)} {st rest : List Value} {h' : pH} {rv : Option Value} {H : Heap} {locs : List Loc} {ls : Array Slot} {a : Array Value}
    (hr : va_Run p l e R s m args below meth c H locs cs.1 cs.2 0 0 (F0 m pc ls st) rest (Qd D q cA h' rv a) (wA q)) (hS : va_S A s.heap H locs) (hA : ∀ a, wA q a → A a) (hl : lv_has ls nL lv)
    (k : Wx (p, l, e, R, s, m, args, below, meth, c, cs, Q, D, q, cA, A) nL (pc + 3) lv (rv.toList ++ rest) h') : W p l e R s m args below meth c H locs cs.1 cs.2 Q (F0 m pc ls st) := by
  intro T hT X
  obtain ⟨v, st₀, t, T', L, h0, X', hL, e1, e2, ⟨hv, hb, hz, hk⟩, stp⟩ := hr T hT X
  cases hv
  rw [h0] at hz hk
  have hS' : va_S A s.heap T'.heap (locs ++ L) := ⟨Nat.le_trans hS.1 (by rw [e1]; exact hz), fun x h1 h2 => by rw [e1, hk x (Nat.lt_of_lt_of_le h1 hS.1) (fun z => h2 (hA x z))]; exact hS.2.1 x h1 h2, fun x hx => by
      rcases List.mem_append.mp hx with z | z
      · exact hS.2.2 x z
      · exact hA _ (hL x z)⟩
  obtain ⟨t2, a1, b1⟩ := k T'.heap (locs ++ L) ls (by rw [e1]; exact hb) hS' hl T' rfl X'
  exact ⟨t2, stp t2 a1, b1⟩
theorem x_callV {X : Xt} {cc : ByteArray} {own : String} {nL pc : Nat} {lv : List (Nat × Value)} {st rest As : List Value} {h h' : pH} {idx fr lc maxL n r ci : Nat} {y : MethodName} {bytes : ByteArray} {ret : Option FieldType} {rv : Option Value} (C : Cx X cc own nL) (d : decode cc pc = .ok (.invokevirtual idx, 3)) (L : LkM own idx y) (M : MiV ci y bytes maxL ret n) (hM : Ctr (lo X) (qo X) y bytes maxL ret fr lc (rf (qo X) r :: As) h h' rv) (hst : st = As.reverse ++ rf (qo X) r :: rest) (hn : As.length = n) (hR : fr + 1 ≤ (ro X).frames ∧ 8 + (maxL + 11) + lc ≤ (ro X).locals) (hW : (rest.map fun v => v.category).sum ≤ 8) (hr : isO ci r = true) (k : Wx X nL (pc + 3) lv (rv.toList ++ rest) h') : Wx X nL pc lv st h := by
  obtain ⟨p, l, e, R, s, m, args, below, meth, c, cs, Q, D, q, cA, A⟩ := X
  intro H locs ls hP hS hl
  obtain ⟨hx, hb, hml, hown, hts, hns, hK, hij, hA, hsta, hc1, hc2⟩ := C
  obtain ⟨⟨T, N, m0⟩, m1, m2, m3, m4, m5⟩ := M
  obtain ⟨fs, e1⟩ := isO_of hr
  have hrr := shp_lt (k := r) (by rw [e1]; exact fun z => by cases z)
  have he : (gw q cA h)[r - 1]? = some (q r, .inr (ci, flv q h r fs)) := by rw [gw_at hrr]; simp only [cel, e1]
  have hrec := va_recv hK hP m0 he
  have hG : GoodIn lw_g (Cond.code y bytes maxL ret :: lw_g) := lw_good (fun _ z => z) m1
  have hrm : ({ frames := fr, cells := 0, slots := 0, locals := lc } : Room).frames + 1 ≤ R.frames ∧ 8 + (maxL + 11) + ({ frames := fr, cells := 0, slots := 0, locals := lc } : Room).locals ≤ R.locals := hR
  have hpre := Wd_pre (av := .ref (q r) :: As) hP hS hns hK hij hA hsta
  obtain ⟨r, rfl⟩ : ∃ r', r = r' + 1 := ⟨r - 1, by omega⟩
  rcases L with L | ⟨host, L⟩
  · exact x_run (va_runV (As := As) (rest := rest) ⟨hx, hb, hml, hown, hts⟩ (hM D cA) ⟨callB_of n hts hG rfl rfl rfl (hts _ m2) (hts _ L) m5 hrm, hts _ m3, hts _ m4⟩ ⟨Wd_blind, hrec, hpre⟩ rfl hn hl.1 hst (by show 2 * 0 + _ ≤ 8; omega) d ⟨hc1, hc2⟩) hS hA hl k
  · exact x_run (va_runVN (As := As) (rest := rest) ⟨hx, hb, hml, hown, hts⟩ (hM D cA) ⟨va_cnB n hts hG rfl rfl rfl (hns.2 _ L) (hts _ m2) m5 hrm, hts _ m3, hts _ m4⟩ ⟨Wd_blind, hrec, hpre⟩ rfl hn hl.1 hst (by show 2 * 0 + _ ≤ 8; omega) d ⟨hc1, hc2⟩) hS hA hl k
theorem x_callS {X : Xt} {cc : ByteArray} {own : String} {nL pc : Nat} {lv : List (Nat × Value)} {st rest As : List Value} {h h' : pH} {idx fr lc maxL n : Nat} {y : MethodName} {bytes : ByteArray} {ret : Option FieldType} {rv : Option Value} (C : Cx X cc own nL) (d : decode cc pc = .ok (.invokestatic idx, 3)) (L : LkM own idx y) (M : MiS y bytes maxL ret n) (hM : Ctr (lo X) (qo X) y bytes maxL ret fr lc As h h' rv) (hst : st = As.reverse ++ rest) (hn : As.length = n) (hR : fr + 1 ≤ (ro X).frames ∧ 8 + (maxL + 11) + lc ≤ (ro X).locals) (hW : (rest.map fun v => v.category).sum ≤ 8) (k : Wx X nL (pc + 3) lv (rv.toList ++ rest) h') : Wx X nL pc lv st h := by
  obtain ⟨p, l, e, R, s, m, args, below, meth, c, cs, Q, D, q, cA, A⟩ := X
  intro H locs ls hP hS hl
  obtain ⟨hx, hb, hml, hown, hts, hns, hK, hij, hA, hsta, hc1, hc2⟩ := C
  obtain ⟨m1, m2, m3, m5⟩ := M
  have hG : GoodIn lw_g (Cond.code y bytes maxL ret :: lw_g) := lw_good (fun _ z => z) m1
  have hrm : ({ frames := fr, cells := 0, slots := 0, locals := lc } : Room).frames + 1 ≤ R.frames ∧ 8 + (maxL + 11) + ({ frames := fr, cells := 0, slots := 0, locals := lc } : Room).locals ≤ R.locals := hR
  have hpre := Wd_pre (av := As) hP hS hns hK hij hA hsta
  rcases L with L | ⟨host, L⟩
  · exact x_run (va_runS (As := As) (rest := rest) ⟨hx, hb, hml, hown, hts⟩ (hM D cA) ⟨callB_of n hts hG rfl rfl rfl (hts _ m2) (hts _ L) m5 hrm, hts _ m3⟩ ⟨Wd_blind, hpre⟩ rfl hn hl.1 hst (by show 2 * 0 + _ ≤ 8; omega) d ⟨hc1, hc2⟩) hS hA hl k
  · exact x_run (va_runSN (As := As) (rest := rest) ⟨hx, hb, hml, hown, hts⟩ (hM D cA) ⟨va_cnB n hts hG rfl rfl rfl (hns.2 _ L) (hts _ m2) m5 hrm, hts _ m3, trivial⟩ ⟨Wd_blind, hpre⟩ rfl hn hl.1 hst (by show 2 * 0 + _ ≤ 8; omega) d ⟨hc1, hc2⟩) hS hA hl k
/-! ===== a method's own end ===== -/
def RtX (X : Xt) (cc : ByteArray) (nL : Nat) (ret : Option FieldType) (rv : Option Value) (h' : pH) : Prop :=
  (∀ v rt, rv = some (.int v) → ret = some rt → narrow rt (.int v) = .int v → ∀ pc lv, decode cc pc = .ok (.ireturn, 1) → Wx X nL pc lv [.int v] h') ∧
  (∀ v, rv = some (.long v) → ret = some .long → ∀ pc lv, decode cc pc = .ok (.lreturn, 1) → Wx X nL pc lv [.long v] h') ∧
  (∀ r n, rv = some (rf (qo X) r) → ret = some (.object n) → ∀ pc lv, decode cc pc = .ok (.areturn, 1) → Wx X nL pc lv [rf (qo X) r] h') ∧
  (∀ r t, rv = some (rf (qo X) r) → ret = some (.array t) → ∀ pc lv, decode cc pc = .ok (.areturn, 1) → Wx X nL pc lv [rf (qo X) r] h') ∧
  (rv = none → ret = none → ∀ pc lv, decode cc pc = .ok (.return_, 1) → Wx X nL pc lv [] h')
def Bd (l : Launch) (q : Nat → Nat) (cc : ByteArray) (own : String) (nL : Nat) (ret : Option FieldType) (fr lc : Nat) (rv : Option Value) (h' : pH) (X : Xt) : Prop := Cx X cc own nL ∧ qo X = q ∧ lo X = l ∧ fr ≤ (ro X).frames ∧ lc ≤ (ro X).locals ∧ RtX X cc nL ret rv h'
theorem Met_ofWF {l : Launch} {y : MethodName} {ws ws' : List Cond} {rm : Room} {Pc : Array Value → State → Prop} {Qc : Array Value → State → Outcome → State → Prop} {mc ms : Nat} {free : Addr → Prop} {cc : ByteArray} {maxL : Nat} {ret : Option FieldType}
    (hy : plainFor y = true) (hw : ws = Cond.code y cc maxL ret :: ws')
    (body : ∀ p e s m args below meth c s₁, BodyLoose p l y (headSpec ws rm) cc maxL ret e s m args below meth c s₁ → c.maxLocals = maxL → Pc args s →
      W p l e (headSpec ws rm).room s m args below meth c s.heap [] 0 0 (MQ below Qc args s mc ms free) (entryFrame m args maxL)) : Met l y ws rm Pc Qc mc ms free := by
  refine MetFree.of_bodySF (code := cc) (maxLocals := maxL) (ret := ret) hy ?_ ?_
  · intro args s m h hn
    obtain ⟨meth, c, h1, h2, h3, h4, h5, h6, -, -⟩ := Cond.code_spec hn (atoms_spec (ws := ws) h _ (by rw [hw]; exact List.mem_cons_self))
    exact ⟨meth, c, h1, h2, h3, h4, h5, h6⟩
  · intro p e s m args below meth c s₁ B hml hP _
    have hh0 : s₁.heap = s.heap := by rw [B.state]; rfl
    obtain ⟨t, a1, o, b1, b2, b3⟩ := body p e s m args below meth c s₁ B hml hP s₁ hh0 (Stand.of_body B)
    exact ⟨t, o, a1, b1, b2, ⟨b3.1, b3.2⟩⟩
theorem cat_i (x : Int32) : (Value.int x).category = 1 := rfl
theorem cat_l (x : Int64) : (Value.long x).category = 2 := rfl
theorem ct_of {l : Launch} {q : Nat → Nat} {y : MethodName} {cc : ByteArray} {own : String} {maxL : Nat} {ret : Option FieldType} {fr lc : Nat} {av : List Value} {lv : List (Nat × Value)} {h h' : pH} {rv : Option Value} (hy : plainFor y = true) (hown : y.cls = own) (hlen : (lg_sl av).length ≤ maxL) (hlv : lv_args 0 av = lv) (body : ∀ X : Xt, Bd l q cc own maxL ret fr lc rv h' X → Wx X maxL 0 lv [] h) : Ctr l q y cc maxL ret fr lc av h h' rv := by
  subst hown
  subst hlv
  intro D cA
  refine Met_ofWF (cc := cc) (maxL := maxL) (ret := ret) hy rfl ?_
  intro p e s m args below meth c s₁ B hml hv
  obtain ⟨rfl, hP, hK, hns, hij, hst⟩ := hv
  have hx := B.exec
  have hb := B.bytes
  have hr := B.returns
  have hts0 := atoms_spec (ws := Cond.code y cc maxL ret :: lw_g) B.pre
  have hts : ∀ w ∈ lw_g, w.before av.toArray s = true := fun w hw => hts0 w (List.mem_cons_of_mem _ hw)
  have hown : s.vm.findClass y.cls = some m.cls := findClass_of_methodNamed B.named
  have hlocks := B.notSynchronized
  have hl := lv_entry av (n := maxL) hlen
  rw [lg_entry_eq]
  refine body (p, l, e, { frames := fr, cells := 0, slots := 0, locals := lc }, s, m, av.toArray, below, meth, c, (0, 0), MQ below (Qd D q cA h' rv) av.toArray s 0 0 (wA q), D, q, cA, wA q) ⟨⟨hx, hb, hml, hown, hts, hns, hK, hij, fun _ z => z, hst, Nat.le_refl _, Nat.le_refl _⟩, rfl, rfl, Nat.le_refl _, Nat.le_refl _, ?_, ?_, ?_, ?_, ?_⟩ s.heap [] _ hP va_S.rf hl
  · intro v rt e1 e2 hn pc lv d H locs ls hP hS hl
    subst e1
    exact W.zret hx hb (by rw [hr, e2]) hn (fun t ht hW => ⟨rfl, by rw [ht]; exact hP, hS.F ht⟩) hS.2.2 d
  · intro v e1 e2 pc lv d H locs ls hP hS hl
    subst e1
    exact W.lret hx hb (by rw [hr, e2]) (fun t ht hW => ⟨rfl, by rw [ht]; exact hP, hS.F ht⟩) hS.2.2 d
  · intro r n e1 e2 pc lv d H locs ls hP hS hl
    have e1 : rv = some (rf q r) := e1
    exact W.aret (v := rf q r) hx hb (by rw [hr, e2]) (Or.inl ⟨n, rfl⟩) (by cases r with
      | zero => exact Or.inl rfl
      | succ r => exact Or.inr ⟨_, rfl⟩) (fun t ht hW => ⟨by rw [e1], by rw [ht]; exact hP, hS.F ht⟩) hS.2.2 d
  · intro r t2 e1 e2 pc lv d H locs ls hP hS hl
    have e1 : rv = some (rf q r) := e1
    exact W.aret (v := rf q r) hx hb (by rw [hr, e2]) (Or.inr ⟨t2, rfl⟩) (by cases r with
      | zero => exact Or.inl rfl
      | succ r => exact Or.inr ⟨_, rfl⟩) (fun t ht hW => ⟨by rw [e1], by rw [ht]; exact hP, hS.F ht⟩) hS.2.2 d
  · intro e1 e2 pc lv d H locs ls hP hS hl
    subst e1
    exact W.vret hx hb (by rw [hr, e2]) (fun t ht hW => ⟨rfl, by rw [ht]; exact hP, hS.F ht⟩) hS.2.2 d
/-! ===== small helps for the walks ===== -/
theorem ife {α : Type} {c : Prop} [Decidable c] {x : Option α} {r : α} (h : (if c then x else none) = some r) : c ∧ x = some r := by
  by_cases hc : c
  · rw [if_pos hc] at h; exact ⟨hc, h⟩
  · rw [if_neg hc] at h; cases h
theorem bnd {α β : Type} {x : Option α} {f : α → Option β} {r : β} (h : x.bind f = some r) : ∃ a, x = some a ∧ f a = some r := Option.bind_eq_some_iff.mp h
theorem nrB {v : Int32} (h : v = 0 ∨ v = 1) : narrow .boolean (.int v) = .int v := by rcases h with rfl | rfl <;> rfl
end
section
theorem x_ixor {X : Xt} {cc : ByteArray} {own : String} {nL pc : Nat} {lv : List (Nat × Value)} {rest : List Value} {h : pH} {x y : Int32} (C : Cx X cc own nL) (d : decode cc pc = .ok (.ixor, 1)) (k : Wx X nL (pc + 1) lv (.int (x ^^^ y) :: rest) h) : Wx X nL pc lv (.int y :: .int x :: rest) h := by
  obtain ⟨p, l, e, R, s, m, args, below, meth, c, cs, Q, D, q, cA, A⟩ := X
  intro H locs ls hP hS hl
  exact lv_ixor C.1 C.2.1 d (k H locs ls hP hS hl)
theorem x_tabIn {X : Xt} {cc : ByteArray} {own : String} {nL pc : Nat} {lv : List (Nat × Value)} {rest : List Value} {h : pH} {x w : Int32} {dflt lo hi off : Int} {offs : Array Int} {len tgt : Nat} (C : Cx X cc own nL) (d : decode cc pc = .ok (.tableswitch dflt lo hi offs, len)) (hx : x = w) (h1 : ¬ w.toInt < lo) (h2 : ¬ hi < w.toInt) (ho : offs[(w.toInt - lo).toNat]? = some off) (ht : (pc : Int) + off = (tgt : Int)) (k : Wx X nL tgt lv rest h) : Wx X nL pc lv (.int x :: rest) h := by
  obtain ⟨p, l, e, R, s, m, args, below, meth, c, cs, Q, D, q, cA, A⟩ := X
  intro H locs ls hP hS hl
  subst hx
  exact lv_tableIn C.1 C.2.1 d h1 h2 ho ht (k H locs ls hP hS hl)
theorem tab_out {n : Nat} {x : Int32} (hn : n < 2 ^ 31) (h : ∀ i, i < n → ¬ x = Int32.ofNat i) : x.toInt < 0 ∨ (n : Int) - 1 < x.toInt := by
  rcases Int.lt_or_le x.toInt 0 with q | q
  · exact Or.inl q
  · rcases Int.lt_or_le ((n : Int) - 1) x.toInt with q2 | q2
    · exact Or.inr q2
    · refine absurd ?_ (h x.toInt.toNat (by omega))
      have hx := nI_toInt (n := x.toInt.toNat) (by omega)
      exact Int32.toInt_inj.mp (by rw [show (Int32.ofNat x.toInt.toNat).toInt = (x.toInt.toNat : Int) from hx]; omega)
theorem x_tabOut {X : Xt} {cc : ByteArray} {own : String} {nL pc : Nat} {lv : List (Nat × Value)} {rest : List Value} {h : pH} {x : Int32} {dflt hi : Int} {offs : Array Int} {len tgt : Nat} {n : Nat} (C : Cx X cc own nL) (d : decode cc pc = .ok (.tableswitch dflt 0 hi offs, len)) (hx : ∀ i, i < n → ¬ x = Int32.ofNat i) (ht : n < 2 ^ 31 ∧ hi = (n : Int) - 1 ∧ (pc : Int) + dflt = (tgt : Int)) (k : Wx X nL tgt lv rest h) : Wx X nL pc lv (.int x :: rest) h := by
  obtain ⟨p, l, e, R, s, m, args, below, meth, c, cs, Q, D, q, cA, A⟩ := X
  intro H locs ls hP hS hl
  exact lv_tableOut C.1 C.2.1 d (by rw [ht.2.1]; exact tab_out ht.1 hx) ht.2.2 (k H locs ls hP hS hl)
theorem lk_out {x : Int32} {a b : Int} {d : Int} (hab : a = 26 ∧ b = 34) (h0 : ¬ x = 0) (h1 : ¬ x = 1) : Op.lookupswitch.offset [(0, a), (1, b)] d x.toInt = d := by
  have e0 : ¬ x.toInt = 0 := fun z => h0 (Int32.toInt_inj.mp z)
  have e1 : ¬ x.toInt = 1 := fun z => h1 (Int32.toInt_inj.mp z)
  simp [Op.lookupswitch.offset, List.find?, e0, e1, Ne.symm e0, Ne.symm e1]
end
section
def fX8_within_b15 (N : Nat) (h : pH) (xs0 : Int32) : Option (Int32 × pH) :=
  if xs0 = 0 ∨ xs0 = 1 then (some (xs0, h)) else none
set_option maxRecDepth 100000 in
set_option maxHeartbeats 4000000 in
theorem tX8_within_b15 {X : Xt} {v : Int32} {h' : pH} (N : Nat) (h : pH) (xs0 : Int32) (B : Bd (lo X) (qo X) cX8_within RX8 3 (some .boolean) 0 0 (some (.int v)) h' X) (hf : fX8_within_b15 N h xs0 = some (v, h')) : Wx X 3 15 [] [.int xs0] h := by
  have C := B.1
  unfold fX8_within_b15 at hf
  obtain ⟨g1, hf⟩ := ife hf
  cases hf
  exact B.2.2.2.2.2.1 _ _ rfl rfl (nrB g1) _ _ dX8_within_15
def fX8_within_b14 (N : Nat) (h : pH)  : Option (Int32 × pH) :=
  fX8_within_b15 N h 0
set_option maxRecDepth 100000 in
set_option maxHeartbeats 4000000 in
theorem tX8_within_b14 {X : Xt} {v : Int32} {h' : pH} (N : Nat) (h : pH)  (B : Bd (lo X) (qo X) cX8_within RX8 3 (some .boolean) 0 0 (some (.int v)) h' X) (hf : fX8_within_b14 N h  = some (v, h')) : Wx X 3 14 [] [] h := by
  have C := B.1
  unfold fX8_within_b14 at hf
  refine x_iconst (v := 0) C dX8_within_14 (by decide) ?_
  exact tX8_within_b15 N h 0 B hf
def fX8_within (N : Nat) (h : pH) (x0 : Int32) (x1 : Int32) (x2 : Int32) : Option (Int32 × pH) :=
  if x0 < x1 then (fX8_within_b14 N h) else (if x2 < x0 then (fX8_within_b14 N h) else (fX8_within_b15 N h 1))
set_option maxRecDepth 100000 in
set_option maxHeartbeats 4000000 in
theorem tX8_within {X : Xt} {v : Int32} {h' : pH} (N : Nat) (h : pH) (x0 : Int32) (x1 : Int32) (x2 : Int32) (B : Bd (lo X) (qo X) cX8_within RX8 3 (some .boolean) 0 0 (some (.int v)) h' X) (hf : fX8_within N h x0 x1 x2 = some (v, h')) : Wx X 3 0 [(0, .int x0), (1, .int x1), (2, .int x2)] [] h := by
  have C := B.1
  unfold fX8_within at hf
  refine x_iload_n (i := 0) 0 C dX8_within_0 rfl rfl ?_
  refine x_iload_n (i := 1) 1 C dX8_within_1 rfl rfl ?_
  refine x_icmp_lt (tgt := 14) C dX8_within_2 (by decide) (fun c => ?_) (fun c => ?_)
  · rw [if_pos c] at hf
    refine x_lv [] rfl ?_
    exact tX8_within_b14 N h B hf
  · rw [if_neg c] at hf
    refine x_iload_n (i := 0) 0 C dX8_within_5 rfl rfl ?_
    refine x_iload_n (i := 2) 2 C dX8_within_6 rfl rfl ?_
    refine x_icmp_gt (tgt := 14) C dX8_within_7 (by decide) (fun c => ?_) (fun c => ?_)
    · rw [if_pos c] at hf
      refine x_lv [] rfl ?_
      exact tX8_within_b14 N h B hf
    · rw [if_neg c] at hf
      refine x_iconst (v := 1) C dX8_within_10 (by decide) ?_
      refine x_goto (tgt := 15) C dX8_within_11 (by decide) ?_
      refine x_lv [] rfl ?_
      exact tX8_within_b15 N h 1 B hf
theorem ctX8_within (l : Launch) (q : Nat → Nat) (N : Nat) (h : pH) (x0 : Int32) (x1 : Int32) (x2 : Int32) (v : Int32) (h' : pH) (hf : fX8_within N h x0 x1 x2 = some (v, h')) : Ctr l q yX8_within cX8_within 3 (some .boolean) 0 0 [.int x0, .int x1, .int x2] h h' (some (.int v)) := by
  refine ct_of (own := RX8) (lv := [(0, .int x0), (1, .int x1), (2, .int x2)]) (by decide +kernel) rfl (by simp [lg_sl, rf_cat, cat_i, cat_l]) (by first | rfl | simp [lv_args, rf_cat, cat_i, cat_l]) ?_
  intro X B
  obtain rfl := B.2.1
  obtain rfl := B.2.2.1
  exact tX8_within N h x0 x1 x2 B hf
def fJ9_floorMod_7cf53_b18 (N : Nat) (h : pH) (x2 : Int32) : Option (Int32 × pH) :=
  some (x2, h)
set_option maxRecDepth 100000 in
set_option maxHeartbeats 4000000 in
theorem tJ9_floorMod_7cf53_b18 {X : Xt} {v : Int32} {h' : pH} (N : Nat) (h : pH) (x2 : Int32) (B : Bd (lo X) (qo X) cJ9_floorMod_7cf53 RJ9 3 (some .int) 0 0 (some (.int v)) h' X) (hf : fJ9_floorMod_7cf53_b18 N h x2 = some (v, h')) : Wx X 3 18 [(2, .int x2)] [] h := by
  have C := B.1
  unfold fJ9_floorMod_7cf53_b18 at hf
  refine x_iload_n (i := 2) 0 C dJ9_floorMod_7cf53_18 rfl rfl ?_
  cases hf
  exact B.2.2.2.2.2.1 _ _ rfl rfl rfl _ _ dJ9_floorMod_7cf53_19
def fJ9_floorMod_7cf53 (N : Nat) (h : pH) (x0 : Int32) (x1 : Int32) : Option (Int32 × pH) :=
  if ¬ x1 = 0 then (if 0 ≤ (x0 ^^^ x1) then (fJ9_floorMod_7cf53_b18 N h (x0 - x0 / x1 * x1)) else (if (x0 - x0 / x1 * x1) = 0 then (fJ9_floorMod_7cf53_b18 N h (x0 - x0 / x1 * x1)) else (some ((x0 - x0 / x1 * x1) + x1, h)))) else none
set_option maxRecDepth 100000 in
set_option maxHeartbeats 4000000 in
theorem tJ9_floorMod_7cf53 {X : Xt} {v : Int32} {h' : pH} (N : Nat) (h : pH) (x0 : Int32) (x1 : Int32) (B : Bd (lo X) (qo X) cJ9_floorMod_7cf53 RJ9 3 (some .int) 0 0 (some (.int v)) h' X) (hf : fJ9_floorMod_7cf53 N h x0 x1 = some (v, h')) : Wx X 3 0 [(0, .int x0), (1, .int x1)] [] h := by
  have C := B.1
  unfold fJ9_floorMod_7cf53 at hf
  refine x_iload_n (i := 0) 0 C dJ9_floorMod_7cf53_0 rfl rfl ?_
  refine x_iload_n (i := 1) 1 C dJ9_floorMod_7cf53_1 rfl rfl ?_
  obtain ⟨g1, hf⟩ := ife hf
  refine x_irem C dJ9_floorMod_7cf53_2 g1 ?_
  refine x_istore_n (i := 2) (lv' := [(2, .int (x0 - x0 / x1 * x1)), (0, .int x0), (1, .int x1)]) C dJ9_floorMod_7cf53_3 rfl (by decide) rfl ?_
  refine x_iload_n (i := 0) 1 C dJ9_floorMod_7cf53_4 rfl rfl ?_
  refine x_iload_n (i := 1) 2 C dJ9_floorMod_7cf53_5 rfl rfl ?_
  refine x_ixor C dJ9_floorMod_7cf53_6 ?_
  refine x_if_ge (tgt := 18) C dJ9_floorMod_7cf53_7 (by decide) (fun c => ?_) (fun c => ?_)
  · rw [if_pos c] at hf
    refine x_lv [0] rfl ?_
    exact tJ9_floorMod_7cf53_b18 N h (x0 - x0 / x1 * x1) B hf
  · rw [if_neg c] at hf
    refine x_iload_n (i := 2) 0 C dJ9_floorMod_7cf53_10 rfl rfl ?_
    refine x_if_eq (tgt := 18) C dJ9_floorMod_7cf53_11 (by decide) (fun c => ?_) (fun c => ?_)
    · rw [if_pos c] at hf
      refine x_lv [0] rfl ?_
      exact tJ9_floorMod_7cf53_b18 N h (x0 - x0 / x1 * x1) B hf
    · rw [if_neg c] at hf
      refine x_iload_n (i := 2) 0 C dJ9_floorMod_7cf53_14 rfl rfl ?_
      refine x_iload_n (i := 1) 2 C dJ9_floorMod_7cf53_15 rfl rfl ?_
      refine x_iadd C dJ9_floorMod_7cf53_16 ?_
      cases hf
      exact B.2.2.2.2.2.1 _ _ rfl rfl rfl _ _ dJ9_floorMod_7cf53_17
theorem ctJ9_floorMod_7cf53 (l : Launch) (q : Nat → Nat) (N : Nat) (h : pH) (x0 : Int32) (x1 : Int32) (v : Int32) (h' : pH) (hf : fJ9_floorMod_7cf53 N h x0 x1 = some (v, h')) : Ctr l q yJ9_floorMod_7cf53 cJ9_floorMod_7cf53 3 (some .int) 0 0 [.int x0, .int x1] h h' (some (.int v)) := by
  refine ct_of (own := RJ9) (lv := [(0, .int x0), (1, .int x1)]) (by decide +kernel) rfl (by simp [lg_sl, rf_cat, cat_i, cat_l]) (by first | rfl | simp [lv_args, rf_cat, cat_i, cat_l]) ?_
  intro X B
  obtain rfl := B.2.1
  obtain rfl := B.2.2.1
  exact tJ9_floorMod_7cf53 N h x0 x1 B hf
def fX2_at_b24 (N : Nat) (h : pH) (rs0 : Nat) : Option (Nat × pH) :=
  some (rs0, h)
set_option maxRecDepth 100000 in
set_option maxHeartbeats 4000000 in
theorem tX2_at_b24 {X : Xt} {v : Nat} {h' : pH} (N : Nat) (h : pH) (rs0 : Nat) (B : Bd (lo X) (qo X) cX2_at RX2 2 (some (.object "MiddlePlank$Crosser")) 1 22 (some (rf (qo X) v)) h' X) (hf : fX2_at_b24 N h rs0 = some (v, h')) : Wx X 2 24 [] [rf (qo X) rs0] h := by
  have C := B.1
  unfold fX2_at_b24 at hf
  cases hf
  exact B.2.2.2.2.2.2.2.1 _ _ rfl rfl _ _ dX2_at_24
def fX2_at (N : Nat) (h : pH) (x1 : Int32) : Option (Nat × pH) :=
  (fX8_within N h x1 0 ((h.1 14 1) - 1)).bind fun z1 => (if z1.1 = 0 then (fX2_at_b24 N z1.2 0) else (if ix x1 8 = true then (fX2_at_b24 N z1.2 (aE 15 x1.toNatClampNeg)) else none))
set_option maxRecDepth 100000 in
set_option maxHeartbeats 4000000 in
theorem tX2_at {X : Xt} {v : Nat} {h' : pH} (N : Nat) (h : pH) (x1 : Int32) (B : Bd (lo X) (qo X) cX2_at RX2 2 (some (.object "MiddlePlank$Crosser")) 1 22 (some (rf (qo X) v)) h' X) (hf : fX2_at N h x1 = some (v, h')) : Wx X 2 0 [(0, rf (qo X) 14), (1, .int x1)] [] h := by
  have C := B.1
  unfold fX2_at at hf
  refine x_iload_n (i := 1) 1 C dX2_at_0 rfl rfl ?_
  refine x_iconst (v := 0) C dX2_at_1 (by decide) ?_
  refine x_aload_n (i := 0) 0 C dX2_at_2 rfl rfl ?_
  refine x_getI (r := 14) C dX2_at_3 kfX2_24 rfl ?_
  refine x_iconst (v := 1) C dX2_at_6 (by decide) ?_
  refine x_isub C dX2_at_7 ?_
  obtain ⟨z1, e1, hf⟩ := bnd hf
  refine x_callS (As := [.int x1, .int 0, .int ((h.1 14 1) - 1)]) (rest := []) C dX2_at_8 kmX2_32 miX8_within (ctX8_within (lo X) (qo X) N h x1 0 ((h.1 14 1) - 1) z1.1 z1.2 e1) rfl rfl ⟨Nat.le_trans (by decide) B.2.2.2.1, Nat.le_trans (by decide) B.2.2.2.2.1⟩ (by simp [cat_i, cat_l, rf_cat]) ?_
  refine x_if_eq (tgt := 23) C dX2_at_11 (by decide) (fun c => ?_) (fun c => ?_)
  · rw [if_pos c] at hf
    refine x_null C dX2_at_23 ?_
    refine x_lv [] rfl ?_
    exact tX2_at_b24 N z1.2 0 B hf
  · rw [if_neg c] at hf
    refine x_aload_n (i := 0) 0 C dX2_at_14 rfl rfl ?_
    refine x_getR (r := 14) (r2 := 15) C dX2_at_15 kfX2_11 rfl rfl (by decide) ?_
    refine x_iload_n (i := 1) 1 C dX2_at_18 rfl rfl ?_
    obtain ⟨g1, hf⟩ := ife hf
    refine x_aald5 (r := 15) C dX2_at_19 rfl g1 ?_
    refine x_goto (tgt := 24) C dX2_at_20 (by decide) ?_
    refine x_lv [] rfl ?_
    exact tX2_at_b24 N z1.2 (aE 15 x1.toNatClampNeg) B hf
theorem ctX2_at (l : Launch) (q : Nat → Nat) (N : Nat) (h : pH) (x1 : Int32) (v : Nat) (h' : pH) (hf : fX2_at N h x1 = some (v, h')) : Ctr l q yX2_at cX2_at 2 (some (.object "MiddlePlank$Crosser")) 1 22 [rf q 14, .int x1] h h' (some (rf q v)) := by
  refine ct_of (own := RX2) (lv := [(0, rf q 14), (1, .int x1)]) (by decide +kernel) rfl (by simp [lg_sl, rf_cat, cat_i, cat_l]) (by first | rfl | simp [lv_args, rf_cat, cat_i, cat_l]) ?_
  intro X B
  obtain rfl := B.2.1
  obtain rfl := B.2.2.1
  exact tX2_at N h x1 B hf
def fX7_isFull_b17 (N : Nat) (h : pH) (xs0 : Int32) : Option (Int32 × pH) :=
  if xs0 = 0 ∨ xs0 = 1 then (some (xs0, h)) else none
set_option maxRecDepth 100000 in
set_option maxHeartbeats 4000000 in
theorem tX7_isFull_b17 {X : Xt} {v : Int32} {h' : pH} (N : Nat) (h : pH) (xs0 : Int32) (B : Bd (lo X) (qo X) cX7_isFull RX7 1 (some .boolean) 0 0 (some (.int v)) h' X) (hf : fX7_isFull_b17 N h xs0 = some (v, h')) : Wx X 1 17 [] [.int xs0] h := by
  have C := B.1
  unfold fX7_isFull_b17 at hf
  obtain ⟨g1, hf⟩ := ife hf
  cases hf
  exact B.2.2.2.2.2.1 _ _ rfl rfl (nrB g1) _ _ dX7_isFull_17
def fX7_isFull (N : Nat) (h : pH) (r0 : Nat) : Option (Int32 × pH) :=
  if fI 7 1 r0 = true then (if isO 7 r0 = true ∧ ¬ fR r0 0 = 0 then (if aK (fR r0 0) = 0 then (if (h.1 r0 1) < (Int32.ofNat (aN (fR r0 0))) then (fX7_isFull_b17 N h 0) else (fX7_isFull_b17 N h 1)) else none) else none) else none
set_option maxRecDepth 100000 in
set_option maxHeartbeats 4000000 in
theorem tX7_isFull {X : Xt} {v : Int32} {h' : pH} (N : Nat) (h : pH) (r0 : Nat) (B : Bd (lo X) (qo X) cX7_isFull RX7 1 (some .boolean) 0 0 (some (.int v)) h' X) (hf : fX7_isFull N h r0 = some (v, h')) : Wx X 1 0 [(0, rf (qo X) r0)] [] h := by
  have C := B.1
  unfold fX7_isFull at hf
  refine x_aload_n (i := 0) 0 C dX7_isFull_0 rfl rfl ?_
  obtain ⟨g1, hf⟩ := ife hf
  refine x_getI (r := r0) C dX7_isFull_1 kfX7_21 g1 ?_
  refine x_aload_n (i := 0) 0 C dX7_isFull_4 rfl rfl ?_
  obtain ⟨g2, hf⟩ := ife hf
  refine x_getR (r := r0) C dX7_isFull_5 kfX7_15 g2.1 rfl g2.2 ?_
  obtain ⟨g3, hf⟩ := ife hf
  refine x_alen0 (r := (fR r0 0)) C dX7_isFull_8 g3 rfl ?_
  refine x_icmp_lt (tgt := 16) C dX7_isFull_9 (by decide) (fun c => ?_) (fun c => ?_)
  · rw [if_pos c] at hf
    refine x_iconst (v := 0) C dX7_isFull_16 (by decide) ?_
    refine x_lv [] rfl ?_
    exact tX7_isFull_b17 N h 0 B hf
  · rw [if_neg c] at hf
    refine x_iconst (v := 1) C dX7_isFull_12 (by decide) ?_
    refine x_goto (tgt := 17) C dX7_isFull_13 (by decide) ?_
    refine x_lv [] rfl ?_
    exact tX7_isFull_b17 N h 1 B hf
theorem ctX7_isFull (l : Launch) (q : Nat → Nat) (N : Nat) (h : pH) (r0 : Nat) (v : Int32) (h' : pH) (hf : fX7_isFull N h r0 = some (v, h')) : Ctr l q yX7_isFull cX7_isFull 1 (some .boolean) 0 0 [rf q r0] h h' (some (.int v)) := by
  refine ct_of (own := RX7) (lv := [(0, rf q r0)]) (by decide +kernel) rfl (by simp [lg_sl, rf_cat, cat_i, cat_l]) (by first | rfl | simp [lv_args, rf_cat, cat_i, cat_l]) ?_
  intro X B
  obtain rfl := B.2.1
  obtain rfl := B.2.2.1
  exact tX7_isFull N h r0 B hf
def fX7_append_b27 (N : Nat) (h : pH)  : Option (Unit × pH) :=
  some ((), h)
set_option maxRecDepth 100000 in
set_option maxHeartbeats 4000000 in
theorem tX7_append_b27 {X : Xt} {v : Unit} {h' : pH} (N : Nat) (h : pH)  (B : Bd (lo X) (qo X) cX7_append RX7 2 none 1 20 none h' X) (hf : fX7_append_b27 N h  = some (v, h')) : Wx X 2 27 [] [] h := by
  have C := B.1
  unfold fX7_append_b27 at hf
  cases hf
  exact B.2.2.2.2.2.2.2.2.2 rfl rfl _ _ dX7_append_27
def fX7_append (N : Nat) (h : pH) (r0 : Nat) (x1 : Int32) : Option (Unit × pH) :=
  if isO 7 r0 = true then ((fX7_isFull N h r0).bind fun z1 => (if z1.1 = 0 then (if isO 7 r0 = true ∧ ¬ fR r0 0 = 0 then (if fI 7 1 r0 = true then (if aK (fR r0 0) = 0 ∧ ix (z1.2.1 r0 1) (aN (fR r0 0)) = true then (if fI 7 1 r0 = true then (if fI 7 1 r0 = true then (fX7_append_b27 N (pw (pw z1.2 (fR r0 0) (z1.2.1 r0 1).toNatClampNeg x1) r0 1 (((pw z1.2 (fR r0 0) (z1.2.1 r0 1).toNatClampNeg x1).1 r0 1) + 1))) else none) else none) else none) else none) else none) else (fX7_append_b27 N z1.2))) else none
set_option maxRecDepth 100000 in
set_option maxHeartbeats 4000000 in
theorem tX7_append {X : Xt} {v : Unit} {h' : pH} (N : Nat) (h : pH) (r0 : Nat) (x1 : Int32) (B : Bd (lo X) (qo X) cX7_append RX7 2 none 1 20 none h' X) (hf : fX7_append N h r0 x1 = some (v, h')) : Wx X 2 0 [(0, rf (qo X) r0), (1, .int x1)] [] h := by
  have C := B.1
  unfold fX7_append at hf
  refine x_aload_n (i := 0) 0 C dX7_append_0 rfl rfl ?_
  obtain ⟨g1, hf⟩ := ife hf
  obtain ⟨z1, e1, hf⟩ := bnd hf
  refine x_callV (r := r0) (As := []) (rest := []) C dX7_append_1 kmX7_25 miX7_isFull (ctX7_isFull (lo X) (qo X) N h r0 z1.1 z1.2 e1) rfl rfl ⟨Nat.le_trans (by decide) B.2.2.2.1, Nat.le_trans (by decide) B.2.2.2.2.1⟩ (by simp [cat_i, cat_l, rf_cat]) g1 ?_
  refine x_if_ne (tgt := 27) C dX7_append_4 (by decide) (fun c => ?_) (fun c => ?_)
  · rw [if_neg c] at hf
    refine x_lv [] rfl ?_
    exact tX7_append_b27 N z1.2 B hf
  · rw [if_pos c] at hf
    refine x_aload_n (i := 0) 0 C dX7_append_7 rfl rfl ?_
    obtain ⟨g2, hf⟩ := ife hf
    refine x_getR (r := r0) C dX7_append_8 kfX7_15 g2.1 rfl g2.2 ?_
    refine x_aload_n (i := 0) 0 C dX7_append_11 rfl rfl ?_
    obtain ⟨g3, hf⟩ := ife hf
    refine x_getI (r := r0) C dX7_append_12 kfX7_21 g3 ?_
    refine x_iload_n (i := 1) 1 C dX7_append_15 rfl rfl ?_
    obtain ⟨g4, hf⟩ := ife hf
    refine x_iast (r := (fR r0 0)) C dX7_append_16 g4.1 g4.2 ?_
    refine x_aload_n (i := 0) 0 C dX7_append_17 rfl rfl ?_
    refine x_dupA C dX7_append_18 ?_
    obtain ⟨g5, hf⟩ := ife hf
    refine x_getI (r := r0) C dX7_append_19 kfX7_21 g5 ?_
    refine x_iconst (v := 1) C dX7_append_22 (by decide) ?_
    refine x_iadd C dX7_append_23 ?_
    obtain ⟨g6, hf⟩ := ife hf
    refine x_putI (r := r0) C dX7_append_24 kfX7_21 g6 rfl rfl ?_
    refine x_lv [] rfl ?_
    exact tX7_append_b27 N (pw (pw z1.2 (fR r0 0) (z1.2.1 r0 1).toNatClampNeg x1) r0 1 (((pw z1.2 (fR r0 0) (z1.2.1 r0 1).toNatClampNeg x1).1 r0 1) + 1)) B hf
theorem ctX7_append (l : Launch) (q : Nat → Nat) (N : Nat) (h : pH) (r0 : Nat) (x1 : Int32) (v : Unit) (h' : pH) (hf : fX7_append N h r0 x1 = some (v, h')) : Ctr l q yX7_append cX7_append 2 none 1 20 [rf q r0, .int x1] h h' none := by
  refine ct_of (own := RX7) (lv := [(0, rf q r0), (1, .int x1)]) (by decide +kernel) rfl (by simp [lg_sl, rf_cat, cat_i, cat_l]) (by first | rfl | simp [lv_args, rf_cat, cat_i, cat_l]) ?_
  intro X B
  obtain rfl := B.2.1
  obtain rfl := B.2.2.1
  exact tX7_append N h r0 x1 B hf
def fX8_textAt_b25 (N : Nat) (h : pH) (rs0 : Nat) : Option (Nat × pH) :=
  some (rs0, h)
set_option maxRecDepth 100000 in
set_option maxHeartbeats 4000000 in
theorem tX8_textAt_b25 {X : Xt} {v : Nat} {h' : pH} (N : Nat) (h : pH) (rs0 : Nat) (B : Bd (lo X) (qo X) cX8_textAt RX8 2 (some (.object "MiddlePlank$Text")) 1 22 (some (rf (qo X) v)) h' X) (hf : fX8_textAt_b25 N h rs0 = some (v, h')) : Wx X 2 25 [] [rf (qo X) rs0] h := by
  have C := B.1
  unfold fX8_textAt_b25 at hf
  cases hf
  exact B.2.2.2.2.2.2.2.1 _ _ rfl rfl _ _ dX8_textAt_25
def fX8_textAt (N : Nat) (h : pH) (x1 : Int32) : Option (Nat × pH) :=
  (fX8_within N h x1 0 (3 - 1)).bind fun z1 => (if z1.1 = 0 then (fX8_textAt_b25 N z1.2 0) else (if ix x1 3 = true then (fX8_textAt_b25 N z1.2 (aE 2 x1.toNatClampNeg)) else none))
set_option maxRecDepth 100000 in
set_option maxHeartbeats 4000000 in
theorem tX8_textAt {X : Xt} {v : Nat} {h' : pH} (N : Nat) (h : pH) (x1 : Int32) (B : Bd (lo X) (qo X) cX8_textAt RX8 2 (some (.object "MiddlePlank$Text")) 1 22 (some (rf (qo X) v)) h' X) (hf : fX8_textAt N h x1 = some (v, h')) : Wx X 2 0 [(0, rf (qo X) 1), (1, .int x1)] [] h := by
  have C := B.1
  unfold fX8_textAt at hf
  refine x_iload_n (i := 1) 1 C dX8_textAt_0 rfl rfl ?_
  refine x_iconst (v := 0) C dX8_textAt_1 (by decide) ?_
  refine x_aload_n (i := 0) 0 C dX8_textAt_2 rfl rfl ?_
  refine x_getR (r := 1) (r2 := 2) C dX8_textAt_3 kfX8_11 rfl rfl (by decide) ?_
  refine x_alen4 (r := 2) (v := 3) C dX8_textAt_6 rfl rfl ?_
  refine x_iconst (v := 1) C dX8_textAt_7 (by decide) ?_
  refine x_isub C dX8_textAt_8 ?_
  obtain ⟨z1, e1, hf⟩ := bnd hf
  refine x_callS (As := [.int x1, .int 0, .int (3 - 1)]) (rest := []) C dX8_textAt_9 kmX8_91 miX8_within (ctX8_within (lo X) (qo X) N h x1 0 (3 - 1) z1.1 z1.2 e1) rfl rfl ⟨Nat.le_trans (by decide) B.2.2.2.1, Nat.le_trans (by decide) B.2.2.2.2.1⟩ (by simp [cat_i, cat_l, rf_cat]) ?_
  refine x_if_eq (tgt := 24) C dX8_textAt_12 (by decide) (fun c => ?_) (fun c => ?_)
  · rw [if_pos c] at hf
    refine x_null C dX8_textAt_24 ?_
    refine x_lv [] rfl ?_
    exact tX8_textAt_b25 N z1.2 0 B hf
  · rw [if_neg c] at hf
    refine x_aload_n (i := 0) 0 C dX8_textAt_15 rfl rfl ?_
    refine x_getR (r := 1) (r2 := 2) C dX8_textAt_16 kfX8_11 rfl rfl (by decide) ?_
    refine x_iload_n (i := 1) 1 C dX8_textAt_19 rfl rfl ?_
    obtain ⟨g1, hf⟩ := ife hf
    refine x_aald4 (r := 2) C dX8_textAt_20 rfl g1 ?_
    refine x_goto (tgt := 25) C dX8_textAt_21 (by decide) ?_
    refine x_lv [] rfl ?_
    exact tX8_textAt_b25 N z1.2 (aE 2 x1.toNatClampNeg) B hf
theorem ctX8_textAt (l : Launch) (q : Nat → Nat) (N : Nat) (h : pH) (x1 : Int32) (v : Nat) (h' : pH) (hf : fX8_textAt N h x1 = some (v, h')) : Ctr l q yX8_textAt cX8_textAt 2 (some (.object "MiddlePlank$Text")) 1 22 [rf q 1, .int x1] h h' (some (rf q v)) := by
  refine ct_of (own := RX8) (lv := [(0, rf q 1), (1, .int x1)]) (by decide +kernel) rfl (by simp [lg_sl, rf_cat, cat_i, cat_l]) (by first | rfl | simp [lv_args, rf_cat, cat_i, cat_l]) ?_
  intro X B
  obtain rfl := B.2.1
  obtain rfl := B.2.2.1
  exact tX8_textAt N h x1 B hf
def fX8_type_b21 (N : Nat) (h : pH)  : Option (Int32 × pH) :=
  some ((-2), h)
set_option maxRecDepth 100000 in
set_option maxHeartbeats 4000000 in
theorem tX8_type_b21 {X : Xt} {v : Int32} {h' : pH} (N : Nat) (h : pH)  (B : Bd (lo X) (qo X) cX8_type RX8 4 (some .int) 2 43 (some (.int v)) h' X) (hf : fX8_type_b21 N h  = some (v, h')) : Wx X 4 21 [] [] h := by
  have C := B.1
  unfold fX8_type_b21 at hf
  refine x_bipush (v := (-2)) C dX8_type_21 (by decide) ?_
  cases hf
  exact B.2.2.2.2.2.1 _ _ rfl rfl rfl _ _ dX8_type_23
def fX8_type (N : Nat) (h : pH) (x1 : Int32) (x2 : Int32) : Option (Int32 × pH) :=
  (fX8_textAt N h x1).bind fun z1 => (if z1.1 = 0 then (fX8_type_b21 N z1.2) else ((fX8_within N z1.2 x2 0 255).bind fun z2 => (if z2.1 = 0 then (fX8_type_b21 N z2.2) else (if isO 7 z1.1 = true then ((fX7_isFull N z2.2 z1.1).bind fun z3 => (if z3.1 = 0 then (if isO 7 z1.1 = true then ((fX7_append N z3.2 z1.1 x2).bind fun z4 => (if fI 7 1 z1.1 = true then (some ((pw z4.2 1 14 1).1 z1.1 1, (pw z4.2 1 14 1))) else none)) else none) else (some ((-4), z3.2)))) else none))))
set_option maxRecDepth 100000 in
set_option maxHeartbeats 4000000 in
theorem tX8_type {X : Xt} {v : Int32} {h' : pH} (N : Nat) (h : pH) (x1 : Int32) (x2 : Int32) (B : Bd (lo X) (qo X) cX8_type RX8 4 (some .int) 2 43 (some (.int v)) h' X) (hf : fX8_type N h x1 x2 = some (v, h')) : Wx X 4 0 [(0, rf (qo X) 1), (1, .int x1), (2, .int x2)] [] h := by
  have C := B.1
  unfold fX8_type at hf
  refine x_aload_n (i := 0) 0 C dX8_type_0 rfl rfl ?_
  refine x_iload_n (i := 1) 1 C dX8_type_1 rfl rfl ?_
  obtain ⟨z1, e1, hf⟩ := bnd hf
  refine x_callV (r := 1) (As := [.int x1]) (rest := []) C dX8_type_2 kmX8_87 miX8_textAt (ctX8_textAt (lo X) (qo X) N h x1 z1.1 z1.2 e1) rfl rfl ⟨Nat.le_trans (by decide) B.2.2.2.1, Nat.le_trans (by decide) B.2.2.2.2.1⟩ (by simp [cat_i, cat_l, rf_cat]) rfl ?_
  refine x_astore_n (i := 3) (lv' := [(3, rf (qo X) z1.1), (0, rf (qo X) 1), (1, .int x1), (2, .int x2)]) C dX8_type_5 rfl (by decide) rfl ?_
  refine x_aload_n (i := 3) 0 C dX8_type_6 rfl rfl ?_
  refine x_ifnull (tgt := 21) C dX8_type_7 (by decide) (fun c => ?_) (fun c => ?_)
  · rw [if_pos c] at hf
    refine x_lv [] rfl ?_
    exact tX8_type_b21 N z1.2 B hf
  · rw [if_neg c] at hf
    refine x_iload_n (i := 2) 3 C dX8_type_10 rfl rfl ?_
    refine x_iconst (v := 0) C dX8_type_11 (by decide) ?_
    refine x_sipush (v := 255) C dX8_type_12 (by decide) ?_
    obtain ⟨z2, e2, hf⟩ := bnd hf
    refine x_callS (As := [.int x2, .int 0, .int 255]) (rest := []) C dX8_type_15 kmX8_91 miX8_within (ctX8_within (lo X) (qo X) N z1.2 x2 0 255 z2.1 z2.2 e2) rfl rfl ⟨Nat.le_trans (by decide) B.2.2.2.1, Nat.le_trans (by decide) B.2.2.2.2.1⟩ (by simp [cat_i, cat_l, rf_cat]) ?_
    refine x_if_ne (tgt := 24) C dX8_type_18 (by decide) (fun c => ?_) (fun c => ?_)
    · rw [if_neg c] at hf
      refine x_aload_n (i := 3) 0 C dX8_type_24 rfl rfl ?_
      obtain ⟨g1, hf⟩ := ife hf
      obtain ⟨z3, e3, hf⟩ := bnd hf
      refine x_callV (r := z1.1) (As := []) (rest := []) C dX8_type_25 kmX8_95 miX7_isFull (ctX7_isFull (lo X) (qo X) N z2.2 z1.1 z3.1 z3.2 e3) rfl rfl ⟨Nat.le_trans (by decide) B.2.2.2.1, Nat.le_trans (by decide) B.2.2.2.2.1⟩ (by simp [cat_i, cat_l, rf_cat]) g1 ?_
      refine x_if_eq (tgt := 34) C dX8_type_28 (by decide) (fun c => ?_) (fun c => ?_)
      · rw [if_pos c] at hf
        refine x_aload_n (i := 3) 0 C dX8_type_34 rfl rfl ?_
        refine x_iload_n (i := 2) 3 C dX8_type_35 rfl rfl ?_
        obtain ⟨g2, hf⟩ := ife hf
        obtain ⟨z4, e4, hf⟩ := bnd hf
        refine x_callV (r := z1.1) (As := [.int x2]) (rest := []) C dX8_type_36 kmX8_99 miX7_append (ctX7_append (lo X) (qo X) N z3.2 z1.1 x2 z4.1 z4.2 e4) rfl rfl ⟨Nat.le_trans (by decide) B.2.2.2.1, Nat.le_trans (by decide) B.2.2.2.2.1⟩ (by simp [cat_i, cat_l, rf_cat]) g2 ?_
        refine x_aload_n (i := 0) 1 C dX8_type_39 rfl rfl ?_
        refine x_iconst (v := 1) C dX8_type_40 (by decide) ?_
        refine x_putI (r := 1) C dX8_type_41 kfX8_76 rfl rfl rfl ?_
        refine x_aload_n (i := 3) 0 C dX8_type_44 rfl rfl ?_
        obtain ⟨g3, hf⟩ := ife hf
        refine x_getI (r := z1.1) C dX8_type_45 kfX8_102 g3 ?_
        cases hf
        exact B.2.2.2.2.2.1 _ _ rfl rfl rfl _ _ dX8_type_48
      · rw [if_neg c] at hf
        refine x_bipush (v := (-4)) C dX8_type_31 (by decide) ?_
        cases hf
        exact B.2.2.2.2.2.1 _ _ rfl rfl rfl _ _ dX8_type_33
    · rw [if_pos c] at hf
      refine x_lv [] rfl ?_
      exact tX8_type_b21 N z2.2 B hf
theorem ctX8_type (l : Launch) (q : Nat → Nat) (N : Nat) (h : pH) (x1 : Int32) (x2 : Int32) (v : Int32) (h' : pH) (hf : fX8_type N h x1 x2 = some (v, h')) : Ctr l q yX8_type cX8_type 4 (some .int) 2 43 [rf q 1, .int x1, .int x2] h h' (some (.int v)) := by
  refine ct_of (own := RX8) (lv := [(0, rf q 1), (1, .int x1), (2, .int x2)]) (by decide +kernel) rfl (by simp [lg_sl, rf_cat, cat_i, cat_l]) (by first | rfl | simp [lv_args, rf_cat, cat_i, cat_l]) ?_
  intro X B
  obtain rfl := B.2.1
  obtain rfl := B.2.2.1
  exact tX8_type N h x1 x2 B hf
def fX8_crosser (N : Nat) (h : pH) (x1 : Int32) (x2 : Int32) : Option (Int32 × pH) :=
  (fX8_freshen N h).bind fun z1 => ((fX2_at N z1.2 x1).bind fun z2 => (if z2.1 = 0 then (some ((-2), z2.2)) else (if x2 = 0 then (if fI 1 0 z2.1 = true then (some (z2.2.1 z2.1 0, z2.2)) else none) else (if x2 = 1 then (if fI 1 1 z2.1 = true then (some (z2.2.1 z2.1 1, z2.2)) else none) else (if x2 = 2 then (if fI 1 3 z2.1 = true then (some (z2.2.1 z2.1 3, z2.2)) else none) else (if x2 = 3 then (if fI 1 4 z2.1 = true then (some (z2.2.1 z2.1 4, z2.2)) else none) else (some ((-2), z2.2))))))))
set_option maxRecDepth 100000 in
set_option maxHeartbeats 4000000 in
theorem tX8_crosser {X : Xt} {v : Int32} {h' : pH} (N : Nat) (h : pH) (x1 : Int32) (x2 : Int32) (B : Bd (lo X) (qo X) cX8_crosser RX8 4 (some .int) 4 96 (some (.int v)) h' X) (hf : fX8_crosser N h x1 x2 = some (v, h')) : Wx X 4 0 [(0, rf (qo X) 1), (1, .int x1), (2, .int x2)] [] h := by
  have C := B.1
  unfold fX8_crosser at hf
  refine x_aload_n (i := 0) 0 C dX8_crosser_0 rfl rfl ?_
  obtain ⟨z1, e1, hf⟩ := bnd hf
  refine x_callV (r := 1) (As := []) (rest := []) C dX8_crosser_1 kmX8_110 miX8_freshen (ctX8_freshen (lo X) (qo X) N h z1.1 z1.2 e1) rfl rfl ⟨Nat.le_trans (by decide) B.2.2.2.1, Nat.le_trans (by decide) B.2.2.2.2.1⟩ (by simp [cat_i, cat_l, rf_cat]) rfl ?_
  refine x_aload_n (i := 0) 0 C dX8_crosser_4 rfl rfl ?_
  refine x_getR (r := 1) (r2 := 14) C dX8_crosser_5 kfX8_25 rfl rfl (by decide) ?_
  refine x_iload_n (i := 1) 1 C dX8_crosser_8 rfl rfl ?_
  obtain ⟨z2, e2, hf⟩ := bnd hf
  refine x_callV (r := 14) (As := [.int x1]) (rest := []) C dX8_crosser_9 kmX8_120 miX2_at (ctX2_at (lo X) (qo X) N z1.2 x1 z2.1 z2.2 e2) rfl rfl ⟨Nat.le_trans (by decide) B.2.2.2.1, Nat.le_trans (by decide) B.2.2.2.2.1⟩ (by simp [cat_i, cat_l, rf_cat]) rfl ?_
  refine x_astore_n (i := 3) (lv' := [(3, rf (qo X) z2.1), (0, rf (qo X) 1), (1, .int x1), (2, .int x2)]) C dX8_crosser_12 rfl (by decide) rfl ?_
  refine x_aload_n (i := 3) 0 C dX8_crosser_13 rfl rfl ?_
  refine x_ifnonnull (tgt := 20) C dX8_crosser_14 (by decide) (fun c => ?_) (fun c => ?_)
  · rw [if_neg c] at hf
    refine x_iload_n (i := 2) 3 C dX8_crosser_20 rfl rfl ?_
    by_cases c0 : x2 = 0
    · rw [if_pos c0] at hf
      refine x_tabIn (w := 0) (tgt := 52) C dX8_crosser_21 c0 (by decide) (by decide) (by decide) (by decide) ?_
      refine x_aload_n (i := 3) 0 C dX8_crosser_52 rfl rfl ?_
      obtain ⟨g1, hf⟩ := ife hf
      refine x_getI (r := z2.1) C dX8_crosser_53 kfX8_124 g1 ?_
      cases hf
      exact B.2.2.2.2.2.1 _ _ rfl rfl rfl _ _ dX8_crosser_56
    rw [if_neg c0] at hf
    by_cases c1 : x2 = 1
    · rw [if_pos c1] at hf
      refine x_tabIn (w := 1) (tgt := 57) C dX8_crosser_21 c1 (by decide) (by decide) (by decide) (by decide) ?_
      refine x_aload_n (i := 3) 0 C dX8_crosser_57 rfl rfl ?_
      obtain ⟨g2, hf⟩ := ife hf
      refine x_getI (r := z2.1) C dX8_crosser_58 kfX8_129 g2 ?_
      cases hf
      exact B.2.2.2.2.2.1 _ _ rfl rfl rfl _ _ dX8_crosser_61
    rw [if_neg c1] at hf
    by_cases c2 : x2 = 2
    · rw [if_pos c2] at hf
      refine x_tabIn (w := 2) (tgt := 62) C dX8_crosser_21 c2 (by decide) (by decide) (by decide) (by decide) ?_
      refine x_aload_n (i := 3) 0 C dX8_crosser_62 rfl rfl ?_
      obtain ⟨g3, hf⟩ := ife hf
      refine x_getI (r := z2.1) C dX8_crosser_63 kfX8_132 g3 ?_
      cases hf
      exact B.2.2.2.2.2.1 _ _ rfl rfl rfl _ _ dX8_crosser_66
    rw [if_neg c2] at hf
    by_cases c3 : x2 = 3
    · rw [if_pos c3] at hf
      refine x_tabIn (w := 3) (tgt := 67) C dX8_crosser_21 c3 (by decide) (by decide) (by decide) (by decide) ?_
      refine x_aload_n (i := 3) 0 C dX8_crosser_67 rfl rfl ?_
      obtain ⟨g4, hf⟩ := ife hf
      refine x_getI (r := z2.1) C dX8_crosser_68 kfX8_135 g4 ?_
      cases hf
      exact B.2.2.2.2.2.1 _ _ rfl rfl rfl _ _ dX8_crosser_71
    rw [if_neg c3] at hf
    refine x_tabOut (n := 4) (tgt := 72) C dX8_crosser_21 (fun i hi => match i, hi with | 0, _ => c0 | 1, _ => c1 | 2, _ => c2 | 3, _ => c3 | i + 4, hi => absurd hi (by omega)) (by decide) ?_
    refine x_bipush (v := (-2)) C dX8_crosser_72 (by decide) ?_
    cases hf
    exact B.2.2.2.2.2.1 _ _ rfl rfl rfl _ _ dX8_crosser_74
  · rw [if_pos c] at hf
    refine x_bipush (v := (-2)) C dX8_crosser_17 (by decide) ?_
    cases hf
    exact B.2.2.2.2.2.1 _ _ rfl rfl rfl _ _ dX8_crosser_19
theorem ctX8_crosser (l : Launch) (q : Nat → Nat) (N : Nat) (h : pH) (x1 : Int32) (x2 : Int32) (v : Int32) (h' : pH) (hf : fX8_crosser N h x1 x2 = some (v, h')) : Ctr l q yX8_crosser cX8_crosser 4 (some .int) 4 96 [rf q 1, .int x1, .int x2] h h' (some (.int v)) := by
  refine ct_of (own := RX8) (lv := [(0, rf q 1), (1, .int x1), (2, .int x2)]) (by decide +kernel) rfl (by simp [lg_sl, rf_cat, cat_i, cat_l]) (by first | rfl | simp [lv_args, rf_cat, cat_i, cat_l]) ?_
  intro X B
  obtain rfl := B.2.1
  obtain rfl := B.2.2.1
  exact tX8_crosser N h x1 x2 B hf
def fX9_in_b18 (N : Nat) (h : pH) (xs0 : Int32) : Option (Int32 × pH) :=
  if xs0 = 0 ∨ xs0 = 1 then (some (xs0, h)) else none
set_option maxRecDepth 100000 in
set_option maxHeartbeats 4000000 in
theorem tX9_in_b18 {X : Xt} {v : Int32} {h' : pH} (N : Nat) (h : pH) (xs0 : Int32) (B : Bd (lo X) (qo X) cX9_in RX9 6 (some .boolean) 0 0 (some (.int v)) h' X) (hf : fX9_in_b18 N h xs0 = some (v, h')) : Wx X 6 18 [] [.int xs0] h := by
  have C := B.1
  unfold fX9_in_b18 at hf
  obtain ⟨g1, hf⟩ := ife hf
  cases hf
  exact B.2.2.2.2.2.1 _ _ rfl rfl (nrB g1) _ _ dX9_in_18
def fX9_in_b17 (N : Nat) (h : pH)  : Option (Int32 × pH) :=
  fX9_in_b18 N h 0
set_option maxRecDepth 100000 in
set_option maxHeartbeats 4000000 in
theorem tX9_in_b17 {X : Xt} {v : Int32} {h' : pH} (N : Nat) (h : pH)  (B : Bd (lo X) (qo X) cX9_in RX9 6 (some .boolean) 0 0 (some (.int v)) h' X) (hf : fX9_in_b17 N h  = some (v, h')) : Wx X 6 17 [] [] h := by
  have C := B.1
  unfold fX9_in_b17 at hf
  refine x_iconst (v := 0) C dX9_in_17 (by decide) ?_
  exact tX9_in_b18 N h 0 B hf
def fX9_in (N : Nat) (h : pH) (l0 : Int64) (l2 : Int64) (l4 : Int64) : Option (Int32 × pH) :=
  if (lg_cmp l0 l2) < 0 then (fX9_in_b17 N h) else (if 0 < (lg_cmp l0 l4) then (fX9_in_b17 N h) else (fX9_in_b18 N h 1))
set_option maxRecDepth 100000 in
set_option maxHeartbeats 4000000 in
theorem tX9_in {X : Xt} {v : Int32} {h' : pH} (N : Nat) (h : pH) (l0 : Int64) (l2 : Int64) (l4 : Int64) (B : Bd (lo X) (qo X) cX9_in RX9 6 (some .boolean) 0 0 (some (.int v)) h' X) (hf : fX9_in N h l0 l2 l4 = some (v, h')) : Wx X 6 0 [(0, .long l0), (2, .long l2), (4, .long l4)] [] h := by
  have C := B.1
  unfold fX9_in at hf
  refine x_lload_n (i := 0) 0 C dX9_in_0 rfl rfl ?_
  refine x_lload_n (i := 2) 1 C dX9_in_1 rfl rfl ?_
  refine x_lcmp C dX9_in_2 ?_
  refine x_if_lt (tgt := 17) C dX9_in_3 (by decide) (fun c => ?_) (fun c => ?_)
  · rw [if_pos c] at hf
    refine x_lv [] rfl ?_
    exact tX9_in_b17 N h B hf
  · rw [if_neg c] at hf
    refine x_lload_n (i := 0) 0 C dX9_in_6 rfl rfl ?_
    refine x_lload 2 C dX9_in_7 rfl ?_
    refine x_lcmp C dX9_in_9 ?_
    refine x_if_gt (tgt := 17) C dX9_in_10 (by decide) (fun c => ?_) (fun c => ?_)
    · rw [if_pos c] at hf
      refine x_lv [] rfl ?_
      exact tX9_in_b17 N h B hf
    · rw [if_neg c] at hf
      refine x_iconst (v := 1) C dX9_in_13 (by decide) ?_
      refine x_goto (tgt := 18) C dX9_in_14 (by decide) ?_
      refine x_lv [] rfl ?_
      exact tX9_in_b18 N h 1 B hf
theorem ctX9_in (l : Launch) (q : Nat → Nat) (N : Nat) (h : pH) (l0 : Int64) (l2 : Int64) (l4 : Int64) (v : Int32) (h' : pH) (hf : fX9_in N h l0 l2 l4 = some (v, h')) : Ctr l q yX9_in cX9_in 6 (some .boolean) 0 0 [.long l0, .long l2, .long l4] h h' (some (.int v)) := by
  refine ct_of (own := RX9) (lv := [(0, .long l0), (2, .long l2), (4, .long l4)]) (by decide +kernel) rfl (by simp [lg_sl, rf_cat, cat_i, cat_l]) (by first | rfl | simp [lv_args, rf_cat, cat_i, cat_l]) ?_
  intro X B
  obtain rfl := B.2.1
  obtain rfl := B.2.2.1
  exact tX9_in N h l0 l2 l4 B hf
def fX9_isTwo (N : Nat) (h : pH) (x0 : Int32) : Option (Int32 × pH) :=
  (fX9_in N h x0.toInt64 0 1).bind fun z1 => (if z1.1 = 0 ∨ z1.1 = 1 then (some (z1.1, z1.2)) else none)
set_option maxRecDepth 100000 in
set_option maxHeartbeats 4000000 in
theorem tX9_isTwo {X : Xt} {v : Int32} {h' : pH} (N : Nat) (h : pH) (x0 : Int32) (B : Bd (lo X) (qo X) cX9_isTwo RX9 1 (some .boolean) 1 25 (some (.int v)) h' X) (hf : fX9_isTwo N h x0 = some (v, h')) : Wx X 1 0 [(0, .int x0)] [] h := by
  have C := B.1
  unfold fX9_isTwo at hf
  refine x_iload_n (i := 0) 0 C dX9_isTwo_0 rfl rfl ?_
  refine x_i2l C dX9_isTwo_1 ?_
  refine x_lconst (v := 0) C dX9_isTwo_2 (by decide) ?_
  refine x_lconst (v := 1) C dX9_isTwo_3 (by decide) ?_
  obtain ⟨z1, e1, hf⟩ := bnd hf
  refine x_callS (As := [.long x0.toInt64, .long 0, .long 1]) (rest := []) C dX9_isTwo_4 kmX9_69 miX9_in (ctX9_in (lo X) (qo X) N h x0.toInt64 0 1 z1.1 z1.2 e1) rfl rfl ⟨Nat.le_trans (by decide) B.2.2.2.1, Nat.le_trans (by decide) B.2.2.2.2.1⟩ (by simp [cat_i, cat_l, rf_cat]) ?_
  obtain ⟨g1, hf⟩ := ife hf
  cases hf
  exact B.2.2.2.2.2.1 _ _ rfl rfl (nrB g1) _ _ dX9_isTwo_7
theorem ctX9_isTwo (l : Launch) (q : Nat → Nat) (N : Nat) (h : pH) (x0 : Int32) (v : Int32) (h' : pH) (hf : fX9_isTwo N h x0 = some (v, h')) : Ctr l q yX9_isTwo cX9_isTwo 1 (some .boolean) 1 25 [.int x0] h h' (some (.int v)) := by
  refine ct_of (own := RX9) (lv := [(0, .int x0)]) (by decide +kernel) rfl (by simp [lg_sl, rf_cat, cat_i, cat_l]) (by first | rfl | simp [lv_args, rf_cat, cat_i, cat_l]) ?_
  intro X B
  obtain rfl := B.2.1
  obtain rfl := B.2.2.1
  exact tX9_isTwo N h x0 B hf
def fX9_greater_b10 (N : Nat) (h : pH) (xs0 : Int32) : Option (Int32 × pH) :=
  some (xs0, h)
set_option maxRecDepth 100000 in
set_option maxHeartbeats 4000000 in
theorem tX9_greater_b10 {X : Xt} {v : Int32} {h' : pH} (N : Nat) (h : pH) (xs0 : Int32) (B : Bd (lo X) (qo X) cX9_greater RX9 2 (some .int) 0 0 (some (.int v)) h' X) (hf : fX9_greater_b10 N h xs0 = some (v, h')) : Wx X 2 10 [] [.int xs0] h := by
  have C := B.1
  unfold fX9_greater_b10 at hf
  cases hf
  exact B.2.2.2.2.2.1 _ _ rfl rfl rfl _ _ dX9_greater_10
def fX9_greater (N : Nat) (h : pH) (x0 : Int32) (x1 : Int32) : Option (Int32 × pH) :=
  if x0 ≤ x1 then (fX9_greater_b10 N h x1) else (fX9_greater_b10 N h x0)
set_option maxRecDepth 100000 in
set_option maxHeartbeats 4000000 in
theorem tX9_greater {X : Xt} {v : Int32} {h' : pH} (N : Nat) (h : pH) (x0 : Int32) (x1 : Int32) (B : Bd (lo X) (qo X) cX9_greater RX9 2 (some .int) 0 0 (some (.int v)) h' X) (hf : fX9_greater N h x0 x1 = some (v, h')) : Wx X 2 0 [(0, .int x0), (1, .int x1)] [] h := by
  have C := B.1
  unfold fX9_greater at hf
  refine x_iload_n (i := 0) 0 C dX9_greater_0 rfl rfl ?_
  refine x_iload_n (i := 1) 1 C dX9_greater_1 rfl rfl ?_
  refine x_icmp_le (tgt := 9) C dX9_greater_2 (by decide) (fun c => ?_) (fun c => ?_)
  · rw [if_pos c] at hf
    refine x_iload_n (i := 1) 1 C dX9_greater_9 rfl rfl ?_
    refine x_lv [] rfl ?_
    exact tX9_greater_b10 N h x1 B hf
  · rw [if_neg c] at hf
    refine x_iload_n (i := 0) 0 C dX9_greater_5 rfl rfl ?_
    refine x_goto (tgt := 10) C dX9_greater_6 (by decide) ?_
    refine x_lv [] rfl ?_
    exact tX9_greater_b10 N h x0 B hf
theorem ctX9_greater (l : Launch) (q : Nat → Nat) (N : Nat) (h : pH) (x0 : Int32) (x1 : Int32) (v : Int32) (h' : pH) (hf : fX9_greater N h x0 x1 = some (v, h')) : Ctr l q yX9_greater cX9_greater 2 (some .int) 0 0 [.int x0, .int x1] h h' (some (.int v)) := by
  refine ct_of (own := RX9) (lv := [(0, .int x0), (1, .int x1)]) (by decide +kernel) rfl (by simp [lg_sl, rf_cat, cat_i, cat_l]) (by first | rfl | simp [lv_args, rf_cat, cat_i, cat_l]) ?_
  intro X B
  obtain rfl := B.2.1
  obtain rfl := B.2.2.1
  exact tX9_greater N h x0 x1 B hf
def fX9_part_b41 (N : Nat) (h : pH) (l5 : Int64) (ls0 : Int64) : Option (Int64 × pH) :=
  if ¬ l5 = 0 then (some (ls0 / l5, h)) else none
set_option maxRecDepth 100000 in
set_option maxHeartbeats 4000000 in
theorem tX9_part_b41 {X : Xt} {v : Int64} {h' : pH} (N : Nat) (h : pH) (l5 : Int64) (ls0 : Int64) (B : Bd (lo X) (qo X) cX9_part RX9 11 (some .long) 0 0 (some (.long v)) h' X) (hf : fX9_part_b41 N h l5 ls0 = some (v, h')) : Wx X 11 41 [(5, .long l5)] [.long ls0] h := by
  have C := B.1
  unfold fX9_part_b41 at hf
  refine x_lload 0 C dX9_part_41 rfl ?_
  obtain ⟨g1, hf⟩ := ife hf
  refine x_ldiv C dX9_part_43 g1 ?_
  cases hf
  exact B.2.2.2.2.2.2.1 _ rfl rfl _ _ dX9_part_44
def fX9_part_B6 (N : Nat) (k6 : pH → Int64 → Int64 → Int32 → Int64 → Int64 → Option (Int64 × pH)) (h : pH) (l0 : Int64) (l2 : Int64) (x4 : Int32) (l5 : Int64) (l7 : Int64) : Option (Int64 × pH) :=
  if (lg_cmp l7 0) = 0 then (if x4 = 0 then (fX9_part_b41 N h l5 l0) else (fX9_part_b41 N h l5 l2)) else (if ¬ l7 = 0 then (k6 h l0 l2 x4 l7 (l5 - l5 / l7 * l7)) else none)
set_option maxRecDepth 100000 in
set_option maxHeartbeats 4000000 in
theorem tX9_part_B6 {X : Xt} {v : Int64} {h' : pH} (N : Nat) (k6 : pH → Int64 → Int64 → Int32 → Int64 → Int64 → Option (Int64 × pH)) (HK6 : ∀ (h : pH) (l0 : Int64) (l2 : Int64) (x4 : Int32) (l5 : Int64) (l7 : Int64), k6 h l0 l2 x4 l5 l7 = some (v, h') → Wx X 11 6 [(0, .long l0), (2, .long l2), (4, .int x4), (5, .long l5), (7, .long l7)] [] h) (h : pH) (l0 : Int64) (l2 : Int64) (x4 : Int32) (l5 : Int64) (l7 : Int64) (B : Bd (lo X) (qo X) cX9_part RX9 11 (some .long) 0 0 (some (.long v)) h' X) (hf : fX9_part_B6 N k6 h l0 l2 x4 l5 l7 = some (v, h')) : Wx X 11 6 [(0, .long l0), (2, .long l2), (4, .int x4), (5, .long l5), (7, .long l7)] [] h := by
  have C := B.1
  unfold fX9_part_B6 at hf
  refine x_lload 4 C dX9_part_6 rfl ?_
  refine x_lconst (v := 0) C dX9_part_8 (by decide) ?_
  refine x_lcmp C dX9_part_9 ?_
  refine x_if_eq (tgt := 31) C dX9_part_10 (by decide) (fun c => ?_) (fun c => ?_)
  · rw [if_pos c] at hf
    refine x_iload 2 C dX9_part_31 rfl ?_
    refine x_if_ne (tgt := 40) C dX9_part_33 (by decide) (fun c => ?_) (fun c => ?_)
    · rw [if_neg c] at hf
      refine x_lload_n (i := 2) 1 C dX9_part_40 rfl rfl ?_
      refine x_lv [3] rfl ?_
      exact tX9_part_b41 N h l5 l2 B hf
    · rw [if_pos c] at hf
      refine x_lload_n (i := 0) 0 C dX9_part_36 rfl rfl ?_
      refine x_goto (tgt := 41) C dX9_part_37 (by decide) ?_
      refine x_lv [3] rfl ?_
      exact tX9_part_b41 N h l5 l0 B hf
  · rw [if_neg c] at hf
    refine x_lload 3 C dX9_part_13 rfl ?_
    refine x_lload 4 C dX9_part_15 rfl ?_
    obtain ⟨g1, hf⟩ := ife hf
    refine x_lrem C dX9_part_17 g1 ?_
    refine x_lstore (lv' := [(9, .long (l5 - l5 / l7 * l7)), (0, .long l0), (2, .long l2), (4, .int x4), (5, .long l5), (7, .long l7)]) C dX9_part_18 (by decide) rfl ?_
    refine x_lload 5 C dX9_part_20 rfl ?_
    refine x_lstore (lv' := [(5, .long l7), (9, .long (l5 - l5 / l7 * l7)), (0, .long l0), (2, .long l2), (4, .int x4), (7, .long l7)]) C dX9_part_22 (by decide) rfl ?_
    refine x_lload 1 C dX9_part_24 rfl ?_
    refine x_lstore (lv' := [(7, .long (l5 - l5 / l7 * l7)), (5, .long l7), (9, .long (l5 - l5 / l7 * l7)), (0, .long l0), (2, .long l2), (4, .int x4)]) C dX9_part_26 (by decide) rfl ?_
    refine x_goto (tgt := 6) C dX9_part_28 (by decide) ?_
    refine x_lv [3, 4, 5, 1, 0] rfl ?_
    exact HK6 h l0 l2 x4 l7 (l5 - l5 / l7 * l7) hf
def fX9_part_L6 (N : Nat) : Nat → pH → Int64 → Int64 → Int32 → Int64 → Int64 → Option (Int64 × pH)
  | 0 => fun _ _ _ _ _ _ => none
  | n + 1 => fX9_part_B6 N (fX9_part_L6 N n)
theorem tX9_part_L6 {X : Xt} {v : Int64} {h' : pH} (N : Nat) (B : Bd (lo X) (qo X) cX9_part RX9 11 (some .long) 0 0 (some (.long v)) h' X) : ∀ (n : Nat) (h : pH) (l0 : Int64) (l2 : Int64) (x4 : Int32) (l5 : Int64) (l7 : Int64), fX9_part_L6 N n h l0 l2 x4 l5 l7 = some (v, h') → Wx X 11 6 [(0, .long l0), (2, .long l2), (4, .int x4), (5, .long l5), (7, .long l7)] [] h := by
  intro n
  induction n with
  | zero => intro h l0 l2 x4 l5 l7 hf; exact absurd (show (none : Option (Int64 × pH)) = some (v, h') from hf) (fun z => by cases z)
  | succ n ih => intro h l0 l2 x4 l5 l7 hf; exact tX9_part_B6 N (fX9_part_L6 N n) ih h l0 l2 x4 l5 l7 B hf
def fX9_part (N : Nat) (h : pH) (l0 : Int64) (l2 : Int64) (x4 : Int32) : Option (Int64 × pH) :=
  fX9_part_L6 N N h l0 l2 x4 l0 l2
set_option maxRecDepth 100000 in
set_option maxHeartbeats 4000000 in
theorem tX9_part {X : Xt} {v : Int64} {h' : pH} (N : Nat) (h : pH) (l0 : Int64) (l2 : Int64) (x4 : Int32) (B : Bd (lo X) (qo X) cX9_part RX9 11 (some .long) 0 0 (some (.long v)) h' X) (hf : fX9_part N h l0 l2 x4 = some (v, h')) : Wx X 11 0 [(0, .long l0), (2, .long l2), (4, .int x4)] [] h := by
  have C := B.1
  unfold fX9_part at hf
  refine x_lload_n (i := 0) 0 C dX9_part_0 rfl rfl ?_
  refine x_lstore (lv' := [(5, .long l0), (0, .long l0), (2, .long l2), (4, .int x4)]) C dX9_part_1 (by decide) rfl ?_
  refine x_lload_n (i := 2) 2 C dX9_part_3 rfl rfl ?_
  refine x_lstore (lv' := [(7, .long l2), (5, .long l0), (0, .long l0), (2, .long l2), (4, .int x4)]) C dX9_part_4 (by decide) rfl ?_
  refine x_lv [2, 3, 4, 1, 0] rfl ?_
  exact tX9_part_L6 N  B N h l0 l2 x4 l0 l2 hf
theorem ctX9_part (l : Launch) (q : Nat → Nat) (N : Nat) (h : pH) (l0 : Int64) (l2 : Int64) (x4 : Int32) (v : Int64) (h' : pH) (hf : fX9_part N h l0 l2 x4 = some (v, h')) : Ctr l q yX9_part cX9_part 11 (some .long) 0 0 [.long l0, .long l2, .int x4] h h' (some (.long v)) := by
  refine ct_of (own := RX9) (lv := [(0, .long l0), (2, .long l2), (4, .int x4)]) (by decide +kernel) rfl (by simp [lg_sl, rf_cat, cat_i, cat_l]) (by first | rfl | simp [lv_args, rf_cat, cat_i, cat_l]) ?_
  intro X B
  obtain rfl := B.2.1
  obtain rfl := B.2.2.1
  exact tX9_part N h l0 l2 x4 B hf
def fX9_readsPlanks_b59 (N : Nat) (k7 : pH → Int32 → Option (Int32 × pH)) (h : pH) (x1 : Int32) (xs0 : Int32) (xs1 : Int32) : Option (Int32 × pH) :=
  if ix xs1 19 = true then (k7 (pw (pw h 56 xs1.toNatClampNeg xs0) 49 7 (((pw h 56 xs1.toNatClampNeg xs0).1 49 7) + 1)) (x1 + 1)) else none
set_option maxRecDepth 100000 in
set_option maxHeartbeats 4000000 in
theorem tX9_readsPlanks_b59 {X : Xt} {v : Int32} {h' : pH} (N : Nat) (k7 : pH → Int32 → Option (Int32 × pH)) (HK7 : ∀ (h : pH) (x1 : Int32), k7 h x1 = some (v, h') → Wx X 3 7 [(0, rf (qo X) 49), (1, .int x1)] [] h) (h : pH) (x1 : Int32) (xs0 : Int32) (xs1 : Int32) (B : Bd (lo X) (qo X) cX9_readsPlanks RX9 3 (some .int) 0 0 (some (.int v)) h' X) (hf : fX9_readsPlanks_b59 N k7 h x1 xs0 xs1 = some (v, h')) : Wx X 3 59 [(0, rf (qo X) 49), (1, .int x1)] [.int xs0, .int xs1, rf (qo X) 56] h := by
  have C := B.1
  unfold fX9_readsPlanks_b59 at hf
  obtain ⟨g1, hf⟩ := ife hf
  refine x_iast (r := 56) C dX9_readsPlanks_59 rfl g1 ?_
  refine x_aload_n (i := 0) 0 C dX9_readsPlanks_60 rfl rfl ?_
  refine x_dupA C dX9_readsPlanks_61 ?_
  refine x_getI (r := 49) C dX9_readsPlanks_62 kfX9_103 rfl ?_
  refine x_iconst (v := 1) C dX9_readsPlanks_65 (by decide) ?_
  refine x_iadd C dX9_readsPlanks_66 ?_
  refine x_putI (r := 49) C dX9_readsPlanks_67 kfX9_103 rfl rfl rfl ?_
  refine x_iinc (v := x1 + 1) (lv' := [(1, .int (x1 + 1)), (0, rf (qo X) 49)]) 1 C dX9_readsPlanks_70 rfl rfl (by decide) rfl ?_
  refine x_goto (tgt := 7) C dX9_readsPlanks_73 (by decide) ?_
  refine x_lv [1, 0] rfl ?_
  exact HK7 (pw (pw h 56 xs1.toNatClampNeg xs0) 49 7 (((pw h 56 xs1.toNatClampNeg xs0).1 49 7) + 1)) (x1 + 1) hf
def fX9_readsPlanks_b43 (N : Nat) (k7 : pH → Int32 → Option (Int32 × pH)) (h : pH) (x1 : Int32) (x2 : Int32) : Option (Int32 × pH) :=
  if x2 = 114 then (fX9_readsPlanks_b59 N k7 h x1 1 x1) else (fX9_readsPlanks_b59 N k7 h x1 0 x1)
set_option maxRecDepth 100000 in
set_option maxHeartbeats 4000000 in
theorem tX9_readsPlanks_b43 {X : Xt} {v : Int32} {h' : pH} (N : Nat) (k7 : pH → Int32 → Option (Int32 × pH)) (HK7 : ∀ (h : pH) (x1 : Int32), k7 h x1 = some (v, h') → Wx X 3 7 [(0, rf (qo X) 49), (1, .int x1)] [] h) (h : pH) (x1 : Int32) (x2 : Int32) (B : Bd (lo X) (qo X) cX9_readsPlanks RX9 3 (some .int) 0 0 (some (.int v)) h' X) (hf : fX9_readsPlanks_b43 N k7 h x1 x2 = some (v, h')) : Wx X 3 43 [(0, rf (qo X) 49), (1, .int x1), (2, .int x2)] [] h := by
  have C := B.1
  unfold fX9_readsPlanks_b43 at hf
  refine x_aload_n (i := 0) 0 C dX9_readsPlanks_43 rfl rfl ?_
  refine x_getR (r := 49) (r2 := 56) C dX9_readsPlanks_44 kfX9_28 rfl rfl (by decide) ?_
  refine x_iload_n (i := 1) 1 C dX9_readsPlanks_47 rfl rfl ?_
  refine x_iload_n (i := 2) 2 C dX9_readsPlanks_48 rfl rfl ?_
  refine x_bipush (v := 114) C dX9_readsPlanks_49 (by decide) ?_
  refine x_icmp_ne (tgt := 58) C dX9_readsPlanks_51 (by decide) (fun c => ?_) (fun c => ?_)
  · rw [if_neg c] at hf
    refine x_iconst (v := 0) C dX9_readsPlanks_58 (by decide) ?_
    refine x_lv [0, 1] rfl ?_
    exact tX9_readsPlanks_b59 N k7 HK7 h x1 0 x1 B hf
  · rw [if_pos c] at hf
    refine x_iconst (v := 1) C dX9_readsPlanks_54 (by decide) ?_
    refine x_goto (tgt := 59) C dX9_readsPlanks_55 (by decide) ?_
    refine x_lv [0, 1] rfl ?_
    exact tX9_readsPlanks_b59 N k7 HK7 h x1 1 x1 B hf
def fX9_readsPlanks_B7 (N : Nat) (k7 : pH → Int32 → Option (Int32 × pH)) (h : pH) (x1 : Int32) : Option (Int32 × pH) :=
  if ix (0 : Int32) 3 = true then (if (h.1 55 (0 : Int32).toNatClampNeg) ≤ x1 then (some ((-1), h)) else (if ix x1 120 = true then (if (h.1 54 x1.toNatClampNeg) = 46 then (fX9_readsPlanks_b43 N k7 h x1 (h.1 54 x1.toNatClampNeg)) else (if (h.1 54 x1.toNatClampNeg) = 114 then (fX9_readsPlanks_b43 N k7 h x1 (h.1 54 x1.toNatClampNeg)) else (some (x1, (pw h 49 7 0))))) else none)) else none
set_option maxRecDepth 100000 in
set_option maxHeartbeats 4000000 in
theorem tX9_readsPlanks_B7 {X : Xt} {v : Int32} {h' : pH} (N : Nat) (k7 : pH → Int32 → Option (Int32 × pH)) (HK7 : ∀ (h : pH) (x1 : Int32), k7 h x1 = some (v, h') → Wx X 3 7 [(0, rf (qo X) 49), (1, .int x1)] [] h) (h : pH) (x1 : Int32) (B : Bd (lo X) (qo X) cX9_readsPlanks RX9 3 (some .int) 0 0 (some (.int v)) h' X) (hf : fX9_readsPlanks_B7 N k7 h x1 = some (v, h')) : Wx X 3 7 [(0, rf (qo X) 49), (1, .int x1)] [] h := by
  have C := B.1
  unfold fX9_readsPlanks_B7 at hf
  refine x_iload_n (i := 1) 1 C dX9_readsPlanks_7 rfl rfl ?_
  refine x_aload_n (i := 0) 0 C dX9_readsPlanks_8 rfl rfl ?_
  refine x_getR (r := 49) (r2 := 55) C dX9_readsPlanks_9 kfX9_25 rfl rfl (by decide) ?_
  refine x_iconst (v := 0) C dX9_readsPlanks_12 (by decide) ?_
  obtain ⟨g1, hf⟩ := ife hf
  refine x_iald (r := 55) C dX9_readsPlanks_13 rfl g1 ?_
  refine x_icmp_ge (tgt := 76) C dX9_readsPlanks_14 (by decide) (fun c => ?_) (fun c => ?_)
  · rw [if_pos c] at hf
    refine x_iconst (v := (-1)) C dX9_readsPlanks_76 (by decide) ?_
    cases hf
    exact B.2.2.2.2.2.1 _ _ rfl rfl rfl _ _ dX9_readsPlanks_77
  · rw [if_neg c] at hf
    refine x_aload_n (i := 0) 0 C dX9_readsPlanks_17 rfl rfl ?_
    refine x_getR (r := 49) (r2 := 54) C dX9_readsPlanks_18 kfX9_22 rfl rfl (by decide) ?_
    refine x_iload_n (i := 1) 1 C dX9_readsPlanks_21 rfl rfl ?_
    obtain ⟨g2, hf⟩ := ife hf
    refine x_iald (r := 54) C dX9_readsPlanks_22 rfl g2 ?_
    refine x_istore_n (i := 2) (lv' := [(2, .int (h.1 54 x1.toNatClampNeg)), (0, rf (qo X) 49), (1, .int x1)]) C dX9_readsPlanks_23 rfl (by decide) rfl ?_
    refine x_iload_n (i := 2) 0 C dX9_readsPlanks_24 rfl rfl ?_
    refine x_bipush (v := 46) C dX9_readsPlanks_25 (by decide) ?_
    refine x_icmp_eq (tgt := 43) C dX9_readsPlanks_27 (by decide) (fun c => ?_) (fun c => ?_)
    · rw [if_pos c] at hf
      refine x_lv [1, 2, 0] rfl ?_
      exact tX9_readsPlanks_b43 N k7 HK7 h x1 (h.1 54 x1.toNatClampNeg) B hf
    · rw [if_neg c] at hf
      refine x_iload_n (i := 2) 0 C dX9_readsPlanks_30 rfl rfl ?_
      refine x_bipush (v := 114) C dX9_readsPlanks_31 (by decide) ?_
      refine x_icmp_eq (tgt := 43) C dX9_readsPlanks_33 (by decide) (fun c => ?_) (fun c => ?_)
      · rw [if_pos c] at hf
        refine x_lv [1, 2, 0] rfl ?_
        exact tX9_readsPlanks_b43 N k7 HK7 h x1 (h.1 54 x1.toNatClampNeg) B hf
      · rw [if_neg c] at hf
        refine x_aload_n (i := 0) 1 C dX9_readsPlanks_36 rfl rfl ?_
        refine x_iconst (v := 0) C dX9_readsPlanks_37 (by decide) ?_
        refine x_putI (r := 49) C dX9_readsPlanks_38 kfX9_103 rfl rfl rfl ?_
        refine x_iload_n (i := 1) 2 C dX9_readsPlanks_41 rfl rfl ?_
        cases hf
        exact B.2.2.2.2.2.1 _ _ rfl rfl rfl _ _ dX9_readsPlanks_42
def fX9_readsPlanks_L7 (N : Nat) : Nat → pH → Int32 → Option (Int32 × pH)
  | 0 => fun _ _ => none
  | n + 1 => fX9_readsPlanks_B7 N (fX9_readsPlanks_L7 N n)
theorem tX9_readsPlanks_L7 {X : Xt} {v : Int32} {h' : pH} (N : Nat) (B : Bd (lo X) (qo X) cX9_readsPlanks RX9 3 (some .int) 0 0 (some (.int v)) h' X) : ∀ (n : Nat) (h : pH) (x1 : Int32), fX9_readsPlanks_L7 N n h x1 = some (v, h') → Wx X 3 7 [(0, rf (qo X) 49), (1, .int x1)] [] h := by
  intro n
  induction n with
  | zero => intro h x1 hf; exact absurd (show (none : Option (Int32 × pH)) = some (v, h') from hf) (fun z => by cases z)
  | succ n ih => intro h x1 hf; exact tX9_readsPlanks_B7 N (fX9_readsPlanks_L7 N n) ih h x1 B hf
def fX9_readsPlanks (N : Nat) (h : pH)  : Option (Int32 × pH) :=
  fX9_readsPlanks_L7 N N (pw h 49 7 0) 0
set_option maxRecDepth 100000 in
set_option maxHeartbeats 4000000 in
theorem tX9_readsPlanks {X : Xt} {v : Int32} {h' : pH} (N : Nat) (h : pH)  (B : Bd (lo X) (qo X) cX9_readsPlanks RX9 3 (some .int) 0 0 (some (.int v)) h' X) (hf : fX9_readsPlanks N h  = some (v, h')) : Wx X 3 0 [(0, rf (qo X) 49)] [] h := by
  have C := B.1
  unfold fX9_readsPlanks at hf
  refine x_aload_n (i := 0) 0 C dX9_readsPlanks_0 rfl rfl ?_
  refine x_iconst (v := 0) C dX9_readsPlanks_1 (by decide) ?_
  refine x_putI (r := 49) C dX9_readsPlanks_2 kfX9_103 rfl rfl rfl ?_
  refine x_iconst (v := 0) C dX9_readsPlanks_5 (by decide) ?_
  refine x_istore_n (i := 1) (lv' := [(1, .int 0), (0, rf (qo X) 49)]) C dX9_readsPlanks_6 rfl (by decide) rfl ?_
  refine x_lv [1, 0] rfl ?_
  exact tX9_readsPlanks_L7 N  B N (pw h 49 7 0) 0 hf
theorem ctX9_readsPlanks (l : Launch) (q : Nat → Nat) (N : Nat) (h : pH)  (v : Int32) (h' : pH) (hf : fX9_readsPlanks N h  = some (v, h')) : Ctr l q yX9_readsPlanks cX9_readsPlanks 3 (some .int) 0 0 [rf q 49] h h' (some (.int v)) := by
  refine ct_of (own := RX9) (lv := [(0, rf q 49)]) (by decide +kernel) rfl (by simp [lg_sl, rf_cat, cat_i, cat_l]) (by first | rfl | simp [lv_args, rf_cat, cat_i, cat_l]) ?_
  intro X B
  obtain rfl := B.2.1
  obtain rfl := B.2.2.1
  exact tX9_readsPlanks N h  B hf
def fX9_isHole_b73 (N : Nat) (h : pH) (xs0 : Int32) : Option (Int32 × pH) :=
  if xs0 = 0 ∨ xs0 = 1 then (some (xs0, h)) else none
set_option maxRecDepth 100000 in
set_option maxHeartbeats 4000000 in
theorem tX9_isHole_b73 {X : Xt} {v : Int32} {h' : pH} (N : Nat) (h : pH) (xs0 : Int32) (B : Bd (lo X) (qo X) cX9_isHole RX9 4 (some .boolean) 0 0 (some (.int v)) h' X) (hf : fX9_isHole_b73 N h xs0 = some (v, h')) : Wx X 4 73 [] [.int xs0] h := by
  have C := B.1
  unfold fX9_isHole_b73 at hf
  obtain ⟨g1, hf⟩ := ife hf
  cases hf
  exact B.2.2.2.2.2.1 _ _ rfl rfl (nrB g1) _ _ dX9_isHole_73
def fX9_isHole_b68 (N : Nat) (h : pH)  : Option (Int32 × pH) :=
  fX9_isHole_b73 N h 1
set_option maxRecDepth 100000 in
set_option maxHeartbeats 4000000 in
theorem tX9_isHole_b68 {X : Xt} {v : Int32} {h' : pH} (N : Nat) (h : pH)  (B : Bd (lo X) (qo X) cX9_isHole RX9 4 (some .boolean) 0 0 (some (.int v)) h' X) (hf : fX9_isHole_b68 N h  = some (v, h')) : Wx X 4 68 [] [] h := by
  have C := B.1
  unfold fX9_isHole_b68 at hf
  refine x_iconst (v := 1) C dX9_isHole_68 (by decide) ?_
  refine x_goto (tgt := 73) C dX9_isHole_69 (by decide) ?_
  exact tX9_isHole_b73 N h 1 B hf
def fX9_isHole_b72 (N : Nat) (h : pH)  : Option (Int32 × pH) :=
  fX9_isHole_b73 N h 0
set_option maxRecDepth 100000 in
set_option maxHeartbeats 4000000 in
theorem tX9_isHole_b72 {X : Xt} {v : Int32} {h' : pH} (N : Nat) (h : pH)  (B : Bd (lo X) (qo X) cX9_isHole RX9 4 (some .boolean) 0 0 (some (.int v)) h' X) (hf : fX9_isHole_b72 N h  = some (v, h')) : Wx X 4 72 [] [] h := by
  have C := B.1
  unfold fX9_isHole_b72 at hf
  refine x_iconst (v := 0) C dX9_isHole_72 (by decide) ?_
  exact tX9_isHole_b73 N h 0 B hf
def fX9_isHole_b31 (N : Nat) (h : pH) (x1 : Int32) (x2 : Int32) (xs0 : Int32) : Option (Int32 × pH) :=
  if x2 = (h.1 49 19) then (fX9_isHole_b68 N h) else (if xs0 = 0 then (if ix x2 19 = true then (if (h.1 56 x2.toNatClampNeg) = 1 then (if ix ((4 * x1) + 1) 32 = true then (if (h.1 57 ((4 * x1) + 1).toNatClampNeg) ≤ 5 then (fX9_isHole_b72 N h) else (fX9_isHole_b68 N h)) else none) else (fX9_isHole_b72 N h)) else none) else (fX9_isHole_b68 N h))
set_option maxRecDepth 100000 in
set_option maxHeartbeats 4000000 in
theorem tX9_isHole_b31 {X : Xt} {v : Int32} {h' : pH} (N : Nat) (h : pH) (x1 : Int32) (x2 : Int32) (xs0 : Int32) (B : Bd (lo X) (qo X) cX9_isHole RX9 4 (some .boolean) 0 0 (some (.int v)) h' X) (hf : fX9_isHole_b31 N h x1 x2 xs0 = some (v, h')) : Wx X 4 31 [(0, rf (qo X) 49), (1, .int x1), (2, .int x2)] [.int xs0] h := by
  have C := B.1
  unfold fX9_isHole_b31 at hf
  refine x_istore_n (i := 3) (lv' := [(3, .int xs0), (0, rf (qo X) 49), (1, .int x1), (2, .int x2)]) C dX9_isHole_31 rfl (by decide) rfl ?_
  refine x_iload_n (i := 2) 3 C dX9_isHole_32 rfl rfl ?_
  refine x_aload_n (i := 0) 1 C dX9_isHole_33 rfl rfl ?_
  refine x_getI (r := 49) C dX9_isHole_34 kfX9_155 rfl ?_
  refine x_icmp_eq (tgt := 68) C dX9_isHole_37 (by decide) (fun c => ?_) (fun c => ?_)
  · rw [if_pos c] at hf
    refine x_lv [] rfl ?_
    exact tX9_isHole_b68 N h B hf
  · rw [if_neg c] at hf
    refine x_iload_n (i := 3) 0 C dX9_isHole_40 rfl rfl ?_
    refine x_if_ne (tgt := 68) C dX9_isHole_41 (by decide) (fun c => ?_) (fun c => ?_)
    · rw [if_neg c] at hf
      refine x_lv [] rfl ?_
      exact tX9_isHole_b68 N h B hf
    · rw [if_pos c] at hf
      refine x_aload_n (i := 0) 1 C dX9_isHole_44 rfl rfl ?_
      refine x_getR (r := 49) (r2 := 56) C dX9_isHole_45 kfX9_28 rfl rfl (by decide) ?_
      refine x_iload_n (i := 2) 3 C dX9_isHole_48 rfl rfl ?_
      obtain ⟨g1, hf⟩ := ife hf
      refine x_iald (r := 56) C dX9_isHole_49 rfl g1 ?_
      refine x_iconst (v := 1) C dX9_isHole_50 (by decide) ?_
      refine x_icmp_ne (tgt := 72) C dX9_isHole_51 (by decide) (fun c => ?_) (fun c => ?_)
      · rw [if_neg c] at hf
        refine x_lv [] rfl ?_
        exact tX9_isHole_b72 N h B hf
      · rw [if_pos c] at hf
        refine x_aload_n (i := 0) 1 C dX9_isHole_54 rfl rfl ?_
        refine x_getR (r := 49) (r2 := 57) C dX9_isHole_55 kfX9_31 rfl rfl (by decide) ?_
        refine x_iconst (v := 4) C dX9_isHole_58 (by decide) ?_
        refine x_iload_n (i := 1) 2 C dX9_isHole_59 rfl rfl ?_
        refine x_imul C dX9_isHole_60 ?_
        refine x_iconst (v := 1) C dX9_isHole_61 (by decide) ?_
        refine x_iadd C dX9_isHole_62 ?_
        obtain ⟨g2, hf⟩ := ife hf
        refine x_iald (r := 57) C dX9_isHole_63 rfl g2 ?_
        refine x_iconst (v := 5) C dX9_isHole_64 (by decide) ?_
        refine x_icmp_le (tgt := 72) C dX9_isHole_65 (by decide) (fun c => ?_) (fun c => ?_)
        · rw [if_pos c] at hf
          refine x_lv [] rfl ?_
          exact tX9_isHole_b72 N h B hf
        · rw [if_neg c] at hf
          refine x_lv [] rfl ?_
          exact tX9_isHole_b68 N h B hf
def fX9_isHole_b30 (N : Nat) (h : pH) (x1 : Int32) (x2 : Int32) : Option (Int32 × pH) :=
  fX9_isHole_b31 N h x1 x2 0
set_option maxRecDepth 100000 in
set_option maxHeartbeats 4000000 in
theorem tX9_isHole_b30 {X : Xt} {v : Int32} {h' : pH} (N : Nat) (h : pH) (x1 : Int32) (x2 : Int32) (B : Bd (lo X) (qo X) cX9_isHole RX9 4 (some .boolean) 0 0 (some (.int v)) h' X) (hf : fX9_isHole_b30 N h x1 x2 = some (v, h')) : Wx X 4 30 [(0, rf (qo X) 49), (1, .int x1), (2, .int x2)] [] h := by
  have C := B.1
  unfold fX9_isHole_b30 at hf
  refine x_iconst (v := 0) C dX9_isHole_30 (by decide) ?_
  exact tX9_isHole_b31 N h x1 x2 0 B hf
def fX9_isHole (N : Nat) (h : pH) (x1 : Int32) (x2 : Int32) : Option (Int32 × pH) :=
  if ix (0 : Int32) 2 = true then (if (h.1 59 (0 : Int32).toNatClampNeg) ≤ 6 then (fX9_isHole_b30 N h x1 x2) else (if ¬ (h.1 49 7) = 0 then (if x2 = (((h.1 49 19) + 1) - ((h.1 49 19) + 1) / (h.1 49 7) * (h.1 49 7)) then (fX9_isHole_b31 N h x1 x2 1) else (fX9_isHole_b30 N h x1 x2)) else none)) else none
set_option maxRecDepth 100000 in
set_option maxHeartbeats 4000000 in
theorem tX9_isHole {X : Xt} {v : Int32} {h' : pH} (N : Nat) (h : pH) (x1 : Int32) (x2 : Int32) (B : Bd (lo X) (qo X) cX9_isHole RX9 4 (some .boolean) 0 0 (some (.int v)) h' X) (hf : fX9_isHole N h x1 x2 = some (v, h')) : Wx X 4 0 [(0, rf (qo X) 49), (1, .int x1), (2, .int x2)] [] h := by
  have C := B.1
  unfold fX9_isHole at hf
  refine x_aload_n (i := 0) 0 C dX9_isHole_0 rfl rfl ?_
  refine x_getR (r := 49) (r2 := 59) C dX9_isHole_1 kfX9_37 rfl rfl (by decide) ?_
  refine x_iconst (v := 0) C dX9_isHole_4 (by decide) ?_
  obtain ⟨g1, hf⟩ := ife hf
  refine x_iald (r := 59) C dX9_isHole_5 rfl g1 ?_
  refine x_bipush (v := 6) C dX9_isHole_6 (by decide) ?_
  refine x_icmp_le (tgt := 30) C dX9_isHole_8 (by decide) (fun c => ?_) (fun c => ?_)
  · rw [if_pos c] at hf
    exact tX9_isHole_b30 N h x1 x2 B hf
  · rw [if_neg c] at hf
    refine x_iload_n (i := 2) 2 C dX9_isHole_11 rfl rfl ?_
    refine x_aload_n (i := 0) 0 C dX9_isHole_12 rfl rfl ?_
    refine x_getI (r := 49) C dX9_isHole_13 kfX9_155 rfl ?_
    refine x_iconst (v := 1) C dX9_isHole_16 (by decide) ?_
    refine x_iadd C dX9_isHole_17 ?_
    refine x_aload_n (i := 0) 0 C dX9_isHole_18 rfl rfl ?_
    refine x_getI (r := 49) C dX9_isHole_19 kfX9_103 rfl ?_
    obtain ⟨g2, hf⟩ := ife hf
    refine x_irem C dX9_isHole_22 g2 ?_
    refine x_icmp_ne (tgt := 30) C dX9_isHole_23 (by decide) (fun c => ?_) (fun c => ?_)
    · rw [if_neg c] at hf
      exact tX9_isHole_b30 N h x1 x2 B hf
    · rw [if_pos c] at hf
      refine x_iconst (v := 1) C dX9_isHole_26 (by decide) ?_
      refine x_goto (tgt := 31) C dX9_isHole_27 (by decide) ?_
      exact tX9_isHole_b31 N h x1 x2 1 B hf
theorem ctX9_isHole (l : Launch) (q : Nat → Nat) (N : Nat) (h : pH) (x1 : Int32) (x2 : Int32) (v : Int32) (h' : pH) (hf : fX9_isHole N h x1 x2 = some (v, h')) : Ctr l q yX9_isHole cX9_isHole 4 (some .boolean) 0 0 [rf q 49, .int x1, .int x2] h h' (some (.int v)) := by
  refine ct_of (own := RX9) (lv := [(0, rf q 49), (1, .int x1), (2, .int x2)]) (by decide +kernel) rfl (by simp [lg_sl, rf_cat, cat_i, cat_l]) (by first | rfl | simp [lv_args, rf_cat, cat_i, cat_l]) ?_
  intro X B
  obtain rfl := B.2.1
  obtain rfl := B.2.2.1
  exact tX9_isHole N h x1 x2 B hf
def fX9_looks_b65 (N : Nat) (k14 : pH → Int32 → Int32 → Int32 → Option (Unit × pH)) (h : pH) (x1 : Int32) (x3 : Int32) (xs0 : Int32) : Option (Unit × pH) :=
  (fX9_greater N h xs0 (h.1 49 22)).bind fun z1 => (k14 (pw z1.2 49 22 z1.1) x1 xs0 (x3 + 1))
set_option maxRecDepth 100000 in
set_option maxHeartbeats 4000000 in
theorem tX9_looks_b65 {X : Xt} {v : Unit} {h' : pH} (N : Nat) (k14 : pH → Int32 → Int32 → Int32 → Option (Unit × pH)) (HK14 : ∀ (h : pH) (x1 : Int32) (x2 : Int32) (x3 : Int32), k14 h x1 x2 x3 = some (v, h') → Wx X 5 14 [(0, rf (qo X) 49), (1, .int x1), (2, .int x2), (3, .int x3)] [] h) (h : pH) (x1 : Int32) (x3 : Int32) (xs0 : Int32) (B : Bd (lo X) (qo X) cX9_looks RX9 5 none 1 23 none h' X) (hf : fX9_looks_b65 N k14 h x1 x3 xs0 = some (v, h')) : Wx X 5 65 [(0, rf (qo X) 49), (1, .int x1), (3, .int x3)] [.int xs0] h := by
  have C := B.1
  unfold fX9_looks_b65 at hf
  refine x_istore_n (i := 2) (lv' := [(2, .int xs0), (0, rf (qo X) 49), (1, .int x1), (3, .int x3)]) C dX9_looks_65 rfl (by decide) rfl ?_
  refine x_aload_n (i := 0) 1 C dX9_looks_66 rfl rfl ?_
  refine x_iload_n (i := 2) 0 C dX9_looks_67 rfl rfl ?_
  refine x_aload_n (i := 0) 1 C dX9_looks_68 rfl rfl ?_
  refine x_getI (r := 49) C dX9_looks_69 kfX9_161 rfl ?_
  obtain ⟨z1, e1, hf⟩ := bnd hf
  refine x_callS (As := [.int xs0, .int (h.1 49 22)]) (rest := [rf (qo X) 49]) C dX9_looks_72 kmX9_168 miX9_greater (ctX9_greater (lo X) (qo X) N h xs0 (h.1 49 22) z1.1 z1.2 e1) rfl rfl ⟨Nat.le_trans (by decide) B.2.2.2.1, Nat.le_trans (by decide) B.2.2.2.2.1⟩ (by simp [cat_i, cat_l, rf_cat]) ?_
  refine x_putI (r := 49) C dX9_looks_75 kfX9_161 rfl rfl rfl ?_
  refine x_iinc (v := x3 + 1) (lv' := [(3, .int (x3 + 1)), (2, .int xs0), (0, rf (qo X) 49), (1, .int x1)]) 3 C dX9_looks_78 rfl rfl (by decide) rfl ?_
  refine x_goto (tgt := 14) C dX9_looks_81 (by decide) ?_
  refine x_lv [2, 3, 1, 0] rfl ?_
  exact HK14 (pw z1.2 49 22 z1.1) x1 xs0 (x3 + 1) hf
def fX9_looks_b49 (N : Nat) (k14 : pH → Int32 → Int32 → Int32 → Option (Unit × pH)) (h : pH) (x1 : Int32) (x2 : Int32) (x3 : Int32) (x4 : Int32) (xs0 : Int32) (xs1 : Int32) : Option (Unit × pH) :=
  if x4 = 0 then (fX9_looks_b65 N k14 (pw h 49 21 (xs1 + xs0)) x1 x3 0) else (fX9_looks_b65 N k14 (pw h 49 21 (xs1 + xs0)) x1 x3 (x2 + 1))
set_option maxRecDepth 100000 in
set_option maxHeartbeats 4000000 in
theorem tX9_looks_b49 {X : Xt} {v : Unit} {h' : pH} (N : Nat) (k14 : pH → Int32 → Int32 → Int32 → Option (Unit × pH)) (HK14 : ∀ (h : pH) (x1 : Int32) (x2 : Int32) (x3 : Int32), k14 h x1 x2 x3 = some (v, h') → Wx X 5 14 [(0, rf (qo X) 49), (1, .int x1), (2, .int x2), (3, .int x3)] [] h) (h : pH) (x1 : Int32) (x2 : Int32) (x3 : Int32) (x4 : Int32) (xs0 : Int32) (xs1 : Int32) (B : Bd (lo X) (qo X) cX9_looks RX9 5 none 1 23 none h' X) (hf : fX9_looks_b49 N k14 h x1 x2 x3 x4 xs0 xs1 = some (v, h')) : Wx X 5 49 [(0, rf (qo X) 49), (1, .int x1), (2, .int x2), (3, .int x3), (4, .int x4)] [.int xs0, .int xs1, rf (qo X) 49] h := by
  have C := B.1
  unfold fX9_looks_b49 at hf
  refine x_iadd C dX9_looks_49 ?_
  refine x_putI (r := 49) C dX9_looks_50 kfX9_158 rfl rfl rfl ?_
  refine x_iload 4 C dX9_looks_53 rfl ?_
  refine x_if_eq (tgt := 64) C dX9_looks_55 (by decide) (fun c => ?_) (fun c => ?_)
  · rw [if_pos c] at hf
    refine x_iconst (v := 0) C dX9_looks_64 (by decide) ?_
    refine x_lv [0, 1, 3] rfl ?_
    exact tX9_looks_b65 N k14 HK14 (pw h 49 21 (xs1 + xs0)) x1 x3 0 B hf
  · rw [if_neg c] at hf
    refine x_iload_n (i := 2) 2 C dX9_looks_58 rfl rfl ?_
    refine x_iconst (v := 1) C dX9_looks_59 (by decide) ?_
    refine x_iadd C dX9_looks_60 ?_
    refine x_goto (tgt := 65) C dX9_looks_61 (by decide) ?_
    refine x_lv [0, 1, 3] rfl ?_
    exact tX9_looks_b65 N k14 HK14 (pw h 49 21 (xs1 + xs0)) x1 x3 (x2 + 1) B hf
def fX9_looks_b48 (N : Nat) (k14 : pH → Int32 → Int32 → Int32 → Option (Unit × pH)) (h : pH) (x1 : Int32) (x2 : Int32) (x3 : Int32) (x4 : Int32) (xs0 : Int32) : Option (Unit × pH) :=
  fX9_looks_b49 N k14 h x1 x2 x3 x4 0 xs0
set_option maxRecDepth 100000 in
set_option maxHeartbeats 4000000 in
theorem tX9_looks_b48 {X : Xt} {v : Unit} {h' : pH} (N : Nat) (k14 : pH → Int32 → Int32 → Int32 → Option (Unit × pH)) (HK14 : ∀ (h : pH) (x1 : Int32) (x2 : Int32) (x3 : Int32), k14 h x1 x2 x3 = some (v, h') → Wx X 5 14 [(0, rf (qo X) 49), (1, .int x1), (2, .int x2), (3, .int x3)] [] h) (h : pH) (x1 : Int32) (x2 : Int32) (x3 : Int32) (x4 : Int32) (xs0 : Int32) (B : Bd (lo X) (qo X) cX9_looks RX9 5 none 1 23 none h' X) (hf : fX9_looks_b48 N k14 h x1 x2 x3 x4 xs0 = some (v, h')) : Wx X 5 48 [(0, rf (qo X) 49), (1, .int x1), (2, .int x2), (3, .int x3), (4, .int x4)] [.int xs0, rf (qo X) 49] h := by
  have C := B.1
  unfold fX9_looks_b48 at hf
  refine x_iconst (v := 0) C dX9_looks_48 (by decide) ?_
  exact tX9_looks_b49 N k14 HK14 h x1 x2 x3 x4 0 xs0 B hf
def fX9_looks_B14 (N : Nat) (k14 : pH → Int32 → Int32 → Int32 → Option (Unit × pH)) (h : pH) (x1 : Int32) (x2 : Int32) (x3 : Int32) : Option (Unit × pH) :=
  if (h.1 49 7) ≤ x3 then (some ((), h)) else ((fX9_isHole N h x1 x3).bind fun z1 => (if z1.1 = 0 then (fX9_looks_b48 N k14 z1.2 x1 x2 x3 z1.1 (z1.2.1 49 21)) else (if x2 = 0 then (fX9_looks_b49 N k14 z1.2 x1 x2 x3 z1.1 1 (z1.2.1 49 21)) else (fX9_looks_b48 N k14 z1.2 x1 x2 x3 z1.1 (z1.2.1 49 21)))))
set_option maxRecDepth 100000 in
set_option maxHeartbeats 4000000 in
theorem tX9_looks_B14 {X : Xt} {v : Unit} {h' : pH} (N : Nat) (k14 : pH → Int32 → Int32 → Int32 → Option (Unit × pH)) (HK14 : ∀ (h : pH) (x1 : Int32) (x2 : Int32) (x3 : Int32), k14 h x1 x2 x3 = some (v, h') → Wx X 5 14 [(0, rf (qo X) 49), (1, .int x1), (2, .int x2), (3, .int x3)] [] h) (h : pH) (x1 : Int32) (x2 : Int32) (x3 : Int32) (B : Bd (lo X) (qo X) cX9_looks RX9 5 none 1 23 none h' X) (hf : fX9_looks_B14 N k14 h x1 x2 x3 = some (v, h')) : Wx X 5 14 [(0, rf (qo X) 49), (1, .int x1), (2, .int x2), (3, .int x3)] [] h := by
  have C := B.1
  unfold fX9_looks_B14 at hf
  refine x_iload_n (i := 3) 3 C dX9_looks_14 rfl rfl ?_
  refine x_aload_n (i := 0) 0 C dX9_looks_15 rfl rfl ?_
  refine x_getI (r := 49) C dX9_looks_16 kfX9_103 rfl ?_
  refine x_icmp_ge (tgt := 84) C dX9_looks_19 (by decide) (fun c => ?_) (fun c => ?_)
  · rw [if_pos c] at hf
    cases hf
    exact B.2.2.2.2.2.2.2.2.2 rfl rfl _ _ dX9_looks_84
  · rw [if_neg c] at hf
    refine x_aload_n (i := 0) 0 C dX9_looks_22 rfl rfl ?_
    refine x_iload_n (i := 1) 1 C dX9_looks_23 rfl rfl ?_
    refine x_iload_n (i := 3) 3 C dX9_looks_24 rfl rfl ?_
    obtain ⟨z1, e1, hf⟩ := bnd hf
    refine x_callV (r := 49) (As := [.int x1, .int x3]) (rest := []) C dX9_looks_25 kmX9_164 miX9_isHole (ctX9_isHole (lo X) (qo X) N h x1 x3 z1.1 z1.2 e1) rfl rfl ⟨Nat.le_trans (by decide) B.2.2.2.1, Nat.le_trans (by decide) B.2.2.2.2.1⟩ (by simp [cat_i, cat_l, rf_cat]) rfl ?_
    refine x_istore (lv' := [(4, .int z1.1), (0, rf (qo X) 49), (1, .int x1), (2, .int x2), (3, .int x3)]) C dX9_looks_28 (by decide) rfl ?_
    refine x_aload_n (i := 0) 1 C dX9_looks_30 rfl rfl ?_
    refine x_dupA C dX9_looks_31 ?_
    refine x_getI (r := 49) C dX9_looks_32 kfX9_158 rfl ?_
    refine x_iload 0 C dX9_looks_35 rfl ?_
    refine x_if_eq (tgt := 48) C dX9_looks_37 (by decide) (fun c => ?_) (fun c => ?_)
    · rw [if_pos c] at hf
      refine x_lv [1, 2, 3, 4, 0] rfl ?_
      exact tX9_looks_b48 N k14 HK14 z1.2 x1 x2 x3 z1.1 (z1.2.1 49 21) B hf
    · rw [if_neg c] at hf
      refine x_iload_n (i := 2) 3 C dX9_looks_40 rfl rfl ?_
      refine x_if_ne (tgt := 48) C dX9_looks_41 (by decide) (fun c => ?_) (fun c => ?_)
      · rw [if_neg c] at hf
        refine x_lv [1, 2, 3, 4, 0] rfl ?_
        exact tX9_looks_b48 N k14 HK14 z1.2 x1 x2 x3 z1.1 (z1.2.1 49 21) B hf
      · rw [if_pos c] at hf
        refine x_iconst (v := 1) C dX9_looks_44 (by decide) ?_
        refine x_goto (tgt := 49) C dX9_looks_45 (by decide) ?_
        refine x_lv [1, 2, 3, 4, 0] rfl ?_
        exact tX9_looks_b49 N k14 HK14 z1.2 x1 x2 x3 z1.1 1 (z1.2.1 49 21) B hf
def fX9_looks_L14 (N : Nat) : Nat → pH → Int32 → Int32 → Int32 → Option (Unit × pH)
  | 0 => fun _ _ _ _ => none
  | n + 1 => fX9_looks_B14 N (fX9_looks_L14 N n)
theorem tX9_looks_L14 {X : Xt} {v : Unit} {h' : pH} (N : Nat) (B : Bd (lo X) (qo X) cX9_looks RX9 5 none 1 23 none h' X) : ∀ (n : Nat) (h : pH) (x1 : Int32) (x2 : Int32) (x3 : Int32), fX9_looks_L14 N n h x1 x2 x3 = some (v, h') → Wx X 5 14 [(0, rf (qo X) 49), (1, .int x1), (2, .int x2), (3, .int x3)] [] h := by
  intro n
  induction n with
  | zero => intro h x1 x2 x3 hf; exact absurd (show (none : Option (Unit × pH)) = some (v, h') from hf) (fun z => by cases z)
  | succ n ih => intro h x1 x2 x3 hf; exact tX9_looks_B14 N (fX9_looks_L14 N n) ih h x1 x2 x3 B hf
def fX9_looks (N : Nat) (h : pH) (x1 : Int32) : Option (Unit × pH) :=
  fX9_looks_L14 N N (pw (pw h 49 21 0) 49 22 0) x1 0 0
set_option maxRecDepth 100000 in
set_option maxHeartbeats 4000000 in
theorem tX9_looks {X : Xt} {v : Unit} {h' : pH} (N : Nat) (h : pH) (x1 : Int32) (B : Bd (lo X) (qo X) cX9_looks RX9 5 none 1 23 none h' X) (hf : fX9_looks N h x1 = some (v, h')) : Wx X 5 0 [(0, rf (qo X) 49), (1, .int x1)] [] h := by
  have C := B.1
  unfold fX9_looks at hf
  refine x_aload_n (i := 0) 0 C dX9_looks_0 rfl rfl ?_
  refine x_iconst (v := 0) C dX9_looks_1 (by decide) ?_
  refine x_putI (r := 49) C dX9_looks_2 kfX9_158 rfl rfl rfl ?_
  refine x_aload_n (i := 0) 0 C dX9_looks_5 rfl rfl ?_
  refine x_iconst (v := 0) C dX9_looks_6 (by decide) ?_
  refine x_putI (r := 49) C dX9_looks_7 kfX9_161 rfl rfl rfl ?_
  refine x_iconst (v := 0) C dX9_looks_10 (by decide) ?_
  refine x_istore_n (i := 2) (lv' := [(2, .int 0), (0, rf (qo X) 49), (1, .int x1)]) C dX9_looks_11 rfl (by decide) rfl ?_
  refine x_iconst (v := 0) C dX9_looks_12 (by decide) ?_
  refine x_istore_n (i := 3) (lv' := [(3, .int 0), (2, .int 0), (0, rf (qo X) 49), (1, .int x1)]) C dX9_looks_13 rfl (by decide) rfl ?_
  refine x_lv [2, 3, 1, 0] rfl ?_
  exact tX9_looks_L14 N  B N (pw (pw h 49 21 0) 49 22 0) x1 0 0 hf
theorem ctX9_looks (l : Launch) (q : Nat → Nat) (N : Nat) (h : pH) (x1 : Int32) (v : Unit) (h' : pH) (hf : fX9_looks N h x1 = some (v, h')) : Ctr l q yX9_looks cX9_looks 5 none 1 23 [rf q 49, .int x1] h h' none := by
  refine ct_of (own := RX9) (lv := [(0, rf q 49), (1, .int x1)]) (by decide +kernel) rfl (by simp [lg_sl, rf_cat, cat_i, cat_l]) (by first | rfl | simp [lv_args, rf_cat, cat_i, cat_l]) ?_
  intro X B
  obtain rfl := B.2.1
  obtain rfl := B.2.2.1
  exact tX9_looks N h x1 B hf
def fX9_seen_b24 (N : Nat) (h : pH)  : Option (Int32 × pH) :=
  some ((-2), h)
set_option maxRecDepth 100000 in
set_option maxHeartbeats 4000000 in
theorem tX9_seen_b24 {X : Xt} {v : Int32} {h' : pH} (N : Nat) (h : pH)  (B : Bd (lo X) (qo X) cX9_seen RX9 3 (some .int) 1 25 (some (.int v)) h' X) (hf : fX9_seen_b24 N h  = some (v, h')) : Wx X 3 24 [] [] h := by
  have C := B.1
  unfold fX9_seen_b24 at hf
  refine x_bipush (v := (-2)) C dX9_seen_24 (by decide) ?_
  cases hf
  exact B.2.2.2.2.2.1 _ _ rfl rfl rfl _ _ dX9_seen_26
def fX9_seen (N : Nat) (h : pH) (x1 : Int32) (x2 : Int32) : Option (Int32 × pH) :=
  (fX9_in N h x1.toInt64 0 24).bind fun z1 => (if z1.1 = 0 then (fX9_seen_b24 N z1.2) else ((fX9_in N z1.2 x2.toInt64 0 18).bind fun z2 => (if z2.1 = 0 then (fX9_seen_b24 N z2.2) else (if (z2.2.1 49 27) = 8 then (some ((-4), z2.2)) else (if ix (2 * (z2.2.1 49 27)) 16 = true then (if ix ((2 * ((pw z2.2 67 (2 * (z2.2.1 49 27)).toNatClampNeg x1).1 49 27)) + 1) 16 = true then (some ((pw (pw (pw z2.2 67 (2 * (z2.2.1 49 27)).toNatClampNeg x1) 67 ((2 * ((pw z2.2 67 (2 * (z2.2.1 49 27)).toNatClampNeg x1).1 49 27)) + 1).toNatClampNeg x2) 49 27 (((pw (pw z2.2 67 (2 * (z2.2.1 49 27)).toNatClampNeg x1) 67 ((2 * ((pw z2.2 67 (2 * (z2.2.1 49 27)).toNatClampNeg x1).1 49 27)) + 1).toNatClampNeg x2).1 49 27) + 1)).1 49 27, (pw (pw (pw z2.2 67 (2 * (z2.2.1 49 27)).toNatClampNeg x1) 67 ((2 * ((pw z2.2 67 (2 * (z2.2.1 49 27)).toNatClampNeg x1).1 49 27)) + 1).toNatClampNeg x2) 49 27 (((pw (pw z2.2 67 (2 * (z2.2.1 49 27)).toNatClampNeg x1) 67 ((2 * ((pw z2.2 67 (2 * (z2.2.1 49 27)).toNatClampNeg x1).1 49 27)) + 1).toNatClampNeg x2).1 49 27) + 1)))) else none) else none)))))
set_option maxRecDepth 100000 in
set_option maxHeartbeats 4000000 in
theorem tX9_seen {X : Xt} {v : Int32} {h' : pH} (N : Nat) (h : pH) (x1 : Int32) (x2 : Int32) (B : Bd (lo X) (qo X) cX9_seen RX9 3 (some .int) 1 25 (some (.int v)) h' X) (hf : fX9_seen N h x1 x2 = some (v, h')) : Wx X 3 0 [(0, rf (qo X) 49), (1, .int x1), (2, .int x2)] [] h := by
  have C := B.1
  unfold fX9_seen at hf
  refine x_iload_n (i := 1) 1 C dX9_seen_0 rfl rfl ?_
  refine x_i2l C dX9_seen_1 ?_
  refine x_lconst (v := 0) C dX9_seen_2 (by decide) ?_
  refine x_ldc2 (v := 24) C dX9_seen_3 kkX9_239 ?_
  obtain ⟨z1, e1, hf⟩ := bnd hf
  refine x_callS (As := [.long x1.toInt64, .long 0, .long 24]) (rest := []) C dX9_seen_6 kmX9_69 miX9_in (ctX9_in (lo X) (qo X) N h x1.toInt64 0 24 z1.1 z1.2 e1) rfl rfl ⟨Nat.le_trans (by decide) B.2.2.2.1, Nat.le_trans (by decide) B.2.2.2.2.1⟩ (by simp [cat_i, cat_l, rf_cat]) ?_
  refine x_if_eq (tgt := 24) C dX9_seen_9 (by decide) (fun c => ?_) (fun c => ?_)
  · rw [if_pos c] at hf
    refine x_lv [] rfl ?_
    exact tX9_seen_b24 N z1.2 B hf
  · rw [if_neg c] at hf
    refine x_iload_n (i := 2) 2 C dX9_seen_12 rfl rfl ?_
    refine x_i2l C dX9_seen_13 ?_
    refine x_lconst (v := 0) C dX9_seen_14 (by decide) ?_
    refine x_ldc2 (v := 18) C dX9_seen_15 kkX9_141 ?_
    obtain ⟨z2, e2, hf⟩ := bnd hf
    refine x_callS (As := [.long x2.toInt64, .long 0, .long 18]) (rest := []) C dX9_seen_18 kmX9_69 miX9_in (ctX9_in (lo X) (qo X) N z1.2 x2.toInt64 0 18 z2.1 z2.2 e2) rfl rfl ⟨Nat.le_trans (by decide) B.2.2.2.1, Nat.le_trans (by decide) B.2.2.2.2.1⟩ (by simp [cat_i, cat_l, rf_cat]) ?_
    refine x_if_ne (tgt := 27) C dX9_seen_21 (by decide) (fun c => ?_) (fun c => ?_)
    · rw [if_neg c] at hf
      refine x_aload_n (i := 0) 0 C dX9_seen_27 rfl rfl ?_
      refine x_getI (r := 49) C dX9_seen_28 kfX9_241 rfl ?_
      refine x_bipush (v := 8) C dX9_seen_31 (by decide) ?_
      refine x_icmp_ne (tgt := 39) C dX9_seen_33 (by decide) (fun c => ?_) (fun c => ?_)
      · rw [if_neg c] at hf
        refine x_aload_n (i := 0) 0 C dX9_seen_39 rfl rfl ?_
        refine x_getR (r := 49) (r2 := 67) C dX9_seen_40 kfX9_61 rfl rfl (by decide) ?_
        refine x_iconst (v := 2) C dX9_seen_43 (by decide) ?_
        refine x_aload_n (i := 0) 0 C dX9_seen_44 rfl rfl ?_
        refine x_getI (r := 49) C dX9_seen_45 kfX9_241 rfl ?_
        refine x_imul C dX9_seen_48 ?_
        refine x_iload_n (i := 1) 1 C dX9_seen_49 rfl rfl ?_
        obtain ⟨g1, hf⟩ := ife hf
        refine x_iast (r := 67) C dX9_seen_50 rfl g1 ?_
        refine x_aload_n (i := 0) 0 C dX9_seen_51 rfl rfl ?_
        refine x_getR (r := 49) (r2 := 67) C dX9_seen_52 kfX9_61 rfl rfl (by decide) ?_
        refine x_iconst (v := 2) C dX9_seen_55 (by decide) ?_
        refine x_aload_n (i := 0) 0 C dX9_seen_56 rfl rfl ?_
        refine x_getI (r := 49) C dX9_seen_57 kfX9_241 rfl ?_
        refine x_imul C dX9_seen_60 ?_
        refine x_iconst (v := 1) C dX9_seen_61 (by decide) ?_
        refine x_iadd C dX9_seen_62 ?_
        refine x_iload_n (i := 2) 2 C dX9_seen_63 rfl rfl ?_
        obtain ⟨g2, hf⟩ := ife hf
        refine x_iast (r := 67) C dX9_seen_64 rfl g2 ?_
        refine x_aload_n (i := 0) 0 C dX9_seen_65 rfl rfl ?_
        refine x_dupA C dX9_seen_66 ?_
        refine x_getI (r := 49) C dX9_seen_67 kfX9_241 rfl ?_
        refine x_iconst (v := 1) C dX9_seen_70 (by decide) ?_
        refine x_iadd C dX9_seen_71 ?_
        refine x_putI (r := 49) C dX9_seen_72 kfX9_241 rfl rfl rfl ?_
        refine x_aload_n (i := 0) 0 C dX9_seen_75 rfl rfl ?_
        refine x_getI (r := 49) C dX9_seen_76 kfX9_241 rfl ?_
        cases hf
        exact B.2.2.2.2.2.1 _ _ rfl rfl rfl _ _ dX9_seen_79
      · rw [if_pos c] at hf
        refine x_bipush (v := (-4)) C dX9_seen_36 (by decide) ?_
        cases hf
        exact B.2.2.2.2.2.1 _ _ rfl rfl rfl _ _ dX9_seen_38
    · rw [if_pos c] at hf
      refine x_lv [] rfl ?_
      exact tX9_seen_b24 N z2.2 B hf
theorem ctX9_seen (l : Launch) (q : Nat → Nat) (N : Nat) (h : pH) (x1 : Int32) (x2 : Int32) (v : Int32) (h' : pH) (hf : fX9_seen N h x1 x2 = some (v, h')) : Ctr l q yX9_seen cX9_seen 3 (some .int) 1 25 [rf q 49, .int x1, .int x2] h h' (some (.int v)) := by
  refine ct_of (own := RX9) (lv := [(0, rf q 49), (1, .int x1), (2, .int x2)]) (by decide +kernel) rfl (by simp [lg_sl, rf_cat, cat_i, cat_l]) (by first | rfl | simp [lv_args, rf_cat, cat_i, cat_l]) ?_
  intro X B
  obtain rfl := B.2.1
  obtain rfl := B.2.2.1
  exact tX9_seen N h x1 x2 B hf
end
