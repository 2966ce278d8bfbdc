section
-- ===== PART A: goes FIRST, ahead of the names: the tables' words, and 'selects' of the private methods out of them =====
/-- a private method of a class that the tables say can be made, by its rows of tables_1 -/
def lw_okq (q : MethodName × Nat) : Prop := (q.1.cls ≠ "java/lang/invoke/MethodHandle" ∧ q.1.cls ≠ "java/lang/invoke/VarHandle") ∧ Cond.instantiable q.1.cls q.2 ∈ tables_1 ∧ Cond.privateMethod q.1 ∈ tables_1 ∧ Cond.instanceMethod q.1 ∈ tables_1
theorem lw_p0 : lw_okq (⟨"BernoulliWays", "allRightBelow", "(I)Z"⟩, 16) := ⟨⟨by decide +kernel, by decide +kernel⟩, List.mem_of_getElem? (i := 22) (by decide +kernel), List.mem_of_getElem? (i := 311) (by decide +kernel), List.mem_of_getElem? (i := 312) (by decide +kernel)⟩
theorem lw_p1 : lw_okq (⟨"BernoulliWays", "isRight", "(I)Z"⟩, 16) := ⟨⟨by decide +kernel, by decide +kernel⟩, List.mem_of_getElem? (i := 22) (by decide +kernel), List.mem_of_getElem? (i := 315) (by decide +kernel), List.mem_of_getElem? (i := 316) (by decide +kernel)⟩
theorem lw_p2 : lw_okq (⟨"BernoulliWays", "layOne", "(II)Z"⟩, 16) := ⟨⟨by decide +kernel, by decide +kernel⟩, List.mem_of_getElem? (i := 22) (by decide +kernel), List.mem_of_getElem? (i := 335) (by decide +kernel), List.mem_of_getElem? (i := 336) (by decide +kernel)⟩
theorem lw_p3 : lw_okq (⟨"BernoulliWays", "work", "(II)V"⟩, 16) := ⟨⟨by decide +kernel, by decide +kernel⟩, List.mem_of_getElem? (i := 22) (by decide +kernel), List.mem_of_getElem? (i := 339) (by decide +kernel), List.mem_of_getElem? (i := 340) (by decide +kernel)⟩
theorem lw_p4 : lw_okq (⟨"BernoulliWays", "workRecurrence", "(I)V"⟩, 16) := ⟨⟨by decide +kernel, by decide +kernel⟩, List.mem_of_getElem? (i := 22) (by decide +kernel), List.mem_of_getElem? (i := 343) (by decide +kernel), List.mem_of_getElem? (i := 344) (by decide +kernel)⟩
theorem lw_p5 : lw_okq (⟨"BernoulliWays", "workAsTold", "(I)V"⟩, 16) := ⟨⟨by decide +kernel, by decide +kernel⟩, List.mem_of_getElem? (i := 22) (by decide +kernel), List.mem_of_getElem? (i := 347) (by decide +kernel), List.mem_of_getElem? (i := 348) (by decide +kernel)⟩
theorem lw_p6 : lw_okq (⟨"BernoulliWays$Checks", "addEntry", "(JI)V"⟩, 3) := ⟨⟨by decide +kernel, by decide +kernel⟩, List.mem_of_getElem? (i := 118) (by decide +kernel), List.mem_of_getElem? (i := 370) (by decide +kernel), List.mem_of_getElem? (i := 371) (by decide +kernel)⟩
theorem lw_p7 : lw_okq (⟨"BernoulliWays", "workTriangle", "(I)V"⟩, 16) := ⟨⟨by decide +kernel, by decide +kernel⟩, List.mem_of_getElem? (i := 22) (by decide +kernel), List.mem_of_getElem? (i := 397) (by decide +kernel), List.mem_of_getElem? (i := 398) (by decide +kernel)⟩
theorem lw_p8 : lw_okq (⟨"BernoulliWays", "workSieve", "(I)V"⟩, 16) := ⟨⟨by decide +kernel, by decide +kernel⟩, List.mem_of_getElem? (i := 22) (by decide +kernel), List.mem_of_getElem? (i := 401) (by decide +kernel), List.mem_of_getElem? (i := 402) (by decide +kernel)⟩
theorem lw_p9 : lw_okq (⟨"BernoulliWays", "sievedWhole", "(I)J"⟩, 16) := ⟨⟨by decide +kernel, by decide +kernel⟩, List.mem_of_getElem? (i := 22) (by decide +kernel), List.mem_of_getElem? (i := 410) (by decide +kernel), List.mem_of_getElem? (i := 411) (by decide +kernel)⟩
theorem lw_p10 : lw_okq (⟨"BernoulliWays", "addPrimesBelow", "(II)V"⟩, 16) := ⟨⟨by decide +kernel, by decide +kernel⟩, List.mem_of_getElem? (i := 22) (by decide +kernel), List.mem_of_getElem? (i := 436) (by decide +kernel), List.mem_of_getElem? (i := 437) (by decide +kernel)⟩
theorem lw_p11 : lw_okq (⟨"BernoulliWays", "noteWay", "(II)V"⟩, 16) := ⟨⟨by decide +kernel, by decide +kernel⟩, List.mem_of_getElem? (i := 22) (by decide +kernel), List.mem_of_getElem? (i := 444) (by decide +kernel), List.mem_of_getElem? (i := 445) (by decide +kernel)⟩
theorem lw_p12 : lw_okq (⟨"BernoulliWays$Checks", "failsBelow", "(I)Z"⟩, 3) := ⟨⟨by decide +kernel, by decide +kernel⟩, List.mem_of_getElem? (i := 118) (by decide +kernel), List.mem_of_getElem? (i := 466) (by decide +kernel), List.mem_of_getElem? (i := 467) (by decide +kernel)⟩
theorem lw_p13 : lw_okq (⟨"BernoulliWays$Checks", "failsRecurrence", "(I)Z"⟩, 3) := ⟨⟨by decide +kernel, by decide +kernel⟩, List.mem_of_getElem? (i := 118) (by decide +kernel), List.mem_of_getElem? (i := 479) (by decide +kernel), List.mem_of_getElem? (i := 480) (by decide +kernel)⟩
theorem lw_p14 : lw_okq (⟨"BernoulliWays$Checks", "failsKummer", "(I)Z"⟩, 3) := ⟨⟨by decide +kernel, by decide +kernel⟩, List.mem_of_getElem? (i := 118) (by decide +kernel), List.mem_of_getElem? (i := 488) (by decide +kernel), List.mem_of_getElem? (i := 489) (by decide +kernel)⟩
theorem lw_p15 : lw_okq (⟨"BernoulliWays$Checks", "isTold", "(II)Z"⟩, 3) := ⟨⟨by decide +kernel, by decide +kernel⟩, List.mem_of_getElem? (i := 118) (by decide +kernel), List.mem_of_getElem? (i := 496) (by decide +kernel), List.mem_of_getElem? (i := 497) (by decide +kernel)⟩
def lw_privs_1 : List (MethodName × Nat) := [(⟨"BernoulliWays", "allRightBelow", "(I)Z"⟩, 16), (⟨"BernoulliWays", "isRight", "(I)Z"⟩, 16), (⟨"BernoulliWays", "layOne", "(II)Z"⟩, 16), (⟨"BernoulliWays", "work", "(II)V"⟩, 16), (⟨"BernoulliWays", "workRecurrence", "(I)V"⟩, 16), (⟨"BernoulliWays", "workAsTold", "(I)V"⟩, 16), (⟨"BernoulliWays$Checks", "addEntry", "(JI)V"⟩, 3), (⟨"BernoulliWays", "workTriangle", "(I)V"⟩, 16), (⟨"BernoulliWays", "workSieve", "(I)V"⟩, 16), (⟨"BernoulliWays", "sievedWhole", "(I)J"⟩, 16), (⟨"BernoulliWays", "addPrimesBelow", "(II)V"⟩, 16), (⟨"BernoulliWays", "noteWay", "(II)V"⟩, 16), (⟨"BernoulliWays$Checks", "failsBelow", "(I)Z"⟩, 3), (⟨"BernoulliWays$Checks", "failsRecurrence", "(I)Z"⟩, 3), (⟨"BernoulliWays$Checks", "failsKummer", "(I)Z"⟩, 3), (⟨"BernoulliWays$Checks", "isTold", "(II)Z"⟩, 3)]
theorem lw_r1 : ∀ q ∈ lw_privs_1, lw_okq q := List.forall_mem_cons.mpr ⟨lw_p0, List.forall_mem_cons.mpr ⟨lw_p1, List.forall_mem_cons.mpr ⟨lw_p2, List.forall_mem_cons.mpr ⟨lw_p3, List.forall_mem_cons.mpr ⟨lw_p4, List.forall_mem_cons.mpr ⟨lw_p5, List.forall_mem_cons.mpr ⟨lw_p6, List.forall_mem_cons.mpr ⟨lw_p7, List.forall_mem_cons.mpr ⟨lw_p8, List.forall_mem_cons.mpr ⟨lw_p9, List.forall_mem_cons.mpr ⟨lw_p10, List.forall_mem_cons.mpr ⟨lw_p11, List.forall_mem_cons.mpr ⟨lw_p12, List.forall_mem_cons.mpr ⟨lw_p13, List.forall_mem_cons.mpr ⟨lw_p14, List.forall_mem_cons.mpr ⟨lw_p15, fun _ h => absurd h List.not_mem_nil⟩⟩⟩⟩⟩⟩⟩⟩⟩⟩⟩⟩⟩⟩⟩⟩
theorem lw_p16 : lw_okq (⟨"BernoulliWays$Checks", "byNumber", "(IJ)J"⟩, 3) := ⟨⟨by decide +kernel, by decide +kernel⟩, List.mem_of_getElem? (i := 118) (by decide +kernel), List.mem_of_getElem? (i := 501) (by decide +kernel), List.mem_of_getElem? (i := 502) (by decide +kernel)⟩
theorem lw_p17 : lw_okq (⟨"BernoulliWays$Checks", "failsDivisor", "(I)Z"⟩, 3) := ⟨⟨by decide +kernel, by decide +kernel⟩, List.mem_of_getElem? (i := 118) (by decide +kernel), List.mem_of_getElem? (i := 510) (by decide +kernel), List.mem_of_getElem? (i := 511) (by decide +kernel)⟩
theorem lw_p18 : lw_okq (⟨"BernoulliWays$Checks", "failsSixth", "(I)Z"⟩, 3) := ⟨⟨by decide +kernel, by decide +kernel⟩, List.mem_of_getElem? (i := 118) (by decide +kernel), List.mem_of_getElem? (i := 520) (by decide +kernel), List.mem_of_getElem? (i := 521) (by decide +kernel)⟩
theorem lw_p19 : lw_okq (⟨"BernoulliWays", "failingOnes", "(I)J"⟩, 16) := ⟨⟨by decide +kernel, by decide +kernel⟩, List.mem_of_getElem? (i := 22) (by decide +kernel), List.mem_of_getElem? (i := 533) (by decide +kernel), List.mem_of_getElem? (i := 534) (by decide +kernel)⟩
theorem lw_p20 : lw_okq (⟨"BernoulliWays", "residueNow", "(II)I"⟩, 16) := ⟨⟨by decide +kernel, by decide +kernel⟩, List.mem_of_getElem? (i := 22) (by decide +kernel), List.mem_of_getElem? (i := 568) (by decide +kernel), List.mem_of_getElem? (i := 569) (by decide +kernel)⟩
theorem lw_p21 : lw_okq (⟨"BernoulliWays$Memo", "placeOf", "(II)I"⟩, 4) := ⟨⟨by decide +kernel, by decide +kernel⟩, List.mem_of_getElem? (i := 135) (by decide +kernel), List.mem_of_getElem? (i := 577) (by decide +kernel), List.mem_of_getElem? (i := 578) (by decide +kernel)⟩
theorem lw_p22 : lw_okq (⟨"BernoulliWays$Memo", "dropEldest", "()V"⟩, 4) := ⟨⟨by decide +kernel, by decide +kernel⟩, List.mem_of_getElem? (i := 135) (by decide +kernel), List.mem_of_getElem? (i := 581) (by decide +kernel), List.mem_of_getElem? (i := 582) (by decide +kernel)⟩
theorem lw_p23 : lw_okq (⟨"BernoulliWays$Memo", "fits", "(I)Z"⟩, 4) := ⟨⟨by decide +kernel, by decide +kernel⟩, List.mem_of_getElem? (i := 135) (by decide +kernel), List.mem_of_getElem? (i := 588) (by decide +kernel), List.mem_of_getElem? (i := 589) (by decide +kernel)⟩
theorem lw_p24 : lw_okq (⟨"BernoulliWays", "holdsStill", "(I)Z"⟩, 16) := ⟨⟨by decide +kernel, by decide +kernel⟩, List.mem_of_getElem? (i := 22) (by decide +kernel), List.mem_of_getElem? (i := 620) (by decide +kernel), List.mem_of_getElem? (i := 621) (by decide +kernel)⟩
theorem lw_p25 : lw_okq (⟨"BernoulliWays", "isLaid", "(I)Z"⟩, 16) := ⟨⟨by decide +kernel, by decide +kernel⟩, List.mem_of_getElem? (i := 22) (by decide +kernel), List.mem_of_getElem? (i := 628) (by decide +kernel), List.mem_of_getElem? (i := 629) (by decide +kernel)⟩
theorem lw_p26 : lw_okq (⟨"BernoulliWays", "allPass", "(I)Z"⟩, 16) := ⟨⟨by decide +kernel, by decide +kernel⟩, List.mem_of_getElem? (i := 22) (by decide +kernel), List.mem_of_getElem? (i := 675) (by decide +kernel), List.mem_of_getElem? (i := 676) (by decide +kernel)⟩
theorem lw_p27 : lw_okq (⟨"BernoulliWays", "spoilByDraws", "(II)V"⟩, 16) := ⟨⟨by decide +kernel, by decide +kernel⟩, List.mem_of_getElem? (i := 22) (by decide +kernel), List.mem_of_getElem? (i := 688) (by decide +kernel), List.mem_of_getElem? (i := 689) (by decide +kernel)⟩
theorem lw_p28 : lw_okq (⟨"BernoulliWays$Pairs", "search", "(I)V"⟩, 5) := ⟨⟨by decide +kernel, by decide +kernel⟩, List.mem_of_getElem? (i := 173) (by decide +kernel), List.mem_of_getElem? (i := 728) (by decide +kernel), List.mem_of_getElem? (i := 729) (by decide +kernel)⟩
theorem lw_p29 : lw_okq (⟨"BernoulliWays$ByWays", "fillByRecurrence", "(I)V"⟩, 4) := ⟨⟨by decide +kernel, by decide +kernel⟩, List.mem_of_getElem? (i := 154) (by decide +kernel), List.mem_of_getElem? (i := 736) (by decide +kernel), List.mem_of_getElem? (i := 737) (by decide +kernel)⟩
theorem lw_p30 : lw_okq (⟨"BernoulliWays$ByWays", "fillByTriangle", "(I)V"⟩, 4) := ⟨⟨by decide +kernel, by decide +kernel⟩, List.mem_of_getElem? (i := 154) (by decide +kernel), List.mem_of_getElem? (i := 742) (by decide +kernel), List.mem_of_getElem? (i := 743) (by decide +kernel)⟩
theorem lw_p31 : lw_okq (⟨"BernoulliWays$ByWays", "fillByPowers", "(I)V"⟩, 4) := ⟨⟨by decide +kernel, by decide +kernel⟩, List.mem_of_getElem? (i := 154) (by decide +kernel), List.mem_of_getElem? (i := 746) (by decide +kernel), List.mem_of_getElem? (i := 747) (by decide +kernel)⟩
def lw_privs_2 : List (MethodName × Nat) := [(⟨"BernoulliWays$Checks", "byNumber", "(IJ)J"⟩, 3), (⟨"BernoulliWays$Checks", "failsDivisor", "(I)Z"⟩, 3), (⟨"BernoulliWays$Checks", "failsSixth", "(I)Z"⟩, 3), (⟨"BernoulliWays", "failingOnes", "(I)J"⟩, 16), (⟨"BernoulliWays", "residueNow", "(II)I"⟩, 16), (⟨"BernoulliWays$Memo", "placeOf", "(II)I"⟩, 4), (⟨"BernoulliWays$Memo", "dropEldest", "()V"⟩, 4), (⟨"BernoulliWays$Memo", "fits", "(I)Z"⟩, 4), (⟨"BernoulliWays", "holdsStill", "(I)Z"⟩, 16), (⟨"BernoulliWays", "isLaid", "(I)Z"⟩, 16), (⟨"BernoulliWays", "allPass", "(I)Z"⟩, 16), (⟨"BernoulliWays", "spoilByDraws", "(II)V"⟩, 16), (⟨"BernoulliWays$Pairs", "search", "(I)V"⟩, 5), (⟨"BernoulliWays$ByWays", "fillByRecurrence", "(I)V"⟩, 4), (⟨"BernoulliWays$ByWays", "fillByTriangle", "(I)V"⟩, 4), (⟨"BernoulliWays$ByWays", "fillByPowers", "(I)V"⟩, 4)]
theorem lw_r2 : ∀ q ∈ lw_privs_2, lw_okq q := List.forall_mem_cons.mpr ⟨lw_p16, List.forall_mem_cons.mpr ⟨lw_p17, List.forall_mem_cons.mpr ⟨lw_p18, List.forall_mem_cons.mpr ⟨lw_p19, List.forall_mem_cons.mpr ⟨lw_p20, List.forall_mem_cons.mpr ⟨lw_p21, List.forall_mem_cons.mpr ⟨lw_p22, List.forall_mem_cons.mpr ⟨lw_p23, List.forall_mem_cons.mpr ⟨lw_p24, List.forall_mem_cons.mpr ⟨lw_p25, List.forall_mem_cons.mpr ⟨lw_p26, List.forall_mem_cons.mpr ⟨lw_p27, List.forall_mem_cons.mpr ⟨lw_p28, List.forall_mem_cons.mpr ⟨lw_p29, List.forall_mem_cons.mpr ⟨lw_p30, List.forall_mem_cons.mpr ⟨lw_p31, fun _ h => absurd h List.not_mem_nil⟩⟩⟩⟩⟩⟩⟩⟩⟩⟩⟩⟩⟩⟩⟩⟩
theorem lw_p32 : lw_okq (⟨"BernoulliWays", "homogeneous", "(LBernoulliWays$Entries;IJJJ)J"⟩, 16) := ⟨⟨by decide +kernel, by decide +kernel⟩, List.mem_of_getElem? (i := 22) (by decide +kernel), List.mem_of_getElem? (i := 825) (by decide +kernel), List.mem_of_getElem? (i := 826) (by decide +kernel)⟩
theorem lw_p33 : lw_okq (⟨"BernoulliWays", "fillBigResidues", "(I)V"⟩, 16) := ⟨⟨by decide +kernel, by decide +kernel⟩, List.mem_of_getElem? (i := 22) (by decide +kernel), List.mem_of_getElem? (i := 858) (by decide +kernel), List.mem_of_getElem? (i := 859) (by decide +kernel)⟩
theorem lw_p34 : lw_okq (⟨"BernoulliWays", "bigPolynomial", "(IJ)J"⟩, 16) := ⟨⟨by decide +kernel, by decide +kernel⟩, List.mem_of_getElem? (i := 22) (by decide +kernel), List.mem_of_getElem? (i := 863) (by decide +kernel), List.mem_of_getElem? (i := 864) (by decide +kernel)⟩
theorem lw_p35 : lw_okq (⟨"BernoulliWays", "workSum", "(II)V"⟩, 16) := ⟨⟨by decide +kernel, by decide +kernel⟩, List.mem_of_getElem? (i := 22) (by decide +kernel), List.mem_of_getElem? (i := 871) (by decide +kernel), List.mem_of_getElem? (i := 872) (by decide +kernel)⟩
theorem lw_p36 : lw_okq (⟨"BernoulliWays$Decimal", "fromRight", "(I)I"⟩, 2) := ⟨⟨by decide +kernel, by decide +kernel⟩, List.mem_of_getElem? (i := 195) (by decide +kernel), List.mem_of_getElem? (i := 896) (by decide +kernel), List.mem_of_getElem? (i := 897) (by decide +kernel)⟩
theorem lw_p37 : lw_okq (⟨"BernoulliWays", "splitInTriangles", "(I)Z"⟩, 16) := ⟨⟨by decide +kernel, by decide +kernel⟩, List.mem_of_getElem? (i := 22) (by decide +kernel), List.mem_of_getElem? (i := 921) (by decide +kernel), List.mem_of_getElem? (i := 922) (by decide +kernel)⟩
theorem lw_p38 : lw_okq (⟨"BernoulliWays", "fillPolynomial", "(II)Z"⟩, 16) := ⟨⟨by decide +kernel, by decide +kernel⟩, List.mem_of_getElem? (i := 22) (by decide +kernel), List.mem_of_getElem? (i := 940) (by decide +kernel), List.mem_of_getElem? (i := 941) (by decide +kernel)⟩
theorem lw_p39 : lw_okq (⟨"BernoulliWays", "polynomialAt", "(IJI)J"⟩, 16) := ⟨⟨by decide +kernel, by decide +kernel⟩, List.mem_of_getElem? (i := 22) (by decide +kernel), List.mem_of_getElem? (i := 944) (by decide +kernel), List.mem_of_getElem? (i := 945) (by decide +kernel)⟩
theorem lw_p40 : lw_okq (⟨"BernoulliWays", "fillBoxes", "(I)V"⟩, 16) := ⟨⟨by decide +kernel, by decide +kernel⟩, List.mem_of_getElem? (i := 22) (by decide +kernel), List.mem_of_getElem? (i := 964) (by decide +kernel), List.mem_of_getElem? (i := 965) (by decide +kernel)⟩
theorem lw_p41 : lw_okq (⟨"BernoulliWays", "manyNotRight", "()I"⟩, 16) := ⟨⟨by decide +kernel, by decide +kernel⟩, List.mem_of_getElem? (i := 22) (by decide +kernel), List.mem_of_getElem? (i := 999) (by decide +kernel), List.mem_of_getElem? (i := 1000) (by decide +kernel)⟩
theorem lw_p42 : lw_okq (⟨"BernoulliWays", "manyOutdated", "()I"⟩, 16) := ⟨⟨by decide +kernel, by decide +kernel⟩, List.mem_of_getElem? (i := 22) (by decide +kernel), List.mem_of_getElem? (i := 1003) (by decide +kernel), List.mem_of_getElem? (i := 1004) (by decide +kernel)⟩
theorem lw_p43 : lw_okq (⟨"java/lang/Throwable", "fillInStackTrace", "(I)Ljava/lang/Throwable;"⟩, 6) := ⟨⟨by decide +kernel, by decide +kernel⟩, List.mem_of_getElem? (i := 1051) (by decide +kernel), List.mem_of_getElem? (i := 1049) (by decide +kernel), List.mem_of_getElem? (i := 1050) (by decide +kernel)⟩
theorem lw_p44 : lw_okq (⟨"BernoulliWaysModel", "addsUp", "([JII)V"⟩, 34) := ⟨⟨by decide +kernel, by decide +kernel⟩, List.mem_of_getElem? (i := 1081) (by decide +kernel), List.mem_of_getElem? (i := 1090) (by decide +kernel), List.mem_of_getElem? (i := 1091) (by decide +kernel)⟩
theorem lw_p45 : lw_okq (⟨"BernoulliWaysModel", "addsOne", "([JJI)V"⟩, 34) := ⟨⟨by decide +kernel, by decide +kernel⟩, List.mem_of_getElem? (i := 1081) (by decide +kernel), List.mem_of_getElem? (i := 1094) (by decide +kernel), List.mem_of_getElem? (i := 1095) (by decide +kernel)⟩
theorem lw_p46 : lw_okq (⟨"BernoulliWaysModel", "quotes", "([JIJJI)V"⟩, 34) := ⟨⟨by decide +kernel, by decide +kernel⟩, List.mem_of_getElem? (i := 1081) (by decide +kernel), List.mem_of_getElem? (i := 1099) (by decide +kernel), List.mem_of_getElem? (i := 1100) (by decide +kernel)⟩
theorem lw_p47 : lw_okq (⟨"BernoulliWaysModel", "laysProper", "([JIJJJ)V"⟩, 34) := ⟨⟨by decide +kernel, by decide +kernel⟩, List.mem_of_getElem? (i := 1081) (by decide +kernel), List.mem_of_getElem? (i := 1106) (by decide +kernel), List.mem_of_getElem? (i := 1107) (by decide +kernel)⟩
def lw_privs_3 : List (MethodName × Nat) := [(⟨"BernoulliWays", "homogeneous", "(LBernoulliWays$Entries;IJJJ)J"⟩, 16), (⟨"BernoulliWays", "fillBigResidues", "(I)V"⟩, 16), (⟨"BernoulliWays", "bigPolynomial", "(IJ)J"⟩, 16), (⟨"BernoulliWays", "workSum", "(II)V"⟩, 16), (⟨"BernoulliWays$Decimal", "fromRight", "(I)I"⟩, 2), (⟨"BernoulliWays", "splitInTriangles", "(I)Z"⟩, 16), (⟨"BernoulliWays", "fillPolynomial", "(II)Z"⟩, 16), (⟨"BernoulliWays", "polynomialAt", "(IJI)J"⟩, 16), (⟨"BernoulliWays", "fillBoxes", "(I)V"⟩, 16), (⟨"BernoulliWays", "manyNotRight", "()I"⟩, 16), (⟨"BernoulliWays", "manyOutdated", "()I"⟩, 16), (⟨"java/lang/Throwable", "fillInStackTrace", "(I)Ljava/lang/Throwable;"⟩, 6), (⟨"BernoulliWaysModel", "addsUp", "([JII)V"⟩, 34), (⟨"BernoulliWaysModel", "addsOne", "([JJI)V"⟩, 34), (⟨"BernoulliWaysModel", "quotes", "([JIJJI)V"⟩, 34), (⟨"BernoulliWaysModel", "laysProper", "([JIJJJ)V"⟩, 34)]
theorem lw_r3 : ∀ q ∈ lw_privs_3, lw_okq q := List.forall_mem_cons.mpr ⟨lw_p32, List.forall_mem_cons.mpr ⟨lw_p33, List.forall_mem_cons.mpr ⟨lw_p34, List.forall_mem_cons.mpr ⟨lw_p35, List.forall_mem_cons.mpr ⟨lw_p36, List.forall_mem_cons.mpr ⟨lw_p37, List.forall_mem_cons.mpr ⟨lw_p38, List.forall_mem_cons.mpr ⟨lw_p39, List.forall_mem_cons.mpr ⟨lw_p40, List.forall_mem_cons.mpr ⟨lw_p41, List.forall_mem_cons.mpr ⟨lw_p42, List.forall_mem_cons.mpr ⟨lw_p43, List.forall_mem_cons.mpr ⟨lw_p44, List.forall_mem_cons.mpr ⟨lw_p45, List.forall_mem_cons.mpr ⟨lw_p46, List.forall_mem_cons.mpr ⟨lw_p47, fun _ h => absurd h List.not_mem_nil⟩⟩⟩⟩⟩⟩⟩⟩⟩⟩⟩⟩⟩⟩⟩⟩
theorem lw_p48 : lw_okq (⟨"BernoulliWaysModel", "isEntry", "(I)Z"⟩, 34) := ⟨⟨by decide +kernel, by decide +kernel⟩, List.mem_of_getElem? (i := 1081) (by decide +kernel), List.mem_of_getElem? (i := 1224) (by decide +kernel), List.mem_of_getElem? (i := 1225) (by decide +kernel)⟩
theorem lw_p49 : lw_okq (⟨"BernoulliWaysModel", "areRight", "(I)Z"⟩, 34) := ⟨⟨by decide +kernel, by decide +kernel⟩, List.mem_of_getElem? (i := 1081) (by decide +kernel), List.mem_of_getElem? (i := 1231) (by decide +kernel), List.mem_of_getElem? (i := 1232) (by decide +kernel)⟩
theorem lw_p50 : lw_okq (⟨"BernoulliWaysModel", "isRight", "(I)Z"⟩, 34) := ⟨⟨by decide +kernel, by decide +kernel⟩, List.mem_of_getElem? (i := 1081) (by decide +kernel), List.mem_of_getElem? (i := 1235) (by decide +kernel), List.mem_of_getElem? (i := 1236) (by decide +kernel)⟩
theorem lw_p51 : lw_okq (⟨"BernoulliWaysModel", "makes", "(II)V"⟩, 34) := ⟨⟨by decide +kernel, by decide +kernel⟩, List.mem_of_getElem? (i := 1081) (by decide +kernel), List.mem_of_getElem? (i := 1239) (by decide +kernel), List.mem_of_getElem? (i := 1240) (by decide +kernel)⟩
theorem lw_p52 : lw_okq (⟨"BernoulliWaysModel", "spoils", "(II)V"⟩, 34) := ⟨⟨by decide +kernel, by decide +kernel⟩, List.mem_of_getElem? (i := 1081) (by decide +kernel), List.mem_of_getElem? (i := 1251) (by decide +kernel), List.mem_of_getElem? (i := 1252) (by decide +kernel)⟩
theorem lw_p53 : lw_okq (⟨"BernoulliWaysModel", "testsOf", "(I)I"⟩, 34) := ⟨⟨by decide +kernel, by decide +kernel⟩, List.mem_of_getElem? (i := 1081) (by decide +kernel), List.mem_of_getElem? (i := 1255) (by decide +kernel), List.mem_of_getElem? (i := 1256) (by decide +kernel)⟩
theorem lw_p54 : lw_okq (⟨"BernoulliWaysModel", "breaksSixth", "(I)Z"⟩, 34) := ⟨⟨by decide +kernel, by decide +kernel⟩, List.mem_of_getElem? (i := 1081) (by decide +kernel), List.mem_of_getElem? (i := 1259) (by decide +kernel), List.mem_of_getElem? (i := 1260) (by decide +kernel)⟩
theorem lw_p55 : lw_okq (⟨"BernoulliWaysModel", "dueBelow", "(I)J"⟩, 34) := ⟨⟨by decide +kernel, by decide +kernel⟩, List.mem_of_getElem? (i := 1081) (by decide +kernel), List.mem_of_getElem? (i := 1263) (by decide +kernel), List.mem_of_getElem? (i := 1264) (by decide +kernel)⟩
theorem lw_p56 : lw_okq (⟨"BernoulliWaysModel", "signOf", "(I)I"⟩, 34) := ⟨⟨by decide +kernel, by decide +kernel⟩, List.mem_of_getElem? (i := 1081) (by decide +kernel), List.mem_of_getElem? (i := 1268) (by decide +kernel), List.mem_of_getElem? (i := 1269) (by decide +kernel)⟩
theorem lw_p57 : lw_okq (⟨"BernoulliWaysModel", "breaksSum", "(I)Z"⟩, 34) := ⟨⟨by decide +kernel, by decide +kernel⟩, List.mem_of_getElem? (i := 1081) (by decide +kernel), List.mem_of_getElem? (i := 1275) (by decide +kernel), List.mem_of_getElem? (i := 1276) (by decide +kernel)⟩
theorem lw_p58 : lw_okq (⟨"BernoulliWaysModel", "breaksKummer", "(I)Z"⟩, 34) := ⟨⟨by decide +kernel, by decide +kernel⟩, List.mem_of_getElem? (i := 1081) (by decide +kernel), List.mem_of_getElem? (i := 1279) (by decide +kernel), List.mem_of_getElem? (i := 1280) (by decide +kernel)⟩
theorem lw_p59 : lw_okq (⟨"BernoulliWaysModel", "kummerOf", "(III)I"⟩, 34) := ⟨⟨by decide +kernel, by decide +kernel⟩, List.mem_of_getElem? (i := 1081) (by decide +kernel), List.mem_of_getElem? (i := 1283) (by decide +kernel), List.mem_of_getElem? (i := 1284) (by decide +kernel)⟩
theorem lw_p60 : lw_okq (⟨"BernoulliWaysModel", "restOf", "([JII)I"⟩, 34) := ⟨⟨by decide +kernel, by decide +kernel⟩, List.mem_of_getElem? (i := 1081) (by decide +kernel), List.mem_of_getElem? (i := 1287) (by decide +kernel), List.mem_of_getElem? (i := 1288) (by decide +kernel)⟩
theorem lw_p61 : lw_okq (⟨"BernoulliWaysModel", "breaksPrimes", "(I)Z"⟩, 34) := ⟨⟨by decide +kernel, by decide +kernel⟩, List.mem_of_getElem? (i := 1081) (by decide +kernel), List.mem_of_getElem? (i := 1297) (by decide +kernel), List.mem_of_getElem? (i := 1298) (by decide +kernel)⟩
theorem lw_p62 : lw_okq (⟨"BernoulliWaysModel", "failsWith", "()J"⟩, 34) := ⟨⟨by decide +kernel, by decide +kernel⟩, List.mem_of_getElem? (i := 1081) (by decide +kernel), List.mem_of_getElem? (i := 1305) (by decide +kernel), List.mem_of_getElem? (i := 1306) (by decide +kernel)⟩
theorem lw_p63 : lw_okq (⟨"BernoulliWaysModel", "isPrime", "(I)Z"⟩, 34) := ⟨⟨by decide +kernel, by decide +kernel⟩, List.mem_of_getElem? (i := 1081) (by decide +kernel), List.mem_of_getElem? (i := 1343) (by decide +kernel), List.mem_of_getElem? (i := 1344) (by decide +kernel)⟩
def lw_privs_4 : List (MethodName × Nat) := [(⟨"BernoulliWaysModel", "isEntry", "(I)Z"⟩, 34), (⟨"BernoulliWaysModel", "areRight", "(I)Z"⟩, 34), (⟨"BernoulliWaysModel", "isRight", "(I)Z"⟩, 34), (⟨"BernoulliWaysModel", "makes", "(II)V"⟩, 34), (⟨"BernoulliWaysModel", "spoils", "(II)V"⟩, 34), (⟨"BernoulliWaysModel", "testsOf", "(I)I"⟩, 34), (⟨"BernoulliWaysModel", "breaksSixth", "(I)Z"⟩, 34), (⟨"BernoulliWaysModel", "dueBelow", "(I)J"⟩, 34), (⟨"BernoulliWaysModel", "signOf", "(I)I"⟩, 34), (⟨"BernoulliWaysModel", "breaksSum", "(I)Z"⟩, 34), (⟨"BernoulliWaysModel", "breaksKummer", "(I)Z"⟩, 34), (⟨"BernoulliWaysModel", "kummerOf", "(III)I"⟩, 34), (⟨"BernoulliWaysModel", "restOf", "([JII)I"⟩, 34), (⟨"BernoulliWaysModel", "breaksPrimes", "(I)Z"⟩, 34), (⟨"BernoulliWaysModel", "failsWith", "()J"⟩, 34), (⟨"BernoulliWaysModel", "isPrime", "(I)Z"⟩, 34)]
theorem lw_r4 : ∀ q ∈ lw_privs_4, lw_okq q := List.forall_mem_cons.mpr ⟨lw_p48, List.forall_mem_cons.mpr ⟨lw_p49, List.forall_mem_cons.mpr ⟨lw_p50, List.forall_mem_cons.mpr ⟨lw_p51, List.forall_mem_cons.mpr ⟨lw_p52, List.forall_mem_cons.mpr ⟨lw_p53, List.forall_mem_cons.mpr ⟨lw_p54, List.forall_mem_cons.mpr ⟨lw_p55, List.forall_mem_cons.mpr ⟨lw_p56, List.forall_mem_cons.mpr ⟨lw_p57, List.forall_mem_cons.mpr ⟨lw_p58, List.forall_mem_cons.mpr ⟨lw_p59, List.forall_mem_cons.mpr ⟨lw_p60, List.forall_mem_cons.mpr ⟨lw_p61, List.forall_mem_cons.mpr ⟨lw_p62, List.forall_mem_cons.mpr ⟨lw_p63, fun _ h => absurd h List.not_mem_nil⟩⟩⟩⟩⟩⟩⟩⟩⟩⟩⟩⟩⟩⟩⟩⟩
theorem lw_p64 : lw_okq (⟨"BernoulliWaysModel", "keeps", "(III)V"⟩, 34) := ⟨⟨by decide +kernel, by decide +kernel⟩, List.mem_of_getElem? (i := 1081) (by decide +kernel), List.mem_of_getElem? (i := 1347) (by decide +kernel), List.mem_of_getElem? (i := 1348) (by decide +kernel)⟩
theorem lw_p65 : lw_okq (⟨"BernoulliWaysModel", "memoOf", "(II)I"⟩, 34) := ⟨⟨by decide +kernel, by decide +kernel⟩, List.mem_of_getElem? (i := 1081) (by decide +kernel), List.mem_of_getElem? (i := 1351) (by decide +kernel), List.mem_of_getElem? (i := 1352) (by decide +kernel)⟩
theorem lw_p66 : lw_okq (⟨"BernoulliWaysModel", "isAsKept", "(I)Z"⟩, 34) := ⟨⟨by decide +kernel, by decide +kernel⟩, List.mem_of_getElem? (i := 1081) (by decide +kernel), List.mem_of_getElem? (i := 1363) (by decide +kernel), List.mem_of_getElem? (i := 1364) (by decide +kernel)⟩
theorem lw_p67 : lw_okq (⟨"BernoulliWaysModel", "oftenAbove", "(II)I"⟩, 34) := ⟨⟨by decide +kernel, by decide +kernel⟩, List.mem_of_getElem? (i := 1081) (by decide +kernel), List.mem_of_getElem? (i := 1374) (by decide +kernel), List.mem_of_getElem? (i := 1375) (by decide +kernel)⟩
theorem lw_p68 : lw_okq (⟨"BernoulliWaysModel", "fails", "(I)Z"⟩, 34) := ⟨⟨by decide +kernel, by decide +kernel⟩, List.mem_of_getElem? (i := 1081) (by decide +kernel), List.mem_of_getElem? (i := 1408) (by decide +kernel), List.mem_of_getElem? (i := 1409) (by decide +kernel)⟩
theorem lw_p69 : lw_okq (⟨"BernoulliWaysModel", "draw", "(I)I"⟩, 34) := ⟨⟨by decide +kernel, by decide +kernel⟩, List.mem_of_getElem? (i := 1081) (by decide +kernel), List.mem_of_getElem? (i := 1416) (by decide +kernel), List.mem_of_getElem? (i := 1417) (by decide +kernel)⟩
theorem lw_p70 : lw_okq (⟨"BernoulliWaysModel", "laysWay", "(II)V"⟩, 34) := ⟨⟨by decide +kernel, by decide +kernel⟩, List.mem_of_getElem? (i := 1081) (by decide +kernel), List.mem_of_getElem? (i := 1436) (by decide +kernel), List.mem_of_getElem? (i := 1437) (by decide +kernel)⟩
theorem lw_p71 : lw_okq (⟨"BernoulliWaysModel", "laysAll", "(I)V"⟩, 34) := ⟨⟨by decide +kernel, by decide +kernel⟩, List.mem_of_getElem? (i := 1081) (by decide +kernel), List.mem_of_getElem? (i := 1440) (by decide +kernel), List.mem_of_getElem? (i := 1441) (by decide +kernel)⟩
theorem lw_p72 : lw_okq (⟨"BernoulliWaysModel", "laysRests", "(I)V"⟩, 34) := ⟨⟨by decide +kernel, by decide +kernel⟩, List.mem_of_getElem? (i := 1081) (by decide +kernel), List.mem_of_getElem? (i := 1444) (by decide +kernel), List.mem_of_getElem? (i := 1445) (by decide +kernel)⟩
theorem lw_p73 : lw_okq (⟨"BernoulliWaysModel", "laysTriangle", "(I)V"⟩, 34) := ⟨⟨by decide +kernel, by decide +kernel⟩, List.mem_of_getElem? (i := 1081) (by decide +kernel), List.mem_of_getElem? (i := 1448) (by decide +kernel), List.mem_of_getElem? (i := 1449) (by decide +kernel)⟩
theorem lw_p74 : lw_okq (⟨"BernoulliWaysModel", "irregularOf", "(I)I"⟩, 34) := ⟨⟨by decide +kernel, by decide +kernel⟩, List.mem_of_getElem? (i := 1081) (by decide +kernel), List.mem_of_getElem? (i := 1463) (by decide +kernel), List.mem_of_getElem? (i := 1464) (by decide +kernel)⟩
theorem lw_p75 : lw_okq (⟨"BernoulliWaysModel", "laysSums", "(I)V"⟩, 34) := ⟨⟨by decide +kernel, by decide +kernel⟩, List.mem_of_getElem? (i := 1081) (by decide +kernel), List.mem_of_getElem? (i := 1520) (by decide +kernel), List.mem_of_getElem? (i := 1521) (by decide +kernel)⟩
theorem lw_p76 : lw_okq (⟨"BernoulliWaysModel", "puts", "(IJJ)V"⟩, 34) := ⟨⟨by decide +kernel, by decide +kernel⟩, List.mem_of_getElem? (i := 1081) (by decide +kernel), List.mem_of_getElem? (i := 1524) (by decide +kernel), List.mem_of_getElem? (i := 1525) (by decide +kernel)⟩
theorem lw_p77 : lw_okq (⟨"BernoulliWaysModel", "sumAt", "(II)J"⟩, 34) := ⟨⟨by decide +kernel, by decide +kernel⟩, List.mem_of_getElem? (i := 1081) (by decide +kernel), List.mem_of_getElem? (i := 1533) (by decide +kernel), List.mem_of_getElem? (i := 1534) (by decide +kernel)⟩
theorem lw_p78 : lw_okq (⟨"BernoulliWaysModel", "laysFull", "(II)V"⟩, 34) := ⟨⟨by decide +kernel, by decide +kernel⟩, List.mem_of_getElem? (i := 1081) (by decide +kernel), List.mem_of_getElem? (i := 1556) (by decide +kernel), List.mem_of_getElem? (i := 1557) (by decide +kernel)⟩
theorem lw_p79 : lw_okq (⟨"BernoulliWaysModel", "laysKinds", "(I)V"⟩, 34) := ⟨⟨by decide +kernel, by decide +kernel⟩, List.mem_of_getElem? (i := 1081) (by decide +kernel), List.mem_of_getElem? (i := 1561) (by decide +kernel), List.mem_of_getElem? (i := 1562) (by decide +kernel)⟩
def lw_privs_5 : List (MethodName × Nat) := [(⟨"BernoulliWaysModel", "keeps", "(III)V"⟩, 34), (⟨"BernoulliWaysModel", "memoOf", "(II)I"⟩, 34), (⟨"BernoulliWaysModel", "isAsKept", "(I)Z"⟩, 34), (⟨"BernoulliWaysModel", "oftenAbove", "(II)I"⟩, 34), (⟨"BernoulliWaysModel", "fails", "(I)Z"⟩, 34), (⟨"BernoulliWaysModel", "draw", "(I)I"⟩, 34), (⟨"BernoulliWaysModel", "laysWay", "(II)V"⟩, 34), (⟨"BernoulliWaysModel", "laysAll", "(I)V"⟩, 34), (⟨"BernoulliWaysModel", "laysRests", "(I)V"⟩, 34), (⟨"BernoulliWaysModel", "laysTriangle", "(I)V"⟩, 34), (⟨"BernoulliWaysModel", "irregularOf", "(I)I"⟩, 34), (⟨"BernoulliWaysModel", "laysSums", "(I)V"⟩, 34), (⟨"BernoulliWaysModel", "puts", "(IJJ)V"⟩, 34), (⟨"BernoulliWaysModel", "sumAt", "(II)J"⟩, 34), (⟨"BernoulliWaysModel", "laysFull", "(II)V"⟩, 34), (⟨"BernoulliWaysModel", "laysKinds", "(I)V"⟩, 34)]
theorem lw_r5 : ∀ q ∈ lw_privs_5, lw_okq q := List.forall_mem_cons.mpr ⟨lw_p64, List.forall_mem_cons.mpr ⟨lw_p65, List.forall_mem_cons.mpr ⟨lw_p66, List.forall_mem_cons.mpr ⟨lw_p67, List.forall_mem_cons.mpr ⟨lw_p68, List.forall_mem_cons.mpr ⟨lw_p69, List.forall_mem_cons.mpr ⟨lw_p70, List.forall_mem_cons.mpr ⟨lw_p71, List.forall_mem_cons.mpr ⟨lw_p72, List.forall_mem_cons.mpr ⟨lw_p73, List.forall_mem_cons.mpr ⟨lw_p74, List.forall_mem_cons.mpr ⟨lw_p75, List.forall_mem_cons.mpr ⟨lw_p76, List.forall_mem_cons.mpr ⟨lw_p77, List.forall_mem_cons.mpr ⟨lw_p78, List.forall_mem_cons.mpr ⟨lw_p79, fun _ h => absurd h List.not_mem_nil⟩⟩⟩⟩⟩⟩⟩⟩⟩⟩⟩⟩⟩⟩⟩⟩
theorem lw_p80 : lw_okq (⟨"BernoulliWaysModel", "times", "(J)V"⟩, 34) := ⟨⟨by decide +kernel, by decide +kernel⟩, List.mem_of_getElem? (i := 1081) (by decide +kernel), List.mem_of_getElem? (i := 1565) (by decide +kernel), List.mem_of_getElem? (i := 1566) (by decide +kernel)⟩
theorem lw_p81 : lw_okq (⟨"BernoulliWaysModel", "addsRow", "(IJI)V"⟩, 34) := ⟨⟨by decide +kernel, by decide +kernel⟩, List.mem_of_getElem? (i := 1081) (by decide +kernel), List.mem_of_getElem? (i := 1569) (by decide +kernel), List.mem_of_getElem? (i := 1570) (by decide +kernel)⟩
theorem lw_p82 : lw_okq (⟨"BernoulliWaysModel", "digitsOfFull", "()I"⟩, 34) := ⟨⟨by decide +kernel, by decide +kernel⟩, List.mem_of_getElem? (i := 1081) (by decide +kernel), List.mem_of_getElem? (i := 1573) (by decide +kernel), List.mem_of_getElem? (i := 1574) (by decide +kernel)⟩
theorem lw_p83 : lw_okq (⟨"BernoulliWaysModel", "laysTriangles", "(I)Z"⟩, 34) := ⟨⟨by decide +kernel, by decide +kernel⟩, List.mem_of_getElem? (i := 1081) (by decide +kernel), List.mem_of_getElem? (i := 1586) (by decide +kernel), List.mem_of_getElem? (i := 1587) (by decide +kernel)⟩
theorem lw_p84 : lw_okq (⟨"BernoulliWaysModel", "takes", "(IJJ)V"⟩, 34) := ⟨⟨by decide +kernel, by decide +kernel⟩, List.mem_of_getElem? (i := 1081) (by decide +kernel), List.mem_of_getElem? (i := 1590) (by decide +kernel), List.mem_of_getElem? (i := 1591) (by decide +kernel)⟩
theorem lw_p85 : lw_okq (⟨"BernoulliWaysModel", "laysPoly", "(II)I"⟩, 34) := ⟨⟨by decide +kernel, by decide +kernel⟩, List.mem_of_getElem? (i := 1081) (by decide +kernel), List.mem_of_getElem? (i := 1608) (by decide +kernel), List.mem_of_getElem? (i := 1609) (by decide +kernel)⟩
theorem lw_p86 : lw_okq (⟨"BernoulliWaysModel", "polyAt", "(III)I"⟩, 34) := ⟨⟨by decide +kernel, by decide +kernel⟩, List.mem_of_getElem? (i := 1081) (by decide +kernel), List.mem_of_getElem? (i := 1612) (by decide +kernel), List.mem_of_getElem? (i := 1613) (by decide +kernel)⟩
theorem lw_p87 : lw_okq (⟨"BernoulliWaysModel", "laysBoxes", "(I)V"⟩, 34) := ⟨⟨by decide +kernel, by decide +kernel⟩, List.mem_of_getElem? (i := 1081) (by decide +kernel), List.mem_of_getElem? (i := 1632) (by decide +kernel), List.mem_of_getElem? (i := 1633) (by decide +kernel)⟩
def lw_privs_6 : List (MethodName × Nat) := [(⟨"BernoulliWaysModel", "times", "(J)V"⟩, 34), (⟨"BernoulliWaysModel", "addsRow", "(IJI)V"⟩, 34), (⟨"BernoulliWaysModel", "digitsOfFull", "()I"⟩, 34), (⟨"BernoulliWaysModel", "laysTriangles", "(I)Z"⟩, 34), (⟨"BernoulliWaysModel", "takes", "(IJJ)V"⟩, 34), (⟨"BernoulliWaysModel", "laysPoly", "(II)I"⟩, 34), (⟨"BernoulliWaysModel", "polyAt", "(III)I"⟩, 34), (⟨"BernoulliWaysModel", "laysBoxes", "(I)V"⟩, 34)]
theorem lw_r6 : ∀ q ∈ lw_privs_6, lw_okq q := List.forall_mem_cons.mpr ⟨lw_p80, List.forall_mem_cons.mpr ⟨lw_p81, List.forall_mem_cons.mpr ⟨lw_p82, List.forall_mem_cons.mpr ⟨lw_p83, List.forall_mem_cons.mpr ⟨lw_p84, List.forall_mem_cons.mpr ⟨lw_p85, List.forall_mem_cons.mpr ⟨lw_p86, List.forall_mem_cons.mpr ⟨lw_p87, fun _ h => absurd h List.not_mem_nil⟩⟩⟩⟩⟩⟩⟩⟩
def lw_privs : List (MethodName × Nat) := lw_privs_1 ++ (lw_privs_2 ++ (lw_privs_3 ++ (lw_privs_4 ++ (lw_privs_5 ++ (lw_privs_6)))))
def lw_tbl : List Cond := k2_sels lw_privs ++ tables_1
theorem lw_privs_ok : ∀ q ∈ lw_privs, lw_okq q := by
  show ∀ q ∈ lw_privs_1 ++ (lw_privs_2 ++ (lw_privs_3 ++ (lw_privs_4 ++ (lw_privs_5 ++ (lw_privs_6))))), lw_okq q
  exact List.forall_mem_append.mpr ⟨lw_r1, List.forall_mem_append.mpr ⟨lw_r2, List.forall_mem_append.mpr ⟨lw_r3, List.forall_mem_append.mpr ⟨lw_r4, List.forall_mem_append.mpr ⟨lw_r5, lw_r6⟩⟩⟩⟩⟩
-- ===== end of PART A; then your names; then what follows =====
end
section
/-! THE TABLES OF THE PURE MACHINE, laid by wip/whole/lay02.py out of the Statement's own tables -/
/-- the classes: name; fields (declaring class, name, descriptor, final); how many -/
def xf_0 : List (String × String × String × Bool) := [("BernoulliWays", "choose", "LBernoulliWays$Choose;", true), ("BernoulliWays", "total", "LBernoulliWays$Total;", true), ("BernoulliWays", "triangle", "LBernoulliWays$Triangle;", true), ("BernoulliWays", "rightOnes", "LBernoulliWays$Entries;", true), ("BernoulliWays", "now", "LBernoulliWays$Entries;", true), ("BernoulliWays", "kept", "LBernoulliWays$Entries;", true), ("BernoulliWays", "ways", "[I", true), ("BernoulliWays", "top", "I", false), ("BernoulliWays", "checks", "LBernoulliWays$Checks;", true), ("BernoulliWays", "memory", "LBernoulliWays$Memo;", true), ("BernoulliWays", "alone", "LBernoulliWays$ByWays;", true), ("BernoulliWays", "pairs", "LBernoulliWays$Pairs;", true), ("BernoulliWays", "decimal", "LBernoulliWays$Decimal;", true), ("BernoulliWays", "worked", "LBernoulliWays$Fraction;", true), ("BernoulliWays", "row", "[J", true), ("BernoulliWays", "otherRow", "[J", true)]
def xt_0 : List FieldType := [.object "BernoulliWays$Choose", .object "BernoulliWays$Total", .object "BernoulliWays$Triangle", .object "BernoulliWays$Entries", .object "BernoulliWays$Entries", .object "BernoulliWays$Entries", .array .int, .int, .object "BernoulliWays$Checks", .object "BernoulliWays$Memo", .object "BernoulliWays$ByWays", .object "BernoulliWays$Pairs", .object "BernoulliWays$Decimal", .object "BernoulliWays$Fraction", .array .long, .array .long]
def xv_0 : List Value := [.null, .null, .null, .null, .null, .null, .null, .int 0, .null, .null, .null, .null, .null, .null, .null, .null]
def xF_0 : u_T := fun k => xf_0.getD k ("", "", "", false)
def xf_1 : List (String × String × String × Bool) := [("BernoulliWays$Choose", "cells", "[J", true)]
def xt_1 : List FieldType := [.array .long]
def xv_1 : List Value := [.null]
def xF_1 : u_T := fun k => xf_1.getD k ("", "", "", false)
def xf_2 : List (String × String × String × Bool) := [("BernoulliWays$Total", "under", "J", false), ("BernoulliWays$Total", "whole", "J", false), ("BernoulliWays$Total", "part", "J", false)]
def xt_2 : List FieldType := [.long, .long, .long]
def xv_2 : List Value := [.long 0, .long 0, .long 0]
def xF_2 : u_T := fun k => xf_2.getD k ("", "", "", false)
def xf_3 : List (String × String × String × Bool) := [("BernoulliWays$Triangle", "wholes", "[J", true), ("BernoulliWays$Triangle", "parts", "[J", true), ("BernoulliWays$Triangle", "last", "I", false)]
def xt_3 : List FieldType := [.array .long, .array .long, .int]
def xv_3 : List Value := [.null, .null, .int 0]
def xF_3 : u_T := fun k => xf_3.getD k ("", "", "", false)
def xf_4 : List (String × String × String × Bool) := [("BernoulliWays$Entries", "wholes", "[J", true), ("BernoulliWays$Entries", "aboves", "[J", true), ("BernoulliWays$Entries", "belows", "[J", true), ("BernoulliWays$Entries", "spare", "LBernoulliWays$Fraction;", true)]
def xt_4 : List FieldType := [.array .long, .array .long, .array .long, .object "BernoulliWays$Fraction"]
def xv_4 : List Value := [.null, .null, .null, .null]
def xF_4 : u_T := fun k => xf_4.getD k ("", "", "", false)
def xf_5 : List (String × String × String × Bool) := [("BernoulliWays$Fraction", "whole", "J", false), ("BernoulliWays$Fraction", "above", "J", false), ("BernoulliWays$Fraction", "below", "J", false)]
def xt_5 : List FieldType := [.long, .long, .long]
def xv_5 : List Value := [.long 0, .long 0, .long 0]
def xF_5 : u_T := fun k => xf_5.getD k ("", "", "", false)
def xf_6 : List (String × String × String × Bool) := [("BernoulliWays$Checks", "entries", "LBernoulliWays$Entries;", true), ("BernoulliWays$Checks", "choose", "LBernoulliWays$Choose;", true), ("BernoulliWays$Checks", "total", "LBernoulliWays$Total;", true)]
def xt_6 : List FieldType := [.object "BernoulliWays$Entries", .object "BernoulliWays$Choose", .object "BernoulliWays$Total"]
def xv_6 : List Value := [.null, .null, .null]
def xF_6 : u_T := fun k => xf_6.getD k ("", "", "", false)
def xf_7 : List (String × String × String × Bool) := [("BernoulliWays$Memo", "numbers", "[I", true), ("BernoulliWays$Memo", "primes", "[I", true), ("BernoulliWays$Memo", "answers", "[I", true), ("BernoulliWays$Memo", "size", "I", false)]
def xt_7 : List FieldType := [.array .int, .array .int, .array .int, .int]
def xv_7 : List Value := [.null, .null, .null, .int 0]
def xF_7 : u_T := fun k => xf_7.getD k ("", "", "", false)
def xf_8 : List (String × String × String × Bool) := [("BernoulliWays$ByWays", "found", "[J", true), ("BernoulliWays$ByWays", "cells", "[J", true), ("BernoulliWays$ByWays", "filledPrime", "I", false), ("BernoulliWays$ByWays", "filledWay", "I", false)]
def xt_8 : List FieldType := [.array .long, .array .long, .int, .int]
def xv_8 : List Value := [.null, .null, .int 0, .int 0]
def xF_8 : u_T := fun k => xf_8.getD k ("", "", "", false)
def xf_9 : List (String × String × String × Bool) := [("BernoulliWays$Pairs", "byWays", "LBernoulliWays$ByWays;", true), ("BernoulliWays$Pairs", "primes", "[I", true), ("BernoulliWays$Pairs", "evens", "[I", true), ("BernoulliWays$Pairs", "size", "I", false), ("BernoulliWays$Pairs", "searched", "I", false)]
def xt_9 : List FieldType := [.object "BernoulliWays$ByWays", .array .int, .array .int, .int, .int]
def xv_9 : List Value := [.null, .null, .null, .int 0, .int 0]
def xF_9 : u_T := fun k => xf_9.getD k ("", "", "", false)
def xf_10 : List (String × String × String × Bool) := [("BernoulliWays$Decimal", "limbs", "[J", true), ("BernoulliWays$Decimal", "size", "I", false)]
def xt_10 : List FieldType := [.array .long, .int]
def xv_10 : List Value := [.null, .int 0]
def xF_10 : u_T := fun k => xf_10.getD k ("", "", "", false)
def xf_11 : List (String × String × String × Bool) := []
def xt_11 : List FieldType := []
def xv_11 : List Value := []
def xF_11 : u_T := fun k => xf_11.getD k ("", "", "", false)
def xf_12 : List (String × String × String × Bool) := [("BernoulliWaysModel", "thrown", "I", false), ("BernoulliWaysModel", "right", "[J", true), ("BernoulliWaysModel", "table", "[J", true), ("BernoulliWaysModel", "ways", "[I", true), ("BernoulliWaysModel", "top", "I", false), ("BernoulliWaysModel", "choose", "[J", true), ("BernoulliWaysModel", "primes", "[I", true), ("BernoulliWaysModel", "primeMany", "I", false), ("BernoulliWaysModel", "sumWhole", "J", false), ("BernoulliWaysModel", "sumRest", "J", false), ("BernoulliWaysModel", "rowWhole", "[J", true), ("BernoulliWaysModel", "rowRest", "[J", true), ("BernoulliWaysModel", "memo", "[I", true), ("BernoulliWaysModel", "memoMany", "I", false), ("BernoulliWaysModel", "drawn", "J", false), ("BernoulliWaysModel", "aside", "[J", true), ("BernoulliWaysModel", "rests", "[I", true), ("BernoulliWaysModel", "chooseRests", "[I", true), ("BernoulliWaysModel", "byWay", "[I", true), ("BernoulliWaysModel", "rowOf", "[I", true), ("BernoulliWaysModel", "thirty", "[I", true), ("BernoulliWaysModel", "above", "[J", true), ("BernoulliWaysModel", "below", "[J", true), ("BernoulliWaysModel", "full", "[J", true), ("BernoulliWaysModel", "row1", "[J", true), ("BernoulliWaysModel", "kinds", "[J", true), ("BernoulliWaysModel", "quote", "[J", true), ("BernoulliWaysModel", "inAbove", "[J", true), ("BernoulliWaysModel", "inBelow", "[J", true), ("BernoulliWaysModel", "spare", "[J", true), ("BernoulliWaysModel", "polyRests", "[I", true), ("BernoulliWaysModel", "boxes", "[J", true), ("BernoulliWaysModel", "zig", "[J", true), ("BernoulliWaysModel", "zag", "[J", true)]
def xt_12 : List FieldType := [.int, .array .long, .array .long, .array .int, .int, .array .long, .array .int, .int, .long, .long, .array .long, .array .long, .array .int, .int, .long, .array .long, .array .int, .array .int, .array .int, .array .int, .array .int, .array .long, .array .long, .array .long, .array .long, .array .long, .array .long, .array .long, .array .long, .array .long, .array .int, .array .long, .array .long, .array .long]
def xv_12 : List Value := [.int 0, .null, .null, .null, .int 0, .null, .null, .int 0, .long 0, .long 0, .null, .null, .null, .int 0, .long 0, .null, .null, .null, .null, .null, .null, .null, .null, .null, .null, .null, .null, .null, .null, .null, .null, .null, .null, .null]
def xF_12 : u_T := fun k => xf_12.getD k ("", "", "", false)
def xf_13 : List (String × String × String × Bool) := []
def xt_13 : List FieldType := []
def xv_13 : List Value := []
def xF_13 : u_T := fun k => xf_13.getD k ("", "", "", false)
def xf_14 : List (String × String × String × Bool) := []
def xt_14 : List FieldType := []
def xv_14 : List Value := []
def xF_14 : u_T := fun k => xf_14.getD k ("", "", "", false)
def xcn : List String := ["BernoulliWays", "BernoulliWays$Choose", "BernoulliWays$Total", "BernoulliWays$Triangle", "BernoulliWays$Entries", "BernoulliWays$Fraction", "BernoulliWays$Checks", "BernoulliWays$Memo", "BernoulliWays$ByWays", "BernoulliWays$Pairs", "BernoulliWays$Decimal", "BernoulliWays$Modulo", "BernoulliWaysModel", "java/lang/Math", "java/util/Arrays"]
def xcl : List vw_C := [("BernoulliWays", xF_0, 16), ("BernoulliWays$Choose", xF_1, 1), ("BernoulliWays$Total", xF_2, 3), ("BernoulliWays$Triangle", xF_3, 3), ("BernoulliWays$Entries", xF_4, 4), ("BernoulliWays$Fraction", xF_5, 3), ("BernoulliWays$Checks", xF_6, 3), ("BernoulliWays$Memo", xF_7, 4), ("BernoulliWays$ByWays", xF_8, 4), ("BernoulliWays$Pairs", xF_9, 5), ("BernoulliWays$Decimal", xF_10, 2), ("BernoulliWays$Modulo", xF_11, 0), ("BernoulliWaysModel", xF_12, 34), ("java/lang/Math", xF_13, 0), ("java/util/Arrays", xF_14, 0)]
def xfs : List (List (String × String × String × Bool)) := [xf_0, xf_1, xf_2, xf_3, xf_4, xf_5, xf_6, xf_7, xf_8, xf_9, xf_10, xf_11, xf_12, xf_13, xf_14]
def xts : List (List FieldType) := [xt_0, xt_1, xt_2, xt_3, xt_4, xt_5, xt_6, xt_7, xt_8, xt_9, xt_10, xt_11, xt_12, xt_13, xt_14]
def xvs : List (List Value) := [xv_0, xv_1, xv_2, xv_3, xv_4, xv_5, xv_6, xv_7, xv_8, xv_9, xv_10, xv_11, xv_12, xv_13, xv_14]
/-- the methods: own class, locals, parameters, frames and words of room, returns; their names and bytes -/
def xm_0 : List (Nat × Nat × Nat × Nat × Nat × Option FieldType) := [(0, 2, 0, 4, 104, none), (1, 4, 0, 1, 20, none), (2, 1, 0, 1, 20, none), (3, 1, 0, 1, 20, none), (4, 1, 0, 2, 40, none), (5, 1, 0, 1, 20, none), (14, 5, 2, 0, 0, none), (6, 4, 3, 1, 20, none), (7, 1, 0, 1, 20, none), (8, 1, 0, 1, 20, none), (9, 2, 1, 1, 20, none), (10, 1, 0, 1, 20, none), (3, 3, 1, 1, 21, none), (13, 2, 2, 0, 0, some .int), (3, 3, 2, 3, 82, none), (3, 3, 2, 2, 60, none), (5, 11, 3, 1, 30, none), (13, 6, 2, 0, 0, some .long), (5, 11, 2, 0, 0, some .long), (13, 6, 2, 0, 0, some .long), (4, 3, 2, 1, 20, none), (4, 1, 1, 0, 0, some .boolean), (3, 4, 0, 1, 25, none), (0, 5, 2, 7, 187, some .int), (0, 1, 1, 0, 0, some .boolean), (0, 1, 1, 0, 0, some .boolean), (0, 3, 1, 4, 84, some .boolean), (0, 2, 1, 3, 63, some .boolean), (4, 3, 2, 2, 41, some .boolean), (4, 2, 1, 1, 20, some .long), (4, 2, 1, 1, 20, some .long), (4, 2, 1, 1, 20, some .long), (0, 4, 2, 6, 164, some .boolean), (0, 3, 2, 5, 142, none), (0, 2, 1, 4, 101, none), (0, 2, 1, 2, 60, none), (6, 4, 2, 3, 78, none), (2, 3, 1, 1, 23, none), (13, 4, 2, 0, 0, some .long), (1, 3, 2, 0, 0, some .long)]
def xn_0 : List MethodName := [⟨"BernoulliWays", "<init>", "()V"⟩, ⟨"BernoulliWays$Choose", "<init>", "()V"⟩, ⟨"BernoulliWays$Total", "<init>", "()V"⟩, ⟨"BernoulliWays$Triangle", "<init>", "()V"⟩, ⟨"BernoulliWays$Entries", "<init>", "()V"⟩, ⟨"BernoulliWays$Fraction", "<init>", "()V"⟩, ⟨"java/util/Arrays", "fill", "([JJ)V"⟩, ⟨"BernoulliWays$Checks", "<init>", "(LBernoulliWays$Entries;LBernoulliWays$Choose;LBernoulliWays$Total;)V"⟩, ⟨"BernoulliWays$Memo", "<init>", "()V"⟩, ⟨"BernoulliWays$ByWays", "<init>", "()V"⟩, ⟨"BernoulliWays$Pairs", "<init>", "(LBernoulliWays$ByWays;)V"⟩, ⟨"BernoulliWays$Decimal", "<init>", "()V"⟩, ⟨"BernoulliWays$Triangle", "begin", "(I)V"⟩, ⟨"java/lang/Math", "min", "(II)I"⟩, ⟨"BernoulliWays$Triangle", "tellEntry", "(ILBernoulliWays$Fraction;)V"⟩, ⟨"BernoulliWays$Triangle", "tellPlace", "(ILBernoulliWays$Fraction;)V"⟩, ⟨"BernoulliWays$Fraction", "become", "(JJJ)V"⟩, ⟨"java/lang/Math", "floorMod", "(JJ)J"⟩, ⟨"BernoulliWays$Fraction", "commonDivisor", "(JJ)J"⟩, ⟨"java/lang/Math", "floorDiv", "(JJ)J"⟩, ⟨"BernoulliWays$Entries", "store", "(ILBernoulliWays$Fraction;)V"⟩, ⟨"BernoulliWays$Entries", "fits", "(I)Z"⟩, ⟨"BernoulliWays$Triangle", "step", "()V"⟩, ⟨"BernoulliWays", "lay", "(II)I"⟩, ⟨"BernoulliWays", "isEntry", "(I)Z"⟩, ⟨"BernoulliWays", "isWay", "(I)Z"⟩, ⟨"BernoulliWays", "allRightBelow", "(I)Z"⟩, ⟨"BernoulliWays", "isRight", "(I)Z"⟩, ⟨"BernoulliWays$Entries", "alike", "(ILBernoulliWays$Entries;)Z"⟩, ⟨"BernoulliWays$Entries", "wholeOf", "(I)J"⟩, ⟨"BernoulliWays$Entries", "aboveOf", "(I)J"⟩, ⟨"BernoulliWays$Entries", "belowOf", "(I)J"⟩, ⟨"BernoulliWays", "layOne", "(II)Z"⟩, ⟨"BernoulliWays", "work", "(II)V"⟩, ⟨"BernoulliWays", "workRecurrence", "(I)V"⟩, ⟨"BernoulliWays", "workAsTold", "(I)V"⟩, ⟨"BernoulliWays$Checks", "addUp", "(II)V"⟩, ⟨"BernoulliWays$Total", "begin", "(J)V"⟩, ⟨"java/lang/Math", "max", "(JJ)J"⟩, ⟨"BernoulliWays$Choose", "of", "(II)J"⟩]
def xb_0 : List ByteArray := [prog_1_method_1_code, prog_4_method_1_code, prog_11_method_1_code, prog_12_method_1_code, prog_6_method_1_code, prog_7_method_1_code, prog_22_method_101_code, prog_3_method_1_code, prog_8_method_1_code, prog_2_method_1_code, prog_10_method_1_code, prog_5_method_1_code, prog_12_method_2_code, prog_17_method_69_code, prog_12_method_5_code, prog_12_method_4_code, prog_7_method_2_code, prog_17_method_52_code, prog_7_method_9_code, prog_17_method_49_code, prog_6_method_7_code, prog_6_method_2_code, prog_12_method_3_code, prog_1_method_2_code, prog_1_method_56_code, prog_1_method_57_code, prog_1_method_66_code, prog_1_method_65_code, prog_6_method_10_code, prog_6_method_3_code, prog_6_method_4_code, prog_6_method_5_code, prog_1_method_68_code, prog_1_method_70_code, prog_1_method_71_code, prog_1_method_74_code, prog_3_method_3_code, prog_11_method_2_code, prog_17_method_66_code, prog_4_method_2_code]
def xw_0 : List Nat := [113, 121, 132, 148, 164, 170, 191, 209, 226, 245, 264, 286, 300, 303, 308, 312, 316, 319, 322, 325, 329, 332, 336, 391, 394, 397, 401, 405, 409, 413, 417, 421, 425, 429, 433, 437, 444, 449, 452, 456]
def xm_1 : List (Nat × Nat × Nat × Nat × Nat × Option FieldType) := [(6, 4, 2, 2, 55, none), (2, 11, 4, 1, 25, none), (2, 2, 1, 2, 60, none), (5, 3, 1, 2, 60, none), (5, 5, 1, 2, 60, none), (0, 3, 1, 4, 104, none), (0, 2, 1, 4, 121, none), (0, 1, 1, 0, 0, some .boolean), (0, 12, 1, 3, 90, some .long), (11, 7, 3, 2, 54, some .long), (11, 10, 3, 1, 25, some .long), (0, 8, 2, 2, 63, some .long), (0, 2, 2, 1, 20, some .boolean), (11, 19, 2, 1, 25, some .long), (11, 4, 2, 1, 25, some .long), (0, 7, 2, 2, 55, none), (4, 3, 2, 2, 41, some .boolean), (0, 3, 2, 0, 0, none), (0, 3, 2, 7, 187, some .int), (0, 3, 2, 6, 160, some .int), (4, 4, 2, 2, 60, none), (6, 4, 2, 5, 137, some .int), (6, 8, 1, 2, 41, some .boolean), (4, 2, 1, 2, 41, some .int), (6, 1, 1, 0, 0, some .int), (6, 2, 1, 4, 101, some .boolean), (2, 1, 0, 0, 0, some .boolean), (6, 5, 1, 4, 113, some .boolean), (6, 4, 3, 3, 90, some .int), (6, 3, 2, 2, 41, some .boolean), (6, 8, 2, 2, 63, some .long), (13, 2, 2, 0, 0, some .int), (6, 4, 1, 3, 86, some .boolean), (4, 4, 2, 2, 63, some .long), (6, 3, 1, 3, 78, some .boolean), (0, 6, 1, 7, 187, some .int), (0, 1, 1, 0, 0, some .boolean), (0, 5, 1, 6, 160, some .long), (0, 2, 1, 1, 20, some .int), (0, 2, 1, 4, 84, some .int)]
def xn_1 : List MethodName := [⟨"BernoulliWays$Checks", "addEntry", "(JI)V"⟩, ⟨"BernoulliWays$Total", "add", "(JJJJ)V"⟩, ⟨"BernoulliWays$Total", "tell", "(LBernoulliWays$Fraction;)V"⟩, ⟨"BernoulliWays$Fraction", "multiply", "(J)V"⟩, ⟨"BernoulliWays$Fraction", "divide", "(J)V"⟩, ⟨"BernoulliWays", "workTriangle", "(I)V"⟩, ⟨"BernoulliWays", "workSieve", "(I)V"⟩, ⟨"BernoulliWays", "isEvenFromTwo", "(I)Z"⟩, ⟨"BernoulliWays", "sievedWhole", "(I)J"⟩, ⟨"BernoulliWays$Modulo", "powerSum", "(IIJ)J"⟩, ⟨"BernoulliWays$Modulo", "power", "(JIJ)J"⟩, ⟨"BernoulliWays", "inversesBelow", "(II)J"⟩, ⟨"BernoulliWays", "isBelow", "(II)Z"⟩, ⟨"BernoulliWays$Modulo", "inverse", "(JJ)J"⟩, ⟨"BernoulliWays$Modulo", "least", "(JJ)J"⟩, ⟨"BernoulliWays", "addPrimesBelow", "(II)V"⟩, ⟨"BernoulliWays$Entries", "holds", "(ILBernoulliWays$Fraction;)Z"⟩, ⟨"BernoulliWays", "noteWay", "(II)V"⟩, ⟨"BernoulliWays", "relay", "(II)I"⟩, ⟨"BernoulliWays", "spoil", "(II)I"⟩, ⟨"BernoulliWays$Entries", "increase", "(IJ)V"⟩, ⟨"BernoulliWays$Checks", "failed", "(II)I"⟩, ⟨"BernoulliWays$Checks", "failsBelow", "(I)Z"⟩, ⟨"BernoulliWays$Entries", "signOf", "(I)I"⟩, ⟨"BernoulliWays$Checks", "dueSign", "(I)I"⟩, ⟨"BernoulliWays$Checks", "failsRecurrence", "(I)Z"⟩, ⟨"BernoulliWays$Total", "isNothing", "()Z"⟩, ⟨"BernoulliWays$Checks", "failsKummer", "(I)Z"⟩, ⟨"BernoulliWays$Checks", "kummerOf", "(III)I"⟩, ⟨"BernoulliWays$Checks", "isTold", "(II)Z"⟩, ⟨"BernoulliWays$Checks", "byNumber", "(IJ)J"⟩, ⟨"java/lang/Math", "max", "(II)I"⟩, ⟨"BernoulliWays$Checks", "failsDivisor", "(I)Z"⟩, ⟨"BernoulliWays$Entries", "modulo", "(IJ)J"⟩, ⟨"BernoulliWays$Checks", "failsSixth", "(I)Z"⟩, ⟨"BernoulliWays", "heal", "(I)I"⟩, ⟨"BernoulliWays", "areTests", "(I)Z"⟩, ⟨"BernoulliWays", "failingOnes", "(I)J"⟩, ⟨"BernoulliWays", "way", "(I)I"⟩, ⟨"BernoulliWays", "right", "(I)I"⟩]
def xb_1 : List ByteArray := [prog_3_method_8_code, prog_11_method_3_code, prog_11_method_5_code, prog_7_method_3_code, prog_7_method_4_code, prog_1_method_72_code, prog_1_method_73_code, prog_1_method_60_code, prog_1_method_76_code, prog_9_method_5_code, prog_9_method_3_code, prog_1_method_77_code, prog_1_method_63_code, prog_9_method_4_code, prog_9_method_2_code, prog_1_method_75_code, prog_6_method_9_code, prog_1_method_69_code, prog_1_method_3_code, prog_1_method_4_code, prog_6_method_12_code, prog_3_method_2_code, prog_3_method_9_code, prog_6_method_6_code, prog_3_method_10_code, prog_3_method_11_code, prog_11_method_4_code, prog_3_method_12_code, prog_3_method_4_code, prog_3_method_6_code, prog_3_method_7_code, prog_17_method_65_code, prog_3_method_13_code, prog_6_method_13_code, prog_3_method_14_code, prog_1_method_5_code, prog_1_method_59_code, prog_1_method_81_code, prog_1_method_7_code, prog_1_method_8_code]
def xw_1 : List Nat := [460, 467, 473, 478, 483, 487, 491, 494, 500, 505, 508, 512, 515, 518, 521, 526, 530, 534, 538, 542, 546, 552, 556, 562, 565, 569, 574, 578, 582, 586, 591, 596, 600, 604, 610, 616, 619, 623, 627, 631]
def xm_2 : List (Nat × Nat × Nat × Nat × Nat × Option FieldType) := [(0, 4, 1, 6, 164, some .int), (0, 8, 2, 2, 41, some .int), (0, 2, 1, 3, 81, some .long), (0, 4, 2, 4, 108, some .int), (0, 5, 1, 0, 0, some .boolean), (0, 3, 2, 3, 86, some .int), (7, 5, 3, 2, 79, none), (7, 4, 2, 0, 0, some .int), (7, 1, 0, 1, 59, none), (7, 2, 1, 0, 0, some .boolean), (0, 3, 2, 4, 101, some .int), (11, 2, 2, 3, 80, some .long), (0, 3, 2, 5, 129, some .int), (7, 1, 0, 0, 0, some .int), (7, 2, 1, 1, 21, some .int), (7, 2, 1, 1, 21, some .int), (7, 2, 1, 1, 21, some .int), (0, 2, 1, 4, 108, some .boolean), (0, 3, 2, 3, 82, some .int), (0, 2, 1, 0, 0, some .boolean), (4, 3, 2, 2, 60, none), (5, 9, 1, 1, 25, some .int), (5, 5, 1, 0, 0, some .int), (0, 4, 3, 4, 113, some .int), (0, 4, 3, 4, 119, some .int), (6, 10, 3, 3, 90, some .int), (0, 2, 1, 6, 160, some .int), (0, 2, 1, 7, 184, some .long), (0, 5, 1, 6, 160, some .int), (0, 6, 1, 7, 182, some .int), (0, 3, 1, 6, 160, some .boolean), (4, 2, 1, 1, 59, none), (0, 6, 3, 6, 160, some .int), (0, 10, 2, 3, 83, none), (0, 2, 1, 0, 0, some .long), (0, 3, 2, 4, 101, some .long), (0, 1, 1, 0, 0, some .boolean), (5, 2, 1, 0, 0, some .long), (0, 5, 3, 3, 82, some .long), (0, 3, 1, 2, 41, some .int)]
def xn_2 : List MethodName := [⟨"BernoulliWays", "agree", "(I)I"⟩, ⟨"BernoulliWays", "prime", "(II)I"⟩, ⟨"BernoulliWays", "whole", "(I)J"⟩, ⟨"BernoulliWays", "residue", "(II)I"⟩, ⟨"BernoulliWays", "isPrime", "(I)Z"⟩, ⟨"BernoulliWays", "residueNow", "(II)I"⟩, ⟨"BernoulliWays$Memo", "remember", "(III)V"⟩, ⟨"BernoulliWays$Memo", "placeOf", "(II)I"⟩, ⟨"BernoulliWays$Memo", "dropEldest", "()V"⟩, ⟨"BernoulliWays$Memo", "fits", "(I)Z"⟩, ⟨"BernoulliWays", "byPowers", "(II)I"⟩, ⟨"BernoulliWays$Modulo", "byPowerSum", "(II)J"⟩, ⟨"BernoulliWays", "memo", "(II)I"⟩, ⟨"BernoulliWays$Memo", "size", "()I"⟩, ⟨"BernoulliWays$Memo", "entryOf", "(I)I"⟩, ⟨"BernoulliWays$Memo", "primeOf", "(I)I"⟩, ⟨"BernoulliWays$Memo", "answerOf", "(I)I"⟩, ⟨"BernoulliWays", "holdsStill", "(I)Z"⟩, ⟨"BernoulliWays", "often", "(II)I"⟩, ⟨"BernoulliWays", "isLaid", "(I)Z"⟩, ⟨"BernoulliWays$Entries", "fetch", "(ILBernoulliWays$Fraction;)V"⟩, ⟨"BernoulliWays$Fraction", "oftenAbove", "(I)I"⟩, ⟨"BernoulliWays$Fraction", "oftenBelow", "(I)I"⟩, ⟨"BernoulliWays", "kummer", "(III)I"⟩, ⟨"BernoulliWays", "kummerTwice", "(III)I"⟩, ⟨"BernoulliWays$Checks", "kummerTwiceOf", "(III)I"⟩, ⟨"BernoulliWays", "tests", "(I)I"⟩, ⟨"BernoulliWays", "suspects", "(I)J"⟩, ⟨"BernoulliWays", "broken", "(I)I"⟩, ⟨"BernoulliWays", "culprit", "(I)I"⟩, ⟨"BernoulliWays", "allPass", "(I)Z"⟩, ⟨"BernoulliWays$Entries", "takeOver", "(LBernoulliWays$Entries;)V"⟩, ⟨"BernoulliWays", "trial", "(III)I"⟩, ⟨"BernoulliWays", "spoilByDraws", "(II)V"⟩, ⟨"BernoulliWays", "nextDraw", "(J)J"⟩, ⟨"BernoulliWays", "remainder", "(II)J"⟩, ⟨"BernoulliWays", "isPart", "(I)Z"⟩, ⟨"BernoulliWays$Fraction", "told", "(I)J"⟩, ⟨"BernoulliWays", "triangleAt", "(III)J"⟩, ⟨"BernoulliWays", "whichBelow", "(I)I"⟩]
def xb_2 : List ByteArray := [prog_1_method_9_code, prog_1_method_10_code, prog_1_method_11_code, prog_1_method_12_code, prog_1_method_62_code, prog_1_method_78_code, prog_8_method_6_code, prog_8_method_8_code, prog_8_method_9_code, prog_8_method_7_code, prog_1_method_13_code, prog_9_method_6_code, prog_1_method_14_code, prog_8_method_2_code, prog_8_method_3_code, prog_8_method_4_code, prog_8_method_5_code, prog_1_method_79_code, prog_1_method_15_code, prog_1_method_64_code, prog_6_method_8_code, prog_7_method_7_code, prog_7_method_8_code, prog_1_method_16_code, prog_1_method_17_code, prog_3_method_5_code, prog_1_method_18_code, prog_1_method_19_code, prog_1_method_20_code, prog_1_method_21_code, prog_1_method_82_code, prog_6_method_11_code, prog_1_method_22_code, prog_1_method_83_code, prog_1_method_84_code, prog_1_method_23_code, prog_1_method_58_code, prog_7_method_5_code, prog_1_method_24_code, prog_1_method_25_code]
def xw_2 : List Nat := [635, 639, 643, 651, 654, 658, 663, 667, 671, 678, 682, 685, 690, 694, 698, 702, 706, 710, 714, 718, 723, 727, 731, 735, 740, 744, 749, 753, 757, 761, 765, 769, 774, 778, 781, 789, 792, 796, 800, 805]
def xm_3 : List (Nat × Nat × Nat × Nat × Nat × Option FieldType) := [(0, 2, 1, 6, 155, some .int), (9, 2, 1, 5, 134, none), (9, 3, 1, 4, 112, none), (8, 3, 2, 3, 90, none), (8, 6, 1, 2, 63, none), (8, 4, 1, 2, 63, none), (8, 8, 1, 2, 63, none), (8, 2, 1, 0, 0, some .long), (9, 4, 1, 0, 0, some .int), (0, 3, 2, 6, 155, some .int), (9, 1, 0, 0, 0, some .int), (9, 2, 1, 0, 0, some .int), (9, 2, 1, 0, 0, some .int), (0, 2, 1, 6, 155, some .int), (0, 9, 2, 4, 105, some .int), (0, 6, 2, 3, 80, some .long), (0, 3, 2, 4, 101, some .int), (0, 8, 3, 2, 54, some .int), (0, 4, 3, 4, 112, some .int), (0, 5, 2, 4, 112, some .int), (0, 9, 1, 2, 63, some .int), (0, 7, 1, 1, 24, some .int), (0, 4, 1, 3, 77, some .int), (11, 4, 2, 2, 54, some .int), (0, 7, 3, 4, 99, some .long), (0, 14, 5, 3, 66, some .long), (4, 6, 2, 2, 41, some .long), (0, 7, 1, 6, 155, some .int), (0, 5, 3, 3, 84, some .long), (0, 1, 1, 0, 0, some .int), (5, 1, 0, 0, 0, some .long), (0, 3, 2, 4, 108, some .int), (0, 2, 2, 0, 0, some .boolean), (0, 3, 1, 3, 86, none), (0, 9, 2, 2, 63, some .long), (0, 3, 2, 4, 92, some .int), (0, 7, 2, 3, 66, none), (10, 1, 0, 1, 24, none), (10, 10, 2, 1, 25, none), (10, 8, 1, 0, 0, none)]
def xn_3 : List MethodName := [⟨"BernoulliWays", "irregular", "(I)I"⟩, ⟨"BernoulliWays$Pairs", "searchUpTo", "(I)V"⟩, ⟨"BernoulliWays$Pairs", "search", "(I)V"⟩, ⟨"BernoulliWays$ByWays", "fill", "(II)V"⟩, ⟨"BernoulliWays$ByWays", "fillByRecurrence", "(I)V"⟩, ⟨"BernoulliWays$ByWays", "fillByTriangle", "(I)V"⟩, ⟨"BernoulliWays$ByWays", "fillByPowers", "(I)V"⟩, ⟨"BernoulliWays$ByWays", "residueOf", "(I)J"⟩, ⟨"BernoulliWays$Pairs", "manyOf", "(I)I"⟩, ⟨"BernoulliWays", "pair", "(II)I"⟩, ⟨"BernoulliWays$Pairs", "size", "()I"⟩, ⟨"BernoulliWays$Pairs", "primeOf", "(I)I"⟩, ⟨"BernoulliWays$Pairs", "evenOf", "(I)I"⟩, ⟨"BernoulliWays", "second", "(I)I"⟩, ⟨"BernoulliWays", "secondOf", "(II)I"⟩, ⟨"BernoulliWays", "byNumber", "(II)J"⟩, ⟨"BernoulliWays", "far", "(II)I"⟩, ⟨"BernoulliWays", "voronoi", "(III)I"⟩, ⟨"BernoulliWays", "byWay", "(III)I"⟩, ⟨"BernoulliWays", "nothings", "(II)I"⟩, ⟨"BernoulliWays", "harmonic", "(I)I"⟩, ⟨"BernoulliWays", "wilson", "(I)I"⟩, ⟨"BernoulliWays", "classNumber", "(I)I"⟩, ⟨"BernoulliWays$Modulo", "signOf", "(II)I"⟩, ⟨"BernoulliWays", "quadratic", "(III)J"⟩, ⟨"BernoulliWays", "homogeneous", "(LBernoulliWays$Entries;IJJJ)J"⟩, ⟨"BernoulliWays$Entries", "scaled", "(IJ)J"⟩, ⟨"BernoulliWays", "regulars", "(I)I"⟩, ⟨"BernoulliWays", "coefficient", "(III)J"⟩, ⟨"BernoulliWays", "extra", "(I)I"⟩, ⟨"BernoulliWays$Fraction", "overLine", "()J"⟩, ⟨"BernoulliWays", "sum", "(II)I"⟩, ⟨"BernoulliWays", "isSum", "(II)Z"⟩, ⟨"BernoulliWays", "fillBigResidues", "(I)V"⟩, ⟨"BernoulliWays", "bigPolynomial", "(IJ)J"⟩, ⟨"BernoulliWays", "digits", "(II)I"⟩, ⟨"BernoulliWays", "workSum", "(II)V"⟩, ⟨"BernoulliWays$Decimal", "clear", "()V"⟩, ⟨"BernoulliWays$Decimal", "multiplyAndAdd", "(JJ)V"⟩, ⟨"BernoulliWays$Decimal", "divide", "(J)V"⟩]
def xb_3 : List ByteArray := [prog_1_method_26_code, prog_10_method_6_code, prog_10_method_7_code, prog_2_method_3_code, prog_2_method_4_code, prog_2_method_5_code, prog_2_method_6_code, prog_2_method_2_code, prog_10_method_5_code, prog_1_method_27_code, prog_10_method_2_code, prog_10_method_3_code, prog_10_method_4_code, prog_1_method_28_code, prog_1_method_85_code, prog_1_method_86_code, prog_1_method_29_code, prog_1_method_30_code, prog_1_method_31_code, prog_1_method_32_code, prog_1_method_33_code, prog_1_method_34_code, prog_1_method_35_code, prog_9_method_7_code, prog_1_method_36_code, prog_1_method_87_code, prog_6_method_14_code, prog_1_method_37_code, prog_1_method_38_code, prog_1_method_88_code, prog_7_method_6_code, prog_1_method_39_code, prog_1_method_61_code, prog_1_method_89_code, prog_1_method_90_code, prog_1_method_40_code, prog_1_method_91_code, prog_5_method_2_code, prog_5_method_3_code, prog_5_method_4_code]
def xw_3 : List Nat := [809, 813, 818, 822, 826, 832, 836, 841, 845, 849, 853, 857, 861, 865, 868, 871, 875, 880, 885, 891, 895, 899, 903, 906, 910, 915, 920, 924, 928, 932, 936, 940, 943, 948, 953, 957, 961, 965, 971, 978]
def xm_4 : List (Nat × Nat × Nat × Nat × Nat × Option FieldType) := [(10, 1, 0, 1, 24, none), (10, 5, 1, 0, 0, some .int), (10, 1, 0, 0, 0, some .int), (0, 4, 3, 4, 92, some .int), (10, 2, 1, 1, 24, some .int), (0, 10, 4, 4, 108, some .int), (0, 4, 3, 4, 91, some .long), (0, 6, 1, 3, 66, some .boolean), (0, 4, 3, 3, 82, some .long), (0, 8, 4, 4, 99, some .long), (0, 4, 3, 4, 109, some .int), (0, 4, 2, 3, 86, some .boolean), (0, 8, 3, 0, 0, some .long), (0, 5, 2, 4, 109, some .int), (0, 3, 2, 3, 84, some .long), (0, 2, 1, 3, 82, some .long), (0, 3, 2, 2, 47, some .long), (0, 4, 1, 1, 24, none), (0, 5, 3, 0, 0, some .long), (0, 5, 2, 3, 81, some .long), (0, 4, 1, 1, 59, some .long), (0, 4, 1, 3, 84, some .long), (0, 4, 1, 2, 41, some .int), (13, 2, 1, 0, 0, some .long), (0, 2, 1, 6, 151, some .int), (0, 3, 0, 4, 84, some .int), (0, 3, 0, 5, 129, some .int), (0, 3, 2, 3, 82, some .long), (12, 4, 0, 3, 92, none), (12, 8, 5, 0, 0, none), (12, 5, 3, 1, 26, none), (12, 7, 3, 0, 0, none), (12, 14, 5, 2, 59, none), (12, 6, 2, 0, 0, some .long), (12, 11, 5, 1, 29, none), (12, 10, 2, 0, 0, some .long), (12, 1, 0, 0, 0, some .int), (12, 4, 2, 2, 49, some .int), (12, 2, 1, 1, 22, some .boolean), (12, 3, 3, 0, 0, some .boolean)]
def xn_4 : List MethodName := [⟨"BernoulliWays$Decimal", "measure", "()V"⟩, ⟨"BernoulliWays$Decimal", "fromRight", "(I)I"⟩, ⟨"BernoulliWays$Decimal", "size", "()I"⟩, ⟨"BernoulliWays", "digit", "(III)I"⟩, ⟨"BernoulliWays$Decimal", "fromLeft", "(I)I"⟩, ⟨"BernoulliWays", "progression", "(IIII)I"⟩, ⟨"BernoulliWays", "triangular", "(III)J"⟩, ⟨"BernoulliWays", "splitInTriangles", "(I)Z"⟩, ⟨"BernoulliWays", "poly", "(III)J"⟩, ⟨"BernoulliWays", "value", "(IIII)J"⟩, ⟨"BernoulliWays", "at", "(III)I"⟩, ⟨"BernoulliWays", "fillPolynomial", "(II)Z"⟩, ⟨"BernoulliWays", "polynomialAt", "(IJI)J"⟩, ⟨"BernoulliWays", "roots", "(II)I"⟩, ⟨"BernoulliWays", "zeta", "(II)J"⟩, ⟨"BernoulliWays", "genocchi", "(I)J"⟩, ⟨"BernoulliWays", "onto", "(II)J"⟩, ⟨"BernoulliWays", "fillBoxes", "(I)V"⟩, ⟨"BernoulliWays", "timesTogether", "(IJJ)J"⟩, ⟨"BernoulliWays", "byBoxes", "(II)J"⟩, ⟨"BernoulliWays", "zigzag", "(I)J"⟩, ⟨"BernoulliWays", "tangent", "(I)J"⟩, ⟨"BernoulliWays", "growth", "(I)I"⟩, ⟨"java/lang/Math", "abs", "(J)J"⟩, ⟨"BernoulliWays", "count", "(I)I"⟩, ⟨"BernoulliWays", "manyNotRight", "()I"⟩, ⟨"BernoulliWays", "manyOutdated", "()I"⟩, ⟨"BernoulliWays", "number", "(II)J"⟩, ⟨"BernoulliWaysModel", "<init>", "()V"⟩, ⟨"BernoulliWaysModel", "lays", "([JIJJJ)V"⟩, ⟨"BernoulliWaysModel", "addsUp", "([JII)V"⟩, ⟨"BernoulliWaysModel", "addsOne", "([JJI)V"⟩, ⟨"BernoulliWaysModel", "quotes", "([JIJJI)V"⟩, ⟨"BernoulliWaysModel", "downBy", "(JJ)J"⟩, ⟨"BernoulliWaysModel", "laysProper", "([JIJJJ)V"⟩, ⟨"BernoulliWaysModel", "common", "(JJ)J"⟩, ⟨"BernoulliWaysModel", "thrown", "()I"⟩, ⟨"BernoulliWaysModel", "lay", "(II)I"⟩, ⟨"BernoulliWaysModel", "isEntry", "(I)Z"⟩, ⟨"BernoulliWaysModel", "isIn", "(III)Z"⟩]
def xb_4 : List ByteArray := [prog_5_method_5_code, prog_5_method_8_code, prog_5_method_6_code, prog_1_method_41_code, prog_5_method_7_code, prog_1_method_42_code, prog_1_method_43_code, prog_1_method_92_code, prog_1_method_44_code, prog_1_method_45_code, prog_1_method_46_code, prog_1_method_93_code, prog_1_method_94_code, prog_1_method_47_code, prog_1_method_48_code, prog_1_method_49_code, prog_1_method_50_code, prog_1_method_95_code, prog_1_method_96_code, prog_1_method_51_code, prog_1_method_52_code, prog_1_method_53_code, prog_1_method_54_code, prog_17_method_61_code, prog_1_method_55_code, prog_1_method_67_code, prog_1_method_80_code, prog_1_method_6_code, prog_14_method_1_code, prog_14_method_6_code, prog_14_method_9_code, prog_14_method_8_code, prog_14_method_10_code, prog_14_method_5_code, prog_14_method_7_code, prog_14_method_4_code, prog_14_method_2_code, prog_14_method_15_code, prog_14_method_11_code, prog_14_method_3_code]
def xw_4 : List Nat := [982, 986, 991, 995, 999, 1003, 1007, 1011, 1017, 1021, 1026, 1030, 1034, 1038, 1042, 1046, 1050, 1054, 1059, 1064, 1069, 1074, 1078, 1081, 1085, 1089, 1093, 1101, 1172, 1176, 1180, 1184, 1189, 1192, 1196, 1199, 1306, 1310, 1314, 1317]
def xm_5 : List (Nat × Nat × Nat × Nat × Nat × Option FieldType) := [(12, 3, 1, 1, 21, some .boolean), (12, 2, 1, 0, 0, some .boolean), (12, 3, 2, 1, 27, none), (12, 4, 2, 2, 49, some .int), (12, 3, 2, 5, 118, some .int), (12, 9, 2, 2, 59, none), (12, 2, 1, 4, 97, some .int), (12, 7, 1, 1, 26, some .boolean), (12, 5, 1, 0, 0, some .long), (12, 2, 1, 0, 0, some .int), (12, 1, 1, 0, 0, some .int), (12, 2, 1, 2, 50, some .boolean), (12, 4, 1, 3, 74, some .boolean), (12, 6, 3, 2, 49, some .int), (12, 5, 3, 1, 25, some .int), (12, 5, 2, 0, 0, some .int), (12, 6, 3, 0, 0, some .int), (12, 3, 1, 2, 49, some .boolean), (12, 3, 2, 1, 22, some .long), (12, 1, 0, 0, 0, some .long), (12, 2, 1, 2, 43, some .int), (12, 2, 1, 2, 43, some .int), (12, 2, 1, 2, 43, some .int), (12, 5, 2, 2, 43, some .int), (12, 7, 1, 1, 22, some .long), (12, 10, 3, 2, 59, some .long), (12, 3, 1, 0, 0, some .int), (12, 4, 2, 2, 49, some .int), (12, 3, 1, 0, 0, some .boolean), (12, 6, 3, 1, 23, none), (12, 4, 2, 0, 0, some .int), (12, 5, 2, 2, 43, some .int), (12, 3, 2, 3, 70, some .int), (12, 2, 1, 2, 49, some .boolean), (12, 5, 2, 2, 43, some .int), (12, 6, 2, 0, 0, some .int), (12, 16, 2, 0, 0, some .int), (12, 4, 3, 3, 74, some .int), (12, 10, 3, 3, 74, some .int), (12, 9, 3, 1, 29, some .long)]
def xn_5 : List MethodName := [⟨"BernoulliWaysModel", "areRight", "(I)Z"⟩, ⟨"BernoulliWaysModel", "isRight", "(I)Z"⟩, ⟨"BernoulliWaysModel", "makes", "(II)V"⟩, ⟨"BernoulliWaysModel", "relay", "(II)I"⟩, ⟨"BernoulliWaysModel", "spoil", "(II)I"⟩, ⟨"BernoulliWaysModel", "spoils", "(II)V"⟩, ⟨"BernoulliWaysModel", "testsOf", "(I)I"⟩, ⟨"BernoulliWaysModel", "breaksSixth", "(I)Z"⟩, ⟨"BernoulliWaysModel", "dueBelow", "(I)J"⟩, ⟨"BernoulliWaysModel", "signOf", "(I)I"⟩, ⟨"BernoulliWaysModel", "dueSign", "(I)I"⟩, ⟨"BernoulliWaysModel", "breaksSum", "(I)Z"⟩, ⟨"BernoulliWaysModel", "breaksKummer", "(I)Z"⟩, ⟨"BernoulliWaysModel", "kummerOf", "(III)I"⟩, ⟨"BernoulliWaysModel", "restOf", "([JII)I"⟩, ⟨"BernoulliWaysModel", "rest", "(JI)I"⟩, ⟨"BernoulliWaysModel", "power", "(III)I"⟩, ⟨"BernoulliWaysModel", "breaksPrimes", "(I)Z"⟩, ⟨"BernoulliWaysModel", "number", "(II)J"⟩, ⟨"BernoulliWaysModel", "failsWith", "()J"⟩, ⟨"BernoulliWaysModel", "way", "(I)I"⟩, ⟨"BernoulliWaysModel", "right", "(I)I"⟩, ⟨"BernoulliWaysModel", "agree", "(I)I"⟩, ⟨"BernoulliWaysModel", "prime", "(II)I"⟩, ⟨"BernoulliWaysModel", "whole", "(I)J"⟩, ⟨"BernoulliWaysModel", "triangleAt", "(III)J"⟩, ⟨"BernoulliWaysModel", "whichBelow", "(I)I"⟩, ⟨"BernoulliWaysModel", "residue", "(II)I"⟩, ⟨"BernoulliWaysModel", "isPrime", "(I)Z"⟩, ⟨"BernoulliWaysModel", "keeps", "(III)V"⟩, ⟨"BernoulliWaysModel", "memoOf", "(II)I"⟩, ⟨"BernoulliWaysModel", "byPowers", "(II)I"⟩, ⟨"BernoulliWaysModel", "memo", "(II)I"⟩, ⟨"BernoulliWaysModel", "isAsKept", "(I)Z"⟩, ⟨"BernoulliWaysModel", "often", "(II)I"⟩, ⟨"BernoulliWaysModel", "oftenIn", "(JI)I"⟩, ⟨"BernoulliWaysModel", "oftenAbove", "(II)I"⟩, ⟨"BernoulliWaysModel", "kummer", "(III)I"⟩, ⟨"BernoulliWaysModel", "kummerTwice", "(III)I"⟩, ⟨"BernoulliWaysModel", "twiceOf", "([JII)J"⟩]
def xb_5 : List ByteArray := [prog_14_method_13_code, prog_14_method_12_code, prog_14_method_14_code, prog_14_method_16_code, prog_14_method_17_code, prog_14_method_18_code, prog_14_method_52_code, prog_14_method_51_code, prog_14_method_45_code, prog_14_method_46_code, prog_14_method_47_code, prog_14_method_48_code, prog_14_method_49_code, prog_14_method_41_code, prog_14_method_31_code, prog_14_method_29_code, prog_14_method_30_code, prog_14_method_50_code, prog_14_method_20_code, prog_14_method_19_code, prog_14_method_21_code, prog_14_method_22_code, prog_14_method_23_code, prog_14_method_25_code, prog_14_method_26_code, prog_14_method_27_code, prog_14_method_28_code, prog_14_method_34_code, prog_14_method_24_code, prog_14_method_33_code, prog_14_method_32_code, prog_14_method_35_code, prog_14_method_37_code, prog_14_method_36_code, prog_14_method_39_code, prog_14_method_38_code, prog_14_method_40_code, prog_14_method_42_code, prog_14_method_44_code, prog_14_method_43_code]
def xw_5 : List Nat := [1321, 1325, 1329, 1333, 1337, 1341, 1345, 1349, 1353, 1358, 1361, 1365, 1369, 1373, 1377, 1380, 1383, 1387, 1391, 1395, 1400, 1404, 1408, 1412, 1416, 1420, 1425, 1429, 1433, 1437, 1441, 1445, 1449, 1453, 1457, 1460, 1464, 1468, 1472, 1475]
def xm_6 : List (Nat × Nat × Nat × Nat × Nat × Option FieldType) := [(12, 10, 3, 0, 0, some .long), (12, 2, 1, 5, 118, some .int), (12, 5, 1, 5, 118, some .long), (12, 6, 1, 5, 118, some .int), (12, 10, 1, 6, 140, some .int), (12, 3, 1, 5, 118, some .boolean), (12, 7, 3, 5, 118, some .int), (12, 2, 1, 0, 0, some .int), (12, 3, 2, 2, 59, some .long), (12, 5, 1, 3, 71, some .int), (12, 4, 3, 4, 94, some .int), (12, 4, 2, 3, 71, none), (12, 3, 1, 2, 49, none), (12, 5, 1, 1, 25, none), (12, 4, 1, 1, 25, none), (12, 7, 3, 1, 29, some .long), (12, 5, 2, 4, 94, some .int), (12, 2, 1, 3, 72, some .int), (12, 4, 1, 2, 49, some .int), (12, 6, 2, 2, 49, some .int), (12, 5, 1, 3, 78, some .int), (12, 4, 2, 2, 55, some .boolean), (12, 3, 2, 2, 55, some .int), (12, 7, 1, 1, 29, some .int), (12, 5, 1, 1, 22, some .int), (12, 4, 1, 2, 47, some .int), (12, 3, 2, 1, 25, some .int), (12, 10, 3, 2, 59, some .long), (12, 6, 2, 0, 0, some .long), (12, 7, 3, 1, 25, some .int), (12, 4, 1, 3, 72, some .int), (12, 4, 3, 3, 91, some .long), (12, 16, 1, 2, 56, none), (12, 8, 3, 1, 29, none), (12, 3, 2, 4, 116, some .int), (12, 6, 2, 3, 91, some .long), (12, 4, 1, 0, 0, some .long), (12, 8, 1, 1, 23, some .long), (12, 8, 4, 4, 116, some .int), (12, 3, 2, 2, 54, some .int)]
def xn_6 : List MethodName := [⟨"BernoulliWaysModel", "bigPower", "(JIJ)J"⟩, ⟨"BernoulliWaysModel", "tests", "(I)I"⟩, ⟨"BernoulliWaysModel", "suspects", "(I)J"⟩, ⟨"BernoulliWaysModel", "heal", "(I)I"⟩, ⟨"BernoulliWaysModel", "culprit", "(I)I"⟩, ⟨"BernoulliWaysModel", "fails", "(I)Z"⟩, ⟨"BernoulliWaysModel", "trial", "(III)I"⟩, ⟨"BernoulliWaysModel", "draw", "(I)I"⟩, ⟨"BernoulliWaysModel", "remainder", "(II)J"⟩, ⟨"BernoulliWaysModel", "broken", "(I)I"⟩, ⟨"BernoulliWaysModel", "byWay", "(III)I"⟩, ⟨"BernoulliWaysModel", "laysWay", "(II)V"⟩, ⟨"BernoulliWaysModel", "laysAll", "(I)V"⟩, ⟨"BernoulliWaysModel", "laysRests", "(I)V"⟩, ⟨"BernoulliWaysModel", "laysTriangle", "(I)V"⟩, ⟨"BernoulliWaysModel", "powersBy", "(IIJ)J"⟩, ⟨"BernoulliWaysModel", "nothings", "(II)I"⟩, ⟨"BernoulliWaysModel", "irregular", "(I)I"⟩, ⟨"BernoulliWaysModel", "irregularOf", "(I)I"⟩, ⟨"BernoulliWaysModel", "pair", "(II)I"⟩, ⟨"BernoulliWaysModel", "second", "(I)I"⟩, ⟨"BernoulliWaysModel", "hasSquare", "(II)Z"⟩, ⟨"BernoulliWaysModel", "far", "(II)I"⟩, ⟨"BernoulliWaysModel", "harmonic", "(I)I"⟩, ⟨"BernoulliWaysModel", "wilson", "(I)I"⟩, ⟨"BernoulliWaysModel", "classNumber", "(I)I"⟩, ⟨"BernoulliWaysModel", "signOf", "(II)I"⟩, ⟨"BernoulliWaysModel", "quadratic", "(III)J"⟩, ⟨"BernoulliWaysModel", "raised", "(JI)J"⟩, ⟨"BernoulliWaysModel", "voronoi", "(III)I"⟩, ⟨"BernoulliWaysModel", "regulars", "(I)I"⟩, ⟨"BernoulliWaysModel", "coefficient", "(III)J"⟩, ⟨"BernoulliWaysModel", "laysSums", "(I)V"⟩, ⟨"BernoulliWaysModel", "puts", "(IJJ)V"⟩, ⟨"BernoulliWaysModel", "sum", "(II)I"⟩, ⟨"BernoulliWaysModel", "sumAt", "(II)J"⟩, ⟨"BernoulliWaysModel", "bigRest", "(J)J"⟩, ⟨"BernoulliWaysModel", "inverse", "(J)J"⟩, ⟨"BernoulliWaysModel", "progression", "(IIII)I"⟩, ⟨"BernoulliWaysModel", "digits", "(II)I"⟩]
def xb_6 : List ByteArray := [prog_14_method_71_code, prog_14_method_53_code, prog_14_method_54_code, prog_14_method_55_code, prog_14_method_57_code, prog_14_method_56_code, prog_14_method_59_code, prog_14_method_58_code, prog_14_method_60_code, prog_14_method_61_code, prog_14_method_66_code, prog_14_method_63_code, prog_14_method_64_code, prog_14_method_62_code, prog_14_method_65_code, prog_14_method_72_code, prog_14_method_67_code, prog_14_method_69_code, prog_14_method_68_code, prog_14_method_70_code, prog_14_method_74_code, prog_14_method_73_code, prog_14_method_75_code, prog_14_method_76_code, prog_14_method_77_code, prog_14_method_79_code, prog_14_method_78_code, prog_14_method_80_code, prog_14_method_103_code, prog_14_method_81_code, prog_14_method_82_code, prog_14_method_85_code, prog_14_method_84_code, prog_14_method_83_code, prog_14_method_88_code, prog_14_method_89_code, prog_14_method_86_code, prog_14_method_87_code, prog_14_method_90_code, prog_14_method_97_code]
def xw_6 : List Nat := [1478, 1482, 1486, 1490, 1494, 1498, 1502, 1506, 1514, 1518, 1522, 1526, 1530, 1534, 1538, 1541, 1545, 1549, 1553, 1557, 1561, 1565, 1569, 1574, 1578, 1582, 1585, 1589, 1592, 1597, 1601, 1605, 1610, 1614, 1618, 1623, 1626, 1630, 1635, 1639]
def xm_7 : List (Nat × Nat × Nat × Nat × Nat × Option FieldType) := [(12, 2, 2, 1, 22, some .boolean), (12, 4, 2, 1, 31, none), (12, 4, 1, 0, 0, none), (12, 8, 1, 0, 0, none), (12, 12, 3, 0, 0, none), (12, 5, 0, 0, 0, some .int), (12, 8, 3, 2, 54, some .int), (12, 4, 3, 4, 126, some .long), (12, 16, 1, 3, 91, some .boolean), (12, 8, 3, 2, 56, none), (12, 9, 3, 2, 59, some .long), (12, 11, 4, 2, 59, some .long), (12, 5, 3, 3, 73, some .int), (12, 5, 2, 2, 49, some .int), (12, 6, 3, 0, 0, some .int), (12, 6, 2, 3, 73, some .int), (12, 12, 2, 2, 59, some .long), (12, 6, 1, 1, 22, some .long), (12, 3, 2, 2, 47, some .long), (12, 4, 1, 1, 24, none), (12, 5, 3, 0, 0, some .long), (12, 12, 2, 2, 59, some .long), (12, 4, 1, 1, 22, some .long), (12, 10, 1, 1, 29, some .long), (12, 2, 1, 0, 0, some .long), (12, 4, 1, 1, 22, some .int), (12, 4, 1, 3, 70, some .int)]
def xn_7 : List MethodName := [⟨"BernoulliWaysModel", "isSum", "(II)Z"⟩, ⟨"BernoulliWaysModel", "laysFull", "(II)V"⟩, ⟨"BernoulliWaysModel", "laysKinds", "(I)V"⟩, ⟨"BernoulliWaysModel", "times", "(J)V"⟩, ⟨"BernoulliWaysModel", "addsRow", "(IJI)V"⟩, ⟨"BernoulliWaysModel", "digitsOfFull", "()I"⟩, ⟨"BernoulliWaysModel", "digit", "(III)I"⟩, ⟨"BernoulliWaysModel", "triangular", "(III)J"⟩, ⟨"BernoulliWaysModel", "laysTriangles", "(I)Z"⟩, ⟨"BernoulliWaysModel", "takes", "(IJJ)V"⟩, ⟨"BernoulliWaysModel", "poly", "(III)J"⟩, ⟨"BernoulliWaysModel", "value", "(IIII)J"⟩, ⟨"BernoulliWaysModel", "at", "(III)I"⟩, ⟨"BernoulliWaysModel", "laysPoly", "(II)I"⟩, ⟨"BernoulliWaysModel", "polyAt", "(III)I"⟩, ⟨"BernoulliWaysModel", "roots", "(II)I"⟩, ⟨"BernoulliWaysModel", "zeta", "(II)J"⟩, ⟨"BernoulliWaysModel", "genocchi", "(I)J"⟩, ⟨"BernoulliWaysModel", "onto", "(II)J"⟩, ⟨"BernoulliWaysModel", "laysBoxes", "(I)V"⟩, ⟨"BernoulliWaysModel", "timesUpTo", "(IJJ)J"⟩, ⟨"BernoulliWaysModel", "byBoxes", "(II)J"⟩, ⟨"BernoulliWaysModel", "zigzag", "(I)J"⟩, ⟨"BernoulliWaysModel", "tangent", "(I)J"⟩, ⟨"BernoulliWaysModel", "size", "(J)J"⟩, ⟨"BernoulliWaysModel", "growth", "(I)I"⟩, ⟨"BernoulliWaysModel", "count", "(I)I"⟩]
def xb_7 : List ByteArray := [prog_14_method_96_code, prog_14_method_94_code, prog_14_method_91_code, prog_14_method_92_code, prog_14_method_93_code, prog_14_method_95_code, prog_14_method_98_code, prog_14_method_101_code, prog_14_method_100_code, prog_14_method_99_code, prog_14_method_102_code, prog_14_method_104_code, prog_14_method_107_code, prog_14_method_105_code, prog_14_method_106_code, prog_14_method_108_code, prog_14_method_109_code, prog_14_method_110_code, prog_14_method_113_code, prog_14_method_112_code, prog_14_method_111_code, prog_14_method_114_code, prog_14_method_115_code, prog_14_method_116_code, prog_14_method_117_code, prog_14_method_118_code, prog_14_method_119_code]
def xw_7 : List Nat := [1642, 1646, 1651, 1655, 1659, 1663, 1668, 1672, 1676, 1680, 1685, 1689, 1694, 1698, 1702, 1706, 1710, 1714, 1718, 1722, 1725, 1730, 1735, 1739, 1742, 1746, 1750]
def xms : List (Nat × Nat × Nat × Nat × Nat × Option FieldType) := xm_0 ++ (xm_1 ++ (xm_2 ++ (xm_3 ++ (xm_4 ++ (xm_5 ++ (xm_6 ++ (xm_7)))))))
def xns : List (MethodName) := xn_0 ++ (xn_1 ++ (xn_2 ++ (xn_3 ++ (xn_4 ++ (xn_5 ++ (xn_6 ++ (xn_7)))))))
def xbs : List (ByteArray) := xb_0 ++ (xb_1 ++ (xb_2 ++ (xb_3 ++ (xb_4 ++ (xb_5 ++ (xb_6 ++ (xb_7)))))))
def xws : List (Nat) := xw_0 ++ (xw_1 ++ (xw_2 ++ (xw_3 ++ (xw_4 ++ (xw_5 ++ (xw_6 ++ (xw_7)))))))
/-- the sites: (index, tag, a, b, constant), and the places of their words -/
def xs_0 : List (Nat × Nat × Nat × Nat × Int) := [(5, 2, 0, 0, 0), (11, 8, 1, 0, 0), (13, 0, 1, 2, 0), (14, 4, 0, 0, 0), (18, 8, 2, 0, 0), (20, 1, 2, 2, 0), (21, 4, 0, 1, 0), (25, 8, 3, 0, 0), (27, 1, 3, 2, 0), (28, 4, 0, 2, 0), (32, 8, 4, 0, 0), (34, 0, 4, 2, 0), (35, 4, 0, 3, 0), (39, 4, 0, 4, 0), (42, 4, 0, 5, 0), (45, 4, 0, 6, 0), (49, 4, 0, 7, 0), (53, 8, 6, 0, 0), (55, 0, 7, 2, 0), (58, 4, 0, 8, 0), (62, 8, 7, 0, 0), (64, 1, 8, 2, 0), (65, 4, 0, 9, 0), (69, 8, 8, 0, 0), (71, 1, 9, 2, 0), (72, 4, 0, 10, 0), (76, 8, 9, 0, 0), (78, 0, 10, 2, 0), (81, 4, 0, 11, 0), (85, 8, 10, 0, 0), (87, 1, 11, 2, 0), (88, 4, 0, 12, 0), (92, 8, 5, 0, 0), (94, 1, 5, 2, 0), (95, 4, 0, 13, 0), (99, 4, 0, 14, 0), (103, 4, 0, 15, 0), (106, 0, 12, 0, 0), (110, 0, 14, 0, 0), (114, 0, 20, 0, 0), (117, 0, 22, 0, 0), (120, 0, 24, 1, 0), (124, 0, 25, 1, 0), (127, 0, 26, 0, 0), (130, 0, 32, 0, 0), (134, 0, 60, 0, 0), (138, 0, 57, 0, 0), (142, 0, 61, 0, 0), (146, 0, 76, 1, 0), (149, 0, 77, 0, 0), (153, 0, 116, 1, 0), (163, 0, 99, 0, 0), (166, 10, 0, 0, -9223372036854775808), (168, 0, 100, 0, 0), (171, 0, 117, 0, 0), (174, 0, 27, 0, 0), (177, 0, 33, 0, 0), (180, 0, 56, 0, 0), (184, 6, 0, 0, 0), (187, 0, 52, 1, 0), (190, 0, 47, 1, 0), (193, 10, 0, 0, 7420738134810), (195, 0, 37, 0, 0), (198, 0, 29, 0, 0), (201, 0, 30, 0, 0), (204, 0, 31, 0, 0), (207, 0, 41, 0, 0), (211, 0, 55, 0, 0), (214, 0, 42, 0, 0), (218, 4, 5, 0, 0), (222, 0, 84, 1, 0), (225, 0, 85, 0, 0), (228, 0, 86, 0, 0), (232, 0, 91, 1, 0), (238, 0, 93, 0, 0), (242, 0, 94, 0, 0), (246, 0, 95, 0, 0), (249, 0, 96, 0, 0), (252, 0, 97, 0, 0), (255, 0, 63, 0, 0), (258, 0, 101, 0, 0), (261, 0, 102, 0, 0), (264, 0, 68, 0, 0), (268, 0, 105, 0, 0), (271, 0, 110, 0, 0), (274, 0, 111, 0, 0), (278, 0, 113, 0, 0), (281, 0, 36, 0, 0), (284, 0, 15, 0, 0), (287, 0, 121, 0, 0), (290, 0, 128, 0, 0), (293, 0, 130, 0, 0), (294, 0, 131, 0, 0), (295, 0, 132, 0, 0), (298, 0, 134, 1, 0), (301, 9, 0, 0, 1000000), (302, 0, 50, 1, 0), (306, 0, 54, 1, 0), (310, 0, 123, 0, 0), (313, 0, 127, 0, 0), (316, 0, 53, 1, 0), (319, 0, 143, 1, 0), (321, 10, 0, 0, 30), (323, 0, 145, 0, 0), (327, 0, 16, 0, 0), (331, 10, 0, 0, -2), (333, 0, 149, 1, 0), (336, 0, 39, 0, 0), (339, 0, 43, 0, 0), (342, 0, 44, 0, 0), (345, 0, 150, 0, 0), (349, 4, 5, 2, 0), (352, 0, 152, 1, 0), (355, 0, 153, 0, 0), (358, 0, 154, 0, 0), (362, 0, 156, 0, 0), (365, 0, 162, 0, 0), (366, 0, 164, 0, 0), (369, 10, 0, 0, 1000000007), (371, 0, 167, 0, 0), (374, 10, 0, 0, -3), (376, 10, 0, 0, 30030), (378, 10, 0, 0, 2310), (380, 0, 171, 0, 0), (383, 0, 172, 0, 0), (387, 10, 0, 0, -1), (389, 10, 0, 0, 2), (391, 4, 5, 1, 0), (394, 0, 177, 0, 0), (397, 10, 0, 0, 232792560), (399, 3, 0, 0, 0), (405, 0, 183, 1, 0), (411, 0, 185, 0, 0), (414, 0, 186, 0, 0), (417, 9, 0, 0, 1000000000), (418, 0, 28, 0, 0), (422, 0, 34, 0, 0), (425, 0, 45, 0, 0), (428, 0, 46, 0, 0), (431, 0, 35, 0, 0), (434, 0, 48, 0, 0), (437, 0, 49, 1, 0), (441, 0, 51, 1, 0), (444, 0, 73, 0, 0), (447, 0, 114, 1, 0), (450, 10, 0, 0, 9), (452, 10, 0, 0, 1103515245), (454, 10, 0, 0, 12345), (456, 10, 0, 0, 2147483647), (458, 0, 135, 1, 0), (461, 0, 146, 0, 0), (464, 0, 157, 0, 0), (467, 10, 0, 0, 223092870), (469, 0, 158, 0, 0), (473, 0, 159, 0, 0), (474, 0, 160, 0, 0), (477, 0, 6, 1, 0), (482, 0, 13, 1, 0), (485, 0, 178, 1, 0), (489, 10, 0, 0, 9223372036854775807)]
def xp_0 : List (List Nat) := [[114, 115, 116], [117, 118, 90], [119, 120, 90], [339], [128, 129, 91], [130, 131, 91], [340], [144, 145, 92], [146, 147, 92], [341], [160, 161, 93], [162, 163, 93], [342], [343], [344], [345], [346], [205, 206, 96], [207, 208, 96], [347], [222, 223, 97], [224, 225, 97], [348], [241, 242, 98], [243, 244, 98], [349], [260, 261, 99], [262, 263, 99], [350], [282, 283, 100], [284, 285, 100], [351], [295, 167, 94], [296, 169, 94], [352], [353], [354], [297, 298, 299, 92], [305, 306, 307, 92], [326, 327, 328, 93], [333, 334, 335, 92], [392, 393, 89], [395, 396, 89], [398, 400, 0, 89], [422, 424, 2, 89], [543, 544, 545, 93], [531, 533, 11, 89], [549, 550, 551, 96], [617, 618, 89], [620, 622, 19, 89], [790, 791, 89], [715, 717, 25, 89], [644], [720, 721, 722, 93], [793, 794, 795, 94], [402, 404, 1, 89], [426, 428, 3, 89], [527, 528, 529, 93], [501], [513, 514, 89], [492, 493, 89], [495], [496, 447, 448, 91], [645, 411, 412, 93], [646, 415, 416, 93], [647, 419, 420, 93], [522, 465, 466, 91], [523, 525, 10, 89], [470, 471, 472, 91], [175], [652, 653, 89], [655, 657, 20, 89], [660, 661, 662, 97], [683, 684, 103], [691, 692, 693, 97], [695, 696, 697, 97], [699, 700, 701, 97], [703, 704, 705, 97], [707, 709, 24, 89], [719, 560, 561, 93], [724, 725, 726, 94], [728, 729, 730, 94], [736, 580, 581, 96], [741, 742, 743, 96], [762, 764, 26, 89], [766, 767, 768, 93], [775, 777, 27, 89], [441, 442, 443, 96], [801, 310, 311, 92], [810, 811, 812, 99], [842, 843, 844, 99], [850, 851, 852, 99], [854, 855, 856, 99], [858, 859, 860, 99], [866, 867, 89], [876], [881, 507, 103], [519, 520, 103], [886, 820, 821, 98], [887, 839, 840, 98], [516, 517, 103], [904, 905, 103], [911], [912, 914, 32, 89], [438, 314, 315, 94], [929], [930, 931, 89], [916, 454, 455, 90], [475, 476, 477, 94], [480, 481, 482, 94], [933, 934, 935, 94], [181], [941, 942, 89], [945, 947, 33, 89], [950, 952, 34, 89], [958, 960, 35, 89], [988, 989, 990, 100], [996, 997, 998, 100], [949], [1008, 1010, 37, 89], [1013], [1012], [1022], [1027, 1029, 38, 89], [1031, 1033, 39, 89], [439], [440], [178], [1051, 1053, 40, 89], [1065], [1070, 674, 673, 108], [1079, 1080, 101], [1086, 1088, 41, 89], [1090, 1092, 42, 89], [944], [406, 407, 408, 93], [430, 432, 4, 89], [484, 486, 7, 89], [488, 490, 8, 89], [434, 436, 5, 89], [497, 499, 9, 89], [503, 504, 103], [510, 511, 89], [659, 602, 603, 93], [779, 780, 89], [785], [782], [783], [784], [869, 870, 89], [917, 918, 919, 93], [962, 963, 964, 100], [967], [968, 969, 970, 100], [975, 976, 977, 100], [979, 980, 981, 100], [1055, 190, 95], [1056, 302, 101], [1057, 1058, 89], [1060]]
def xs_1 : List (Nat × Nat × Nat × Nat × Int) := [(3, 2, 0, 0, 0), (11, 4, 1, 0, 0)]
def xp_1 : List (List Nat) := [[122, 115, 116], [123]]
def xs_2 : List (Nat × Nat × Nat × Nat × Int) := [(1, 2, 0, 0, 0), (7, 4, 2, 0, 0), (13, 0, 38, 1, 0), (19, 4, 2, 1, 0), (22, 4, 2, 2, 0), (25, 0, 19, 1, 0), (28, 0, 17, 1, 0), (31, 0, 16, 0, 0)]
def xp_2 : List (List Nat) := [[133, 115, 116], [134], [450, 451, 101], [135], [136], [468, 324, 101], [469, 318, 101], [474, 314, 315, 94]]
def xs_3 : List (Nat × Nat × Nat × Nat × Int) := [(3, 2, 0, 0, 0), (9, 4, 3, 0, 0), (15, 4, 3, 1, 0), (18, 0, 13, 1, 0), (24, 4, 3, 2, 0), (28, 10, 0, 0, 5342931457063200), (30, 0, 19, 1, 0), (34, 0, 17, 1, 0), (37, 0, 16, 0, 0), (43, 0, 15, 0, 0), (47, 4, 5, 0, 0)]
def xp_3 : List (List Nat) := [[149, 115, 116], [150], [151], [301, 302, 101], [152], [304], [337, 324, 101], [338, 318, 101], [313, 314, 315, 94], [309, 310, 311, 92], [173]]
def xs_4 : List (Nat × Nat × Nat × Nat × Int) := [(3, 2, 0, 0, 0), (9, 4, 4, 0, 0), (15, 4, 4, 1, 0), (18, 4, 4, 2, 0), (21, 8, 5, 0, 0), (23, 1, 5, 2, 0), (24, 4, 4, 3, 0), (28, 0, 6, 1, 0), (34, 0, 21, 1, 0), (38, 0, 29, 0, 0), (42, 0, 30, 0, 0), (45, 4, 5, 0, 0), (49, 4, 5, 1, 0), (52, 4, 5, 2, 0), (55, 0, 31, 0, 0), (58, 0, 16, 0, 0), (62, 3, 0, 0, 0), (68, 0, 20, 0, 0), (72, 0, 53, 1, 0), (78, 0, 54, 1, 0)]
def xp_4 : List (List Nat) := [[165, 115, 116], [192], [193], [194], [166, 167, 94], [168, 169, 94], [195], [189, 190, 95], [330, 331, 93], [410, 411, 412, 93], [414, 415, 416, 93], [174], [177], [180], [418, 419, 420, 93], [547, 314, 315, 94], [770, 674, 673, 108], [548, 327, 328, 93], [605, 517, 103], [606, 520, 103]]
def xs_5 : List (Nat × Nat × Nat × Nat × Int) := [(1, 2, 0, 0, 0), (7, 4, 5, 2, 0), (13, 0, 17, 1, 0), (19, 0, 18, 1, 0), (22, 0, 19, 1, 0), (25, 4, 5, 0, 0), (28, 4, 5, 1, 0), (31, 0, 16, 0, 0)]
def xp_5 : List (List Nat) := [[171, 115, 116], [179], [317, 318, 101], [320, 321, 94], [323, 324, 101], [172], [176], [479, 314, 315, 94]]
def xs_6 : List (Nat × Nat × Nat × Nat × Int) := [(3, 2, 0, 0, 0), (9, 4, 6, 0, 0), (15, 4, 6, 1, 0), (19, 4, 6, 2, 0), (23, 0, 62, 0, 0), (27, 0, 63, 0, 0), (33, 0, 64, 1, 0), (36, 0, 65, 0, 0), (39, 0, 67, 0, 0), (42, 0, 72, 0, 0), (45, 0, 74, 0, 0), (48, 10, 0, 0, 7420738134810), (50, 0, 37, 0, 0), (56, 0, 39, 0, 0), (62, 0, 40, 0, 0), (66, 0, 69, 0, 0), (70, 0, 70, 0, 0), (74, 0, 54, 1, 0), (80, 0, 50, 1, 0), (84, 1, 47, 1, 0), (87, 0, 31, 0, 0), (91, 0, 29, 0, 0), (94, 0, 30, 0, 0), (97, 0, 53, 1, 0), (100, 0, 41, 0, 0), (104, 7, 0, 0, 0), (108, 1, 52, 1, 0), (111, 0, 36, 0, 0), (115, 0, 66, 0, 0), (119, 0, 68, 0, 0), (123, 0, 71, 1, 0), (129, 0, 73, 0, 0), (132, 10, 0, 0, 6), (134, 10, 0, 0, 3)]
def xp_6 : List (List Nat) := [[210, 115, 116], [211], [212], [213], [553, 555, 12, 96], [559, 560, 561, 93], [563, 564, 96], [566, 568, 13, 96], [575, 577, 14, 96], [597, 599, 17, 96], [607, 609, 18, 96], [445], [446, 447, 448, 91], [453, 454, 455, 90], [457, 459, 6, 96], [583, 585, 15, 96], [588, 590, 16, 96], [593, 520, 103], [745, 507, 103], [587, 493, 89], [463, 419, 420, 93], [461, 411, 412, 93], [462, 415, 416, 93], [592, 517, 103], [464, 465, 466, 91], [557], [558, 514, 89], [570, 442, 443, 96], [571, 572, 573, 91], [579, 580, 581, 96], [594, 595, 101], [601, 602, 603, 93], [611], [612]]
def xs_7 : List (Nat × Nat × Nat × Nat × Int) := [(3, 2, 0, 0, 0), (11, 4, 7, 0, 0), (15, 4, 7, 1, 0), (18, 4, 7, 2, 0), (21, 4, 7, 3, 0), (25, 0, 89, 0, 0), (29, 0, 87, 0, 0), (33, 0, 88, 0, 0), (36, 3, 0, 0, 0)]
def xp_7 : List (List Nat) := [[227, 115, 116], [228], [229], [230], [231], [675, 677, 23, 97], [664, 666, 21, 97], [668, 670, 22, 97], [672, 674, 673, 108]]
def xs_8 : List (Nat × Nat × Nat × Nat × Int) := [(3, 2, 0, 0, 0), (9, 4, 8, 0, 0), (15, 4, 8, 1, 0), (18, 4, 8, 2, 0), (22, 4, 8, 3, 0), (25, 0, 124, 0, 0), (29, 0, 125, 0, 0), (32, 0, 126, 0, 0), (35, 0, 6, 1, 0), (41, 0, 53, 1, 0), (47, 10, 0, 0, 2)]
def xp_8 : List (List Nat) := [[246, 115, 116], [247], [248], [249], [250], [823, 825, 29, 98], [829, 831, 30, 98], [833, 835, 31, 98], [827, 190, 95], [828, 517, 103], [837]]
def xs_9 : List (Nat × Nat × Nat × Nat × Int) := [(3, 2, 0, 0, 0), (11, 4, 9, 1, 0), (15, 4, 9, 2, 0), (18, 4, 9, 4, 0), (22, 4, 9, 0, 0), (26, 4, 9, 3, 0), (29, 7, 0, 0, 0), (32, 0, 122, 0, 0), (36, 0, 123, 0, 0), (42, 0, 127, 0, 0)]
def xp_9 : List (List Nat) := [[265, 115, 116], [267], [268], [270], [266], [269], [814], [815, 817, 28, 99], [819, 820, 821, 98], [838, 839, 840, 98]]
def xs_10 : List (Nat × Nat × Nat × Nat × Int) := [(1, 2, 0, 0, 0), (9, 4, 10, 0, 0), (13, 4, 10, 1, 0), (17, 0, 6, 1, 0), (23, 10, 0, 0, 1000000000), (25, 0, 17, 1, 0), (31, 0, 19, 1, 0), (34, 0, 161, 0, 0), (38, 10, 0, 0, 10)]
def xp_10 : List (List Nat) := [[287, 115, 116], [288], [289], [966, 190, 95], [972], [973, 318, 101], [974, 324, 101], [983, 985, 36, 100], [987]]
def xs_11 : List (Nat × Nat × Nat × Nat × Int) := [(7, 0, 17, 1, 0), (13, 0, 50, 1, 0), (19, 0, 49, 1, 0)]
def xp_11 : List (List Nat) := [[509, 318, 101], [506, 507, 103], [686, 504, 103]]
def xs_12 : List (Nat × Nat × Nat × Nat × Int) := [(1, 2, 0, 0, 0), (7, 4, 12, 1, 0), (13, 4, 12, 2, 0), (16, 4, 12, 3, 0), (20, 4, 12, 4, 0), (24, 4, 12, 5, 0), (27, 4, 12, 6, 0), (30, 4, 12, 10, 0), (33, 4, 12, 11, 0), (36, 4, 12, 12, 0), (39, 4, 12, 15, 0), (42, 4, 12, 16, 0), (45, 4, 12, 17, 0), (48, 4, 12, 18, 0), (51, 4, 12, 19, 0), (54, 4, 12, 20, 0), (57, 4, 12, 21, 0), (60, 4, 12, 22, 0), (63, 4, 12, 23, 0), (66, 4, 12, 24, 0), (69, 4, 12, 25, 0), (72, 4, 12, 26, 0), (75, 4, 12, 27, 0), (78, 4, 12, 28, 0), (81, 4, 12, 29, 0), (84, 4, 12, 30, 0), (87, 4, 12, 31, 0), (90, 4, 12, 32, 0), (93, 4, 12, 33, 0), (96, 4, 12, 7, 0), (99, 0, 189, 1, 0), (103, 0, 190, 0, 0), (107, 4, 12, 8, 0), (111, 4, 12, 9, 0), (114, 0, 192, 0, 0), (118, 4, 12, 0, 0), (121, 0, 195, 1, 0), (125, 10, 0, 0, 7420738134810), (127, 0, 191, 0, 0), (131, 0, 193, 1, 0), (134, 0, 194, 0, 0), (137, 0, 199, 1, 0), (141, 0, 201, 0, 0), (145, 0, 198, 0, 0), (148, 0, 200, 0, 0), (151, 0, 202, 0, 0), (155, 0, 205, 0, 0), (158, 0, 206, 0, 0), (162, 0, 219, 0, 0), (166, 10, 0, 0, -9223372036854775808), (168, 10, 0, 0, 5342931457063200), (170, 0, 215, 1, 0), (174, 0, 216, 1, 0), (178, 4, 12, 13, 0), (181, 0, 230, 0, 0), (185, 0, 228, 0, 0), (188, 0, 214, 0, 0), (192, 0, 229, 0, 0), (196, 0, 233, 0, 0), (199, 0, 235, 1, 0), (202, 0, 236, 0, 0), (205, 0, 213, 0, 0), (208, 0, 240, 1, 0), (212, 0, 239, 1, 0), (216, 10, 0, 0, 2), (218, 0, 207, 0, 0), (221, 0, 208, 0, 0), (225, 0, 209, 0, 0), (228, 0, 210, 1, 0), (231, 0, 211, 0, 0), (234, 0, 212, 0, 0), (237, 0, 217, 0, 0), (240, 0, 245, 0, 0), (243, 4, 12, 14, 0), (246, 10, 0, 0, 1103515245), (248, 10, 0, 0, 12345), (250, 10, 0, 0, 2147483647), (252, 10, 0, 0, 65536), (254, 0, 247, 0, 0), (257, 0, 252, 0, 0), (261, 0, 254, 0, 0), (264, 0, 255, 1, 0), (268, 0, 253, 0, 0), (271, 0, 251, 0, 0), (274, 0, 258, 0, 0), (277, 0, 259, 0, 0), (280, 0, 261, 1, 0), (284, 9, 0, 0, 1000000), (285, 0, 266, 1, 0), (287, 0, 268, 1, 0), (291, 10, 0, 0, 30), (293, 0, 273, 0, 0), (297, 10, 0, 0, -2), (299, 0, 272, 0, 0), (302, 10, 0, 0, 1000000007), (304, 0, 276, 1, 0), (308, 10, 0, 0, 1000000005), (310, 9, 0, 0, 1000000000), (311, 0, 275, 0, 0), (315, 0, 277, 1, 0), (318, 10, 0, 0, 1000000000), (320, 0, 282, 0, 0), (323, 0, 283, 0, 0), (327, 0, 284, 0, 0), (331, 10, 0, 0, 10), (333, 0, 280, 1, 0), (336, 0, 281, 0, 0), (339, 0, 285, 0, 0), (343, 0, 289, 0, 0), (346, 0, 288, 0, 0), (349, 10, 0, 0, -3), (351, 10, 0, 0, 2310), (353, 0, 293, 0, 0), (356, 0, 294, 0, 0), (359, 10, 0, 0, 9223372036854775807), (361, 0, 300, 1, 0), (365, 0, 299, 0, 0), (368, 10, 0, 0, 232792560), (370, 0, 304, 1, 0)]
def xp_12 : List (List Nat) := [[1173, 115, 116], [1201], [1202], [1203], [1204], [1205], [1206], [1210], [1211], [1212], [1215], [1216], [1217], [1218], [1219], [1220], [1221], [1222], [1223], [1224], [1225], [1226], [1227], [1228], [1229], [1230], [1231], [1232], [1233], [1207], [1174, 1175, 102], [1177, 1179, 44, 102], [1208], [1209], [1186, 1188, 46, 102], [1200], [1197, 1198, 102], [1185], [1181, 1183, 45, 102], [1190, 1191, 102], [1193, 1195, 47, 102], [1315, 1316, 102], [1322, 1324, 50, 102], [1311, 1313, 48, 102], [1318, 1320, 49, 102], [1326, 1328, 51, 102], [1338, 1340, 52, 102], [1342, 1344, 53, 102], [1392, 1394, 62, 102], [1396], [1421], [1378, 1379, 102], [1381, 1382, 102], [1213], [1438, 1440, 65, 102], [1430, 1432, 63, 102], [1374, 1376, 60, 102], [1434, 1436, 64, 102], [1450, 1452, 66, 102], [1458, 1459, 102], [1461, 1463, 67, 102], [1370, 1372, 59, 102], [1476, 1477, 102], [1473, 1474, 102], [1354], [1346, 1348, 54, 102], [1350, 1352, 55, 102], [1355, 1357, 56, 102], [1359, 1360, 102], [1362, 1364, 57, 102], [1366, 1368, 58, 102], [1384, 1386, 61, 102], [1495, 1497, 68, 102], [1214], [1507], [1508], [1509], [1510], [1503, 1505, 69, 102], [1527, 1529, 71, 102], [1535, 1537, 73, 102], [1539, 1540, 102], [1531, 1533, 72, 102], [1523, 1525, 70, 102], [1550, 1552, 74, 102], [1562, 1555, 1556, 102], [1563, 1564, 102], [1570], [1583, 1584, 102], [1590, 1591, 102], [1593], [1611, 1613, 76, 102], [1606], [1607, 1609, 75, 102], [1627], [1624, 1625, 102], [1631], [1619], [1620, 1622, 77, 102], [1628, 1629, 102], [1647], [1648, 1650, 79, 102], [1652, 1654, 80, 102], [1656, 1658, 81, 102], [1664], [1640, 1641, 102], [1643, 1645, 78, 102], [1660, 1662, 82, 102], [1677, 1679, 84, 102], [1673, 1675, 83, 102], [1681], [1690], [1695, 1697, 85, 102], [1699, 1701, 86, 102], [1726], [1723, 1724, 102], [1719, 1721, 87, 102], [1731], [1740, 1741, 102]]
def xs_13 : List (Nat × Nat × Nat × Nat × Int) := []
def xp_13 : List (List Nat) := []
def xs_14 : List (Nat × Nat × Nat × Nat × Int) := []
def xp_14 : List (List Nat) := []
def xss : List (List (Nat × Nat × Nat × Nat × Int)) := [xs_0, xs_1, xs_2, xs_3, xs_4, xs_5, xs_6, xs_7, xs_8, xs_9, xs_10, xs_11, xs_12, xs_13, xs_14]
def xps : List (List (List Nat)) := [xp_0, xp_1, xp_2, xp_3, xp_4, xp_5, xp_6, xp_7, xp_8, xp_9, xp_10, xp_11, xp_12, xp_13, xp_14]
def xlp : List (List Nat) := [[355, 357, 359, 361, 363, 365, 367, 369, 371, 373, 375, 377, 379, 381, 383, 385], [124], [137, 139, 141], [153, 155, 157], [196, 198, 200, 202], [182, 184, 186], [214, 216, 218], [232, 234, 236, 238], [251, 253, 255, 257], [271, 273, 275, 277, 279], [290, 292], [], [1234, 1236, 1238, 1240, 1242, 1244, 1246, 1248, 1250, 1252, 1254, 1256, 1258, 1260, 1262, 1264, 1266, 1268, 1270, 1272, 1274, 1276, 1278, 1280, 1282, 1284, 1286, 1288, 1290, 1292, 1294, 1296, 1298, 1300], [], []]
end
section
/-! THE PURE MACHINE: what the bytecode of the tables' methods does, over a heap of pure cells; a reference is a cell's number. -/
/-- a cell: a row of ints, a row of longs, an object of a class (its number) with its fields -/
abbrev xC : Type := ((Nat × (Nat → Int32)) ⊕ (Nat × (Nat → Int64))) ⊕ (Nat × List Value)
abbrev xW : Type := List xC
/-- the static row of primes, by a number that no cell has -/
def xP : Nat := 1000000
def xprimes : List Int32 := [2, 3, 5, 7, 11, 13, 17, 19, 23, 29, 31, 37, 41, 43, 47, 53, 59, 61, 67, 71, 73, 79, 83, 89, 97, 101, 103, 107, 109, 113, 127, 131, 137, 139, 149, 151, 157, 163, 167, 173, 179, 181, 191, 193, 197, 199]
def xpr (j : Nat) : Int32 := xprimes.getD j 0
def xmi (k : Nat) : Nat × Nat × Nat × Nat × Nat × Option FieldType := xms.getD k (0, 0, 0, 0, 0, none)
def xown (k : Nat) : Nat := (xmi k).1
def xml (k : Nat) : Nat := (xmi k).2.1
def xna (k : Nat) : Nat := (xmi k).2.2.1
def xfr (k : Nat) : Nat := (xmi k).2.2.2.1
def xlo (k : Nat) : Nat := (xmi k).2.2.2.2.1
def xret (k : Nat) : Option FieldType := (xmi k).2.2.2.2.2
def xy (k : Nat) : MethodName := xns.getD k ⟨"", "", ""⟩
def xb (k : Nat) : ByteArray := xbs.getD k ⟨#[]⟩
def xcode (k pc : Nat) : Option (Instr × Nat) := match decode (xb k) pc with
  | .ok r => some r
  | _ => none
def xsite (k ix : Nat) : Option (Nat × Nat × Nat × Int) := (xss.getD (xown k) []).lookup ix
def xsz (c : xC) : Nat := match c with
  | .inl (.inl a) => a.1
  | .inl (.inr a) => a.1
  | .inr o => o.2.length
def xsl (w : xW) : Nat := (w.map xsz).sum
/-- locals: a place each, a long ahead of an empty one -/
def xent1 : List Value → List (Option Value)
  | [] => []
  | v :: vs => if v.category = 2 then some v :: none :: xent1 vs else some v :: xent1 vs
def xent (n : Nat) (vs : List Value) : List (Option Value) := xent1 vs ++ List.replicate (n - (xent1 vs).length) none
def xclr (l : List (Option Value)) (i : Nat) : List (Option Value) := match i with
  | 0 => l
  | j + 1 => match l[j]? with
    | some (some v) => if v.category = 2 then l.set j none else l
    | _ => l
def xst1 (l : List (Option Value)) (i : Nat) (v : Value) : List (Option Value) := (xclr l i).set i (some v)
def xst2 (l : List (Option Value)) (i : Nat) (v : Value) : List (Option Value) := ((xclr l i).set i (some v)).set (i + 1) none
def xtgt (pc : Nat) (off : Int) : Nat := ((pc : Int) + off).toNat
def xfits (ty : FieldType) (v : Value) : Bool := match ty, v with
  | .int, .int _ => true
  | .long, .long _ => true
  | .array _, .ref _ => true
  | .object _, .ref _ => true
  | _, _ => false
/-- what a machine at a place comes to: an answer and a heap -/
abbrev xA : Type := Option (Option Value × xW)
abbrev xK : Type := Nat → Nat → List (Option Value) → List Value → xW → xA
def xjump (F : xK) (k pc : Nat) (off : Int) (l : List (Option Value)) (st : List Value) (w : xW) : xA :=
  if 0 ≤ (pc : Int) + off then F k (xtgt pc off) l st w else none
def xbr (F : xK) (c : Bool) (k pc : Nat) (off : Int) (l : List (Option Value)) (st : List Value) (w : xW) : xA :=
  if 0 ≤ (pc : Int) + off then (if c = true then F k (xtgt pc off) l st w else F k (pc + 3) l st w) else none
def xaft (F : xK) (k pc : Nat) (l : List (Option Value)) (st : List Value) (r : xA) : xA := match r with
  | some (v, w') => F k (pc + 3) l (v.toList ++ st) w'
  | none => none
/-- a call of z: room, locals, the rest of the stack -/
def xgo (F : xK) (k pc : Nat) (l : List (Option Value)) (w : xW) (z : Nat) (as rest : List Value) : xA :=
  if xfr z + 1 ≤ xfr k ∧ 8 + (xml z + 11) + xlo z ≤ xlo k ∧ (rest.map fun v => v.category).sum ≤ 8 ∧ (xent1 as).length ≤ xml z ∧ z < xms.length then
    xaft F k pc l rest (F z 0 (xent (xml z) as) [] w)
  else none
def xinvV (F : xK) (k pc ix : Nat) (l : List (Option Value)) (st : List Value) (w : xW) : xA := match xsite k ix with
  | some (0, z, 0, _) => if xna z + 1 ≤ st.length then match (st.drop (xna z)) with
      | .ref b :: rest => match w[b]? with
        | some (.inr (ci, _)) => if ci = xown z then xgo F k pc l w z (.ref b :: (st.take (xna z)).reverse) rest else none
        | _ => none
      | _ => none
    else none
  | _ => none
def xinvS (F : xK) (k pc ix : Nat) (l : List (Option Value)) (st : List Value) (w : xW) : xA := match xsite k ix with
  | some (0, z, 1, _) => if xna z ≤ st.length then xgo F k pc l w z (st.take (xna z)).reverse (st.drop (xna z)) else none
  | some (1, z, 1, _) => if xna z ≤ st.length then xgo F k pc l w z (st.take (xna z)).reverse (st.drop (xna z)) else none
  | some (3, _, _, _) => match st with
    | .int n :: .int dp :: .ref d :: .int sp :: .ref a :: rest =>
      if n < 0 ∨ dp < 0 ∨ sp < 0 ∨ xfr k < 1 ∨ xlo k < (rest.map fun v => v.category).sum + 18 then none else match w[a]?, w[d]? with
      | some (.inl (.inl (n0, f))), some (.inl (.inl (n1, g))) => if sp.toNatClampNeg + n.toNatClampNeg ≤ n0 ∧ dp.toNatClampNeg + n.toNatClampNeg ≤ n1 then
          F k (pc + 3) l rest (w.set d (.inl (.inl (n1, va_cpy f g sp.toNatClampNeg dp.toNatClampNeg n.toNatClampNeg)))) else none
      | some (.inl (.inr (n0, f))), some (.inl (.inr (n1, g))) => if sp.toNatClampNeg + n.toNatClampNeg ≤ n0 ∧ dp.toNatClampNeg + n.toNatClampNeg ≤ n1 then
          F k (pc + 3) l rest (w.set d (.inl (.inr (n1, va_cpy f g sp.toNatClampNeg dp.toNatClampNeg n.toNatClampNeg)))) else none
      | _, _ => none
    | _ => none
  | _ => none
def xinvI (F : xK) (k pc ix : Nat) (l : List (Option Value)) (st : List Value) (w : xW) : xA := match xsite k ix with
  | some (0, z, 2, _) => if xna z + 1 ≤ st.length then match (st.drop (xna z)) with
      | .ref b :: rest => xgo F k pc l w z (.ref b :: (st.take (xna z)).reverse) rest
      | _ => none
    else none
  | some (1, z, 2, _) => if xna z + 1 ≤ st.length then match (st.drop (xna z)) with
      | .ref b :: rest => xgo F k pc l w z (.ref b :: (st.take (xna z)).reverse) rest
      | _ => none
    else none
  | some (2, _, _, _) => match st with
    | .ref _ :: rest => if 1 ≤ xfr k ∧ (rest.map fun v => v.category).sum + 12 ≤ xlo k then F k (pc + 3) l rest w else none
    | _ => none
  | _ => none
def xgetf (F : xK) (k pc ix : Nat) (l : List (Option Value)) (st : List Value) (w : xW) : xA := match xsite k ix, st with
  | some (4, ci, j, _), .ref a :: rest => match w[a]? with
    | some (.inr (c2, fs)) => if c2 = ci then match fs[j]? with
        | some v => F k (pc + 3) l (v :: rest) w
        | none => none
      else none
    | _ => none
  | _, _ => none
def xputf (F : xK) (k pc ix : Nat) (l : List (Option Value)) (st : List Value) (w : xW) : xA := match xsite k ix, st with
  | some (4, ci, j, _), v :: .ref a :: rest => match w[a]? with
    | some (.inr (c2, fs)) => if c2 = ci ∧ j < fs.length then match (xts.getD ci [])[j]?, (xfs.getD ci [])[j]? with
        | some ty, some fd => if xfits ty v = true ∧ (fd.2.2.2 = false ∨ (xy k).name = "<init>" ∧ fd.1 = (xy k).cls) then F k (pc + 3) l rest (w.set a (.inr (ci, fs.set j v))) else none
        | _, _ => none
      else none
    | _ => none
  | _, _ => none
def xald (F : xK) (k pc : Nat) (l : List (Option Value)) (st : List Value) (w : xW) : xA := match st with
  | .int i :: .ref a :: rest => match w[a]? with
    | some (.inl (.inl (n, f))) => if i < 0 ∨ n ≤ i.toNatClampNeg then none else F k (pc + 1) l (.int (f i.toNatClampNeg) :: rest) w
    | some _ => none
    | none => if a = xP then (if i < 0 ∨ 46 ≤ i.toNatClampNeg then none else F k (pc + 1) l (.int (xpr i.toNatClampNeg) :: rest) w) else none
  | _ => none
def xalen (F : xK) (k pc : Nat) (l : List (Option Value)) (st : List Value) (w : xW) : xA := match st with
  | .ref a :: rest => match w[a]? with
    | some (.inl (.inl (n, _))) => F k (pc + 1) l (.int (Int32.ofNat n) :: rest) w
    | some (.inl (.inr (n, _))) => F k (pc + 1) l (.int (Int32.ofNat n) :: rest) w
    | some _ => none
    | none => if a = xP then F k (pc + 1) l (.int 46 :: rest) w else none
  | _ => none
def xlald (F : xK) (k pc : Nat) (l : List (Option Value)) (st : List Value) (w : xW) : xA := match st with
  | .int i :: .ref a :: rest => match w[a]? with
    | some (.inl (.inr (n, f))) => if i < 0 ∨ n ≤ i.toNatClampNeg then none else F k (pc + 1) l (.long (f i.toNatClampNeg) :: rest) w
    | _ => none
  | _ => none
def xiast (F : xK) (k pc : Nat) (l : List (Option Value)) (st : List Value) (w : xW) : xA := match st with
  | .int x :: .int i :: .ref a :: rest => match w[a]? with
    | some (.inl (.inl (n, f))) => if i < 0 ∨ n ≤ i.toNatClampNeg then none else F k (pc + 1) l rest (w.set a (.inl (.inl (n, upd f i.toNatClampNeg x))))
    | _ => none
  | _ => none
def xlast (F : xK) (k pc : Nat) (l : List (Option Value)) (st : List Value) (w : xW) : xA := match st with
  | .long x :: .int i :: .ref a :: rest => match w[a]? with
    | some (.inl (.inr (n, f))) => if i < 0 ∨ n ≤ i.toNatClampNeg then none else F k (pc + 1) l rest (w.set a (.inl (.inr (n, vp_updL f i.toNatClampNeg x))))
    | _ => none
  | _ => none
def xnewa (F : xK) (k pc : Nat) (t : ArrayType) (l : List (Option Value)) (st : List Value) (w : xW) : xA := match st with
  | .int n :: rest => if n < 0 ∨ 1000000 < n.toNatClampNeg ∨ xP ≤ w.length + 1 then none else match t with
    | .int => F k (pc + 2) l (.ref w.length :: rest) (w ++ [.inl (.inl (n.toNatClampNeg, fun _ => 0))])
    | .long => F k (pc + 2) l (.ref w.length :: rest) (w ++ [.inl (.inr (n.toNatClampNeg, fun _ => 0))])
    | _ => none
  | _ => none
def xnew (F : xK) (k pc ix : Nat) (l : List (Option Value)) (st : List Value) (w : xW) : xA := match xsite k ix with
  | some (8, ci, _, _) => if xP ≤ w.length + 1 then none else F k (pc + 3) l (.ref w.length :: st) (w ++ [.inr (ci, xvs.getD ci [])])
  | _ => none
def xgets (F : xK) (k pc ix : Nat) (l : List (Option Value)) (st : List Value) (w : xW) : xA := match xsite k ix with
  | some (6, _, _, _) => F k (pc + 3) l (.ref xP :: st) w
  | some (7, _, _, _) => F k (pc + 3) l (.ref xP :: st) w
  | _ => none
def xild (F : xK) (k pc i len : Nat) (l : List (Option Value)) (st : List Value) (w : xW) : xA := match l[i]? with
  | some (some (.int x)) => F k (pc + len) l (.int x :: st) w
  | _ => none
def xlld (F : xK) (k pc i len : Nat) (l : List (Option Value)) (st : List Value) (w : xW) : xA := match l[i]? with
  | some (some (.long x)) => F k (pc + len) l (.long x :: st) w
  | _ => none
def xaldr (F : xK) (k pc i len : Nat) (l : List (Option Value)) (st : List Value) (w : xW) : xA := match l[i]? with
  | some (some (.ref x)) => F k (pc + len) l (.ref x :: st) w
  | _ => none
def xis (F : xK) (k pc i len : Nat) (l : List (Option Value)) (st : List Value) (w : xW) : xA := match st with
  | .int x :: rest => if i < xml k then F k (pc + len) (xst1 l i (.int x)) rest w else none
  | _ => none
def xas (F : xK) (k pc i len : Nat) (l : List (Option Value)) (st : List Value) (w : xW) : xA := match st with
  | .ref x :: rest => if i < xml k then F k (pc + len) (xst1 l i (.ref x)) rest w else none
  | _ => none
def xls (F : xK) (k pc i len : Nat) (l : List (Option Value)) (st : List Value) (w : xW) : xA := match st with
  | .long x :: rest => if i + 1 < xml k then F k (pc + len) (xst2 l i (.long x)) rest w else none
  | _ => none
def xinc (F : xK) (k pc i : Nat) (d : Int) (l : List (Option Value)) (st : List Value) (w : xW) : xA := match l[i]? with
  | some (some (.int x)) => if i < xml k then F k (pc + 3) (xst1 l i (.int (x + Int32.ofInt d))) st w else none
  | _ => none
def xi2 (F : xK) (f : Int32 → Int32 → Int32) (k pc : Nat) (l : List (Option Value)) (st : List Value) (w : xW) : xA := match st with
  | .int y :: .int x :: rest => F k (pc + 1) l (.int (f x y) :: rest) w
  | _ => none
def xl2 (F : xK) (f : Int64 → Int64 → Int64) (k pc : Nat) (l : List (Option Value)) (st : List Value) (w : xW) : xA := match st with
  | .long y :: .long x :: rest => F k (pc + 1) l (.long (f x y) :: rest) w
  | _ => none
def xid (F : xK) (f : Int32 → Int32 → Int32) (k pc : Nat) (l : List (Option Value)) (st : List Value) (w : xW) : xA := match st with
  | .int y :: .int x :: rest => if y = 0 then none else F k (pc + 1) l (.int (f x y) :: rest) w
  | _ => none
def xld (F : xK) (f : Int64 → Int64 → Int64) (k pc : Nat) (l : List (Option Value)) (st : List Value) (w : xW) : xA := match st with
  | .long y :: .long x :: rest => if y = 0 then none else F k (pc + 1) l (.long (f x y) :: rest) w
  | _ => none
def xlsh (F : xK) (f : Int64 → Int64 → Int64) (k pc : Nat) (l : List (Option Value)) (st : List Value) (w : xW) : xA := match st with
  | .int y :: .long x :: rest => F k (pc + 1) l (.long (f x (y.toInt64 &&& 63)) :: rest) w
  | _ => none
def xcmp1 (c : Jvm.ClassFile.Cond) (x : Int32) : Bool := match c with
  | .eq => decide (x = 0)
  | .ne => decide (¬ x = 0)
  | .lt => decide (x < 0)
  | .ge => decide (0 ≤ x)
  | .gt => decide (0 < x)
  | .le => decide (x ≤ 0)
def xcmp2 (c : Jvm.ClassFile.Cond) (x y : Int32) : Bool := match c with
  | .eq => decide (x = y)
  | .ne => decide (¬ x = y)
  | .lt => decide (x < y)
  | .ge => decide (y ≤ x)
  | .gt => decide (y < x)
  | .le => decide (x ≤ y)
/-- one instruction, and what the machine then comes to -/
def xins (F : xK) (k pc : Nat) (l : List (Option Value)) (st : List Value) (w : xW) (i : Instr) (len : Nat) : xA := match i with
  | .iconst n => if len = 1 then F k (pc + 1) l (.int (Int32.ofInt n) :: st) w else none
  | .bipush n => if len = 2 then F k (pc + 2) l (.int (Int8.ofInt n).toInt32 :: st) w else none
  | .sipush n => if len = 3 then F k (pc + 3) l (.int (Int16.ofInt n).toInt32 :: st) w else none
  | .lconst n => if len = 1 then F k (pc + 1) l (.long (Int64.ofNat (n : Nat)) :: st) w else none
  | .ldc ix => if len = 2 then match xsite k ix with
      | some (9, _, _, v) => F k (pc + 2) l (.int (Int32.ofInt v) :: st) w
      | _ => none
    else none
  | .ldc_w ix => if len = 3 then match xsite k ix with
      | some (9, _, _, v) => F k (pc + 3) l (.int (Int32.ofInt v) :: st) w
      | _ => none
    else none
  | .ldc2_w ix => if len = 3 then match xsite k ix with
      | some (10, _, _, v) => F k (pc + 3) l (.long (Int64.ofInt v) :: st) w
      | _ => none
    else none
  | .iload_n n => if len = 1 then xild F k pc n 1 l st w else none
  | .iload n => if len = 2 then xild F k pc n 2 l st w else none
  | .lload_n n => if len = 1 then xlld F k pc n 1 l st w else none
  | .lload n => if len = 2 then xlld F k pc n 2 l st w else none
  | .aload_n n => if len = 1 then xaldr F k pc n 1 l st w else none
  | .aload n => if len = 2 then xaldr F k pc n 2 l st w else none
  | .istore_n n => if len = 1 then xis F k pc n 1 l st w else none
  | .istore n => if len = 2 then xis F k pc n 2 l st w else none
  | .lstore_n n => if len = 1 then xls F k pc n 1 l st w else none
  | .lstore n => if len = 2 then xls F k pc n 2 l st w else none
  | .astore_n n => if len = 1 then xas F k pc n 1 l st w else none
  | .astore n => if len = 2 then xas F k pc n 2 l st w else none
  | .iinc n d => if len = 3 then xinc F k pc n d l st w else none
  | .iadd => if len = 1 then xi2 F (fun x y => x + y) k pc l st w else none
  | .isub => if len = 1 then xi2 F (fun x y => x - y) k pc l st w else none
  | .imul => if len = 1 then xi2 F (fun x y => x * y) k pc l st w else none
  | .iand => if len = 1 then xi2 F (fun x y => x &&& y) k pc l st w else none
  | .ior => if len = 1 then xi2 F (fun x y => x ||| y) k pc l st w else none
  | .ishr => if len = 1 then xi2 F (fun x y => x >>> (y &&& 31)) k pc l st w else none
  | .idiv => if len = 1 then xid F (fun x y => x / y) k pc l st w else none
  | .irem => if len = 1 then xid F (fun x y => x - x / y * y) k pc l st w else none
  | .ladd => if len = 1 then xl2 F (fun x y => x + y) k pc l st w else none
  | .lsub => if len = 1 then xl2 F (fun x y => x - y) k pc l st w else none
  | .lmul => if len = 1 then xl2 F (fun x y => x * y) k pc l st w else none
  | .land => if len = 1 then xl2 F (fun x y => x &&& y) k pc l st w else none
  | .lor => if len = 1 then xl2 F (fun x y => x ||| y) k pc l st w else none
  | .lxor => if len = 1 then xl2 F (fun x y => x ^^^ y) k pc l st w else none
  | .ldiv => if len = 1 then xld F (fun x y => x / y) k pc l st w else none
  | .lrem => if len = 1 then xld F (fun x y => x - x / y * y) k pc l st w else none
  | .lshl => if len = 1 then xlsh F (fun x y => x <<< y) k pc l st w else none
  | .lshr => if len = 1 then xlsh F (fun x y => x >>> y) k pc l st w else none
  | .ineg => if len = 1 then match st with
      | .int x :: rest => F k (pc + 1) l (.int (-x) :: rest) w
      | _ => none
    else none
  | .lneg => if len = 1 then match st with
      | .long x :: rest => F k (pc + 1) l (.long (-x) :: rest) w
      | _ => none
    else none
  | .i2l => if len = 1 then match st with
      | .int x :: rest => F k (pc + 1) l (.long x.toInt64 :: rest) w
      | _ => none
    else none
  | .l2i => if len = 1 then match st with
      | .long x :: rest => F k (pc + 1) l (.int x.toInt32 :: rest) w
      | _ => none
    else none
  | .lcmp => if len = 1 then match st with
      | .long y :: .long x :: rest => F k (pc + 1) l (.int (lg_cmp x y) :: rest) w
      | _ => none
    else none
  | .ifCond c off => if len = 3 then match st with
      | .int x :: rest => xbr F (xcmp1 c x) k pc off l rest w
      | _ => none
    else none
  | .if_icmp c off => if len = 3 then match st with
      | .int y :: .int x :: rest => xbr F (xcmp2 c x y) k pc off l rest w
      | _ => none
    else none
  | .goto off => if len = 3 then xjump F k pc off l st w else none
  | .tableswitch d lo hi offs => match st with
    | .int x :: rest => if x.toInt < lo ∨ hi < x.toInt then xjump F k pc d l rest w else match offs[(x.toInt - lo).toNat]? with
        | some off => xjump F k pc off l rest w
        | none => none
    | _ => none
  | .dup => if len = 1 then match st with
      | v :: rest => if v.category = 1 then F k (pc + 1) l (v :: v :: rest) w else none
      | _ => none
    else none
  | .dup2 => if len = 1 then match st with
      | v :: u :: rest => if v.category = 1 ∧ u.category = 1 then F k (pc + 1) l (v :: u :: v :: u :: rest) w else none
      | _ => none
    else none
  | .pop => if len = 1 then match st with
      | v :: rest => if v.category = 1 then F k (pc + 1) l rest w else none
      | _ => none
    else none
  | .getfield ix => if len = 3 then xgetf F k pc ix l st w else none
  | .putfield ix => if len = 3 then xputf F k pc ix l st w else none
  | .getstatic ix => if len = 3 then xgets F k pc ix l st w else none
  | .iaload => if len = 1 then xald F k pc l st w else none
  | .laload => if len = 1 then xlald F k pc l st w else none
  | .iastore => if len = 1 then xiast F k pc l st w else none
  | .lastore => if len = 1 then xlast F k pc l st w else none
  | .arraylength => if len = 1 then xalen F k pc l st w else none
  | .newarray t => if len = 2 then xnewa F k pc t l st w else none
  | .new ix => if len = 3 then xnew F k pc ix l st w else none
  | .invokevirtual ix => if len = 3 then xinvV F k pc ix l st w else none
  | .invokestatic ix => if len = 3 then xinvS F k pc ix l st w else none
  | .invokespecial ix => if len = 3 then xinvI F k pc ix l st w else none
  | .ireturn => if len = 1 then match st with
      | [.int v] => if xret k = some .int ∨ (xret k = some .boolean ∧ (v = 0 ∨ v = 1)) then some (some (.int v), w) else none
      | _ => none
    else none
  | .lreturn => if len = 1 then match st with
      | [.long v] => if xret k = some .long then some (some (.long v), w) else none
      | _ => none
    else none
  | .return_ => if len = 1 then match st with
      | [] => if xret k = none then some (none, w) else none
      | _ => none
    else none
  | _ => none
def xrun : Nat → xK
  | 0 => fun _ _ _ _ _ => none
  | n + 1 => fun k pc l st w => match xcode k pc with
    | some (i, len) => xins (xrun n) k pc l st w i len
    | none => none
/-- from this place the machine comes to this answer and this heap -/
def xGo (k pc : Nat) (l : List (Option Value)) (st : List Value) (w : xW) (r : Option Value × xW) : Prop := ∃ n, ∀ m, n ≤ m → xrun m k pc l st w = some r
/-- a call -/
def xCall (k : Nat) (as : List Value) (w : xW) (r : Option Value × xW) : Prop := xGo k 0 (xent (xml k) as) [] w r
end
section
/-! WHAT THE STATEMENT'S WORDS SAY OF THE TABLES -/
def xwords (own : String) (ix : Nat) (q : Nat × Nat × Nat × Int) : List Cond := match q with
  | (0, a, 0, _) => [.methodLink own ix (xy a), .instanceMethod (xy a), .selects (xy a).cls (xy a) (xy a), .initialized (xy a).cls]
  | (0, a, 1, _) => [.methodLink own ix (xy a), .static (xy a), .initialized (xy a).cls]
  | (0, a, 2, _) => [.methodLink own ix (xy a), .instanceMethod (xy a), .initialized (xy a).cls]
  | (1, a, 1, _) => [.methodLinkNest own ix (xy a) "BernoulliWays", .static (xy a), .initialized (xy a).cls]
  | (1, a, 2, _) => [.methodLinkNest own ix (xy a) "BernoulliWays", .instanceMethod (xy a), .initialized (xy a).cls]
  | (2, _, _, _) => [.methodLink own ix objectInit, .instanceMethod objectInit, .code objectInit ⟨#[0xb1]⟩ 1 none]
  | (3, _, _, _) => [.methodLink own ix arraycopyName, .native arraycopyName, .static arraycopyName, .initialized "java/lang/System"]
  | (4, a, b, _) => let f := (xfs.getD a []).getD b ("", "", "", false); [.fieldLink own ix f.1 f.2.1 f.2.2.1]
  | (6, _, _, _) => [.fieldLink own ix "BernoulliWays" "PRIMES" "[I"]
  | (7, _, _, _) => [.fieldLinkNest own ix "BernoulliWays" "PRIMES" "[I" "BernoulliWays"]
  | (8, a, _, _) => let C := xcn.getD a ""; [.classLink own ix C, .instantiable C (xfs.getD a []).length, .initialized C]
  | (9, _, _, v) => [.constant own ix (Int32.ofInt v)]
  | (10, _, _, v) => [.constantLong own ix (Int64.ofInt v)]
  | _ => []
def xchkS (c : Nat) : Bool := (xss.getD c []).length == (xps.getD c []).length && ((xss.getD c []).zip (xps.getD c [])).all fun q => decide (q.2.map (fun j => lw_tbl[j]?) = (xwords (xcn.getD c "") q.1.1 q.1.2).map some)
theorem x_s0 : xchkS 0 = true := by decide +kernel
theorem x_s1 : xchkS 1 = true := by decide +kernel
theorem x_s2 : xchkS 2 = true := by decide +kernel
theorem x_s3 : xchkS 3 = true := by decide +kernel
theorem x_s4 : xchkS 4 = true := by decide +kernel
theorem x_s5 : xchkS 5 = true := by decide +kernel
theorem x_s6 : xchkS 6 = true := by decide +kernel
theorem x_s7 : xchkS 7 = true := by decide +kernel
theorem x_s8 : xchkS 8 = true := by decide +kernel
theorem x_s9 : xchkS 9 = true := by decide +kernel
theorem x_s10 : xchkS 10 = true := by decide +kernel
theorem x_s11 : xchkS 11 = true := by decide +kernel
theorem x_s12 : xchkS 12 = true := by decide +kernel
theorem x_s13 : xchkS 13 = true := by decide +kernel
theorem x_s14 : xchkS 14 = true := by decide +kernel
/-- the words that a callee may take over from its caller -/
def xtbl : List Cond := lw_tbl.filter goodWord
theorem xtbl_of {w : Cond} {j : Nat} (h : lw_tbl[j]? = some w) (hg : goodWord w = true) : w ∈ xtbl := List.mem_filter.mpr ⟨List.mem_of_getElem? h, hg⟩
/-- of each method: its code is among the words; its own class; its parameters -/
def xcodeW (y : MethodName) (m : Nat) (r : Option FieldType) (w : Option Cond) : Bool := match w with
  | some (.code y' _ m' r') => decide (y' = y) && decide (m' = m) && decide (r' = r)
  | _ => false
def xcodeB (w : Option Cond) : ByteArray := match w with
  | some (.code _ b _ _) => b
  | _ => ⟨#[]⟩
def xchkM (k : Nat) : Bool := xcodeW (xy k) (xml k) (xret k) lw_tbl[xws.getD k 0]? && decide ((xy k).cls = xcn.getD (xown k) "") && plainFor (xy k) && decide ((xy k).cls ≠ "java/lang/invoke/MethodHandle") && decide ((xy k).cls ≠ "java/lang/invoke/VarHandle") && decide ((parseMethodDescriptor (xy k).desc).map (fun d => d.parameters.length) = some (xna k))
theorem x_m0 : (List.range 100).all xchkM = true := by decide +kernel
theorem x_m1 : ((List.range 100).map (· + 100)).all xchkM = true := by decide +kernel
theorem x_m2 : ((List.range 107).map (· + 200)).all xchkM = true := by decide +kernel
theorem x_mlen : xms.length = 307 := by decide +kernel
set_option maxRecDepth 100000 in
theorem x_b0 : xb_0 = xw_0.map (fun j => xcodeB lw_tbl[j]?) := by rfl
set_option maxRecDepth 100000 in
theorem x_b1 : xb_1 = xw_1.map (fun j => xcodeB lw_tbl[j]?) := by rfl
set_option maxRecDepth 100000 in
theorem x_b2 : xb_2 = xw_2.map (fun j => xcodeB lw_tbl[j]?) := by rfl
set_option maxRecDepth 100000 in
theorem x_b3 : xb_3 = xw_3.map (fun j => xcodeB lw_tbl[j]?) := by rfl
set_option maxRecDepth 100000 in
theorem x_b4 : xb_4 = xw_4.map (fun j => xcodeB lw_tbl[j]?) := by rfl
set_option maxRecDepth 100000 in
theorem x_b5 : xb_5 = xw_5.map (fun j => xcodeB lw_tbl[j]?) := by rfl
set_option maxRecDepth 100000 in
theorem x_b6 : xb_6 = xw_6.map (fun j => xcodeB lw_tbl[j]?) := by rfl
set_option maxRecDepth 100000 in
theorem x_b7 : xb_7 = xw_7.map (fun j => xcodeB lw_tbl[j]?) := by rfl
/-- of each class that has objects: what its fields are -/
def xchkC (c : Nat) : Bool := decide (((xlp.getD c []).map fun j => lw_tbl[j]?) = (u_ws (xcn.getD c "") (fun k => (xfs.getD c []).getD k ("", "", "", false)) (xfs.getD c []).length).map some) && decide ((xfs.getD c []).map (fun f => parseFieldDescriptor f.2.2.1) = (xts.getD c []).map some) && decide ((xts.getD c []).map defaultValue = xvs.getD c []) && ((List.range (xfs.getD c []).length).all fun a => (List.range (xfs.getD c []).length).all fun b => a == b || decide (((xfs.getD c []).getD a ("", "", "", false)).2.1 ≠ ((xfs.getD c []).getD b ("", "", "", false)).2.1)) && ((xts.getD c []).all fun t => match t with | .int => true | .long => true | .array _ => true | .object _ => true | _ => false)
theorem x_c : (List.range 15).all xchkC = true := by decide +kernel
end
section
/-! OUT OF THE TABLE FACTS -/
theorem x_lookup {α : Type} {ix : Nat} {q : α} : ∀ {L : List (Nat × α)}, L.lookup ix = some q → (ix, q) ∈ L
  | [], h => by simp at h
  | (a, b) :: L, h => by
    by_cases e : ix = a
    · subst e
      simp at h
      subst h
      exact List.mem_cons_self
    · rw [List.lookup_cons, show (ix == a) = false from by simpa using e] at h
      exact List.mem_cons_of_mem _ (x_lookup h)
theorem x_sAll : ∀ c, c < 15 → xchkS c = true := by
  intro c hc
  match c, hc with
  | 0, _ => exact x_s0
  | 1, _ => exact x_s1
  | 2, _ => exact x_s2
  | 3, _ => exact x_s3
  | 4, _ => exact x_s4
  | 5, _ => exact x_s5
  | 6, _ => exact x_s6
  | 7, _ => exact x_s7
  | 8, _ => exact x_s8
  | 9, _ => exact x_s9
  | 10, _ => exact x_s10
  | 11, _ => exact x_s11
  | 12, _ => exact x_s12
  | 13, _ => exact x_s13
  | 14, _ => exact x_s14
  | c + 15, h => omega
theorem x_siteW {k ix : Nat} {q : Nat × Nat × Nat × Int} (hk : xown k < 15) (h : xsite k ix = some q) : ∀ w ∈ xwords (xcn.getD (xown k) "") ix q, w ∈ lw_tbl := by
  have hc := x_sAll _ hk
  unfold xchkS at hc
  rw [Bool.and_eq_true] at hc
  have hm := x_lookup h
  obtain ⟨i, hi⟩ := List.getElem?_of_mem hm
  have hl : i < (xss.getD (xown k) []).length := (List.getElem?_eq_some_iff.mp hi).1
  have hl2 : i < (xps.getD (xown k) []).length := by
    have := hc.1
    rw [beq_iff_eq] at this
    omega
  have hz : ((xss.getD (xown k) []).zip (xps.getD (xown k) []))[i]? = some ((ix, q), (xps.getD (xown k) [])[i]) := by
    rw [List.getElem?_zip_eq_some]
    exact ⟨hi, List.getElem?_eq_getElem hl2⟩
  have hd := List.all_eq_true.mp hc.2 _ (List.mem_of_getElem? hz)
  have hd := of_decide_eq_true hd
  intro w hw
  have h1 : some w ∈ (xwords (xcn.getD (xown k) "") ix q).map some := List.mem_map.mpr ⟨w, hw, rfl⟩
  rw [← hd] at h1
  obtain ⟨j, -, hj⟩ := List.mem_map.mp h1
  exact List.mem_of_getElem? hj
theorem x_mAll : ∀ k, k < 307 → xchkM k = true := by
  intro k hk
  by_cases h0 : k < 100
  · exact List.all_eq_true.mp x_m0 k (List.mem_range.mpr h0)
  · by_cases h1 : k < 200
    · exact List.all_eq_true.mp x_m1 k (List.mem_map.mpr ⟨k - 100, List.mem_range.mpr (by omega), by omega⟩)
    · exact List.all_eq_true.mp x_m2 k (List.mem_map.mpr ⟨k - 200, List.mem_range.mpr (by omega), by omega⟩)
theorem x_bAll : xbs = xws.map (fun j => xcodeB lw_tbl[j]?) := by
  unfold xbs xws
  simp only [List.map_append]
  rw [← x_b0, ← x_b1, ← x_b2, ← x_b3, ← x_b4, ← x_b5, ← x_b6, ← x_b7]
theorem x_wlen : xws.length = 307 := by decide +kernel
theorem x_code {k : Nat} (hk : k < 307) : Cond.code (xy k) (xb k) (xml k) (xret k) ∈ lw_tbl := by
  have h := x_mAll k hk
  unfold xchkM at h
  simp only [Bool.and_eq_true] at h
  have h1 := h.1.1.1.1.1
  have hb : xb k = xcodeB lw_tbl[xws.getD k 0]? := by
    unfold xb
    rw [x_bAll]
    simp [List.getD_eq_getElem?_getD, List.getElem?_map, x_wlen, hk]
  unfold xcodeW at h1
  split at h1
  · rename_i w y' b' m' r' e
    simp only [Bool.and_eq_true, decide_eq_true_eq] at h1
    obtain ⟨⟨rfl, rfl⟩, rfl⟩ := h1
    rw [e] at hb
    rw [show xb k = b' from hb]
    exact List.mem_of_getElem? e
  · cases h1
theorem x_name {k : Nat} (hk : k < 307) : (xy k).cls = xcn.getD (xown k) "" ∧ plainFor (xy k) = true ∧ ((xy k).cls ≠ "java/lang/invoke/MethodHandle" ∧ (xy k).cls ≠ "java/lang/invoke/VarHandle" ∧ (parseMethodDescriptor (xy k).desc).map (fun d => d.parameters.length) = some (xna k)) := by
  have h := x_mAll k hk
  unfold xchkM at h
  simp only [Bool.and_eq_true, decide_eq_true_eq] at h
  exact ⟨h.1.1.1.1.2, h.1.1.1.2, h.1.1.2, h.1.2, h.2⟩
theorem x_ownLt : ∀ k, k < 307 → xown k < 15 := by
  intro k hk
  have h : (List.range 307).all (fun k => decide (xown k < 15)) = true := by decide +kernel
  simpa using List.all_eq_true.mp h k (List.mem_range.mpr hk)
def xFc (ci : Nat) : u_T := fun k => (xfs.getD ci []).getD k ("", "", "", false)
def xNc (ci : Nat) : Nat := (xfs.getD ci []).length
theorem x_cl : ∀ ci, ci < 15 → xcl[ci]? = some (xcn.getD ci "", xFc ci, xNc ci) := by
  intro c hc
  match c, hc with
  | 0, _ => rfl
  | 1, _ => rfl
  | 2, _ => rfl
  | 3, _ => rfl
  | 4, _ => rfl
  | 5, _ => rfl
  | 6, _ => rfl
  | 7, _ => rfl
  | 8, _ => rfl
  | 9, _ => rfl
  | 10, _ => rfl
  | 11, _ => rfl
  | 12, _ => rfl
  | 13, _ => rfl
  | 14, _ => rfl
  | c + 15, h => omega
theorem x_clOf {ci : Nat} {r : vw_C} (h : xcl[ci]? = some r) : ci < 15 := by
  have := (List.getElem?_eq_some_iff.mp h).1
  exact this
/-- what a class's check says: the words of its fields, their types, that their names differ, what they are at first -/
theorem x_cls {ci : Nat} (h : ci < 15) : (∀ w ∈ u_ws (xcn.getD ci "") (xFc ci) (xNc ci), w ∈ lw_tbl) ∧ (xfs.getD ci []).map (fun f => parseFieldDescriptor f.2.2.1) = (xts.getD ci []).map some ∧ (xts.getD ci []).map defaultValue = xvs.getD ci [] ∧ (∀ a, a < xNc ci → ∀ b, b < xNc ci → a ≠ b → (xFc ci a).2.1 ≠ (xFc ci b).2.1) := by
  have h := List.all_eq_true.mp x_c ci (List.mem_range.mpr h)
  unfold xchkC at h
  simp only [Bool.and_eq_true, decide_eq_true_eq] at h
  obtain ⟨⟨⟨⟨h1, h2⟩, h3⟩, h4⟩, -⟩ := h
  refine ⟨fun w hw => ?_, h2, h3, fun a ha b hb hab => ?_⟩
  · have q : some w ∈ (u_ws (xcn.getD ci "") (fun k => (xfs.getD ci []).getD k ("", "", "", false)) (xfs.getD ci []).length).map some := List.mem_map.mpr ⟨w, hw, rfl⟩
    rw [← h1] at q
    obtain ⟨j, -, hj⟩ := List.mem_map.mp q
    exact List.mem_of_getElem? hj
  · have q := List.all_eq_true.mp (List.all_eq_true.mp h4 a (List.mem_range.mpr ha)) b (List.mem_range.mpr hb)
    simp only [Bool.or_eq_true, beq_iff_eq, decide_eq_true_eq] at q
    exact q.resolve_left hab
theorem x_good_lays {C : String} {T : u_T} {N : Nat} : ∀ w ∈ u_ws C T N, goodWord w = true := by
  intro w hw
  obtain ⟨j, -, rfl⟩ := List.mem_map.mp hw
  unfold u_lay
  split <;> rfl
theorem xtbl_in {w : Cond} (h : w ∈ lw_tbl) (hg : goodWord w = true) : w ∈ xtbl := List.mem_filter.mpr ⟨h, hg⟩
theorem x_typ {ci : Nat} (h : ci < 15) {k : Nat} {ty : FieldType} (ht : (xts.getD ci [])[k]? = some ty) : parseFieldDescriptor (xFc ci k).2.2.1 = some ty := by
  have h2 := (x_cls h).2.1
  have e : ((xfs.getD ci []).map (fun f => parseFieldDescriptor f.2.2.1))[k]? = some (some ty) := by rw [h2, List.getElem?_map, ht]; rfl
  rw [List.getElem?_map] at e
  unfold xFc
  cases hf : (xfs.getD ci [])[k]? with
  | none => rw [hf] at e; cases e
  | some f =>
    rw [hf] at e
    rw [List.getD_eq_getElem?_getD, hf]
    exact Option.some.inj e
theorem x_tlen {ci : Nat} (h : ci < 15) : (xts.getD ci []).length = xNc ci := by
  have h2 := congrArg List.length (x_cls h).2.1
  simp only [List.length_map] at h2
  exact h2.symm
theorem x_vlen {ci : Nat} (h : ci < 15) : (xvs.getD ci []).length = xNc ci := by
  have h2 := congrArg List.length (x_cls h).2.2.1
  simp only [List.length_map] at h2
  exact h2.symm.trans (x_tlen h)
/-- the type of a field -/
def xTy (ci k : Nat) : FieldType := (xts.getD ci []).getD k .int
theorem x_tyOk {ci : Nat} (h : ci < 15) : ∀ k, k < xNc ci → parseFieldDescriptor (xFc ci k).2.2.1 = some (xTy ci k) := by
  intro k hk
  have hl : k < (xts.getD ci []).length := by rw [x_tlen h]; exact hk
  refine x_typ h ?_
  unfold xTy
  generalize xts.getD ci [] = L at hl ⊢
  simp [List.getD_eq_getElem?_getD, hl]
end
section
/-! THE PURE HEAP IN THE MACHINE'S: pure references by ad -/
def xtv (ad : Nat → Nat) (v : Value) : Value := match v with
  | .ref i => .ref (ad i)
  | v => v
def xte (cI cL : ClassId) (ad : Nat → Nat) (c : xC) : va_E := match c with
  | .inl (.inl a) => .inl (cI, a.1, .inl a.2)
  | .inl (.inr a) => .inl (cL, a.1, .inr (.inl a.2))
  | .inr o => .inr (o.1, o.2.map (xtv ad))
def xtw (cI cL : ClassId) (ad : Nat → Nat) (w : xW) : va_W := w.mapIdx (fun i c => (ad i, xte cI cL ad c))
theorem xtw_get {cI cL : ClassId} {ad : Nat → Nat} {w : xW} {i : Nat} {c : xC} (h : w[i]? = some c) : (xtw cI cL ad w)[i]? = some (ad i, xte cI cL ad c) := by
  unfold xtw
  rw [List.getElem?_mapIdx, h]
  rfl
theorem xtw_set {cI cL : ClassId} {ad : Nat → Nat} {w : xW} {i : Nat} {c : xC} : xtw cI cL ad (w.set i c) = (xtw cI cL ad w).set i (ad i, xte cI cL ad c) := by
  apply List.ext_getElem?
  intro j
  unfold xtw
  rw [List.getElem?_mapIdx, List.getElem?_set, List.getElem?_set, List.getElem?_mapIdx]
  by_cases h : i = j
  · subst h
    rw [if_pos rfl, if_pos rfl]
    by_cases hl : i < w.length
    · rw [if_pos hl, if_pos (by simpa using hl)]
      rfl
    · rw [if_neg hl, if_neg (by simpa using hl)]
      rfl
  · rw [if_neg h, if_neg h]
theorem xtw_app {cI cL : ClassId} {ad : Nat → Nat} {w : xW} {c : xC} : xtw cI cL ad (w ++ [c]) = xtw cI cL ad w ++ [(ad w.length, xte cI cL ad c)] := by
  unfold xtw
  rw [List.mapIdx_append]
  simp
theorem xtv_cat {ad : Nat → Nat} (v : Value) : (xtv ad v).category = v.category := by cases v <;> rfl
theorem xtv_cats {ad : Nat → Nat} (vs : List Value) : ((vs.map (xtv ad)).map fun v => v.category) = vs.map fun v => v.category := by
  rw [List.map_map]
  exact List.map_congr_left fun v _ => xtv_cat v
theorem xsl_set {w : xW} {i : Nat} {c c' : xC} (h : w[i]? = some c) (hs : xsz c' = xsz c) : xsl (w.set i c') = xsl w := by
  unfold xsl
  induction w generalizing i with
  | nil => simp at h
  | cons a w ih =>
    cases i with
    | zero =>
      simp at h
      subst h
      simp [hs]
    | succ i =>
      simp at h
      simp only [List.set_cons_succ, List.map_cons, List.sum_cons]
      rw [ih h]
theorem xsl_app {w : xW} {c : xC} : xsl (w ++ [c]) = xsl w + xsz c := by simp [xsl]
/-- locals -/
def xLoc (ad : Nat → Nat) (ls : Array Slot) (n : Nat) (ll : List (Option Value)) : Prop := ls.size = n ∧ lv_wf ls ∧ ∀ (i : Nat) (v : Value), ll[i]? = some (some v) → ls[i]? = some (.val (xtv ad v))
theorem xLoc.get {ad : Nat → Nat} {ls : Array Slot} {n i : Nat} {ll : List (Option Value)} {v : Value} (h : xLoc ad ls n ll) (hi : ll[i]? = some (some v)) : ls[i]? = some (.val (xtv ad v)) := h.2.2 i v hi
/-- the places that hold something, as a list -/
def xasc (ad : Nat → Nat) (ll : List (Option Value)) : List (Nat × Value) := (List.range ll.length).filterMap fun i => match ll[i]? with
  | some (some v) => some (i, xtv ad v)
  | _ => none
theorem xasc_mem {ad : Nat → Nat} {ll : List (Option Value)} {i : Nat} {v : Value} (h : ll[i]? = some (some v)) : (i, xtv ad v) ∈ xasc ad ll := by
  unfold xasc
  rw [List.mem_filterMap]
  exact ⟨i, List.mem_range.mpr (List.getElem?_eq_some_iff.mp h).1, by rw [h]⟩
theorem xasc_of {ad : Nat → Nat} {ll : List (Option Value)} {q : Nat × Value} (h : q ∈ xasc ad ll) : ∃ v, ll[q.1]? = some (some v) ∧ q.2 = xtv ad v := by
  unfold xasc at h
  obtain ⟨i, -, hi⟩ := List.mem_filterMap.mp h
  split at hi
  · rename_i v e
    cases hi
    exact ⟨v, e, rfl⟩
  · cases hi
theorem xLoc.has {ad : Nat → Nat} {ls : Array Slot} {n : Nat} {ll : List (Option Value)} (h : xLoc ad ls n ll) : lv_has ls n (xasc ad ll) := by
  refine ⟨h.1, h.2.1, fun q hq => ?_⟩
  obtain ⟨v, h1, h2⟩ := xasc_of hq
  rw [h2]
  exact h.2.2 _ _ h1
theorem xclr_get {ll : List (Option Value)} {i j : Nat} {v : Value} (h : (xclr ll i)[j]? = some (some v)) : ll[j]? = some (some v) ∧ ¬ (j + 1 = i ∧ v.category = 2) := by
  unfold xclr at h
  split at h
  · exact ⟨h, by omega⟩
  · rename_i i
    split at h
    · rename_i u e
      split at h
      · rename_i hu
        rw [List.getElem?_set] at h
        split at h
        · split at h <;> cases h
        · rename_i hne
          exact ⟨h, by omega⟩
      · rename_i hu
        refine ⟨h, fun q => hu ?_⟩
        have hj : j = i := by omega
        subst hj
        rw [e] at h
        cases h
        exact q.2
    · rename_i hn
      refine ⟨h, fun q => ?_⟩
      have hj : j = i := by omega
      subst hj
      exact hn v h
theorem xLoc.st1 {ad : Nat → Nat} {ls' : Array Slot} {n i : Nat} {ll : List (Option Value)} {v u : Value} (hu : u = xtv ad v) (h : lv_has ls' n ((i, u) :: (xasc ad ll).filter (fun q => !(q.1 == i) && !(q.1 + 1 == i && q.2.category == 2)))) : xLoc ad ls' n (xst1 ll i v) := by
  refine ⟨h.1, h.2.1, fun j x hj => ?_⟩
  unfold xst1 at hj
  rw [List.getElem?_set] at hj
  split at hj
  · rename_i e
    split at hj
    · cases hj
      rw [← hu, ← e]
      exact h.2.2 (i, u) List.mem_cons_self
    · cases hj
  · rename_i e
    obtain ⟨h1, h2⟩ := xclr_get hj
    refine h.2.2 (j, xtv ad x) (List.mem_cons_of_mem _ (List.mem_filter.mpr ⟨xasc_mem h1, ?_⟩))
    have e1 : (j == i) = false := by simpa using fun q => e q.symm
    simp only [e1, Bool.not_false, Bool.true_and, Bool.not_eq_true', Bool.and_eq_false_iff, beq_eq_false_iff_ne, ne_eq]
    rw [xtv_cat]
    by_cases q : j + 1 = i
    · exact Or.inr fun z => h2 ⟨q, z⟩
    · exact Or.inl q
theorem xLoc.st2 {ad : Nat → Nat} {ls' : Array Slot} {n i : Nat} {ll : List (Option Value)} {v u : Value} (hu : u = xtv ad v) (h : lv_has ls' n ((i, u) :: (xasc ad ll).filter (fun q => !(q.1 == i) && (!(q.1 == i + 1) && !(q.1 + 1 == i && q.2.category == 2))))) : xLoc ad ls' n (xst2 ll i v) := by
  refine ⟨h.1, h.2.1, fun j x hj => ?_⟩
  unfold xst2 at hj
  rw [List.getElem?_set] at hj
  split at hj
  · split at hj <;> cases hj
  · rename_i e2
    rw [List.getElem?_set] at hj
    split at hj
    · rename_i e
      split at hj
      · cases hj
        rw [← hu, ← e]
        exact h.2.2 (i, u) List.mem_cons_self
      · cases hj
    · rename_i e
      obtain ⟨h1, h2⟩ := xclr_get hj
      refine h.2.2 (j, xtv ad x) (List.mem_cons_of_mem _ (List.mem_filter.mpr ⟨xasc_mem h1, ?_⟩))
      have e1 : (j == i) = false := by simpa using fun q => e q.symm
      have e3 : (j == i + 1) = false := by simpa using fun q => e2 q.symm
      simp only [e1, e3, Bool.not_false, Bool.true_and, Bool.not_eq_true', Bool.and_eq_false_iff, beq_eq_false_iff_ne, ne_eq]
      rw [xtv_cat]
      by_cases q : j + 1 = i
      · exact Or.inr fun z => h2 ⟨q, z⟩
      · exact Or.inl q
theorem xent1_args {ad : Nat → Nat} : ∀ (vs : List Value) (o i : Nat) (v : Value), (xent1 vs)[i]? = some (some v) → (o + i, xtv ad v) ∈ lv_args o (vs.map (xtv ad))
  | [], _, _, _, h => by simp [xent1] at h
  | u :: vs, o, i, v, h => by
    unfold xent1 at h
    rw [List.map_cons]
    unfold lv_args
    rw [xtv_cat]
    split at h
    · rename_i hc
      rw [if_pos hc]
      match i, h with
      | 0, h =>
        simp at h
        subst h
        exact List.mem_cons_self
      | 1, h => simp at h
      | i + 2, h =>
        simp at h
        have := xent1_args (ad := ad) vs (o + 2) i v h
        rw [show o + 2 + i = o + (i + 2) by omega] at this
        exact List.mem_cons_of_mem _ this
    · rename_i hc
      rw [if_neg hc]
      match i, h with
      | 0, h =>
        simp at h
        subst h
        exact List.mem_cons_self
      | i + 1, h =>
        simp at h
        have := xent1_args (ad := ad) vs (o + 1) i v h
        rw [show o + 1 + i = o + (i + 1) by omega] at this
        exact List.mem_cons_of_mem _ this
theorem xent1_len {ad : Nat → Nat} : ∀ (vs : List Value), (lg_sl (vs.map (xtv ad))).length = (xent1 vs).length
  | [] => rfl
  | v :: vs => by
    have ih := xent1_len (ad := ad) vs
    unfold lg_sl at ih ⊢
    rw [List.map_cons, List.flatMap_cons, List.length_append, ih, xtv_cat]
    show _ = (if v.category = 2 then some v :: none :: xent1 vs else some v :: xent1 vs).length
    by_cases hc : v.category = 2
    · rw [if_pos hc, if_pos hc]
      simp
      omega
    · rw [if_neg hc, if_neg hc]
      simp
      omega
/-- at a method's entry -/
theorem xLoc.entry {ad : Nat → Nat} {vs : List Value} {n : Nat} (h : (xent1 vs).length ≤ n) : xLoc ad (lg_sl (vs.map (xtv ad)) ++ List.replicate (n - (lg_sl (vs.map (xtv ad))).length) Slot.unset).toArray n (xent n vs) := by
  have hl := lv_entry (vs.map (xtv ad)) (n := n) (by rw [xent1_len]; exact h)
  refine ⟨hl.1, hl.2.1, fun i v hi => ?_⟩
  unfold xent at hi
  rw [List.getElem?_append] at hi
  split at hi
  · have := xent1_args (ad := ad) vs 0 i v hi
    rw [Nat.zero_add] at this
    exact hl.2.2 _ this
  · rw [List.getElem?_replicate] at hi
    split at hi <;> cases hi
/-- the pure heap w stands in the machine's heap H -/
def xOK (D : va_G) (cI cL : ClassId) (ad : Nat → Nat) (A : Nat → Prop) (H0 : Heap) (w : xW) (H : Heap) (locs : List Loc) (cells : Nat) : Prop :=
  va_P D xcl (xtw cI cL ad w) H ∧ va_D A (xtw cI cL ad w) ∧ va_S A H0 H locs ∧ w.length < xP ∧ (∀ j, w.length + j < xP → ad (w.length + j) = H.size + j) ∧ H.size = H0.size + cells
abbrev xTys (cI cL : ClassId) : List (ClassId × FieldType) := [(cI, .int), (cL, .long)]
def xisNest : Cond → Bool
  | .methodLinkNest .. => true
  | .fieldLinkNest .. => true
  | _ => false
/-- the row of primes, the words of nest mates -/
def xSt (t : Nat) (A : Nat → Prop) (U : State) (H : Heap) : Prop := va_Z "BernoulliWays" "PRIMES" "[I" (.ref t) A U H ∧ va_T .int t 46 (fun j => .int (xpr j)) A U H ∧ ∀ w ∈ lw_tbl, xisNest w = true → va_Nw w U
def xTs (k : Nat) : List Cond := Cond.code (xy k) (xb k) (xml k) (xret k) :: xtbl
/-- what holds all through a method's run -/
def xCx (p : Program) (s : State) (m : MethodId) (args : Array Value) (meth : Method) (c : Code) (k : Nat) (D : va_G) (cI cL : ClassId) (ad : Nat → Nat) (A : Nat → Prop) : Prop :=
  p.tables.exec = Jvm.exec ∧ c.code = xb k ∧ meth.sig.returnType = xret k ∧ c.maxLocals = xml k ∧ meth.locks = false ∧ s.vm.findClass (xcn.getD (xown k) "") = some m.cls ∧ (∀ w ∈ xTs k, w.before args s = true) ∧ meth.name = (xy k).name ∧ k < 307 ∧ va_K D xcl (xTys cI cL) s ∧ (∀ q, s.heap.size ≤ q → A q) ∧ xSt (ad xP) A s s.heap
/-- behind a method -/
def xB (D : va_G) (cI cL : ClassId) (ad : Nat → Nat) (A : Nat → Prop) (w' : xW) (t : State) : Prop := va_P D xcl (xtw cI cL ad w') t.heap ∧ va_K D xcl (xTys cI cL) t ∧ va_D A (xtw cI cL ad w') ∧ w'.length < xP ∧ ∀ j, w'.length + j < xP → ad (w'.length + j) = t.heap.size + j
def xPost (D : va_G) (cI cL : ClassId) (ad : Nat → Nat) (A : Nat → Prop) (v : Option Value) (w' : xW) : Array Value → State → Outcome → State → Prop := fun _ st oc t => oc = .returned (v.map (xtv ad)) ∧ xB D cI cL ad A w' t ∧ va_F A st t
def xPre (D : va_G) (cI cL : ClassId) (ad : Nat → Nat) (as : List Value) (w : xW) (sz : Nat) : Array Value → State → Prop := va_Pc (as.map (xtv ad)) (fun U => U.heap.size = sz ∧ va_P D xcl (xtw cI cL ad w) U.heap ∧ va_K D xcl (xTys cI cL) U ∧ va_D (fun _ => True) (xtw cI cL ad w) ∧ w.length < xP ∧ (∀ j, w.length + j < xP → ad (w.length + j) = sz + j) ∧ xSt (ad xP) (va_A (xtw cI cL ad w) sz) U U.heap)
abbrev xRm (k mc ms : Nat) : Room := { frames := xfr k, cells := mc, slots := ms, locals := xlo k }
/-- from here the machine comes to this answer and this heap -/
def xSnd (l : Launch) (D : va_G) (cI cL : ClassId) (k pc : Nat) (ll : List (Option Value)) (st : List Value) (w : xW) (v : Option Value) (w' : xW) : Prop :=
  (w.length ≤ w'.length ∧ xsl w ≤ xsl w') ∧ ∀ {p : Program} {e : Env} {s : State} {m : MethodId} {args : Array Value} {below : List Frame} {meth : Method} {c : Code} {A : Nat → Prop} {ad : Nat → Nat} {mc ms cells slots N0 S0 : Nat} {H : Heap} {locs : List Loc} {ls : Array Slot},
    xCx p s m args meth c k D cI cL ad A → xOK D cI cL ad A s.heap w H locs cells → xLoc ad ls (xml k) ll → cells + N0 = w.length → mc + N0 = w'.length → slots + S0 = xsl w → ms + S0 = xsl w' →
    W p l e (xRm k mc ms) s m args below meth c H locs cells slots (MQ below (xPost D cI cL ad A v w') args s mc ms A) (F0 m pc ls (st.map (xtv ad)))
end
section
/-! ROWS OVER THE PURE HEAP -/
section XR
variable {p : Program} {l : Launch} {e : Env} {R : Room} {s : State} {m : MethodId} {args : Array Value} {below : List Frame} {meth : Method} {c : Code} {H : Heap} {locs : List Loc} {cells slots : Nat} {Q : State → Prop}
variable {D : va_G} {cI cL : ClassId} {ad : Nat → Nat} {A : Nat → Prop} {H0 : Heap} {w : xW}
/-- the machine's own count of new cells bounds the heap -/
theorem x_sz {H1 : Heap} {locs1 : List Loc} {g : JFrame} (hlow : s.heap.size + cells ≤ H1.size) (kk : H1.size = s.heap.size + cells → W p l e R s m args below meth c H1 locs1 cells slots Q g) : W p l e R s m args below meth c H1 locs1 cells slots Q g := by
  intro T hT X
  refine kk (Nat.le_antisymm ?_ hlow) T hT X
  have h := X.same.2.2.1
  have h2 : T.heap.size ≤ s.heap.size + cells := h
  rw [hT] at h2
  exact h2
theorem xOK.here (O : xOK D cI cL ad A H0 w H locs cells) : va_S A H H locs := ⟨Nat.le_refl _, fun _ _ _ => rfl, O.2.2.1.2.2⟩
theorem xOK.trans {H1 : Heap} {locs1 : List Loc} (O : xOK D cI cL ad A H0 w H locs cells) (hS : va_S A H H1 locs1) : va_S A H0 H1 locs1 := by
  obtain ⟨h1, h2, h3⟩ := O.2.2.1
  exact ⟨Nat.le_trans h1 hS.1, fun q hq hA => (hS.2.1 q (Nat.lt_of_lt_of_le hq h1) hA).trans (h2 q hq hA), hS.2.2⟩
/-- a cell is written -/
theorem xOK.store {a : Nat} {c' : xC} {H1 : Heap} {locs1 : List Loc} (O : xOK D cI cL ad A H0 w H locs cells) (hP : va_P D xcl ((xtw cI cL ad w).set a (ad a, xte cI cL ad c')) H1) (hD : va_D A ((xtw cI cL ad w).set a (ad a, xte cI cL ad c'))) (hS : va_S A H H1 locs1) (hz : H1.size = H0.size + cells) : xOK D cI cL ad A H0 (w.set a c') H1 locs1 cells := by
  refine ⟨by rw [xtw_set]; exact hP, by rw [xtw_set]; exact hD, O.trans hS, by rw [List.length_set]; exact O.2.2.2.1, fun j hj => ?_, hz⟩
  rw [List.length_set] at hj ⊢
  rw [O.2.2.2.2.1 j hj, hz, O.2.2.2.2.2]
/-- a cell is made -/
theorem xOK.push {c' : xC} {H1 : Heap} (O : xOK D cI cL ad A H0 w H locs cells) (hA : ∀ q, H0.size ≤ q → A q) (hlt : w.length + 1 < xP) (hc : va_at D xcl (H.size, xte cI cL ad c') H1) (hz : H1.size = H.size + 1) (oq : ∀ q, q < H.size → H1[q]? = H[q]?) : ad w.length = H.size ∧ xOK D cI cL ad A H0 (w ++ [c']) H1 locs (cells + 1) := by
  obtain ⟨hP, hD, hS, hle, had, hsz⟩ := O
  have e0 : ad w.length = H.size := by
    have := had 0 (by omega)
    simpa using this
  have hk : ∀ (k : Nat) (x : Nat × va_E), (xtw cI cL ad w)[k]? = some x → H1[x.1]? = H[x.1]? := fun k x hx => oq x.1 ((hP k x hx).lt)
  refine ⟨e0, ?_, ?_, ⟨Nat.le_trans hS.1 (by omega), fun x h1 h2 => (oq x (Nat.lt_of_lt_of_le h1 hS.1)).trans (hS.2.1 x h1 h2), hS.2.2⟩, by rw [List.length_append]; simp; omega, fun j hj => ?_, by omega⟩
  · rw [xtw_app, e0]
    refine (hP.kept hk).app fun k x hx => ?_
    have hz : k < 1 := (List.getElem?_eq_some_iff.mp hx).1
    rw [show k = 0 by omega] at hx
    cases hx
    exact hc
  · rw [xtw_app, e0]
    exact hD.push hP rfl (hA _ hS.1)
  · rw [List.length_append] at hj ⊢
    simp only [List.length_singleton] at hj ⊢
    rw [show w.length + 1 + j = w.length + (1 + j) by omega, had (1 + j) (by omega), hz]
    omega
theorem xOK.sub (O : xOK D cI cL ad A H0 w H locs cells) (hA : ∀ q, H0.size ≤ q → A q) : ∀ q, va_A (xtw cI cL ad w) H.size q → A q := by
  intro q h
  rcases h with ⟨k, e, h⟩ | h
  · exact O.2.1.2 k (q, e) h
  · exact hA q (Nat.le_trans O.2.2.1.1 h)
theorem xNw.warm {U : State} {w : Cond} (hn : xisNest w = true) (hW : s.WarmedH U.vm) (h : va_Nw w s) : va_Nw w U := by
  cases w with
  | methodLinkNest a i x h0 => exact va_Nw.warmM hW h
  | fieldLinkNest a i b n d h0 => exact va_Nw.warmF hW h
  | _ => cases hn
theorem xNw.tab {w : Cond} (hn : xisNest w = true) : w.onTables = true := by
  cases w with
  | methodLinkNest a i x h0 => rfl
  | fieldLinkNest a i b n d h0 => rfl
  | _ => cases hn
theorem xSt.to {t : Nat} {B : Nat → Prop} {U : State} (h : xSt t A s H0) (hW : s.WarmedH U.vm) (hk : ∀ a : Nat, a < H0.size → ¬ A a → H[a]? = H0[a]?) (hs : ∀ q, B q → A q) : xSt t B U H :=
  ⟨(va_Z.moved hW.alike (h.1.kept hk)).narrow hs, (va_T.moved hW.alike (h.2.1.kept hk)).narrow hs, fun w hw hn => xNw.warm hn hW (h.2.2 w hw hn)⟩
theorem xPre.blind {as : List Value} {sz : Nat} : FrameBlind (xPre D cI cL ad as w sz) := by
  intro a U g mk q
  obtain ⟨q0, q1, qP, qK, qD, ql, qa, qZ, qT, qN⟩ := q
  exact ⟨q0, q1, qP, va_K.moved (u := U) (U := U.calling g mk a) (Vm.Alike.refl U.vm) qK, qD, ql, qa, va_Z.moved (u := U) (U := U.calling g mk a) (Vm.Alike.refl U.vm) qZ, va_T.moved (u := U) (U := U.calling g mk a) (Vm.Alike.refl U.vm) qT, fun w hw hn => va_Nw.same (u := U) (U := U.calling g mk a) (xNw.tab hn) rfl (qN w hw hn)⟩
/-- behind a call, whatever it answers -/
theorem x_call {pc : Nat} {ls : Array Slot} {rest st0 : List Value} {a : Array Value} {A0 A1 : Nat → Prop} {mc ms : Nat} {v : Option Value} {w' : xW} {free : Addr → Prop}
    (hr : va_Run p l e R s m args below meth c H locs cells slots mc ms (F0 m pc ls st0) rest (xPost D cI cL ad A1 v w' a) free) (hS : va_S A0 H0 H locs) (hA : ∀ q, q < H.size → A1 q → A0 q) (hf : ∀ q, free q → A0 q)
    (kk : ∀ (t : State) (H1 : Heap) (locs1 : List Loc), t.heap = H1 → xB D cI cL ad A1 w' t → va_S A0 H0 H1 locs1 → W p l e R s m args below meth c H1 locs1 (cells + mc) (slots + ms) Q (F0 m (pc + 3) ls ((v.map (xtv ad)).toList ++ rest))) : W p l e R s m args below meth c H locs cells slots Q (F0 m pc ls st0) := by
  intro T hT X
  obtain ⟨v', st₀, t, T', L, h0, X', hL, e1, e2, ⟨hv, hB, hz, hk⟩, st⟩ := hr T hT X
  cases hv
  rw [h0] at hz hk
  have hS1 : va_S A0 H0 T'.heap (locs ++ L) := by
    refine ⟨Nat.le_trans hS.1 (by rw [e1]; exact hz), fun q h1 h2 => ?_, fun q hq => ?_⟩
    · rw [e1, hk q (Nat.lt_of_lt_of_le h1 hS.1) (fun z => h2 (hA q (Nat.lt_of_lt_of_le h1 hS.1) z))]
      exact hS.2.1 q h1 h2
    · rcases List.mem_append.mp hq with h | h
      · exact hS.2.2 q h
      · exact hf _ (hL q h)
  obtain ⟨t2, a1, b1⟩ := kk t T'.heap (locs ++ L) e1.symm hB hS1 T' rfl X'
  exact ⟨t2, st t2 a1, b1⟩
end XR
/-- a run of the pure machine is a contract of the method -/
theorem x_met {l : Launch} {D : va_G} {cI cL : ClassId} {z : Nat} {as : List Value} {w w1 : xW} {v1 : Option Value} (hS : xSnd l D cI cL z 0 (xent (xml z) as) [] w v1 w1) (hz : z < 307) (hent : (xent1 as).length ≤ xml z) (ad : Nat → Nat) (sz : Nat) {mc ms : Nat} (h1 : mc + w.length = w1.length) (h2 : ms + xsl w = xsl w1) :
    Met l (xy z) (xTs z) (xRm z mc ms) (xPre D cI cL ad as w sz) (xPost D cI cL ad (va_A (xtw cI cL ad w) sz) v1 w1) mc ms (va_A (xtw cI cL ad w) sz) := by
  refine va_MetF (cc := xb z) (maxL := xml z) (ret := xret z) (x_name hz).2.1 rfl ?_
  intro p e s m args below meth c s₁ B hml hv
  obtain ⟨rfl, hsz, hP, hK, hD0, hle, had, hSt⟩ := hv
  subst hsz
  have hts := atoms_spec (ws := xTs z) B.pre
  have hown : s.vm.findClass (xy z).cls = some m.cls := findClass_of_methodNamed B.named
  rw [lg_entry_eq]
  exact hS.2 (cells := 0) (slots := 0) (N0 := w.length) (S0 := xsl w) ⟨B.exec, B.bytes, B.returns, hml, B.notSynchronized, by rw [← (x_name hz).1]; exact hown, hts, (name_of_methodNamed B.named B.method).1, hz, hK, fun q h => Or.inr h, hSt⟩ ⟨hP, hD0.self, va_S.rf, hle, had, rfl⟩ (xLoc.entry hent) (Nat.zero_add _) h1 (Nat.zero_add _) h2
theorem x_goodIn (k : Nat) {z : Nat} (hz : z < 307) : GoodIn (xTs k) (xTs z) := by
  have good : ∀ w ∈ xtbl, (w.onTables && w.keeps) = true ∨ ∃ ty, w = .arrayClass ty := fun w hw => good_of_word (List.mem_filter.mp hw).2
  intro w hw
  rcases List.mem_cons.mp hw with rfl | hw
  · have h : Cond.code (xy z) (xb z) (xml z) (xret z) ∈ xtbl := xtbl_in (x_code hz) rfl
    exact ⟨List.mem_cons_of_mem _ h, good _ h⟩
  · exact ⟨List.mem_cons_of_mem _ hw, good _ hw⟩
end
section
/-! CALLS -/
def xOkF (l : Launch) (D : va_G) (cI cL : ClassId) (F : xK) : Prop := ∀ k pc ll st w v w', F k pc ll st w = some (v, w') → xSnd l D cI cL k pc ll st w v w'
theorem x_dec {k pc : Nat} {i : Instr} {len : Nat} (h : xcode k pc = some (i, len)) : decode (xb k) pc = .ok (i, len) := by
  unfold xcode at h
  split at h
  · rename_i r e
    cases h
    exact e
  · cases h
section XK
variable {l : Launch} {D : va_G} {cI cL : ClassId} {F : xK} {k pc : Nat} {ll : List (Option Value)} {w w' : xW} {v : Option Value}
theorem xs_go (hF : xOkF l D cI cL F) {z : Nat} {as rest : List Value} (h : xgo F k pc ll w z as rest = some (v, w')) : ∃ v1 w1, (xfr z + 1 ≤ xfr k ∧ 8 + (xml z + 11) + xlo z ≤ xlo k ∧ (rest.map fun v => v.category).sum ≤ 8 ∧ (xent1 as).length ≤ xml z ∧ z < 307) ∧ xSnd l D cI cL z 0 (xent (xml z) as) [] w v1 w1 ∧ xSnd l D cI cL k (pc + 3) ll (v1.toList ++ rest) w1 v w' := by
  unfold xgo at h
  split at h
  · rename_i hc
    rw [x_mlen] at hc
    unfold xaft at h
    split at h
    · rename_i v1 w1 e
      exact ⟨v1, w1, hc, hF _ _ _ _ _ _ _ e, hF _ _ _ _ _ _ _ h⟩
    · cases h
  · cases h
variable {p : Program} {e : Env} {s : State} {m : MethodId} {args : Array Value} {below : List Frame} {meth : Method} {c : Code} {A : Nat → Prop} {ad : Nat → Nat} {mc ms cells slots N0 S0 : Nat} {H : Heap} {locs : List Loc} {ls : Array Slot}
theorem x_pre (C : xCx p s m args meth c k D cI cL ad A) (O : xOK D cI cL ad A s.heap w H locs cells) (as : List Value) (U : State) (hU : U.heap = H) (hW : s.WarmedH U.vm) : xPre D cI cL ad as w H.size (as.map (xtv ad)).toArray U := by
  obtain ⟨-, -, -, -, -, -, -, -, -, hK, hA, hSt⟩ := C
  refine ⟨rfl, by rw [hU], by rw [hU]; exact O.1, va_K.moved hW.alike hK, O.2.1.weaken (fun _ _ _ _ => trivial), O.2.2.2.1, O.2.2.2.2.1, ?_⟩
  rw [hU]
  exact hSt.to hW O.2.2.1.2.1 (O.sub hA)
theorem xs_aft {z : Nat} {as rest : List Value} {v1 : Option Value} {w1 : xW} {st0 : List Value} {a : Array Value} (q1 : xSnd l D cI cL z 0 (xent (xml z) as) [] w v1 w1) (q2 : xSnd l D cI cL k (pc + 3) ll (v1.toList ++ rest) w1 v w')
    (C : xCx p s m args meth c k D cI cL ad A) (O : xOK D cI cL ad A s.heap w H locs cells) (L : xLoc ad ls (xml k) ll) (a1 : cells + N0 = w.length) (a2 : mc + N0 = w'.length) (a3 : slots + S0 = xsl w) (a4 : ms + S0 = xsl w')
    (hr : va_Run p l e (xRm k mc ms) s m args below meth c H locs cells slots (w1.length - w.length) (xsl w1 - xsl w) (F0 m pc ls st0) (rest.map (xtv ad)) (xPost D cI cL ad (va_A (xtw cI cL ad w) H.size) v1 w1 a) (va_A (xtw cI cL ad w) H.size)) :
    W p l e (xRm k mc ms) s m args below meth c H locs cells slots (MQ below (xPost D cI cL ad A v w') args s mc ms A) (F0 m pc ls st0) := by
  have hA := C.2.2.2.2.2.2.2.2.2.2.1
  refine x_call hr O.2.2.1 (fun q _ h => O.sub hA q h) (O.sub hA) (fun t H1 locs1 ht hB hS1 => ?_)
  obtain ⟨hP1, hK1, hD1, hl1, had1⟩ := hB
  rw [ht] at hP1 had1
  have hm := q1.1
  have hz : H1.size = s.heap.size + (cells + (w1.length - w.length)) := by
    have e1 := had1 0 (by omega)
    have e2 := O.2.2.2.2.1 (w1.length - w.length) (by omega)
    rw [show w.length + (w1.length - w.length) = w1.length + 0 by omega, e1] at e2
    have e3 := O.2.2.2.2.2
    omega
  have hst : (v1.map (xtv ad)).toList ++ rest.map (xtv ad) = (v1.toList ++ rest).map (xtv ad) := by
    rw [List.map_append]
    cases v1 <;> rfl
  rw [hst]
  exact q2.2 (N0 := N0) (S0 := S0) C ⟨hP1, hD1.weaken (fun k q _ h => O.sub hA q.1 h), hS1, hl1, had1, hz⟩ L (by omega) a2 (by omega) a4
/-- a word of a site holds -/
theorem x_word {ix : Nat} {q : Nat × Nat × Nat × Int} (C : xCx p s m args meth c k D cI cL ad A) (h : xsite k ix = some q) {u : Cond} (hu : u ∈ xwords (xcn.getD (xown k) "") ix q) (hg : goodWord u = true) : u.before args s = true :=
  C.2.2.2.2.2.2.1 u (List.mem_cons_of_mem _ (xtbl_in (x_siteW (x_ownLt _ C.2.2.2.2.2.2.2.2.1) h u hu) hg))
theorem x_nest {ix : Nat} {q : Nat × Nat × Nat × Int} (C : xCx p s m args meth c k D cI cL ad A) (h : xsite k ix = some q) {u : Cond} (hu : u ∈ xwords (xcn.getD (xown k) "") ix q) (hg : xisNest u = true) : va_Nw u s :=
  C.2.2.2.2.2.2.2.2.2.2.2.2.2 u (x_siteW (x_ownLt _ C.2.2.2.2.2.2.2.2.1) h u hu) hg
end XK
section XI
variable {l : Launch} {D : va_G} {cI cL : ClassId} {F : xK} {k pc : Nat} {ll : List (Option Value)} {st : List Value} {w w' : xW} {v : Option Value}
theorem x_split {ad : Nat → Nat} (st : List Value) (n : Nat) : st.map (xtv ad) = ((st.take n).reverse.map (xtv ad)).reverse ++ (st.drop n).map (xtv ad) := by
  rw [← List.map_reverse, List.reverse_reverse, ← List.map_append, List.take_append_drop]
theorem xs_invV (hF : xOkF l D cI cL F) {ix : Nat} (hd : decode (xb k) pc = .ok (.invokevirtual ix, 3)) (h : xinvV F k pc ix ll st w = some (v, w')) : xSnd l D cI cL k pc ll st w v w' := by
  unfold xinvV at h
  split at h
  · rename_i z _ hs
    split at h
    · rename_i hlen
      split at h
      · rename_i b rest hdrop
        split at h
        · rename_i ci fs hb
          split at h
          · rename_i hci
            subst hci
            obtain ⟨v1, w1, ⟨c1, c2, c3, c4, c5⟩, q1, q2⟩ := xs_go hF h
            refine ⟨⟨Nat.le_trans q1.1.1 q2.1.1, Nat.le_trans q1.1.2 q2.1.2⟩, fun {p e s m args below meth c A ad mc ms cells slots N0 S0 H locs ls} C O L a1 a2 a3 a4 => ?_⟩
            have e1 : (w1.length - w.length) + w.length = w1.length := by have := q1.1.1; omega
            have e2 : (xsl w1 - xsl w) + xsl w = xsl w1 := by have := q1.1.2; omega
            have nm := x_name c5
            have hst : st.map (xtv ad) = (((st.take (xna z)).reverse.map (xtv ad))).reverse ++ .ref (ad b) :: rest.map (xtv ad) := by
              rw [x_split st (xna z), hdrop]
              rfl
            refine xs_aft (as := .ref b :: (st.take (xna z)).reverse) (a := (Value.ref (ad b) :: (st.take (xna z)).reverse.map (xtv ad)).toArray) q1 q2 C O L a1 a2 a3 a4 ?_
            refine va_runV (C := (xy z).cls) (b := ad b) (bytes := xb z) (maxL := xml z) (ret := xret z) (n := xna z) (As := (st.take (xna z)).reverse.map (xtv ad)) ⟨C.1, C.2.1, C.2.2.2.1, C.2.2.2.2.2.1, C.2.2.2.2.2.2.1⟩ (x_met q1 c5 c4 ad H.size e1 e2) ⟨callB_of (xna z) C.2.2.2.2.2.2.1 (x_goodIn k c5) rfl rfl rfl (x_word C hs (u := .initialized (xy z).cls) (by simp [xwords]) rfl) (x_word C hs (u := .methodLink _ ix (xy z)) (by simp [xwords]) rfl) nm.2.2 ⟨c1, c2⟩, x_word C hs (u := .instanceMethod (xy z)) (by simp [xwords]) rfl, x_word C hs (u := .selects (xy z).cls (xy z) (xy z)) (by simp [xwords]) rfl⟩ ⟨xPre.blind, ?_, fun U hU hW => x_pre C O (.ref b :: (st.take (xna z)).reverse) U hU hW⟩ rfl ?_ L.1 hst ?_ hd ?_
            · have hr := va_recv C.2.2.2.2.2.2.2.2.2.1 O.1 (x_cl _ (x_ownLt _ c5)) (xtw_get hb)
              rw [nm.1]
              exact hr
            · simp; omega
            · rw [xtv_cats]
              show 2 * 0 + _ ≤ 8
              omega
            · have := q2.1
              exact ⟨by show _ ≤ mc; omega, by show _ ≤ ms; omega⟩
          · cases h
        · cases h
      · cases h
    · cases h
  · cases h
theorem xs_S (hF : xOkF l D cI cL F) {ix z : Nat} {x : Int} (hs : xsite k ix = some (0, z, 1, x)) (hd : decode (xb k) pc = .ok (.invokestatic ix, 3)) (hlen : xna z ≤ st.length) (h : xgo F k pc ll w z (st.take (xna z)).reverse (st.drop (xna z)) = some (v, w')) : xSnd l D cI cL k pc ll st w v w' := by
  obtain ⟨v1, w1, ⟨c1, c2, c3, c4, c5⟩, q1, q2⟩ := xs_go hF h
  refine ⟨⟨Nat.le_trans q1.1.1 q2.1.1, Nat.le_trans q1.1.2 q2.1.2⟩, fun {p e s m args below meth c A ad mc ms cells slots N0 S0 H locs ls} C O L a1 a2 a3 a4 => ?_⟩
  have e1 : (w1.length - w.length) + w.length = w1.length := by have := q1.1.1; omega
  have e2 : (xsl w1 - xsl w) + xsl w = xsl w1 := by have := q1.1.2; omega
  have nm := x_name c5
  have hst := x_split (ad := ad) st (xna z)
  refine xs_aft (as := (st.take (xna z)).reverse) (a := ((st.take (xna z)).reverse.map (xtv ad)).toArray) q1 q2 C O L a1 a2 a3 a4 ?_
  refine va_runS (bytes := xb z) (maxL := xml z) (ret := xret z) (n := xna z) (As := (st.take (xna z)).reverse.map (xtv ad)) ⟨C.1, C.2.1, C.2.2.2.1, C.2.2.2.2.2.1, C.2.2.2.2.2.2.1⟩ (x_met q1 c5 c4 ad H.size e1 e2) ⟨callB_of (xna z) C.2.2.2.2.2.2.1 (x_goodIn k c5) rfl rfl rfl (x_word C hs (u := .initialized (xy z).cls) (by simp [xwords]) rfl) (x_word C hs (u := .methodLink _ ix (xy z)) (by simp [xwords]) rfl) nm.2.2 ⟨c1, c2⟩, x_word C hs (u := .static (xy z)) (by simp [xwords]) rfl⟩ ⟨xPre.blind, fun U hU hW => x_pre C O (st.take (xna z)).reverse U hU hW⟩ rfl ?_ L.1 hst ?_ hd ?_
  · simp; omega
  · rw [xtv_cats]
    show 2 * 0 + _ ≤ 8
    omega
  · have := q2.1
    exact ⟨by show _ ≤ mc; omega, by show _ ≤ ms; omega⟩
theorem xs_SN (hF : xOkF l D cI cL F) {ix z : Nat} {x : Int} (hs : xsite k ix = some (1, z, 1, x)) (hd : decode (xb k) pc = .ok (.invokestatic ix, 3)) (hlen : xna z ≤ st.length) (h : xgo F k pc ll w z (st.take (xna z)).reverse (st.drop (xna z)) = some (v, w')) : xSnd l D cI cL k pc ll st w v w' := by
  obtain ⟨v1, w1, ⟨c1, c2, c3, c4, c5⟩, q1, q2⟩ := xs_go hF h
  refine ⟨⟨Nat.le_trans q1.1.1 q2.1.1, Nat.le_trans q1.1.2 q2.1.2⟩, fun {p e s m args below meth c A ad mc ms cells slots N0 S0 H locs ls} C O L a1 a2 a3 a4 => ?_⟩
  have e1 : (w1.length - w.length) + w.length = w1.length := by have := q1.1.1; omega
  have e2 : (xsl w1 - xsl w) + xsl w = xsl w1 := by have := q1.1.2; omega
  have nm := x_name c5
  have hst := x_split (ad := ad) st (xna z)
  refine xs_aft (as := (st.take (xna z)).reverse) (a := ((st.take (xna z)).reverse.map (xtv ad)).toArray) q1 q2 C O L a1 a2 a3 a4 ?_
  refine va_runSN (bytes := xb z) (maxL := xml z) (ret := xret z) (n := xna z) (As := (st.take (xna z)).reverse.map (xtv ad)) ⟨C.1, C.2.1, C.2.2.2.1, C.2.2.2.2.2.1, C.2.2.2.2.2.2.1⟩ (x_met q1 c5 c4 ad H.size e1 e2) ⟨va_cnB (host := "BernoulliWays") (xna z) C.2.2.2.2.2.2.1 (x_goodIn k c5) rfl rfl rfl (x_nest C hs (u := .methodLinkNest _ ix (xy z) "BernoulliWays") (by simp [xwords]) rfl) (x_word C hs (u := .initialized (xy z).cls) (by simp [xwords]) rfl) nm.2.2 ⟨c1, c2⟩, x_word C hs (u := .static (xy z)) (by simp [xwords]) rfl, trivial⟩ ⟨xPre.blind, fun U hU hW => x_pre C O (st.take (xna z)).reverse U hU hW⟩ rfl ?_ L.1 hst ?_ hd ?_
  · simp; omega
  · rw [xtv_cats]
    show 2 * 0 + _ ≤ 8
    omega
  · have := q2.1
    exact ⟨by show _ ≤ mc; omega, by show _ ≤ ms; omega⟩
theorem xs_I (hF : xOkF l D cI cL F) {ix z b : Nat} {rest : List Value} {x : Int} (hs : xsite k ix = some (0, z, 2, x)) (hnm : (xy z).name = "<init>") (hret : xret z = none) (hd : decode (xb k) pc = .ok (.invokespecial ix, 3)) (hlen : xna z + 1 ≤ st.length) (hdrop : st.drop (xna z) = .ref b :: rest) (h : xgo F k pc ll w z (.ref b :: (st.take (xna z)).reverse) rest = some (v, w')) : xSnd l D cI cL k pc ll st w v w' := by
  obtain ⟨v1, w1, ⟨c1, c2, c3, c4, c5⟩, q1, q2⟩ := xs_go hF h
  refine ⟨⟨Nat.le_trans q1.1.1 q2.1.1, Nat.le_trans q1.1.2 q2.1.2⟩, fun {p e s m args below meth c A ad mc ms cells slots N0 S0 H locs ls} C O L a1 a2 a3 a4 => ?_⟩
  have e1 : (w1.length - w.length) + w.length = w1.length := by have := q1.1.1; omega
  have e2 : (xsl w1 - xsl w) + xsl w = xsl w1 := by have := q1.1.2; omega
  have nm := x_name c5
  have hst : st.map (xtv ad) = (((st.take (xna z)).reverse.map (xtv ad))).reverse ++ .ref (ad b) :: rest.map (xtv ad) := by
    rw [x_split st (xna z), hdrop]
    rfl
  refine xs_aft (as := .ref b :: (st.take (xna z)).reverse) (a := (Value.ref (ad b) :: (st.take (xna z)).reverse.map (xtv ad)).toArray) q1 q2 C O L a1 a2 a3 a4 ?_
  refine va_runI (b := ad b) (bytes := xb z) (maxL := xml z) (n := xna z) (As := (st.take (xna z)).reverse.map (xtv ad)) ⟨C.1, C.2.1, C.2.2.2.1, C.2.2.2.2.2.1, C.2.2.2.2.2.2.1⟩ (x_met q1 c5 c4 ad H.size e1 e2) ⟨callB_of (xna z) C.2.2.2.2.2.2.1 (x_goodIn k c5) (by unfold xTs; rw [hret]) rfl rfl (x_word C hs (u := .initialized (xy z).cls) (by simp [xwords]) rfl) (x_word C hs (u := .methodLink _ ix (xy z)) (by simp [xwords]) rfl) nm.2.2 ⟨c1, c2⟩, hnm, x_word C hs (u := .instanceMethod (xy z)) (by simp [xwords]) rfl⟩ ⟨xPre.blind, fun U hU hW => x_pre C O (.ref b :: (st.take (xna z)).reverse) U hU hW⟩ rfl ?_ L.1 hst ?_ hd ?_
  · simp; omega
  · rw [xtv_cats]
    show 2 * 0 + _ ≤ 8
    omega
  · have := q2.1
    exact ⟨by show _ ≤ mc; omega, by show _ ≤ ms; omega⟩
theorem xs_IN (hF : xOkF l D cI cL F) {ix z b : Nat} {rest : List Value} {x : Int} (hs : xsite k ix = some (1, z, 2, x)) (hnm : (xy z).name = "<init>") (hret : xret z = none) (hd : decode (xb k) pc = .ok (.invokespecial ix, 3)) (hlen : xna z + 1 ≤ st.length) (hdrop : st.drop (xna z) = .ref b :: rest) (h : xgo F k pc ll w z (.ref b :: (st.take (xna z)).reverse) rest = some (v, w')) : xSnd l D cI cL k pc ll st w v w' := by
  obtain ⟨v1, w1, ⟨c1, c2, c3, c4, c5⟩, q1, q2⟩ := xs_go hF h
  refine ⟨⟨Nat.le_trans q1.1.1 q2.1.1, Nat.le_trans q1.1.2 q2.1.2⟩, fun {p e s m args below meth c A ad mc ms cells slots N0 S0 H locs ls} C O L a1 a2 a3 a4 => ?_⟩
  have e1 : (w1.length - w.length) + w.length = w1.length := by have := q1.1.1; omega
  have e2 : (xsl w1 - xsl w) + xsl w = xsl w1 := by have := q1.1.2; omega
  have nm := x_name c5
  have hst : st.map (xtv ad) = (((st.take (xna z)).reverse.map (xtv ad))).reverse ++ .ref (ad b) :: rest.map (xtv ad) := by
    rw [x_split st (xna z), hdrop]
    rfl
  refine xs_aft (as := .ref b :: (st.take (xna z)).reverse) (a := (Value.ref (ad b) :: (st.take (xna z)).reverse.map (xtv ad)).toArray) q1 q2 C O L a1 a2 a3 a4 ?_
  refine va_runIN (b := ad b) (bytes := xb z) (maxL := xml z) (n := xna z) (As := (st.take (xna z)).reverse.map (xtv ad)) ⟨C.1, C.2.1, C.2.2.2.1, C.2.2.2.2.2.1, C.2.2.2.2.2.2.1⟩ (x_met q1 c5 c4 ad H.size e1 e2) ⟨va_cnB (host := "BernoulliWays") (xna z) C.2.2.2.2.2.2.1 (x_goodIn k c5) (by unfold xTs; rw [hret]) rfl rfl (x_nest C hs (u := .methodLinkNest _ ix (xy z) "BernoulliWays") (by simp [xwords]) rfl) (x_word C hs (u := .initialized (xy z).cls) (by simp [xwords]) rfl) nm.2.2 ⟨c1, c2⟩, hnm, x_word C hs (u := .instanceMethod (xy z)) (by simp [xwords]) rfl⟩ ⟨xPre.blind, fun U hU hW => x_pre C O (.ref b :: (st.take (xna z)).reverse) U hU hW⟩ rfl ?_ L.1 hst ?_ hd ?_
  · simp; omega
  · rw [xtv_cats]
    show 2 * 0 + _ ≤ 8
    omega
  · have := q2.1
    exact ⟨by show _ ≤ mc; omega, by show _ ≤ ms; omega⟩
end XI
end
section
/-! FIELDS, ROWS, NEW CELLS -/
def xchkI (c : Nat) : Bool := (xss.getD c []).all fun q => !(q.2.2.2.1 == 2 && Nat.ble q.2.1 1) || (decide ((xy q.2.2.1).name = "<init>") && decide (xret q.2.2.1 = none))
theorem x_i : (List.range 15).all xchkI = true := by decide +kernel
theorem x_isInit {k ix t z : Nat} {x : Int} (hk : xown k < 15) (ht : t ≤ 1) (h : xsite k ix = some (t, z, 2, x)) : (xy z).name = "<init>" ∧ xret z = none := by
  have h1 := List.all_eq_true.mp x_i _ (List.mem_range.mpr hk)
  have h2 := List.all_eq_true.mp h1 _ (x_lookup h)
  simp only [beq_self_eq_true, Bool.true_and, Bool.or_eq_true, Bool.not_eq_true', Bool.and_eq_true, decide_eq_true_eq] at h2
  rcases h2 with h2 | h2
  · rw [Nat.ble_eq_true_of_le ht] at h2
    cases h2
  · exact h2
theorem x_ciLt : ∀ c, c < 15 → (xss.getD c []).all (fun q => !(q.2.1 == 4 || q.2.1 == 8) || Nat.blt q.2.2.1 15) = true := by
  have h : (List.range 15).all (fun c => (xss.getD c []).all (fun q => !(q.2.1 == 4 || q.2.1 == 8) || Nat.blt q.2.2.1 15)) = true := by decide +kernel
  exact fun c hc => List.all_eq_true.mp h c (List.mem_range.mpr hc)
theorem x_ci4 {k ix ci j : Nat} {x : Int} (hk : xown k < 15) (h : xsite k ix = some (4, ci, j, x)) : ci < 15 := by
  have h2 := List.all_eq_true.mp (x_ciLt _ hk) _ (x_lookup h)
  simp [Nat.blt] at h2
  omega
theorem x_ci8 {k ix ci j : Nat} {x : Int} (hk : xown k < 15) (h : xsite k ix = some (8, ci, j, x)) : ci < 15 := by
  have h2 := List.all_eq_true.mp (x_ciLt _ hk) _ (x_lookup h)
  simp [Nat.blt] at h2
  omega
/-- each field that a site names is there -/
theorem x_fjAll : ∀ c, c < 15 → (xss.getD c []).all (fun q => !(q.2.1 == 4) || Nat.blt q.2.2.2.1 (xNc q.2.2.1)) = true := by
  have h : (List.range 15).all (fun c => (xss.getD c []).all (fun q => !(q.2.1 == 4) || Nat.blt q.2.2.2.1 (xNc q.2.2.1))) = true := by decide +kernel
  exact fun c hc => List.all_eq_true.mp h c (List.mem_range.mpr hc)
theorem x_fj {k ix ci j : Nat} {x : Int} (hk : xown k < 15) (h : xsite k ix = some (4, ci, j, x)) : j < xNc ci := by
  have h2 := List.all_eq_true.mp (x_fjAll _ hk) _ (x_lookup h)
  simp [Nat.blt] at h2
  omega
theorem x_fits {ty : FieldType} {v : Value} {ad : Nat → Nat} (h : xfits ty v = true) : narrow ty (xtv ad v) = xtv ad v ∧ fits ty (xtv ad v) = true := by
  cases ty <;> cases v <;> first | exact ⟨rfl, rfl⟩ | (simp [xfits] at h)
section XM
variable {l : Launch} {D : va_G} {cI cL : ClassId} {F : xK} {k pc : Nat} {ll : List (Option Value)} {st : List Value} {w w' : xW} {v : Option Value}
theorem xs_getf (hF : xOkF l D cI cL F) {ix : Nat} (hd : decode (xb k) pc = .ok (.getfield ix, 3)) (h : xgetf F k pc ix ll st w = some (v, w')) : xSnd l D cI cL k pc ll st w v w' := by
  unfold xgetf at h
  split at h
  · rename_i ci j _ a rest hs
    split at h
    · rename_i c2 fs hw
      split at h
      · rename_i hci
        subst hci
        split at h
        · rename_i x hx
          have q := hF _ _ _ _ _ _ _ h
          refine ⟨q.1, fun {p e s m args below meth c A ad mc ms cells slots N0 S0 H locs ls} C O L a1 a2 a3 a4 => ?_⟩
          have ho := x_ownLt _ C.2.2.2.2.2.2.2.2.1
          have hc := x_ci4 ho hs
          refine va_get (v := xtv ad x) (T := xFc c2) (N := xNc c2) (C := xcn.getD c2 "") (ref := (xFc c2 j).1) C.1 C.2.1 C.2.2.2.2.2.2.1 (fun u hu => List.mem_cons_of_mem _ (xtbl_in ((x_cls hc).1 u hu) (x_good_lays u hu))) C.2.2.2.2.2.1 C.2.2.2.2.2.2.2.2.2.1 O.1 a (xtw_get hw) (x_cl _ hc) j (x_fj ho hs) (x_word C hs (by simp [xwords, xFc]) rfl) (fun _ h9 => h9) ?_ hd (q.2 C O L a1 a2 a3 a4)
          rw [List.getElem?_map, hx]
          rfl
        · cases h
      · cases h
    · cases h
  · cases h
theorem xs_putf (hF : xOkF l D cI cL F) {ix : Nat} (hd : decode (xb k) pc = .ok (.putfield ix, 3)) (h : xputf F k pc ix ll st w = some (v, w')) : xSnd l D cI cL k pc ll st w v w' := by
  unfold xputf at h
  split at h
  · rename_i ci j _ x a rest hs
    split at h
    · rename_i c2 fs hw
      split at h
      · rename_i hci
        obtain ⟨rfl, hj⟩ := hci
        split at h
        · rename_i ty fd hty hfd
          split at h
          · rename_i hok
            have q := hF _ _ _ _ _ _ _ h
            have hm : xsl (w.set a (.inr (c2, fs.set j x))) = xsl w := xsl_set hw (by simp [xsz])
            refine ⟨⟨by have := q.1.1; rw [List.length_set] at this; exact this, by have := q.1.2; rw [hm] at this; exact this⟩, fun {p e s m args below meth c A ad mc ms cells slots N0 S0 H locs ls} C O L a1 a2 a3 a4 => ?_⟩
            have ho := x_ownLt _ C.2.2.2.2.2.2.2.2.1
            have hc := x_ci4 ho hs
            have hft := x_fits (ad := ad) hok.1
            have hin : ∀ u ∈ u_ws (xcn.getD c2 "") (xFc c2) (xNc c2), u ∈ xTs k := fun u hu => List.mem_cons_of_mem _ (xtbl_in ((x_cls hc).1 u hu) (x_good_lays u hu))
            have hfe : xFc c2 j = fd := by unfold xFc; rw [List.getD_eq_getElem?_getD, hfd]; rfl
            have hfs : (fs.map (xtv ad)).set j (xtv ad x) = (fs.set j x).map (xtv ad) := by rw [List.map_set]
            have fin : ∀ (H1 : Heap) (locs1 : List Loc), va_P D xcl ((xtw cI cL ad w).set a (ad a, .inr (c2, (fs.map (xtv ad)).set j (xtv ad x)))) H1 → va_D A ((xtw cI cL ad w).set a (ad a, .inr (c2, (fs.map (xtv ad)).set j (xtv ad x)))) → va_S A H H1 locs1 → W p l e (xRm k mc ms) s m args below meth c H1 locs1 cells slots (MQ below (xPost D cI cL ad A v w') args s mc ms A) (F0 m (pc + 3) ls (rest.map (xtv ad))) := by
              intro H1 locs1 hP hD hS
              rw [hfs] at hP hD
              refine x_sz (by have := hS.1; have := O.2.2.2.2.2; omega) (fun hz => ?_)
              exact q.2 (N0 := N0) (S0 := S0) C (O.store hP hD hS hz) L (by rw [List.length_set]; exact a1) a2 (by rw [hm]; exact a3) a4
            by_cases hf : fd.2.2.2 = false
            · exact va_put (v := xtv ad x) (ty := ty) (T := xFc c2) (N := xNc c2) (C := xcn.getD c2 "") (ref := (xFc c2 j).1) C.1 C.2.1 C.2.2.2.2.2.2.1 hin (xTy c2) (x_tyOk hc) (x_cls hc).2.2.2 C.2.2.2.2.2.1 C.2.2.2.2.2.2.2.2.2.1 O.1 O.2.1 O.here a (xtw_get hw) (x_cl _ hc) j (x_fj ho hs) (x_word C hs (by simp [xwords, xFc]) rfl) (fun _ h9 => h9) (by rw [hfe]; exact hf) (x_typ hc hty) hft.1 hft.2 (by rw [List.length_map]; exact hj) hd fin
            · have hok2 := hok.2.resolve_left hf
              exact va_putF (v := xtv ad x) (ty := ty) (T := xFc c2) (N := xNc c2) (C := xcn.getD c2 "") (ref := (xFc c2 j).1) C.1 C.2.1 C.2.2.2.2.2.2.1 hin (xTy c2) (x_tyOk hc) (x_cls hc).2.2.2 C.2.2.2.2.2.1 C.2.2.2.2.2.2.2.2.2.1 O.1 O.2.1 O.here a (xtw_get hw) (x_cl _ hc) j (x_fj ho hs) (x_word C hs (by simp [xwords, xFc]) rfl) (fun _ h9 => h9) (by rw [hfe]; simpa using hf) (by rw [C.2.2.2.2.2.2.2.1]; exact hok2.1) (by rw [hfe, hok2.2]; exact (x_name C.2.2.2.2.2.2.2.2.1).1) (x_typ hc hty) hft.1 hft.2 (by rw [List.length_map]; exact hj) hd fin
          · cases h
        · cases h
      · cases h
    · cases h
  · cases h
theorem xs_ald (hF : xOkF l D cI cL F) (hd : decode (xb k) pc = .ok (.iaload, 1)) (h : xald F k pc ll st w = some (v, w')) : xSnd l D cI cL k pc ll st w v w' := by
  unfold xald at h
  split at h
  · rename_i i a rest
    split at h
    · rename_i n f hw
      split at h
      · cases h
      · rename_i hin
        have q := hF _ _ _ _ _ _ _ h
        exact ⟨q.1, fun C O L a1 a2 a3 a4 => va_iald C.1 C.2.1 C.2.2.2.2.2.2.2.2.2.1 O.1 a 0 (xtw_get hw) rfl hin hd (q.2 C O L a1 a2 a3 a4)⟩
    · cases h
    · split at h
      · rename_i ha
        subst ha
        split at h
        · cases h
        · rename_i hin
          have q := hF _ _ _ _ _ _ _ h
          exact ⟨q.1, fun C O L a1 a2 a3 a4 => va_ti C.1 C.2.1 C.2.2.2.2.2.2.2.2.2.2.2.2.1 O.2.2.1 hin rfl hd (q.2 C O L a1 a2 a3 a4)⟩
      · cases h
  · cases h
theorem xs_alen (hF : xOkF l D cI cL F) (hd : decode (xb k) pc = .ok (.arraylength, 1)) (h : xalen F k pc ll st w = some (v, w')) : xSnd l D cI cL k pc ll st w v w' := by
  unfold xalen at h
  split at h
  · rename_i a rest
    split at h
    · rename_i n f hw
      have q := hF _ _ _ _ _ _ _ h
      exact ⟨q.1, fun C O L a1 a2 a3 a4 => va_alen C.1 C.2.1 C.2.2.2.2.2.2.2.2.2.1 O.1 a 0 (xtw_get hw) rfl rfl hd (q.2 C O L a1 a2 a3 a4)⟩
    · rename_i n f hw
      have q := hF _ _ _ _ _ _ _ h
      exact ⟨q.1, fun C O L a1 a2 a3 a4 => va_alen C.1 C.2.1 C.2.2.2.2.2.2.2.2.2.1 O.1 a 1 (xtw_get hw) rfl rfl hd (q.2 C O L a1 a2 a3 a4)⟩
    · cases h
    · split at h
      · rename_i ha
        subst ha
        have q := hF _ _ _ _ _ _ _ h
        exact ⟨q.1, fun C O L a1 a2 a3 a4 => va_tlen C.1 C.2.1 C.2.2.2.2.2.2.2.2.2.2.2.2.1 O.2.2.1 rfl hd (q.2 C O L a1 a2 a3 a4)⟩
      · cases h
  · cases h
theorem xs_lald (hF : xOkF l D cI cL F) (hd : decode (xb k) pc = .ok (.laload, 1)) (h : xlald F k pc ll st w = some (v, w')) : xSnd l D cI cL k pc ll st w v w' := by
  unfold xlald at h
  split at h
  · rename_i i a rest
    split at h
    · rename_i n f hw
      split at h
      · cases h
      · rename_i hin
        have q := hF _ _ _ _ _ _ _ h
        exact ⟨q.1, fun C O L a1 a2 a3 a4 => va_lald C.1 C.2.1 C.2.2.2.2.2.2.2.2.2.1 O.1 a 1 (xtw_get hw) rfl hin hd (q.2 C O L a1 a2 a3 a4)⟩
    · cases h
  · cases h
theorem xs_iast (hF : xOkF l D cI cL F) (hd : decode (xb k) pc = .ok (.iastore, 1)) (h : xiast F k pc ll st w = some (v, w')) : xSnd l D cI cL k pc ll st w v w' := by
  unfold xiast at h
  split at h
  · rename_i x i a rest
    split at h
    · rename_i n f hw
      split at h
      · cases h
      · rename_i hin
        have q := hF _ _ _ _ _ _ _ h
        have hm : xsl (w.set a (.inl (.inl (n, upd f i.toNatClampNeg x)))) = xsl w := xsl_set hw rfl
        refine ⟨⟨by have := q.1.1; rw [List.length_set] at this; exact this, by have := q.1.2; rw [hm] at this; exact this⟩, fun {p e s m args below meth c A ad mc ms cells slots N0 S0 H locs ls} C O L a1 a2 a3 a4 => ?_⟩
        refine va_iast C.1 C.2.1 C.2.2.2.2.2.2.2.2.2.1 O.1 O.2.1 O.here a 0 (xtw_get hw) rfl hin hd (fun H1 locs1 hP hD hS => ?_)
        refine x_sz (by have := hS.1; have := O.2.2.2.2.2; omega) (fun hz => ?_)
        exact q.2 (N0 := N0) (S0 := S0) C (O.store (c' := .inl (.inl (n, upd f i.toNatClampNeg x))) hP hD hS hz) L (by rw [List.length_set]; exact a1) a2 (by rw [hm]; exact a3) a4
    · cases h
  · cases h
theorem xs_last (hF : xOkF l D cI cL F) (hd : decode (xb k) pc = .ok (.lastore, 1)) (h : xlast F k pc ll st w = some (v, w')) : xSnd l D cI cL k pc ll st w v w' := by
  unfold xlast at h
  split at h
  · rename_i x i a rest
    split at h
    · rename_i n f hw
      split at h
      · cases h
      · rename_i hin
        have q := hF _ _ _ _ _ _ _ h
        have hm : xsl (w.set a (.inl (.inr (n, vp_updL f i.toNatClampNeg x)))) = xsl w := xsl_set hw rfl
        refine ⟨⟨by have := q.1.1; rw [List.length_set] at this; exact this, by have := q.1.2; rw [hm] at this; exact this⟩, fun {p e s m args below meth c A ad mc ms cells slots N0 S0 H locs ls} C O L a1 a2 a3 a4 => ?_⟩
        refine va_last C.1 C.2.1 C.2.2.2.2.2.2.2.2.2.1 O.1 O.2.1 O.here a 1 (xtw_get hw) rfl hin hd (fun H1 locs1 hP hD hS => ?_)
        refine x_sz (by have := hS.1; have := O.2.2.2.2.2; omega) (fun hz => ?_)
        exact q.2 (N0 := N0) (S0 := S0) C (O.store (c' := .inl (.inr (n, vp_updL f i.toNatClampNeg x))) hP hD hS hz) L (by rw [List.length_set]; exact a1) a2 (by rw [hm]; exact a3) a4
    · cases h
  · cases h
end XM
end
section
/-! NEW CELLS, COPIES, STATICS -/
theorem x_arrI : lw_tbl[221]? = some (.arrayClass .int) := by decide +kernel
theorem x_arrL : lw_tbl[127]? = some (.arrayClass .long) := by decide +kernel
theorem x_vref : ∀ c, c < 15 → (xvs.getD c []).all (fun v => match v with | .ref _ => false | _ => true) = true := by
  have h : (List.range 15).all (fun c => (xvs.getD c []).all (fun v => match v with | .ref _ => false | _ => true)) = true := by decide +kernel
  exact fun c hc => List.all_eq_true.mp h c (List.mem_range.mpr hc)
theorem x_vmap {ci : Nat} (hc : ci < 15) (ad : Nat → Nat) : (xvs.getD ci []).map (xtv ad) = xvs.getD ci [] := by
  have h := x_vref ci hc
  generalize xvs.getD ci [] = L at h ⊢
  induction L with
  | nil => rfl
  | cons v L ih =>
    rw [List.all_cons, Bool.and_eq_true] at h
    rw [List.map_cons, ih h.2]
    congr 1
    cases v <;> first | rfl | cases h.1
theorem x_vdef {ci : Nat} (hc : ci < 15) {j : Nat} (hj : j < xNc ci) : defaultValue (xTy ci j) = vp_V (xvs.getD ci []) j := by
  have hl : j < (xts.getD ci []).length := by rw [x_tlen hc]; exact hj
  rw [← (x_cls hc).2.2.1]
  unfold xTy vp_V
  generalize xts.getD ci [] = L at hl ⊢
  simp [List.getD_eq_getElem?_getD, hl]
section XN
variable {l : Launch} {D : va_G} {cI cL : ClassId} {F : xK} {k pc : Nat} {ll : List (Option Value)} {st : List Value} {w w' : xW} {v : Option Value}
theorem xs_new (hF : xOkF l D cI cL F) {ix : Nat} (hd : decode (xb k) pc = .ok (.new ix, 3)) (h : xnew F k pc ix ll st w = some (v, w')) : xSnd l D cI cL k pc ll st w v w' := by
  unfold xnew at h
  split at h
  · rename_i ci _ _ hs
    split at h
    · cases h
    · rename_i hlt
      have q := hF _ _ _ _ _ _ _ h
      have hm := q.1
      rw [List.length_append, xsl_app] at hm
      simp only [List.length_singleton] at hm
      refine ⟨⟨by omega, by omega⟩, fun {p e s m args below meth c A ad mc ms cells slots N0 S0 H locs ls} C O L a1 a2 a3 a4 => ?_⟩
      have ho := x_ownLt _ C.2.2.2.2.2.2.2.2.1
      have hc := x_ci8 ho hs
      have hv := x_vlen hc
      have hs2 : xsz (.inr (ci, xvs.getD ci [])) = xNc ci := hv
      rw [hs2] at hm
      have hKn := C.2.2.2.2.2.2.2.2.2.1.1 ci _ (x_cl _ hc)
      have hin : ∀ u ∈ u_ws (xcn.getD ci "") (xFc ci) (xNc ci), u ∈ xTs k := fun u hu => List.mem_cons_of_mem _ (xtbl_in ((x_cls hc).1 u hu) (x_good_lays u hu))
      refine W.newcK (C := xcn.getD ci "") (n := xNc ci) C.1 C.2.1 C.2.2.2.2.2.1 (x_word C hs (u := .classLink _ ix _) (by simp [xwords]) rfl) (x_word C hs (u := .instantiable _ _) (by simp [xwords, xNc]) rfl) (x_word C hs (u := .initialized _) (by simp [xwords]) rfl) rfl hd (by show cells + 1 ≤ mc; omega) (by show slots + _ ≤ ms; omega) hKn.2.1 rfl fun H1 kC hkC e1 z1 o1 => ?_
      have hat : va_at D xcl (H.size, xte cI cL ad (.inr (ci, xvs.getD ci []))) H1 := by
        show va_at D xcl (H.size, .inr (ci, (xvs.getD ci []).map (xtv ad))) H1
        rw [x_vmap hc]
        exact ⟨_, x_cl _ hc, (u_born (xTy ci) C.2.2.2.2.2.2.1 hin hKn hkC e1 (x_tyOk hc)).to (fun j hj => x_vdef hc hj)⟩
      obtain ⟨ea, O1⟩ := O.push C.2.2.2.2.2.2.2.2.2.2.1 (by omega) hat z1 o1
      have q2 := q.2 (p := p) (e := e) (below := below) (mc := mc) (ms := ms) (N0 := N0) (S0 := S0) (slots := slots + xNc ci) C O1 L (by rw [List.length_append]; simp; omega) a2 (by rw [xsl_app, hs2]; omega) a4
      rw [List.map_cons, show xtv ad (.ref w.length) = .ref H.size from by rw [← ea]; rfl] at q2
      exact q2
  · cases h
theorem xs_newa (hF : xOkF l D cI cL F) {t : ArrayType} (hd : decode (xb k) pc = .ok (.newarray t, 2)) (h : xnewa F k pc t ll st w = some (v, w')) : xSnd l D cI cL k pc ll st w v w' := by
  unfold xnewa at h
  split at h
  · rename_i n rest
    split at h
    · cases h
    · rename_i hcond
      have hn : ¬ n < 0 := fun z => hcond (Or.inl z)
      have hb : n.toNatClampNeg ≤ 1000000 := Nat.not_lt.mp fun z => hcond (Or.inr (Or.inl z))
      have hlt : w.length + 1 < xP := Nat.not_le.mp fun z => hcond (Or.inr (Or.inr z))
      split at h
      · have q := hF _ _ _ _ _ _ _ h
        have hm := q.1
        rw [List.length_append, xsl_app] at hm
        simp only [List.length_singleton] at hm
        have hs2 : xsz (.inl (.inl (n.toNatClampNeg, fun _ => 0))) = n.toNatClampNeg := rfl
        rw [hs2] at hm
        refine ⟨⟨by omega, by omega⟩, fun {p e s m args below meth c A ad mc ms cells slots N0 S0 H locs ls} C O L a1 a2 a3 a4 => ?_⟩
        have hw1 : (Cond.arrayClass .int).before args s = true := C.2.2.2.2.2.2.1 _ (List.mem_cons_of_mem _ (xtbl_of x_arrI rfl))
        refine va_newaK (atype := .int) (N := n.toNatClampNeg) C.1 C.2.1 hw1 rfl hd rfl hn rfl (by show n.toNatClampNeg * 4 ≤ 536870912; omega) (by show cells + 1 ≤ mc; omega) (by show slots + _ ≤ ms; omega) rfl fun H1 cA e1 z1 o1 hAr hNm => ?_
        have hc1 : s.vm.findClass ("[" ++ FieldType.int.toString) = some cI := (C.2.2.2.2.2.2.2.2.2.1.2 0 _ rfl).2
        have hcc : cA = cI := Option.some.inj (hNm.symm.trans hc1)
        subst hcc
        obtain ⟨ea, O1⟩ := O.push (c' := .inl (.inl (n.toNatClampNeg, fun _ => 0))) C.2.2.2.2.2.2.2.2.2.2.1 hlt e1 z1 o1
        have q2 := q.2 (p := p) (e := e) (below := below) (mc := mc) (ms := ms) (N0 := N0) (S0 := S0) (slots := slots + n.toNatClampNeg) C O1 L (by rw [List.length_append]; simp; omega) a2 (by rw [xsl_app, hs2]; omega) a4
        rw [List.map_cons, show xtv ad (.ref w.length) = .ref H.size from by rw [← ea]; rfl] at q2
        exact q2
      · have q := hF _ _ _ _ _ _ _ h
        have hm := q.1
        rw [List.length_append, xsl_app] at hm
        simp only [List.length_singleton] at hm
        have hs2 : xsz (.inl (.inr (n.toNatClampNeg, fun _ => 0))) = n.toNatClampNeg := rfl
        rw [hs2] at hm
        refine ⟨⟨by omega, by omega⟩, fun {p e s m args below meth c A ad mc ms cells slots N0 S0 H locs ls} C O L a1 a2 a3 a4 => ?_⟩
        have hw1 : (Cond.arrayClass .long).before args s = true := C.2.2.2.2.2.2.1 _ (List.mem_cons_of_mem _ (xtbl_of x_arrL rfl))
        refine va_newaK (atype := .long) (N := n.toNatClampNeg) C.1 C.2.1 hw1 rfl hd rfl hn rfl (by show n.toNatClampNeg * 8 ≤ 536870912; omega) (by show cells + 1 ≤ mc; omega) (by show slots + _ ≤ ms; omega) rfl fun H1 cA e1 z1 o1 hAr hNm => ?_
        have hc1 : s.vm.findClass ("[" ++ FieldType.long.toString) = some cL := (C.2.2.2.2.2.2.2.2.2.1.2 1 _ rfl).2
        have hcc : cA = cL := Option.some.inj (hNm.symm.trans hc1)
        subst hcc
        obtain ⟨ea, O1⟩ := O.push (c' := .inl (.inr (n.toNatClampNeg, fun _ => 0))) C.2.2.2.2.2.2.2.2.2.2.1 hlt e1 z1 o1
        have q2 := q.2 (p := p) (e := e) (below := below) (mc := mc) (ms := ms) (N0 := N0) (S0 := S0) (slots := slots + n.toNatClampNeg) C O1 L (by rw [List.length_append]; simp; omega) a2 (by rw [xsl_app, hs2]; omega) a4
        rw [List.map_cons, show xtv ad (.ref w.length) = .ref H.size from by rw [← ea]; rfl] at q2
        exact q2
      · cases h
  · cases h
theorem xs_gets (hF : xOkF l D cI cL F) {ix : Nat} (hd : decode (xb k) pc = .ok (.getstatic ix, 3)) (h : xgets F k pc ix ll st w = some (v, w')) : xSnd l D cI cL k pc ll st w v w' := by
  unfold xgets at h
  split at h
  · rename_i hs
    have q := hF _ _ _ _ _ _ _ h
    exact ⟨q.1, fun C O L a1 a2 a3 a4 => va_gets (ref := "BernoulliWays") C.1 C.2.1 C.2.2.2.2.2.2.2.2.2.2.2.1 O.2.2.1 C.2.2.2.2.2.1 (x_word C hs (by simp [xwords]) rfl) (fun _ h9 => h9) hd (q.2 C O L a1 a2 a3 a4)⟩
  · rename_i hs
    have q := hF _ _ _ _ _ _ _ h
    exact ⟨q.1, fun C O L a1 a2 a3 a4 => va_getsN (ref := "BernoulliWays") (host := "BernoulliWays") C.1 C.2.1 C.2.2.2.2.2.2.2.2.2.2.2.1 O.2.2.1 C.2.2.2.2.2.1 (va_Nw.use rfl (x_nest C hs (by simp [xwords]) rfl)) (fun _ h9 => h9) hd (q.2 C O L a1 a2 a3 a4)⟩
  · cases h
theorem xs_invI (hF : xOkF l D cI cL F) {ix : Nat} (hk : xown k < 15) (hd : decode (xb k) pc = .ok (.invokespecial ix, 3)) (h : xinvI F k pc ix ll st w = some (v, w')) : xSnd l D cI cL k pc ll st w v w' := by
  unfold xinvI at h
  split at h
  · rename_i z _ hs
    split at h
    · rename_i hlen
      split at h
      · rename_i b rest hdrop
        have hi := x_isInit hk (by omega) hs
        exact xs_I hF hs hi.1 hi.2 hd hlen hdrop h
      · cases h
    · cases h
  · rename_i z _ hs
    split at h
    · rename_i hlen
      split at h
      · rename_i b rest hdrop
        have hi := x_isInit hk (by omega) hs
        exact xs_IN hF hs hi.1 hi.2 hd hlen hdrop h
      · cases h
    · cases h
  · rename_i hs
    split at h
    · rename_i a rest
      split at h
      · rename_i hr
        have q := hF _ _ _ _ _ _ _ h
        refine ⟨q.1, fun {p e s m args below meth c A ad mc ms cells slots N0 S0 H locs ls} C O L a1 a2 a3 a4 => ?_⟩
        refine W.objInit (a := ad a) (rest := rest.map (xtv ad)) C.1 C.2.1 C.2.2.2.2.2.1 (x_word C hs (u := .methodLink _ ix objectInit) (by simp [xwords]) rfl) (x_word C hs (u := .instanceMethod objectInit) (by simp [xwords]) rfl) (x_word C hs (u := .code objectInit ⟨#[0xb1]⟩ 1 none) (by simp [xwords]) rfl) rfl (by rw [C.2.2.2.1]; exact L.1) rfl hd hr.1 (by rw [xtv_cats]; show 2 * 0 + _ + 12 ≤ _; have := hr.2; show _ ≤ xlo k; omega) (q.2 C O L a1 a2 a3 a4)
      · cases h
    · cases h
  · cases h
end XN
end
section
/-! THE PURE MACHINE IS SOUND -/
section XC
variable {l : Launch} {D : va_G} {cI cL : ClassId} {F : xK} {k pc : Nat} {ll : List (Option Value)} {st : List Value} {w w' : xW} {v : Option Value}
theorem xs_invS (hF : xOkF l D cI cL F) {ix : Nat} (hd : decode (xb k) pc = .ok (.invokestatic ix, 3)) (h : xinvS F k pc ix ll st w = some (v, w')) : xSnd l D cI cL k pc ll st w v w' := by
  unfold xinvS at h
  split at h
  · rename_i z _ hs
    split at h
    · rename_i hlen
      exact xs_S hF hs hd hlen h
    · cases h
  · rename_i z _ hs
    split at h
    · rename_i hlen
      exact xs_SN hF hs hd hlen h
    · cases h
  · rename_i hs
    split at h
    · rename_i n dp d sp a rest
      split at h
      · cases h
      · rename_i hcond
        have g1 : ¬ n < 0 := fun z => hcond (Or.inl z)
        have g2 : ¬ dp < 0 := fun z => hcond (Or.inr (Or.inl z))
        have g3 : ¬ sp < 0 := fun z => hcond (Or.inr (Or.inr (Or.inl z)))
        have g4 : 1 ≤ xfr k := Nat.not_lt.mp fun z => hcond (Or.inr (Or.inr (Or.inr (Or.inl z))))
        have g5 : (rest.map fun v => v.category).sum + 18 ≤ xlo k := Nat.not_lt.mp fun z => hcond (Or.inr (Or.inr (Or.inr (Or.inr z))))
        split at h
        · rename_i n0 f n1 g hwa hwd
          split at h
          · rename_i hin
            have q := hF _ _ _ _ _ _ _ h
            have hm : xsl (w.set d (.inl (.inl (n1, va_cpy f g sp.toNatClampNeg dp.toNatClampNeg n.toNatClampNeg)))) = xsl w := xsl_set hwd rfl
            refine ⟨⟨by have := q.1.1; rw [List.length_set] at this; exact this, by have := q.1.2; rw [hm] at this; exact this⟩, fun {p e s m args below meth c A ad mc ms cells slots N0 S0 H locs ls} C O L a1 a2 a3 a4 => ?_⟩
            refine va_copyi (ty := .int) (rest := rest.map (xtv ad)) C.1 C.2.1 (by rw [C.2.2.2.1]; exact L.1.symm) C.2.2.2.2.2.1 (x_word C hs (u := .methodLink _ ix arraycopyName) (by simp [xwords]) rfl) (x_word C hs (u := .native arraycopyName) (by simp [xwords]) rfl) (x_word C hs (u := .static arraycopyName) (by simp [xwords]) rfl) (x_word C hs (u := .initialized "java/lang/System") (by simp [xwords]) rfl) C.2.2.2.2.2.2.2.2.2.1 O.1 O.2.1 O.here a d 0 0 (xtw_get hwa) (xtw_get hwd) rfl rfl rfl g3 g2 g1 hin.1 hin.2 (fun i _ => rfl) g4 ?_ hd (fun H1 locs1 hP hD hS => ?_)
            · rw [xtv_cats]
              show _ + (7 + 11) ≤ xlo k
              omega
            · refine x_sz (by have := hS.1; have := O.2.2.2.2.2; omega) (fun hz => ?_)
              exact q.2 (N0 := N0) (S0 := S0) C (O.store (c' := .inl (.inl (n1, va_cpy f g sp.toNatClampNeg dp.toNatClampNeg n.toNatClampNeg))) hP hD hS hz) L (by rw [List.length_set]; exact a1) a2 (by rw [hm]; exact a3) a4
          · cases h
        · rename_i n0 f n1 g hwa hwd
          split at h
          · rename_i hin
            have q := hF _ _ _ _ _ _ _ h
            have hm : xsl (w.set d (.inl (.inr (n1, va_cpy f g sp.toNatClampNeg dp.toNatClampNeg n.toNatClampNeg)))) = xsl w := xsl_set hwd rfl
            refine ⟨⟨by have := q.1.1; rw [List.length_set] at this; exact this, by have := q.1.2; rw [hm] at this; exact this⟩, fun {p e s m args below meth c A ad mc ms cells slots N0 S0 H locs ls} C O L a1 a2 a3 a4 => ?_⟩
            refine va_copyl (ty := .long) (rest := rest.map (xtv ad)) C.1 C.2.1 (by rw [C.2.2.2.1]; exact L.1.symm) C.2.2.2.2.2.1 (x_word C hs (u := .methodLink _ ix arraycopyName) (by simp [xwords]) rfl) (x_word C hs (u := .native arraycopyName) (by simp [xwords]) rfl) (x_word C hs (u := .static arraycopyName) (by simp [xwords]) rfl) (x_word C hs (u := .initialized "java/lang/System") (by simp [xwords]) rfl) C.2.2.2.2.2.2.2.2.2.1 O.1 O.2.1 O.here a d 1 1 (xtw_get hwa) (xtw_get hwd) rfl rfl rfl g3 g2 g1 hin.1 hin.2 (fun i _ => rfl) g4 ?_ hd (fun H1 locs1 hP hD hS => ?_)
            · rw [xtv_cats]
              show _ + (7 + 11) ≤ xlo k
              omega
            · refine x_sz (by have := hS.1; have := O.2.2.2.2.2; omega) (fun hz => ?_)
              exact q.2 (N0 := N0) (S0 := S0) C (O.store (c' := .inl (.inr (n1, va_cpy f g sp.toNatClampNeg dp.toNatClampNeg n.toNatClampNeg))) hP hD hS hz) L (by rw [List.length_set]; exact a1) a2 (by rw [hm]; exact a3) a4
          · cases h
        · cases h
    · cases h
  · cases h
theorem xs_jump (hF : xOkF l D cI cL F) {off : Int} (h : xjump F k pc off ll st w = some (v, w')) : (pc : Int) + off = (xtgt pc off : Int) ∧ xSnd l D cI cL k (xtgt pc off) ll st w v w' := by
  unfold xjump at h
  split at h
  · rename_i hz
    exact ⟨(Int.toNat_of_nonneg hz).symm, hF _ _ _ _ _ _ _ h⟩
  · cases h
theorem xs_br (hF : xOkF l D cI cL F) {off : Int} {cnd : Prop} [Decidable cnd] (h : xbr F (decide cnd) k pc off ll st w = some (v, w')) : (pc : Int) + off = (xtgt pc off : Int) ∧ (cnd ∧ xSnd l D cI cL k (xtgt pc off) ll st w v w' ∨ ¬ cnd ∧ xSnd l D cI cL k (pc + 3) ll st w v w') := by
  unfold xbr at h
  by_cases hz : 0 ≤ (pc : Int) + off
  · rw [if_pos hz] at h
    refine ⟨(Int.toNat_of_nonneg hz).symm, ?_⟩
    by_cases hc : cnd
    · rw [if_pos (decide_eq_true hc)] at h
      exact Or.inl ⟨hc, hF _ _ _ _ _ _ _ h⟩
    · rw [if_neg (by simpa using hc)] at h
      exact Or.inr ⟨hc, hF _ _ _ _ _ _ _ h⟩
  · rw [if_neg hz] at h
    cases h
theorem x_ins (hF : xOkF l D cI cL F) {i : Instr} {len : Nat} (hk : xown k < 15) (hd : decode (xb k) pc = .ok (i, len)) (h : xins F k pc ll st w i len = some (v, w')) : xSnd l D cI cL k pc ll st w v w' := by
  cases i with
  | iconst n =>
    unfold xins at h
    dsimp only at h
    by_cases hl : len = 1
    · subst hl
      rw [if_pos rfl] at h
      have q := hF _ _ _ _ _ _ _ h
      exact ⟨q.1, fun C O L a1 a2 a3 a4 => lv_iconst C.1 C.2.1 hd rfl (q.2 C O L a1 a2 a3 a4)⟩
    · rw [if_neg hl] at h
      cases h
  | bipush n =>
    unfold xins at h
    dsimp only at h
    by_cases hl : len = 2
    · subst hl
      rw [if_pos rfl] at h
      have q := hF _ _ _ _ _ _ _ h
      exact ⟨q.1, fun C O L a1 a2 a3 a4 => lv_bipush C.1 C.2.1 hd rfl (q.2 C O L a1 a2 a3 a4)⟩
    · rw [if_neg hl] at h
      cases h
  | sipush n =>
    unfold xins at h
    dsimp only at h
    by_cases hl : len = 3
    · subst hl
      rw [if_pos rfl] at h
      have q := hF _ _ _ _ _ _ _ h
      exact ⟨q.1, fun C O L a1 a2 a3 a4 => lv_sipush C.1 C.2.1 hd rfl (q.2 C O L a1 a2 a3 a4)⟩
    · rw [if_neg hl] at h
      cases h
  | lconst n =>
    unfold xins at h
    dsimp only at h
    by_cases hl : len = 1
    · subst hl
      rw [if_pos rfl] at h
      have q := hF _ _ _ _ _ _ _ h
      exact ⟨q.1, fun C O L a1 a2 a3 a4 => lv_lconst C.1 C.2.1 hd rfl (q.2 C O L a1 a2 a3 a4)⟩
    · rw [if_neg hl] at h
      cases h
  | ldc ix =>
    unfold xins at h
    dsimp only at h
    by_cases hl : len = 2
    · subst hl
      rw [if_pos rfl] at h
      split at h
      · rename_i x hs
        have q := hF _ _ _ _ _ _ _ h
        exact ⟨q.1, fun C O L a1 a2 a3 a4 => lv_ldc C.1 C.2.1 C.2.2.2.2.2.1 (x_word C hs (by simp [xwords]) rfl) hd (q.2 C O L a1 a2 a3 a4)⟩
      · cases h
    · rw [if_neg hl] at h
      cases h
  | ldc_w ix =>
    unfold xins at h
    dsimp only at h
    by_cases hl : len = 3
    · subst hl
      rw [if_pos rfl] at h
      split at h
      · rename_i x hs
        have q := hF _ _ _ _ _ _ _ h
        exact ⟨q.1, fun C O L a1 a2 a3 a4 => lv_ldcw C.1 C.2.1 C.2.2.2.2.2.1 (x_word C hs (by simp [xwords]) rfl) hd (q.2 C O L a1 a2 a3 a4)⟩
      · cases h
    · rw [if_neg hl] at h
      cases h
  | ldc2_w ix =>
    unfold xins at h
    dsimp only at h
    by_cases hl : len = 3
    · subst hl
      rw [if_pos rfl] at h
      split at h
      · rename_i x hs
        have q := hF _ _ _ _ _ _ _ h
        exact ⟨q.1, fun C O L a1 a2 a3 a4 => lv_ldc2 C.1 C.2.1 C.2.2.2.2.2.1 (x_word C hs (by simp [xwords]) rfl) hd (q.2 C O L a1 a2 a3 a4)⟩
      · cases h
    · rw [if_neg hl] at h
      cases h
  | iload_n n =>
    unfold xins at h
    dsimp only at h
    by_cases hl : len = 1
    · subst hl
      rw [if_pos rfl] at h
      unfold xild at h
      split at h
      · rename_i x hx
        have q := hF _ _ _ _ _ _ _ h
        exact ⟨q.1, fun C O L a1 a2 a3 a4 => lv_iload_n C.1 C.2.1 hd rfl (L.get hx) (q.2 C O L a1 a2 a3 a4)⟩
      · cases h
    · rw [if_neg hl] at h
      cases h
  | iload n =>
    unfold xins at h
    dsimp only at h
    by_cases hl : len = 2
    · subst hl
      rw [if_pos rfl] at h
      unfold xild at h
      split at h
      · rename_i x hx
        have q := hF _ _ _ _ _ _ _ h
        exact ⟨q.1, fun C O L a1 a2 a3 a4 => lv_iload C.1 C.2.1 hd (L.get hx) (q.2 C O L a1 a2 a3 a4)⟩
      · cases h
    · rw [if_neg hl] at h
      cases h
  | lload_n n =>
    unfold xins at h
    dsimp only at h
    by_cases hl : len = 1
    · subst hl
      rw [if_pos rfl] at h
      unfold xlld at h
      split at h
      · rename_i x hx
        have q := hF _ _ _ _ _ _ _ h
        exact ⟨q.1, fun C O L a1 a2 a3 a4 => lv_lload_n C.1 C.2.1 hd rfl (L.get hx) (q.2 C O L a1 a2 a3 a4)⟩
      · cases h
    · rw [if_neg hl] at h
      cases h
  | lload n =>
    unfold xins at h
    dsimp only at h
    by_cases hl : len = 2
    · subst hl
      rw [if_pos rfl] at h
      unfold xlld at h
      split at h
      · rename_i x hx
        have q := hF _ _ _ _ _ _ _ h
        exact ⟨q.1, fun C O L a1 a2 a3 a4 => lv_lload C.1 C.2.1 hd (L.get hx) (q.2 C O L a1 a2 a3 a4)⟩
      · cases h
    · rw [if_neg hl] at h
      cases h
  | aload_n n =>
    unfold xins at h
    dsimp only at h
    by_cases hl : len = 1
    · subst hl
      rw [if_pos rfl] at h
      unfold xaldr at h
      split at h
      · rename_i x hx
        have q := hF _ _ _ _ _ _ _ h
        exact ⟨q.1, fun C O L a1 a2 a3 a4 => lv_aload_n C.1 C.2.1 hd rfl (L.get hx) (q.2 C O L a1 a2 a3 a4)⟩
      · cases h
    · rw [if_neg hl] at h
      cases h
  | aload n =>
    unfold xins at h
    dsimp only at h
    by_cases hl : len = 2
    · subst hl
      rw [if_pos rfl] at h
      unfold xaldr at h
      split at h
      · rename_i x hx
        have q := hF _ _ _ _ _ _ _ h
        exact ⟨q.1, fun C O L a1 a2 a3 a4 => lv_aload C.1 C.2.1 hd (L.get hx) (q.2 C O L a1 a2 a3 a4)⟩
      · cases h
    · rw [if_neg hl] at h
      cases h
  | istore_n n =>
    unfold xins at h
    dsimp only at h
    by_cases hl : len = 1
    · subst hl
      rw [if_pos rfl] at h
      unfold xis at h
      split at h
      · rename_i x rest
        split at h
        · rename_i hn
          have q := hF _ _ _ _ _ _ _ h
          exact ⟨q.1, fun C O L a1 a2 a3 a4 => lv_istore_n C.1 C.2.1 hd rfl L.has hn rfl (fun ls1 hl1 => q.2 C O (xLoc.st1 (v := .int x) rfl hl1) a1 a2 a3 a4)⟩
        · cases h
      · cases h
    · rw [if_neg hl] at h
      cases h
  | istore n =>
    unfold xins at h
    dsimp only at h
    by_cases hl : len = 2
    · subst hl
      rw [if_pos rfl] at h
      unfold xis at h
      split at h
      · rename_i x rest
        split at h
        · rename_i hn
          have q := hF _ _ _ _ _ _ _ h
          exact ⟨q.1, fun C O L a1 a2 a3 a4 => lv_istore C.1 C.2.1 hd L.has hn rfl (fun ls1 hl1 => q.2 C O (xLoc.st1 (v := .int x) rfl hl1) a1 a2 a3 a4)⟩
        · cases h
      · cases h
    · rw [if_neg hl] at h
      cases h
  | astore_n n =>
    unfold xins at h
    dsimp only at h
    by_cases hl : len = 1
    · subst hl
      rw [if_pos rfl] at h
      unfold xas at h
      split at h
      · rename_i x rest
        split at h
        · rename_i hn
          have q := hF _ _ _ _ _ _ _ h
          exact ⟨q.1, fun C O L a1 a2 a3 a4 => lv_astore_n C.1 C.2.1 hd rfl L.has hn rfl (fun ls1 hl1 => q.2 C O (xLoc.st1 (v := .ref x) rfl hl1) a1 a2 a3 a4)⟩
        · cases h
      · cases h
    · rw [if_neg hl] at h
      cases h
  | astore n =>
    unfold xins at h
    dsimp only at h
    by_cases hl : len = 2
    · subst hl
      rw [if_pos rfl] at h
      unfold xas at h
      split at h
      · rename_i x rest
        split at h
        · rename_i hn
          have q := hF _ _ _ _ _ _ _ h
          exact ⟨q.1, fun C O L a1 a2 a3 a4 => lv_astore C.1 C.2.1 hd L.has hn rfl (fun ls1 hl1 => q.2 C O (xLoc.st1 (v := .ref x) rfl hl1) a1 a2 a3 a4)⟩
        · cases h
      · cases h
    · rw [if_neg hl] at h
      cases h
  | lstore_n n =>
    unfold xins at h
    dsimp only at h
    by_cases hl : len = 1
    · subst hl
      rw [if_pos rfl] at h
      unfold xls at h
      split at h
      · rename_i x rest
        split at h
        · rename_i hn
          have q := hF _ _ _ _ _ _ _ h
          exact ⟨q.1, fun C O L a1 a2 a3 a4 => lv_lstore_n C.1 C.2.1 hd rfl L.has hn rfl (fun ls1 hl1 => q.2 C O (xLoc.st2 (v := .long x) rfl hl1) a1 a2 a3 a4)⟩
        · cases h
      · cases h
    · rw [if_neg hl] at h
      cases h
  | lstore n =>
    unfold xins at h
    dsimp only at h
    by_cases hl : len = 2
    · subst hl
      rw [if_pos rfl] at h
      unfold xls at h
      split at h
      · rename_i x rest
        split at h
        · rename_i hn
          have q := hF _ _ _ _ _ _ _ h
          exact ⟨q.1, fun C O L a1 a2 a3 a4 => lv_lstore C.1 C.2.1 hd L.has hn rfl (fun ls1 hl1 => q.2 C O (xLoc.st2 (v := .long x) rfl hl1) a1 a2 a3 a4)⟩
        · cases h
      · cases h
    · rw [if_neg hl] at h
      cases h
  | iinc n d =>
    unfold xins at h
    dsimp only at h
    by_cases hl : len = 3
    · subst hl
      rw [if_pos rfl] at h
      unfold xinc at h
      split at h
      · rename_i x hx
        split at h
        · rename_i hn
          have q := hF _ _ _ _ _ _ _ h
          refine ⟨q.1, fun {p e s m args below meth c A ad mc ms cells slots N0 S0 H locs ls} C O L a1 a2 a3 a4 => ?_⟩
          obtain ⟨j, hj⟩ := List.getElem?_of_mem (xasc_mem (ad := ad) hx)
          exact lv_iinc C.1 C.2.1 hd L.has hj rfl hn rfl (fun ls1 hl1 => q.2 C O (xLoc.st1 (v := .int (x + Int32.ofInt d)) rfl hl1) a1 a2 a3 a4)
        · cases h
      · cases h
    · rw [if_neg hl] at h
      cases h
  | iadd =>
    unfold xins at h
    dsimp only at h
    by_cases hl : len = 1
    · subst hl
      rw [if_pos rfl] at h
      unfold xi2 at h
      split at h
      · rename_i y x rest
        have q := hF _ _ _ _ _ _ _ h
        exact ⟨q.1, fun C O L a1 a2 a3 a4 => lv_iadd C.1 C.2.1 hd (q.2 C O L a1 a2 a3 a4)⟩
      · cases h
    · rw [if_neg hl] at h
      cases h
  | isub =>
    unfold xins at h
    dsimp only at h
    by_cases hl : len = 1
    · subst hl
      rw [if_pos rfl] at h
      unfold xi2 at h
      split at h
      · rename_i y x rest
        have q := hF _ _ _ _ _ _ _ h
        exact ⟨q.1, fun C O L a1 a2 a3 a4 => lv_isub C.1 C.2.1 hd (q.2 C O L a1 a2 a3 a4)⟩
      · cases h
    · rw [if_neg hl] at h
      cases h
  | imul =>
    unfold xins at h
    dsimp only at h
    by_cases hl : len = 1
    · subst hl
      rw [if_pos rfl] at h
      unfold xi2 at h
      split at h
      · rename_i y x rest
        have q := hF _ _ _ _ _ _ _ h
        exact ⟨q.1, fun C O L a1 a2 a3 a4 => lv_imul C.1 C.2.1 hd (q.2 C O L a1 a2 a3 a4)⟩
      · cases h
    · rw [if_neg hl] at h
      cases h
  | iand =>
    unfold xins at h
    dsimp only at h
    by_cases hl : len = 1
    · subst hl
      rw [if_pos rfl] at h
      unfold xi2 at h
      split at h
      · rename_i y x rest
        have q := hF _ _ _ _ _ _ _ h
        exact ⟨q.1, fun C O L a1 a2 a3 a4 => lv_iand C.1 C.2.1 hd (q.2 C O L a1 a2 a3 a4)⟩
      · cases h
    · rw [if_neg hl] at h
      cases h
  | ior =>
    unfold xins at h
    dsimp only at h
    by_cases hl : len = 1
    · subst hl
      rw [if_pos rfl] at h
      unfold xi2 at h
      split at h
      · rename_i y x rest
        have q := hF _ _ _ _ _ _ _ h
        exact ⟨q.1, fun C O L a1 a2 a3 a4 => lv_ior C.1 C.2.1 hd (q.2 C O L a1 a2 a3 a4)⟩
      · cases h
    · rw [if_neg hl] at h
      cases h
  | ishr =>
    unfold xins at h
    dsimp only at h
    by_cases hl : len = 1
    · subst hl
      rw [if_pos rfl] at h
      unfold xi2 at h
      split at h
      · rename_i y x rest
        have q := hF _ _ _ _ _ _ _ h
        exact ⟨q.1, fun C O L a1 a2 a3 a4 => lv_ishr C.1 C.2.1 hd (q.2 C O L a1 a2 a3 a4)⟩
      · cases h
    · rw [if_neg hl] at h
      cases h
  | ladd =>
    unfold xins at h
    dsimp only at h
    by_cases hl : len = 1
    · subst hl
      rw [if_pos rfl] at h
      unfold xl2 at h
      split at h
      · rename_i y x rest
        have q := hF _ _ _ _ _ _ _ h
        exact ⟨q.1, fun C O L a1 a2 a3 a4 => lv_ladd C.1 C.2.1 hd (q.2 C O L a1 a2 a3 a4)⟩
      · cases h
    · rw [if_neg hl] at h
      cases h
  | lsub =>
    unfold xins at h
    dsimp only at h
    by_cases hl : len = 1
    · subst hl
      rw [if_pos rfl] at h
      unfold xl2 at h
      split at h
      · rename_i y x rest
        have q := hF _ _ _ _ _ _ _ h
        exact ⟨q.1, fun C O L a1 a2 a3 a4 => lv_lsub C.1 C.2.1 hd (q.2 C O L a1 a2 a3 a4)⟩
      · cases h
    · rw [if_neg hl] at h
      cases h
  | lmul =>
    unfold xins at h
    dsimp only at h
    by_cases hl : len = 1
    · subst hl
      rw [if_pos rfl] at h
      unfold xl2 at h
      split at h
      · rename_i y x rest
        have q := hF _ _ _ _ _ _ _ h
        exact ⟨q.1, fun C O L a1 a2 a3 a4 => lv_lmul C.1 C.2.1 hd (q.2 C O L a1 a2 a3 a4)⟩
      · cases h
    · rw [if_neg hl] at h
      cases h
  | land =>
    unfold xins at h
    dsimp only at h
    by_cases hl : len = 1
    · subst hl
      rw [if_pos rfl] at h
      unfold xl2 at h
      split at h
      · rename_i y x rest
        have q := hF _ _ _ _ _ _ _ h
        exact ⟨q.1, fun C O L a1 a2 a3 a4 => lv_land C.1 C.2.1 hd (q.2 C O L a1 a2 a3 a4)⟩
      · cases h
    · rw [if_neg hl] at h
      cases h
  | lor =>
    unfold xins at h
    dsimp only at h
    by_cases hl : len = 1
    · subst hl
      rw [if_pos rfl] at h
      unfold xl2 at h
      split at h
      · rename_i y x rest
        have q := hF _ _ _ _ _ _ _ h
        exact ⟨q.1, fun C O L a1 a2 a3 a4 => lv_lor C.1 C.2.1 hd (q.2 C O L a1 a2 a3 a4)⟩
      · cases h
    · rw [if_neg hl] at h
      cases h
  | lxor =>
    unfold xins at h
    dsimp only at h
    by_cases hl : len = 1
    · subst hl
      rw [if_pos rfl] at h
      unfold xl2 at h
      split at h
      · rename_i y x rest
        have q := hF _ _ _ _ _ _ _ h
        exact ⟨q.1, fun C O L a1 a2 a3 a4 => lv_lxor C.1 C.2.1 hd (q.2 C O L a1 a2 a3 a4)⟩
      · cases h
    · rw [if_neg hl] at h
      cases h
  | idiv =>
    unfold xins at h
    dsimp only at h
    by_cases hl : len = 1
    · subst hl
      rw [if_pos rfl] at h
      unfold xid at h
      split at h
      · rename_i y x rest
        split at h
        · cases h
        · rename_i hy
          have q := hF _ _ _ _ _ _ _ h
          exact ⟨q.1, fun C O L a1 a2 a3 a4 => lv_idiv C.1 C.2.1 hd hy (q.2 C O L a1 a2 a3 a4)⟩
      · cases h
    · rw [if_neg hl] at h
      cases h
  | irem =>
    unfold xins at h
    dsimp only at h
    by_cases hl : len = 1
    · subst hl
      rw [if_pos rfl] at h
      unfold xid at h
      split at h
      · rename_i y x rest
        split at h
        · cases h
        · rename_i hy
          have q := hF _ _ _ _ _ _ _ h
          exact ⟨q.1, fun C O L a1 a2 a3 a4 => lv_irem C.1 C.2.1 hd hy (q.2 C O L a1 a2 a3 a4)⟩
      · cases h
    · rw [if_neg hl] at h
      cases h
  | ldiv =>
    unfold xins at h
    dsimp only at h
    by_cases hl : len = 1
    · subst hl
      rw [if_pos rfl] at h
      unfold xld at h
      split at h
      · rename_i y x rest
        split at h
        · cases h
        · rename_i hy
          have q := hF _ _ _ _ _ _ _ h
          exact ⟨q.1, fun C O L a1 a2 a3 a4 => lv_ldiv C.1 C.2.1 hd hy (q.2 C O L a1 a2 a3 a4)⟩
      · cases h
    · rw [if_neg hl] at h
      cases h
  | lrem =>
    unfold xins at h
    dsimp only at h
    by_cases hl : len = 1
    · subst hl
      rw [if_pos rfl] at h
      unfold xld at h
      split at h
      · rename_i y x rest
        split at h
        · cases h
        · rename_i hy
          have q := hF _ _ _ _ _ _ _ h
          exact ⟨q.1, fun C O L a1 a2 a3 a4 => lv_lrem C.1 C.2.1 hd hy (q.2 C O L a1 a2 a3 a4)⟩
      · cases h
    · rw [if_neg hl] at h
      cases h
  | lshl =>
    unfold xins at h
    dsimp only at h
    by_cases hl : len = 1
    · subst hl
      rw [if_pos rfl] at h
      unfold xlsh at h
      split at h
      · rename_i y x rest
        have q := hF _ _ _ _ _ _ _ h
        exact ⟨q.1, fun C O L a1 a2 a3 a4 => lv_lshl C.1 C.2.1 hd rfl (q.2 C O L a1 a2 a3 a4)⟩
      · cases h
    · rw [if_neg hl] at h
      cases h
  | lshr =>
    unfold xins at h
    dsimp only at h
    by_cases hl : len = 1
    · subst hl
      rw [if_pos rfl] at h
      unfold xlsh at h
      split at h
      · rename_i y x rest
        have q := hF _ _ _ _ _ _ _ h
        exact ⟨q.1, fun C O L a1 a2 a3 a4 => lv_lshr C.1 C.2.1 hd rfl (q.2 C O L a1 a2 a3 a4)⟩
      · cases h
    · rw [if_neg hl] at h
      cases h
  | ineg =>
    unfold xins at h
    dsimp only at h
    by_cases hl : len = 1
    · subst hl
      rw [if_pos rfl] at h
      split at h
      · rename_i x rest
        have q := hF _ _ _ _ _ _ _ h
        exact ⟨q.1, fun C O L a1 a2 a3 a4 => lv_ineg C.1 C.2.1 hd (q.2 C O L a1 a2 a3 a4)⟩
      · cases h
    · rw [if_neg hl] at h
      cases h
  | lneg =>
    unfold xins at h
    dsimp only at h
    by_cases hl : len = 1
    · subst hl
      rw [if_pos rfl] at h
      split at h
      · rename_i x rest
        have q := hF _ _ _ _ _ _ _ h
        exact ⟨q.1, fun C O L a1 a2 a3 a4 => lv_lneg C.1 C.2.1 hd (q.2 C O L a1 a2 a3 a4)⟩
      · cases h
    · rw [if_neg hl] at h
      cases h
  | i2l =>
    unfold xins at h
    dsimp only at h
    by_cases hl : len = 1
    · subst hl
      rw [if_pos rfl] at h
      split at h
      · rename_i x rest
        have q := hF _ _ _ _ _ _ _ h
        exact ⟨q.1, fun C O L a1 a2 a3 a4 => lv_i2l C.1 C.2.1 hd rfl (q.2 C O L a1 a2 a3 a4)⟩
      · cases h
    · rw [if_neg hl] at h
      cases h
  | l2i =>
    unfold xins at h
    dsimp only at h
    by_cases hl : len = 1
    · subst hl
      rw [if_pos rfl] at h
      split at h
      · rename_i x rest
        have q := hF _ _ _ _ _ _ _ h
        exact ⟨q.1, fun C O L a1 a2 a3 a4 => lv_l2i C.1 C.2.1 hd rfl (q.2 C O L a1 a2 a3 a4)⟩
      · cases h
    · rw [if_neg hl] at h
      cases h
  | lcmp =>
    unfold xins at h
    dsimp only at h
    by_cases hl : len = 1
    · subst hl
      rw [if_pos rfl] at h
      split at h
      · rename_i y x rest
        have q := hF _ _ _ _ _ _ _ h
        exact ⟨q.1, fun C O L a1 a2 a3 a4 => W.lcmp C.1 C.2.1 hd (q.2 C O L a1 a2 a3 a4)⟩
      · cases h
    · rw [if_neg hl] at h
      cases h
  | ifCond cn off =>
    unfold xins at h
    dsimp only at h
    by_cases hl : len = 3
    · subst hl
      rw [if_pos rfl] at h
      split at h
      · rename_i x rest
        cases cn with
        | eq =>
          obtain ⟨ht, ⟨hc, q⟩ | ⟨hc, q⟩⟩ := xs_br hF h
          · exact ⟨q.1, fun C O L a1 a2 a3 a4 => lv_if_eq C.1 C.2.1 hd ht (fun _ => q.2 C O L a1 a2 a3 a4) (fun z => absurd hc z)⟩
          · exact ⟨q.1, fun C O L a1 a2 a3 a4 => lv_if_eq C.1 C.2.1 hd ht (fun z => absurd z hc) (fun _ => q.2 C O L a1 a2 a3 a4)⟩
        | ne =>
          obtain ⟨ht, ⟨hc, q⟩ | ⟨hc, q⟩⟩ := xs_br hF h
          · exact ⟨q.1, fun C O L a1 a2 a3 a4 => lv_if_ne C.1 C.2.1 hd ht (fun _ => q.2 C O L a1 a2 a3 a4) (fun z => absurd z hc)⟩
          · exact ⟨q.1, fun C O L a1 a2 a3 a4 => lv_if_ne C.1 C.2.1 hd ht (fun z => absurd z hc) (fun _ => q.2 C O L a1 a2 a3 a4)⟩
        | lt =>
          obtain ⟨ht, ⟨hc, q⟩ | ⟨hc, q⟩⟩ := xs_br hF h
          · exact ⟨q.1, fun C O L a1 a2 a3 a4 => lv_if_lt C.1 C.2.1 hd ht (fun _ => q.2 C O L a1 a2 a3 a4) (fun z => absurd hc z)⟩
          · exact ⟨q.1, fun C O L a1 a2 a3 a4 => lv_if_lt C.1 C.2.1 hd ht (fun z => absurd z hc) (fun _ => q.2 C O L a1 a2 a3 a4)⟩
        | ge =>
          obtain ⟨ht, ⟨hc, q⟩ | ⟨hc, q⟩⟩ := xs_br hF h
          · exact ⟨q.1, fun C O L a1 a2 a3 a4 => lv_if_ge C.1 C.2.1 hd ht (fun _ => q.2 C O L a1 a2 a3 a4) (fun z => absurd hc z)⟩
          · exact ⟨q.1, fun C O L a1 a2 a3 a4 => lv_if_ge C.1 C.2.1 hd ht (fun z => absurd z hc) (fun _ => q.2 C O L a1 a2 a3 a4)⟩
        | gt =>
          obtain ⟨ht, ⟨hc, q⟩ | ⟨hc, q⟩⟩ := xs_br hF h
          · exact ⟨q.1, fun C O L a1 a2 a3 a4 => lv_if_gt C.1 C.2.1 hd ht (fun _ => q.2 C O L a1 a2 a3 a4) (fun z => absurd hc z)⟩
          · exact ⟨q.1, fun C O L a1 a2 a3 a4 => lv_if_gt C.1 C.2.1 hd ht (fun z => absurd z hc) (fun _ => q.2 C O L a1 a2 a3 a4)⟩
        | le =>
          obtain ⟨ht, ⟨hc, q⟩ | ⟨hc, q⟩⟩ := xs_br hF h
          · exact ⟨q.1, fun C O L a1 a2 a3 a4 => lv_if_le C.1 C.2.1 hd ht (fun _ => q.2 C O L a1 a2 a3 a4) (fun z => absurd hc z)⟩
          · exact ⟨q.1, fun C O L a1 a2 a3 a4 => lv_if_le C.1 C.2.1 hd ht (fun z => absurd z hc) (fun _ => q.2 C O L a1 a2 a3 a4)⟩
      · cases h
    · rw [if_neg hl] at h
      cases h
  | if_icmp cn off =>
    unfold xins at h
    dsimp only at h
    by_cases hl : len = 3
    · subst hl
      rw [if_pos rfl] at h
      split at h
      · rename_i y x rest
        cases cn with
        | eq =>
          obtain ⟨ht, ⟨hc, q⟩ | ⟨hc, q⟩⟩ := xs_br hF h
          · exact ⟨q.1, fun C O L a1 a2 a3 a4 => lv_icmp_eq C.1 C.2.1 hd ht (fun _ => q.2 C O L a1 a2 a3 a4) (fun z => absurd hc z)⟩
          · exact ⟨q.1, fun C O L a1 a2 a3 a4 => lv_icmp_eq C.1 C.2.1 hd ht (fun z => absurd z hc) (fun _ => q.2 C O L a1 a2 a3 a4)⟩
        | ne =>
          obtain ⟨ht, ⟨hc, q⟩ | ⟨hc, q⟩⟩ := xs_br hF h
          · exact ⟨q.1, fun C O L a1 a2 a3 a4 => lv_icmp_ne C.1 C.2.1 hd ht (fun _ => q.2 C O L a1 a2 a3 a4) (fun z => absurd z hc)⟩
          · exact ⟨q.1, fun C O L a1 a2 a3 a4 => lv_icmp_ne C.1 C.2.1 hd ht (fun z => absurd z hc) (fun _ => q.2 C O L a1 a2 a3 a4)⟩
        | lt =>
          obtain ⟨ht, ⟨hc, q⟩ | ⟨hc, q⟩⟩ := xs_br hF h
          · exact ⟨q.1, fun C O L a1 a2 a3 a4 => lv_icmp_lt C.1 C.2.1 hd ht (fun _ => q.2 C O L a1 a2 a3 a4) (fun z => absurd hc z)⟩
          · exact ⟨q.1, fun C O L a1 a2 a3 a4 => lv_icmp_lt C.1 C.2.1 hd ht (fun z => absurd z hc) (fun _ => q.2 C O L a1 a2 a3 a4)⟩
        | ge =>
          obtain ⟨ht, ⟨hc, q⟩ | ⟨hc, q⟩⟩ := xs_br hF h
          · exact ⟨q.1, fun C O L a1 a2 a3 a4 => lv_icmp_ge C.1 C.2.1 hd ht (fun _ => q.2 C O L a1 a2 a3 a4) (fun z => absurd hc z)⟩
          · exact ⟨q.1, fun C O L a1 a2 a3 a4 => lv_icmp_ge C.1 C.2.1 hd ht (fun z => absurd z hc) (fun _ => q.2 C O L a1 a2 a3 a4)⟩
        | gt =>
          obtain ⟨ht, ⟨hc, q⟩ | ⟨hc, q⟩⟩ := xs_br hF h
          · exact ⟨q.1, fun C O L a1 a2 a3 a4 => lv_icmp_gt C.1 C.2.1 hd ht (fun _ => q.2 C O L a1 a2 a3 a4) (fun z => absurd hc z)⟩
          · exact ⟨q.1, fun C O L a1 a2 a3 a4 => lv_icmp_gt C.1 C.2.1 hd ht (fun z => absurd z hc) (fun _ => q.2 C O L a1 a2 a3 a4)⟩
        | le =>
          obtain ⟨ht, ⟨hc, q⟩ | ⟨hc, q⟩⟩ := xs_br hF h
          · exact ⟨q.1, fun C O L a1 a2 a3 a4 => lv_icmp_le C.1 C.2.1 hd ht (fun _ => q.2 C O L a1 a2 a3 a4) (fun z => absurd hc z)⟩
          · exact ⟨q.1, fun C O L a1 a2 a3 a4 => lv_icmp_le C.1 C.2.1 hd ht (fun z => absurd z hc) (fun _ => q.2 C O L a1 a2 a3 a4)⟩
      · cases h
    · rw [if_neg hl] at h
      cases h
  | goto off =>
    unfold xins at h
    dsimp only at h
    by_cases hl : len = 3
    · subst hl
      rw [if_pos rfl] at h
      obtain ⟨ht, q⟩ := xs_jump hF h
      exact ⟨q.1, fun C O L a1 a2 a3 a4 => lv_goto C.1 C.2.1 hd ht (q.2 C O L a1 a2 a3 a4)⟩
    · rw [if_neg hl] at h
      cases h
  | tableswitch d lo hi offs =>
    unfold xins at h
    dsimp only at h
    split at h
    · rename_i x rest
      split at h
      · rename_i hc
        obtain ⟨ht, q⟩ := xs_jump hF h
        exact ⟨q.1, fun C O L a1 a2 a3 a4 => lv_tableOut C.1 C.2.1 hd hc ht (q.2 C O L a1 a2 a3 a4)⟩
      · rename_i hc
        split at h
        · rename_i off ho
          obtain ⟨ht, q⟩ := xs_jump hF h
          exact ⟨q.1, fun C O L a1 a2 a3 a4 => lv_tableIn C.1 C.2.1 hd (fun z => hc (Or.inl z)) (fun z => hc (Or.inr z)) ho ht (q.2 C O L a1 a2 a3 a4)⟩
        · cases h
    · cases h
  | dup =>
    unfold xins at h
    dsimp only at h
    by_cases hl : len = 1
    · subst hl
      rw [if_pos rfl] at h
      split at h
      · rename_i x rest
        split at h
        · rename_i hc
          have q := hF _ _ _ _ _ _ _ h
          exact ⟨q.1, fun C O L a1 a2 a3 a4 => lv_dup C.1 C.2.1 hd ((xtv_cat x).trans hc) (q.2 C O L a1 a2 a3 a4)⟩
        · cases h
      · cases h
    · rw [if_neg hl] at h
      cases h
  | dup2 =>
    unfold xins at h
    dsimp only at h
    by_cases hl : len = 1
    · subst hl
      rw [if_pos rfl] at h
      split at h
      · rename_i x y rest
        split at h
        · rename_i hc
          have q := hF _ _ _ _ _ _ _ h
          exact ⟨q.1, fun C O L a1 a2 a3 a4 => lv_dup2_11 C.1 C.2.1 hd ((xtv_cat x).trans hc.1) ((xtv_cat y).trans hc.2) (q.2 C O L a1 a2 a3 a4)⟩
        · cases h
      · cases h
    · rw [if_neg hl] at h
      cases h
  | pop =>
    unfold xins at h
    dsimp only at h
    by_cases hl : len = 1
    · subst hl
      rw [if_pos rfl] at h
      split at h
      · rename_i x rest
        split at h
        · rename_i hc
          have q := hF _ _ _ _ _ _ _ h
          exact ⟨q.1, fun C O L a1 a2 a3 a4 => lv_pop C.1 C.2.1 hd ((xtv_cat x).trans hc) (q.2 C O L a1 a2 a3 a4)⟩
        · cases h
      · cases h
    · rw [if_neg hl] at h
      cases h
  | getfield ix =>
    unfold xins at h
    dsimp only at h
    by_cases hl : len = 3
    · subst hl
      rw [if_pos rfl] at h
      exact xs_getf hF hd h
    · rw [if_neg hl] at h
      cases h
  | putfield ix =>
    unfold xins at h
    dsimp only at h
    by_cases hl : len = 3
    · subst hl
      rw [if_pos rfl] at h
      exact xs_putf hF hd h
    · rw [if_neg hl] at h
      cases h
  | getstatic ix =>
    unfold xins at h
    dsimp only at h
    by_cases hl : len = 3
    · subst hl
      rw [if_pos rfl] at h
      exact xs_gets hF hd h
    · rw [if_neg hl] at h
      cases h
  | iaload =>
    unfold xins at h
    dsimp only at h
    by_cases hl : len = 1
    · subst hl
      rw [if_pos rfl] at h
      exact xs_ald hF hd h
    · rw [if_neg hl] at h
      cases h
  | laload =>
    unfold xins at h
    dsimp only at h
    by_cases hl : len = 1
    · subst hl
      rw [if_pos rfl] at h
      exact xs_lald hF hd h
    · rw [if_neg hl] at h
      cases h
  | iastore =>
    unfold xins at h
    dsimp only at h
    by_cases hl : len = 1
    · subst hl
      rw [if_pos rfl] at h
      exact xs_iast hF hd h
    · rw [if_neg hl] at h
      cases h
  | lastore =>
    unfold xins at h
    dsimp only at h
    by_cases hl : len = 1
    · subst hl
      rw [if_pos rfl] at h
      exact xs_last hF hd h
    · rw [if_neg hl] at h
      cases h
  | arraylength =>
    unfold xins at h
    dsimp only at h
    by_cases hl : len = 1
    · subst hl
      rw [if_pos rfl] at h
      exact xs_alen hF hd h
    · rw [if_neg hl] at h
      cases h
  | newarray t =>
    unfold xins at h
    dsimp only at h
    by_cases hl : len = 2
    · subst hl
      rw [if_pos rfl] at h
      exact xs_newa hF hd h
    · rw [if_neg hl] at h
      cases h
  | new ix =>
    unfold xins at h
    dsimp only at h
    by_cases hl : len = 3
    · subst hl
      rw [if_pos rfl] at h
      exact xs_new hF hd h
    · rw [if_neg hl] at h
      cases h
  | invokevirtual ix =>
    unfold xins at h
    dsimp only at h
    by_cases hl : len = 3
    · subst hl
      rw [if_pos rfl] at h
      exact xs_invV hF hd h
    · rw [if_neg hl] at h
      cases h
  | invokestatic ix =>
    unfold xins at h
    dsimp only at h
    by_cases hl : len = 3
    · subst hl
      rw [if_pos rfl] at h
      exact xs_invS hF hd h
    · rw [if_neg hl] at h
      cases h
  | invokespecial ix =>
    unfold xins at h
    dsimp only at h
    by_cases hl : len = 3
    · subst hl
      rw [if_pos rfl] at h
      exact xs_invI hF hk hd h
    · rw [if_neg hl] at h
      cases h
  | ireturn =>
    unfold xins at h
    dsimp only at h
    by_cases hl : len = 1
    · subst hl
      rw [if_pos rfl] at h
      split at h
      · rename_i x
        split at h
        · rename_i hr
          cases h
          refine ⟨⟨Nat.le_refl _, Nat.le_refl _⟩, fun {p e s m args below meth c A ad mc ms cells slots N0 S0 H locs ls} C O L a1 a2 a3 a4 => ?_⟩
          have e1 : mc = cells := by omega
          have e2 : ms = slots := by omega
          subst e1
          subst e2
          have hn : ∃ ty, xret k = some ty ∧ narrow ty (.int x) = .int x := by
            rcases hr with hr | ⟨hr, hx⟩
            · exact ⟨_, hr, rfl⟩
            · exact ⟨_, hr, by rcases hx with rfl | rfl <;> rfl⟩
          obtain ⟨ty, hr, hn⟩ := hn
          exact W.zret C.1 C.2.1 (C.2.2.1.trans hr) hn (fun t ht hW => ⟨rfl, ⟨by rw [ht]; exact O.1, va_K.moved hW.alike C.2.2.2.2.2.2.2.2.2.1, O.2.1, O.2.2.2.1, by rw [ht]; exact O.2.2.2.2.1⟩, O.2.2.1.F ht⟩) O.2.2.1.2.2 hd C.2.2.2.2.1
        · cases h
      · cases h
    · rw [if_neg hl] at h
      cases h
  | lreturn =>
    unfold xins at h
    dsimp only at h
    by_cases hl : len = 1
    · subst hl
      rw [if_pos rfl] at h
      split at h
      · rename_i x
        split at h
        · rename_i hr
          cases h
          refine ⟨⟨Nat.le_refl _, Nat.le_refl _⟩, fun {p e s m args below meth c A ad mc ms cells slots N0 S0 H locs ls} C O L a1 a2 a3 a4 => ?_⟩
          have e1 : mc = cells := by omega
          have e2 : ms = slots := by omega
          subst e1
          subst e2
          exact W.lret C.1 C.2.1 (C.2.2.1.trans hr) (fun t ht hW => ⟨rfl, ⟨by rw [ht]; exact O.1, va_K.moved hW.alike C.2.2.2.2.2.2.2.2.2.1, O.2.1, O.2.2.2.1, by rw [ht]; exact O.2.2.2.2.1⟩, O.2.2.1.F ht⟩) O.2.2.1.2.2 hd C.2.2.2.2.1
        · cases h
      · cases h
    · rw [if_neg hl] at h
      cases h
  | return_ =>
    unfold xins at h
    dsimp only at h
    by_cases hl : len = 1
    · subst hl
      rw [if_pos rfl] at h
      split at h
      · skip
        split at h
        · rename_i hr
          cases h
          refine ⟨⟨Nat.le_refl _, Nat.le_refl _⟩, fun {p e s m args below meth c A ad mc ms cells slots N0 S0 H locs ls} C O L a1 a2 a3 a4 => ?_⟩
          have e1 : mc = cells := by omega
          have e2 : ms = slots := by omega
          subst e1
          subst e2
          exact W.vret C.1 C.2.1 (C.2.2.1.trans hr) (fun t ht hW => ⟨rfl, ⟨by rw [ht]; exact O.1, va_K.moved hW.alike C.2.2.2.2.2.2.2.2.2.1, O.2.1, O.2.2.2.1, by rw [ht]; exact O.2.2.2.2.1⟩, O.2.2.1.F ht⟩) O.2.2.1.2.2 hd C.2.2.2.2.1
        · cases h
      · cases h
    · rw [if_neg hl] at h
      cases h
  | _ =>
    unfold xins at h
    cases h
end XC
theorem x_ownAll (k : Nat) : xown k < 15 := by
  by_cases hk : k < 307
  · exact x_ownLt k hk
  · unfold xown xmi
    rw [List.getD_eq_getElem?_getD, List.getElem?_eq_none (by rw [x_mlen]; omega)]
    show 0 < 15
    omega
/-- what the pure machine comes to, the machine comes to -/
theorem x_sound (l : Launch) (D : va_G) (cI cL : ClassId) : ∀ n, xOkF l D cI cL (xrun n) := by
  intro n
  induction n with
  | zero =>
    intro k pc ll st w v w' h
    cases h
  | succ n ih =>
    intro k pc ll st w v w' h
    unfold xrun at h
    split at h
    · rename_i i len e
      exact x_ins ih (x_ownAll k) (x_dec e) h
    · cases h
/-- a call of the pure machine is a contract of the method -/
theorem xCall.met {l : Launch} {z : Nat} {as : List Value} {w w1 : xW} {v1 : Option Value} (h : xCall z as w (v1, w1)) (hz : z < 307) (hent : (xent1 as).length ≤ xml z) (D : va_G) (cI cL : ClassId) (ad : Nat → Nat) (sz : Nat) {mc ms : Nat} (h1 : mc + w.length = w1.length) (h2 : ms + xsl w = xsl w1) :
    Met l (xy z) (xTs z) (xRm z mc ms) (xPre D cI cL ad as w sz) (xPost D cI cL ad (va_A (xtw cI cL ad w) sz) v1 w1) mc ms (va_A (xtw cI cL ad w) sz) := by
  obtain ⟨n, hn⟩ := h
  exact x_met (x_sound l D cI cL n _ _ _ _ _ _ _ (hn n (Nat.le_refl n))) hz hent ad sz h1 h2
end
section
/-! RULES: from a place of the pure machine to the next -/
def irem (x y : Int32) : Int32 := x - x / y * y
def lrem (x y : Int64) : Int64 := x - x / y * y
def xroom (k z : Nat) : Bool := Nat.ble (xfr z + 1) (xfr k) && Nat.ble (8 + (xml z + 11) + xlo z) (xlo k) && Nat.blt z 307
section GO
variable {k pc pc' : Nat} {l l' : List (Option Value)} {st : List Value} {w : xW} {r : Option Value × xW}
theorem g_of {i : Instr} {len : Nat} (hd : xcode k pc = some (i, len)) (h : ∃ n, ∀ m, n ≤ m → xins (xrun m) k pc l st w i len = some r) : xGo k pc l st w r := by
  obtain ⟨n, hn⟩ := h
  refine ⟨n + 1, fun m hm => ?_⟩
  match m, hm with
  | m + 1, hm =>
    show (match xcode k pc with | some (i, len) => xins (xrun m) k pc l st w i len | none => none) = some r
    rw [hd]
    exact hn m (by omega)
theorem g_iconst {n : Int} {v : Int32} (hd : xcode k pc = some (.iconst n, 1)) (hp : pc + 1 = pc') (hv : Int32.ofInt n = v) (h : xGo k pc' l (.int v :: st) w r) : xGo k pc l st w r := by subst hp; subst hv; exact g_of hd h
theorem g_bipush {n : Int} {v : Int32} (hd : xcode k pc = some (.bipush n, 2)) (hp : pc + 2 = pc') (hv : (Int8.ofInt n).toInt32 = v) (h : xGo k pc' l (.int v :: st) w r) : xGo k pc l st w r := by subst hp; subst hv; exact g_of hd h
theorem g_sipush {n : Int} {v : Int32} (hd : xcode k pc = some (.sipush n, 3)) (hp : pc + 3 = pc') (hv : (Int16.ofInt n).toInt32 = v) (h : xGo k pc' l (.int v :: st) w r) : xGo k pc l st w r := by subst hp; subst hv; exact g_of hd h
theorem g_lconst {n : Fin 2} {v : Int64} (hd : xcode k pc = some (.lconst n, 1)) (hp : pc + 1 = pc') (hv : Int64.ofNat (n : Nat) = v) (h : xGo k pc' l (.long v :: st) w r) : xGo k pc l st w r := by subst hp; subst hv; exact g_of hd h
theorem g_ldc {ix a b : Nat} {c : Int} {v : Int32} (hd : xcode k pc = some (.ldc ix, 2)) (hp : pc + 2 = pc') (hs : xsite k ix = some (9, a, b, c)) (hv : Int32.ofInt c = v) (h : xGo k pc' l (.int v :: st) w r) : xGo k pc l st w r := by
  subst hp; subst hv
  refine g_of hd ?_
  simp only [xins, hs, if_true]
  exact h
theorem g_ldcw {ix a b : Nat} {c : Int} {v : Int32} (hd : xcode k pc = some (.ldc_w ix, 3)) (hp : pc + 3 = pc') (hs : xsite k ix = some (9, a, b, c)) (hv : Int32.ofInt c = v) (h : xGo k pc' l (.int v :: st) w r) : xGo k pc l st w r := by
  subst hp; subst hv
  refine g_of hd ?_
  simp only [xins, hs, if_true]
  exact h
theorem g_ldc2 {ix a b : Nat} {c : Int} {v : Int64} (hd : xcode k pc = some (.ldc2_w ix, 3)) (hp : pc + 3 = pc') (hs : xsite k ix = some (10, a, b, c)) (hv : Int64.ofInt c = v) (h : xGo k pc' l (.long v :: st) w r) : xGo k pc l st w r := by
  subst hp; subst hv
  refine g_of hd ?_
  simp only [xins, hs, if_true]
  exact h
theorem g_iloadn {n : Fin 4} {x : Int32} (hd : xcode k pc = some (.iload_n n, 1)) (hp : pc + 1 = pc') (hx : l[(n : Nat)]? = some (some (.int x))) (h : xGo k pc' l (.int x :: st) w r) : xGo k pc l st w r := by
  subst hp
  refine g_of hd ?_
  simp only [xins, xild, hx, if_true]
  exact h
theorem g_iload {n : Nat} {x : Int32} (hd : xcode k pc = some (.iload n, 2)) (hp : pc + 2 = pc') (hx : l[n]? = some (some (.int x))) (h : xGo k pc' l (.int x :: st) w r) : xGo k pc l st w r := by
  subst hp
  refine g_of hd ?_
  simp only [xins, xild, hx, if_true]
  exact h
theorem g_lloadn {n : Fin 4} {x : Int64} (hd : xcode k pc = some (.lload_n n, 1)) (hp : pc + 1 = pc') (hx : l[(n : Nat)]? = some (some (.long x))) (h : xGo k pc' l (.long x :: st) w r) : xGo k pc l st w r := by
  subst hp
  refine g_of hd ?_
  simp only [xins, xlld, hx, if_true]
  exact h
theorem g_lload {n : Nat} {x : Int64} (hd : xcode k pc = some (.lload n, 2)) (hp : pc + 2 = pc') (hx : l[n]? = some (some (.long x))) (h : xGo k pc' l (.long x :: st) w r) : xGo k pc l st w r := by
  subst hp
  refine g_of hd ?_
  simp only [xins, xlld, hx, if_true]
  exact h
theorem g_aloadn {n : Fin 4} {x : Nat} (hd : xcode k pc = some (.aload_n n, 1)) (hp : pc + 1 = pc') (hx : l[(n : Nat)]? = some (some (.ref x))) (h : xGo k pc' l (.ref x :: st) w r) : xGo k pc l st w r := by
  subst hp
  refine g_of hd ?_
  simp only [xins, xaldr, hx, if_true]
  exact h
theorem g_aload {n : Nat} {x : Nat} (hd : xcode k pc = some (.aload n, 2)) (hp : pc + 2 = pc') (hx : l[n]? = some (some (.ref x))) (h : xGo k pc' l (.ref x :: st) w r) : xGo k pc l st w r := by
  subst hp
  refine g_of hd ?_
  simp only [xins, xaldr, hx, if_true]
  exact h
theorem g_istoren {n : Fin 4} {x : Int32} (hd : xcode k pc = some (.istore_n n, 1)) (hp : pc + 1 = pc') {M : Nat} (hm : xml k = M) (hn : Nat.blt (n : Nat) M = true) (hl : xst1 l (n : Nat) (.int x) = l') (h : xGo k pc' l' st w r) : xGo k pc l (.int x :: st) w r := by
  subst hp; subst hl
  have hn : (n : Nat) < xml k := by rw [hm]; exact Nat.le_of_ble_eq_true hn
  refine g_of hd ?_
  simp only [xins, xis, if_true, if_pos hn]
  exact h
theorem g_istore {n : Nat} {x : Int32} (hd : xcode k pc = some (.istore n, 2)) (hp : pc + 2 = pc') {M : Nat} (hm : xml k = M) (hn : Nat.blt n M = true) (hl : xst1 l n (.int x) = l') (h : xGo k pc' l' st w r) : xGo k pc l (.int x :: st) w r := by
  subst hp; subst hl
  have hn : n < xml k := by rw [hm]; exact Nat.le_of_ble_eq_true hn
  refine g_of hd ?_
  simp only [xins, xis, if_true, if_pos hn]
  exact h
theorem g_astoren {n : Fin 4} {x : Nat} (hd : xcode k pc = some (.astore_n n, 1)) (hp : pc + 1 = pc') {M : Nat} (hm : xml k = M) (hn : Nat.blt (n : Nat) M = true) (hl : xst1 l (n : Nat) (.ref x) = l') (h : xGo k pc' l' st w r) : xGo k pc l (.ref x :: st) w r := by
  subst hp; subst hl
  have hn : (n : Nat) < xml k := by rw [hm]; exact Nat.le_of_ble_eq_true hn
  refine g_of hd ?_
  simp only [xins, xas, if_true, if_pos hn]
  exact h
theorem g_astore {n : Nat} {x : Nat} (hd : xcode k pc = some (.astore n, 2)) (hp : pc + 2 = pc') {M : Nat} (hm : xml k = M) (hn : Nat.blt n M = true) (hl : xst1 l n (.ref x) = l') (h : xGo k pc' l' st w r) : xGo k pc l (.ref x :: st) w r := by
  subst hp; subst hl
  have hn : n < xml k := by rw [hm]; exact Nat.le_of_ble_eq_true hn
  refine g_of hd ?_
  simp only [xins, xas, if_true, if_pos hn]
  exact h
theorem g_lstoren {n : Fin 4} {x : Int64} (hd : xcode k pc = some (.lstore_n n, 1)) (hp : pc + 1 = pc') {M : Nat} (hm : xml k = M) (hn : Nat.blt ((n : Nat) + 1) M = true) (hl : xst2 l (n : Nat) (.long x) = l') (h : xGo k pc' l' st w r) : xGo k pc l (.long x :: st) w r := by
  subst hp; subst hl
  have hn : (n : Nat) + 1 < xml k := by rw [hm]; exact Nat.le_of_ble_eq_true hn
  refine g_of hd ?_
  simp only [xins, xls, if_true, if_pos hn]
  exact h
theorem g_lstore {n : Nat} {x : Int64} (hd : xcode k pc = some (.lstore n, 2)) (hp : pc + 2 = pc') {M : Nat} (hm : xml k = M) (hn : Nat.blt (n + 1) M = true) (hl : xst2 l n (.long x) = l') (h : xGo k pc' l' st w r) : xGo k pc l (.long x :: st) w r := by
  subst hp; subst hl
  have hn : n + 1 < xml k := by rw [hm]; exact Nat.le_of_ble_eq_true hn
  refine g_of hd ?_
  simp only [xins, xls, if_true, if_pos hn]
  exact h
theorem g_iinc {n : Nat} {d : Int} {x v : Int32} (hd : xcode k pc = some (.iinc n d, 3)) (hp : pc + 3 = pc') (hx : l[n]? = some (some (.int x))) (hv : Int32.ofInt d = v) {M : Nat} (hm : xml k = M) (hn : Nat.blt n M = true) (hl : xst1 l n (.int (x + v)) = l') (h : xGo k pc' l' st w r) : xGo k pc l st w r := by
  subst hp; subst hl; subst hv
  have hn : n < xml k := by rw [hm]; exact Nat.le_of_ble_eq_true hn
  refine g_of hd ?_
  simp only [xins, xinc, hx, if_true, if_pos hn]
  exact h
theorem g_iadd {x y : Int32} (hd : xcode k pc = some (.iadd, 1)) (hp : pc + 1 = pc') (h : xGo k pc' l (.int (x + y) :: st) w r) : xGo k pc l (.int y :: .int x :: st) w r := by subst hp; exact g_of hd h
theorem g_isub {x y : Int32} (hd : xcode k pc = some (.isub, 1)) (hp : pc + 1 = pc') (h : xGo k pc' l (.int (x - y) :: st) w r) : xGo k pc l (.int y :: .int x :: st) w r := by subst hp; exact g_of hd h
theorem g_imul {x y : Int32} (hd : xcode k pc = some (.imul, 1)) (hp : pc + 1 = pc') (h : xGo k pc' l (.int (x * y) :: st) w r) : xGo k pc l (.int y :: .int x :: st) w r := by subst hp; exact g_of hd h
theorem g_iand {x y : Int32} (hd : xcode k pc = some (.iand, 1)) (hp : pc + 1 = pc') (h : xGo k pc' l (.int (x &&& y) :: st) w r) : xGo k pc l (.int y :: .int x :: st) w r := by subst hp; exact g_of hd h
theorem g_ior {x y : Int32} (hd : xcode k pc = some (.ior, 1)) (hp : pc + 1 = pc') (h : xGo k pc' l (.int (x ||| y) :: st) w r) : xGo k pc l (.int y :: .int x :: st) w r := by subst hp; exact g_of hd h
theorem g_ishr {x y : Int32} (hd : xcode k pc = some (.ishr, 1)) (hp : pc + 1 = pc') (h : xGo k pc' l (.int (x >>> (y &&& 31)) :: st) w r) : xGo k pc l (.int y :: .int x :: st) w r := by subst hp; exact g_of hd h
theorem g_ladd {x y : Int64} (hd : xcode k pc = some (.ladd, 1)) (hp : pc + 1 = pc') (h : xGo k pc' l (.long (x + y) :: st) w r) : xGo k pc l (.long y :: .long x :: st) w r := by subst hp; exact g_of hd h
theorem g_lsub {x y : Int64} (hd : xcode k pc = some (.lsub, 1)) (hp : pc + 1 = pc') (h : xGo k pc' l (.long (x - y) :: st) w r) : xGo k pc l (.long y :: .long x :: st) w r := by subst hp; exact g_of hd h
theorem g_lmul {x y : Int64} (hd : xcode k pc = some (.lmul, 1)) (hp : pc + 1 = pc') (h : xGo k pc' l (.long (x * y) :: st) w r) : xGo k pc l (.long y :: .long x :: st) w r := by subst hp; exact g_of hd h
theorem g_land {x y : Int64} (hd : xcode k pc = some (.land, 1)) (hp : pc + 1 = pc') (h : xGo k pc' l (.long (x &&& y) :: st) w r) : xGo k pc l (.long y :: .long x :: st) w r := by subst hp; exact g_of hd h
theorem g_lor {x y : Int64} (hd : xcode k pc = some (.lor, 1)) (hp : pc + 1 = pc') (h : xGo k pc' l (.long (x ||| y) :: st) w r) : xGo k pc l (.long y :: .long x :: st) w r := by subst hp; exact g_of hd h
theorem g_lxor {x y : Int64} (hd : xcode k pc = some (.lxor, 1)) (hp : pc + 1 = pc') (h : xGo k pc' l (.long (x ^^^ y) :: st) w r) : xGo k pc l (.long y :: .long x :: st) w r := by subst hp; exact g_of hd h
theorem g_idiv {x y : Int32} (hd : xcode k pc = some (.idiv, 1)) (hp : pc + 1 = pc') (hy : ¬ y = 0) (h : xGo k pc' l (.int (x / y) :: st) w r) : xGo k pc l (.int y :: .int x :: st) w r := by
  subst hp
  refine g_of hd ?_
  simp only [xins, xid, if_true, if_neg hy]
  exact h
theorem g_irem {x y : Int32} (hd : xcode k pc = some (.irem, 1)) (hp : pc + 1 = pc') (hy : ¬ y = 0) (h : xGo k pc' l (.int (irem x y) :: st) w r) : xGo k pc l (.int y :: .int x :: st) w r := by
  subst hp
  refine g_of hd ?_
  simp only [xins, xid, if_true, if_neg hy]
  exact h
theorem g_ldiv {x y : Int64} (hd : xcode k pc = some (.ldiv, 1)) (hp : pc + 1 = pc') (hy : ¬ y = 0) (h : xGo k pc' l (.long (x / y) :: st) w r) : xGo k pc l (.long y :: .long x :: st) w r := by
  subst hp
  refine g_of hd ?_
  simp only [xins, xld, if_true, if_neg hy]
  exact h
theorem g_lrem {x y : Int64} (hd : xcode k pc = some (.lrem, 1)) (hp : pc + 1 = pc') (hy : ¬ y = 0) (h : xGo k pc' l (.long (lrem x y) :: st) w r) : xGo k pc l (.long y :: .long x :: st) w r := by
  subst hp
  refine g_of hd ?_
  simp only [xins, xld, if_true, if_neg hy]
  exact h
theorem g_lshl {x : Int64} {y : Int32} (hd : xcode k pc = some (.lshl, 1)) (hp : pc + 1 = pc') (h : xGo k pc' l (.long (x <<< (y.toInt64 &&& 63)) :: st) w r) : xGo k pc l (.int y :: .long x :: st) w r := by subst hp; exact g_of hd h
theorem g_lshr {x : Int64} {y : Int32} (hd : xcode k pc = some (.lshr, 1)) (hp : pc + 1 = pc') (h : xGo k pc' l (.long (x >>> (y.toInt64 &&& 63)) :: st) w r) : xGo k pc l (.int y :: .long x :: st) w r := by subst hp; exact g_of hd h
theorem g_ineg {x : Int32} (hd : xcode k pc = some (.ineg, 1)) (hp : pc + 1 = pc') (h : xGo k pc' l (.int (-x) :: st) w r) : xGo k pc l (.int x :: st) w r := by subst hp; exact g_of hd h
theorem g_lneg {x : Int64} (hd : xcode k pc = some (.lneg, 1)) (hp : pc + 1 = pc') (h : xGo k pc' l (.long (-x) :: st) w r) : xGo k pc l (.long x :: st) w r := by subst hp; exact g_of hd h
theorem g_i2l {x : Int32} (hd : xcode k pc = some (.i2l, 1)) (hp : pc + 1 = pc') (h : xGo k pc' l (.long (x.toInt64) :: st) w r) : xGo k pc l (.int x :: st) w r := by subst hp; exact g_of hd h
theorem g_l2i {x : Int64} (hd : xcode k pc = some (.l2i, 1)) (hp : pc + 1 = pc') (h : xGo k pc' l (.int (x.toInt32) :: st) w r) : xGo k pc l (.long x :: st) w r := by subst hp; exact g_of hd h
theorem g_lcmp {x y : Int64} (hd : xcode k pc = some (.lcmp, 1)) (hp : pc + 1 = pc') (h : xGo k pc' l (.int (lg_cmp x y) :: st) w r) : xGo k pc l (.long y :: .long x :: st) w r := by subst hp; exact g_of hd h
theorem g_br {F : xK} {b : Bool} {off : Int} {res : Option Value × xW} {pt : Nat} (hz : (pc : Int) + off = (pt : Int)) (ht : b = true → F k pt l st w = some res) (hf : b = false → F k (pc + 3) l st w = some res) : xbr F b k pc off l st w = some res := by
  unfold xbr
  have h0 : 0 ≤ (pc : Int) + off := by omega
  have e : xtgt pc off = pt := by unfold xtgt; omega
  rw [if_pos h0, e]
  cases b with
  | true => rw [if_pos rfl]; exact ht rfl
  | false => rw [if_neg (by decide)]; exact hf rfl
theorem g_both {c : Prop} [Decidable c] {off : Int} {pt : Nat} (hz : (pc : Int) + off = (pt : Int)) (hp : pc + 3 = pc') (ht : c → xGo k pt l st w r) (hf : ¬ c → xGo k pc' l st w r) : ∃ n, ∀ m, n ≤ m → xbr (xrun m) (decide c) k pc off l st w = some r := by
  subst hp
  by_cases hc : c
  · obtain ⟨n, hn⟩ := ht hc
    exact ⟨n, fun m hm => g_br hz (fun _ => hn m hm) (fun q => absurd hc (of_decide_eq_false q))⟩
  · obtain ⟨n, hn⟩ := hf hc
    exact ⟨n, fun m hm => g_br hz (fun q => absurd (of_decide_eq_true q) hc) (fun _ => hn m hm)⟩
theorem g_if_eq {x : Int32} {off : Int} {pt : Nat} (hd : xcode k pc = some (.ifCond .eq off, 3)) (hz : (pc : Int) + off = (pt : Int)) (hp : pc + 3 = pc') (ht : x = 0 → xGo k pt l st w r) (hf : ¬ (x = 0) → xGo k pc' l st w r) : xGo k pc l (.int x :: st) w r := g_of hd (g_both hz hp ht hf)
theorem g_ic_eq {x y : Int32} {off : Int} {pt : Nat} (hd : xcode k pc = some (.if_icmp .eq off, 3)) (hz : (pc : Int) + off = (pt : Int)) (hp : pc + 3 = pc') (ht : x = y → xGo k pt l st w r) (hf : ¬ (x = y) → xGo k pc' l st w r) : xGo k pc l (.int y :: .int x :: st) w r := g_of hd (g_both hz hp ht hf)
theorem g_if_ne {x : Int32} {off : Int} {pt : Nat} (hd : xcode k pc = some (.ifCond .ne off, 3)) (hz : (pc : Int) + off = (pt : Int)) (hp : pc + 3 = pc') (ht : ¬ x = 0 → xGo k pt l st w r) (hf : ¬ (¬ x = 0) → xGo k pc' l st w r) : xGo k pc l (.int x :: st) w r := g_of hd (g_both hz hp ht hf)
theorem g_ic_ne {x y : Int32} {off : Int} {pt : Nat} (hd : xcode k pc = some (.if_icmp .ne off, 3)) (hz : (pc : Int) + off = (pt : Int)) (hp : pc + 3 = pc') (ht : ¬ x = y → xGo k pt l st w r) (hf : ¬ (¬ x = y) → xGo k pc' l st w r) : xGo k pc l (.int y :: .int x :: st) w r := g_of hd (g_both hz hp ht hf)
theorem g_if_lt {x : Int32} {off : Int} {pt : Nat} (hd : xcode k pc = some (.ifCond .lt off, 3)) (hz : (pc : Int) + off = (pt : Int)) (hp : pc + 3 = pc') (ht : x < 0 → xGo k pt l st w r) (hf : ¬ (x < 0) → xGo k pc' l st w r) : xGo k pc l (.int x :: st) w r := g_of hd (g_both hz hp ht hf)
theorem g_ic_lt {x y : Int32} {off : Int} {pt : Nat} (hd : xcode k pc = some (.if_icmp .lt off, 3)) (hz : (pc : Int) + off = (pt : Int)) (hp : pc + 3 = pc') (ht : x < y → xGo k pt l st w r) (hf : ¬ (x < y) → xGo k pc' l st w r) : xGo k pc l (.int y :: .int x :: st) w r := g_of hd (g_both hz hp ht hf)
theorem g_if_ge {x : Int32} {off : Int} {pt : Nat} (hd : xcode k pc = some (.ifCond .ge off, 3)) (hz : (pc : Int) + off = (pt : Int)) (hp : pc + 3 = pc') (ht : 0 ≤ x → xGo k pt l st w r) (hf : ¬ (0 ≤ x) → xGo k pc' l st w r) : xGo k pc l (.int x :: st) w r := g_of hd (g_both hz hp ht hf)
theorem g_ic_ge {x y : Int32} {off : Int} {pt : Nat} (hd : xcode k pc = some (.if_icmp .ge off, 3)) (hz : (pc : Int) + off = (pt : Int)) (hp : pc + 3 = pc') (ht : y ≤ x → xGo k pt l st w r) (hf : ¬ (y ≤ x) → xGo k pc' l st w r) : xGo k pc l (.int y :: .int x :: st) w r := g_of hd (g_both hz hp ht hf)
theorem g_if_gt {x : Int32} {off : Int} {pt : Nat} (hd : xcode k pc = some (.ifCond .gt off, 3)) (hz : (pc : Int) + off = (pt : Int)) (hp : pc + 3 = pc') (ht : 0 < x → xGo k pt l st w r) (hf : ¬ (0 < x) → xGo k pc' l st w r) : xGo k pc l (.int x :: st) w r := g_of hd (g_both hz hp ht hf)
theorem g_ic_gt {x y : Int32} {off : Int} {pt : Nat} (hd : xcode k pc = some (.if_icmp .gt off, 3)) (hz : (pc : Int) + off = (pt : Int)) (hp : pc + 3 = pc') (ht : y < x → xGo k pt l st w r) (hf : ¬ (y < x) → xGo k pc' l st w r) : xGo k pc l (.int y :: .int x :: st) w r := g_of hd (g_both hz hp ht hf)
theorem g_if_le {x : Int32} {off : Int} {pt : Nat} (hd : xcode k pc = some (.ifCond .le off, 3)) (hz : (pc : Int) + off = (pt : Int)) (hp : pc + 3 = pc') (ht : x ≤ 0 → xGo k pt l st w r) (hf : ¬ (x ≤ 0) → xGo k pc' l st w r) : xGo k pc l (.int x :: st) w r := g_of hd (g_both hz hp ht hf)
theorem g_ic_le {x y : Int32} {off : Int} {pt : Nat} (hd : xcode k pc = some (.if_icmp .le off, 3)) (hz : (pc : Int) + off = (pt : Int)) (hp : pc + 3 = pc') (ht : x ≤ y → xGo k pt l st w r) (hf : ¬ (x ≤ y) → xGo k pc' l st w r) : xGo k pc l (.int y :: .int x :: st) w r := g_of hd (g_both hz hp ht hf)
theorem lg_cmp_cases (x y : Int64) : (x < y ∧ lg_cmp x y = -1) ∨ (x = y ∧ lg_cmp x y = 0) ∨ (y < x ∧ lg_cmp x y = 1) := by
  by_cases h1 : y < x
  · exact Or.inr (Or.inr ⟨h1, by simp [lg_cmp, h1]⟩)
  · by_cases h2 : x = y
    · subst h2
      exact Or.inr (Or.inl ⟨rfl, by simp [lg_cmp]⟩)
    · have h3 : x < y := Int64.lt_of_le_of_ne (Int64.not_lt.mp h1) h2
      exact Or.inl ⟨h3, by simp [lg_cmp, h1, h2]⟩
theorem lg_eq (x y : Int64) : ((lg_cmp x y) = 0) ↔ (x = y) := by
  have i1 : ∀ z : Int64, ¬ z < z := fun _ => Int64.lt_irrefl
  rcases lg_cmp_cases x y with ⟨h, e⟩ | ⟨h, e⟩ | ⟨h, e⟩
  · rw [e]
    have n1 : ¬ x = y := fun q => i1 _ (q ▸ h)
    have n2 : ¬ y < x := fun q => i1 _ (Int64.lt_trans h q)
    have n3 : x ≤ y := Int64.le_of_lt h
    have n4 : ¬ y ≤ x := Int64.not_le.mpr h
    simp [h, n1, n2, n3, n4]
    try decide
  · subst h
    rw [e]
    simp [i1, Int64.le_refl]
  · rw [e]
    have n1 : ¬ x = y := fun q => i1 _ (q ▸ h)
    have n2 : ¬ x < y := fun q => i1 _ (Int64.lt_trans h q)
    have n3 : y ≤ x := Int64.le_of_lt h
    have n4 : ¬ x ≤ y := Int64.not_le.mpr h
    simp [h, n1, n2, n3, n4]
    try decide
theorem g_lc_eq {x y : Int64} {off : Int} {pm pt : Nat} (hd : xcode k pc = some (.lcmp, 1)) (hq : pc + 1 = pm) (hd2 : xcode k pm = some (.ifCond .eq off, 3)) (hz : (pm : Int) + off = (pt : Int)) (hp : pm + 3 = pc') (ht : x = y → xGo k pt l st w r) (hf : ¬ (x = y) → xGo k pc' l st w r) : xGo k pc l (.long y :: .long x :: st) w r :=
  g_lcmp hd hq (g_if_eq hd2 hz hp (fun q => ht ((lg_eq x y).mp q)) (fun q => hf (fun z => q ((lg_eq x y).mpr z))))
theorem lg_ne (x y : Int64) : (¬ (lg_cmp x y) = 0) ↔ (¬ x = y) := by
  have i1 : ∀ z : Int64, ¬ z < z := fun _ => Int64.lt_irrefl
  rcases lg_cmp_cases x y with ⟨h, e⟩ | ⟨h, e⟩ | ⟨h, e⟩
  · rw [e]
    have n1 : ¬ x = y := fun q => i1 _ (q ▸ h)
    have n2 : ¬ y < x := fun q => i1 _ (Int64.lt_trans h q)
    have n3 : x ≤ y := Int64.le_of_lt h
    have n4 : ¬ y ≤ x := Int64.not_le.mpr h
    simp [h, n1, n2, n3, n4]
    try decide
  · subst h
    rw [e]
    simp [i1, Int64.le_refl]
  · rw [e]
    have n1 : ¬ x = y := fun q => i1 _ (q ▸ h)
    have n2 : ¬ x < y := fun q => i1 _ (Int64.lt_trans h q)
    have n3 : y ≤ x := Int64.le_of_lt h
    have n4 : ¬ x ≤ y := Int64.not_le.mpr h
    simp [h, n1, n2, n3, n4]
    try decide
theorem g_lc_ne {x y : Int64} {off : Int} {pm pt : Nat} (hd : xcode k pc = some (.lcmp, 1)) (hq : pc + 1 = pm) (hd2 : xcode k pm = some (.ifCond .ne off, 3)) (hz : (pm : Int) + off = (pt : Int)) (hp : pm + 3 = pc') (ht : ¬ x = y → xGo k pt l st w r) (hf : ¬ (¬ x = y) → xGo k pc' l st w r) : xGo k pc l (.long y :: .long x :: st) w r :=
  g_lcmp hd hq (g_if_ne hd2 hz hp (fun q => ht ((lg_ne x y).mp q)) (fun q => hf (fun z => q ((lg_ne x y).mpr z))))
theorem lg_lt (x y : Int64) : ((lg_cmp x y) < 0) ↔ (x < y) := by
  have i1 : ∀ z : Int64, ¬ z < z := fun _ => Int64.lt_irrefl
  rcases lg_cmp_cases x y with ⟨h, e⟩ | ⟨h, e⟩ | ⟨h, e⟩
  · rw [e]
    have n1 : ¬ x = y := fun q => i1 _ (q ▸ h)
    have n2 : ¬ y < x := fun q => i1 _ (Int64.lt_trans h q)
    have n3 : x ≤ y := Int64.le_of_lt h
    have n4 : ¬ y ≤ x := Int64.not_le.mpr h
    simp [h, n1, n2, n3, n4]
    try decide
  · subst h
    rw [e]
    simp [i1, Int64.le_refl]
  · rw [e]
    have n1 : ¬ x = y := fun q => i1 _ (q ▸ h)
    have n2 : ¬ x < y := fun q => i1 _ (Int64.lt_trans h q)
    have n3 : y ≤ x := Int64.le_of_lt h
    have n4 : ¬ x ≤ y := Int64.not_le.mpr h
    simp [h, n1, n2, n3, n4]
    try decide
theorem g_lc_lt {x y : Int64} {off : Int} {pm pt : Nat} (hd : xcode k pc = some (.lcmp, 1)) (hq : pc + 1 = pm) (hd2 : xcode k pm = some (.ifCond .lt off, 3)) (hz : (pm : Int) + off = (pt : Int)) (hp : pm + 3 = pc') (ht : x < y → xGo k pt l st w r) (hf : ¬ (x < y) → xGo k pc' l st w r) : xGo k pc l (.long y :: .long x :: st) w r :=
  g_lcmp hd hq (g_if_lt hd2 hz hp (fun q => ht ((lg_lt x y).mp q)) (fun q => hf (fun z => q ((lg_lt x y).mpr z))))
theorem lg_ge (x y : Int64) : (0 ≤ (lg_cmp x y)) ↔ (y ≤ x) := by
  have i1 : ∀ z : Int64, ¬ z < z := fun _ => Int64.lt_irrefl
  rcases lg_cmp_cases x y with ⟨h, e⟩ | ⟨h, e⟩ | ⟨h, e⟩
  · rw [e]
    have n1 : ¬ x = y := fun q => i1 _ (q ▸ h)
    have n2 : ¬ y < x := fun q => i1 _ (Int64.lt_trans h q)
    have n3 : x ≤ y := Int64.le_of_lt h
    have n4 : ¬ y ≤ x := Int64.not_le.mpr h
    simp [h, n1, n2, n3, n4]
    try decide
  · subst h
    rw [e]
    simp [i1, Int64.le_refl]
  · rw [e]
    have n1 : ¬ x = y := fun q => i1 _ (q ▸ h)
    have n2 : ¬ x < y := fun q => i1 _ (Int64.lt_trans h q)
    have n3 : y ≤ x := Int64.le_of_lt h
    have n4 : ¬ x ≤ y := Int64.not_le.mpr h
    simp [h, n1, n2, n3, n4]
    try decide
theorem g_lc_ge {x y : Int64} {off : Int} {pm pt : Nat} (hd : xcode k pc = some (.lcmp, 1)) (hq : pc + 1 = pm) (hd2 : xcode k pm = some (.ifCond .ge off, 3)) (hz : (pm : Int) + off = (pt : Int)) (hp : pm + 3 = pc') (ht : y ≤ x → xGo k pt l st w r) (hf : ¬ (y ≤ x) → xGo k pc' l st w r) : xGo k pc l (.long y :: .long x :: st) w r :=
  g_lcmp hd hq (g_if_ge hd2 hz hp (fun q => ht ((lg_ge x y).mp q)) (fun q => hf (fun z => q ((lg_ge x y).mpr z))))
theorem lg_gt (x y : Int64) : (0 < (lg_cmp x y)) ↔ (y < x) := by
  have i1 : ∀ z : Int64, ¬ z < z := fun _ => Int64.lt_irrefl
  rcases lg_cmp_cases x y with ⟨h, e⟩ | ⟨h, e⟩ | ⟨h, e⟩
  · rw [e]
    have n1 : ¬ x = y := fun q => i1 _ (q ▸ h)
    have n2 : ¬ y < x := fun q => i1 _ (Int64.lt_trans h q)
    have n3 : x ≤ y := Int64.le_of_lt h
    have n4 : ¬ y ≤ x := Int64.not_le.mpr h
    simp [h, n1, n2, n3, n4]
    try decide
  · subst h
    rw [e]
    simp [i1, Int64.le_refl]
  · rw [e]
    have n1 : ¬ x = y := fun q => i1 _ (q ▸ h)
    have n2 : ¬ x < y := fun q => i1 _ (Int64.lt_trans h q)
    have n3 : y ≤ x := Int64.le_of_lt h
    have n4 : ¬ x ≤ y := Int64.not_le.mpr h
    simp [h, n1, n2, n3, n4]
    try decide
theorem g_lc_gt {x y : Int64} {off : Int} {pm pt : Nat} (hd : xcode k pc = some (.lcmp, 1)) (hq : pc + 1 = pm) (hd2 : xcode k pm = some (.ifCond .gt off, 3)) (hz : (pm : Int) + off = (pt : Int)) (hp : pm + 3 = pc') (ht : y < x → xGo k pt l st w r) (hf : ¬ (y < x) → xGo k pc' l st w r) : xGo k pc l (.long y :: .long x :: st) w r :=
  g_lcmp hd hq (g_if_gt hd2 hz hp (fun q => ht ((lg_gt x y).mp q)) (fun q => hf (fun z => q ((lg_gt x y).mpr z))))
theorem lg_le (x y : Int64) : ((lg_cmp x y) ≤ 0) ↔ (x ≤ y) := by
  have i1 : ∀ z : Int64, ¬ z < z := fun _ => Int64.lt_irrefl
  rcases lg_cmp_cases x y with ⟨h, e⟩ | ⟨h, e⟩ | ⟨h, e⟩
  · rw [e]
    have n1 : ¬ x = y := fun q => i1 _ (q ▸ h)
    have n2 : ¬ y < x := fun q => i1 _ (Int64.lt_trans h q)
    have n3 : x ≤ y := Int64.le_of_lt h
    have n4 : ¬ y ≤ x := Int64.not_le.mpr h
    simp [h, n1, n2, n3, n4]
    try decide
  · subst h
    rw [e]
    simp [i1, Int64.le_refl]
  · rw [e]
    have n1 : ¬ x = y := fun q => i1 _ (q ▸ h)
    have n2 : ¬ x < y := fun q => i1 _ (Int64.lt_trans h q)
    have n3 : y ≤ x := Int64.le_of_lt h
    have n4 : ¬ x ≤ y := Int64.not_le.mpr h
    simp [h, n1, n2, n3, n4]
    try decide
theorem g_lc_le {x y : Int64} {off : Int} {pm pt : Nat} (hd : xcode k pc = some (.lcmp, 1)) (hq : pc + 1 = pm) (hd2 : xcode k pm = some (.ifCond .le off, 3)) (hz : (pm : Int) + off = (pt : Int)) (hp : pm + 3 = pc') (ht : x ≤ y → xGo k pt l st w r) (hf : ¬ (x ≤ y) → xGo k pc' l st w r) : xGo k pc l (.long y :: .long x :: st) w r :=
  g_lcmp hd hq (g_if_le hd2 hz hp (fun q => ht ((lg_le x y).mp q)) (fun q => hf (fun z => q ((lg_le x y).mpr z))))
theorem g_jump {F : xK} {off : Int} {res : Option Value × xW} {pt : Nat} (hz : (pc : Int) + off = (pt : Int)) (ht : F k pt l st w = some res) : xjump F k pc off l st w = some res := by
  unfold xjump
  have h0 : 0 ≤ (pc : Int) + off := by omega
  have e : xtgt pc off = pt := by unfold xtgt; omega
  rw [if_pos h0, e]
  exact ht
theorem g_goto {off : Int} {pt : Nat} (hd : xcode k pc = some (.goto off, 3)) (hz : (pc : Int) + off = (pt : Int)) (h : xGo k pt l st w r) : xGo k pc l st w r := by
  obtain ⟨n, hn⟩ := h
  exact g_of hd ⟨n, fun m hm => g_jump hz (hn m hm)⟩
theorem g_dup {v : Value} (hd : xcode k pc = some (.dup, 1)) (hp : pc + 1 = pc') (hc : v.category = 1) (h : xGo k pc' l (v :: v :: st) w r) : xGo k pc l (v :: st) w r := by
  subst hp
  refine g_of hd ?_
  simp only [xins, if_true, if_pos hc]
  exact h
theorem g_dup2 {v u : Value} (hd : xcode k pc = some (.dup2, 1)) (hp : pc + 1 = pc') (hc : v.category = 1 ∧ u.category = 1) (h : xGo k pc' l (v :: u :: v :: u :: st) w r) : xGo k pc l (v :: u :: st) w r := by
  subst hp
  refine g_of hd ?_
  simp only [xins, if_true, if_pos hc]
  exact h
theorem g_pop {v : Value} (hd : xcode k pc = some (.pop, 1)) (hp : pc + 1 = pc') (hc : v.category = 1) (h : xGo k pc' l st w r) : xGo k pc l (v :: st) w r := by
  subst hp
  refine g_of hd ?_
  simp only [xins, if_true, if_pos hc]
  exact h
theorem g_getf {ix ci j a : Nat} {c : Int} {fs : List Value} {v : Value} (hd : xcode k pc = some (.getfield ix, 3)) (hp : pc + 3 = pc') (hs : xsite k ix = some (4, ci, j, c)) (hw : w[a]? = some (.inr (ci, fs))) (hv : fs[j]? = some v) (h : xGo k pc' l (v :: st) w r) : xGo k pc l (.ref a :: st) w r := by
  subst hp
  refine g_of hd ?_
  simp only [xins, xgetf, hs, hw, hv, if_true]
  exact h
theorem g_putf {ix ci j a : Nat} {c : Int} {fs : List Value} {v : Value} {ty : FieldType} {fd : String × String × String × Bool} (hd : xcode k pc = some (.putfield ix, 3)) (hp : pc + 3 = pc') (hs : xsite k ix = some (4, ci, j, c)) (ht : (xts.getD ci [])[j]? = some ty) (hf : (xfs.getD ci [])[j]? = some fd) (hfit : xfits ty v = true) (hfin : fd.2.2.2 = false ∨ (xy k).name = "<init>" ∧ fd.1 = (xy k).cls) (hw : w[a]? = some (.inr (ci, fs))) (hj : j < fs.length) (h : xGo k pc' l st (w.set a (.inr (ci, fs.set j v))) r) : xGo k pc l (v :: .ref a :: st) w r := by
  subst hp
  refine g_of hd ?_
  simp only [xins, xputf, hs, hw, if_true, true_and, if_pos hj, ht, hf, hfit, if_pos hfin]
  exact h
theorem g_gets {ix t a b : Nat} {c : Int} (hd : xcode k pc = some (.getstatic ix, 3)) (hp : pc + 3 = pc') (hs : xsite k ix = some (t, a, b, c)) (ht : t = 6 ∨ t = 7) (h : xGo k pc' l (.ref xP :: st) w r) : xGo k pc l st w r := by
  subst hp
  refine g_of hd ?_
  rcases ht with rfl | rfl
  · simp only [xins, xgets, hs, if_true]
    exact h
  · simp only [xins, xgets, hs, if_true]
    exact h
theorem g_iald {a n : Nat} {f : Nat → Int32} {i : Int32} (hd : xcode k pc = some (.iaload, 1)) (hp : pc + 1 = pc') (hw : w[a]? = some (.inl (.inl (n, f)))) (hi : ¬ (i < 0 ∨ n ≤ i.toNatClampNeg)) (h : xGo k pc' l (.int (f i.toNatClampNeg) :: st) w r) : xGo k pc l (.int i :: .ref a :: st) w r := by
  subst hp
  refine g_of hd ?_
  simp only [xins, xald, hw, if_true, if_neg hi]
  exact h
theorem g_pald {i : Int32} (hd : xcode k pc = some (.iaload, 1)) (hp : pc + 1 = pc') (hw : w[xP]? = none) (hi : ¬ (i < 0 ∨ 46 ≤ i.toNatClampNeg)) (h : xGo k pc' l (.int (xpr i.toNatClampNeg) :: st) w r) : xGo k pc l (.int i :: .ref xP :: st) w r := by
  subst hp
  refine g_of hd ?_
  simp only [xins, xald, hw, if_true, if_neg hi]
  exact h
theorem g_lald {a n : Nat} {f : Nat → Int64} {i : Int32} (hd : xcode k pc = some (.laload, 1)) (hp : pc + 1 = pc') (hw : w[a]? = some (.inl (.inr (n, f)))) (hi : ¬ (i < 0 ∨ n ≤ i.toNatClampNeg)) (h : xGo k pc' l (.long (f i.toNatClampNeg) :: st) w r) : xGo k pc l (.int i :: .ref a :: st) w r := by
  subst hp
  refine g_of hd ?_
  simp only [xins, xlald, hw, if_true, if_neg hi]
  exact h
theorem g_iast {a n : Nat} {f : Nat → Int32} {i x : Int32} (hd : xcode k pc = some (.iastore, 1)) (hp : pc + 1 = pc') (hw : w[a]? = some (.inl (.inl (n, f)))) (hi : ¬ (i < 0 ∨ n ≤ i.toNatClampNeg)) (h : xGo k pc' l st (w.set a (.inl (.inl (n, upd f i.toNatClampNeg x)))) r) : xGo k pc l (.int x :: .int i :: .ref a :: st) w r := by
  subst hp
  refine g_of hd ?_
  simp only [xins, xiast, hw, if_true, if_neg hi]
  exact h
theorem g_last {a n : Nat} {f : Nat → Int64} {i : Int32} {x : Int64} (hd : xcode k pc = some (.lastore, 1)) (hp : pc + 1 = pc') (hw : w[a]? = some (.inl (.inr (n, f)))) (hi : ¬ (i < 0 ∨ n ≤ i.toNatClampNeg)) (h : xGo k pc' l st (w.set a (.inl (.inr (n, vp_updL f i.toNatClampNeg x)))) r) : xGo k pc l (.long x :: .int i :: .ref a :: st) w r := by
  subst hp
  refine g_of hd ?_
  simp only [xins, xlast, hw, if_true, if_neg hi]
  exact h
theorem g_leni {a n : Nat} {f : Nat → Int32} (hd : xcode k pc = some (.arraylength, 1)) (hp : pc + 1 = pc') (hw : w[a]? = some (.inl (.inl (n, f)))) (h : xGo k pc' l (.int (Int32.ofNat n) :: st) w r) : xGo k pc l (.ref a :: st) w r := by
  subst hp
  refine g_of hd ?_
  simp only [xins, xalen, hw, if_true]
  exact h
theorem g_lenl {a n : Nat} {f : Nat → Int64} (hd : xcode k pc = some (.arraylength, 1)) (hp : pc + 1 = pc') (hw : w[a]? = some (.inl (.inr (n, f)))) (h : xGo k pc' l (.int (Int32.ofNat n) :: st) w r) : xGo k pc l (.ref a :: st) w r := by
  subst hp
  refine g_of hd ?_
  simp only [xins, xalen, hw, if_true]
  exact h
theorem g_lenp (hd : xcode k pc = some (.arraylength, 1)) (hp : pc + 1 = pc') (hw : w[xP]? = none) (h : xGo k pc' l (.int 46 :: st) w r) : xGo k pc l (.ref xP :: st) w r := by
  subst hp
  refine g_of hd ?_
  simp only [xins, xalen, hw, if_true]
  exact h
theorem g_newi {n : Int32} (hd : xcode k pc = some (.newarray .int, 2)) (hp : pc + 2 = pc') (hn : ¬ (n < 0 ∨ 1000000 < n.toNatClampNeg ∨ xP ≤ w.length + 1)) (h : xGo k pc' l (.ref w.length :: st) (w ++ [.inl (.inl (n.toNatClampNeg, fun _ => 0))]) r) : xGo k pc l (.int n :: st) w r := by
  subst hp
  refine g_of hd ?_
  simp only [xins, xnewa, if_true, if_neg hn]
  exact h
theorem g_newl {n : Int32} (hd : xcode k pc = some (.newarray .long, 2)) (hp : pc + 2 = pc') (hn : ¬ (n < 0 ∨ 1000000 < n.toNatClampNeg ∨ xP ≤ w.length + 1)) (h : xGo k pc' l (.ref w.length :: st) (w ++ [.inl (.inr (n.toNatClampNeg, fun _ => 0))]) r) : xGo k pc l (.int n :: st) w r := by
  subst hp
  refine g_of hd ?_
  simp only [xins, xnewa, if_true, if_neg hn]
  exact h
theorem g_new {ix ci b : Nat} {c : Int} (hd : xcode k pc = some (.new ix, 3)) (hp : pc + 3 = pc') (hs : xsite k ix = some (8, ci, b, c)) (hn : ¬ xP ≤ w.length + 1) (h : xGo k pc' l (.ref w.length :: st) (w ++ [.inr (ci, xvs.getD ci [])]) r) : xGo k pc l st w r := by
  subst hp
  refine g_of hd ?_
  simp only [xins, xnew, hs, if_true, if_neg hn]
  exact h
theorem g_iret {v : Int32} (hd : xcode k pc = some (.ireturn, 1)) (hr : xret k = some .int) (h : r = (some (.int v), w)) : xGo k pc l [.int v] w r := by
  subst h
  refine g_of hd ⟨0, fun m _ => ?_⟩
  simp only [xins, if_true, hr, true_or]
theorem g_zret {v : Int32} (hd : xcode k pc = some (.ireturn, 1)) (hr : xret k = some .boolean) (hv : v = 0 ∨ v = 1) (h : r = (some (.int v), w)) : xGo k pc l [.int v] w r := by
  subst h
  refine g_of hd ⟨0, fun m _ => ?_⟩
  simp only [xins, if_true, hr, hv, true_and, or_true]
theorem g_lret {v : Int64} (hd : xcode k pc = some (.lreturn, 1)) (hr : xret k = some .long) (h : r = (some (.long v), w)) : xGo k pc l [.long v] w r := by
  subst h
  refine g_of hd ⟨0, fun m _ => ?_⟩
  simp only [xins, if_true, hr]
theorem g_vret (hd : xcode k pc = some (.return_, 1)) (hr : xret k = none) (h : r = (none, w)) : xGo k pc l [] w r := by
  subst h
  refine g_of hd ⟨0, fun m _ => ?_⟩
  simp only [xins, if_true, hr]
/-- a call: what the callee comes to, then the rest -/
theorem g_call {z : Nat} {as rest : List Value} {v : Option Value} {w1 : xW} (hp : pc + 3 = pc') (hr : xroom k z = true) (hc : Nat.ble (rest.map fun v => v.category).sum 8 = true) (he : Nat.ble (xent1 as).length (xml z) = true) (h1 : xCall z as w (v, w1)) (h2 : xGo k pc' l (v.toList ++ rest) w1 r) : ∃ n, ∀ m, n ≤ m → xgo (xrun m) k pc l w z as rest = some r := by
  subst hp
  obtain ⟨n1, q1⟩ := h1
  obtain ⟨n2, q2⟩ := h2
  refine ⟨max n1 n2, fun m hm => ?_⟩
  unfold xroom at hr
  simp only [Bool.and_eq_true, Nat.ble_eq, Nat.blt] at hr
  unfold xgo
  rw [if_pos ⟨hr.1.1, hr.1.2, Nat.le_of_ble_eq_true hc, Nat.le_of_ble_eq_true he, by rw [x_mlen]; have := hr.2; omega⟩, q1 m (by omega)]
  exact q2 m (by omega)
theorem g_callS {ix z t : Nat} {c : Int} {as rest : List Value} {v : Option Value} {w1 : xW} (hd : xcode k pc = some (.invokestatic ix, 3)) (hp : pc + 3 = pc') (hs : xsite k ix = some (t, z, 1, c)) (ht : t = 0 ∨ t = 1) {N M : Nat} (hna : xna z = N) (hmz : xml z = M) (hst : st.drop N = rest) (has : (st.take N).reverse = as) (hl : Nat.ble N st.length = true) (hr : xroom k z = true) (hc : Nat.ble (rest.map fun v => v.category).sum 8 = true) (he : Nat.ble (xent1 as).length M = true) (h1 : xCall z as w (v, w1)) (h2 : xGo k pc' l (v.toList ++ rest) w1 r) : xGo k pc l st w r := by
  subst hna; subst hmz
  subst hst; subst has
  refine g_of hd ?_
  have hl := Nat.le_of_ble_eq_true hl
  rcases ht with rfl | rfl
  · simp only [xins, xinvS, hs, if_true, if_pos hl]
    exact g_call hp hr hc he h1 h2
  · simp only [xins, xinvS, hs, if_true, if_pos hl]
    exact g_call hp hr hc he h1 h2
theorem g_callV {ix z b : Nat} {c : Int} {as rest : List Value} {v : Option Value} {w1 : xW} {fs : List Value} (hd : xcode k pc = some (.invokevirtual ix, 3)) (hp : pc + 3 = pc') (hs : xsite k ix = some (0, z, 0, c)) {N M : Nat} (hna : xna z = N) (hmz : xml z = M) (hst : st.drop N = .ref b :: rest) (has : .ref b :: (st.take N).reverse = as) (hl : Nat.ble (N + 1) st.length = true) (hr : xroom k z = true) (hc : Nat.ble (rest.map fun v => v.category).sum 8 = true) (he : Nat.ble (xent1 as).length M = true) {ci : Nat} (ho : xown z = ci) (hw : w[b]? = some (.inr (ci, fs))) (h1 : xCall z as w (v, w1)) (h2 : xGo k pc' l (v.toList ++ rest) w1 r) : xGo k pc l st w r := by
  subst hna; subst hmz
  subst ho
  subst has
  refine g_of hd ?_
  have hl := Nat.le_of_ble_eq_true hl
  simp only [xins, xinvV, hs, if_true, if_pos hl, hst, hw]
  exact g_call hp hr hc he h1 h2
theorem g_callI {ix z t b : Nat} {c : Int} {as rest : List Value} {v : Option Value} {w1 : xW} (hd : xcode k pc = some (.invokespecial ix, 3)) (hp : pc + 3 = pc') (hs : xsite k ix = some (t, z, 2, c)) (ht : t = 0 ∨ t = 1) {N M : Nat} (hna : xna z = N) (hmz : xml z = M) (hst : st.drop N = .ref b :: rest) (has : .ref b :: (st.take N).reverse = as) (hl : Nat.ble (N + 1) st.length = true) (hr : xroom k z = true) (hc : Nat.ble (rest.map fun v => v.category).sum 8 = true) (he : Nat.ble (xent1 as).length M = true) (h1 : xCall z as w (v, w1)) (h2 : xGo k pc' l (v.toList ++ rest) w1 r) : xGo k pc l st w r := by
  subst hna; subst hmz
  subst has
  refine g_of hd ?_
  have hl := Nat.le_of_ble_eq_true hl
  rcases ht with rfl | rfl
  · simp only [xins, xinvI, hs, if_true, if_pos hl, hst]
    exact g_call hp hr hc he h1 h2
  · simp only [xins, xinvI, hs, if_true, if_pos hl, hst]
    exact g_call hp hr hc he h1 h2
theorem g_obj {ix a b a' : Nat} {c : Int} (hd : xcode k pc = some (.invokespecial ix, 3)) (hp : pc + 3 = pc') (hs : xsite k ix = some (2, a, b, c)) (hr : Nat.ble 1 (xfr k) = true) {M : Nat} (hm : xlo k = M) (hc : Nat.ble ((st.map fun v => v.category).sum + 12) M = true) (h : xGo k pc' l st w r) : xGo k pc l (.ref a' :: st) w r := by
  subst hp; subst hm
  refine g_of hd ?_
  simp only [xins, xinvI, hs, if_true, if_pos (And.intro (Nat.le_of_ble_eq_true hr) (Nat.le_of_ble_eq_true hc))]
  exact h
theorem g_cpyi {ix a0 b0 d a n0 n1 : Nat} {c : Int} {f g : Nat → Int32} {n dp sp : Int32} (hd : xcode k pc = some (.invokestatic ix, 3)) (hp : pc + 3 = pc') (hs : xsite k ix = some (3, a0, b0, c)) (hr : Nat.ble 1 (xfr k) = true) {M : Nat} (hm : xlo k = M) (hc : Nat.ble ((st.map fun v => v.category).sum + 18) M = true) (hn : ¬ n < 0 ∧ ¬ dp < 0 ∧ ¬ sp < 0) (ha : w[a]? = some (.inl (.inl (n0, f)))) (hb : w[d]? = some (.inl (.inl (n1, g)))) (hi : sp.toNatClampNeg + n.toNatClampNeg ≤ n0 ∧ dp.toNatClampNeg + n.toNatClampNeg ≤ n1) (h : xGo k pc' l st (w.set d (.inl (.inl (n1, va_cpy f g sp.toNatClampNeg dp.toNatClampNeg n.toNatClampNeg)))) r) : xGo k pc l (.int n :: .int dp :: .ref d :: .int sp :: .ref a :: st) w r := by
  subst hp; subst hm
  have hr := Nat.le_of_ble_eq_true hr
  have hc := Nat.le_of_ble_eq_true hc
  refine g_of hd ?_
  have hneg : ¬ (n < 0 ∨ dp < 0 ∨ sp < 0 ∨ xfr k < 1 ∨ xlo k < (st.map fun v => v.category).sum + 18) := by
    rintro (q | q | q | q | q)
    · exact hn.1 q
    · exact hn.2.1 q
    · exact hn.2.2 q
    · omega
    · omega
  simp only [xins, xinvS, hs, if_true, if_neg hneg, ha, hb, if_pos hi]
  exact h
theorem g_cpyl {ix a0 b0 d a n0 n1 : Nat} {c : Int} {f g : Nat → Int64} {n dp sp : Int32} (hd : xcode k pc = some (.invokestatic ix, 3)) (hp : pc + 3 = pc') (hs : xsite k ix = some (3, a0, b0, c)) (hr : Nat.ble 1 (xfr k) = true) {M : Nat} (hm : xlo k = M) (hc : Nat.ble ((st.map fun v => v.category).sum + 18) M = true) (hn : ¬ n < 0 ∧ ¬ dp < 0 ∧ ¬ sp < 0) (ha : w[a]? = some (.inl (.inr (n0, f)))) (hb : w[d]? = some (.inl (.inr (n1, g)))) (hi : sp.toNatClampNeg + n.toNatClampNeg ≤ n0 ∧ dp.toNatClampNeg + n.toNatClampNeg ≤ n1) (h : xGo k pc' l st (w.set d (.inl (.inr (n1, va_cpy f g sp.toNatClampNeg dp.toNatClampNeg n.toNatClampNeg)))) r) : xGo k pc l (.int n :: .int dp :: .ref d :: .int sp :: .ref a :: st) w r := by
  subst hp; subst hm
  have hr := Nat.le_of_ble_eq_true hr
  have hc := Nat.le_of_ble_eq_true hc
  refine g_of hd ?_
  have hneg : ¬ (n < 0 ∨ dp < 0 ∨ sp < 0 ∨ xfr k < 1 ∨ xlo k < (st.map fun v => v.category).sum + 18) := by
    rintro (q | q | q | q | q)
    · exact hn.1 q
    · exact hn.2.1 q
    · exact hn.2.2 q
    · omega
    · omega
  simp only [xins, xinvS, hs, if_true, if_neg hneg, ha, hb, if_pos hi]
  exact h
/-- a switch: of a number in the table -/
theorem g_tswIn {d lo hi off : Int} {offs : Array Int} {len pt : Nat} {x : Int32} (hd : xcode k pc = some (.tableswitch d lo hi offs, len)) (h1 : ¬ (x.toInt < lo ∨ hi < x.toInt)) (ho : offs[(x.toInt - lo).toNat]? = some off) (hz : (pc : Int) + off = (pt : Int)) (h : xGo k pt l st w r) : xGo k pc l (.int x :: st) w r := by
  obtain ⟨n, hn⟩ := h
  refine g_of hd ⟨n, fun m hm => ?_⟩
  simp only [xins, if_neg h1, ho]
  exact g_jump hz (hn m hm)
theorem g_tswOut {d lo hi : Int} {offs : Array Int} {len pt : Nat} {x : Int32} (hd : xcode k pc = some (.tableswitch d lo hi offs, len)) (h1 : x.toInt < lo ∨ hi < x.toInt) (hz : (pc : Int) + d = (pt : Int)) (h : xGo k pt l st w r) : xGo k pc l (.int x :: st) w r := by
  obtain ⟨n, hn⟩ := h
  refine g_of hd ⟨n, fun m hm => ?_⟩
  simp only [xins, if_pos h1]
  exact g_jump hz (hn m hm)
end GO
/-- a cell that was written is read -/
theorem x_gss {w : xW} {a : Nat} {c c' : xC} (h : w[a]? = some c) : (w.set a c')[a]? = some c' := by
  rw [List.getElem?_set_self (List.getElem?_eq_some_iff.mp h).1]
end
section
/-! instructions by their places, laid by wip/whole/wp.py -/
theorem d_0_0 : xcode 0 0 = some (.aload_n 0, 1) := by decide +kernel
theorem d_0_1 : xcode 0 1 = some (.invokespecial 5, 3) := by decide +kernel
theorem d_0_4 : xcode 0 4 = some (.aload_n 0, 1) := by decide +kernel
theorem d_0_5 : xcode 0 5 = some (.new 11, 3) := by decide +kernel
theorem d_0_8 : xcode 0 8 = some (.dup, 1) := by decide +kernel
theorem d_0_9 : xcode 0 9 = some (.invokespecial 13, 3) := by decide +kernel
theorem d_0_12 : xcode 0 12 = some (.putfield 14, 3) := by decide +kernel
theorem d_0_15 : xcode 0 15 = some (.aload_n 0, 1) := by decide +kernel
theorem d_0_16 : xcode 0 16 = some (.new 18, 3) := by decide +kernel
theorem d_0_19 : xcode 0 19 = some (.dup, 1) := by decide +kernel
theorem d_0_20 : xcode 0 20 = some (.invokespecial 20, 3) := by decide +kernel
theorem d_0_23 : xcode 0 23 = some (.putfield 21, 3) := by decide +kernel
theorem d_0_26 : xcode 0 26 = some (.aload_n 0, 1) := by decide +kernel
theorem d_0_27 : xcode 0 27 = some (.new 25, 3) := by decide +kernel
theorem d_0_30 : xcode 0 30 = some (.dup, 1) := by decide +kernel
theorem d_0_31 : xcode 0 31 = some (.invokespecial 27, 3) := by decide +kernel
theorem d_0_34 : xcode 0 34 = some (.putfield 28, 3) := by decide +kernel
theorem d_0_37 : xcode 0 37 = some (.aload_n 0, 1) := by decide +kernel
theorem d_0_38 : xcode 0 38 = some (.new 32, 3) := by decide +kernel
theorem d_0_41 : xcode 0 41 = some (.dup, 1) := by decide +kernel
theorem d_0_42 : xcode 0 42 = some (.invokespecial 34, 3) := by decide +kernel
theorem d_0_45 : xcode 0 45 = some (.putfield 35, 3) := by decide +kernel
theorem d_0_48 : xcode 0 48 = some (.aload_n 0, 1) := by decide +kernel
theorem d_0_49 : xcode 0 49 = some (.new 32, 3) := by decide +kernel
theorem d_0_52 : xcode 0 52 = some (.dup, 1) := by decide +kernel
theorem d_0_53 : xcode 0 53 = some (.invokespecial 34, 3) := by decide +kernel
theorem d_0_56 : xcode 0 56 = some (.putfield 39, 3) := by decide +kernel
theorem d_0_59 : xcode 0 59 = some (.aload_n 0, 1) := by decide +kernel
theorem d_0_60 : xcode 0 60 = some (.new 32, 3) := by decide +kernel
theorem d_0_63 : xcode 0 63 = some (.dup, 1) := by decide +kernel
theorem d_0_64 : xcode 0 64 = some (.invokespecial 34, 3) := by decide +kernel
theorem d_0_67 : xcode 0 67 = some (.putfield 42, 3) := by decide +kernel
theorem d_0_70 : xcode 0 70 = some (.aload_n 0, 1) := by decide +kernel
theorem d_0_71 : xcode 0 71 = some (.bipush 39, 2) := by decide +kernel
theorem d_0_73 : xcode 0 73 = some (.newarray .int, 2) := by decide +kernel
theorem d_0_75 : xcode 0 75 = some (.putfield 45, 3) := by decide +kernel
theorem d_0_78 : xcode 0 78 = some (.aload_n 0, 1) := by decide +kernel
theorem d_0_79 : xcode 0 79 = some (.iconst (-1), 1) := by decide +kernel
theorem d_0_80 : xcode 0 80 = some (.putfield 49, 3) := by decide +kernel
theorem d_0_83 : xcode 0 83 = some (.aload_n 0, 1) := by decide +kernel
theorem d_0_84 : xcode 0 84 = some (.new 53, 3) := by decide +kernel
theorem d_0_87 : xcode 0 87 = some (.dup, 1) := by decide +kernel
theorem d_0_88 : xcode 0 88 = some (.aload_n 0, 1) := by decide +kernel
theorem d_0_89 : xcode 0 89 = some (.getfield 39, 3) := by decide +kernel
theorem d_0_92 : xcode 0 92 = some (.aload_n 0, 1) := by decide +kernel
theorem d_0_93 : xcode 0 93 = some (.getfield 14, 3) := by decide +kernel
theorem d_0_96 : xcode 0 96 = some (.aload_n 0, 1) := by decide +kernel
theorem d_0_97 : xcode 0 97 = some (.getfield 21, 3) := by decide +kernel
theorem d_0_100 : xcode 0 100 = some (.invokespecial 55, 3) := by decide +kernel
theorem d_0_103 : xcode 0 103 = some (.putfield 58, 3) := by decide +kernel
theorem d_0_106 : xcode 0 106 = some (.aload_n 0, 1) := by decide +kernel
theorem d_0_107 : xcode 0 107 = some (.new 62, 3) := by decide +kernel
theorem d_0_110 : xcode 0 110 = some (.dup, 1) := by decide +kernel
theorem d_0_111 : xcode 0 111 = some (.invokespecial 64, 3) := by decide +kernel
theorem d_0_114 : xcode 0 114 = some (.putfield 65, 3) := by decide +kernel
theorem d_0_117 : xcode 0 117 = some (.aload_n 0, 1) := by decide +kernel
theorem d_0_118 : xcode 0 118 = some (.new 69, 3) := by decide +kernel
theorem d_0_121 : xcode 0 121 = some (.dup, 1) := by decide +kernel
theorem d_0_122 : xcode 0 122 = some (.invokespecial 71, 3) := by decide +kernel
theorem d_0_125 : xcode 0 125 = some (.putfield 72, 3) := by decide +kernel
theorem d_0_128 : xcode 0 128 = some (.aload_n 0, 1) := by decide +kernel
theorem d_0_129 : xcode 0 129 = some (.new 76, 3) := by decide +kernel
theorem d_0_132 : xcode 0 132 = some (.dup, 1) := by decide +kernel
theorem d_0_133 : xcode 0 133 = some (.aload_n 0, 1) := by decide +kernel
theorem d_0_134 : xcode 0 134 = some (.getfield 72, 3) := by decide +kernel
theorem d_0_137 : xcode 0 137 = some (.invokespecial 78, 3) := by decide +kernel
theorem d_0_140 : xcode 0 140 = some (.putfield 81, 3) := by decide +kernel
theorem d_0_143 : xcode 0 143 = some (.aload_n 0, 1) := by decide +kernel
theorem d_0_144 : xcode 0 144 = some (.new 85, 3) := by decide +kernel
theorem d_0_147 : xcode 0 147 = some (.dup, 1) := by decide +kernel
theorem d_0_148 : xcode 0 148 = some (.invokespecial 87, 3) := by decide +kernel
theorem d_0_151 : xcode 0 151 = some (.putfield 88, 3) := by decide +kernel
theorem d_0_154 : xcode 0 154 = some (.aload_n 0, 1) := by decide +kernel
theorem d_0_155 : xcode 0 155 = some (.new 92, 3) := by decide +kernel
theorem d_0_158 : xcode 0 158 = some (.dup, 1) := by decide +kernel
theorem d_0_159 : xcode 0 159 = some (.invokespecial 94, 3) := by decide +kernel
theorem d_0_162 : xcode 0 162 = some (.putfield 95, 3) := by decide +kernel
theorem d_0_165 : xcode 0 165 = some (.aload_n 0, 1) := by decide +kernel
theorem d_0_166 : xcode 0 166 = some (.bipush 40, 2) := by decide +kernel
theorem d_0_168 : xcode 0 168 = some (.newarray .long, 2) := by decide +kernel
theorem d_0_170 : xcode 0 170 = some (.putfield 99, 3) := by decide +kernel
theorem d_0_173 : xcode 0 173 = some (.aload_n 0, 1) := by decide +kernel
theorem d_0_174 : xcode 0 174 = some (.bipush 40, 2) := by decide +kernel
theorem d_0_176 : xcode 0 176 = some (.newarray .long, 2) := by decide +kernel
theorem d_0_178 : xcode 0 178 = some (.putfield 103, 3) := by decide +kernel
theorem d_0_181 : xcode 0 181 = some (.aload_n 0, 1) := by decide +kernel
theorem d_0_182 : xcode 0 182 = some (.getfield 28, 3) := by decide +kernel
theorem d_0_185 : xcode 0 185 = some (.bipush 38, 2) := by decide +kernel
theorem d_0_187 : xcode 0 187 = some (.invokevirtual 106, 3) := by decide +kernel
theorem d_0_190 : xcode 0 190 = some (.iconst 0, 1) := by decide +kernel
theorem d_0_191 : xcode 0 191 = some (.istore_n 1, 1) := by decide +kernel
theorem d_0_192 : xcode 0 192 = some (.iload_n 1, 1) := by decide +kernel
theorem d_0_193 : xcode 0 193 = some (.bipush 38, 2) := by decide +kernel
theorem d_0_195 : xcode 0 195 = some (.if_icmp .gt 40, 3) := by decide +kernel
theorem d_0_198 : xcode 0 198 = some (.aload_n 0, 1) := by decide +kernel
theorem d_0_199 : xcode 0 199 = some (.getfield 28, 3) := by decide +kernel
theorem d_0_202 : xcode 0 202 = some (.iload_n 1, 1) := by decide +kernel
theorem d_0_203 : xcode 0 203 = some (.aload_n 0, 1) := by decide +kernel
theorem d_0_204 : xcode 0 204 = some (.getfield 95, 3) := by decide +kernel
theorem d_0_207 : xcode 0 207 = some (.invokevirtual 110, 3) := by decide +kernel
theorem d_0_210 : xcode 0 210 = some (.aload_n 0, 1) := by decide +kernel
theorem d_0_211 : xcode 0 211 = some (.getfield 35, 3) := by decide +kernel
theorem d_0_214 : xcode 0 214 = some (.iload_n 1, 1) := by decide +kernel
theorem d_0_215 : xcode 0 215 = some (.aload_n 0, 1) := by decide +kernel
theorem d_0_216 : xcode 0 216 = some (.getfield 95, 3) := by decide +kernel
theorem d_0_219 : xcode 0 219 = some (.invokevirtual 114, 3) := by decide +kernel
theorem d_0_222 : xcode 0 222 = some (.aload_n 0, 1) := by decide +kernel
theorem d_0_223 : xcode 0 223 = some (.getfield 28, 3) := by decide +kernel
theorem d_0_226 : xcode 0 226 = some (.invokevirtual 117, 3) := by decide +kernel
theorem d_0_229 : xcode 0 229 = some (.iinc 1 1, 3) := by decide +kernel
theorem d_0_232 : xcode 0 232 = some (.goto (-40), 3) := by decide +kernel
theorem d_0_235 : xcode 0 235 = some (.return_, 1) := by decide +kernel
theorem d_1_0 : xcode 1 0 = some (.aload_n 0, 1) := by decide +kernel
theorem d_1_1 : xcode 1 1 = some (.invokespecial 3, 3) := by decide +kernel
theorem d_1_4 : xcode 1 4 = some (.aload_n 0, 1) := by decide +kernel
theorem d_1_5 : xcode 1 5 = some (.sipush 1764, 3) := by decide +kernel
theorem d_1_8 : xcode 1 8 = some (.newarray .long, 2) := by decide +kernel
theorem d_1_10 : xcode 1 10 = some (.putfield 11, 3) := by decide +kernel
theorem d_1_13 : xcode 1 13 = some (.iconst 0, 1) := by decide +kernel
theorem d_1_14 : xcode 1 14 = some (.istore_n 1, 1) := by decide +kernel
theorem d_1_15 : xcode 1 15 = some (.iload_n 1, 1) := by decide +kernel
theorem d_1_16 : xcode 1 16 = some (.bipush 42, 2) := by decide +kernel
theorem d_1_18 : xcode 1 18 = some (.if_icmp .ge 67, 3) := by decide +kernel
theorem d_1_21 : xcode 1 21 = some (.aload_n 0, 1) := by decide +kernel
theorem d_1_22 : xcode 1 22 = some (.getfield 11, 3) := by decide +kernel
theorem d_1_25 : xcode 1 25 = some (.iload_n 1, 1) := by decide +kernel
theorem d_1_26 : xcode 1 26 = some (.bipush 42, 2) := by decide +kernel
theorem d_1_28 : xcode 1 28 = some (.imul, 1) := by decide +kernel
theorem d_1_29 : xcode 1 29 = some (.lconst 1, 1) := by decide +kernel
theorem d_1_30 : xcode 1 30 = some (.lastore, 1) := by decide +kernel
theorem d_1_31 : xcode 1 31 = some (.iconst 1, 1) := by decide +kernel
theorem d_1_32 : xcode 1 32 = some (.istore_n 2, 1) := by decide +kernel
theorem d_1_33 : xcode 1 33 = some (.iload_n 2, 1) := by decide +kernel
theorem d_1_34 : xcode 1 34 = some (.iload_n 1, 1) := by decide +kernel
theorem d_1_35 : xcode 1 35 = some (.if_icmp .gt 44, 3) := by decide +kernel
theorem d_1_38 : xcode 1 38 = some (.iload_n 1, 1) := by decide +kernel
theorem d_1_39 : xcode 1 39 = some (.iconst 1, 1) := by decide +kernel
theorem d_1_40 : xcode 1 40 = some (.isub, 1) := by decide +kernel
theorem d_1_41 : xcode 1 41 = some (.bipush 42, 2) := by decide +kernel
theorem d_1_43 : xcode 1 43 = some (.imul, 1) := by decide +kernel
theorem d_1_44 : xcode 1 44 = some (.iload_n 2, 1) := by decide +kernel
theorem d_1_45 : xcode 1 45 = some (.iadd, 1) := by decide +kernel
theorem d_1_46 : xcode 1 46 = some (.istore_n 3, 1) := by decide +kernel
theorem d_1_47 : xcode 1 47 = some (.aload_n 0, 1) := by decide +kernel
theorem d_1_48 : xcode 1 48 = some (.getfield 11, 3) := by decide +kernel
theorem d_1_51 : xcode 1 51 = some (.iload_n 1, 1) := by decide +kernel
theorem d_1_52 : xcode 1 52 = some (.bipush 42, 2) := by decide +kernel
theorem d_1_54 : xcode 1 54 = some (.imul, 1) := by decide +kernel
theorem d_1_55 : xcode 1 55 = some (.iload_n 2, 1) := by decide +kernel
theorem d_1_56 : xcode 1 56 = some (.iadd, 1) := by decide +kernel
theorem d_1_57 : xcode 1 57 = some (.aload_n 0, 1) := by decide +kernel
theorem d_1_58 : xcode 1 58 = some (.getfield 11, 3) := by decide +kernel
theorem d_1_61 : xcode 1 61 = some (.iload_n 3, 1) := by decide +kernel
theorem d_1_62 : xcode 1 62 = some (.iconst 1, 1) := by decide +kernel
theorem d_1_63 : xcode 1 63 = some (.isub, 1) := by decide +kernel
theorem d_1_64 : xcode 1 64 = some (.laload, 1) := by decide +kernel
theorem d_1_65 : xcode 1 65 = some (.aload_n 0, 1) := by decide +kernel
theorem d_1_66 : xcode 1 66 = some (.getfield 11, 3) := by decide +kernel
theorem d_1_69 : xcode 1 69 = some (.iload_n 3, 1) := by decide +kernel
theorem d_1_70 : xcode 1 70 = some (.laload, 1) := by decide +kernel
theorem d_1_71 : xcode 1 71 = some (.ladd, 1) := by decide +kernel
theorem d_1_72 : xcode 1 72 = some (.lastore, 1) := by decide +kernel
theorem d_1_73 : xcode 1 73 = some (.iinc 2 1, 3) := by decide +kernel
theorem d_1_76 : xcode 1 76 = some (.goto (-43), 3) := by decide +kernel
theorem d_1_79 : xcode 1 79 = some (.iinc 1 1, 3) := by decide +kernel
theorem d_1_82 : xcode 1 82 = some (.goto (-67), 3) := by decide +kernel
theorem d_1_85 : xcode 1 85 = some (.return_, 1) := by decide +kernel
theorem d_2_0 : xcode 2 0 = some (.aload_n 0, 1) := by decide +kernel
theorem d_2_1 : xcode 2 1 = some (.invokespecial 1, 3) := by decide +kernel
theorem d_2_4 : xcode 2 4 = some (.aload_n 0, 1) := by decide +kernel
theorem d_2_5 : xcode 2 5 = some (.lconst 1, 1) := by decide +kernel
theorem d_2_6 : xcode 2 6 = some (.putfield 7, 3) := by decide +kernel
theorem d_2_9 : xcode 2 9 = some (.return_, 1) := by decide +kernel
theorem d_3_0 : xcode 3 0 = some (.aload_n 0, 1) := by decide +kernel
theorem d_3_1 : xcode 3 1 = some (.invokespecial 3, 3) := by decide +kernel
theorem d_3_4 : xcode 3 4 = some (.aload_n 0, 1) := by decide +kernel
theorem d_3_5 : xcode 3 5 = some (.bipush 39, 2) := by decide +kernel
theorem d_3_7 : xcode 3 7 = some (.newarray .long, 2) := by decide +kernel
theorem d_3_9 : xcode 3 9 = some (.putfield 9, 3) := by decide +kernel
theorem d_3_12 : xcode 3 12 = some (.aload_n 0, 1) := by decide +kernel
theorem d_3_13 : xcode 3 13 = some (.bipush 39, 2) := by decide +kernel
theorem d_3_15 : xcode 3 15 = some (.newarray .long, 2) := by decide +kernel
theorem d_3_17 : xcode 3 17 = some (.putfield 15, 3) := by decide +kernel
theorem d_3_20 : xcode 3 20 = some (.return_, 1) := by decide +kernel
theorem d_4_0 : xcode 4 0 = some (.aload_n 0, 1) := by decide +kernel
theorem d_4_1 : xcode 4 1 = some (.invokespecial 3, 3) := by decide +kernel
theorem d_4_4 : xcode 4 4 = some (.aload_n 0, 1) := by decide +kernel
theorem d_4_5 : xcode 4 5 = some (.bipush 39, 2) := by decide +kernel
theorem d_4_7 : xcode 4 7 = some (.newarray .long, 2) := by decide +kernel
theorem d_4_9 : xcode 4 9 = some (.putfield 9, 3) := by decide +kernel
theorem d_4_12 : xcode 4 12 = some (.aload_n 0, 1) := by decide +kernel
theorem d_4_13 : xcode 4 13 = some (.bipush 39, 2) := by decide +kernel
theorem d_4_15 : xcode 4 15 = some (.newarray .long, 2) := by decide +kernel
theorem d_4_17 : xcode 4 17 = some (.putfield 15, 3) := by decide +kernel
theorem d_4_20 : xcode 4 20 = some (.aload_n 0, 1) := by decide +kernel
theorem d_4_21 : xcode 4 21 = some (.bipush 39, 2) := by decide +kernel
theorem d_4_23 : xcode 4 23 = some (.newarray .long, 2) := by decide +kernel
theorem d_4_25 : xcode 4 25 = some (.putfield 18, 3) := by decide +kernel
theorem d_4_28 : xcode 4 28 = some (.aload_n 0, 1) := by decide +kernel
theorem d_4_29 : xcode 4 29 = some (.new 21, 3) := by decide +kernel
theorem d_4_32 : xcode 4 32 = some (.dup, 1) := by decide +kernel
theorem d_4_33 : xcode 4 33 = some (.invokespecial 23, 3) := by decide +kernel
theorem d_4_36 : xcode 4 36 = some (.putfield 24, 3) := by decide +kernel
theorem d_4_39 : xcode 4 39 = some (.aload_n 0, 1) := by decide +kernel
theorem d_4_40 : xcode 4 40 = some (.getfield 18, 3) := by decide +kernel
theorem d_4_43 : xcode 4 43 = some (.lconst 1, 1) := by decide +kernel
theorem d_4_44 : xcode 4 44 = some (.invokestatic 28, 3) := by decide +kernel
theorem d_4_47 : xcode 4 47 = some (.return_, 1) := by decide +kernel
theorem d_5_0 : xcode 5 0 = some (.aload_n 0, 1) := by decide +kernel
theorem d_5_1 : xcode 5 1 = some (.invokespecial 1, 3) := by decide +kernel
theorem d_5_4 : xcode 5 4 = some (.aload_n 0, 1) := by decide +kernel
theorem d_5_5 : xcode 5 5 = some (.lconst 1, 1) := by decide +kernel
theorem d_5_6 : xcode 5 6 = some (.putfield 7, 3) := by decide +kernel
theorem d_5_9 : xcode 5 9 = some (.return_, 1) := by decide +kernel
theorem d_6_0 : xcode 6 0 = some (.iconst 0, 1) := by decide +kernel
theorem d_6_1 : xcode 6 1 = some (.istore_n 3, 1) := by decide +kernel
theorem d_6_2 : xcode 6 2 = some (.aload_n 0, 1) := by decide +kernel
theorem d_6_3 : xcode 6 3 = some (.arraylength, 1) := by decide +kernel
theorem d_6_4 : xcode 6 4 = some (.istore 4, 2) := by decide +kernel
theorem d_6_6 : xcode 6 6 = some (.iload_n 3, 1) := by decide +kernel
theorem d_6_7 : xcode 6 7 = some (.iload 4, 2) := by decide +kernel
theorem d_6_9 : xcode 6 9 = some (.if_icmp .ge 13, 3) := by decide +kernel
theorem d_6_12 : xcode 6 12 = some (.aload_n 0, 1) := by decide +kernel
theorem d_6_13 : xcode 6 13 = some (.iload_n 3, 1) := by decide +kernel
theorem d_6_14 : xcode 6 14 = some (.lload_n 1, 1) := by decide +kernel
theorem d_6_15 : xcode 6 15 = some (.lastore, 1) := by decide +kernel
theorem d_6_16 : xcode 6 16 = some (.iinc 3 1, 3) := by decide +kernel
theorem d_6_19 : xcode 6 19 = some (.goto (-13), 3) := by decide +kernel
theorem d_6_22 : xcode 6 22 = some (.return_, 1) := by decide +kernel
theorem d_7_0 : xcode 7 0 = some (.aload_n 0, 1) := by decide +kernel
theorem d_7_1 : xcode 7 1 = some (.invokespecial 3, 3) := by decide +kernel
theorem d_7_4 : xcode 7 4 = some (.aload_n 0, 1) := by decide +kernel
theorem d_7_5 : xcode 7 5 = some (.aload_n 1, 1) := by decide +kernel
theorem d_7_6 : xcode 7 6 = some (.putfield 9, 3) := by decide +kernel
theorem d_7_9 : xcode 7 9 = some (.aload_n 0, 1) := by decide +kernel
theorem d_7_10 : xcode 7 10 = some (.aload_n 2, 1) := by decide +kernel
theorem d_7_11 : xcode 7 11 = some (.putfield 15, 3) := by decide +kernel
theorem d_7_14 : xcode 7 14 = some (.aload_n 0, 1) := by decide +kernel
theorem d_7_15 : xcode 7 15 = some (.aload_n 3, 1) := by decide +kernel
theorem d_7_16 : xcode 7 16 = some (.putfield 19, 3) := by decide +kernel
theorem d_7_19 : xcode 7 19 = some (.return_, 1) := by decide +kernel
theorem d_8_0 : xcode 8 0 = some (.aload_n 0, 1) := by decide +kernel
theorem d_8_1 : xcode 8 1 = some (.invokespecial 3, 3) := by decide +kernel
theorem d_8_4 : xcode 8 4 = some (.aload_n 0, 1) := by decide +kernel
theorem d_8_5 : xcode 8 5 = some (.bipush 20, 2) := by decide +kernel
theorem d_8_7 : xcode 8 7 = some (.newarray .int, 2) := by decide +kernel
theorem d_8_9 : xcode 8 9 = some (.putfield 11, 3) := by decide +kernel
theorem d_8_12 : xcode 8 12 = some (.aload_n 0, 1) := by decide +kernel
theorem d_8_13 : xcode 8 13 = some (.bipush 20, 2) := by decide +kernel
theorem d_8_15 : xcode 8 15 = some (.newarray .int, 2) := by decide +kernel
theorem d_8_17 : xcode 8 17 = some (.putfield 15, 3) := by decide +kernel
theorem d_8_20 : xcode 8 20 = some (.aload_n 0, 1) := by decide +kernel
theorem d_8_21 : xcode 8 21 = some (.bipush 20, 2) := by decide +kernel
theorem d_8_23 : xcode 8 23 = some (.newarray .int, 2) := by decide +kernel
theorem d_8_25 : xcode 8 25 = some (.putfield 18, 3) := by decide +kernel
theorem d_8_28 : xcode 8 28 = some (.return_, 1) := by decide +kernel
theorem d_9_0 : xcode 9 0 = some (.aload_n 0, 1) := by decide +kernel
theorem d_9_1 : xcode 9 1 = some (.invokespecial 3, 3) := by decide +kernel
theorem d_9_4 : xcode 9 4 = some (.aload_n 0, 1) := by decide +kernel
theorem d_9_5 : xcode 9 5 = some (.sipush 200, 3) := by decide +kernel
theorem d_9_8 : xcode 9 8 = some (.newarray .long, 2) := by decide +kernel
theorem d_9_10 : xcode 9 10 = some (.putfield 9, 3) := by decide +kernel
theorem d_9_13 : xcode 9 13 = some (.aload_n 0, 1) := by decide +kernel
theorem d_9_14 : xcode 9 14 = some (.sipush 200, 3) := by decide +kernel
theorem d_9_17 : xcode 9 17 = some (.newarray .long, 2) := by decide +kernel
theorem d_9_19 : xcode 9 19 = some (.putfield 15, 3) := by decide +kernel
theorem d_9_22 : xcode 9 22 = some (.return_, 1) := by decide +kernel
theorem d_10_0 : xcode 10 0 = some (.aload_n 0, 1) := by decide +kernel
theorem d_10_1 : xcode 10 1 = some (.invokespecial 3, 3) := by decide +kernel
theorem d_10_4 : xcode 10 4 = some (.aload_n 0, 1) := by decide +kernel
theorem d_10_5 : xcode 10 5 = some (.bipush 100, 2) := by decide +kernel
theorem d_10_7 : xcode 10 7 = some (.newarray .int, 2) := by decide +kernel
theorem d_10_9 : xcode 10 9 = some (.putfield 11, 3) := by decide +kernel
theorem d_10_12 : xcode 10 12 = some (.aload_n 0, 1) := by decide +kernel
theorem d_10_13 : xcode 10 13 = some (.bipush 100, 2) := by decide +kernel
theorem d_10_15 : xcode 10 15 = some (.newarray .int, 2) := by decide +kernel
theorem d_10_17 : xcode 10 17 = some (.putfield 15, 3) := by decide +kernel
theorem d_10_20 : xcode 10 20 = some (.aload_n 0, 1) := by decide +kernel
theorem d_10_21 : xcode 10 21 = some (.iconst 1, 1) := by decide +kernel
theorem d_10_22 : xcode 10 22 = some (.putfield 18, 3) := by decide +kernel
theorem d_10_25 : xcode 10 25 = some (.aload_n 0, 1) := by decide +kernel
theorem d_10_26 : xcode 10 26 = some (.aload_n 1, 1) := by decide +kernel
theorem d_10_27 : xcode 10 27 = some (.putfield 22, 3) := by decide +kernel
theorem d_10_30 : xcode 10 30 = some (.return_, 1) := by decide +kernel
theorem d_11_0 : xcode 11 0 = some (.aload_n 0, 1) := by decide +kernel
theorem d_11_1 : xcode 11 1 = some (.invokespecial 1, 3) := by decide +kernel
theorem d_11_4 : xcode 11 4 = some (.aload_n 0, 1) := by decide +kernel
theorem d_11_5 : xcode 11 5 = some (.bipush 28, 2) := by decide +kernel
theorem d_11_7 : xcode 11 7 = some (.newarray .long, 2) := by decide +kernel
theorem d_11_9 : xcode 11 9 = some (.putfield 9, 3) := by decide +kernel
theorem d_11_12 : xcode 11 12 = some (.aload_n 0, 1) := by decide +kernel
theorem d_11_13 : xcode 11 13 = some (.iconst 1, 1) := by decide +kernel
theorem d_11_14 : xcode 11 14 = some (.putfield 13, 3) := by decide +kernel
theorem d_11_17 : xcode 11 17 = some (.return_, 1) := by decide +kernel
theorem d_12_0 : xcode 12 0 = some (.aload_n 0, 1) := by decide +kernel
theorem d_12_1 : xcode 12 1 = some (.iload_n 1, 1) := by decide +kernel
theorem d_12_2 : xcode 12 2 = some (.bipush 38, 2) := by decide +kernel
theorem d_12_4 : xcode 12 4 = some (.invokestatic 18, 3) := by decide +kernel
theorem d_12_7 : xcode 12 7 = some (.putfield 24, 3) := by decide +kernel
theorem d_12_10 : xcode 12 10 = some (.iconst 0, 1) := by decide +kernel
theorem d_12_11 : xcode 12 11 = some (.istore_n 2, 1) := by decide +kernel
theorem d_12_12 : xcode 12 12 = some (.iload_n 2, 1) := by decide +kernel
theorem d_12_13 : xcode 12 13 = some (.aload_n 0, 1) := by decide +kernel
theorem d_12_14 : xcode 12 14 = some (.getfield 24, 3) := by decide +kernel
theorem d_12_17 : xcode 12 17 = some (.if_icmp .gt 46, 3) := by decide +kernel
theorem d_12_20 : xcode 12 20 = some (.aload_n 0, 1) := by decide +kernel
theorem d_12_21 : xcode 12 21 = some (.getfield 9, 3) := by decide +kernel
theorem d_12_24 : xcode 12 24 = some (.iload_n 2, 1) := by decide +kernel
theorem d_12_25 : xcode 12 25 = some (.iload_n 2, 1) := by decide +kernel
theorem d_12_26 : xcode 12 26 = some (.ifCond .ne 7, 3) := by decide +kernel
theorem d_12_29 : xcode 12 29 = some (.lconst 1, 1) := by decide +kernel
theorem d_12_30 : xcode 12 30 = some (.goto 4, 3) := by decide +kernel
theorem d_12_33 : xcode 12 33 = some (.lconst 0, 1) := by decide +kernel
theorem d_12_34 : xcode 12 34 = some (.lastore, 1) := by decide +kernel
theorem d_12_35 : xcode 12 35 = some (.aload_n 0, 1) := by decide +kernel
theorem d_12_36 : xcode 12 36 = some (.getfield 15, 3) := by decide +kernel
theorem d_12_39 : xcode 12 39 = some (.iload_n 2, 1) := by decide +kernel
theorem d_12_40 : xcode 12 40 = some (.iload_n 2, 1) := by decide +kernel
theorem d_12_41 : xcode 12 41 = some (.ifCond .ne 7, 3) := by decide +kernel
theorem d_12_44 : xcode 12 44 = some (.lconst 0, 1) := by decide +kernel
theorem d_12_45 : xcode 12 45 = some (.goto 11, 3) := by decide +kernel
theorem d_12_48 : xcode 12 48 = some (.ldc2_w 28, 3) := by decide +kernel
theorem d_12_51 : xcode 12 51 = some (.iload_n 2, 1) := by decide +kernel
theorem d_12_52 : xcode 12 52 = some (.iconst 1, 1) := by decide +kernel
theorem d_12_53 : xcode 12 53 = some (.iadd, 1) := by decide +kernel
theorem d_12_54 : xcode 12 54 = some (.i2l, 1) := by decide +kernel
theorem d_12_55 : xcode 12 55 = some (.ldiv, 1) := by decide +kernel
theorem d_12_56 : xcode 12 56 = some (.lastore, 1) := by decide +kernel
theorem d_12_57 : xcode 12 57 = some (.iinc 2 1, 3) := by decide +kernel
theorem d_12_60 : xcode 12 60 = some (.goto (-48), 3) := by decide +kernel
theorem d_12_63 : xcode 12 63 = some (.return_, 1) := by decide +kernel
theorem d_13_0 : xcode 13 0 = some (.iload_n 0, 1) := by decide +kernel
theorem d_13_1 : xcode 13 1 = some (.iload_n 1, 1) := by decide +kernel
theorem d_13_2 : xcode 13 2 = some (.if_icmp .gt 7, 3) := by decide +kernel
theorem d_13_5 : xcode 13 5 = some (.iload_n 0, 1) := by decide +kernel
theorem d_13_6 : xcode 13 6 = some (.goto 4, 3) := by decide +kernel
theorem d_13_9 : xcode 13 9 = some (.iload_n 1, 1) := by decide +kernel
theorem d_13_10 : xcode 13 10 = some (.ireturn, 1) := by decide +kernel
theorem d_14_0 : xcode 14 0 = some (.aload_n 0, 1) := by decide +kernel
theorem d_14_1 : xcode 14 1 = some (.iconst 0, 1) := by decide +kernel
theorem d_14_2 : xcode 14 2 = some (.aload_n 2, 1) := by decide +kernel
theorem d_14_3 : xcode 14 3 = some (.invokevirtual 43, 3) := by decide +kernel
theorem d_14_6 : xcode 14 6 = some (.iload_n 1, 1) := by decide +kernel
theorem d_14_7 : xcode 14 7 = some (.iconst 1, 1) := by decide +kernel
theorem d_14_8 : xcode 14 8 = some (.if_icmp .ne 13, 3) := by decide +kernel
theorem d_14_11 : xcode 14 11 = some (.aload_n 2, 1) := by decide +kernel
theorem d_14_12 : xcode 14 12 = some (.dup, 1) := by decide +kernel
theorem d_14_13 : xcode 14 13 = some (.getfield 47, 3) := by decide +kernel
theorem d_14_16 : xcode 14 16 = some (.lconst 1, 1) := by decide +kernel
theorem d_14_17 : xcode 14 17 = some (.lsub, 1) := by decide +kernel
theorem d_14_18 : xcode 14 18 = some (.putfield 47, 3) := by decide +kernel
theorem d_14_21 : xcode 14 21 = some (.return_, 1) := by decide +kernel
theorem d_15_0 : xcode 15 0 = some (.iload_n 1, 1) := by decide +kernel
theorem d_15_1 : xcode 15 1 = some (.ifCond .lt 28, 3) := by decide +kernel
theorem d_15_4 : xcode 15 4 = some (.iload_n 1, 1) := by decide +kernel
theorem d_15_5 : xcode 15 5 = some (.bipush 39, 2) := by decide +kernel
theorem d_15_7 : xcode 15 7 = some (.if_icmp .ge 22, 3) := by decide +kernel
theorem d_15_10 : xcode 15 10 = some (.aload_n 2, 1) := by decide +kernel
theorem d_15_11 : xcode 15 11 = some (.aload_n 0, 1) := by decide +kernel
theorem d_15_12 : xcode 15 12 = some (.getfield 9, 3) := by decide +kernel
theorem d_15_15 : xcode 15 15 = some (.iload_n 1, 1) := by decide +kernel
theorem d_15_16 : xcode 15 16 = some (.laload, 1) := by decide +kernel
theorem d_15_17 : xcode 15 17 = some (.aload_n 0, 1) := by decide +kernel
theorem d_15_18 : xcode 15 18 = some (.getfield 15, 3) := by decide +kernel
theorem d_15_21 : xcode 15 21 = some (.iload_n 1, 1) := by decide +kernel
theorem d_15_22 : xcode 15 22 = some (.laload, 1) := by decide +kernel
theorem d_15_23 : xcode 15 23 = some (.ldc2_w 28, 3) := by decide +kernel
theorem d_15_26 : xcode 15 26 = some (.invokevirtual 37, 3) := by decide +kernel
theorem d_15_29 : xcode 15 29 = some (.return_, 1) := by decide +kernel
theorem d_16_0 : xcode 16 0 = some (.lload 5, 2) := by decide +kernel
theorem d_16_2 : xcode 16 2 = some (.lconst 0, 1) := by decide +kernel
theorem d_16_3 : xcode 16 3 = some (.lcmp, 1) := by decide +kernel
theorem d_16_4 : xcode 16 4 = some (.ifCond .gt 4, 3) := by decide +kernel
theorem d_16_7 : xcode 16 7 = some (.return_, 1) := by decide +kernel
theorem d_16_8 : xcode 16 8 = some (.lload_n 3, 1) := by decide +kernel
theorem d_16_9 : xcode 16 9 = some (.lload 5, 2) := by decide +kernel
theorem d_16_11 : xcode 16 11 = some (.invokestatic 13, 3) := by decide +kernel
theorem d_16_14 : xcode 16 14 = some (.lstore 7, 2) := by decide +kernel
theorem d_16_16 : xcode 16 16 = some (.lload 7, 2) := by decide +kernel
theorem d_16_18 : xcode 16 18 = some (.lload 5, 2) := by decide +kernel
theorem d_16_20 : xcode 16 20 = some (.invokestatic 19, 3) := by decide +kernel
theorem d_16_23 : xcode 16 23 = some (.lstore 9, 2) := by decide +kernel
theorem d_16_25 : xcode 16 25 = some (.aload_n 0, 1) := by decide +kernel
theorem d_16_26 : xcode 16 26 = some (.lload_n 1, 1) := by decide +kernel
theorem d_16_27 : xcode 16 27 = some (.lload_n 3, 1) := by decide +kernel
theorem d_16_28 : xcode 16 28 = some (.lload 5, 2) := by decide +kernel
theorem d_16_30 : xcode 16 30 = some (.invokestatic 22, 3) := by decide +kernel
theorem d_16_33 : xcode 16 33 = some (.ladd, 1) := by decide +kernel
theorem d_16_34 : xcode 16 34 = some (.putfield 25, 3) := by decide +kernel
theorem d_16_37 : xcode 16 37 = some (.aload_n 0, 1) := by decide +kernel
theorem d_16_38 : xcode 16 38 = some (.lload 7, 2) := by decide +kernel
theorem d_16_40 : xcode 16 40 = some (.lload 9, 2) := by decide +kernel
theorem d_16_42 : xcode 16 42 = some (.ldiv, 1) := by decide +kernel
theorem d_16_43 : xcode 16 43 = some (.putfield 28, 3) := by decide +kernel
theorem d_16_46 : xcode 16 46 = some (.aload_n 0, 1) := by decide +kernel
theorem d_16_47 : xcode 16 47 = some (.lload 5, 2) := by decide +kernel
theorem d_16_49 : xcode 16 49 = some (.lload 9, 2) := by decide +kernel
theorem d_16_51 : xcode 16 51 = some (.ldiv, 1) := by decide +kernel
theorem d_16_52 : xcode 16 52 = some (.putfield 7, 3) := by decide +kernel
theorem d_16_55 : xcode 16 55 = some (.return_, 1) := by decide +kernel
theorem d_17_0 : xcode 17 0 = some (.lload_n 0, 1) := by decide +kernel
theorem d_17_1 : xcode 17 1 = some (.lload_n 2, 1) := by decide +kernel
theorem d_17_2 : xcode 17 2 = some (.lrem, 1) := by decide +kernel
theorem d_17_3 : xcode 17 3 = some (.lstore 4, 2) := by decide +kernel
theorem d_17_5 : xcode 17 5 = some (.lload_n 0, 1) := by decide +kernel
theorem d_17_6 : xcode 17 6 = some (.lload_n 2, 1) := by decide +kernel
theorem d_17_7 : xcode 17 7 = some (.lxor, 1) := by decide +kernel
theorem d_17_8 : xcode 17 8 = some (.lconst 0, 1) := by decide +kernel
theorem d_17_9 : xcode 17 9 = some (.lcmp, 1) := by decide +kernel
theorem d_17_10 : xcode 17 10 = some (.ifCond .ge 15, 3) := by decide +kernel
theorem d_17_13 : xcode 17 13 = some (.lload 4, 2) := by decide +kernel
theorem d_17_15 : xcode 17 15 = some (.lconst 0, 1) := by decide +kernel
theorem d_17_16 : xcode 17 16 = some (.lcmp, 1) := by decide +kernel
theorem d_17_17 : xcode 17 17 = some (.ifCond .eq 8, 3) := by decide +kernel
theorem d_17_20 : xcode 17 20 = some (.lload 4, 2) := by decide +kernel
theorem d_17_22 : xcode 17 22 = some (.lload_n 2, 1) := by decide +kernel
theorem d_17_23 : xcode 17 23 = some (.ladd, 1) := by decide +kernel
theorem d_17_24 : xcode 17 24 = some (.lreturn, 1) := by decide +kernel
theorem d_17_25 : xcode 17 25 = some (.lload 4, 2) := by decide +kernel
theorem d_17_27 : xcode 17 27 = some (.lreturn, 1) := by decide +kernel
theorem d_18_0 : xcode 18 0 = some (.lload_n 2, 1) := by decide +kernel
theorem d_18_1 : xcode 18 1 = some (.lstore 4, 2) := by decide +kernel
theorem d_18_3 : xcode 18 3 = some (.lload_n 0, 1) := by decide +kernel
theorem d_18_4 : xcode 18 4 = some (.lstore 6, 2) := by decide +kernel
theorem d_18_6 : xcode 18 6 = some (.iconst 0, 1) := by decide +kernel
theorem d_18_7 : xcode 18 7 = some (.istore 8, 2) := by decide +kernel
theorem d_18_9 : xcode 18 9 = some (.iload 8, 2) := by decide +kernel
theorem d_18_11 : xcode 18 11 = some (.bipush 100, 2) := by decide +kernel
theorem d_18_13 : xcode 18 13 = some (.if_icmp .ge 31, 3) := by decide +kernel
theorem d_18_16 : xcode 18 16 = some (.lload 6, 2) := by decide +kernel
theorem d_18_18 : xcode 18 18 = some (.lconst 0, 1) := by decide +kernel
theorem d_18_19 : xcode 18 19 = some (.lcmp, 1) := by decide +kernel
theorem d_18_20 : xcode 18 20 = some (.ifCond .le 24, 3) := by decide +kernel
theorem d_18_23 : xcode 18 23 = some (.lload 4, 2) := by decide +kernel
theorem d_18_25 : xcode 18 25 = some (.lload 6, 2) := by decide +kernel
theorem d_18_27 : xcode 18 27 = some (.lrem, 1) := by decide +kernel
theorem d_18_28 : xcode 18 28 = some (.lstore 9, 2) := by decide +kernel
theorem d_18_30 : xcode 18 30 = some (.lload 6, 2) := by decide +kernel
theorem d_18_32 : xcode 18 32 = some (.lstore 4, 2) := by decide +kernel
theorem d_18_34 : xcode 18 34 = some (.lload 9, 2) := by decide +kernel
theorem d_18_36 : xcode 18 36 = some (.lstore 6, 2) := by decide +kernel
theorem d_18_38 : xcode 18 38 = some (.iinc 8 1, 3) := by decide +kernel
theorem d_18_41 : xcode 18 41 = some (.goto (-32), 3) := by decide +kernel
theorem d_18_44 : xcode 18 44 = some (.lload 4, 2) := by decide +kernel
theorem d_18_46 : xcode 18 46 = some (.lconst 0, 1) := by decide +kernel
theorem d_18_47 : xcode 18 47 = some (.lcmp, 1) := by decide +kernel
theorem d_18_48 : xcode 18 48 = some (.ifCond .le 8, 3) := by decide +kernel
theorem d_18_51 : xcode 18 51 = some (.lload 4, 2) := by decide +kernel
theorem d_18_53 : xcode 18 53 = some (.goto 4, 3) := by decide +kernel
theorem d_18_56 : xcode 18 56 = some (.lconst 1, 1) := by decide +kernel
theorem d_18_57 : xcode 18 57 = some (.lreturn, 1) := by decide +kernel
theorem d_19_0 : xcode 19 0 = some (.lload_n 0, 1) := by decide +kernel
theorem d_19_1 : xcode 19 1 = some (.lload_n 2, 1) := by decide +kernel
theorem d_19_2 : xcode 19 2 = some (.ldiv, 1) := by decide +kernel
theorem d_19_3 : xcode 19 3 = some (.lstore 4, 2) := by decide +kernel
theorem d_19_5 : xcode 19 5 = some (.lload_n 0, 1) := by decide +kernel
theorem d_19_6 : xcode 19 6 = some (.lload_n 2, 1) := by decide +kernel
theorem d_19_7 : xcode 19 7 = some (.lxor, 1) := by decide +kernel
theorem d_19_8 : xcode 19 8 = some (.lconst 0, 1) := by decide +kernel
theorem d_19_9 : xcode 19 9 = some (.lcmp, 1) := by decide +kernel
theorem d_19_10 : xcode 19 10 = some (.ifCond .ge 17, 3) := by decide +kernel
theorem d_19_13 : xcode 19 13 = some (.lload 4, 2) := by decide +kernel
theorem d_19_15 : xcode 19 15 = some (.lload_n 2, 1) := by decide +kernel
theorem d_19_16 : xcode 19 16 = some (.lmul, 1) := by decide +kernel
theorem d_19_17 : xcode 19 17 = some (.lload_n 0, 1) := by decide +kernel
theorem d_19_18 : xcode 19 18 = some (.lcmp, 1) := by decide +kernel
theorem d_19_19 : xcode 19 19 = some (.ifCond .eq 8, 3) := by decide +kernel
theorem d_19_22 : xcode 19 22 = some (.lload 4, 2) := by decide +kernel
theorem d_19_24 : xcode 19 24 = some (.lconst 1, 1) := by decide +kernel
theorem d_19_25 : xcode 19 25 = some (.lsub, 1) := by decide +kernel
theorem d_19_26 : xcode 19 26 = some (.lreturn, 1) := by decide +kernel
theorem d_19_27 : xcode 19 27 = some (.lload 4, 2) := by decide +kernel
theorem d_19_29 : xcode 19 29 = some (.lreturn, 1) := by decide +kernel
theorem d_20_0 : xcode 20 0 = some (.iload_n 1, 1) := by decide +kernel
theorem d_20_1 : xcode 20 1 = some (.invokestatic 34, 3) := by decide +kernel
theorem d_20_4 : xcode 20 4 = some (.ifCond .eq 33, 3) := by decide +kernel
theorem d_20_7 : xcode 20 7 = some (.aload_n 0, 1) := by decide +kernel
theorem d_20_8 : xcode 20 8 = some (.getfield 9, 3) := by decide +kernel
theorem d_20_11 : xcode 20 11 = some (.iload_n 1, 1) := by decide +kernel
theorem d_20_12 : xcode 20 12 = some (.aload_n 2, 1) := by decide +kernel
theorem d_20_13 : xcode 20 13 = some (.getfield 45, 3) := by decide +kernel
theorem d_20_16 : xcode 20 16 = some (.lastore, 1) := by decide +kernel
theorem d_20_17 : xcode 20 17 = some (.aload_n 0, 1) := by decide +kernel
theorem d_20_18 : xcode 20 18 = some (.getfield 15, 3) := by decide +kernel
theorem d_20_21 : xcode 20 21 = some (.iload_n 1, 1) := by decide +kernel
theorem d_20_22 : xcode 20 22 = some (.aload_n 2, 1) := by decide +kernel
theorem d_20_23 : xcode 20 23 = some (.getfield 49, 3) := by decide +kernel
theorem d_20_26 : xcode 20 26 = some (.lastore, 1) := by decide +kernel
theorem d_20_27 : xcode 20 27 = some (.aload_n 0, 1) := by decide +kernel
theorem d_20_28 : xcode 20 28 = some (.getfield 18, 3) := by decide +kernel
theorem d_20_31 : xcode 20 31 = some (.iload_n 1, 1) := by decide +kernel
theorem d_20_32 : xcode 20 32 = some (.aload_n 2, 1) := by decide +kernel
theorem d_20_33 : xcode 20 33 = some (.getfield 52, 3) := by decide +kernel
theorem d_20_36 : xcode 20 36 = some (.lastore, 1) := by decide +kernel
theorem d_20_37 : xcode 20 37 = some (.return_, 1) := by decide +kernel
theorem d_21_0 : xcode 21 0 = some (.iload_n 0, 1) := by decide +kernel
theorem d_21_1 : xcode 21 1 = some (.ifCond .lt 13, 3) := by decide +kernel
theorem d_21_4 : xcode 21 4 = some (.iload_n 0, 1) := by decide +kernel
theorem d_21_5 : xcode 21 5 = some (.bipush 39, 2) := by decide +kernel
theorem d_21_7 : xcode 21 7 = some (.if_icmp .ge 7, 3) := by decide +kernel
theorem d_21_10 : xcode 21 10 = some (.iconst 1, 1) := by decide +kernel
theorem d_21_11 : xcode 21 11 = some (.goto 4, 3) := by decide +kernel
theorem d_21_14 : xcode 21 14 = some (.iconst 0, 1) := by decide +kernel
theorem d_21_15 : xcode 21 15 = some (.ireturn, 1) := by decide +kernel
theorem d_22_0 : xcode 22 0 = some (.iconst 0, 1) := by decide +kernel
theorem d_22_1 : xcode 22 1 = some (.istore_n 1, 1) := by decide +kernel
theorem d_22_2 : xcode 22 2 = some (.iload_n 1, 1) := by decide +kernel
theorem d_22_3 : xcode 22 3 = some (.aload_n 0, 1) := by decide +kernel
theorem d_22_4 : xcode 22 4 = some (.getfield 24, 3) := by decide +kernel
theorem d_22_7 : xcode 22 7 = some (.if_icmp .ge 85, 3) := by decide +kernel
theorem d_22_10 : xcode 22 10 = some (.iload_n 1, 1) := by decide +kernel
theorem d_22_11 : xcode 22 11 = some (.iconst 1, 1) := by decide +kernel
theorem d_22_12 : xcode 22 12 = some (.iadd, 1) := by decide +kernel
theorem d_22_13 : xcode 22 13 = some (.bipush 39, 2) := by decide +kernel
theorem d_22_15 : xcode 22 15 = some (.if_icmp .ge 77, 3) := by decide +kernel
theorem d_22_18 : xcode 22 18 = some (.iload_n 1, 1) := by decide +kernel
theorem d_22_19 : xcode 22 19 = some (.iconst 1, 1) := by decide +kernel
theorem d_22_20 : xcode 22 20 = some (.iadd, 1) := by decide +kernel
theorem d_22_21 : xcode 22 21 = some (.i2l, 1) := by decide +kernel
theorem d_22_22 : xcode 22 22 = some (.aload_n 0, 1) := by decide +kernel
theorem d_22_23 : xcode 22 23 = some (.getfield 15, 3) := by decide +kernel
theorem d_22_26 : xcode 22 26 = some (.iload_n 1, 1) := by decide +kernel
theorem d_22_27 : xcode 22 27 = some (.laload, 1) := by decide +kernel
theorem d_22_28 : xcode 22 28 = some (.aload_n 0, 1) := by decide +kernel
theorem d_22_29 : xcode 22 29 = some (.getfield 15, 3) := by decide +kernel
theorem d_22_32 : xcode 22 32 = some (.iload_n 1, 1) := by decide +kernel
theorem d_22_33 : xcode 22 33 = some (.iconst 1, 1) := by decide +kernel
theorem d_22_34 : xcode 22 34 = some (.iadd, 1) := by decide +kernel
theorem d_22_35 : xcode 22 35 = some (.laload, 1) := by decide +kernel
theorem d_22_36 : xcode 22 36 = some (.lsub, 1) := by decide +kernel
theorem d_22_37 : xcode 22 37 = some (.lmul, 1) := by decide +kernel
theorem d_22_38 : xcode 22 38 = some (.lstore_n 2, 1) := by decide +kernel
theorem d_22_39 : xcode 22 39 = some (.aload_n 0, 1) := by decide +kernel
theorem d_22_40 : xcode 22 40 = some (.getfield 9, 3) := by decide +kernel
theorem d_22_43 : xcode 22 43 = some (.iload_n 1, 1) := by decide +kernel
theorem d_22_44 : xcode 22 44 = some (.iload_n 1, 1) := by decide +kernel
theorem d_22_45 : xcode 22 45 = some (.iconst 1, 1) := by decide +kernel
theorem d_22_46 : xcode 22 46 = some (.iadd, 1) := by decide +kernel
theorem d_22_47 : xcode 22 47 = some (.i2l, 1) := by decide +kernel
theorem d_22_48 : xcode 22 48 = some (.aload_n 0, 1) := by decide +kernel
theorem d_22_49 : xcode 22 49 = some (.getfield 9, 3) := by decide +kernel
theorem d_22_52 : xcode 22 52 = some (.iload_n 1, 1) := by decide +kernel
theorem d_22_53 : xcode 22 53 = some (.laload, 1) := by decide +kernel
theorem d_22_54 : xcode 22 54 = some (.aload_n 0, 1) := by decide +kernel
theorem d_22_55 : xcode 22 55 = some (.getfield 9, 3) := by decide +kernel
theorem d_22_58 : xcode 22 58 = some (.iload_n 1, 1) := by decide +kernel
theorem d_22_59 : xcode 22 59 = some (.iconst 1, 1) := by decide +kernel
theorem d_22_60 : xcode 22 60 = some (.iadd, 1) := by decide +kernel
theorem d_22_61 : xcode 22 61 = some (.laload, 1) := by decide +kernel
theorem d_22_62 : xcode 22 62 = some (.lsub, 1) := by decide +kernel
theorem d_22_63 : xcode 22 63 = some (.lmul, 1) := by decide +kernel
theorem d_22_64 : xcode 22 64 = some (.lload_n 2, 1) := by decide +kernel
theorem d_22_65 : xcode 22 65 = some (.ldc2_w 28, 3) := by decide +kernel
theorem d_22_68 : xcode 22 68 = some (.invokestatic 30, 3) := by decide +kernel
theorem d_22_71 : xcode 22 71 = some (.ladd, 1) := by decide +kernel
theorem d_22_72 : xcode 22 72 = some (.lastore, 1) := by decide +kernel
theorem d_22_73 : xcode 22 73 = some (.aload_n 0, 1) := by decide +kernel
theorem d_22_74 : xcode 22 74 = some (.getfield 15, 3) := by decide +kernel
theorem d_22_77 : xcode 22 77 = some (.iload_n 1, 1) := by decide +kernel
theorem d_22_78 : xcode 22 78 = some (.lload_n 2, 1) := by decide +kernel
theorem d_22_79 : xcode 22 79 = some (.ldc2_w 28, 3) := by decide +kernel
theorem d_22_82 : xcode 22 82 = some (.invokestatic 34, 3) := by decide +kernel
theorem d_22_85 : xcode 22 85 = some (.lastore, 1) := by decide +kernel
theorem d_22_86 : xcode 22 86 = some (.iinc 1 1, 3) := by decide +kernel
theorem d_22_89 : xcode 22 89 = some (.goto (-87), 3) := by decide +kernel
theorem d_22_92 : xcode 22 92 = some (.aload_n 0, 1) := by decide +kernel
theorem d_22_93 : xcode 22 93 = some (.dup, 1) := by decide +kernel
theorem d_22_94 : xcode 22 94 = some (.getfield 24, 3) := by decide +kernel
theorem d_22_97 : xcode 22 97 = some (.iconst 1, 1) := by decide +kernel
theorem d_22_98 : xcode 22 98 = some (.isub, 1) := by decide +kernel
theorem d_22_99 : xcode 22 99 = some (.putfield 24, 3) := by decide +kernel
theorem d_22_102 : xcode 22 102 = some (.return_, 1) := by decide +kernel
theorem d_23_0 : xcode 23 0 = some (.iload_n 1, 1) := by decide +kernel
theorem d_23_1 : xcode 23 1 = some (.invokestatic 120, 3) := by decide +kernel
theorem d_23_4 : xcode 23 4 = some (.ifCond .eq 10, 3) := by decide +kernel
theorem d_23_7 : xcode 23 7 = some (.iload_n 2, 1) := by decide +kernel
theorem d_23_8 : xcode 23 8 = some (.invokestatic 124, 3) := by decide +kernel
theorem d_23_11 : xcode 23 11 = some (.ifCond .ne 5, 3) := by decide +kernel
theorem d_23_14 : xcode 23 14 = some (.iconst (-1), 1) := by decide +kernel
theorem d_23_15 : xcode 23 15 = some (.ireturn, 1) := by decide +kernel
theorem d_23_16 : xcode 23 16 = some (.iload_n 2, 1) := by decide +kernel
theorem d_23_17 : xcode 23 17 = some (.ifCond .ne 19, 3) := by decide +kernel
theorem d_23_20 : xcode 23 20 = some (.aload_n 0, 1) := by decide +kernel
theorem d_23_21 : xcode 23 21 = some (.aload_n 0, 1) := by decide +kernel
theorem d_23_22 : xcode 23 22 = some (.getfield 49, 3) := by decide +kernel
theorem d_23_25 : xcode 23 25 = some (.iconst 1, 1) := by decide +kernel
theorem d_23_26 : xcode 23 26 = some (.iadd, 1) := by decide +kernel
theorem d_23_27 : xcode 23 27 = some (.invokevirtual 127, 3) := by decide +kernel
theorem d_23_30 : xcode 23 30 = some (.ifCond .ne 6, 3) := by decide +kernel
theorem d_23_33 : xcode 23 33 = some (.bipush (-3), 2) := by decide +kernel
theorem d_23_35 : xcode 23 35 = some (.ireturn, 1) := by decide +kernel
theorem d_23_36 : xcode 23 36 = some (.iconst 0, 1) := by decide +kernel
theorem d_23_37 : xcode 23 37 = some (.istore_n 3, 1) := by decide +kernel
theorem d_23_38 : xcode 23 38 = some (.aload_n 0, 1) := by decide +kernel
theorem d_23_39 : xcode 23 39 = some (.getfield 49, 3) := by decide +kernel
theorem d_23_42 : xcode 23 42 = some (.iconst 1, 1) := by decide +kernel
theorem d_23_43 : xcode 23 43 = some (.iadd, 1) := by decide +kernel
theorem d_23_44 : xcode 23 44 = some (.istore 4, 2) := by decide +kernel
theorem d_23_46 : xcode 23 46 = some (.iload 4, 2) := by decide +kernel
theorem d_23_48 : xcode 23 48 = some (.iload_n 1, 1) := by decide +kernel
theorem d_23_49 : xcode 23 49 = some (.if_icmp .gt 26, 3) := by decide +kernel
theorem d_23_52 : xcode 23 52 = some (.aload_n 0, 1) := by decide +kernel
theorem d_23_53 : xcode 23 53 = some (.iload 4, 2) := by decide +kernel
theorem d_23_55 : xcode 23 55 = some (.iload_n 2, 1) := by decide +kernel
theorem d_23_56 : xcode 23 56 = some (.invokevirtual 130, 3) := by decide +kernel
theorem d_23_59 : xcode 23 59 = some (.pop, 1) := by decide +kernel
theorem d_23_60 : xcode 23 60 = some (.aload_n 0, 1) := by decide +kernel
theorem d_23_61 : xcode 23 61 = some (.iload 4, 2) := by decide +kernel
theorem d_23_63 : xcode 23 63 = some (.putfield 49, 3) := by decide +kernel
theorem d_23_66 : xcode 23 66 = some (.iinc 3 1, 3) := by decide +kernel
theorem d_23_69 : xcode 23 69 = some (.iinc 4 1, 3) := by decide +kernel
theorem d_23_72 : xcode 23 72 = some (.goto (-26), 3) := by decide +kernel
theorem d_23_75 : xcode 23 75 = some (.iload_n 3, 1) := by decide +kernel
theorem d_23_76 : xcode 23 76 = some (.ireturn, 1) := by decide +kernel
theorem d_24_0 : xcode 24 0 = some (.iload_n 0, 1) := by decide +kernel
theorem d_24_1 : xcode 24 1 = some (.ifCond .lt 13, 3) := by decide +kernel
theorem d_24_4 : xcode 24 4 = some (.iload_n 0, 1) := by decide +kernel
theorem d_24_5 : xcode 24 5 = some (.bipush 38, 2) := by decide +kernel
theorem d_24_7 : xcode 24 7 = some (.if_icmp .gt 7, 3) := by decide +kernel
theorem d_24_10 : xcode 24 10 = some (.iconst 1, 1) := by decide +kernel
theorem d_24_11 : xcode 24 11 = some (.goto 4, 3) := by decide +kernel
theorem d_24_14 : xcode 24 14 = some (.iconst 0, 1) := by decide +kernel
theorem d_24_15 : xcode 24 15 = some (.ireturn, 1) := by decide +kernel
theorem d_25_0 : xcode 25 0 = some (.iload_n 0, 1) := by decide +kernel
theorem d_25_1 : xcode 25 1 = some (.ifCond .lt 12, 3) := by decide +kernel
theorem d_25_4 : xcode 25 4 = some (.iload_n 0, 1) := by decide +kernel
theorem d_25_5 : xcode 25 5 = some (.iconst 2, 1) := by decide +kernel
theorem d_25_6 : xcode 25 6 = some (.if_icmp .gt 7, 3) := by decide +kernel
theorem d_25_9 : xcode 25 9 = some (.iconst 1, 1) := by decide +kernel
theorem d_25_10 : xcode 25 10 = some (.goto 4, 3) := by decide +kernel
theorem d_25_13 : xcode 25 13 = some (.iconst 0, 1) := by decide +kernel
theorem d_25_14 : xcode 25 14 = some (.ireturn, 1) := by decide +kernel
theorem d_26_0 : xcode 26 0 = some (.iconst 0, 1) := by decide +kernel
theorem d_26_1 : xcode 26 1 = some (.istore_n 2, 1) := by decide +kernel
theorem d_26_2 : xcode 26 2 = some (.iload_n 2, 1) := by decide +kernel
theorem d_26_3 : xcode 26 3 = some (.iload_n 1, 1) := by decide +kernel
theorem d_26_4 : xcode 26 4 = some (.if_icmp .ge 19, 3) := by decide +kernel
theorem d_26_7 : xcode 26 7 = some (.aload_n 0, 1) := by decide +kernel
theorem d_26_8 : xcode 26 8 = some (.iload_n 2, 1) := by decide +kernel
theorem d_26_9 : xcode 26 9 = some (.invokevirtual 174, 3) := by decide +kernel
theorem d_26_12 : xcode 26 12 = some (.ifCond .ne 5, 3) := by decide +kernel
theorem d_26_15 : xcode 26 15 = some (.iconst 0, 1) := by decide +kernel
theorem d_26_16 : xcode 26 16 = some (.ireturn, 1) := by decide +kernel
theorem d_26_17 : xcode 26 17 = some (.iinc 2 1, 3) := by decide +kernel
theorem d_26_20 : xcode 26 20 = some (.goto (-18), 3) := by decide +kernel
theorem d_26_23 : xcode 26 23 = some (.iconst 1, 1) := by decide +kernel
theorem d_26_24 : xcode 26 24 = some (.ireturn, 1) := by decide +kernel
theorem d_27_0 : xcode 27 0 = some (.aload_n 0, 1) := by decide +kernel
theorem d_27_1 : xcode 27 1 = some (.getfield 39, 3) := by decide +kernel
theorem d_27_4 : xcode 27 4 = some (.iload_n 1, 1) := by decide +kernel
theorem d_27_5 : xcode 27 5 = some (.aload_n 0, 1) := by decide +kernel
theorem d_27_6 : xcode 27 6 = some (.getfield 35, 3) := by decide +kernel
theorem d_27_9 : xcode 27 9 = some (.invokevirtual 418, 3) := by decide +kernel
theorem d_27_12 : xcode 27 12 = some (.ireturn, 1) := by decide +kernel
theorem d_28_0 : xcode 28 0 = some (.aload_n 0, 1) := by decide +kernel
theorem d_28_1 : xcode 28 1 = some (.iload_n 1, 1) := by decide +kernel
theorem d_28_2 : xcode 28 2 = some (.invokevirtual 38, 3) := by decide +kernel
theorem d_28_5 : xcode 28 5 = some (.aload_n 2, 1) := by decide +kernel
theorem d_28_6 : xcode 28 6 = some (.iload_n 1, 1) := by decide +kernel
theorem d_28_7 : xcode 28 7 = some (.invokevirtual 38, 3) := by decide +kernel
theorem d_28_10 : xcode 28 10 = some (.lcmp, 1) := by decide +kernel
theorem d_28_11 : xcode 28 11 = some (.ifCond .ne 35, 3) := by decide +kernel
theorem d_28_14 : xcode 28 14 = some (.aload_n 0, 1) := by decide +kernel
theorem d_28_15 : xcode 28 15 = some (.iload_n 1, 1) := by decide +kernel
theorem d_28_16 : xcode 28 16 = some (.invokevirtual 42, 3) := by decide +kernel
theorem d_28_19 : xcode 28 19 = some (.aload_n 2, 1) := by decide +kernel
theorem d_28_20 : xcode 28 20 = some (.iload_n 1, 1) := by decide +kernel
theorem d_28_21 : xcode 28 21 = some (.invokevirtual 42, 3) := by decide +kernel
theorem d_28_24 : xcode 28 24 = some (.lcmp, 1) := by decide +kernel
theorem d_28_25 : xcode 28 25 = some (.ifCond .ne 21, 3) := by decide +kernel
theorem d_28_28 : xcode 28 28 = some (.aload_n 0, 1) := by decide +kernel
theorem d_28_29 : xcode 28 29 = some (.iload_n 1, 1) := by decide +kernel
theorem d_28_30 : xcode 28 30 = some (.invokevirtual 55, 3) := by decide +kernel
theorem d_28_33 : xcode 28 33 = some (.aload_n 2, 1) := by decide +kernel
theorem d_28_34 : xcode 28 34 = some (.iload_n 1, 1) := by decide +kernel
theorem d_28_35 : xcode 28 35 = some (.invokevirtual 55, 3) := by decide +kernel
theorem d_28_38 : xcode 28 38 = some (.lcmp, 1) := by decide +kernel
theorem d_28_39 : xcode 28 39 = some (.ifCond .ne 7, 3) := by decide +kernel
theorem d_28_42 : xcode 28 42 = some (.iconst 1, 1) := by decide +kernel
theorem d_28_43 : xcode 28 43 = some (.goto 4, 3) := by decide +kernel
theorem d_28_46 : xcode 28 46 = some (.iconst 0, 1) := by decide +kernel
theorem d_28_47 : xcode 28 47 = some (.ireturn, 1) := by decide +kernel
theorem d_29_0 : xcode 29 0 = some (.iload_n 1, 1) := by decide +kernel
theorem d_29_1 : xcode 29 1 = some (.invokestatic 34, 3) := by decide +kernel
theorem d_29_4 : xcode 29 4 = some (.ifCond .eq 12, 3) := by decide +kernel
theorem d_29_7 : xcode 29 7 = some (.aload_n 0, 1) := by decide +kernel
theorem d_29_8 : xcode 29 8 = some (.getfield 9, 3) := by decide +kernel
theorem d_29_11 : xcode 29 11 = some (.iload_n 1, 1) := by decide +kernel
theorem d_29_12 : xcode 29 12 = some (.laload, 1) := by decide +kernel
theorem d_29_13 : xcode 29 13 = some (.goto 4, 3) := by decide +kernel
theorem d_29_16 : xcode 29 16 = some (.lconst 0, 1) := by decide +kernel
theorem d_29_17 : xcode 29 17 = some (.lreturn, 1) := by decide +kernel
theorem d_30_0 : xcode 30 0 = some (.iload_n 1, 1) := by decide +kernel
theorem d_30_1 : xcode 30 1 = some (.invokestatic 34, 3) := by decide +kernel
theorem d_30_4 : xcode 30 4 = some (.ifCond .eq 12, 3) := by decide +kernel
theorem d_30_7 : xcode 30 7 = some (.aload_n 0, 1) := by decide +kernel
theorem d_30_8 : xcode 30 8 = some (.getfield 15, 3) := by decide +kernel
theorem d_30_11 : xcode 30 11 = some (.iload_n 1, 1) := by decide +kernel
theorem d_30_12 : xcode 30 12 = some (.laload, 1) := by decide +kernel
theorem d_30_13 : xcode 30 13 = some (.goto 4, 3) := by decide +kernel
theorem d_30_16 : xcode 30 16 = some (.lconst 0, 1) := by decide +kernel
theorem d_30_17 : xcode 30 17 = some (.lreturn, 1) := by decide +kernel
theorem d_31_0 : xcode 31 0 = some (.iload_n 1, 1) := by decide +kernel
theorem d_31_1 : xcode 31 1 = some (.invokestatic 34, 3) := by decide +kernel
theorem d_31_4 : xcode 31 4 = some (.ifCond .eq 12, 3) := by decide +kernel
theorem d_31_7 : xcode 31 7 = some (.aload_n 0, 1) := by decide +kernel
theorem d_31_8 : xcode 31 8 = some (.getfield 18, 3) := by decide +kernel
theorem d_31_11 : xcode 31 11 = some (.iload_n 1, 1) := by decide +kernel
theorem d_31_12 : xcode 31 12 = some (.laload, 1) := by decide +kernel
theorem d_31_13 : xcode 31 13 = some (.goto 4, 3) := by decide +kernel
theorem d_31_16 : xcode 31 16 = some (.lconst 1, 1) := by decide +kernel
theorem d_31_17 : xcode 31 17 = some (.lreturn, 1) := by decide +kernel
theorem d_32_0 : xcode 32 0 = some (.aload_n 0, 1) := by decide +kernel
theorem d_32_1 : xcode 32 1 = some (.iload_n 1, 1) := by decide +kernel
theorem d_32_2 : xcode 32 2 = some (.iload_n 2, 1) := by decide +kernel
theorem d_32_3 : xcode 32 3 = some (.invokevirtual 177, 3) := by decide +kernel
theorem d_32_6 : xcode 32 6 = some (.aload_n 0, 1) := by decide +kernel
theorem d_32_7 : xcode 32 7 = some (.getfield 39, 3) := by decide +kernel
theorem d_32_10 : xcode 32 10 = some (.iload_n 1, 1) := by decide +kernel
theorem d_32_11 : xcode 32 11 = some (.aload_n 0, 1) := by decide +kernel
theorem d_32_12 : xcode 32 12 = some (.getfield 95, 3) := by decide +kernel
theorem d_32_15 : xcode 32 15 = some (.invokevirtual 180, 3) := by decide +kernel
theorem d_32_18 : xcode 32 18 = some (.ifCond .ne 7, 3) := by decide +kernel
theorem d_32_21 : xcode 32 21 = some (.iconst 1, 1) := by decide +kernel
theorem d_32_22 : xcode 32 22 = some (.goto 4, 3) := by decide +kernel
theorem d_32_25 : xcode 32 25 = some (.iconst 0, 1) := by decide +kernel
theorem d_32_26 : xcode 32 26 = some (.istore_n 3, 1) := by decide +kernel
theorem d_32_27 : xcode 32 27 = some (.aload_n 0, 1) := by decide +kernel
theorem d_32_28 : xcode 32 28 = some (.getfield 39, 3) := by decide +kernel
theorem d_32_31 : xcode 32 31 = some (.iload_n 1, 1) := by decide +kernel
theorem d_32_32 : xcode 32 32 = some (.aload_n 0, 1) := by decide +kernel
theorem d_32_33 : xcode 32 33 = some (.getfield 95, 3) := by decide +kernel
theorem d_32_36 : xcode 32 36 = some (.invokevirtual 114, 3) := by decide +kernel
theorem d_32_39 : xcode 32 39 = some (.aload_n 0, 1) := by decide +kernel
theorem d_32_40 : xcode 32 40 = some (.iload_n 1, 1) := by decide +kernel
theorem d_32_41 : xcode 32 41 = some (.iload_n 2, 1) := by decide +kernel
theorem d_32_42 : xcode 32 42 = some (.invokevirtual 138, 3) := by decide +kernel
theorem d_32_45 : xcode 32 45 = some (.iload_n 3, 1) := by decide +kernel
theorem d_32_46 : xcode 32 46 = some (.ireturn, 1) := by decide +kernel
theorem d_33_0 : xcode 33 0 = some (.iload_n 2, 1) := by decide +kernel
theorem d_33_1 : xcode 33 1 = some (.ifCond .ne 11, 3) := by decide +kernel
theorem d_33_4 : xcode 33 4 = some (.aload_n 0, 1) := by decide +kernel
theorem d_33_5 : xcode 33 5 = some (.iload_n 1, 1) := by decide +kernel
theorem d_33_6 : xcode 33 6 = some (.invokevirtual 422, 3) := by decide +kernel
theorem d_33_9 : xcode 33 9 = some (.goto 21, 3) := by decide +kernel
theorem d_33_12 : xcode 33 12 = some (.iload_n 2, 1) := by decide +kernel
theorem d_33_13 : xcode 33 13 = some (.iconst 1, 1) := by decide +kernel
theorem d_33_14 : xcode 33 14 = some (.if_icmp .ne 11, 3) := by decide +kernel
theorem d_33_17 : xcode 33 17 = some (.aload_n 0, 1) := by decide +kernel
theorem d_33_18 : xcode 33 18 = some (.iload_n 1, 1) := by decide +kernel
theorem d_33_19 : xcode 33 19 = some (.invokevirtual 425, 3) := by decide +kernel
theorem d_33_22 : xcode 33 22 = some (.goto 8, 3) := by decide +kernel
theorem d_33_25 : xcode 33 25 = some (.aload_n 0, 1) := by decide +kernel
theorem d_33_26 : xcode 33 26 = some (.iload_n 1, 1) := by decide +kernel
theorem d_33_27 : xcode 33 27 = some (.invokevirtual 428, 3) := by decide +kernel
theorem d_33_30 : xcode 33 30 = some (.return_, 1) := by decide +kernel
theorem d_34_0 : xcode 34 0 = some (.iload_n 1, 1) := by decide +kernel
theorem d_34_1 : xcode 34 1 = some (.iconst 1, 1) := by decide +kernel
theorem d_34_2 : xcode 34 2 = some (.if_icmp .ge 9, 3) := by decide +kernel
theorem d_34_5 : xcode 34 5 = some (.aload_n 0, 1) := by decide +kernel
theorem d_34_6 : xcode 34 6 = some (.iload_n 1, 1) := by decide +kernel
theorem d_34_7 : xcode 34 7 = some (.invokevirtual 431, 3) := by decide +kernel
theorem d_34_10 : xcode 34 10 = some (.return_, 1) := by decide +kernel
theorem d_34_11 : xcode 34 11 = some (.aload_n 0, 1) := by decide +kernel
theorem d_34_12 : xcode 34 12 = some (.getfield 58, 3) := by decide +kernel
theorem d_34_15 : xcode 34 15 = some (.iload_n 1, 1) := by decide +kernel
theorem d_34_16 : xcode 34 16 = some (.iload_n 1, 1) := by decide +kernel
theorem d_34_17 : xcode 34 17 = some (.iconst 1, 1) := by decide +kernel
theorem d_34_18 : xcode 34 18 = some (.isub, 1) := by decide +kernel
theorem d_34_19 : xcode 34 19 = some (.invokevirtual 281, 3) := by decide +kernel
theorem d_34_22 : xcode 34 22 = some (.aload_n 0, 1) := by decide +kernel
theorem d_34_23 : xcode 34 23 = some (.getfield 21, 3) := by decide +kernel
theorem d_34_26 : xcode 34 26 = some (.aload_n 0, 1) := by decide +kernel
theorem d_34_27 : xcode 34 27 = some (.getfield 95, 3) := by decide +kernel
theorem d_34_30 : xcode 34 30 = some (.invokevirtual 214, 3) := by decide +kernel
theorem d_34_33 : xcode 34 33 = some (.aload_n 0, 1) := by decide +kernel
theorem d_34_34 : xcode 34 34 = some (.getfield 95, 3) := by decide +kernel
theorem d_34_37 : xcode 34 37 = some (.ldc2_w 387, 3) := by decide +kernel
theorem d_34_40 : xcode 34 40 = some (.invokevirtual 339, 3) := by decide +kernel
theorem d_34_43 : xcode 34 43 = some (.aload_n 0, 1) := by decide +kernel
theorem d_34_44 : xcode 34 44 = some (.getfield 95, 3) := by decide +kernel
theorem d_34_47 : xcode 34 47 = some (.iload_n 1, 1) := by decide +kernel
theorem d_34_48 : xcode 34 48 = some (.iconst 1, 1) := by decide +kernel
theorem d_34_49 : xcode 34 49 = some (.iadd, 1) := by decide +kernel
theorem d_34_50 : xcode 34 50 = some (.i2l, 1) := by decide +kernel
theorem d_34_51 : xcode 34 51 = some (.invokevirtual 342, 3) := by decide +kernel
theorem d_34_54 : xcode 34 54 = some (.return_, 1) := by decide +kernel
theorem d_35_0 : xcode 35 0 = some (.iload_n 1, 1) := by decide +kernel
theorem d_35_1 : xcode 35 1 = some (.ifCond .ne 16, 3) := by decide +kernel
theorem d_35_4 : xcode 35 4 = some (.aload_n 0, 1) := by decide +kernel
theorem d_35_5 : xcode 35 5 = some (.getfield 95, 3) := by decide +kernel
theorem d_35_8 : xcode 35 8 = some (.lconst 1, 1) := by decide +kernel
theorem d_35_9 : xcode 35 9 = some (.lconst 0, 1) := by decide +kernel
theorem d_35_10 : xcode 35 10 = some (.lconst 1, 1) := by decide +kernel
theorem d_35_11 : xcode 35 11 = some (.invokevirtual 327, 3) := by decide +kernel
theorem d_35_14 : xcode 35 14 = some (.goto 35, 3) := by decide +kernel
theorem d_35_17 : xcode 35 17 = some (.iload_n 1, 1) := by decide +kernel
theorem d_35_18 : xcode 35 18 = some (.iconst 1, 1) := by decide +kernel
theorem d_35_19 : xcode 35 19 = some (.if_icmp .ne 20, 3) := by decide +kernel
theorem d_35_22 : xcode 35 22 = some (.aload_n 0, 1) := by decide +kernel
theorem d_35_23 : xcode 35 23 = some (.getfield 95, 3) := by decide +kernel
theorem d_35_26 : xcode 35 26 = some (.lconst 0, 1) := by decide +kernel
theorem d_35_27 : xcode 35 27 = some (.ldc2_w 387, 3) := by decide +kernel
theorem d_35_30 : xcode 35 30 = some (.ldc2_w 389, 3) := by decide +kernel
theorem d_35_33 : xcode 35 33 = some (.invokevirtual 327, 3) := by decide +kernel
theorem d_35_36 : xcode 35 36 = some (.goto 13, 3) := by decide +kernel
theorem d_35_39 : xcode 35 39 = some (.aload_n 0, 1) := by decide +kernel
theorem d_35_40 : xcode 35 40 = some (.getfield 95, 3) := by decide +kernel
theorem d_35_43 : xcode 35 43 = some (.lconst 0, 1) := by decide +kernel
theorem d_35_44 : xcode 35 44 = some (.lconst 0, 1) := by decide +kernel
theorem d_35_45 : xcode 35 45 = some (.lconst 1, 1) := by decide +kernel
theorem d_35_46 : xcode 35 46 = some (.invokevirtual 327, 3) := by decide +kernel
theorem d_35_49 : xcode 35 49 = some (.return_, 1) := by decide +kernel
theorem d_36_0 : xcode 36 0 = some (.aload_n 0, 1) := by decide +kernel
theorem d_36_1 : xcode 36 1 = some (.getfield 19, 3) := by decide +kernel
theorem d_36_4 : xcode 36 4 = some (.ldc2_w 48, 3) := by decide +kernel
theorem d_36_7 : xcode 36 7 = some (.invokevirtual 50, 3) := by decide +kernel
theorem d_36_10 : xcode 36 10 = some (.iconst 0, 1) := by decide +kernel
theorem d_36_11 : xcode 36 11 = some (.istore_n 3, 1) := by decide +kernel
theorem d_36_12 : xcode 36 12 = some (.iload_n 3, 1) := by decide +kernel
theorem d_36_13 : xcode 36 13 = some (.iload_n 2, 1) := by decide +kernel
theorem d_36_14 : xcode 36 14 = some (.if_icmp .gt 25, 3) := by decide +kernel
theorem d_36_17 : xcode 36 17 = some (.aload_n 0, 1) := by decide +kernel
theorem d_36_18 : xcode 36 18 = some (.aload_n 0, 1) := by decide +kernel
theorem d_36_19 : xcode 36 19 = some (.getfield 15, 3) := by decide +kernel
theorem d_36_22 : xcode 36 22 = some (.iload_n 1, 1) := by decide +kernel
theorem d_36_23 : xcode 36 23 = some (.iconst 1, 1) := by decide +kernel
theorem d_36_24 : xcode 36 24 = some (.iadd, 1) := by decide +kernel
theorem d_36_25 : xcode 36 25 = some (.iload_n 3, 1) := by decide +kernel
theorem d_36_26 : xcode 36 26 = some (.invokevirtual 56, 3) := by decide +kernel
theorem d_36_29 : xcode 36 29 = some (.iload_n 3, 1) := by decide +kernel
theorem d_36_30 : xcode 36 30 = some (.invokevirtual 62, 3) := by decide +kernel
theorem d_36_33 : xcode 36 33 = some (.iinc 3 1, 3) := by decide +kernel
theorem d_36_36 : xcode 36 36 = some (.goto (-24), 3) := by decide +kernel
theorem d_36_39 : xcode 36 39 = some (.return_, 1) := by decide +kernel
theorem d_37_0 : xcode 37 0 = some (.aload_n 0, 1) := by decide +kernel
theorem d_37_1 : xcode 37 1 = some (.lload_n 1, 1) := by decide +kernel
theorem d_37_2 : xcode 37 2 = some (.lconst 1, 1) := by decide +kernel
theorem d_37_3 : xcode 37 3 = some (.invokestatic 13, 3) := by decide +kernel
theorem d_37_6 : xcode 37 6 = some (.putfield 7, 3) := by decide +kernel
theorem d_37_9 : xcode 37 9 = some (.aload_n 0, 1) := by decide +kernel
theorem d_37_10 : xcode 37 10 = some (.lconst 0, 1) := by decide +kernel
theorem d_37_11 : xcode 37 11 = some (.putfield 19, 3) := by decide +kernel
theorem d_37_14 : xcode 37 14 = some (.aload_n 0, 1) := by decide +kernel
theorem d_37_15 : xcode 37 15 = some (.lconst 0, 1) := by decide +kernel
theorem d_37_16 : xcode 37 16 = some (.putfield 22, 3) := by decide +kernel
theorem d_37_19 : xcode 37 19 = some (.return_, 1) := by decide +kernel
theorem d_38_0 : xcode 38 0 = some (.lload_n 0, 1) := by decide +kernel
theorem d_38_1 : xcode 38 1 = some (.lload_n 2, 1) := by decide +kernel
theorem d_38_2 : xcode 38 2 = some (.lcmp, 1) := by decide +kernel
theorem d_38_3 : xcode 38 3 = some (.ifCond .lt 7, 3) := by decide +kernel
theorem d_38_6 : xcode 38 6 = some (.lload_n 0, 1) := by decide +kernel
theorem d_38_7 : xcode 38 7 = some (.goto 4, 3) := by decide +kernel
theorem d_38_10 : xcode 38 10 = some (.lload_n 2, 1) := by decide +kernel
theorem d_38_11 : xcode 38 11 = some (.lreturn, 1) := by decide +kernel
theorem d_39_0 : xcode 39 0 = some (.iload_n 1, 1) := by decide +kernel
theorem d_39_1 : xcode 39 1 = some (.ifCond .lt 33, 3) := by decide +kernel
theorem d_39_4 : xcode 39 4 = some (.iload_n 1, 1) := by decide +kernel
theorem d_39_5 : xcode 39 5 = some (.bipush 42, 2) := by decide +kernel
theorem d_39_7 : xcode 39 7 = some (.if_icmp .ge 27, 3) := by decide +kernel
theorem d_39_10 : xcode 39 10 = some (.iload_n 2, 1) := by decide +kernel
theorem d_39_11 : xcode 39 11 = some (.ifCond .lt 23, 3) := by decide +kernel
theorem d_39_14 : xcode 39 14 = some (.iload_n 2, 1) := by decide +kernel
theorem d_39_15 : xcode 39 15 = some (.bipush 42, 2) := by decide +kernel
theorem d_39_17 : xcode 39 17 = some (.if_icmp .ge 17, 3) := by decide +kernel
theorem d_39_20 : xcode 39 20 = some (.aload_n 0, 1) := by decide +kernel
theorem d_39_21 : xcode 39 21 = some (.getfield 11, 3) := by decide +kernel
theorem d_39_24 : xcode 39 24 = some (.iload_n 1, 1) := by decide +kernel
theorem d_39_25 : xcode 39 25 = some (.bipush 42, 2) := by decide +kernel
theorem d_39_27 : xcode 39 27 = some (.imul, 1) := by decide +kernel
theorem d_39_28 : xcode 39 28 = some (.iload_n 2, 1) := by decide +kernel
theorem d_39_29 : xcode 39 29 = some (.iadd, 1) := by decide +kernel
theorem d_39_30 : xcode 39 30 = some (.laload, 1) := by decide +kernel
theorem d_39_31 : xcode 39 31 = some (.goto 4, 3) := by decide +kernel
theorem d_39_34 : xcode 39 34 = some (.lconst 0, 1) := by decide +kernel
theorem d_39_35 : xcode 39 35 = some (.lreturn, 1) := by decide +kernel
theorem d_40_0 : xcode 40 0 = some (.aload_n 0, 1) := by decide +kernel
theorem d_40_1 : xcode 40 1 = some (.getfield 19, 3) := by decide +kernel
theorem d_40_4 : xcode 40 4 = some (.lload_n 1, 1) := by decide +kernel
theorem d_40_5 : xcode 40 5 = some (.aload_n 0, 1) := by decide +kernel
theorem d_40_6 : xcode 40 6 = some (.getfield 9, 3) := by decide +kernel
theorem d_40_9 : xcode 40 9 = some (.iload_n 3, 1) := by decide +kernel
theorem d_40_10 : xcode 40 10 = some (.invokevirtual 91, 3) := by decide +kernel
theorem d_40_13 : xcode 40 13 = some (.aload_n 0, 1) := by decide +kernel
theorem d_40_14 : xcode 40 14 = some (.getfield 9, 3) := by decide +kernel
theorem d_40_17 : xcode 40 17 = some (.iload_n 3, 1) := by decide +kernel
theorem d_40_18 : xcode 40 18 = some (.invokevirtual 94, 3) := by decide +kernel
theorem d_40_21 : xcode 40 21 = some (.aload_n 0, 1) := by decide +kernel
theorem d_40_22 : xcode 40 22 = some (.getfield 9, 3) := by decide +kernel
theorem d_40_25 : xcode 40 25 = some (.iload_n 3, 1) := by decide +kernel
theorem d_40_26 : xcode 40 26 = some (.invokevirtual 87, 3) := by decide +kernel
theorem d_40_29 : xcode 40 29 = some (.invokevirtual 100, 3) := by decide +kernel
theorem d_40_32 : xcode 40 32 = some (.return_, 1) := by decide +kernel
theorem d_41_0 : xcode 41 0 = some (.lload 7, 2) := by decide +kernel
theorem d_41_2 : xcode 41 2 = some (.lconst 0, 1) := by decide +kernel
theorem d_41_3 : xcode 41 3 = some (.lcmp, 1) := by decide +kernel
theorem d_41_4 : xcode 41 4 = some (.ifCond .gt 4, 3) := by decide +kernel
theorem d_41_7 : xcode 41 7 = some (.return_, 1) := by decide +kernel
theorem d_41_8 : xcode 41 8 = some (.lload_n 1, 1) := by decide +kernel
theorem d_41_9 : xcode 41 9 = some (.lload 5, 2) := by decide +kernel
theorem d_41_11 : xcode 41 11 = some (.lmul, 1) := by decide +kernel
theorem d_41_12 : xcode 41 12 = some (.lstore 9, 2) := by decide +kernel
theorem d_41_14 : xcode 41 14 = some (.aload_n 0, 1) := by decide +kernel
theorem d_41_15 : xcode 41 15 = some (.dup, 1) := by decide +kernel
theorem d_41_16 : xcode 41 16 = some (.getfield 19, 3) := by decide +kernel
theorem d_41_19 : xcode 41 19 = some (.lload_n 1, 1) := by decide +kernel
theorem d_41_20 : xcode 41 20 = some (.lload_n 3, 1) := by decide +kernel
theorem d_41_21 : xcode 41 21 = some (.lmul, 1) := by decide +kernel
theorem d_41_22 : xcode 41 22 = some (.lload 9, 2) := by decide +kernel
theorem d_41_24 : xcode 41 24 = some (.lload 7, 2) := by decide +kernel
theorem d_41_26 : xcode 41 26 = some (.invokestatic 25, 3) := by decide +kernel
theorem d_41_29 : xcode 41 29 = some (.ladd, 1) := by decide +kernel
theorem d_41_30 : xcode 41 30 = some (.ladd, 1) := by decide +kernel
theorem d_41_31 : xcode 41 31 = some (.putfield 19, 3) := by decide +kernel
theorem d_41_34 : xcode 41 34 = some (.aload_n 0, 1) := by decide +kernel
theorem d_41_35 : xcode 41 35 = some (.dup, 1) := by decide +kernel
theorem d_41_36 : xcode 41 36 = some (.getfield 22, 3) := by decide +kernel
theorem d_41_39 : xcode 41 39 = some (.lload 9, 2) := by decide +kernel
theorem d_41_41 : xcode 41 41 = some (.lload 7, 2) := by decide +kernel
theorem d_41_43 : xcode 41 43 = some (.invokestatic 28, 3) := by decide +kernel
theorem d_41_46 : xcode 41 46 = some (.aload_n 0, 1) := by decide +kernel
theorem d_41_47 : xcode 41 47 = some (.getfield 7, 3) := by decide +kernel
theorem d_41_50 : xcode 41 50 = some (.lload 7, 2) := by decide +kernel
theorem d_41_52 : xcode 41 52 = some (.ldiv, 1) := by decide +kernel
theorem d_41_53 : xcode 41 53 = some (.lmul, 1) := by decide +kernel
theorem d_41_54 : xcode 41 54 = some (.ladd, 1) := by decide +kernel
theorem d_41_55 : xcode 41 55 = some (.putfield 22, 3) := by decide +kernel
theorem d_41_58 : xcode 41 58 = some (.aload_n 0, 1) := by decide +kernel
theorem d_41_59 : xcode 41 59 = some (.getfield 22, 3) := by decide +kernel
theorem d_41_62 : xcode 41 62 = some (.aload_n 0, 1) := by decide +kernel
theorem d_41_63 : xcode 41 63 = some (.getfield 7, 3) := by decide +kernel
theorem d_41_66 : xcode 41 66 = some (.lcmp, 1) := by decide +kernel
theorem d_41_67 : xcode 41 67 = some (.ifCond .lt 26, 3) := by decide +kernel
theorem d_41_70 : xcode 41 70 = some (.aload_n 0, 1) := by decide +kernel
theorem d_41_71 : xcode 41 71 = some (.dup, 1) := by decide +kernel
theorem d_41_72 : xcode 41 72 = some (.getfield 22, 3) := by decide +kernel
theorem d_41_75 : xcode 41 75 = some (.aload_n 0, 1) := by decide +kernel
theorem d_41_76 : xcode 41 76 = some (.getfield 7, 3) := by decide +kernel
theorem d_41_79 : xcode 41 79 = some (.lsub, 1) := by decide +kernel
theorem d_41_80 : xcode 41 80 = some (.putfield 22, 3) := by decide +kernel
theorem d_41_83 : xcode 41 83 = some (.aload_n 0, 1) := by decide +kernel
theorem d_41_84 : xcode 41 84 = some (.dup, 1) := by decide +kernel
theorem d_41_85 : xcode 41 85 = some (.getfield 19, 3) := by decide +kernel
theorem d_41_88 : xcode 41 88 = some (.lconst 1, 1) := by decide +kernel
theorem d_41_89 : xcode 41 89 = some (.ladd, 1) := by decide +kernel
theorem d_41_90 : xcode 41 90 = some (.putfield 19, 3) := by decide +kernel
theorem d_41_93 : xcode 41 93 = some (.return_, 1) := by decide +kernel
theorem d_42_0 : xcode 42 0 = some (.aload_n 1, 1) := by decide +kernel
theorem d_42_1 : xcode 42 1 = some (.aload_n 0, 1) := by decide +kernel
theorem d_42_2 : xcode 42 2 = some (.getfield 19, 3) := by decide +kernel
theorem d_42_5 : xcode 42 5 = some (.aload_n 0, 1) := by decide +kernel
theorem d_42_6 : xcode 42 6 = some (.getfield 22, 3) := by decide +kernel
theorem d_42_9 : xcode 42 9 = some (.aload_n 0, 1) := by decide +kernel
theorem d_42_10 : xcode 42 10 = some (.getfield 7, 3) := by decide +kernel
theorem d_42_13 : xcode 42 13 = some (.invokevirtual 31, 3) := by decide +kernel
theorem d_42_16 : xcode 42 16 = some (.return_, 1) := by decide +kernel
theorem d_43_0 : xcode 43 0 = some (.aload_n 0, 1) := by decide +kernel
theorem d_43_1 : xcode 43 1 = some (.lload_n 1, 1) := by decide +kernel
theorem d_43_2 : xcode 43 2 = some (.aload_n 0, 1) := by decide +kernel
theorem d_43_3 : xcode 43 3 = some (.getfield 25, 3) := by decide +kernel
theorem d_43_6 : xcode 43 6 = some (.lmul, 1) := by decide +kernel
theorem d_43_7 : xcode 43 7 = some (.lload_n 1, 1) := by decide +kernel
theorem d_43_8 : xcode 43 8 = some (.aload_n 0, 1) := by decide +kernel
theorem d_43_9 : xcode 43 9 = some (.getfield 28, 3) := by decide +kernel
theorem d_43_12 : xcode 43 12 = some (.lmul, 1) := by decide +kernel
theorem d_43_13 : xcode 43 13 = some (.aload_n 0, 1) := by decide +kernel
theorem d_43_14 : xcode 43 14 = some (.getfield 7, 3) := by decide +kernel
theorem d_43_17 : xcode 43 17 = some (.invokevirtual 31, 3) := by decide +kernel
theorem d_43_20 : xcode 43 20 = some (.return_, 1) := by decide +kernel
theorem d_44_0 : xcode 44 0 = some (.lload_n 1, 1) := by decide +kernel
theorem d_44_1 : xcode 44 1 = some (.lconst 0, 1) := by decide +kernel
theorem d_44_2 : xcode 44 2 = some (.lcmp, 1) := by decide +kernel
theorem d_44_3 : xcode 44 3 = some (.ifCond .le 41, 3) := by decide +kernel
theorem d_44_6 : xcode 44 6 = some (.aload_n 0, 1) := by decide +kernel
theorem d_44_7 : xcode 44 7 = some (.getfield 25, 3) := by decide +kernel
theorem d_44_10 : xcode 44 10 = some (.lload_n 1, 1) := by decide +kernel
theorem d_44_11 : xcode 44 11 = some (.invokestatic 13, 3) := by decide +kernel
theorem d_44_14 : xcode 44 14 = some (.lstore_n 3, 1) := by decide +kernel
theorem d_44_15 : xcode 44 15 = some (.aload_n 0, 1) := by decide +kernel
theorem d_44_16 : xcode 44 16 = some (.aload_n 0, 1) := by decide +kernel
theorem d_44_17 : xcode 44 17 = some (.getfield 25, 3) := by decide +kernel
theorem d_44_20 : xcode 44 20 = some (.lload_n 1, 1) := by decide +kernel
theorem d_44_21 : xcode 44 21 = some (.invokestatic 22, 3) := by decide +kernel
theorem d_44_24 : xcode 44 24 = some (.lload_n 3, 1) := by decide +kernel
theorem d_44_25 : xcode 44 25 = some (.aload_n 0, 1) := by decide +kernel
theorem d_44_26 : xcode 44 26 = some (.getfield 7, 3) := by decide +kernel
theorem d_44_29 : xcode 44 29 = some (.lmul, 1) := by decide +kernel
theorem d_44_30 : xcode 44 30 = some (.aload_n 0, 1) := by decide +kernel
theorem d_44_31 : xcode 44 31 = some (.getfield 28, 3) := by decide +kernel
theorem d_44_34 : xcode 44 34 = some (.ladd, 1) := by decide +kernel
theorem d_44_35 : xcode 44 35 = some (.aload_n 0, 1) := by decide +kernel
theorem d_44_36 : xcode 44 36 = some (.getfield 7, 3) := by decide +kernel
theorem d_44_39 : xcode 44 39 = some (.lload_n 1, 1) := by decide +kernel
theorem d_44_40 : xcode 44 40 = some (.lmul, 1) := by decide +kernel
theorem d_44_41 : xcode 44 41 = some (.invokevirtual 31, 3) := by decide +kernel
theorem d_44_44 : xcode 44 44 = some (.return_, 1) := by decide +kernel
theorem d_45_0 : xcode 45 0 = some (.aload_n 0, 1) := by decide +kernel
theorem d_45_1 : xcode 45 1 = some (.getfield 28, 3) := by decide +kernel
theorem d_45_4 : xcode 45 4 = some (.iload_n 1, 1) := by decide +kernel
theorem d_45_5 : xcode 45 5 = some (.invokevirtual 106, 3) := by decide +kernel
theorem d_45_8 : xcode 45 8 = some (.iconst 0, 1) := by decide +kernel
theorem d_45_9 : xcode 45 9 = some (.istore_n 2, 1) := by decide +kernel
theorem d_45_10 : xcode 45 10 = some (.iload_n 2, 1) := by decide +kernel
theorem d_45_11 : xcode 45 11 = some (.iload_n 1, 1) := by decide +kernel
theorem d_45_12 : xcode 45 12 = some (.if_icmp .ge 16, 3) := by decide +kernel
theorem d_45_15 : xcode 45 15 = some (.aload_n 0, 1) := by decide +kernel
theorem d_45_16 : xcode 45 16 = some (.getfield 28, 3) := by decide +kernel
theorem d_45_19 : xcode 45 19 = some (.invokevirtual 117, 3) := by decide +kernel
theorem d_45_22 : xcode 45 22 = some (.iinc 2 1, 3) := by decide +kernel
theorem d_45_25 : xcode 45 25 = some (.goto (-15), 3) := by decide +kernel
theorem d_45_28 : xcode 45 28 = some (.aload_n 0, 1) := by decide +kernel
theorem d_45_29 : xcode 45 29 = some (.getfield 28, 3) := by decide +kernel
theorem d_45_32 : xcode 45 32 = some (.iload_n 1, 1) := by decide +kernel
theorem d_45_33 : xcode 45 33 = some (.aload_n 0, 1) := by decide +kernel
theorem d_45_34 : xcode 45 34 = some (.getfield 95, 3) := by decide +kernel
theorem d_45_37 : xcode 45 37 = some (.invokevirtual 110, 3) := by decide +kernel
theorem d_45_40 : xcode 45 40 = some (.return_, 1) := by decide +kernel
theorem d_46_0 : xcode 46 0 = some (.iload_n 1, 1) := by decide +kernel
theorem d_46_1 : xcode 46 1 = some (.invokestatic 190, 3) := by decide +kernel
theorem d_46_4 : xcode 46 4 = some (.ifCond .ne 9, 3) := by decide +kernel
theorem d_46_7 : xcode 46 7 = some (.aload_n 0, 1) := by decide +kernel
theorem d_46_8 : xcode 46 8 = some (.iload_n 1, 1) := by decide +kernel
theorem d_46_9 : xcode 46 9 = some (.invokevirtual 431, 3) := by decide +kernel
theorem d_46_12 : xcode 46 12 = some (.return_, 1) := by decide +kernel
theorem d_46_13 : xcode 46 13 = some (.aload_n 0, 1) := by decide +kernel
theorem d_46_14 : xcode 46 14 = some (.getfield 21, 3) := by decide +kernel
theorem d_46_17 : xcode 46 17 = some (.ldc2_w 193, 3) := by decide +kernel
theorem d_46_20 : xcode 46 20 = some (.invokevirtual 195, 3) := by decide +kernel
theorem d_46_23 : xcode 46 23 = some (.aload_n 0, 1) := by decide +kernel
theorem d_46_24 : xcode 46 24 = some (.getfield 21, 3) := by decide +kernel
theorem d_46_27 : xcode 46 27 = some (.lconst 1, 1) := by decide +kernel
theorem d_46_28 : xcode 46 28 = some (.aload_n 0, 1) := by decide +kernel
theorem d_46_29 : xcode 46 29 = some (.iload_n 1, 1) := by decide +kernel
theorem d_46_30 : xcode 46 30 = some (.invokevirtual 434, 3) := by decide +kernel
theorem d_46_33 : xcode 46 33 = some (.lconst 0, 1) := by decide +kernel
theorem d_46_34 : xcode 46 34 = some (.lconst 1, 1) := by decide +kernel
theorem d_46_35 : xcode 46 35 = some (.invokevirtual 207, 3) := by decide +kernel
theorem d_46_38 : xcode 46 38 = some (.aload_n 0, 1) := by decide +kernel
theorem d_46_39 : xcode 46 39 = some (.iload_n 1, 1) := by decide +kernel
theorem d_46_40 : xcode 46 40 = some (.iconst (-1), 1) := by decide +kernel
theorem d_46_41 : xcode 46 41 = some (.invokevirtual 211, 3) := by decide +kernel
theorem d_46_44 : xcode 46 44 = some (.aload_n 0, 1) := by decide +kernel
theorem d_46_45 : xcode 46 45 = some (.getfield 21, 3) := by decide +kernel
theorem d_46_48 : xcode 46 48 = some (.aload_n 0, 1) := by decide +kernel
theorem d_46_49 : xcode 46 49 = some (.getfield 95, 3) := by decide +kernel
theorem d_46_52 : xcode 46 52 = some (.invokevirtual 214, 3) := by decide +kernel
theorem d_46_55 : xcode 46 55 = some (.return_, 1) := by decide +kernel
theorem d_47_0 : xcode 47 0 = some (.iload_n 0, 1) := by decide +kernel
theorem d_47_1 : xcode 47 1 = some (.iconst 2, 1) := by decide +kernel
theorem d_47_2 : xcode 47 2 = some (.if_icmp .lt 13, 3) := by decide +kernel
theorem d_47_5 : xcode 47 5 = some (.iload_n 0, 1) := by decide +kernel
theorem d_47_6 : xcode 47 6 = some (.iconst 2, 1) := by decide +kernel
theorem d_47_7 : xcode 47 7 = some (.irem, 1) := by decide +kernel
theorem d_47_8 : xcode 47 8 = some (.ifCond .ne 7, 3) := by decide +kernel
theorem d_47_11 : xcode 47 11 = some (.iconst 1, 1) := by decide +kernel
theorem d_47_12 : xcode 47 12 = some (.goto 4, 3) := by decide +kernel
theorem d_47_15 : xcode 47 15 = some (.iconst 0, 1) := by decide +kernel
theorem d_47_16 : xcode 47 16 = some (.ireturn, 1) := by decide +kernel
theorem d_48_0 : xcode 48 0 = some (.lconst 0, 1) := by decide +kernel
theorem d_48_1 : xcode 48 1 = some (.lstore_n 2, 1) := by decide +kernel
theorem d_48_2 : xcode 48 2 = some (.lconst 1, 1) := by decide +kernel
theorem d_48_3 : xcode 48 3 = some (.lstore 4, 2) := by decide +kernel
theorem d_48_5 : xcode 48 5 = some (.bipush 12, 2) := by decide +kernel
theorem d_48_7 : xcode 48 7 = some (.istore 6, 2) := by decide +kernel
theorem d_48_9 : xcode 48 9 = some (.iload 6, 2) := by decide +kernel
theorem d_48_11 : xcode 48 11 = some (.bipush 21, 2) := by decide +kernel
theorem d_48_13 : xcode 48 13 = some (.if_icmp .ge 93, 3) := by decide +kernel
theorem d_48_16 : xcode 48 16 = some (.iload 6, 2) := by decide +kernel
theorem d_48_18 : xcode 48 18 = some (.getstatic 184, 3) := by decide +kernel
theorem d_48_21 : xcode 48 21 = some (.arraylength, 1) := by decide +kernel
theorem d_48_22 : xcode 48 22 = some (.if_icmp .ge 84, 3) := by decide +kernel
theorem d_48_25 : xcode 48 25 = some (.getstatic 184, 3) := by decide +kernel
theorem d_48_28 : xcode 48 28 = some (.iload 6, 2) := by decide +kernel
theorem d_48_30 : xcode 48 30 = some (.iaload, 1) := by decide +kernel
theorem d_48_31 : xcode 48 31 = some (.istore 7, 2) := by decide +kernel
theorem d_48_33 : xcode 48 33 = some (.iload_n 1, 1) := by decide +kernel
theorem d_48_34 : xcode 48 34 = some (.iload 7, 2) := by decide +kernel
theorem d_48_36 : xcode 48 36 = some (.iload 7, 2) := by decide +kernel
theorem d_48_38 : xcode 48 38 = some (.i2l, 1) := by decide +kernel
theorem d_48_39 : xcode 48 39 = some (.iload 7, 2) := by decide +kernel
theorem d_48_41 : xcode 48 41 = some (.i2l, 1) := by decide +kernel
theorem d_48_42 : xcode 48 42 = some (.lmul, 1) := by decide +kernel
theorem d_48_43 : xcode 48 43 = some (.invokestatic 437, 3) := by decide +kernel
theorem d_48_46 : xcode 48 46 = some (.iload 7, 2) := by decide +kernel
theorem d_48_48 : xcode 48 48 = some (.i2l, 1) := by decide +kernel
theorem d_48_49 : xcode 48 49 = some (.ldiv, 1) := by decide +kernel
theorem d_48_50 : xcode 48 50 = some (.iload_n 1, 1) := by decide +kernel
theorem d_48_51 : xcode 48 51 = some (.iload 7, 2) := by decide +kernel
theorem d_48_53 : xcode 48 53 = some (.invokestatic 441, 3) := by decide +kernel
theorem d_48_56 : xcode 48 56 = some (.ladd, 1) := by decide +kernel
theorem d_48_57 : xcode 48 57 = some (.lstore 8, 2) := by decide +kernel
theorem d_48_59 : xcode 48 59 = some (.lload 8, 2) := by decide +kernel
theorem d_48_61 : xcode 48 61 = some (.lload_n 2, 1) := by decide +kernel
theorem d_48_62 : xcode 48 62 = some (.lsub, 1) := by decide +kernel
theorem d_48_63 : xcode 48 63 = some (.iload 7, 2) := by decide +kernel
theorem d_48_65 : xcode 48 65 = some (.i2l, 1) := by decide +kernel
theorem d_48_66 : xcode 48 66 = some (.invokestatic 306, 3) := by decide +kernel
theorem d_48_69 : xcode 48 69 = some (.lstore 10, 2) := by decide +kernel
theorem d_48_71 : xcode 48 71 = some (.lload_n 2, 1) := by decide +kernel
theorem d_48_72 : xcode 48 72 = some (.lload 4, 2) := by decide +kernel
theorem d_48_74 : xcode 48 74 = some (.lload 10, 2) := by decide +kernel
theorem d_48_76 : xcode 48 76 = some (.lload 4, 2) := by decide +kernel
theorem d_48_78 : xcode 48 78 = some (.iload 7, 2) := by decide +kernel
theorem d_48_80 : xcode 48 80 = some (.i2l, 1) := by decide +kernel
theorem d_48_81 : xcode 48 81 = some (.invokestatic 316, 3) := by decide +kernel
theorem d_48_84 : xcode 48 84 = some (.lmul, 1) := by decide +kernel
theorem d_48_85 : xcode 48 85 = some (.iload 7, 2) := by decide +kernel
theorem d_48_87 : xcode 48 87 = some (.i2l, 1) := by decide +kernel
theorem d_48_88 : xcode 48 88 = some (.lrem, 1) := by decide +kernel
theorem d_48_89 : xcode 48 89 = some (.lmul, 1) := by decide +kernel
theorem d_48_90 : xcode 48 90 = some (.ladd, 1) := by decide +kernel
theorem d_48_91 : xcode 48 91 = some (.lstore_n 2, 1) := by decide +kernel
theorem d_48_92 : xcode 48 92 = some (.lload 4, 2) := by decide +kernel
theorem d_48_94 : xcode 48 94 = some (.iload 7, 2) := by decide +kernel
theorem d_48_96 : xcode 48 96 = some (.i2l, 1) := by decide +kernel
theorem d_48_97 : xcode 48 97 = some (.lmul, 1) := by decide +kernel
theorem d_48_98 : xcode 48 98 = some (.lstore 4, 2) := by decide +kernel
theorem d_48_100 : xcode 48 100 = some (.iinc 6 1, 3) := by decide +kernel
theorem d_48_103 : xcode 48 103 = some (.goto (-94), 3) := by decide +kernel
theorem d_48_106 : xcode 48 106 = some (.lload_n 2, 1) := by decide +kernel
theorem d_48_107 : xcode 48 107 = some (.lload 4, 2) := by decide +kernel
theorem d_48_109 : xcode 48 109 = some (.ldc2_w 389, 3) := by decide +kernel
theorem d_48_112 : xcode 48 112 = some (.ldiv, 1) := by decide +kernel
theorem d_48_113 : xcode 48 113 = some (.lcmp, 1) := by decide +kernel
theorem d_48_114 : xcode 48 114 = some (.ifCond .le 10, 3) := by decide +kernel
theorem d_48_117 : xcode 48 117 = some (.lload_n 2, 1) := by decide +kernel
theorem d_48_118 : xcode 48 118 = some (.lload 4, 2) := by decide +kernel
theorem d_48_120 : xcode 48 120 = some (.lsub, 1) := by decide +kernel
theorem d_48_121 : xcode 48 121 = some (.goto 4, 3) := by decide +kernel
theorem d_48_124 : xcode 48 124 = some (.lload_n 2, 1) := by decide +kernel
theorem d_48_125 : xcode 48 125 = some (.lreturn, 1) := by decide +kernel
theorem d_49_0 : xcode 49 0 = some (.lload_n 2, 1) := by decide +kernel
theorem d_49_1 : xcode 49 1 = some (.lconst 0, 1) := by decide +kernel
theorem d_49_2 : xcode 49 2 = some (.lcmp, 1) := by decide +kernel
theorem d_49_3 : xcode 49 3 = some (.ifCond .gt 5, 3) := by decide +kernel
theorem d_49_6 : xcode 49 6 = some (.lconst 0, 1) := by decide +kernel
theorem d_49_7 : xcode 49 7 = some (.lreturn, 1) := by decide +kernel
theorem d_49_8 : xcode 49 8 = some (.lconst 0, 1) := by decide +kernel
theorem d_49_9 : xcode 49 9 = some (.lstore 4, 2) := by decide +kernel
theorem d_49_11 : xcode 49 11 = some (.iconst 1, 1) := by decide +kernel
theorem d_49_12 : xcode 49 12 = some (.istore 6, 2) := by decide +kernel
theorem d_49_14 : xcode 49 14 = some (.iload 6, 2) := by decide +kernel
theorem d_49_16 : xcode 49 16 = some (.iload_n 1, 1) := by decide +kernel
theorem d_49_17 : xcode 49 17 = some (.if_icmp .ge 22, 3) := by decide +kernel
theorem d_49_20 : xcode 49 20 = some (.lload 4, 2) := by decide +kernel
theorem d_49_22 : xcode 49 22 = some (.iload 6, 2) := by decide +kernel
theorem d_49_24 : xcode 49 24 = some (.i2l, 1) := by decide +kernel
theorem d_49_25 : xcode 49 25 = some (.iload_n 0, 1) := by decide +kernel
theorem d_49_26 : xcode 49 26 = some (.lload_n 2, 1) := by decide +kernel
theorem d_49_27 : xcode 49 27 = some (.invokestatic 13, 3) := by decide +kernel
theorem d_49_30 : xcode 49 30 = some (.ladd, 1) := by decide +kernel
theorem d_49_31 : xcode 49 31 = some (.lstore 4, 2) := by decide +kernel
theorem d_49_33 : xcode 49 33 = some (.iinc 6 1, 3) := by decide +kernel
theorem d_49_36 : xcode 49 36 = some (.goto (-22), 3) := by decide +kernel
theorem d_49_39 : xcode 49 39 = some (.lload 4, 2) := by decide +kernel
theorem d_49_41 : xcode 49 41 = some (.lload_n 2, 1) := by decide +kernel
theorem d_49_42 : xcode 49 42 = some (.lrem, 1) := by decide +kernel
theorem d_49_43 : xcode 49 43 = some (.lreturn, 1) := by decide +kernel
theorem d_50_0 : xcode 50 0 = some (.lload_n 3, 1) := by decide +kernel
theorem d_50_1 : xcode 50 1 = some (.lconst 0, 1) := by decide +kernel
theorem d_50_2 : xcode 50 2 = some (.lcmp, 1) := by decide +kernel
theorem d_50_3 : xcode 50 3 = some (.ifCond .gt 5, 3) := by decide +kernel
theorem d_50_6 : xcode 50 6 = some (.lconst 0, 1) := by decide +kernel
theorem d_50_7 : xcode 50 7 = some (.lreturn, 1) := by decide +kernel
theorem d_50_8 : xcode 50 8 = some (.lconst 1, 1) := by decide +kernel
theorem d_50_9 : xcode 50 9 = some (.lload_n 3, 1) := by decide +kernel
theorem d_50_10 : xcode 50 10 = some (.lrem, 1) := by decide +kernel
theorem d_50_11 : xcode 50 11 = some (.lstore 5, 2) := by decide +kernel
theorem d_50_13 : xcode 50 13 = some (.lload_n 0, 1) := by decide +kernel
theorem d_50_14 : xcode 50 14 = some (.lload_n 3, 1) := by decide +kernel
theorem d_50_15 : xcode 50 15 = some (.invokestatic 7, 3) := by decide +kernel
theorem d_50_18 : xcode 50 18 = some (.lstore 7, 2) := by decide +kernel
theorem d_50_20 : xcode 50 20 = some (.iconst 0, 1) := by decide +kernel
theorem d_50_21 : xcode 50 21 = some (.istore 9, 2) := by decide +kernel
theorem d_50_23 : xcode 50 23 = some (.iload 9, 2) := by decide +kernel
theorem d_50_25 : xcode 50 25 = some (.bipush 31, 2) := by decide +kernel
theorem d_50_27 : xcode 50 27 = some (.if_icmp .ge 44, 3) := by decide +kernel
theorem d_50_30 : xcode 50 30 = some (.iload_n 2, 1) := by decide +kernel
theorem d_50_31 : xcode 50 31 = some (.iload 9, 2) := by decide +kernel
theorem d_50_33 : xcode 50 33 = some (.ishr, 1) := by decide +kernel
theorem d_50_34 : xcode 50 34 = some (.ifCond .le 37, 3) := by decide +kernel
theorem d_50_37 : xcode 50 37 = some (.iload_n 2, 1) := by decide +kernel
theorem d_50_38 : xcode 50 38 = some (.iload 9, 2) := by decide +kernel
theorem d_50_40 : xcode 50 40 = some (.ishr, 1) := by decide +kernel
theorem d_50_41 : xcode 50 41 = some (.iconst 1, 1) := by decide +kernel
theorem d_50_42 : xcode 50 42 = some (.iand, 1) := by decide +kernel
theorem d_50_43 : xcode 50 43 = some (.iconst 1, 1) := by decide +kernel
theorem d_50_44 : xcode 50 44 = some (.if_icmp .ne 12, 3) := by decide +kernel
theorem d_50_47 : xcode 50 47 = some (.lload 5, 2) := by decide +kernel
theorem d_50_49 : xcode 50 49 = some (.lload 7, 2) := by decide +kernel
theorem d_50_51 : xcode 50 51 = some (.lmul, 1) := by decide +kernel
theorem d_50_52 : xcode 50 52 = some (.lload_n 3, 1) := by decide +kernel
theorem d_50_53 : xcode 50 53 = some (.lrem, 1) := by decide +kernel
theorem d_50_54 : xcode 50 54 = some (.lstore 5, 2) := by decide +kernel
theorem d_50_56 : xcode 50 56 = some (.lload 7, 2) := by decide +kernel
theorem d_50_58 : xcode 50 58 = some (.lload 7, 2) := by decide +kernel
theorem d_50_60 : xcode 50 60 = some (.lmul, 1) := by decide +kernel
theorem d_50_61 : xcode 50 61 = some (.lload_n 3, 1) := by decide +kernel
theorem d_50_62 : xcode 50 62 = some (.lrem, 1) := by decide +kernel
theorem d_50_63 : xcode 50 63 = some (.lstore 7, 2) := by decide +kernel
theorem d_50_65 : xcode 50 65 = some (.iinc 9 1, 3) := by decide +kernel
theorem d_50_68 : xcode 50 68 = some (.goto (-45), 3) := by decide +kernel
theorem d_50_71 : xcode 50 71 = some (.lload 5, 2) := by decide +kernel
theorem d_50_73 : xcode 50 73 = some (.lreturn, 1) := by decide +kernel
theorem d_51_0 : xcode 51 0 = some (.lconst 0, 1) := by decide +kernel
theorem d_51_1 : xcode 51 1 = some (.lstore_n 2, 1) := by decide +kernel
theorem d_51_2 : xcode 51 2 = some (.getstatic 184, 3) := by decide +kernel
theorem d_51_5 : xcode 51 5 = some (.astore 4, 2) := by decide +kernel
theorem d_51_7 : xcode 51 7 = some (.aload 4, 2) := by decide +kernel
theorem d_51_9 : xcode 51 9 = some (.arraylength, 1) := by decide +kernel
theorem d_51_10 : xcode 51 10 = some (.istore 5, 2) := by decide +kernel
theorem d_51_12 : xcode 51 12 = some (.iconst 0, 1) := by decide +kernel
theorem d_51_13 : xcode 51 13 = some (.istore 6, 2) := by decide +kernel
theorem d_51_15 : xcode 51 15 = some (.iload 6, 2) := by decide +kernel
theorem d_51_17 : xcode 51 17 = some (.iload 5, 2) := by decide +kernel
theorem d_51_19 : xcode 51 19 = some (.if_icmp .ge 36, 3) := by decide +kernel
theorem d_51_22 : xcode 51 22 = some (.aload 4, 2) := by decide +kernel
theorem d_51_24 : xcode 51 24 = some (.iload 6, 2) := by decide +kernel
theorem d_51_26 : xcode 51 26 = some (.iaload, 1) := by decide +kernel
theorem d_51_27 : xcode 51 27 = some (.istore 7, 2) := by decide +kernel
theorem d_51_29 : xcode 51 29 = some (.iload 7, 2) := by decide +kernel
theorem d_51_31 : xcode 51 31 = some (.iload_n 0, 1) := by decide +kernel
theorem d_51_32 : xcode 51 32 = some (.invokestatic 187, 3) := by decide +kernel
theorem d_51_35 : xcode 51 35 = some (.ifCond .eq 14, 3) := by decide +kernel
theorem d_51_38 : xcode 51 38 = some (.lload_n 2, 1) := by decide +kernel
theorem d_51_39 : xcode 51 39 = some (.iload 7, 2) := by decide +kernel
theorem d_51_41 : xcode 51 41 = some (.i2l, 1) := by decide +kernel
theorem d_51_42 : xcode 51 42 = some (.iload_n 1, 1) := by decide +kernel
theorem d_51_43 : xcode 51 43 = some (.i2l, 1) := by decide +kernel
theorem d_51_44 : xcode 51 44 = some (.invokestatic 316, 3) := by decide +kernel
theorem d_51_47 : xcode 51 47 = some (.ladd, 1) := by decide +kernel
theorem d_51_48 : xcode 51 48 = some (.lstore_n 2, 1) := by decide +kernel
theorem d_51_49 : xcode 51 49 = some (.iinc 6 1, 3) := by decide +kernel
theorem d_51_52 : xcode 51 52 = some (.goto (-37), 3) := by decide +kernel
theorem d_51_55 : xcode 51 55 = some (.lload_n 2, 1) := by decide +kernel
theorem d_51_56 : xcode 51 56 = some (.lreturn, 1) := by decide +kernel
theorem d_52_0 : xcode 52 0 = some (.iload_n 1, 1) := by decide +kernel
theorem d_52_1 : xcode 52 1 = some (.iconst 1, 1) := by decide +kernel
theorem d_52_2 : xcode 52 2 = some (.if_icmp .ne 14, 3) := by decide +kernel
theorem d_52_5 : xcode 52 5 = some (.iload_n 0, 1) := by decide +kernel
theorem d_52_6 : xcode 52 6 = some (.iconst 2, 1) := by decide +kernel
theorem d_52_7 : xcode 52 7 = some (.if_icmp .ne 7, 3) := by decide +kernel
theorem d_52_10 : xcode 52 10 = some (.iconst 1, 1) := by decide +kernel
theorem d_52_11 : xcode 52 11 = some (.goto 4, 3) := by decide +kernel
theorem d_52_14 : xcode 52 14 = some (.iconst 0, 1) := by decide +kernel
theorem d_52_15 : xcode 52 15 = some (.ireturn, 1) := by decide +kernel
theorem d_52_16 : xcode 52 16 = some (.iload_n 1, 1) := by decide +kernel
theorem d_52_17 : xcode 52 17 = some (.invokestatic 190, 3) := by decide +kernel
theorem d_52_20 : xcode 52 20 = some (.ifCond .eq 20, 3) := by decide +kernel
theorem d_52_23 : xcode 52 23 = some (.iload_n 0, 1) := by decide +kernel
theorem d_52_24 : xcode 52 24 = some (.iconst 1, 1) := by decide +kernel
theorem d_52_25 : xcode 52 25 = some (.if_icmp .le 15, 3) := by decide +kernel
theorem d_52_28 : xcode 52 28 = some (.iload_n 1, 1) := by decide +kernel
theorem d_52_29 : xcode 52 29 = some (.iload_n 0, 1) := by decide +kernel
theorem d_52_30 : xcode 52 30 = some (.iconst 1, 1) := by decide +kernel
theorem d_52_31 : xcode 52 31 = some (.isub, 1) := by decide +kernel
theorem d_52_32 : xcode 52 32 = some (.irem, 1) := by decide +kernel
theorem d_52_33 : xcode 52 33 = some (.ifCond .ne 7, 3) := by decide +kernel
theorem d_52_36 : xcode 52 36 = some (.iconst 1, 1) := by decide +kernel
theorem d_52_37 : xcode 52 37 = some (.goto 4, 3) := by decide +kernel
theorem d_52_40 : xcode 52 40 = some (.iconst 0, 1) := by decide +kernel
theorem d_52_41 : xcode 52 41 = some (.ireturn, 1) := by decide +kernel
theorem d_53_0 : xcode 53 0 = some (.lload_n 2, 1) := by decide +kernel
theorem d_53_1 : xcode 53 1 = some (.lconst 0, 1) := by decide +kernel
theorem d_53_2 : xcode 53 2 = some (.lcmp, 1) := by decide +kernel
theorem d_53_3 : xcode 53 3 = some (.ifCond .gt 5, 3) := by decide +kernel
theorem d_53_6 : xcode 53 6 = some (.lconst 0, 1) := by decide +kernel
theorem d_53_7 : xcode 53 7 = some (.lreturn, 1) := by decide +kernel
theorem d_53_8 : xcode 53 8 = some (.lload_n 2, 1) := by decide +kernel
theorem d_53_9 : xcode 53 9 = some (.lstore 4, 2) := by decide +kernel
theorem d_53_11 : xcode 53 11 = some (.lload_n 0, 1) := by decide +kernel
theorem d_53_12 : xcode 53 12 = some (.lload_n 2, 1) := by decide +kernel
theorem d_53_13 : xcode 53 13 = some (.invokestatic 7, 3) := by decide +kernel
theorem d_53_16 : xcode 53 16 = some (.lstore 6, 2) := by decide +kernel
theorem d_53_18 : xcode 53 18 = some (.lconst 0, 1) := by decide +kernel
theorem d_53_19 : xcode 53 19 = some (.lstore 8, 2) := by decide +kernel
theorem d_53_21 : xcode 53 21 = some (.lconst 1, 1) := by decide +kernel
theorem d_53_22 : xcode 53 22 = some (.lstore 10, 2) := by decide +kernel
theorem d_53_24 : xcode 53 24 = some (.iconst 0, 1) := by decide +kernel
theorem d_53_25 : xcode 53 25 = some (.istore 12, 2) := by decide +kernel
theorem d_53_27 : xcode 53 27 = some (.iload 12, 2) := by decide +kernel
theorem d_53_29 : xcode 53 29 = some (.bipush 100, 2) := by decide +kernel
theorem d_53_31 : xcode 53 31 = some (.if_icmp .ge 59, 3) := by decide +kernel
theorem d_53_34 : xcode 53 34 = some (.lload 6, 2) := by decide +kernel
theorem d_53_36 : xcode 53 36 = some (.lconst 0, 1) := by decide +kernel
theorem d_53_37 : xcode 53 37 = some (.lcmp, 1) := by decide +kernel
theorem d_53_38 : xcode 53 38 = some (.ifCond .le 52, 3) := by decide +kernel
theorem d_53_41 : xcode 53 41 = some (.lload 4, 2) := by decide +kernel
theorem d_53_43 : xcode 53 43 = some (.lload 6, 2) := by decide +kernel
theorem d_53_45 : xcode 53 45 = some (.ldiv, 1) := by decide +kernel
theorem d_53_46 : xcode 53 46 = some (.lstore 13, 2) := by decide +kernel
theorem d_53_48 : xcode 53 48 = some (.lload 4, 2) := by decide +kernel
theorem d_53_50 : xcode 53 50 = some (.lload 13, 2) := by decide +kernel
theorem d_53_52 : xcode 53 52 = some (.lload 6, 2) := by decide +kernel
theorem d_53_54 : xcode 53 54 = some (.lmul, 1) := by decide +kernel
theorem d_53_55 : xcode 53 55 = some (.lsub, 1) := by decide +kernel
theorem d_53_56 : xcode 53 56 = some (.lstore 15, 2) := by decide +kernel
theorem d_53_58 : xcode 53 58 = some (.lload 8, 2) := by decide +kernel
theorem d_53_60 : xcode 53 60 = some (.lload 13, 2) := by decide +kernel
theorem d_53_62 : xcode 53 62 = some (.lload 10, 2) := by decide +kernel
theorem d_53_64 : xcode 53 64 = some (.lmul, 1) := by decide +kernel
theorem d_53_65 : xcode 53 65 = some (.lsub, 1) := by decide +kernel
theorem d_53_66 : xcode 53 66 = some (.lstore 17, 2) := by decide +kernel
theorem d_53_68 : xcode 53 68 = some (.lload 6, 2) := by decide +kernel
theorem d_53_70 : xcode 53 70 = some (.lstore 4, 2) := by decide +kernel
theorem d_53_72 : xcode 53 72 = some (.lload 15, 2) := by decide +kernel
theorem d_53_74 : xcode 53 74 = some (.lstore 6, 2) := by decide +kernel
theorem d_53_76 : xcode 53 76 = some (.lload 10, 2) := by decide +kernel
theorem d_53_78 : xcode 53 78 = some (.lstore 8, 2) := by decide +kernel
theorem d_53_80 : xcode 53 80 = some (.lload 17, 2) := by decide +kernel
theorem d_53_82 : xcode 53 82 = some (.lstore 10, 2) := by decide +kernel
theorem d_53_84 : xcode 53 84 = some (.iinc 12 1, 3) := by decide +kernel
theorem d_53_87 : xcode 53 87 = some (.goto (-60), 3) := by decide +kernel
theorem d_53_90 : xcode 53 90 = some (.lload 8, 2) := by decide +kernel
theorem d_53_92 : xcode 53 92 = some (.lload_n 2, 1) := by decide +kernel
theorem d_53_93 : xcode 53 93 = some (.invokestatic 7, 3) := by decide +kernel
theorem d_53_96 : xcode 53 96 = some (.lreturn, 1) := by decide +kernel
theorem d_54_0 : xcode 54 0 = some (.lload_n 2, 1) := by decide +kernel
theorem d_54_1 : xcode 54 1 = some (.lconst 0, 1) := by decide +kernel
theorem d_54_2 : xcode 54 2 = some (.lcmp, 1) := by decide +kernel
theorem d_54_3 : xcode 54 3 = some (.ifCond .le 11, 3) := by decide +kernel
theorem d_54_6 : xcode 54 6 = some (.lload_n 0, 1) := by decide +kernel
theorem d_54_7 : xcode 54 7 = some (.lload_n 2, 1) := by decide +kernel
theorem d_54_8 : xcode 54 8 = some (.invokestatic 7, 3) := by decide +kernel
theorem d_54_11 : xcode 54 11 = some (.goto 4, 3) := by decide +kernel
theorem d_54_14 : xcode 54 14 = some (.lconst 0, 1) := by decide +kernel
theorem d_54_15 : xcode 54 15 = some (.lreturn, 1) := by decide +kernel
theorem d_55_0 : xcode 55 0 = some (.getstatic 184, 3) := by decide +kernel
theorem d_55_3 : xcode 55 3 = some (.astore_n 3, 1) := by decide +kernel
theorem d_55_4 : xcode 55 4 = some (.aload_n 3, 1) := by decide +kernel
theorem d_55_5 : xcode 55 5 = some (.arraylength, 1) := by decide +kernel
theorem d_55_6 : xcode 55 6 = some (.istore 4, 2) := by decide +kernel
theorem d_55_8 : xcode 55 8 = some (.iconst 0, 1) := by decide +kernel
theorem d_55_9 : xcode 55 9 = some (.istore 5, 2) := by decide +kernel
theorem d_55_11 : xcode 55 11 = some (.iload 5, 2) := by decide +kernel
theorem d_55_13 : xcode 55 13 = some (.iload 4, 2) := by decide +kernel
theorem d_55_15 : xcode 55 15 = some (.if_icmp .ge 38, 3) := by decide +kernel
theorem d_55_18 : xcode 55 18 = some (.aload_n 3, 1) := by decide +kernel
theorem d_55_19 : xcode 55 19 = some (.iload 5, 2) := by decide +kernel
theorem d_55_21 : xcode 55 21 = some (.iaload, 1) := by decide +kernel
theorem d_55_22 : xcode 55 22 = some (.istore 6, 2) := by decide +kernel
theorem d_55_24 : xcode 55 24 = some (.iload 6, 2) := by decide +kernel
theorem d_55_26 : xcode 55 26 = some (.iload_n 1, 1) := by decide +kernel
theorem d_55_27 : xcode 55 27 = some (.invokestatic 187, 3) := by decide +kernel
theorem d_55_30 : xcode 55 30 = some (.ifCond .eq 17, 3) := by decide +kernel
theorem d_55_33 : xcode 55 33 = some (.aload_n 0, 1) := by decide +kernel
theorem d_55_34 : xcode 55 34 = some (.getfield 21, 3) := by decide +kernel
theorem d_55_37 : xcode 55 37 = some (.iload_n 2, 1) := by decide +kernel
theorem d_55_38 : xcode 55 38 = some (.i2l, 1) := by decide +kernel
theorem d_55_39 : xcode 55 39 = some (.lconst 0, 1) := by decide +kernel
theorem d_55_40 : xcode 55 40 = some (.lconst 1, 1) := by decide +kernel
theorem d_55_41 : xcode 55 41 = some (.iload 6, 2) := by decide +kernel
theorem d_55_43 : xcode 55 43 = some (.i2l, 1) := by decide +kernel
theorem d_55_44 : xcode 55 44 = some (.invokevirtual 207, 3) := by decide +kernel
theorem d_55_47 : xcode 55 47 = some (.iinc 5 1, 3) := by decide +kernel
theorem d_55_50 : xcode 55 50 = some (.goto (-39), 3) := by decide +kernel
theorem d_55_53 : xcode 55 53 = some (.return_, 1) := by decide +kernel
theorem d_56_0 : xcode 56 0 = some (.aload_n 0, 1) := by decide +kernel
theorem d_56_1 : xcode 56 1 = some (.iload_n 1, 1) := by decide +kernel
theorem d_56_2 : xcode 56 2 = some (.invokevirtual 38, 3) := by decide +kernel
theorem d_56_5 : xcode 56 5 = some (.aload_n 2, 1) := by decide +kernel
theorem d_56_6 : xcode 56 6 = some (.getfield 45, 3) := by decide +kernel
theorem d_56_9 : xcode 56 9 = some (.lcmp, 1) := by decide +kernel
theorem d_56_10 : xcode 56 10 = some (.ifCond .ne 33, 3) := by decide +kernel
theorem d_56_13 : xcode 56 13 = some (.aload_n 0, 1) := by decide +kernel
theorem d_56_14 : xcode 56 14 = some (.iload_n 1, 1) := by decide +kernel
theorem d_56_15 : xcode 56 15 = some (.invokevirtual 42, 3) := by decide +kernel
theorem d_56_18 : xcode 56 18 = some (.aload_n 2, 1) := by decide +kernel
theorem d_56_19 : xcode 56 19 = some (.getfield 49, 3) := by decide +kernel
theorem d_56_22 : xcode 56 22 = some (.lcmp, 1) := by decide +kernel
theorem d_56_23 : xcode 56 23 = some (.ifCond .ne 20, 3) := by decide +kernel
theorem d_56_26 : xcode 56 26 = some (.aload_n 0, 1) := by decide +kernel
theorem d_56_27 : xcode 56 27 = some (.iload_n 1, 1) := by decide +kernel
theorem d_56_28 : xcode 56 28 = some (.invokevirtual 55, 3) := by decide +kernel
theorem d_56_31 : xcode 56 31 = some (.aload_n 2, 1) := by decide +kernel
theorem d_56_32 : xcode 56 32 = some (.getfield 52, 3) := by decide +kernel
theorem d_56_35 : xcode 56 35 = some (.lcmp, 1) := by decide +kernel
theorem d_56_36 : xcode 56 36 = some (.ifCond .ne 7, 3) := by decide +kernel
theorem d_56_39 : xcode 56 39 = some (.iconst 1, 1) := by decide +kernel
theorem d_56_40 : xcode 56 40 = some (.goto 4, 3) := by decide +kernel
theorem d_56_43 : xcode 56 43 = some (.iconst 0, 1) := by decide +kernel
theorem d_56_44 : xcode 56 44 = some (.ireturn, 1) := by decide +kernel
theorem d_57_0 : xcode 57 0 = some (.iload_n 1, 1) := by decide +kernel
theorem d_57_1 : xcode 57 1 = some (.ifCond .lt 19, 3) := by decide +kernel
theorem d_57_4 : xcode 57 4 = some (.iload_n 1, 1) := by decide +kernel
theorem d_57_5 : xcode 57 5 = some (.aload_n 0, 1) := by decide +kernel
theorem d_57_6 : xcode 57 6 = some (.getfield 45, 3) := by decide +kernel
theorem d_57_9 : xcode 57 9 = some (.arraylength, 1) := by decide +kernel
theorem d_57_10 : xcode 57 10 = some (.if_icmp .ge 10, 3) := by decide +kernel
theorem d_57_13 : xcode 57 13 = some (.aload_n 0, 1) := by decide +kernel
theorem d_57_14 : xcode 57 14 = some (.getfield 45, 3) := by decide +kernel
theorem d_57_17 : xcode 57 17 = some (.iload_n 1, 1) := by decide +kernel
theorem d_57_18 : xcode 57 18 = some (.iload_n 2, 1) := by decide +kernel
theorem d_57_19 : xcode 57 19 = some (.iastore, 1) := by decide +kernel
theorem d_57_20 : xcode 57 20 = some (.return_, 1) := by decide +kernel
theorem d_58_0 : xcode 58 0 = some (.iload_n 1, 1) := by decide +kernel
theorem d_58_1 : xcode 58 1 = some (.invokestatic 120, 3) := by decide +kernel
theorem d_58_4 : xcode 58 4 = some (.ifCond .eq 10, 3) := by decide +kernel
theorem d_58_7 : xcode 58 7 = some (.iload_n 2, 1) := by decide +kernel
theorem d_58_8 : xcode 58 8 = some (.invokestatic 124, 3) := by decide +kernel
theorem d_58_11 : xcode 58 11 = some (.ifCond .ne 5, 3) := by decide +kernel
theorem d_58_14 : xcode 58 14 = some (.iconst (-1), 1) := by decide +kernel
theorem d_58_15 : xcode 58 15 = some (.ireturn, 1) := by decide +kernel
theorem d_58_16 : xcode 58 16 = some (.iload_n 1, 1) := by decide +kernel
theorem d_58_17 : xcode 58 17 = some (.aload_n 0, 1) := by decide +kernel
theorem d_58_18 : xcode 58 18 = some (.getfield 49, 3) := by decide +kernel
theorem d_58_21 : xcode 58 21 = some (.if_icmp .le 6, 3) := by decide +kernel
theorem d_58_24 : xcode 58 24 = some (.bipush (-2), 2) := by decide +kernel
theorem d_58_26 : xcode 58 26 = some (.ireturn, 1) := by decide +kernel
theorem d_58_27 : xcode 58 27 = some (.iload_n 2, 1) := by decide +kernel
theorem d_58_28 : xcode 58 28 = some (.ifCond .ne 14, 3) := by decide +kernel
theorem d_58_31 : xcode 58 31 = some (.aload_n 0, 1) := by decide +kernel
theorem d_58_32 : xcode 58 32 = some (.iload_n 1, 1) := by decide +kernel
theorem d_58_33 : xcode 58 33 = some (.invokevirtual 127, 3) := by decide +kernel
theorem d_58_36 : xcode 58 36 = some (.ifCond .ne 6, 3) := by decide +kernel
theorem d_58_39 : xcode 58 39 = some (.bipush (-3), 2) := by decide +kernel
theorem d_58_41 : xcode 58 41 = some (.ireturn, 1) := by decide +kernel
theorem d_58_42 : xcode 58 42 = some (.aload_n 0, 1) := by decide +kernel
theorem d_58_43 : xcode 58 43 = some (.iload_n 1, 1) := by decide +kernel
theorem d_58_44 : xcode 58 44 = some (.iload_n 2, 1) := by decide +kernel
theorem d_58_45 : xcode 58 45 = some (.invokevirtual 130, 3) := by decide +kernel
theorem d_58_48 : xcode 58 48 = some (.ifCond .eq 7, 3) := by decide +kernel
theorem d_58_51 : xcode 58 51 = some (.iconst 1, 1) := by decide +kernel
theorem d_58_52 : xcode 58 52 = some (.goto 4, 3) := by decide +kernel
theorem d_58_55 : xcode 58 55 = some (.iconst 0, 1) := by decide +kernel
theorem d_58_56 : xcode 58 56 = some (.ireturn, 1) := by decide +kernel
theorem d_59_0 : xcode 59 0 = some (.iload_n 1, 1) := by decide +kernel
theorem d_59_1 : xcode 59 1 = some (.invokestatic 120, 3) := by decide +kernel
theorem d_59_4 : xcode 59 4 = some (.ifCond .eq 19, 3) := by decide +kernel
theorem d_59_7 : xcode 59 7 = some (.iload_n 2, 1) := by decide +kernel
theorem d_59_8 : xcode 59 8 = some (.ifCond .eq 15, 3) := by decide +kernel
theorem d_59_11 : xcode 59 11 = some (.iload_n 2, 1) := by decide +kernel
theorem d_59_12 : xcode 59 12 = some (.bipush (-9), 2) := by decide +kernel
theorem d_59_14 : xcode 59 14 = some (.if_icmp .lt 9, 3) := by decide +kernel
theorem d_59_17 : xcode 59 17 = some (.iload_n 2, 1) := by decide +kernel
theorem d_59_18 : xcode 59 18 = some (.bipush 9, 2) := by decide +kernel
theorem d_59_20 : xcode 59 20 = some (.if_icmp .le 5, 3) := by decide +kernel
theorem d_59_23 : xcode 59 23 = some (.iconst (-1), 1) := by decide +kernel
theorem d_59_24 : xcode 59 24 = some (.ireturn, 1) := by decide +kernel
theorem d_59_25 : xcode 59 25 = some (.iload_n 1, 1) := by decide +kernel
theorem d_59_26 : xcode 59 26 = some (.aload_n 0, 1) := by decide +kernel
theorem d_59_27 : xcode 59 27 = some (.getfield 49, 3) := by decide +kernel
theorem d_59_30 : xcode 59 30 = some (.if_icmp .le 6, 3) := by decide +kernel
theorem d_59_33 : xcode 59 33 = some (.bipush (-2), 2) := by decide +kernel
theorem d_59_35 : xcode 59 35 = some (.ireturn, 1) := by decide +kernel
theorem d_59_36 : xcode 59 36 = some (.aload_n 0, 1) := by decide +kernel
theorem d_59_37 : xcode 59 37 = some (.getfield 39, 3) := by decide +kernel
theorem d_59_40 : xcode 59 40 = some (.iload_n 1, 1) := by decide +kernel
theorem d_59_41 : xcode 59 41 = some (.iload_n 2, 1) := by decide +kernel
theorem d_59_42 : xcode 59 42 = some (.i2l, 1) := by decide +kernel
theorem d_59_43 : xcode 59 43 = some (.invokevirtual 134, 3) := by decide +kernel
theorem d_59_46 : xcode 59 46 = some (.aload_n 0, 1) := by decide +kernel
theorem d_59_47 : xcode 59 47 = some (.iload_n 1, 1) := by decide +kernel
theorem d_59_48 : xcode 59 48 = some (.iconst 3, 1) := by decide +kernel
theorem d_59_49 : xcode 59 49 = some (.invokevirtual 138, 3) := by decide +kernel
theorem d_59_52 : xcode 59 52 = some (.aload_n 0, 1) := by decide +kernel
theorem d_59_53 : xcode 59 53 = some (.getfield 58, 3) := by decide +kernel
theorem d_59_56 : xcode 59 56 = some (.iload_n 1, 1) := by decide +kernel
theorem d_59_57 : xcode 59 57 = some (.bipush 63, 2) := by decide +kernel
theorem d_59_59 : xcode 59 59 = some (.invokevirtual 142, 3) := by decide +kernel
theorem d_59_62 : xcode 59 62 = some (.ireturn, 1) := by decide +kernel
theorem d_60_0 : xcode 60 0 = some (.aload_n 0, 1) := by decide +kernel
theorem d_60_1 : xcode 60 1 = some (.getfield 24, 3) := by decide +kernel
theorem d_60_4 : xcode 60 4 = some (.aload_n 0, 1) := by decide +kernel
theorem d_60_5 : xcode 60 5 = some (.iload_n 1, 1) := by decide +kernel
theorem d_60_6 : xcode 60 6 = some (.invokevirtual 38, 3) := by decide +kernel
theorem d_60_9 : xcode 60 9 = some (.aload_n 0, 1) := by decide +kernel
theorem d_60_10 : xcode 60 10 = some (.iload_n 1, 1) := by decide +kernel
theorem d_60_11 : xcode 60 11 = some (.invokevirtual 42, 3) := by decide +kernel
theorem d_60_14 : xcode 60 14 = some (.lload_n 2, 1) := by decide +kernel
theorem d_60_15 : xcode 60 15 = some (.ladd, 1) := by decide +kernel
theorem d_60_16 : xcode 60 16 = some (.aload_n 0, 1) := by decide +kernel
theorem d_60_17 : xcode 60 17 = some (.iload_n 1, 1) := by decide +kernel
theorem d_60_18 : xcode 60 18 = some (.invokevirtual 55, 3) := by decide +kernel
theorem d_60_21 : xcode 60 21 = some (.invokevirtual 58, 3) := by decide +kernel
theorem d_60_24 : xcode 60 24 = some (.aload_n 0, 1) := by decide +kernel
theorem d_60_25 : xcode 60 25 = some (.iload_n 1, 1) := by decide +kernel
theorem d_60_26 : xcode 60 26 = some (.aload_n 0, 1) := by decide +kernel
theorem d_60_27 : xcode 60 27 = some (.getfield 24, 3) := by decide +kernel
theorem d_60_30 : xcode 60 30 = some (.invokevirtual 68, 3) := by decide +kernel
theorem d_60_33 : xcode 60 33 = some (.return_, 1) := by decide +kernel
theorem d_61_0 : xcode 61 0 = some (.iconst 0, 1) := by decide +kernel
theorem d_61_1 : xcode 61 1 = some (.istore_n 3, 1) := by decide +kernel
theorem d_61_2 : xcode 61 2 = some (.iload_n 2, 1) := by decide +kernel
theorem d_61_3 : xcode 61 3 = some (.iconst 1, 1) := by decide +kernel
theorem d_61_4 : xcode 61 4 = some (.iand, 1) := by decide +kernel
theorem d_61_5 : xcode 61 5 = some (.ifCond .eq 15, 3) := by decide +kernel
theorem d_61_8 : xcode 61 8 = some (.aload_n 0, 1) := by decide +kernel
theorem d_61_9 : xcode 61 9 = some (.iload_n 1, 1) := by decide +kernel
theorem d_61_10 : xcode 61 10 = some (.invokevirtual 23, 3) := by decide +kernel
theorem d_61_13 : xcode 61 13 = some (.ifCond .eq 7, 3) := by decide +kernel
theorem d_61_16 : xcode 61 16 = some (.iload_n 3, 1) := by decide +kernel
theorem d_61_17 : xcode 61 17 = some (.iconst 1, 1) := by decide +kernel
theorem d_61_18 : xcode 61 18 = some (.ior, 1) := by decide +kernel
theorem d_61_19 : xcode 61 19 = some (.istore_n 3, 1) := by decide +kernel
theorem d_61_20 : xcode 61 20 = some (.iload_n 2, 1) := by decide +kernel
theorem d_61_21 : xcode 61 21 = some (.iconst 2, 1) := by decide +kernel
theorem d_61_22 : xcode 61 22 = some (.iand, 1) := by decide +kernel
theorem d_61_23 : xcode 61 23 = some (.ifCond .eq 22, 3) := by decide +kernel
theorem d_61_26 : xcode 61 26 = some (.aload_n 0, 1) := by decide +kernel
theorem d_61_27 : xcode 61 27 = some (.getfield 9, 3) := by decide +kernel
theorem d_61_30 : xcode 61 30 = some (.iload_n 1, 1) := by decide +kernel
theorem d_61_31 : xcode 61 31 = some (.invokevirtual 27, 3) := by decide +kernel
theorem d_61_34 : xcode 61 34 = some (.iload_n 1, 1) := by decide +kernel
theorem d_61_35 : xcode 61 35 = some (.invokestatic 33, 3) := by decide +kernel
theorem d_61_38 : xcode 61 38 = some (.if_icmp .eq 7, 3) := by decide +kernel
theorem d_61_41 : xcode 61 41 = some (.iload_n 3, 1) := by decide +kernel
theorem d_61_42 : xcode 61 42 = some (.iconst 2, 1) := by decide +kernel
theorem d_61_43 : xcode 61 43 = some (.ior, 1) := by decide +kernel
theorem d_61_44 : xcode 61 44 = some (.istore_n 3, 1) := by decide +kernel
theorem d_61_45 : xcode 61 45 = some (.iload_n 2, 1) := by decide +kernel
theorem d_61_46 : xcode 61 46 = some (.iconst 4, 1) := by decide +kernel
theorem d_61_47 : xcode 61 47 = some (.iand, 1) := by decide +kernel
theorem d_61_48 : xcode 61 48 = some (.ifCond .eq 15, 3) := by decide +kernel
theorem d_61_51 : xcode 61 51 = some (.aload_n 0, 1) := by decide +kernel
theorem d_61_52 : xcode 61 52 = some (.iload_n 1, 1) := by decide +kernel
theorem d_61_53 : xcode 61 53 = some (.invokevirtual 36, 3) := by decide +kernel
theorem d_61_56 : xcode 61 56 = some (.ifCond .eq 7, 3) := by decide +kernel
theorem d_61_59 : xcode 61 59 = some (.iload_n 3, 1) := by decide +kernel
theorem d_61_60 : xcode 61 60 = some (.iconst 4, 1) := by decide +kernel
theorem d_61_61 : xcode 61 61 = some (.ior, 1) := by decide +kernel
theorem d_61_62 : xcode 61 62 = some (.istore_n 3, 1) := by decide +kernel
theorem d_61_63 : xcode 61 63 = some (.iload_n 2, 1) := by decide +kernel
theorem d_61_64 : xcode 61 64 = some (.bipush 8, 2) := by decide +kernel
theorem d_61_66 : xcode 61 66 = some (.iand, 1) := by decide +kernel
theorem d_61_67 : xcode 61 67 = some (.ifCond .eq 16, 3) := by decide +kernel
theorem d_61_70 : xcode 61 70 = some (.aload_n 0, 1) := by decide +kernel
theorem d_61_71 : xcode 61 71 = some (.iload_n 1, 1) := by decide +kernel
theorem d_61_72 : xcode 61 72 = some (.invokevirtual 39, 3) := by decide +kernel
theorem d_61_75 : xcode 61 75 = some (.ifCond .eq 8, 3) := by decide +kernel
theorem d_61_78 : xcode 61 78 = some (.iload_n 3, 1) := by decide +kernel
theorem d_61_79 : xcode 61 79 = some (.bipush 8, 2) := by decide +kernel
theorem d_61_81 : xcode 61 81 = some (.ior, 1) := by decide +kernel
theorem d_61_82 : xcode 61 82 = some (.istore_n 3, 1) := by decide +kernel
theorem d_61_83 : xcode 61 83 = some (.iload_n 2, 1) := by decide +kernel
theorem d_61_84 : xcode 61 84 = some (.bipush 16, 2) := by decide +kernel
theorem d_61_86 : xcode 61 86 = some (.iand, 1) := by decide +kernel
theorem d_61_87 : xcode 61 87 = some (.ifCond .eq 16, 3) := by decide +kernel
theorem d_61_90 : xcode 61 90 = some (.aload_n 0, 1) := by decide +kernel
theorem d_61_91 : xcode 61 91 = some (.iload_n 1, 1) := by decide +kernel
theorem d_61_92 : xcode 61 92 = some (.invokevirtual 42, 3) := by decide +kernel
theorem d_61_95 : xcode 61 95 = some (.ifCond .eq 8, 3) := by decide +kernel
theorem d_61_98 : xcode 61 98 = some (.iload_n 3, 1) := by decide +kernel
theorem d_61_99 : xcode 61 99 = some (.bipush 16, 2) := by decide +kernel
theorem d_61_101 : xcode 61 101 = some (.ior, 1) := by decide +kernel
theorem d_61_102 : xcode 61 102 = some (.istore_n 3, 1) := by decide +kernel
theorem d_61_103 : xcode 61 103 = some (.iload_n 2, 1) := by decide +kernel
theorem d_61_104 : xcode 61 104 = some (.bipush 32, 2) := by decide +kernel
theorem d_61_106 : xcode 61 106 = some (.iand, 1) := by decide +kernel
theorem d_61_107 : xcode 61 107 = some (.ifCond .eq 16, 3) := by decide +kernel
theorem d_61_110 : xcode 61 110 = some (.aload_n 0, 1) := by decide +kernel
theorem d_61_111 : xcode 61 111 = some (.iload_n 1, 1) := by decide +kernel
theorem d_61_112 : xcode 61 112 = some (.invokevirtual 45, 3) := by decide +kernel
theorem d_61_115 : xcode 61 115 = some (.ifCond .eq 8, 3) := by decide +kernel
theorem d_61_118 : xcode 61 118 = some (.iload_n 3, 1) := by decide +kernel
theorem d_61_119 : xcode 61 119 = some (.bipush 32, 2) := by decide +kernel
theorem d_61_121 : xcode 61 121 = some (.ior, 1) := by decide +kernel
theorem d_61_122 : xcode 61 122 = some (.istore_n 3, 1) := by decide +kernel
theorem d_61_123 : xcode 61 123 = some (.iload_n 3, 1) := by decide +kernel
theorem d_61_124 : xcode 61 124 = some (.ireturn, 1) := by decide +kernel
theorem d_62_0 : xcode 62 0 = some (.lconst 1, 1) := by decide +kernel
theorem d_62_1 : xcode 62 1 = some (.lstore_n 2, 1) := by decide +kernel
theorem d_62_2 : xcode 62 2 = some (.getstatic 104, 3) := by decide +kernel
theorem d_62_5 : xcode 62 5 = some (.astore 4, 2) := by decide +kernel
theorem d_62_7 : xcode 62 7 = some (.aload 4, 2) := by decide +kernel
theorem d_62_9 : xcode 62 9 = some (.arraylength, 1) := by decide +kernel
theorem d_62_10 : xcode 62 10 = some (.istore 5, 2) := by decide +kernel
theorem d_62_12 : xcode 62 12 = some (.iconst 0, 1) := by decide +kernel
theorem d_62_13 : xcode 62 13 = some (.istore 6, 2) := by decide +kernel
theorem d_62_15 : xcode 62 15 = some (.iload 6, 2) := by decide +kernel
theorem d_62_17 : xcode 62 17 = some (.iload 5, 2) := by decide +kernel
theorem d_62_19 : xcode 62 19 = some (.if_icmp .ge 31, 3) := by decide +kernel
theorem d_62_22 : xcode 62 22 = some (.aload 4, 2) := by decide +kernel
theorem d_62_24 : xcode 62 24 = some (.iload 6, 2) := by decide +kernel
theorem d_62_26 : xcode 62 26 = some (.iaload, 1) := by decide +kernel
theorem d_62_27 : xcode 62 27 = some (.istore 7, 2) := by decide +kernel
theorem d_62_29 : xcode 62 29 = some (.iload 7, 2) := by decide +kernel
theorem d_62_31 : xcode 62 31 = some (.iload_n 1, 1) := by decide +kernel
theorem d_62_32 : xcode 62 32 = some (.invokestatic 108, 3) := by decide +kernel
theorem d_62_35 : xcode 62 35 = some (.ifCond .eq 9, 3) := by decide +kernel
theorem d_62_38 : xcode 62 38 = some (.lload_n 2, 1) := by decide +kernel
theorem d_62_39 : xcode 62 39 = some (.iload 7, 2) := by decide +kernel
theorem d_62_41 : xcode 62 41 = some (.i2l, 1) := by decide +kernel
theorem d_62_42 : xcode 62 42 = some (.lmul, 1) := by decide +kernel
theorem d_62_43 : xcode 62 43 = some (.lstore_n 2, 1) := by decide +kernel
theorem d_62_44 : xcode 62 44 = some (.iinc 6 1, 3) := by decide +kernel
theorem d_62_47 : xcode 62 47 = some (.goto (-32), 3) := by decide +kernel
theorem d_62_50 : xcode 62 50 = some (.aload_n 0, 1) := by decide +kernel
theorem d_62_51 : xcode 62 51 = some (.getfield 9, 3) := by decide +kernel
theorem d_62_54 : xcode 62 54 = some (.iload_n 1, 1) := by decide +kernel
theorem d_62_55 : xcode 62 55 = some (.invokevirtual 87, 3) := by decide +kernel
theorem d_62_58 : xcode 62 58 = some (.lload_n 2, 1) := by decide +kernel
theorem d_62_59 : xcode 62 59 = some (.lcmp, 1) := by decide +kernel
theorem d_62_60 : xcode 62 60 = some (.ifCond .eq 7, 3) := by decide +kernel
theorem d_62_63 : xcode 62 63 = some (.iconst 1, 1) := by decide +kernel
theorem d_62_64 : xcode 62 64 = some (.goto 4, 3) := by decide +kernel
theorem d_62_67 : xcode 62 67 = some (.iconst 0, 1) := by decide +kernel
theorem d_62_68 : xcode 62 68 = some (.ireturn, 1) := by decide +kernel
theorem d_63_0 : xcode 63 0 = some (.aload_n 0, 1) := by decide +kernel
theorem d_63_1 : xcode 63 1 = some (.iload_n 1, 1) := by decide +kernel
theorem d_63_2 : xcode 63 2 = some (.invokevirtual 38, 3) := by decide +kernel
theorem d_63_5 : xcode 63 5 = some (.lconst 0, 1) := by decide +kernel
theorem d_63_6 : xcode 63 6 = some (.lcmp, 1) := by decide +kernel
theorem d_63_7 : xcode 63 7 = some (.ifCond .ge 5, 3) := by decide +kernel
theorem d_63_10 : xcode 63 10 = some (.iconst (-1), 1) := by decide +kernel
theorem d_63_11 : xcode 63 11 = some (.ireturn, 1) := by decide +kernel
theorem d_63_12 : xcode 63 12 = some (.aload_n 0, 1) := by decide +kernel
theorem d_63_13 : xcode 63 13 = some (.iload_n 1, 1) := by decide +kernel
theorem d_63_14 : xcode 63 14 = some (.invokevirtual 38, 3) := by decide +kernel
theorem d_63_17 : xcode 63 17 = some (.lconst 0, 1) := by decide +kernel
theorem d_63_18 : xcode 63 18 = some (.lcmp, 1) := by decide +kernel
theorem d_63_19 : xcode 63 19 = some (.ifCond .ne 17, 3) := by decide +kernel
theorem d_63_22 : xcode 63 22 = some (.aload_n 0, 1) := by decide +kernel
theorem d_63_23 : xcode 63 23 = some (.iload_n 1, 1) := by decide +kernel
theorem d_63_24 : xcode 63 24 = some (.invokevirtual 42, 3) := by decide +kernel
theorem d_63_27 : xcode 63 27 = some (.lconst 0, 1) := by decide +kernel
theorem d_63_28 : xcode 63 28 = some (.lcmp, 1) := by decide +kernel
theorem d_63_29 : xcode 63 29 = some (.ifCond .ne 7, 3) := by decide +kernel
theorem d_63_32 : xcode 63 32 = some (.iconst 0, 1) := by decide +kernel
theorem d_63_33 : xcode 63 33 = some (.goto 4, 3) := by decide +kernel
theorem d_63_36 : xcode 63 36 = some (.iconst 1, 1) := by decide +kernel
theorem d_63_37 : xcode 63 37 = some (.ireturn, 1) := by decide +kernel
theorem d_64_0 : xcode 64 0 = some (.iload_n 0, 1) := by decide +kernel
theorem d_64_1 : xcode 64 1 = some (.ifCond .ne 5, 3) := by decide +kernel
theorem d_64_4 : xcode 64 4 = some (.iconst 1, 1) := by decide +kernel
theorem d_64_5 : xcode 64 5 = some (.ireturn, 1) := by decide +kernel
theorem d_64_6 : xcode 64 6 = some (.iload_n 0, 1) := by decide +kernel
theorem d_64_7 : xcode 64 7 = some (.iconst 2, 1) := by decide +kernel
theorem d_64_8 : xcode 64 8 = some (.irem, 1) := by decide +kernel
theorem d_64_9 : xcode 64 9 = some (.ifCond .eq 14, 3) := by decide +kernel
theorem d_64_12 : xcode 64 12 = some (.iload_n 0, 1) := by decide +kernel
theorem d_64_13 : xcode 64 13 = some (.iconst 1, 1) := by decide +kernel
theorem d_64_14 : xcode 64 14 = some (.if_icmp .ne 7, 3) := by decide +kernel
theorem d_64_17 : xcode 64 17 = some (.iconst (-1), 1) := by decide +kernel
theorem d_64_18 : xcode 64 18 = some (.goto 4, 3) := by decide +kernel
theorem d_64_21 : xcode 64 21 = some (.iconst 0, 1) := by decide +kernel
theorem d_64_22 : xcode 64 22 = some (.ireturn, 1) := by decide +kernel
theorem d_64_23 : xcode 64 23 = some (.iload_n 0, 1) := by decide +kernel
theorem d_64_24 : xcode 64 24 = some (.iconst 4, 1) := by decide +kernel
theorem d_64_25 : xcode 64 25 = some (.irem, 1) := by decide +kernel
theorem d_64_26 : xcode 64 26 = some (.iconst 2, 1) := by decide +kernel
theorem d_64_27 : xcode 64 27 = some (.if_icmp .ne 7, 3) := by decide +kernel
theorem d_64_30 : xcode 64 30 = some (.iconst 1, 1) := by decide +kernel
theorem d_64_31 : xcode 64 31 = some (.goto 4, 3) := by decide +kernel
theorem d_64_34 : xcode 64 34 = some (.iconst (-1), 1) := by decide +kernel
theorem d_64_35 : xcode 64 35 = some (.ireturn, 1) := by decide +kernel
theorem d_65_0 : xcode 65 0 = some (.iload_n 1, 1) := by decide +kernel
theorem d_65_1 : xcode 65 1 = some (.iconst 1, 1) := by decide +kernel
theorem d_65_2 : xcode 65 2 = some (.if_icmp .ge 5, 3) := by decide +kernel
theorem d_65_5 : xcode 65 5 = some (.iconst 0, 1) := by decide +kernel
theorem d_65_6 : xcode 65 6 = some (.ireturn, 1) := by decide +kernel
theorem d_65_7 : xcode 65 7 = some (.aload_n 0, 1) := by decide +kernel
theorem d_65_8 : xcode 65 8 = some (.iload_n 1, 1) := by decide +kernel
theorem d_65_9 : xcode 65 9 = some (.iload_n 1, 1) := by decide +kernel
theorem d_65_10 : xcode 65 10 = some (.invokevirtual 111, 3) := by decide +kernel
theorem d_65_13 : xcode 65 13 = some (.aload_n 0, 1) := by decide +kernel
theorem d_65_14 : xcode 65 14 = some (.getfield 19, 3) := by decide +kernel
theorem d_65_17 : xcode 65 17 = some (.invokevirtual 115, 3) := by decide +kernel
theorem d_65_20 : xcode 65 20 = some (.ifCond .ne 7, 3) := by decide +kernel
theorem d_65_23 : xcode 65 23 = some (.iconst 1, 1) := by decide +kernel
theorem d_65_24 : xcode 65 24 = some (.goto 4, 3) := by decide +kernel
theorem d_65_27 : xcode 65 27 = some (.iconst 0, 1) := by decide +kernel
theorem d_65_28 : xcode 65 28 = some (.ireturn, 1) := by decide +kernel
theorem d_66_0 : xcode 66 0 = some (.aload_n 0, 1) := by decide +kernel
theorem d_66_1 : xcode 66 1 = some (.getfield 19, 3) := by decide +kernel
theorem d_66_4 : xcode 66 4 = some (.lconst 0, 1) := by decide +kernel
theorem d_66_5 : xcode 66 5 = some (.lcmp, 1) := by decide +kernel
theorem d_66_6 : xcode 66 6 = some (.ifCond .ne 16, 3) := by decide +kernel
theorem d_66_9 : xcode 66 9 = some (.aload_n 0, 1) := by decide +kernel
theorem d_66_10 : xcode 66 10 = some (.getfield 22, 3) := by decide +kernel
theorem d_66_13 : xcode 66 13 = some (.lconst 0, 1) := by decide +kernel
theorem d_66_14 : xcode 66 14 = some (.lcmp, 1) := by decide +kernel
theorem d_66_15 : xcode 66 15 = some (.ifCond .ne 7, 3) := by decide +kernel
theorem d_66_18 : xcode 66 18 = some (.iconst 1, 1) := by decide +kernel
theorem d_66_19 : xcode 66 19 = some (.goto 4, 3) := by decide +kernel
theorem d_66_22 : xcode 66 22 = some (.iconst 0, 1) := by decide +kernel
theorem d_66_23 : xcode 66 23 = some (.ireturn, 1) := by decide +kernel
theorem d_67_0 : xcode 67 0 = some (.iconst 2, 1) := by decide +kernel
theorem d_67_1 : xcode 67 1 = some (.istore_n 2, 1) := by decide +kernel
theorem d_67_2 : xcode 67 2 = some (.iload_n 2, 1) := by decide +kernel
theorem d_67_3 : xcode 67 3 = some (.bipush 11, 2) := by decide +kernel
theorem d_67_5 : xcode 67 5 = some (.if_icmp .gt 64, 3) := by decide +kernel
theorem d_67_8 : xcode 67 8 = some (.iload_n 2, 1) := by decide +kernel
theorem d_67_9 : xcode 67 9 = some (.getstatic 104, 3) := by decide +kernel
theorem d_67_12 : xcode 67 12 = some (.arraylength, 1) := by decide +kernel
theorem d_67_13 : xcode 67 13 = some (.if_icmp .ge 56, 3) := by decide +kernel
theorem d_67_16 : xcode 67 16 = some (.getstatic 104, 3) := by decide +kernel
theorem d_67_19 : xcode 67 19 = some (.iload_n 2, 1) := by decide +kernel
theorem d_67_20 : xcode 67 20 = some (.iaload, 1) := by decide +kernel
theorem d_67_21 : xcode 67 21 = some (.istore_n 3, 1) := by decide +kernel
theorem d_67_22 : xcode 67 22 = some (.iload_n 1, 1) := by decide +kernel
theorem d_67_23 : xcode 67 23 = some (.iload_n 3, 1) := by decide +kernel
theorem d_67_24 : xcode 67 24 = some (.isub, 1) := by decide +kernel
theorem d_67_25 : xcode 67 25 = some (.iconst 1, 1) := by decide +kernel
theorem d_67_26 : xcode 67 26 = some (.iadd, 1) := by decide +kernel
theorem d_67_27 : xcode 67 27 = some (.istore 4, 2) := by decide +kernel
theorem d_67_29 : xcode 67 29 = some (.iload 4, 2) := by decide +kernel
theorem d_67_31 : xcode 67 31 = some (.iconst 2, 1) := by decide +kernel
theorem d_67_32 : xcode 67 32 = some (.if_icmp .lt 31, 3) := by decide +kernel
theorem d_67_35 : xcode 67 35 = some (.aload_n 0, 1) := by decide +kernel
theorem d_67_36 : xcode 67 36 = some (.iload_n 3, 1) := by decide +kernel
theorem d_67_37 : xcode 67 37 = some (.iload 4, 2) := by decide +kernel
theorem d_67_39 : xcode 67 39 = some (.iload_n 1, 1) := by decide +kernel
theorem d_67_40 : xcode 67 40 = some (.invokevirtual 119, 3) := by decide +kernel
theorem d_67_43 : xcode 67 43 = some (.ifCond .le 5, 3) := by decide +kernel
theorem d_67_46 : xcode 67 46 = some (.iconst 1, 1) := by decide +kernel
theorem d_67_47 : xcode 67 47 = some (.ireturn, 1) := by decide +kernel
theorem d_67_48 : xcode 67 48 = some (.iload 4, 2) := by decide +kernel
theorem d_67_50 : xcode 67 50 = some (.iload_n 3, 1) := by decide +kernel
theorem d_67_51 : xcode 67 51 = some (.iconst 1, 1) := by decide +kernel
theorem d_67_52 : xcode 67 52 = some (.isub, 1) := by decide +kernel
theorem d_67_53 : xcode 67 53 = some (.iconst 1, 1) := by decide +kernel
theorem d_67_54 : xcode 67 54 = some (.invokestatic 123, 3) := by decide +kernel
theorem d_67_57 : xcode 67 57 = some (.isub, 1) := by decide +kernel
theorem d_67_58 : xcode 67 58 = some (.istore 4, 2) := by decide +kernel
theorem d_67_60 : xcode 67 60 = some (.goto (-31), 3) := by decide +kernel
theorem d_67_63 : xcode 67 63 = some (.iinc 2 1, 3) := by decide +kernel
theorem d_67_66 : xcode 67 66 = some (.goto (-64), 3) := by decide +kernel
theorem d_67_69 : xcode 67 69 = some (.iconst 0, 1) := by decide +kernel
theorem d_67_70 : xcode 67 70 = some (.ireturn, 1) := by decide +kernel
theorem d_68_0 : xcode 68 0 = some (.aload_n 0, 1) := by decide +kernel
theorem d_68_1 : xcode 68 1 = some (.iload_n 1, 1) := by decide +kernel
theorem d_68_2 : xcode 68 2 = some (.iload_n 2, 1) := by decide +kernel
theorem d_68_3 : xcode 68 3 = some (.invokevirtual 66, 3) := by decide +kernel
theorem d_68_6 : xcode 68 6 = some (.ifCond .eq 22, 3) := by decide +kernel
theorem d_68_9 : xcode 68 9 = some (.aload_n 0, 1) := by decide +kernel
theorem d_68_10 : xcode 68 10 = some (.iload_n 1, 1) := by decide +kernel
theorem d_68_11 : xcode 68 11 = some (.iload_n 3, 1) := by decide +kernel
theorem d_68_12 : xcode 68 12 = some (.invokevirtual 66, 3) := by decide +kernel
theorem d_68_15 : xcode 68 15 = some (.ifCond .eq 13, 3) := by decide +kernel
theorem d_68_18 : xcode 68 18 = some (.iload_n 2, 1) := by decide +kernel
theorem d_68_19 : xcode 68 19 = some (.iload_n 3, 1) := by decide +kernel
theorem d_68_20 : xcode 68 20 = some (.isub, 1) := by decide +kernel
theorem d_68_21 : xcode 68 21 = some (.iload_n 1, 1) := by decide +kernel
theorem d_68_22 : xcode 68 22 = some (.iconst 1, 1) := by decide +kernel
theorem d_68_23 : xcode 68 23 = some (.isub, 1) := by decide +kernel
theorem d_68_24 : xcode 68 24 = some (.irem, 1) := by decide +kernel
theorem d_68_25 : xcode 68 25 = some (.ifCond .eq 6, 3) := by decide +kernel
theorem d_68_28 : xcode 68 28 = some (.bipush (-3), 2) := by decide +kernel
theorem d_68_30 : xcode 68 30 = some (.ireturn, 1) := by decide +kernel
theorem d_68_31 : xcode 68 31 = some (.aload_n 0, 1) := by decide +kernel
theorem d_68_32 : xcode 68 32 = some (.iload_n 2, 1) := by decide +kernel
theorem d_68_33 : xcode 68 33 = some (.iload_n 1, 1) := by decide +kernel
theorem d_68_34 : xcode 68 34 = some (.i2l, 1) := by decide +kernel
theorem d_68_35 : xcode 68 35 = some (.invokevirtual 70, 3) := by decide +kernel
theorem d_68_38 : xcode 68 38 = some (.aload_n 0, 1) := by decide +kernel
theorem d_68_39 : xcode 68 39 = some (.iload_n 3, 1) := by decide +kernel
theorem d_68_40 : xcode 68 40 = some (.iload_n 1, 1) := by decide +kernel
theorem d_68_41 : xcode 68 41 = some (.i2l, 1) := by decide +kernel
theorem d_68_42 : xcode 68 42 = some (.invokevirtual 70, 3) := by decide +kernel
theorem d_68_45 : xcode 68 45 = some (.lsub, 1) := by decide +kernel
theorem d_68_46 : xcode 68 46 = some (.iload_n 1, 1) := by decide +kernel
theorem d_68_47 : xcode 68 47 = some (.i2l, 1) := by decide +kernel
theorem d_68_48 : xcode 68 48 = some (.invokestatic 74, 3) := by decide +kernel
theorem d_68_51 : xcode 68 51 = some (.l2i, 1) := by decide +kernel
theorem d_68_52 : xcode 68 52 = some (.ireturn, 1) := by decide +kernel
theorem d_69_0 : xcode 69 0 = some (.iload_n 1, 1) := by decide +kernel
theorem d_69_1 : xcode 69 1 = some (.iconst 1, 1) := by decide +kernel
theorem d_69_2 : xcode 69 2 = some (.if_icmp .le 44, 3) := by decide +kernel
theorem d_69_5 : xcode 69 5 = some (.iload_n 2, 1) := by decide +kernel
theorem d_69_6 : xcode 69 6 = some (.invokestatic 84, 3) := by decide +kernel
theorem d_69_9 : xcode 69 9 = some (.ifCond .eq 37, 3) := by decide +kernel
theorem d_69_12 : xcode 69 12 = some (.iload_n 2, 1) := by decide +kernel
theorem d_69_13 : xcode 69 13 = some (.iload_n 1, 1) := by decide +kernel
theorem d_69_14 : xcode 69 14 = some (.iconst 1, 1) := by decide +kernel
theorem d_69_15 : xcode 69 15 = some (.isub, 1) := by decide +kernel
theorem d_69_16 : xcode 69 16 = some (.irem, 1) := by decide +kernel
theorem d_69_17 : xcode 69 17 = some (.ifCond .eq 29, 3) := by decide +kernel
theorem d_69_20 : xcode 69 20 = some (.iload_n 2, 1) := by decide +kernel
theorem d_69_21 : xcode 69 21 = some (.iload_n 1, 1) := by decide +kernel
theorem d_69_22 : xcode 69 22 = some (.irem, 1) := by decide +kernel
theorem d_69_23 : xcode 69 23 = some (.ifCond .eq 23, 3) := by decide +kernel
theorem d_69_26 : xcode 69 26 = some (.aload_n 0, 1) := by decide +kernel
theorem d_69_27 : xcode 69 27 = some (.getfield 9, 3) := by decide +kernel
theorem d_69_30 : xcode 69 30 = some (.iload_n 2, 1) := by decide +kernel
theorem d_69_31 : xcode 69 31 = some (.invokevirtual 87, 3) := by decide +kernel
theorem d_69_34 : xcode 69 34 = some (.iload_n 1, 1) := by decide +kernel
theorem d_69_35 : xcode 69 35 = some (.i2l, 1) := by decide +kernel
theorem d_69_36 : xcode 69 36 = some (.lrem, 1) := by decide +kernel
theorem d_69_37 : xcode 69 37 = some (.lconst 0, 1) := by decide +kernel
theorem d_69_38 : xcode 69 38 = some (.lcmp, 1) := by decide +kernel
theorem d_69_39 : xcode 69 39 = some (.ifCond .eq 7, 3) := by decide +kernel
theorem d_69_42 : xcode 69 42 = some (.iconst 1, 1) := by decide +kernel
theorem d_69_43 : xcode 69 43 = some (.goto 4, 3) := by decide +kernel
theorem d_69_46 : xcode 69 46 = some (.iconst 0, 1) := by decide +kernel
theorem d_69_47 : xcode 69 47 = some (.ireturn, 1) := by decide +kernel
theorem d_70_0 : xcode 70 0 = some (.lload_n 2, 1) := by decide +kernel
theorem d_70_1 : xcode 70 1 = some (.lconst 0, 1) := by decide +kernel
theorem d_70_2 : xcode 70 2 = some (.lcmp, 1) := by decide +kernel
theorem d_70_3 : xcode 70 3 = some (.ifCond .gt 5, 3) := by decide +kernel
theorem d_70_6 : xcode 70 6 = some (.lconst 0, 1) := by decide +kernel
theorem d_70_7 : xcode 70 7 = some (.lreturn, 1) := by decide +kernel
theorem d_70_8 : xcode 70 8 = some (.aload_n 0, 1) := by decide +kernel
theorem d_70_9 : xcode 70 9 = some (.getfield 9, 3) := by decide +kernel
theorem d_70_12 : xcode 70 12 = some (.iload_n 1, 1) := by decide +kernel
theorem d_70_13 : xcode 70 13 = some (.invokevirtual 87, 3) := by decide +kernel
theorem d_70_16 : xcode 70 16 = some (.lstore 4, 2) := by decide +kernel
theorem d_70_18 : xcode 70 18 = some (.aload_n 0, 1) := by decide +kernel
theorem d_70_19 : xcode 70 19 = some (.getfield 9, 3) := by decide +kernel
theorem d_70_22 : xcode 70 22 = some (.iload_n 1, 1) := by decide +kernel
theorem d_70_23 : xcode 70 23 = some (.invokevirtual 91, 3) := by decide +kernel
theorem d_70_26 : xcode 70 26 = some (.lload_n 2, 1) := by decide +kernel
theorem d_70_27 : xcode 70 27 = some (.lrem, 1) := by decide +kernel
theorem d_70_28 : xcode 70 28 = some (.lload 4, 2) := by decide +kernel
theorem d_70_30 : xcode 70 30 = some (.lmul, 1) := by decide +kernel
theorem d_70_31 : xcode 70 31 = some (.aload_n 0, 1) := by decide +kernel
theorem d_70_32 : xcode 70 32 = some (.getfield 9, 3) := by decide +kernel
theorem d_70_35 : xcode 70 35 = some (.iload_n 1, 1) := by decide +kernel
theorem d_70_36 : xcode 70 36 = some (.invokevirtual 94, 3) := by decide +kernel
theorem d_70_39 : xcode 70 39 = some (.ladd, 1) := by decide +kernel
theorem d_70_40 : xcode 70 40 = some (.lstore 6, 2) := by decide +kernel
theorem d_70_42 : xcode 70 42 = some (.lload 6, 2) := by decide +kernel
theorem d_70_44 : xcode 70 44 = some (.lload_n 2, 1) := by decide +kernel
theorem d_70_45 : xcode 70 45 = some (.lrem, 1) := by decide +kernel
theorem d_70_46 : xcode 70 46 = some (.iload_n 1, 1) := by decide +kernel
theorem d_70_47 : xcode 70 47 = some (.i2l, 1) := by decide +kernel
theorem d_70_48 : xcode 70 48 = some (.lload 4, 2) := by decide +kernel
theorem d_70_50 : xcode 70 50 = some (.lmul, 1) := by decide +kernel
theorem d_70_51 : xcode 70 51 = some (.lload_n 2, 1) := by decide +kernel
theorem d_70_52 : xcode 70 52 = some (.invokestatic 97, 3) := by decide +kernel
theorem d_70_55 : xcode 70 55 = some (.lmul, 1) := by decide +kernel
theorem d_70_56 : xcode 70 56 = some (.lload_n 2, 1) := by decide +kernel
theorem d_70_57 : xcode 70 57 = some (.lrem, 1) := by decide +kernel
theorem d_70_58 : xcode 70 58 = some (.lreturn, 1) := by decide +kernel
theorem d_71_0 : xcode 71 0 = some (.iload_n 0, 1) := by decide +kernel
theorem d_71_1 : xcode 71 1 = some (.iload_n 1, 1) := by decide +kernel
theorem d_71_2 : xcode 71 2 = some (.if_icmp .lt 7, 3) := by decide +kernel
theorem d_71_5 : xcode 71 5 = some (.iload_n 0, 1) := by decide +kernel
theorem d_71_6 : xcode 71 6 = some (.goto 4, 3) := by decide +kernel
theorem d_71_9 : xcode 71 9 = some (.iload_n 1, 1) := by decide +kernel
theorem d_71_10 : xcode 71 10 = some (.ireturn, 1) := by decide +kernel
theorem d_72_0 : xcode 72 0 = some (.iload_n 1, 1) := by decide +kernel
theorem d_72_1 : xcode 72 1 = some (.invokestatic 84, 3) := by decide +kernel
theorem d_72_4 : xcode 72 4 = some (.ifCond .ne 5, 3) := by decide +kernel
theorem d_72_7 : xcode 72 7 = some (.iconst 0, 1) := by decide +kernel
theorem d_72_8 : xcode 72 8 = some (.ireturn, 1) := by decide +kernel
theorem d_72_9 : xcode 72 9 = some (.iconst 2, 1) := by decide +kernel
theorem d_72_10 : xcode 72 10 = some (.istore_n 2, 1) := by decide +kernel
theorem d_72_11 : xcode 72 11 = some (.iload_n 2, 1) := by decide +kernel
theorem d_72_12 : xcode 72 12 = some (.getstatic 104, 3) := by decide +kernel
theorem d_72_15 : xcode 72 15 = some (.arraylength, 1) := by decide +kernel
theorem d_72_16 : xcode 72 16 = some (.if_icmp .ge 75, 3) := by decide +kernel
theorem d_72_19 : xcode 72 19 = some (.getstatic 104, 3) := by decide +kernel
theorem d_72_22 : xcode 72 22 = some (.iload_n 2, 1) := by decide +kernel
theorem d_72_23 : xcode 72 23 = some (.iaload, 1) := by decide +kernel
theorem d_72_24 : xcode 72 24 = some (.istore_n 3, 1) := by decide +kernel
theorem d_72_25 : xcode 72 25 = some (.iload_n 3, 1) := by decide +kernel
theorem d_72_26 : xcode 72 26 = some (.iconst 2, 1) := by decide +kernel
theorem d_72_27 : xcode 72 27 = some (.if_icmp .lt 58, 3) := by decide +kernel
theorem d_72_30 : xcode 72 30 = some (.iload_n 3, 1) := by decide +kernel
theorem d_72_31 : xcode 72 31 = some (.iload_n 1, 1) := by decide +kernel
theorem d_72_32 : xcode 72 32 = some (.if_icmp .gt 53, 3) := by decide +kernel
theorem d_72_35 : xcode 72 35 = some (.iload_n 1, 1) := by decide +kernel
theorem d_72_36 : xcode 72 36 = some (.iload_n 3, 1) := by decide +kernel
theorem d_72_37 : xcode 72 37 = some (.irem, 1) := by decide +kernel
theorem d_72_38 : xcode 72 38 = some (.ifCond .ne 47, 3) := by decide +kernel
theorem d_72_41 : xcode 72 41 = some (.iload_n 1, 1) := by decide +kernel
theorem d_72_42 : xcode 72 42 = some (.iload_n 3, 1) := by decide +kernel
theorem d_72_43 : xcode 72 43 = some (.iconst 1, 1) := by decide +kernel
theorem d_72_44 : xcode 72 44 = some (.isub, 1) := by decide +kernel
theorem d_72_45 : xcode 72 45 = some (.irem, 1) := by decide +kernel
theorem d_72_46 : xcode 72 46 = some (.ifCond .ne 6, 3) := by decide +kernel
theorem d_72_49 : xcode 72 49 = some (.goto 36, 3) := by decide +kernel
theorem d_72_52 : xcode 72 52 = some (.aload_n 0, 1) := by decide +kernel
theorem d_72_53 : xcode 72 53 = some (.getfield 9, 3) := by decide +kernel
theorem d_72_56 : xcode 72 56 = some (.iload_n 1, 1) := by decide +kernel
theorem d_72_57 : xcode 72 57 = some (.invokevirtual 87, 3) := by decide +kernel
theorem d_72_60 : xcode 72 60 = some (.iload_n 3, 1) := by decide +kernel
theorem d_72_61 : xcode 72 61 = some (.i2l, 1) := by decide +kernel
theorem d_72_62 : xcode 72 62 = some (.lrem, 1) := by decide +kernel
theorem d_72_63 : xcode 72 63 = some (.lconst 0, 1) := by decide +kernel
theorem d_72_64 : xcode 72 64 = some (.lcmp, 1) := by decide +kernel
theorem d_72_65 : xcode 72 65 = some (.ifCond .eq 18, 3) := by decide +kernel
theorem d_72_68 : xcode 72 68 = some (.aload_n 0, 1) := by decide +kernel
theorem d_72_69 : xcode 72 69 = some (.getfield 9, 3) := by decide +kernel
theorem d_72_72 : xcode 72 72 = some (.iload_n 1, 1) := by decide +kernel
theorem d_72_73 : xcode 72 73 = some (.iload_n 3, 1) := by decide +kernel
theorem d_72_74 : xcode 72 74 = some (.i2l, 1) := by decide +kernel
theorem d_72_75 : xcode 72 75 = some (.invokevirtual 129, 3) := by decide +kernel
theorem d_72_78 : xcode 72 78 = some (.lconst 0, 1) := by decide +kernel
theorem d_72_79 : xcode 72 79 = some (.lcmp, 1) := by decide +kernel
theorem d_72_80 : xcode 72 80 = some (.ifCond .eq 5, 3) := by decide +kernel
theorem d_72_83 : xcode 72 83 = some (.iconst 1, 1) := by decide +kernel
theorem d_72_84 : xcode 72 84 = some (.ireturn, 1) := by decide +kernel
theorem d_72_85 : xcode 72 85 = some (.iinc 2 1, 3) := by decide +kernel
theorem d_72_88 : xcode 72 88 = some (.goto (-77), 3) := by decide +kernel
theorem d_72_91 : xcode 72 91 = some (.iconst 0, 1) := by decide +kernel
theorem d_72_92 : xcode 72 92 = some (.ireturn, 1) := by decide +kernel
theorem d_73_0 : xcode 73 0 = some (.aload_n 0, 1) := by decide +kernel
theorem d_73_1 : xcode 73 1 = some (.iload_n 1, 1) := by decide +kernel
theorem d_73_2 : xcode 73 2 = some (.invokevirtual 38, 3) := by decide +kernel
theorem d_73_5 : xcode 73 5 = some (.aload_n 0, 1) := by decide +kernel
theorem d_73_6 : xcode 73 6 = some (.iload_n 1, 1) := by decide +kernel
theorem d_73_7 : xcode 73 7 = some (.invokevirtual 42, 3) := by decide +kernel
theorem d_73_10 : xcode 73 10 = some (.aload_n 0, 1) := by decide +kernel
theorem d_73_11 : xcode 73 11 = some (.iload_n 1, 1) := by decide +kernel
theorem d_73_12 : xcode 73 12 = some (.invokevirtual 55, 3) := by decide +kernel
theorem d_73_15 : xcode 73 15 = some (.lload_n 2, 1) := by decide +kernel
theorem d_73_16 : xcode 73 16 = some (.invokestatic 72, 3) := by decide +kernel
theorem d_73_19 : xcode 73 19 = some (.lmul, 1) := by decide +kernel
theorem d_73_20 : xcode 73 20 = some (.ladd, 1) := by decide +kernel
theorem d_73_21 : xcode 73 21 = some (.lload_n 2, 1) := by decide +kernel
theorem d_73_22 : xcode 73 22 = some (.invokestatic 78, 3) := by decide +kernel
theorem d_73_25 : xcode 73 25 = some (.lreturn, 1) := by decide +kernel
theorem d_74_0 : xcode 74 0 = some (.iload_n 1, 1) := by decide +kernel
theorem d_74_1 : xcode 74 1 = some (.iconst 2, 1) := by decide +kernel
theorem d_74_2 : xcode 74 2 = some (.irem, 1) := by decide +kernel
theorem d_74_3 : xcode 74 3 = some (.ifCond .eq 5, 3) := by decide +kernel
theorem d_74_6 : xcode 74 6 = some (.iconst 0, 1) := by decide +kernel
theorem d_74_7 : xcode 74 7 = some (.ireturn, 1) := by decide +kernel
theorem d_74_8 : xcode 74 8 = some (.aload_n 0, 1) := by decide +kernel
theorem d_74_9 : xcode 74 9 = some (.getfield 19, 3) := by decide +kernel
theorem d_74_12 : xcode 74 12 = some (.ldc2_w 48, 3) := by decide +kernel
theorem d_74_15 : xcode 74 15 = some (.invokevirtual 50, 3) := by decide +kernel
theorem d_74_18 : xcode 74 18 = some (.iload_n 1, 1) := by decide +kernel
theorem d_74_19 : xcode 74 19 = some (.istore_n 2, 1) := by decide +kernel
theorem d_74_20 : xcode 74 20 = some (.iload_n 2, 1) := by decide +kernel
theorem d_74_21 : xcode 74 21 = some (.ifCond .lt 25, 3) := by decide +kernel
theorem d_74_24 : xcode 74 24 = some (.aload_n 0, 1) := by decide +kernel
theorem d_74_25 : xcode 74 25 = some (.aload_n 0, 1) := by decide +kernel
theorem d_74_26 : xcode 74 26 = some (.getfield 15, 3) := by decide +kernel
theorem d_74_29 : xcode 74 29 = some (.iload_n 1, 1) := by decide +kernel
theorem d_74_30 : xcode 74 30 = some (.iconst 3, 1) := by decide +kernel
theorem d_74_31 : xcode 74 31 = some (.iadd, 1) := by decide +kernel
theorem d_74_32 : xcode 74 32 = some (.iload_n 2, 1) := by decide +kernel
theorem d_74_33 : xcode 74 33 = some (.invokevirtual 56, 3) := by decide +kernel
theorem d_74_36 : xcode 74 36 = some (.iload_n 2, 1) := by decide +kernel
theorem d_74_37 : xcode 74 37 = some (.invokevirtual 62, 3) := by decide +kernel
theorem d_74_40 : xcode 74 40 = some (.iinc 2 (-6), 3) := by decide +kernel
theorem d_74_43 : xcode 74 43 = some (.goto (-23), 3) := by decide +kernel
theorem d_74_46 : xcode 74 46 = some (.iload_n 1, 1) := by decide +kernel
theorem d_74_47 : xcode 74 47 = some (.bipush 6, 2) := by decide +kernel
theorem d_74_49 : xcode 74 49 = some (.irem, 1) := by decide +kernel
theorem d_74_50 : xcode 74 50 = some (.iconst 4, 1) := by decide +kernel
theorem d_74_51 : xcode 74 51 = some (.if_icmp .ne 22, 3) := by decide +kernel
theorem d_74_54 : xcode 74 54 = some (.aload_n 0, 1) := by decide +kernel
theorem d_74_55 : xcode 74 55 = some (.getfield 19, 3) := by decide +kernel
theorem d_74_58 : xcode 74 58 = some (.iload_n 1, 1) := by decide +kernel
theorem d_74_59 : xcode 74 59 = some (.iconst 3, 1) := by decide +kernel
theorem d_74_60 : xcode 74 60 = some (.iadd, 1) := by decide +kernel
theorem d_74_61 : xcode 74 61 = some (.i2l, 1) := by decide +kernel
theorem d_74_62 : xcode 74 62 = some (.lconst 0, 1) := by decide +kernel
theorem d_74_63 : xcode 74 63 = some (.lconst 1, 1) := by decide +kernel
theorem d_74_64 : xcode 74 64 = some (.ldc2_w 132, 3) := by decide +kernel
theorem d_74_67 : xcode 74 67 = some (.invokevirtual 100, 3) := by decide +kernel
theorem d_74_70 : xcode 74 70 = some (.goto 20, 3) := by decide +kernel
theorem d_74_73 : xcode 74 73 = some (.aload_n 0, 1) := by decide +kernel
theorem d_74_74 : xcode 74 74 = some (.getfield 19, 3) := by decide +kernel
theorem d_74_77 : xcode 74 77 = some (.iload_n 1, 1) := by decide +kernel
theorem d_74_78 : xcode 74 78 = some (.iconst 3, 1) := by decide +kernel
theorem d_74_79 : xcode 74 79 = some (.iadd, 1) := by decide +kernel
theorem d_74_80 : xcode 74 80 = some (.ineg, 1) := by decide +kernel
theorem d_74_81 : xcode 74 81 = some (.i2l, 1) := by decide +kernel
theorem d_74_82 : xcode 74 82 = some (.lconst 0, 1) := by decide +kernel
theorem d_74_83 : xcode 74 83 = some (.lconst 1, 1) := by decide +kernel
theorem d_74_84 : xcode 74 84 = some (.ldc2_w 134, 3) := by decide +kernel
theorem d_74_87 : xcode 74 87 = some (.invokevirtual 100, 3) := by decide +kernel
theorem d_74_90 : xcode 74 90 = some (.aload_n 0, 1) := by decide +kernel
theorem d_74_91 : xcode 74 91 = some (.getfield 19, 3) := by decide +kernel
theorem d_74_94 : xcode 74 94 = some (.invokevirtual 115, 3) := by decide +kernel
theorem d_74_97 : xcode 74 97 = some (.ifCond .ne 7, 3) := by decide +kernel
theorem d_74_100 : xcode 74 100 = some (.iconst 1, 1) := by decide +kernel
theorem d_74_101 : xcode 74 101 = some (.goto 4, 3) := by decide +kernel
theorem d_74_104 : xcode 74 104 = some (.iconst 0, 1) := by decide +kernel
theorem d_74_105 : xcode 74 105 = some (.ireturn, 1) := by decide +kernel
theorem d_75_0 : xcode 75 0 = some (.iload_n 1, 1) := by decide +kernel
theorem d_75_1 : xcode 75 1 = some (.invokestatic 146, 3) := by decide +kernel
theorem d_75_4 : xcode 75 4 = some (.ifCond .ne 5, 3) := by decide +kernel
theorem d_75_7 : xcode 75 7 = some (.iconst (-1), 1) := by decide +kernel
theorem d_75_8 : xcode 75 8 = some (.ireturn, 1) := by decide +kernel
theorem d_75_9 : xcode 75 9 = some (.aload_n 0, 1) := by decide +kernel
theorem d_75_10 : xcode 75 10 = some (.iload_n 1, 1) := by decide +kernel
theorem d_75_11 : xcode 75 11 = some (.invokevirtual 149, 3) := by decide +kernel
theorem d_75_14 : xcode 75 14 = some (.lstore_n 2, 1) := by decide +kernel
theorem d_75_15 : xcode 75 15 = some (.iconst 0, 1) := by decide +kernel
theorem d_75_16 : xcode 75 16 = some (.istore 4, 2) := by decide +kernel
theorem d_75_18 : xcode 75 18 = some (.iconst 0, 1) := by decide +kernel
theorem d_75_19 : xcode 75 19 = some (.istore 5, 2) := by decide +kernel
theorem d_75_21 : xcode 75 21 = some (.iload 5, 2) := by decide +kernel
theorem d_75_23 : xcode 75 23 = some (.aload_n 0, 1) := by decide +kernel
theorem d_75_24 : xcode 75 24 = some (.getfield 49, 3) := by decide +kernel
theorem d_75_27 : xcode 75 27 = some (.if_icmp .gt 33, 3) := by decide +kernel
theorem d_75_30 : xcode 75 30 = some (.lload_n 2, 1) := by decide +kernel
theorem d_75_31 : xcode 75 31 = some (.iload 5, 2) := by decide +kernel
theorem d_75_33 : xcode 75 33 = some (.lshr, 1) := by decide +kernel
theorem d_75_34 : xcode 75 34 = some (.lconst 1, 1) := by decide +kernel
theorem d_75_35 : xcode 75 35 = some (.land, 1) := by decide +kernel
theorem d_75_36 : xcode 75 36 = some (.lconst 1, 1) := by decide +kernel
theorem d_75_37 : xcode 75 37 = some (.lcmp, 1) := by decide +kernel
theorem d_75_38 : xcode 75 38 = some (.ifCond .ne 16, 3) := by decide +kernel
theorem d_75_41 : xcode 75 41 = some (.aload_n 0, 1) := by decide +kernel
theorem d_75_42 : xcode 75 42 = some (.iload 5, 2) := by decide +kernel
theorem d_75_44 : xcode 75 44 = some (.iconst 1, 1) := by decide +kernel
theorem d_75_45 : xcode 75 45 = some (.invokevirtual 130, 3) := by decide +kernel
theorem d_75_48 : xcode 75 48 = some (.ifCond .eq 6, 3) := by decide +kernel
theorem d_75_51 : xcode 75 51 = some (.iinc 4 1, 3) := by decide +kernel
theorem d_75_54 : xcode 75 54 = some (.iinc 5 1, 3) := by decide +kernel
theorem d_75_57 : xcode 75 57 = some (.goto (-36), 3) := by decide +kernel
theorem d_75_60 : xcode 75 60 = some (.iload 4, 2) := by decide +kernel
theorem d_75_62 : xcode 75 62 = some (.ireturn, 1) := by decide +kernel
theorem d_76_0 : xcode 76 0 = some (.iload_n 0, 1) := by decide +kernel
theorem d_76_1 : xcode 76 1 = some (.ifCond .lt 13, 3) := by decide +kernel
theorem d_76_4 : xcode 76 4 = some (.iload_n 0, 1) := by decide +kernel
theorem d_76_5 : xcode 76 5 = some (.bipush 63, 2) := by decide +kernel
theorem d_76_7 : xcode 76 7 = some (.if_icmp .gt 7, 3) := by decide +kernel
theorem d_76_10 : xcode 76 10 = some (.iconst 1, 1) := by decide +kernel
theorem d_76_11 : xcode 76 11 = some (.goto 4, 3) := by decide +kernel
theorem d_76_14 : xcode 76 14 = some (.iconst 0, 1) := by decide +kernel
theorem d_76_15 : xcode 76 15 = some (.ireturn, 1) := by decide +kernel
theorem d_77_0 : xcode 77 0 = some (.lconst 0, 1) := by decide +kernel
theorem d_77_1 : xcode 77 1 = some (.lstore_n 2, 1) := by decide +kernel
theorem d_77_2 : xcode 77 2 = some (.iconst 0, 1) := by decide +kernel
theorem d_77_3 : xcode 77 3 = some (.istore 4, 2) := by decide +kernel
theorem d_77_5 : xcode 77 5 = some (.iload 4, 2) := by decide +kernel
theorem d_77_7 : xcode 77 7 = some (.aload_n 0, 1) := by decide +kernel
theorem d_77_8 : xcode 77 8 = some (.getfield 49, 3) := by decide +kernel
theorem d_77_11 : xcode 77 11 = some (.if_icmp .gt 29, 3) := by decide +kernel
theorem d_77_14 : xcode 77 14 = some (.aload_n 0, 1) := by decide +kernel
theorem d_77_15 : xcode 77 15 = some (.getfield 58, 3) := by decide +kernel
theorem d_77_18 : xcode 77 18 = some (.iload 4, 2) := by decide +kernel
theorem d_77_20 : xcode 77 20 = some (.iload_n 1, 1) := by decide +kernel
theorem d_77_21 : xcode 77 21 = some (.invokevirtual 142, 3) := by decide +kernel
theorem d_77_24 : xcode 77 24 = some (.ifCond .eq 10, 3) := by decide +kernel
theorem d_77_27 : xcode 77 27 = some (.lload_n 2, 1) := by decide +kernel
theorem d_77_28 : xcode 77 28 = some (.lconst 1, 1) := by decide +kernel
theorem d_77_29 : xcode 77 29 = some (.iload 4, 2) := by decide +kernel
theorem d_77_31 : xcode 77 31 = some (.lshl, 1) := by decide +kernel
theorem d_77_32 : xcode 77 32 = some (.lor, 1) := by decide +kernel
theorem d_77_33 : xcode 77 33 = some (.lstore_n 2, 1) := by decide +kernel
theorem d_77_34 : xcode 77 34 = some (.iinc 4 1, 3) := by decide +kernel
theorem d_77_37 : xcode 77 37 = some (.goto (-32), 3) := by decide +kernel
theorem d_77_40 : xcode 77 40 = some (.lload_n 2, 1) := by decide +kernel
theorem d_77_41 : xcode 77 41 = some (.lreturn, 1) := by decide +kernel
theorem d_78_0 : xcode 78 0 = some (.iload_n 1, 1) := by decide +kernel
theorem d_78_1 : xcode 78 1 = some (.invokestatic 120, 3) := by decide +kernel
theorem d_78_4 : xcode 78 4 = some (.ifCond .ne 5, 3) := by decide +kernel
theorem d_78_7 : xcode 78 7 = some (.iconst (-1), 1) := by decide +kernel
theorem d_78_8 : xcode 78 8 = some (.ireturn, 1) := by decide +kernel
theorem d_78_9 : xcode 78 9 = some (.iload_n 1, 1) := by decide +kernel
theorem d_78_10 : xcode 78 10 = some (.aload_n 0, 1) := by decide +kernel
theorem d_78_11 : xcode 78 11 = some (.getfield 49, 3) := by decide +kernel
theorem d_78_14 : xcode 78 14 = some (.if_icmp .le 8, 3) := by decide +kernel
theorem d_78_17 : xcode 78 17 = some (.bipush (-2), 2) := by decide +kernel
theorem d_78_19 : xcode 78 19 = some (.goto 9, 3) := by decide +kernel
theorem d_78_22 : xcode 78 22 = some (.aload_n 0, 1) := by decide +kernel
theorem d_78_23 : xcode 78 23 = some (.getfield 45, 3) := by decide +kernel
theorem d_78_26 : xcode 78 26 = some (.iload_n 1, 1) := by decide +kernel
theorem d_78_27 : xcode 78 27 = some (.iaload, 1) := by decide +kernel
theorem d_78_28 : xcode 78 28 = some (.ireturn, 1) := by decide +kernel
theorem d_79_0 : xcode 79 0 = some (.iload_n 1, 1) := by decide +kernel
theorem d_79_1 : xcode 79 1 = some (.invokestatic 120, 3) := by decide +kernel
theorem d_79_4 : xcode 79 4 = some (.ifCond .ne 5, 3) := by decide +kernel
theorem d_79_7 : xcode 79 7 = some (.iconst (-1), 1) := by decide +kernel
theorem d_79_8 : xcode 79 8 = some (.ireturn, 1) := by decide +kernel
theorem d_79_9 : xcode 79 9 = some (.iload_n 1, 1) := by decide +kernel
theorem d_79_10 : xcode 79 10 = some (.aload_n 0, 1) := by decide +kernel
theorem d_79_11 : xcode 79 11 = some (.getfield 49, 3) := by decide +kernel
theorem d_79_14 : xcode 79 14 = some (.if_icmp .le 6, 3) := by decide +kernel
theorem d_79_17 : xcode 79 17 = some (.bipush (-2), 2) := by decide +kernel
theorem d_79_19 : xcode 79 19 = some (.ireturn, 1) := by decide +kernel
theorem d_79_20 : xcode 79 20 = some (.aload_n 0, 1) := by decide +kernel
theorem d_79_21 : xcode 79 21 = some (.iload_n 1, 1) := by decide +kernel
theorem d_79_22 : xcode 79 22 = some (.invokevirtual 174, 3) := by decide +kernel
theorem d_79_25 : xcode 79 25 = some (.ifCond .eq 7, 3) := by decide +kernel
theorem d_79_28 : xcode 79 28 = some (.iconst 1, 1) := by decide +kernel
theorem d_79_29 : xcode 79 29 = some (.goto 4, 3) := by decide +kernel
theorem d_79_32 : xcode 79 32 = some (.iconst 0, 1) := by decide +kernel
theorem d_79_33 : xcode 79 33 = some (.ireturn, 1) := by decide +kernel
theorem d_80_0 : xcode 80 0 = some (.iload_n 1, 1) := by decide +kernel
theorem d_80_1 : xcode 80 1 = some (.invokestatic 120, 3) := by decide +kernel
theorem d_80_4 : xcode 80 4 = some (.ifCond .ne 5, 3) := by decide +kernel
theorem d_80_7 : xcode 80 7 = some (.iconst (-1), 1) := by decide +kernel
theorem d_80_8 : xcode 80 8 = some (.ireturn, 1) := by decide +kernel
theorem d_80_9 : xcode 80 9 = some (.iload_n 1, 1) := by decide +kernel
theorem d_80_10 : xcode 80 10 = some (.aload_n 0, 1) := by decide +kernel
theorem d_80_11 : xcode 80 11 = some (.getfield 49, 3) := by decide +kernel
theorem d_80_14 : xcode 80 14 = some (.if_icmp .le 6, 3) := by decide +kernel
theorem d_80_17 : xcode 80 17 = some (.bipush (-2), 2) := by decide +kernel
theorem d_80_19 : xcode 80 19 = some (.ireturn, 1) := by decide +kernel
theorem d_80_20 : xcode 80 20 = some (.iconst 0, 1) := by decide +kernel
theorem d_80_21 : xcode 80 21 = some (.istore_n 2, 1) := by decide +kernel
theorem d_80_22 : xcode 80 22 = some (.iconst 0, 1) := by decide +kernel
theorem d_80_23 : xcode 80 23 = some (.istore_n 3, 1) := by decide +kernel
theorem d_80_24 : xcode 80 24 = some (.iload_n 3, 1) := by decide +kernel
theorem d_80_25 : xcode 80 25 = some (.iconst 2, 1) := by decide +kernel
theorem d_80_26 : xcode 80 26 = some (.if_icmp .gt 48, 3) := by decide +kernel
theorem d_80_29 : xcode 80 29 = some (.iload_n 3, 1) := by decide +kernel
theorem d_80_30 : xcode 80 30 = some (.ifCond .ne 14, 3) := by decide +kernel
theorem d_80_33 : xcode 80 33 = some (.aload_n 0, 1) := by decide +kernel
theorem d_80_34 : xcode 80 34 = some (.iload_n 1, 1) := by decide +kernel
theorem d_80_35 : xcode 80 35 = some (.invokevirtual 127, 3) := by decide +kernel
theorem d_80_38 : xcode 80 38 = some (.ifCond .ne 6, 3) := by decide +kernel
theorem d_80_41 : xcode 80 41 = some (.goto 27, 3) := by decide +kernel
theorem d_80_44 : xcode 80 44 = some (.aload_n 0, 1) := by decide +kernel
theorem d_80_45 : xcode 80 45 = some (.iload_n 1, 1) := by decide +kernel
theorem d_80_46 : xcode 80 46 = some (.iload_n 3, 1) := by decide +kernel
theorem d_80_47 : xcode 80 47 = some (.invokevirtual 177, 3) := by decide +kernel
theorem d_80_50 : xcode 80 50 = some (.aload_n 0, 1) := by decide +kernel
theorem d_80_51 : xcode 80 51 = some (.getfield 39, 3) := by decide +kernel
theorem d_80_54 : xcode 80 54 = some (.iload_n 1, 1) := by decide +kernel
theorem d_80_55 : xcode 80 55 = some (.aload_n 0, 1) := by decide +kernel
theorem d_80_56 : xcode 80 56 = some (.getfield 95, 3) := by decide +kernel
theorem d_80_59 : xcode 80 59 = some (.invokevirtual 180, 3) := by decide +kernel
theorem d_80_62 : xcode 80 62 = some (.ifCond .eq 6, 3) := by decide +kernel
theorem d_80_65 : xcode 80 65 = some (.iinc 2 1, 3) := by decide +kernel
theorem d_80_68 : xcode 80 68 = some (.iinc 3 1, 3) := by decide +kernel
theorem d_80_71 : xcode 80 71 = some (.goto (-47), 3) := by decide +kernel
theorem d_80_74 : xcode 80 74 = some (.iload_n 2, 1) := by decide +kernel
theorem d_80_75 : xcode 80 75 = some (.ireturn, 1) := by decide +kernel
theorem d_81_0 : xcode 81 0 = some (.iload_n 1, 1) := by decide +kernel
theorem d_81_1 : xcode 81 1 = some (.invokestatic 120, 3) := by decide +kernel
theorem d_81_4 : xcode 81 4 = some (.ifCond .eq 7, 3) := by decide +kernel
theorem d_81_7 : xcode 81 7 = some (.iload_n 2, 1) := by decide +kernel
theorem d_81_8 : xcode 81 8 = some (.ifCond .ge 5, 3) := by decide +kernel
theorem d_81_11 : xcode 81 11 = some (.iconst (-1), 1) := by decide +kernel
theorem d_81_12 : xcode 81 12 = some (.ireturn, 1) := by decide +kernel
theorem d_81_13 : xcode 81 13 = some (.iconst 0, 1) := by decide +kernel
theorem d_81_14 : xcode 81 14 = some (.istore_n 3, 1) := by decide +kernel
theorem d_81_15 : xcode 81 15 = some (.getstatic 184, 3) := by decide +kernel
theorem d_81_18 : xcode 81 18 = some (.astore 4, 2) := by decide +kernel
theorem d_81_20 : xcode 81 20 = some (.aload 4, 2) := by decide +kernel
theorem d_81_22 : xcode 81 22 = some (.arraylength, 1) := by decide +kernel
theorem d_81_23 : xcode 81 23 = some (.istore 5, 2) := by decide +kernel
theorem d_81_25 : xcode 81 25 = some (.iconst 0, 1) := by decide +kernel
theorem d_81_26 : xcode 81 26 = some (.istore 6, 2) := by decide +kernel
theorem d_81_28 : xcode 81 28 = some (.iload 6, 2) := by decide +kernel
theorem d_81_30 : xcode 81 30 = some (.iload 5, 2) := by decide +kernel
theorem d_81_32 : xcode 81 32 = some (.if_icmp .ge 39, 3) := by decide +kernel
theorem d_81_35 : xcode 81 35 = some (.aload 4, 2) := by decide +kernel
theorem d_81_37 : xcode 81 37 = some (.iload 6, 2) := by decide +kernel
theorem d_81_39 : xcode 81 39 = some (.iaload, 1) := by decide +kernel
theorem d_81_40 : xcode 81 40 = some (.istore 7, 2) := by decide +kernel
theorem d_81_42 : xcode 81 42 = some (.iload 7, 2) := by decide +kernel
theorem d_81_44 : xcode 81 44 = some (.iload_n 1, 1) := by decide +kernel
theorem d_81_45 : xcode 81 45 = some (.invokestatic 187, 3) := by decide +kernel
theorem d_81_48 : xcode 81 48 = some (.ifCond .ne 6, 3) := by decide +kernel
theorem d_81_51 : xcode 81 51 = some (.goto 14, 3) := by decide +kernel
theorem d_81_54 : xcode 81 54 = some (.iload_n 3, 1) := by decide +kernel
theorem d_81_55 : xcode 81 55 = some (.iload_n 2, 1) := by decide +kernel
theorem d_81_56 : xcode 81 56 = some (.if_icmp .ne 6, 3) := by decide +kernel
theorem d_81_59 : xcode 81 59 = some (.iload 7, 2) := by decide +kernel
theorem d_81_61 : xcode 81 61 = some (.ireturn, 1) := by decide +kernel
theorem d_81_62 : xcode 81 62 = some (.iinc 3 1, 3) := by decide +kernel
theorem d_81_65 : xcode 81 65 = some (.iinc 6 1, 3) := by decide +kernel
theorem d_81_68 : xcode 81 68 = some (.goto (-40), 3) := by decide +kernel
theorem d_81_71 : xcode 81 71 = some (.bipush (-2), 2) := by decide +kernel
theorem d_81_73 : xcode 81 73 = some (.ireturn, 1) := by decide +kernel
theorem d_82_0 : xcode 82 0 = some (.iload_n 1, 1) := by decide +kernel
theorem d_82_1 : xcode 82 1 = some (.invokestatic 120, 3) := by decide +kernel
theorem d_82_4 : xcode 82 4 = some (.ifCond .eq 10, 3) := by decide +kernel
theorem d_82_7 : xcode 82 7 = some (.iload_n 1, 1) := by decide +kernel
theorem d_82_8 : xcode 82 8 = some (.invokestatic 190, 3) := by decide +kernel
theorem d_82_11 : xcode 82 11 = some (.ifCond .ne 7, 3) := by decide +kernel
theorem d_82_14 : xcode 82 14 = some (.ldc2_w 166, 3) := by decide +kernel
theorem d_82_17 : xcode 82 17 = some (.lreturn, 1) := by decide +kernel
theorem d_82_18 : xcode 82 18 = some (.aload_n 0, 1) := by decide +kernel
theorem d_82_19 : xcode 82 19 = some (.getfield 21, 3) := by decide +kernel
theorem d_82_22 : xcode 82 22 = some (.ldc2_w 193, 3) := by decide +kernel
theorem d_82_25 : xcode 82 25 = some (.invokevirtual 195, 3) := by decide +kernel
theorem d_82_28 : xcode 82 28 = some (.aload_n 0, 1) := by decide +kernel
theorem d_82_29 : xcode 82 29 = some (.getfield 21, 3) := by decide +kernel
theorem d_82_32 : xcode 82 32 = some (.lconst 1, 1) := by decide +kernel
theorem d_82_33 : xcode 82 33 = some (.aload_n 0, 1) := by decide +kernel
theorem d_82_34 : xcode 82 34 = some (.getfield 35, 3) := by decide +kernel
theorem d_82_37 : xcode 82 37 = some (.iload_n 1, 1) := by decide +kernel
theorem d_82_38 : xcode 82 38 = some (.invokevirtual 198, 3) := by decide +kernel
theorem d_82_41 : xcode 82 41 = some (.aload_n 0, 1) := by decide +kernel
theorem d_82_42 : xcode 82 42 = some (.getfield 35, 3) := by decide +kernel
theorem d_82_45 : xcode 82 45 = some (.iload_n 1, 1) := by decide +kernel
theorem d_82_46 : xcode 82 46 = some (.invokevirtual 201, 3) := by decide +kernel
theorem d_82_49 : xcode 82 49 = some (.aload_n 0, 1) := by decide +kernel
theorem d_82_50 : xcode 82 50 = some (.getfield 35, 3) := by decide +kernel
theorem d_82_53 : xcode 82 53 = some (.iload_n 1, 1) := by decide +kernel
theorem d_82_54 : xcode 82 54 = some (.invokevirtual 204, 3) := by decide +kernel
theorem d_82_57 : xcode 82 57 = some (.invokevirtual 207, 3) := by decide +kernel
theorem d_82_60 : xcode 82 60 = some (.aload_n 0, 1) := by decide +kernel
theorem d_82_61 : xcode 82 61 = some (.iload_n 1, 1) := by decide +kernel
theorem d_82_62 : xcode 82 62 = some (.iconst 1, 1) := by decide +kernel
theorem d_82_63 : xcode 82 63 = some (.invokevirtual 211, 3) := by decide +kernel
theorem d_82_66 : xcode 82 66 = some (.aload_n 0, 1) := by decide +kernel
theorem d_82_67 : xcode 82 67 = some (.getfield 21, 3) := by decide +kernel
theorem d_82_70 : xcode 82 70 = some (.aload_n 0, 1) := by decide +kernel
theorem d_82_71 : xcode 82 71 = some (.getfield 95, 3) := by decide +kernel
theorem d_82_74 : xcode 82 74 = some (.invokevirtual 214, 3) := by decide +kernel
theorem d_82_77 : xcode 82 77 = some (.aload_n 0, 1) := by decide +kernel
theorem d_82_78 : xcode 82 78 = some (.getfield 95, 3) := by decide +kernel
theorem d_82_81 : xcode 82 81 = some (.getfield 218, 3) := by decide +kernel
theorem d_82_84 : xcode 82 84 = some (.lreturn, 1) := by decide +kernel
theorem d_83_0 : xcode 83 0 = some (.iload_n 1, 1) := by decide +kernel
theorem d_83_1 : xcode 83 1 = some (.invokestatic 120, 3) := by decide +kernel
theorem d_83_4 : xcode 83 4 = some (.ifCond .eq 10, 3) := by decide +kernel
theorem d_83_7 : xcode 83 7 = some (.iload_n 2, 1) := by decide +kernel
theorem d_83_8 : xcode 83 8 = some (.invokestatic 222, 3) := by decide +kernel
theorem d_83_11 : xcode 83 11 = some (.ifCond .ne 5, 3) := by decide +kernel
theorem d_83_14 : xcode 83 14 = some (.iconst (-1), 1) := by decide +kernel
theorem d_83_15 : xcode 83 15 = some (.ireturn, 1) := by decide +kernel
theorem d_83_16 : xcode 83 16 = some (.iload_n 1, 1) := by decide +kernel
theorem d_83_17 : xcode 83 17 = some (.aload_n 0, 1) := by decide +kernel
theorem d_83_18 : xcode 83 18 = some (.getfield 49, 3) := by decide +kernel
theorem d_83_21 : xcode 83 21 = some (.if_icmp .le 6, 3) := by decide +kernel
theorem d_83_24 : xcode 83 24 = some (.bipush (-2), 2) := by decide +kernel
theorem d_83_26 : xcode 83 26 = some (.ireturn, 1) := by decide +kernel
theorem d_83_27 : xcode 83 27 = some (.aload_n 0, 1) := by decide +kernel
theorem d_83_28 : xcode 83 28 = some (.iload_n 1, 1) := by decide +kernel
theorem d_83_29 : xcode 83 29 = some (.iload_n 2, 1) := by decide +kernel
theorem d_83_30 : xcode 83 30 = some (.invokevirtual 225, 3) := by decide +kernel
theorem d_83_33 : xcode 83 33 = some (.istore_n 3, 1) := by decide +kernel
theorem d_83_34 : xcode 83 34 = some (.iload_n 3, 1) := by decide +kernel
theorem d_83_35 : xcode 83 35 = some (.ifCond .lt 13, 3) := by decide +kernel
theorem d_83_38 : xcode 83 38 = some (.aload_n 0, 1) := by decide +kernel
theorem d_83_39 : xcode 83 39 = some (.getfield 65, 3) := by decide +kernel
theorem d_83_42 : xcode 83 42 = some (.iload_n 1, 1) := by decide +kernel
theorem d_83_43 : xcode 83 43 = some (.iload_n 2, 1) := by decide +kernel
theorem d_83_44 : xcode 83 44 = some (.iload_n 3, 1) := by decide +kernel
theorem d_83_45 : xcode 83 45 = some (.invokevirtual 228, 3) := by decide +kernel
theorem d_83_48 : xcode 83 48 = some (.iload_n 3, 1) := by decide +kernel
theorem d_83_49 : xcode 83 49 = some (.ireturn, 1) := by decide +kernel
theorem d_84_0 : xcode 84 0 = some (.iload_n 0, 1) := by decide +kernel
theorem d_84_1 : xcode 84 1 = some (.iconst 3, 1) := by decide +kernel
theorem d_84_2 : xcode 84 2 = some (.if_icmp .lt 10, 3) := by decide +kernel
theorem d_84_5 : xcode 84 5 = some (.iload_n 0, 1) := by decide +kernel
theorem d_84_6 : xcode 84 6 = some (.sipush 199, 3) := by decide +kernel
theorem d_84_9 : xcode 84 9 = some (.if_icmp .le 5, 3) := by decide +kernel
theorem d_84_12 : xcode 84 12 = some (.iconst 0, 1) := by decide +kernel
theorem d_84_13 : xcode 84 13 = some (.ireturn, 1) := by decide +kernel
theorem d_84_14 : xcode 84 14 = some (.getstatic 184, 3) := by decide +kernel
theorem d_84_17 : xcode 84 17 = some (.astore_n 1, 1) := by decide +kernel
theorem d_84_18 : xcode 84 18 = some (.aload_n 1, 1) := by decide +kernel
theorem d_84_19 : xcode 84 19 = some (.arraylength, 1) := by decide +kernel
theorem d_84_20 : xcode 84 20 = some (.istore_n 2, 1) := by decide +kernel
theorem d_84_21 : xcode 84 21 = some (.iconst 0, 1) := by decide +kernel
theorem d_84_22 : xcode 84 22 = some (.istore_n 3, 1) := by decide +kernel
theorem d_84_23 : xcode 84 23 = some (.iload_n 3, 1) := by decide +kernel
theorem d_84_24 : xcode 84 24 = some (.iload_n 2, 1) := by decide +kernel
theorem d_84_25 : xcode 84 25 = some (.if_icmp .ge 22, 3) := by decide +kernel
theorem d_84_28 : xcode 84 28 = some (.aload_n 1, 1) := by decide +kernel
theorem d_84_29 : xcode 84 29 = some (.iload_n 3, 1) := by decide +kernel
theorem d_84_30 : xcode 84 30 = some (.iaload, 1) := by decide +kernel
theorem d_84_31 : xcode 84 31 = some (.istore 4, 2) := by decide +kernel
theorem d_84_33 : xcode 84 33 = some (.iload 4, 2) := by decide +kernel
theorem d_84_35 : xcode 84 35 = some (.iload_n 0, 1) := by decide +kernel
theorem d_84_36 : xcode 84 36 = some (.if_icmp .ne 5, 3) := by decide +kernel
theorem d_84_39 : xcode 84 39 = some (.iconst 1, 1) := by decide +kernel
theorem d_84_40 : xcode 84 40 = some (.ireturn, 1) := by decide +kernel
theorem d_84_41 : xcode 84 41 = some (.iinc 3 1, 3) := by decide +kernel
theorem d_84_44 : xcode 84 44 = some (.goto (-21), 3) := by decide +kernel
theorem d_84_47 : xcode 84 47 = some (.iconst 0, 1) := by decide +kernel
theorem d_84_48 : xcode 84 48 = some (.ireturn, 1) := by decide +kernel
theorem d_85_0 : xcode 85 0 = some (.iload_n 2, 1) := by decide +kernel
theorem d_85_1 : xcode 85 1 = some (.iconst 3, 1) := by decide +kernel
theorem d_85_2 : xcode 85 2 = some (.if_icmp .lt 19, 3) := by decide +kernel
theorem d_85_5 : xcode 85 5 = some (.aload_n 0, 1) := by decide +kernel
theorem d_85_6 : xcode 85 6 = some (.getfield 39, 3) := by decide +kernel
theorem d_85_9 : xcode 85 9 = some (.iload_n 1, 1) := by decide +kernel
theorem d_85_10 : xcode 85 10 = some (.invokevirtual 204, 3) := by decide +kernel
theorem d_85_13 : xcode 85 13 = some (.iload_n 2, 1) := by decide +kernel
theorem d_85_14 : xcode 85 14 = some (.i2l, 1) := by decide +kernel
theorem d_85_15 : xcode 85 15 = some (.lrem, 1) := by decide +kernel
theorem d_85_16 : xcode 85 16 = some (.lconst 0, 1) := by decide +kernel
theorem d_85_17 : xcode 85 17 = some (.lcmp, 1) := by decide +kernel
theorem d_85_18 : xcode 85 18 = some (.ifCond .ne 6, 3) := by decide +kernel
theorem d_85_21 : xcode 85 21 = some (.bipush (-3), 2) := by decide +kernel
theorem d_85_23 : xcode 85 23 = some (.ireturn, 1) := by decide +kernel
theorem d_85_24 : xcode 85 24 = some (.aload_n 0, 1) := by decide +kernel
theorem d_85_25 : xcode 85 25 = some (.getfield 39, 3) := by decide +kernel
theorem d_85_28 : xcode 85 28 = some (.iload_n 1, 1) := by decide +kernel
theorem d_85_29 : xcode 85 29 = some (.iload_n 2, 1) := by decide +kernel
theorem d_85_30 : xcode 85 30 = some (.i2l, 1) := by decide +kernel
theorem d_85_31 : xcode 85 31 = some (.invokevirtual 444, 3) := by decide +kernel
theorem d_85_34 : xcode 85 34 = some (.l2i, 1) := by decide +kernel
theorem d_85_35 : xcode 85 35 = some (.ireturn, 1) := by decide +kernel
theorem d_86_0 : xcode 86 0 = some (.aload_n 0, 1) := by decide +kernel
theorem d_86_1 : xcode 86 1 = some (.iload_n 1, 1) := by decide +kernel
theorem d_86_2 : xcode 86 2 = some (.iload_n 2, 1) := by decide +kernel
theorem d_86_3 : xcode 86 3 = some (.invokevirtual 29, 3) := by decide +kernel
theorem d_86_6 : xcode 86 6 = some (.istore 4, 2) := by decide +kernel
theorem d_86_8 : xcode 86 8 = some (.iload 4, 2) := by decide +kernel
theorem d_86_10 : xcode 86 10 = some (.bipush 20, 2) := by decide +kernel
theorem d_86_12 : xcode 86 12 = some (.if_icmp .ne 11, 3) := by decide +kernel
theorem d_86_15 : xcode 86 15 = some (.aload_n 0, 1) := by decide +kernel
theorem d_86_16 : xcode 86 16 = some (.invokevirtual 33, 3) := by decide +kernel
theorem d_86_19 : xcode 86 19 = some (.bipush 19, 2) := by decide +kernel
theorem d_86_21 : xcode 86 21 = some (.istore 4, 2) := by decide +kernel
theorem d_86_23 : xcode 86 23 = some (.iload 4, 2) := by decide +kernel
theorem d_86_25 : xcode 86 25 = some (.aload_n 0, 1) := by decide +kernel
theorem d_86_26 : xcode 86 26 = some (.getfield 21, 3) := by decide +kernel
theorem d_86_29 : xcode 86 29 = some (.if_icmp .ne 13, 3) := by decide +kernel
theorem d_86_32 : xcode 86 32 = some (.aload_n 0, 1) := by decide +kernel
theorem d_86_33 : xcode 86 33 = some (.dup, 1) := by decide +kernel
theorem d_86_34 : xcode 86 34 = some (.getfield 21, 3) := by decide +kernel
theorem d_86_37 : xcode 86 37 = some (.iconst 1, 1) := by decide +kernel
theorem d_86_38 : xcode 86 38 = some (.iadd, 1) := by decide +kernel
theorem d_86_39 : xcode 86 39 = some (.putfield 21, 3) := by decide +kernel
theorem d_86_42 : xcode 86 42 = some (.aload_n 0, 1) := by decide +kernel
theorem d_86_43 : xcode 86 43 = some (.iload 4, 2) := by decide +kernel
theorem d_86_45 : xcode 86 45 = some (.invokevirtual 25, 3) := by decide +kernel
theorem d_86_48 : xcode 86 48 = some (.ifCond .eq 27, 3) := by decide +kernel
theorem d_86_51 : xcode 86 51 = some (.aload_n 0, 1) := by decide +kernel
theorem d_86_52 : xcode 86 52 = some (.getfield 11, 3) := by decide +kernel
theorem d_86_55 : xcode 86 55 = some (.iload 4, 2) := by decide +kernel
theorem d_86_57 : xcode 86 57 = some (.iload_n 1, 1) := by decide +kernel
theorem d_86_58 : xcode 86 58 = some (.iastore, 1) := by decide +kernel
theorem d_86_59 : xcode 86 59 = some (.aload_n 0, 1) := by decide +kernel
theorem d_86_60 : xcode 86 60 = some (.getfield 15, 3) := by decide +kernel
theorem d_86_63 : xcode 86 63 = some (.iload 4, 2) := by decide +kernel
theorem d_86_65 : xcode 86 65 = some (.iload_n 2, 1) := by decide +kernel
theorem d_86_66 : xcode 86 66 = some (.iastore, 1) := by decide +kernel
theorem d_86_67 : xcode 86 67 = some (.aload_n 0, 1) := by decide +kernel
theorem d_86_68 : xcode 86 68 = some (.getfield 18, 3) := by decide +kernel
theorem d_86_71 : xcode 86 71 = some (.iload 4, 2) := by decide +kernel
theorem d_86_73 : xcode 86 73 = some (.iload_n 3, 1) := by decide +kernel
theorem d_86_74 : xcode 86 74 = some (.iastore, 1) := by decide +kernel
theorem d_86_75 : xcode 86 75 = some (.return_, 1) := by decide +kernel
theorem d_87_0 : xcode 87 0 = some (.iconst 0, 1) := by decide +kernel
theorem d_87_1 : xcode 87 1 = some (.istore_n 3, 1) := by decide +kernel
theorem d_87_2 : xcode 87 2 = some (.iload_n 3, 1) := by decide +kernel
theorem d_87_3 : xcode 87 3 = some (.aload_n 0, 1) := by decide +kernel
theorem d_87_4 : xcode 87 4 = some (.getfield 21, 3) := by decide +kernel
theorem d_87_7 : xcode 87 7 = some (.if_icmp .ge 37, 3) := by decide +kernel
theorem d_87_10 : xcode 87 10 = some (.iload_n 3, 1) := by decide +kernel
theorem d_87_11 : xcode 87 11 = some (.bipush 20, 2) := by decide +kernel
theorem d_87_13 : xcode 87 13 = some (.if_icmp .ge 31, 3) := by decide +kernel
theorem d_87_16 : xcode 87 16 = some (.aload_n 0, 1) := by decide +kernel
theorem d_87_17 : xcode 87 17 = some (.getfield 11, 3) := by decide +kernel
theorem d_87_20 : xcode 87 20 = some (.iload_n 3, 1) := by decide +kernel
theorem d_87_21 : xcode 87 21 = some (.iaload, 1) := by decide +kernel
theorem d_87_22 : xcode 87 22 = some (.iload_n 1, 1) := by decide +kernel
theorem d_87_23 : xcode 87 23 = some (.if_icmp .ne 15, 3) := by decide +kernel
theorem d_87_26 : xcode 87 26 = some (.aload_n 0, 1) := by decide +kernel
theorem d_87_27 : xcode 87 27 = some (.getfield 15, 3) := by decide +kernel
theorem d_87_30 : xcode 87 30 = some (.iload_n 3, 1) := by decide +kernel
theorem d_87_31 : xcode 87 31 = some (.iaload, 1) := by decide +kernel
theorem d_87_32 : xcode 87 32 = some (.iload_n 2, 1) := by decide +kernel
theorem d_87_33 : xcode 87 33 = some (.if_icmp .ne 5, 3) := by decide +kernel
theorem d_87_36 : xcode 87 36 = some (.iload_n 3, 1) := by decide +kernel
theorem d_87_37 : xcode 87 37 = some (.ireturn, 1) := by decide +kernel
theorem d_87_38 : xcode 87 38 = some (.iinc 3 1, 3) := by decide +kernel
theorem d_87_41 : xcode 87 41 = some (.goto (-39), 3) := by decide +kernel
theorem d_87_44 : xcode 87 44 = some (.aload_n 0, 1) := by decide +kernel
theorem d_87_45 : xcode 87 45 = some (.getfield 21, 3) := by decide +kernel
theorem d_87_48 : xcode 87 48 = some (.ireturn, 1) := by decide +kernel
theorem d_88_0 : xcode 88 0 = some (.aload_n 0, 1) := by decide +kernel
theorem d_88_1 : xcode 88 1 = some (.getfield 11, 3) := by decide +kernel
theorem d_88_4 : xcode 88 4 = some (.iconst 1, 1) := by decide +kernel
theorem d_88_5 : xcode 88 5 = some (.aload_n 0, 1) := by decide +kernel
theorem d_88_6 : xcode 88 6 = some (.getfield 11, 3) := by decide +kernel
theorem d_88_9 : xcode 88 9 = some (.iconst 0, 1) := by decide +kernel
theorem d_88_10 : xcode 88 10 = some (.bipush 19, 2) := by decide +kernel
theorem d_88_12 : xcode 88 12 = some (.invokestatic 36, 3) := by decide +kernel
theorem d_88_15 : xcode 88 15 = some (.aload_n 0, 1) := by decide +kernel
theorem d_88_16 : xcode 88 16 = some (.getfield 15, 3) := by decide +kernel
theorem d_88_19 : xcode 88 19 = some (.iconst 1, 1) := by decide +kernel
theorem d_88_20 : xcode 88 20 = some (.aload_n 0, 1) := by decide +kernel
theorem d_88_21 : xcode 88 21 = some (.getfield 15, 3) := by decide +kernel
theorem d_88_24 : xcode 88 24 = some (.iconst 0, 1) := by decide +kernel
theorem d_88_25 : xcode 88 25 = some (.bipush 19, 2) := by decide +kernel
theorem d_88_27 : xcode 88 27 = some (.invokestatic 36, 3) := by decide +kernel
theorem d_88_30 : xcode 88 30 = some (.aload_n 0, 1) := by decide +kernel
theorem d_88_31 : xcode 88 31 = some (.getfield 18, 3) := by decide +kernel
theorem d_88_34 : xcode 88 34 = some (.iconst 1, 1) := by decide +kernel
theorem d_88_35 : xcode 88 35 = some (.aload_n 0, 1) := by decide +kernel
theorem d_88_36 : xcode 88 36 = some (.getfield 18, 3) := by decide +kernel
theorem d_88_39 : xcode 88 39 = some (.iconst 0, 1) := by decide +kernel
theorem d_88_40 : xcode 88 40 = some (.bipush 19, 2) := by decide +kernel
theorem d_88_42 : xcode 88 42 = some (.invokestatic 36, 3) := by decide +kernel
theorem d_88_45 : xcode 88 45 = some (.aload_n 0, 1) := by decide +kernel
theorem d_88_46 : xcode 88 46 = some (.bipush 19, 2) := by decide +kernel
theorem d_88_48 : xcode 88 48 = some (.putfield 21, 3) := by decide +kernel
theorem d_88_51 : xcode 88 51 = some (.return_, 1) := by decide +kernel
theorem d_89_0 : xcode 89 0 = some (.iload_n 1, 1) := by decide +kernel
theorem d_89_1 : xcode 89 1 = some (.ifCond .lt 21, 3) := by decide +kernel
theorem d_89_4 : xcode 89 4 = some (.iload_n 1, 1) := by decide +kernel
theorem d_89_5 : xcode 89 5 = some (.aload_n 0, 1) := by decide +kernel
theorem d_89_6 : xcode 89 6 = some (.getfield 21, 3) := by decide +kernel
theorem d_89_9 : xcode 89 9 = some (.if_icmp .ge 13, 3) := by decide +kernel
theorem d_89_12 : xcode 89 12 = some (.iload_n 1, 1) := by decide +kernel
theorem d_89_13 : xcode 89 13 = some (.bipush 20, 2) := by decide +kernel
theorem d_89_15 : xcode 89 15 = some (.if_icmp .ge 7, 3) := by decide +kernel
theorem d_89_18 : xcode 89 18 = some (.iconst 1, 1) := by decide +kernel
theorem d_89_19 : xcode 89 19 = some (.goto 4, 3) := by decide +kernel
theorem d_89_22 : xcode 89 22 = some (.iconst 0, 1) := by decide +kernel
theorem d_89_23 : xcode 89 23 = some (.ireturn, 1) := by decide +kernel
theorem d_90_0 : xcode 90 0 = some (.iload_n 1, 1) := by decide +kernel
theorem d_90_1 : xcode 90 1 = some (.invokestatic 120, 3) := by decide +kernel
theorem d_90_4 : xcode 90 4 = some (.ifCond .eq 10, 3) := by decide +kernel
theorem d_90_7 : xcode 90 7 = some (.iload_n 2, 1) := by decide +kernel
theorem d_90_8 : xcode 90 8 = some (.invokestatic 222, 3) := by decide +kernel
theorem d_90_11 : xcode 90 11 = some (.ifCond .ne 5, 3) := by decide +kernel
theorem d_90_14 : xcode 90 14 = some (.iconst (-1), 1) := by decide +kernel
theorem d_90_15 : xcode 90 15 = some (.ireturn, 1) := by decide +kernel
theorem d_90_16 : xcode 90 16 = some (.iload_n 1, 1) := by decide +kernel
theorem d_90_17 : xcode 90 17 = some (.invokestatic 190, 3) := by decide +kernel
theorem d_90_20 : xcode 90 20 = some (.ifCond .eq 11, 3) := by decide +kernel
theorem d_90_23 : xcode 90 23 = some (.iload_n 1, 1) := by decide +kernel
theorem d_90_24 : xcode 90 24 = some (.iload_n 2, 1) := by decide +kernel
theorem d_90_25 : xcode 90 25 = some (.iconst 1, 1) := by decide +kernel
theorem d_90_26 : xcode 90 26 = some (.isub, 1) := by decide +kernel
theorem d_90_27 : xcode 90 27 = some (.irem, 1) := by decide +kernel
theorem d_90_28 : xcode 90 28 = some (.ifCond .ne 6, 3) := by decide +kernel
theorem d_90_31 : xcode 90 31 = some (.bipush (-3), 2) := by decide +kernel
theorem d_90_33 : xcode 90 33 = some (.ireturn, 1) := by decide +kernel
theorem d_90_34 : xcode 90 34 = some (.iload_n 1, 1) := by decide +kernel
theorem d_90_35 : xcode 90 35 = some (.iload_n 2, 1) := by decide +kernel
theorem d_90_36 : xcode 90 36 = some (.invokestatic 232, 3) := by decide +kernel
theorem d_90_39 : xcode 90 39 = some (.l2i, 1) := by decide +kernel
theorem d_90_40 : xcode 90 40 = some (.ireturn, 1) := by decide +kernel
theorem d_91_0 : xcode 91 0 = some (.iload_n 1, 1) := by decide +kernel
theorem d_91_1 : xcode 91 1 = some (.ifCond .le 19, 3) := by decide +kernel
theorem d_91_4 : xcode 91 4 = some (.iload_n 0, 1) := by decide +kernel
theorem d_91_5 : xcode 91 5 = some (.iload_n 1, 1) := by decide +kernel
theorem d_91_6 : xcode 91 6 = some (.iload_n 1, 1) := by decide +kernel
theorem d_91_7 : xcode 91 7 = some (.i2l, 1) := by decide +kernel
theorem d_91_8 : xcode 91 8 = some (.iload_n 1, 1) := by decide +kernel
theorem d_91_9 : xcode 91 9 = some (.i2l, 1) := by decide +kernel
theorem d_91_10 : xcode 91 10 = some (.lmul, 1) := by decide +kernel
theorem d_91_11 : xcode 91 11 = some (.invokestatic 19, 3) := by decide +kernel
theorem d_91_14 : xcode 91 14 = some (.iload_n 1, 1) := by decide +kernel
theorem d_91_15 : xcode 91 15 = some (.i2l, 1) := by decide +kernel
theorem d_91_16 : xcode 91 16 = some (.ldiv, 1) := by decide +kernel
theorem d_91_17 : xcode 91 17 = some (.goto 4, 3) := by decide +kernel
theorem d_91_20 : xcode 91 20 = some (.lconst 0, 1) := by decide +kernel
theorem d_91_21 : xcode 91 21 = some (.lreturn, 1) := by decide +kernel
theorem d_92_0 : xcode 92 0 = some (.iload_n 1, 1) := by decide +kernel
theorem d_92_1 : xcode 92 1 = some (.ifCond .lt 12, 3) := by decide +kernel
theorem d_92_4 : xcode 92 4 = some (.iload_n 2, 1) := by decide +kernel
theorem d_92_5 : xcode 92 5 = some (.ifCond .lt 8, 3) := by decide +kernel
theorem d_92_8 : xcode 92 8 = some (.iload_n 2, 1) := by decide +kernel
theorem d_92_9 : xcode 92 9 = some (.iconst 3, 1) := by decide +kernel
theorem d_92_10 : xcode 92 10 = some (.if_icmp .le 5, 3) := by decide +kernel
theorem d_92_13 : xcode 92 13 = some (.iconst (-1), 1) := by decide +kernel
theorem d_92_14 : xcode 92 14 = some (.ireturn, 1) := by decide +kernel
theorem d_92_15 : xcode 92 15 = some (.iload_n 1, 1) := by decide +kernel
theorem d_92_16 : xcode 92 16 = some (.aload_n 0, 1) := by decide +kernel
theorem d_92_17 : xcode 92 17 = some (.getfield 65, 3) := by decide +kernel
theorem d_92_20 : xcode 92 20 = some (.invokevirtual 238, 3) := by decide +kernel
theorem d_92_23 : xcode 92 23 = some (.if_icmp .lt 6, 3) := by decide +kernel
theorem d_92_26 : xcode 92 26 = some (.bipush (-2), 2) := by decide +kernel
theorem d_92_28 : xcode 92 28 = some (.ireturn, 1) := by decide +kernel
theorem d_92_29 : xcode 92 29 = some (.iload_n 2, 1) := by decide +kernel
theorem d_92_30 : xcode 92 30 = some (.tableswitch 53 0 2 #[26, 35, 44], 26) := by decide +kernel
theorem d_92_56 : xcode 92 56 = some (.aload_n 0, 1) := by decide +kernel
theorem d_92_57 : xcode 92 57 = some (.getfield 65, 3) := by decide +kernel
theorem d_92_60 : xcode 92 60 = some (.iload_n 1, 1) := by decide +kernel
theorem d_92_61 : xcode 92 61 = some (.invokevirtual 242, 3) := by decide +kernel
theorem d_92_64 : xcode 92 64 = some (.ireturn, 1) := by decide +kernel
theorem d_92_65 : xcode 92 65 = some (.aload_n 0, 1) := by decide +kernel
theorem d_92_66 : xcode 92 66 = some (.getfield 65, 3) := by decide +kernel
theorem d_92_69 : xcode 92 69 = some (.iload_n 1, 1) := by decide +kernel
theorem d_92_70 : xcode 92 70 = some (.invokevirtual 246, 3) := by decide +kernel
theorem d_92_73 : xcode 92 73 = some (.ireturn, 1) := by decide +kernel
theorem d_92_74 : xcode 92 74 = some (.aload_n 0, 1) := by decide +kernel
theorem d_92_75 : xcode 92 75 = some (.getfield 65, 3) := by decide +kernel
theorem d_92_78 : xcode 92 78 = some (.iload_n 1, 1) := by decide +kernel
theorem d_92_79 : xcode 92 79 = some (.invokevirtual 249, 3) := by decide +kernel
theorem d_92_82 : xcode 92 82 = some (.ireturn, 1) := by decide +kernel
theorem d_92_83 : xcode 92 83 = some (.aload_n 0, 1) := by decide +kernel
theorem d_92_84 : xcode 92 84 = some (.iload_n 1, 1) := by decide +kernel
theorem d_92_85 : xcode 92 85 = some (.invokevirtual 252, 3) := by decide +kernel
theorem d_92_88 : xcode 92 88 = some (.ifCond .eq 7, 3) := by decide +kernel
theorem d_92_91 : xcode 92 91 = some (.iconst 1, 1) := by decide +kernel
theorem d_92_92 : xcode 92 92 = some (.goto 4, 3) := by decide +kernel
theorem d_92_95 : xcode 92 95 = some (.iconst 0, 1) := by decide +kernel
theorem d_92_96 : xcode 92 96 = some (.ireturn, 1) := by decide +kernel
theorem d_93_0 : xcode 93 0 = some (.aload_n 0, 1) := by decide +kernel
theorem d_93_1 : xcode 93 1 = some (.getfield 21, 3) := by decide +kernel
theorem d_93_4 : xcode 93 4 = some (.ireturn, 1) := by decide +kernel
theorem d_94_0 : xcode 94 0 = some (.aload_n 0, 1) := by decide +kernel
theorem d_94_1 : xcode 94 1 = some (.iload_n 1, 1) := by decide +kernel
theorem d_94_2 : xcode 94 2 = some (.invokevirtual 25, 3) := by decide +kernel
theorem d_94_5 : xcode 94 5 = some (.ifCond .eq 12, 3) := by decide +kernel
theorem d_94_8 : xcode 94 8 = some (.aload_n 0, 1) := by decide +kernel
theorem d_94_9 : xcode 94 9 = some (.getfield 11, 3) := by decide +kernel
theorem d_94_12 : xcode 94 12 = some (.iload_n 1, 1) := by decide +kernel
theorem d_94_13 : xcode 94 13 = some (.iaload, 1) := by decide +kernel
theorem d_94_14 : xcode 94 14 = some (.goto 4, 3) := by decide +kernel
theorem d_94_17 : xcode 94 17 = some (.iconst (-1), 1) := by decide +kernel
theorem d_94_18 : xcode 94 18 = some (.ireturn, 1) := by decide +kernel
theorem d_95_0 : xcode 95 0 = some (.aload_n 0, 1) := by decide +kernel
theorem d_95_1 : xcode 95 1 = some (.iload_n 1, 1) := by decide +kernel
theorem d_95_2 : xcode 95 2 = some (.invokevirtual 25, 3) := by decide +kernel
theorem d_95_5 : xcode 95 5 = some (.ifCond .eq 12, 3) := by decide +kernel
theorem d_95_8 : xcode 95 8 = some (.aload_n 0, 1) := by decide +kernel
theorem d_95_9 : xcode 95 9 = some (.getfield 15, 3) := by decide +kernel
theorem d_95_12 : xcode 95 12 = some (.iload_n 1, 1) := by decide +kernel
theorem d_95_13 : xcode 95 13 = some (.iaload, 1) := by decide +kernel
theorem d_95_14 : xcode 95 14 = some (.goto 4, 3) := by decide +kernel
theorem d_95_17 : xcode 95 17 = some (.iconst (-1), 1) := by decide +kernel
theorem d_95_18 : xcode 95 18 = some (.ireturn, 1) := by decide +kernel
theorem d_96_0 : xcode 96 0 = some (.aload_n 0, 1) := by decide +kernel
theorem d_96_1 : xcode 96 1 = some (.iload_n 1, 1) := by decide +kernel
theorem d_96_2 : xcode 96 2 = some (.invokevirtual 25, 3) := by decide +kernel
theorem d_96_5 : xcode 96 5 = some (.ifCond .eq 12, 3) := by decide +kernel
theorem d_96_8 : xcode 96 8 = some (.aload_n 0, 1) := by decide +kernel
theorem d_96_9 : xcode 96 9 = some (.getfield 18, 3) := by decide +kernel
theorem d_96_12 : xcode 96 12 = some (.iload_n 1, 1) := by decide +kernel
theorem d_96_13 : xcode 96 13 = some (.iaload, 1) := by decide +kernel
theorem d_96_14 : xcode 96 14 = some (.goto 4, 3) := by decide +kernel
theorem d_96_17 : xcode 96 17 = some (.iconst (-1), 1) := by decide +kernel
theorem d_96_18 : xcode 96 18 = some (.ireturn, 1) := by decide +kernel
theorem d_97_0 : xcode 97 0 = some (.aload_n 0, 1) := by decide +kernel
theorem d_97_1 : xcode 97 1 = some (.aload_n 0, 1) := by decide +kernel
theorem d_97_2 : xcode 97 2 = some (.getfield 65, 3) := by decide +kernel
theorem d_97_5 : xcode 97 5 = some (.iload_n 1, 1) := by decide +kernel
theorem d_97_6 : xcode 97 6 = some (.invokevirtual 242, 3) := by decide +kernel
theorem d_97_9 : xcode 97 9 = some (.aload_n 0, 1) := by decide +kernel
theorem d_97_10 : xcode 97 10 = some (.getfield 65, 3) := by decide +kernel
theorem d_97_13 : xcode 97 13 = some (.iload_n 1, 1) := by decide +kernel
theorem d_97_14 : xcode 97 14 = some (.invokevirtual 246, 3) := by decide +kernel
theorem d_97_17 : xcode 97 17 = some (.invokevirtual 225, 3) := by decide +kernel
theorem d_97_20 : xcode 97 20 = some (.aload_n 0, 1) := by decide +kernel
theorem d_97_21 : xcode 97 21 = some (.getfield 65, 3) := by decide +kernel
theorem d_97_24 : xcode 97 24 = some (.iload_n 1, 1) := by decide +kernel
theorem d_97_25 : xcode 97 25 = some (.invokevirtual 249, 3) := by decide +kernel
theorem d_97_28 : xcode 97 28 = some (.if_icmp .ne 7, 3) := by decide +kernel
theorem d_97_31 : xcode 97 31 = some (.iconst 1, 1) := by decide +kernel
theorem d_97_32 : xcode 97 32 = some (.goto 4, 3) := by decide +kernel
theorem d_97_35 : xcode 97 35 = some (.iconst 0, 1) := by decide +kernel
theorem d_97_36 : xcode 97 36 = some (.ireturn, 1) := by decide +kernel
theorem d_98_0 : xcode 98 0 = some (.iload_n 2, 1) := by decide +kernel
theorem d_98_1 : xcode 98 1 = some (.invokestatic 222, 3) := by decide +kernel
theorem d_98_4 : xcode 98 4 = some (.ifCond .eq 11, 3) := by decide +kernel
theorem d_98_7 : xcode 98 7 = some (.aload_n 0, 1) := by decide +kernel
theorem d_98_8 : xcode 98 8 = some (.iload_n 1, 1) := by decide +kernel
theorem d_98_9 : xcode 98 9 = some (.invokevirtual 163, 3) := by decide +kernel
theorem d_98_12 : xcode 98 12 = some (.ifCond .ne 6, 3) := by decide +kernel
theorem d_98_15 : xcode 98 15 = some (.bipush (-100), 2) := by decide +kernel
theorem d_98_17 : xcode 98 17 = some (.ireturn, 1) := by decide +kernel
theorem d_98_18 : xcode 98 18 = some (.aload_n 0, 1) := by decide +kernel
theorem d_98_19 : xcode 98 19 = some (.getfield 39, 3) := by decide +kernel
theorem d_98_22 : xcode 98 22 = some (.iload_n 1, 1) := by decide +kernel
theorem d_98_23 : xcode 98 23 = some (.invokevirtual 255, 3) := by decide +kernel
theorem d_98_26 : xcode 98 26 = some (.ifCond .ne 6, 3) := by decide +kernel
theorem d_98_29 : xcode 98 29 = some (.bipush 100, 2) := by decide +kernel
theorem d_98_31 : xcode 98 31 = some (.ireturn, 1) := by decide +kernel
theorem d_98_32 : xcode 98 32 = some (.aload_n 0, 1) := by decide +kernel
theorem d_98_33 : xcode 98 33 = some (.getfield 39, 3) := by decide +kernel
theorem d_98_36 : xcode 98 36 = some (.iload_n 1, 1) := by decide +kernel
theorem d_98_37 : xcode 98 37 = some (.aload_n 0, 1) := by decide +kernel
theorem d_98_38 : xcode 98 38 = some (.getfield 95, 3) := by decide +kernel
theorem d_98_41 : xcode 98 41 = some (.invokevirtual 168, 3) := by decide +kernel
theorem d_98_44 : xcode 98 44 = some (.aload_n 0, 1) := by decide +kernel
theorem d_98_45 : xcode 98 45 = some (.getfield 95, 3) := by decide +kernel
theorem d_98_48 : xcode 98 48 = some (.iload_n 2, 1) := by decide +kernel
theorem d_98_49 : xcode 98 49 = some (.invokevirtual 258, 3) := by decide +kernel
theorem d_98_52 : xcode 98 52 = some (.aload_n 0, 1) := by decide +kernel
theorem d_98_53 : xcode 98 53 = some (.getfield 95, 3) := by decide +kernel
theorem d_98_56 : xcode 98 56 = some (.iload_n 2, 1) := by decide +kernel
theorem d_98_57 : xcode 98 57 = some (.invokevirtual 261, 3) := by decide +kernel
theorem d_98_60 : xcode 98 60 = some (.isub, 1) := by decide +kernel
theorem d_98_61 : xcode 98 61 = some (.ireturn, 1) := by decide +kernel
theorem d_99_0 : xcode 99 0 = some (.iload_n 1, 1) := by decide +kernel
theorem d_99_1 : xcode 99 1 = some (.ifCond .lt 15, 3) := by decide +kernel
theorem d_99_4 : xcode 99 4 = some (.iload_n 1, 1) := by decide +kernel
theorem d_99_5 : xcode 99 5 = some (.aload_n 0, 1) := by decide +kernel
theorem d_99_6 : xcode 99 6 = some (.getfield 49, 3) := by decide +kernel
theorem d_99_9 : xcode 99 9 = some (.if_icmp .gt 7, 3) := by decide +kernel
theorem d_99_12 : xcode 99 12 = some (.iconst 1, 1) := by decide +kernel
theorem d_99_13 : xcode 99 13 = some (.goto 4, 3) := by decide +kernel
theorem d_99_16 : xcode 99 16 = some (.iconst 0, 1) := by decide +kernel
theorem d_99_17 : xcode 99 17 = some (.ireturn, 1) := by decide +kernel
theorem d_100_0 : xcode 100 0 = some (.aload_n 2, 1) := by decide +kernel
theorem d_100_1 : xcode 100 1 = some (.aload_n 0, 1) := by decide +kernel
theorem d_100_2 : xcode 100 2 = some (.iload_n 1, 1) := by decide +kernel
theorem d_100_3 : xcode 100 3 = some (.invokevirtual 38, 3) := by decide +kernel
theorem d_100_6 : xcode 100 6 = some (.aload_n 0, 1) := by decide +kernel
theorem d_100_7 : xcode 100 7 = some (.iload_n 1, 1) := by decide +kernel
theorem d_100_8 : xcode 100 8 = some (.invokevirtual 42, 3) := by decide +kernel
theorem d_100_11 : xcode 100 11 = some (.aload_n 0, 1) := by decide +kernel
theorem d_100_12 : xcode 100 12 = some (.iload_n 1, 1) := by decide +kernel
theorem d_100_13 : xcode 100 13 = some (.invokevirtual 55, 3) := by decide +kernel
theorem d_100_16 : xcode 100 16 = some (.invokevirtual 58, 3) := by decide +kernel
theorem d_100_19 : xcode 100 19 = some (.return_, 1) := by decide +kernel
theorem d_101_0 : xcode 101 0 = some (.iload_n 1, 1) := by decide +kernel
theorem d_101_1 : xcode 101 1 = some (.iconst 2, 1) := by decide +kernel
theorem d_101_2 : xcode 101 2 = some (.if_icmp .lt 21, 3) := by decide +kernel
theorem d_101_5 : xcode 101 5 = some (.aload_n 0, 1) := by decide +kernel
theorem d_101_6 : xcode 101 6 = some (.getfield 25, 3) := by decide +kernel
theorem d_101_9 : xcode 101 9 = some (.lconst 0, 1) := by decide +kernel
theorem d_101_10 : xcode 101 10 = some (.lcmp, 1) := by decide +kernel
theorem d_101_11 : xcode 101 11 = some (.ifCond .ne 14, 3) := by decide +kernel
theorem d_101_14 : xcode 101 14 = some (.aload_n 0, 1) := by decide +kernel
theorem d_101_15 : xcode 101 15 = some (.getfield 28, 3) := by decide +kernel
theorem d_101_18 : xcode 101 18 = some (.lconst 0, 1) := by decide +kernel
theorem d_101_19 : xcode 101 19 = some (.lcmp, 1) := by decide +kernel
theorem d_101_20 : xcode 101 20 = some (.ifCond .ne 5, 3) := by decide +kernel
theorem d_101_23 : xcode 101 23 = some (.iconst 0, 1) := by decide +kernel
theorem d_101_24 : xcode 101 24 = some (.ireturn, 1) := by decide +kernel
theorem d_101_25 : xcode 101 25 = some (.aload_n 0, 1) := by decide +kernel
theorem d_101_26 : xcode 101 26 = some (.getfield 25, 3) := by decide +kernel
theorem d_101_29 : xcode 101 29 = some (.lstore_n 2, 1) := by decide +kernel
theorem d_101_30 : xcode 101 30 = some (.aload_n 0, 1) := by decide +kernel
theorem d_101_31 : xcode 101 31 = some (.getfield 28, 3) := by decide +kernel
theorem d_101_34 : xcode 101 34 = some (.lstore 4, 2) := by decide +kernel
theorem d_101_36 : xcode 101 36 = some (.iconst 0, 1) := by decide +kernel
theorem d_101_37 : xcode 101 37 = some (.istore 6, 2) := by decide +kernel
theorem d_101_39 : xcode 101 39 = some (.iload 6, 2) := by decide +kernel
theorem d_101_41 : xcode 101 41 = some (.bipush 64, 2) := by decide +kernel
theorem d_101_43 : xcode 101 43 = some (.if_icmp .ge 52, 3) := by decide +kernel
theorem d_101_46 : xcode 101 46 = some (.lload_n 2, 1) := by decide +kernel
theorem d_101_47 : xcode 101 47 = some (.iload_n 1, 1) := by decide +kernel
theorem d_101_48 : xcode 101 48 = some (.i2l, 1) := by decide +kernel
theorem d_101_49 : xcode 101 49 = some (.invokestatic 13, 3) := by decide +kernel
theorem d_101_52 : xcode 101 52 = some (.aload_n 0, 1) := by decide +kernel
theorem d_101_53 : xcode 101 53 = some (.getfield 7, 3) := by decide +kernel
theorem d_101_56 : xcode 101 56 = some (.lmul, 1) := by decide +kernel
theorem d_101_57 : xcode 101 57 = some (.lload 4, 2) := by decide +kernel
theorem d_101_59 : xcode 101 59 = some (.ladd, 1) := by decide +kernel
theorem d_101_60 : xcode 101 60 = some (.lstore 7, 2) := by decide +kernel
theorem d_101_62 : xcode 101 62 = some (.lload 7, 2) := by decide +kernel
theorem d_101_64 : xcode 101 64 = some (.iload_n 1, 1) := by decide +kernel
theorem d_101_65 : xcode 101 65 = some (.i2l, 1) := by decide +kernel
theorem d_101_66 : xcode 101 66 = some (.lrem, 1) := by decide +kernel
theorem d_101_67 : xcode 101 67 = some (.lconst 0, 1) := by decide +kernel
theorem d_101_68 : xcode 101 68 = some (.lcmp, 1) := by decide +kernel
theorem d_101_69 : xcode 101 69 = some (.ifCond .eq 6, 3) := by decide +kernel
theorem d_101_72 : xcode 101 72 = some (.iload 6, 2) := by decide +kernel
theorem d_101_74 : xcode 101 74 = some (.ireturn, 1) := by decide +kernel
theorem d_101_75 : xcode 101 75 = some (.lload_n 2, 1) := by decide +kernel
theorem d_101_76 : xcode 101 76 = some (.iload_n 1, 1) := by decide +kernel
theorem d_101_77 : xcode 101 77 = some (.i2l, 1) := by decide +kernel
theorem d_101_78 : xcode 101 78 = some (.invokestatic 22, 3) := by decide +kernel
theorem d_101_81 : xcode 101 81 = some (.lstore_n 2, 1) := by decide +kernel
theorem d_101_82 : xcode 101 82 = some (.lload 7, 2) := by decide +kernel
theorem d_101_84 : xcode 101 84 = some (.iload_n 1, 1) := by decide +kernel
theorem d_101_85 : xcode 101 85 = some (.i2l, 1) := by decide +kernel
theorem d_101_86 : xcode 101 86 = some (.ldiv, 1) := by decide +kernel
theorem d_101_87 : xcode 101 87 = some (.lstore 4, 2) := by decide +kernel
theorem d_101_89 : xcode 101 89 = some (.iinc 6 1, 3) := by decide +kernel
theorem d_101_92 : xcode 101 92 = some (.goto (-53), 3) := by decide +kernel
theorem d_101_95 : xcode 101 95 = some (.bipush 64, 2) := by decide +kernel
theorem d_101_97 : xcode 101 97 = some (.ireturn, 1) := by decide +kernel
theorem d_102_0 : xcode 102 0 = some (.iload_n 1, 1) := by decide +kernel
theorem d_102_1 : xcode 102 1 = some (.iconst 2, 1) := by decide +kernel
theorem d_102_2 : xcode 102 2 = some (.if_icmp .ge 5, 3) := by decide +kernel
theorem d_102_5 : xcode 102 5 = some (.iconst 0, 1) := by decide +kernel
theorem d_102_6 : xcode 102 6 = some (.ireturn, 1) := by decide +kernel
theorem d_102_7 : xcode 102 7 = some (.aload_n 0, 1) := by decide +kernel
theorem d_102_8 : xcode 102 8 = some (.getfield 7, 3) := by decide +kernel
theorem d_102_11 : xcode 102 11 = some (.lstore_n 2, 1) := by decide +kernel
theorem d_102_12 : xcode 102 12 = some (.iconst 0, 1) := by decide +kernel
theorem d_102_13 : xcode 102 13 = some (.istore 4, 2) := by decide +kernel
theorem d_102_15 : xcode 102 15 = some (.iload 4, 2) := by decide +kernel
theorem d_102_17 : xcode 102 17 = some (.bipush 64, 2) := by decide +kernel
theorem d_102_19 : xcode 102 19 = some (.if_icmp .ge 26, 3) := by decide +kernel
theorem d_102_22 : xcode 102 22 = some (.lload_n 2, 1) := by decide +kernel
theorem d_102_23 : xcode 102 23 = some (.iload_n 1, 1) := by decide +kernel
theorem d_102_24 : xcode 102 24 = some (.i2l, 1) := by decide +kernel
theorem d_102_25 : xcode 102 25 = some (.lrem, 1) := by decide +kernel
theorem d_102_26 : xcode 102 26 = some (.lconst 0, 1) := by decide +kernel
theorem d_102_27 : xcode 102 27 = some (.lcmp, 1) := by decide +kernel
theorem d_102_28 : xcode 102 28 = some (.ifCond .eq 6, 3) := by decide +kernel
theorem d_102_31 : xcode 102 31 = some (.iload 4, 2) := by decide +kernel
theorem d_102_33 : xcode 102 33 = some (.ireturn, 1) := by decide +kernel
theorem d_102_34 : xcode 102 34 = some (.lload_n 2, 1) := by decide +kernel
theorem d_102_35 : xcode 102 35 = some (.iload_n 1, 1) := by decide +kernel
theorem d_102_36 : xcode 102 36 = some (.i2l, 1) := by decide +kernel
theorem d_102_37 : xcode 102 37 = some (.ldiv, 1) := by decide +kernel
theorem d_102_38 : xcode 102 38 = some (.lstore_n 2, 1) := by decide +kernel
theorem d_102_39 : xcode 102 39 = some (.iinc 4 1, 3) := by decide +kernel
theorem d_102_42 : xcode 102 42 = some (.goto (-27), 3) := by decide +kernel
theorem d_102_45 : xcode 102 45 = some (.bipush 64, 2) := by decide +kernel
theorem d_102_47 : xcode 102 47 = some (.ireturn, 1) := by decide +kernel
theorem d_103_0 : xcode 103 0 = some (.iload_n 1, 1) := by decide +kernel
theorem d_103_1 : xcode 103 1 = some (.invokestatic 222, 3) := by decide +kernel
theorem d_103_4 : xcode 103 4 = some (.ifCond .eq 17, 3) := by decide +kernel
theorem d_103_7 : xcode 103 7 = some (.iload_n 2, 1) := by decide +kernel
theorem d_103_8 : xcode 103 8 = some (.invokestatic 120, 3) := by decide +kernel
theorem d_103_11 : xcode 103 11 = some (.ifCond .eq 10, 3) := by decide +kernel
theorem d_103_14 : xcode 103 14 = some (.iload_n 3, 1) := by decide +kernel
theorem d_103_15 : xcode 103 15 = some (.invokestatic 120, 3) := by decide +kernel
theorem d_103_18 : xcode 103 18 = some (.ifCond .ne 5, 3) := by decide +kernel
theorem d_103_21 : xcode 103 21 = some (.iconst (-1), 1) := by decide +kernel
theorem d_103_22 : xcode 103 22 = some (.ireturn, 1) := by decide +kernel
theorem d_103_23 : xcode 103 23 = some (.iload_n 2, 1) := by decide +kernel
theorem d_103_24 : xcode 103 24 = some (.aload_n 0, 1) := by decide +kernel
theorem d_103_25 : xcode 103 25 = some (.getfield 49, 3) := by decide +kernel
theorem d_103_28 : xcode 103 28 = some (.if_icmp .gt 11, 3) := by decide +kernel
theorem d_103_31 : xcode 103 31 = some (.iload_n 3, 1) := by decide +kernel
theorem d_103_32 : xcode 103 32 = some (.aload_n 0, 1) := by decide +kernel
theorem d_103_33 : xcode 103 33 = some (.getfield 49, 3) := by decide +kernel
theorem d_103_36 : xcode 103 36 = some (.if_icmp .le 6, 3) := by decide +kernel
theorem d_103_39 : xcode 103 39 = some (.bipush (-2), 2) := by decide +kernel
theorem d_103_41 : xcode 103 41 = some (.ireturn, 1) := by decide +kernel
theorem d_103_42 : xcode 103 42 = some (.aload_n 0, 1) := by decide +kernel
theorem d_103_43 : xcode 103 43 = some (.getfield 58, 3) := by decide +kernel
theorem d_103_46 : xcode 103 46 = some (.iload_n 1, 1) := by decide +kernel
theorem d_103_47 : xcode 103 47 = some (.iload_n 2, 1) := by decide +kernel
theorem d_103_48 : xcode 103 48 = some (.iload_n 3, 1) := by decide +kernel
theorem d_103_49 : xcode 103 49 = some (.invokevirtual 264, 3) := by decide +kernel
theorem d_103_52 : xcode 103 52 = some (.ireturn, 1) := by decide +kernel
theorem d_104_0 : xcode 104 0 = some (.iload_n 1, 1) := by decide +kernel
theorem d_104_1 : xcode 104 1 = some (.invokestatic 222, 3) := by decide +kernel
theorem d_104_4 : xcode 104 4 = some (.ifCond .eq 17, 3) := by decide +kernel
theorem d_104_7 : xcode 104 7 = some (.iload_n 2, 1) := by decide +kernel
theorem d_104_8 : xcode 104 8 = some (.invokestatic 120, 3) := by decide +kernel
theorem d_104_11 : xcode 104 11 = some (.ifCond .eq 10, 3) := by decide +kernel
theorem d_104_14 : xcode 104 14 = some (.iload_n 3, 1) := by decide +kernel
theorem d_104_15 : xcode 104 15 = some (.invokestatic 120, 3) := by decide +kernel
theorem d_104_18 : xcode 104 18 = some (.ifCond .ne 5, 3) := by decide +kernel
theorem d_104_21 : xcode 104 21 = some (.iconst (-1), 1) := by decide +kernel
theorem d_104_22 : xcode 104 22 = some (.ireturn, 1) := by decide +kernel
theorem d_104_23 : xcode 104 23 = some (.iload_n 2, 1) := by decide +kernel
theorem d_104_24 : xcode 104 24 = some (.aload_n 0, 1) := by decide +kernel
theorem d_104_25 : xcode 104 25 = some (.getfield 49, 3) := by decide +kernel
theorem d_104_28 : xcode 104 28 = some (.if_icmp .gt 11, 3) := by decide +kernel
theorem d_104_31 : xcode 104 31 = some (.iload_n 3, 1) := by decide +kernel
theorem d_104_32 : xcode 104 32 = some (.aload_n 0, 1) := by decide +kernel
theorem d_104_33 : xcode 104 33 = some (.getfield 49, 3) := by decide +kernel
theorem d_104_36 : xcode 104 36 = some (.if_icmp .le 6, 3) := by decide +kernel
theorem d_104_39 : xcode 104 39 = some (.bipush (-2), 2) := by decide +kernel
theorem d_104_41 : xcode 104 41 = some (.ireturn, 1) := by decide +kernel
theorem d_104_42 : xcode 104 42 = some (.aload_n 0, 1) := by decide +kernel
theorem d_104_43 : xcode 104 43 = some (.getfield 58, 3) := by decide +kernel
theorem d_104_46 : xcode 104 46 = some (.iload_n 1, 1) := by decide +kernel
theorem d_104_47 : xcode 104 47 = some (.iload_n 2, 1) := by decide +kernel
theorem d_104_48 : xcode 104 48 = some (.iload_n 3, 1) := by decide +kernel
theorem d_104_49 : xcode 104 49 = some (.invokevirtual 268, 3) := by decide +kernel
theorem d_104_52 : xcode 104 52 = some (.ireturn, 1) := by decide +kernel
theorem d_105_0 : xcode 105 0 = some (.aload_n 0, 1) := by decide +kernel
theorem d_105_1 : xcode 105 1 = some (.iload_n 1, 1) := by decide +kernel
theorem d_105_2 : xcode 105 2 = some (.iload_n 2, 1) := by decide +kernel
theorem d_105_3 : xcode 105 3 = some (.invokevirtual 66, 3) := by decide +kernel
theorem d_105_6 : xcode 105 6 = some (.ifCond .eq 24, 3) := by decide +kernel
theorem d_105_9 : xcode 105 9 = some (.aload_n 0, 1) := by decide +kernel
theorem d_105_10 : xcode 105 10 = some (.iload_n 1, 1) := by decide +kernel
theorem d_105_11 : xcode 105 11 = some (.iload_n 3, 1) := by decide +kernel
theorem d_105_12 : xcode 105 12 = some (.invokevirtual 66, 3) := by decide +kernel
theorem d_105_15 : xcode 105 15 = some (.ifCond .eq 15, 3) := by decide +kernel
theorem d_105_18 : xcode 105 18 = some (.iload_n 2, 1) := by decide +kernel
theorem d_105_19 : xcode 105 19 = some (.iload_n 3, 1) := by decide +kernel
theorem d_105_20 : xcode 105 20 = some (.isub, 1) := by decide +kernel
theorem d_105_21 : xcode 105 21 = some (.iload_n 1, 1) := by decide +kernel
theorem d_105_22 : xcode 105 22 = some (.iload_n 1, 1) := by decide +kernel
theorem d_105_23 : xcode 105 23 = some (.iconst 1, 1) := by decide +kernel
theorem d_105_24 : xcode 105 24 = some (.isub, 1) := by decide +kernel
theorem d_105_25 : xcode 105 25 = some (.imul, 1) := by decide +kernel
theorem d_105_26 : xcode 105 26 = some (.irem, 1) := by decide +kernel
theorem d_105_27 : xcode 105 27 = some (.ifCond .eq 6, 3) := by decide +kernel
theorem d_105_30 : xcode 105 30 = some (.bipush (-3), 2) := by decide +kernel
theorem d_105_32 : xcode 105 32 = some (.ireturn, 1) := by decide +kernel
theorem d_105_33 : xcode 105 33 = some (.iload_n 1, 1) := by decide +kernel
theorem d_105_34 : xcode 105 34 = some (.i2l, 1) := by decide +kernel
theorem d_105_35 : xcode 105 35 = some (.iload_n 1, 1) := by decide +kernel
theorem d_105_36 : xcode 105 36 = some (.i2l, 1) := by decide +kernel
theorem d_105_37 : xcode 105 37 = some (.lmul, 1) := by decide +kernel
theorem d_105_38 : xcode 105 38 = some (.lstore 4, 2) := by decide +kernel
theorem d_105_40 : xcode 105 40 = some (.aload_n 0, 1) := by decide +kernel
theorem d_105_41 : xcode 105 41 = some (.iload_n 2, 1) := by decide +kernel
theorem d_105_42 : xcode 105 42 = some (.lload 4, 2) := by decide +kernel
theorem d_105_44 : xcode 105 44 = some (.invokevirtual 70, 3) := by decide +kernel
theorem d_105_47 : xcode 105 47 = some (.lconst 1, 1) := by decide +kernel
theorem d_105_48 : xcode 105 48 = some (.iload_n 1, 1) := by decide +kernel
theorem d_105_49 : xcode 105 49 = some (.i2l, 1) := by decide +kernel
theorem d_105_50 : xcode 105 50 = some (.iload_n 2, 1) := by decide +kernel
theorem d_105_51 : xcode 105 51 = some (.iconst 1, 1) := by decide +kernel
theorem d_105_52 : xcode 105 52 = some (.isub, 1) := by decide +kernel
theorem d_105_53 : xcode 105 53 = some (.lload 4, 2) := by decide +kernel
theorem d_105_55 : xcode 105 55 = some (.invokestatic 80, 3) := by decide +kernel
theorem d_105_58 : xcode 105 58 = some (.lsub, 1) := by decide +kernel
theorem d_105_59 : xcode 105 59 = some (.lmul, 1) := by decide +kernel
theorem d_105_60 : xcode 105 60 = some (.lstore 6, 2) := by decide +kernel
theorem d_105_62 : xcode 105 62 = some (.aload_n 0, 1) := by decide +kernel
theorem d_105_63 : xcode 105 63 = some (.iload_n 3, 1) := by decide +kernel
theorem d_105_64 : xcode 105 64 = some (.lload 4, 2) := by decide +kernel
theorem d_105_66 : xcode 105 66 = some (.invokevirtual 70, 3) := by decide +kernel
theorem d_105_69 : xcode 105 69 = some (.lconst 1, 1) := by decide +kernel
theorem d_105_70 : xcode 105 70 = some (.iload_n 1, 1) := by decide +kernel
theorem d_105_71 : xcode 105 71 = some (.i2l, 1) := by decide +kernel
theorem d_105_72 : xcode 105 72 = some (.iload_n 3, 1) := by decide +kernel
theorem d_105_73 : xcode 105 73 = some (.iconst 1, 1) := by decide +kernel
theorem d_105_74 : xcode 105 74 = some (.isub, 1) := by decide +kernel
theorem d_105_75 : xcode 105 75 = some (.lload 4, 2) := by decide +kernel
theorem d_105_77 : xcode 105 77 = some (.invokestatic 80, 3) := by decide +kernel
theorem d_105_80 : xcode 105 80 = some (.lsub, 1) := by decide +kernel
theorem d_105_81 : xcode 105 81 = some (.lmul, 1) := by decide +kernel
theorem d_105_82 : xcode 105 82 = some (.lstore 8, 2) := by decide +kernel
theorem d_105_84 : xcode 105 84 = some (.lload 6, 2) := by decide +kernel
theorem d_105_86 : xcode 105 86 = some (.lload 8, 2) := by decide +kernel
theorem d_105_88 : xcode 105 88 = some (.lsub, 1) := by decide +kernel
theorem d_105_89 : xcode 105 89 = some (.lload 4, 2) := by decide +kernel
theorem d_105_91 : xcode 105 91 = some (.invokestatic 74, 3) := by decide +kernel
theorem d_105_94 : xcode 105 94 = some (.l2i, 1) := by decide +kernel
theorem d_105_95 : xcode 105 95 = some (.ireturn, 1) := by decide +kernel
theorem d_106_0 : xcode 106 0 = some (.iload_n 1, 1) := by decide +kernel
theorem d_106_1 : xcode 106 1 = some (.invokestatic 120, 3) := by decide +kernel
theorem d_106_4 : xcode 106 4 = some (.ifCond .ne 5, 3) := by decide +kernel
theorem d_106_7 : xcode 106 7 = some (.iconst (-1), 1) := by decide +kernel
theorem d_106_8 : xcode 106 8 = some (.ireturn, 1) := by decide +kernel
theorem d_106_9 : xcode 106 9 = some (.iload_n 1, 1) := by decide +kernel
theorem d_106_10 : xcode 106 10 = some (.aload_n 0, 1) := by decide +kernel
theorem d_106_11 : xcode 106 11 = some (.getfield 49, 3) := by decide +kernel
theorem d_106_14 : xcode 106 14 = some (.if_icmp .le 8, 3) := by decide +kernel
theorem d_106_17 : xcode 106 17 = some (.bipush (-2), 2) := by decide +kernel
theorem d_106_19 : xcode 106 19 = some (.goto 13, 3) := by decide +kernel
theorem d_106_22 : xcode 106 22 = some (.aload_n 0, 1) := by decide +kernel
theorem d_106_23 : xcode 106 23 = some (.getfield 58, 3) := by decide +kernel
theorem d_106_26 : xcode 106 26 = some (.iload_n 1, 1) := by decide +kernel
theorem d_106_27 : xcode 106 27 = some (.bipush 63, 2) := by decide +kernel
theorem d_106_29 : xcode 106 29 = some (.invokevirtual 142, 3) := by decide +kernel
theorem d_106_32 : xcode 106 32 = some (.ireturn, 1) := by decide +kernel
theorem d_107_0 : xcode 107 0 = some (.iload_n 1, 1) := by decide +kernel
theorem d_107_1 : xcode 107 1 = some (.invokestatic 146, 3) := by decide +kernel
theorem d_107_4 : xcode 107 4 = some (.ifCond .eq 11, 3) := by decide +kernel
theorem d_107_7 : xcode 107 7 = some (.aload_n 0, 1) := by decide +kernel
theorem d_107_8 : xcode 107 8 = some (.iload_n 1, 1) := by decide +kernel
theorem d_107_9 : xcode 107 9 = some (.invokevirtual 149, 3) := by decide +kernel
theorem d_107_12 : xcode 107 12 = some (.goto 6, 3) := by decide +kernel
theorem d_107_15 : xcode 107 15 = some (.ldc2_w 166, 3) := by decide +kernel
theorem d_107_18 : xcode 107 18 = some (.lreturn, 1) := by decide +kernel
theorem d_108_0 : xcode 108 0 = some (.iload_n 1, 1) := by decide +kernel
theorem d_108_1 : xcode 108 1 = some (.ifCond .lt 8, 3) := by decide +kernel
theorem d_108_4 : xcode 108 4 = some (.iload_n 1, 1) := by decide +kernel
theorem d_108_5 : xcode 108 5 = some (.iconst 1, 1) := by decide +kernel
theorem d_108_6 : xcode 108 6 = some (.if_icmp .le 5, 3) := by decide +kernel
theorem d_108_9 : xcode 108 9 = some (.iconst (-1), 1) := by decide +kernel
theorem d_108_10 : xcode 108 10 = some (.ireturn, 1) := by decide +kernel
theorem d_108_11 : xcode 108 11 = some (.bipush (-2), 2) := by decide +kernel
theorem d_108_13 : xcode 108 13 = some (.istore_n 2, 1) := by decide +kernel
theorem d_108_14 : xcode 108 14 = some (.iconst 0, 1) := by decide +kernel
theorem d_108_15 : xcode 108 15 = some (.istore_n 3, 1) := by decide +kernel
theorem d_108_16 : xcode 108 16 = some (.iconst 1, 1) := by decide +kernel
theorem d_108_17 : xcode 108 17 = some (.istore 4, 2) := by decide +kernel
theorem d_108_19 : xcode 108 19 = some (.iload 4, 2) := by decide +kernel
theorem d_108_21 : xcode 108 21 = some (.aload_n 0, 1) := by decide +kernel
theorem d_108_22 : xcode 108 22 = some (.getfield 49, 3) := by decide +kernel
theorem d_108_25 : xcode 108 25 = some (.if_icmp .gt 35, 3) := by decide +kernel
theorem d_108_28 : xcode 108 28 = some (.aload_n 0, 1) := by decide +kernel
theorem d_108_29 : xcode 108 29 = some (.getfield 58, 3) := by decide +kernel
theorem d_108_32 : xcode 108 32 = some (.iload 4, 2) := by decide +kernel
theorem d_108_34 : xcode 108 34 = some (.iconst 4, 1) := by decide +kernel
theorem d_108_35 : xcode 108 35 = some (.invokevirtual 142, 3) := by decide +kernel
theorem d_108_38 : xcode 108 38 = some (.ifCond .ne 6, 3) := by decide +kernel
theorem d_108_41 : xcode 108 41 = some (.goto 13, 3) := by decide +kernel
theorem d_108_44 : xcode 108 44 = some (.iload_n 3, 1) := by decide +kernel
theorem d_108_45 : xcode 108 45 = some (.ifCond .ne 6, 3) := by decide +kernel
theorem d_108_48 : xcode 108 48 = some (.iload 4, 2) := by decide +kernel
theorem d_108_50 : xcode 108 50 = some (.istore_n 2, 1) := by decide +kernel
theorem d_108_51 : xcode 108 51 = some (.iinc 3 1, 3) := by decide +kernel
theorem d_108_54 : xcode 108 54 = some (.iinc 4 1, 3) := by decide +kernel
theorem d_108_57 : xcode 108 57 = some (.goto (-38), 3) := by decide +kernel
theorem d_108_60 : xcode 108 60 = some (.iload_n 1, 1) := by decide +kernel
theorem d_108_61 : xcode 108 61 = some (.ifCond .ne 7, 3) := by decide +kernel
theorem d_108_64 : xcode 108 64 = some (.iload_n 2, 1) := by decide +kernel
theorem d_108_65 : xcode 108 65 = some (.goto 4, 3) := by decide +kernel
theorem d_108_68 : xcode 108 68 = some (.iload_n 3, 1) := by decide +kernel
theorem d_108_69 : xcode 108 69 = some (.ireturn, 1) := by decide +kernel
theorem d_109_0 : xcode 109 0 = some (.iload_n 1, 1) := by decide +kernel
theorem d_109_1 : xcode 109 1 = some (.invokestatic 146, 3) := by decide +kernel
theorem d_109_4 : xcode 109 4 = some (.ifCond .ne 5, 3) := by decide +kernel
theorem d_109_7 : xcode 109 7 = some (.iconst (-1), 1) := by decide +kernel
theorem d_109_8 : xcode 109 8 = some (.ireturn, 1) := by decide +kernel
theorem d_109_9 : xcode 109 9 = some (.aload_n 0, 1) := by decide +kernel
theorem d_109_10 : xcode 109 10 = some (.iload_n 1, 1) := by decide +kernel
theorem d_109_11 : xcode 109 11 = some (.invokevirtual 271, 3) := by decide +kernel
theorem d_109_14 : xcode 109 14 = some (.istore_n 2, 1) := by decide +kernel
theorem d_109_15 : xcode 109 15 = some (.bipush (-2), 2) := by decide +kernel
theorem d_109_17 : xcode 109 17 = some (.istore_n 3, 1) := by decide +kernel
theorem d_109_18 : xcode 109 18 = some (.aload_n 0, 1) := by decide +kernel
theorem d_109_19 : xcode 109 19 = some (.getfield 42, 3) := by decide +kernel
theorem d_109_22 : xcode 109 22 = some (.aload_n 0, 1) := by decide +kernel
theorem d_109_23 : xcode 109 23 = some (.getfield 39, 3) := by decide +kernel
theorem d_109_26 : xcode 109 26 = some (.invokevirtual 274, 3) := by decide +kernel
theorem d_109_29 : xcode 109 29 = some (.iconst 0, 1) := by decide +kernel
theorem d_109_30 : xcode 109 30 = some (.istore 4, 2) := by decide +kernel
theorem d_109_32 : xcode 109 32 = some (.iload 4, 2) := by decide +kernel
theorem d_109_34 : xcode 109 34 = some (.aload_n 0, 1) := by decide +kernel
theorem d_109_35 : xcode 109 35 = some (.getfield 49, 3) := by decide +kernel
theorem d_109_38 : xcode 109 38 = some (.if_icmp .gt 77, 3) := by decide +kernel
theorem d_109_41 : xcode 109 41 = some (.iload_n 3, 1) := by decide +kernel
theorem d_109_42 : xcode 109 42 = some (.ifCond .ge 73, 3) := by decide +kernel
theorem d_109_45 : xcode 109 45 = some (.iload_n 2, 1) := by decide +kernel
theorem d_109_46 : xcode 109 46 = some (.istore 5, 2) := by decide +kernel
theorem d_109_48 : xcode 109 48 = some (.aload_n 0, 1) := by decide +kernel
theorem d_109_49 : xcode 109 49 = some (.iload 4, 2) := by decide +kernel
theorem d_109_51 : xcode 109 51 = some (.invokevirtual 174, 3) := by decide +kernel
theorem d_109_54 : xcode 109 54 = some (.ifCond .ne 47, 3) := by decide +kernel
theorem d_109_57 : xcode 109 57 = some (.aload_n 0, 1) := by decide +kernel
theorem d_109_58 : xcode 109 58 = some (.getfield 35, 3) := by decide +kernel
theorem d_109_61 : xcode 109 61 = some (.iload 4, 2) := by decide +kernel
theorem d_109_63 : xcode 109 63 = some (.aload_n 0, 1) := by decide +kernel
theorem d_109_64 : xcode 109 64 = some (.getfield 95, 3) := by decide +kernel
theorem d_109_67 : xcode 109 67 = some (.invokevirtual 168, 3) := by decide +kernel
theorem d_109_70 : xcode 109 70 = some (.aload_n 0, 1) := by decide +kernel
theorem d_109_71 : xcode 109 71 = some (.getfield 39, 3) := by decide +kernel
theorem d_109_74 : xcode 109 74 = some (.iload 4, 2) := by decide +kernel
theorem d_109_76 : xcode 109 76 = some (.aload_n 0, 1) := by decide +kernel
theorem d_109_77 : xcode 109 77 = some (.getfield 95, 3) := by decide +kernel
theorem d_109_80 : xcode 109 80 = some (.invokevirtual 114, 3) := by decide +kernel
theorem d_109_83 : xcode 109 83 = some (.aload_n 0, 1) := by decide +kernel
theorem d_109_84 : xcode 109 84 = some (.iload_n 1, 1) := by decide +kernel
theorem d_109_85 : xcode 109 85 = some (.invokevirtual 271, 3) := by decide +kernel
theorem d_109_88 : xcode 109 88 = some (.istore 5, 2) := by decide +kernel
end
section
/-! rows of the tables that the segments use, laid by wip/whole/wp.py -/
theorem x_out3 {x : Int32} (h0 : ¬ x = 0) (h1 : ¬ x = 1) (h2 : ¬ x = 2) : x.toInt < 0 ∨ 2 < x.toInt := by
  have e0 : ¬ x.toInt = 0 := fun q => h0 (Int32.toInt_inj.mp q)
  have e1 : ¬ x.toInt = 1 := fun q => h1 (Int32.toInt_inj.mp q)
  have e2 : ¬ x.toInt = 2 := fun q => h2 (Int32.toInt_inj.mp q)
  omega
theorem x_out4 {x : Int32} (h0 : ¬ x = 0) (h1 : ¬ x = 1) (h2 : ¬ x = 2) (h3 : ¬ x = 3) : x.toInt < 0 ∨ 3 < x.toInt := by
  have e0 : ¬ x.toInt = 0 := fun q => h0 (Int32.toInt_inj.mp q)
  have e1 : ¬ x.toInt = 1 := fun q => h1 (Int32.toInt_inj.mp q)
  have e2 : ¬ x.toInt = 2 := fun q => h2 (Int32.toInt_inj.mp q)
  have e3 : ¬ x.toInt = 3 := fun q => h3 (Int32.toInt_inj.mp q)
  omega
theorem cL_10 : Int64.ofInt (10) = 10 := by decide
theorem cL_1000000000 : Int64.ofInt (1000000000) = 1000000000 := by decide
theorem cL_1000000005 : Int64.ofInt (1000000005) = 1000000005 := by decide
theorem cL_1000000007 : Int64.ofInt (1000000007) = 1000000007 := by decide
theorem cL_1103515245 : Int64.ofInt (1103515245) = 1103515245 := by decide
theorem cL_12345 : Int64.ofInt (12345) = 12345 := by decide
theorem cL_2 : Int64.ofInt (2) = 2 := by decide
theorem cL_2147483647 : Int64.ofInt (2147483647) = 2147483647 := by decide
theorem cL_223092870 : Int64.ofInt (223092870) = 223092870 := by decide
theorem cL_2310 : Int64.ofInt (2310) = 2310 := by decide
theorem cL_232792560 : Int64.ofInt (232792560) = 232792560 := by decide
theorem cL_3 : Int64.ofInt (3) = 3 := by decide
theorem cL_30 : Int64.ofInt (30) = 30 := by decide
theorem cL_30030 : Int64.ofInt (30030) = 30030 := by decide
theorem cL_5342931457063200 : Int64.ofInt (5342931457063200) = 5342931457063200 := by decide
theorem cL_6 : Int64.ofInt (6) = 6 := by decide
theorem cL_65536 : Int64.ofInt (65536) = 65536 := by decide
theorem cL_7420738134810 : Int64.ofInt (7420738134810) = 7420738134810 := by decide
theorem cL_9 : Int64.ofInt (9) = 9 := by decide
theorem cL_9223372036854775807 : Int64.ofInt (9223372036854775807) = 9223372036854775807 := by decide
theorem cL_m1 : Int64.ofInt (-1) = -1 := by decide
theorem cL_m2 : Int64.ofInt (-2) = -2 := by decide
theorem cL_m3 : Int64.ofInt (-3) = -3 := by decide
theorem cL_m9223372036854775808 : Int64.ofInt (-9223372036854775808) = -9223372036854775808 := by decide
theorem cb_10 : (Int8.ofInt (10)).toInt32 = 10 := by decide
theorem cb_100 : (Int8.ofInt (100)).toInt32 = 100 := by decide
theorem cb_11 : (Int8.ofInt (11)).toInt32 = 11 := by decide
theorem cb_117 : (Int8.ofInt (117)).toInt32 = 117 := by decide
theorem cb_12 : (Int8.ofInt (12)).toInt32 = 12 := by decide
theorem cb_15 : (Int8.ofInt (15)).toInt32 = 15 := by decide
theorem cb_16 : (Int8.ofInt (16)).toInt32 = 16 := by decide
theorem cb_19 : (Int8.ofInt (19)).toInt32 = 19 := by decide
theorem cb_20 : (Int8.ofInt (20)).toInt32 = 20 := by decide
theorem cb_21 : (Int8.ofInt (21)).toInt32 = 21 := by decide
theorem cb_22 : (Int8.ofInt (22)).toInt32 = 22 := by decide
theorem cb_23 : (Int8.ofInt (23)).toInt32 = 23 := by decide
theorem cb_24 : (Int8.ofInt (24)).toInt32 = 24 := by decide
theorem cb_26 : (Int8.ofInt (26)).toInt32 = 26 := by decide
theorem cb_27 : (Int8.ofInt (27)).toInt32 = 27 := by decide
theorem cb_28 : (Int8.ofInt (28)).toInt32 = 28 := by decide
theorem cb_30 : (Int8.ofInt (30)).toInt32 = 30 := by decide
theorem cb_31 : (Int8.ofInt (31)).toInt32 = 31 := by decide
theorem cb_32 : (Int8.ofInt (32)).toInt32 = 32 := by decide
theorem cb_37 : (Int8.ofInt (37)).toInt32 = 37 := by decide
theorem cb_38 : (Int8.ofInt (38)).toInt32 = 38 := by decide
theorem cb_39 : (Int8.ofInt (39)).toInt32 = 39 := by decide
theorem cb_40 : (Int8.ofInt (40)).toInt32 = 40 := by decide
theorem cb_42 : (Int8.ofInt (42)).toInt32 = 42 := by decide
theorem cb_46 : (Int8.ofInt (46)).toInt32 = 46 := by decide
theorem cb_6 : (Int8.ofInt (6)).toInt32 = 6 := by decide
theorem cb_60 : (Int8.ofInt (60)).toInt32 = 60 := by decide
theorem cb_63 : (Int8.ofInt (63)).toInt32 = 63 := by decide
theorem cb_64 : (Int8.ofInt (64)).toInt32 = 64 := by decide
theorem cb_7 : (Int8.ofInt (7)).toInt32 = 7 := by decide
theorem cb_8 : (Int8.ofInt (8)).toInt32 = 8 := by decide
theorem cb_9 : (Int8.ofInt (9)).toInt32 = 9 := by decide
theorem cb_m100 : (Int8.ofInt (-100)).toInt32 = -100 := by decide
theorem cb_m15 : (Int8.ofInt (-15)).toInt32 = -15 := by decide
theorem cb_m2 : (Int8.ofInt (-2)).toInt32 = -2 := by decide
theorem cb_m3 : (Int8.ofInt (-3)).toInt32 = -3 := by decide
theorem cb_m9 : (Int8.ofInt (-9)).toInt32 = -9 := by decide
theorem ci_0 : Int32.ofInt (0) = 0 := by decide
theorem ci_1 : Int32.ofInt (1) = 1 := by decide
theorem ci_1000000 : Int32.ofInt (1000000) = 1000000 := by decide
theorem ci_1000000000 : Int32.ofInt (1000000000) = 1000000000 := by decide
theorem ci_2 : Int32.ofInt (2) = 2 := by decide
theorem ci_3 : Int32.ofInt (3) = 3 := by decide
theorem ci_4 : Int32.ofInt (4) = 4 := by decide
theorem ci_5 : Int32.ofInt (5) = 5 := by decide
theorem ci_m1 : Int32.ofInt (-1) = -1 := by decide
theorem ci_m6 : Int32.ofInt (-6) = -6 := by decide
theorem cl_0 : Int64.ofNat ((0 : Fin 2) : Nat) = 0 := by decide
theorem cl_1 : Int64.ofNat ((1 : Fin 2) : Nat) = 1 := by decide
theorem cs_1000 : (Int16.ofInt (1000)).toInt32 = 1000 := by decide
theorem cs_1680 : (Int16.ofInt (1680)).toInt32 = 1680 := by decide
theorem cs_1764 : (Int16.ofInt (1764)).toInt32 = 1764 := by decide
theorem cs_199 : (Int16.ofInt (199)).toInt32 = 199 := by decide
theorem cs_200 : (Int16.ofInt (200)).toInt32 = 200 := by decide
theorem cs_252 : (Int16.ofInt (252)).toInt32 = 252 := by decide
theorem ff_0_0 : (xfs.getD 0 [])[0]? = some ("BernoulliWays", "choose", "LBernoulliWays$Choose;", true) := by rfl
theorem ff_0_1 : (xfs.getD 0 [])[1]? = some ("BernoulliWays", "total", "LBernoulliWays$Total;", true) := by rfl
theorem ff_0_10 : (xfs.getD 0 [])[10]? = some ("BernoulliWays", "alone", "LBernoulliWays$ByWays;", true) := by rfl
theorem ff_0_11 : (xfs.getD 0 [])[11]? = some ("BernoulliWays", "pairs", "LBernoulliWays$Pairs;", true) := by rfl
theorem ff_0_12 : (xfs.getD 0 [])[12]? = some ("BernoulliWays", "decimal", "LBernoulliWays$Decimal;", true) := by rfl
theorem ff_0_13 : (xfs.getD 0 [])[13]? = some ("BernoulliWays", "worked", "LBernoulliWays$Fraction;", true) := by rfl
theorem ff_0_14 : (xfs.getD 0 [])[14]? = some ("BernoulliWays", "row", "[J", true) := by rfl
theorem ff_0_15 : (xfs.getD 0 [])[15]? = some ("BernoulliWays", "otherRow", "[J", true) := by rfl
theorem ff_0_2 : (xfs.getD 0 [])[2]? = some ("BernoulliWays", "triangle", "LBernoulliWays$Triangle;", true) := by rfl
theorem ff_0_3 : (xfs.getD 0 [])[3]? = some ("BernoulliWays", "rightOnes", "LBernoulliWays$Entries;", true) := by rfl
theorem ff_0_4 : (xfs.getD 0 [])[4]? = some ("BernoulliWays", "now", "LBernoulliWays$Entries;", true) := by rfl
theorem ff_0_5 : (xfs.getD 0 [])[5]? = some ("BernoulliWays", "kept", "LBernoulliWays$Entries;", true) := by rfl
theorem ff_0_6 : (xfs.getD 0 [])[6]? = some ("BernoulliWays", "ways", "[I", true) := by rfl
theorem ff_0_7 : (xfs.getD 0 [])[7]? = some ("BernoulliWays", "top", "I", false) := by rfl
theorem ff_0_8 : (xfs.getD 0 [])[8]? = some ("BernoulliWays", "checks", "LBernoulliWays$Checks;", true) := by rfl
theorem ff_0_9 : (xfs.getD 0 [])[9]? = some ("BernoulliWays", "memory", "LBernoulliWays$Memo;", true) := by rfl
theorem ff_10_0 : (xfs.getD 10 [])[0]? = some ("BernoulliWays$Decimal", "limbs", "[J", true) := by rfl
theorem ff_10_1 : (xfs.getD 10 [])[1]? = some ("BernoulliWays$Decimal", "size", "I", false) := by rfl
theorem ff_12_0 : (xfs.getD 12 [])[0]? = some ("BernoulliWaysModel", "thrown", "I", false) := by rfl
theorem ff_12_1 : (xfs.getD 12 [])[1]? = some ("BernoulliWaysModel", "right", "[J", true) := by rfl
theorem ff_12_10 : (xfs.getD 12 [])[10]? = some ("BernoulliWaysModel", "rowWhole", "[J", true) := by rfl
theorem ff_12_11 : (xfs.getD 12 [])[11]? = some ("BernoulliWaysModel", "rowRest", "[J", true) := by rfl
theorem ff_12_12 : (xfs.getD 12 [])[12]? = some ("BernoulliWaysModel", "memo", "[I", true) := by rfl
theorem ff_12_13 : (xfs.getD 12 [])[13]? = some ("BernoulliWaysModel", "memoMany", "I", false) := by rfl
theorem ff_12_14 : (xfs.getD 12 [])[14]? = some ("BernoulliWaysModel", "drawn", "J", false) := by rfl
theorem ff_12_15 : (xfs.getD 12 [])[15]? = some ("BernoulliWaysModel", "aside", "[J", true) := by rfl
theorem ff_12_16 : (xfs.getD 12 [])[16]? = some ("BernoulliWaysModel", "rests", "[I", true) := by rfl
theorem ff_12_17 : (xfs.getD 12 [])[17]? = some ("BernoulliWaysModel", "chooseRests", "[I", true) := by rfl
theorem ff_12_18 : (xfs.getD 12 [])[18]? = some ("BernoulliWaysModel", "byWay", "[I", true) := by rfl
theorem ff_12_19 : (xfs.getD 12 [])[19]? = some ("BernoulliWaysModel", "rowOf", "[I", true) := by rfl
theorem ff_12_2 : (xfs.getD 12 [])[2]? = some ("BernoulliWaysModel", "table", "[J", true) := by rfl
theorem ff_12_20 : (xfs.getD 12 [])[20]? = some ("BernoulliWaysModel", "thirty", "[I", true) := by rfl
theorem ff_12_21 : (xfs.getD 12 [])[21]? = some ("BernoulliWaysModel", "above", "[J", true) := by rfl
theorem ff_12_22 : (xfs.getD 12 [])[22]? = some ("BernoulliWaysModel", "below", "[J", true) := by rfl
theorem ff_12_23 : (xfs.getD 12 [])[23]? = some ("BernoulliWaysModel", "full", "[J", true) := by rfl
theorem ff_12_24 : (xfs.getD 12 [])[24]? = some ("BernoulliWaysModel", "row1", "[J", true) := by rfl
theorem ff_12_25 : (xfs.getD 12 [])[25]? = some ("BernoulliWaysModel", "kinds", "[J", true) := by rfl
theorem ff_12_26 : (xfs.getD 12 [])[26]? = some ("BernoulliWaysModel", "quote", "[J", true) := by rfl
theorem ff_12_27 : (xfs.getD 12 [])[27]? = some ("BernoulliWaysModel", "inAbove", "[J", true) := by rfl
theorem ff_12_28 : (xfs.getD 12 [])[28]? = some ("BernoulliWaysModel", "inBelow", "[J", true) := by rfl
theorem ff_12_29 : (xfs.getD 12 [])[29]? = some ("BernoulliWaysModel", "spare", "[J", true) := by rfl
theorem ff_12_3 : (xfs.getD 12 [])[3]? = some ("BernoulliWaysModel", "ways", "[I", true) := by rfl
theorem ff_12_30 : (xfs.getD 12 [])[30]? = some ("BernoulliWaysModel", "polyRests", "[I", true) := by rfl
theorem ff_12_31 : (xfs.getD 12 [])[31]? = some ("BernoulliWaysModel", "boxes", "[J", true) := by rfl
theorem ff_12_32 : (xfs.getD 12 [])[32]? = some ("BernoulliWaysModel", "zig", "[J", true) := by rfl
theorem ff_12_33 : (xfs.getD 12 [])[33]? = some ("BernoulliWaysModel", "zag", "[J", true) := by rfl
theorem ff_12_4 : (xfs.getD 12 [])[4]? = some ("BernoulliWaysModel", "top", "I", false) := by rfl
theorem ff_12_5 : (xfs.getD 12 [])[5]? = some ("BernoulliWaysModel", "choose", "[J", true) := by rfl
theorem ff_12_6 : (xfs.getD 12 [])[6]? = some ("BernoulliWaysModel", "primes", "[I", true) := by rfl
theorem ff_12_7 : (xfs.getD 12 [])[7]? = some ("BernoulliWaysModel", "primeMany", "I", false) := by rfl
theorem ff_12_8 : (xfs.getD 12 [])[8]? = some ("BernoulliWaysModel", "sumWhole", "J", false) := by rfl
theorem ff_12_9 : (xfs.getD 12 [])[9]? = some ("BernoulliWaysModel", "sumRest", "J", false) := by rfl
theorem ff_1_0 : (xfs.getD 1 [])[0]? = some ("BernoulliWays$Choose", "cells", "[J", true) := by rfl
theorem ff_2_0 : (xfs.getD 2 [])[0]? = some ("BernoulliWays$Total", "under", "J", false) := by rfl
theorem ff_2_1 : (xfs.getD 2 [])[1]? = some ("BernoulliWays$Total", "whole", "J", false) := by rfl
theorem ff_2_2 : (xfs.getD 2 [])[2]? = some ("BernoulliWays$Total", "part", "J", false) := by rfl
theorem ff_3_0 : (xfs.getD 3 [])[0]? = some ("BernoulliWays$Triangle", "wholes", "[J", true) := by rfl
theorem ff_3_1 : (xfs.getD 3 [])[1]? = some ("BernoulliWays$Triangle", "parts", "[J", true) := by rfl
theorem ff_3_2 : (xfs.getD 3 [])[2]? = some ("BernoulliWays$Triangle", "last", "I", false) := by rfl
theorem ff_4_0 : (xfs.getD 4 [])[0]? = some ("BernoulliWays$Entries", "wholes", "[J", true) := by rfl
theorem ff_4_1 : (xfs.getD 4 [])[1]? = some ("BernoulliWays$Entries", "aboves", "[J", true) := by rfl
theorem ff_4_2 : (xfs.getD 4 [])[2]? = some ("BernoulliWays$Entries", "belows", "[J", true) := by rfl
theorem ff_4_3 : (xfs.getD 4 [])[3]? = some ("BernoulliWays$Entries", "spare", "LBernoulliWays$Fraction;", true) := by rfl
theorem ff_5_0 : (xfs.getD 5 [])[0]? = some ("BernoulliWays$Fraction", "whole", "J", false) := by rfl
theorem ff_5_1 : (xfs.getD 5 [])[1]? = some ("BernoulliWays$Fraction", "above", "J", false) := by rfl
theorem ff_5_2 : (xfs.getD 5 [])[2]? = some ("BernoulliWays$Fraction", "below", "J", false) := by rfl
theorem ff_6_0 : (xfs.getD 6 [])[0]? = some ("BernoulliWays$Checks", "entries", "LBernoulliWays$Entries;", true) := by rfl
theorem ff_6_1 : (xfs.getD 6 [])[1]? = some ("BernoulliWays$Checks", "choose", "LBernoulliWays$Choose;", true) := by rfl
theorem ff_6_2 : (xfs.getD 6 [])[2]? = some ("BernoulliWays$Checks", "total", "LBernoulliWays$Total;", true) := by rfl
theorem ff_7_0 : (xfs.getD 7 [])[0]? = some ("BernoulliWays$Memo", "numbers", "[I", true) := by rfl
theorem ff_7_1 : (xfs.getD 7 [])[1]? = some ("BernoulliWays$Memo", "primes", "[I", true) := by rfl
theorem ff_7_2 : (xfs.getD 7 [])[2]? = some ("BernoulliWays$Memo", "answers", "[I", true) := by rfl
theorem ff_7_3 : (xfs.getD 7 [])[3]? = some ("BernoulliWays$Memo", "size", "I", false) := by rfl
theorem ff_8_0 : (xfs.getD 8 [])[0]? = some ("BernoulliWays$ByWays", "found", "[J", true) := by rfl
theorem ff_8_1 : (xfs.getD 8 [])[1]? = some ("BernoulliWays$ByWays", "cells", "[J", true) := by rfl
theorem ff_8_2 : (xfs.getD 8 [])[2]? = some ("BernoulliWays$ByWays", "filledPrime", "I", false) := by rfl
theorem ff_8_3 : (xfs.getD 8 [])[3]? = some ("BernoulliWays$ByWays", "filledWay", "I", false) := by rfl
theorem ff_9_0 : (xfs.getD 9 [])[0]? = some ("BernoulliWays$Pairs", "byWays", "LBernoulliWays$ByWays;", true) := by rfl
theorem ff_9_1 : (xfs.getD 9 [])[1]? = some ("BernoulliWays$Pairs", "primes", "[I", true) := by rfl
theorem ff_9_2 : (xfs.getD 9 [])[2]? = some ("BernoulliWays$Pairs", "evens", "[I", true) := by rfl
theorem ff_9_3 : (xfs.getD 9 [])[3]? = some ("BernoulliWays$Pairs", "size", "I", false) := by rfl
theorem ff_9_4 : (xfs.getD 9 [])[4]? = some ("BernoulliWays$Pairs", "searched", "I", false) := by rfl
theorem fr_0 : Nat.ble 1 (xfr 0) = true := by decide +kernel
theorem fr_1 : Nat.ble 1 (xfr 1) = true := by decide +kernel
theorem fr_10 : Nat.ble 1 (xfr 10) = true := by decide +kernel
theorem fr_11 : Nat.ble 1 (xfr 11) = true := by decide +kernel
theorem fr_111 : Nat.ble 1 (xfr 111) = true := by decide +kernel
theorem fr_180 : Nat.ble 1 (xfr 180) = true := by decide +kernel
theorem fr_188 : Nat.ble 1 (xfr 188) = true := by decide +kernel
theorem fr_2 : Nat.ble 1 (xfr 2) = true := by decide +kernel
theorem fr_3 : Nat.ble 1 (xfr 3) = true := by decide +kernel
theorem fr_4 : Nat.ble 1 (xfr 4) = true := by decide +kernel
theorem fr_5 : Nat.ble 1 (xfr 5) = true := by decide +kernel
theorem fr_7 : Nat.ble 1 (xfr 7) = true := by decide +kernel
theorem fr_8 : Nat.ble 1 (xfr 8) = true := by decide +kernel
theorem fr_88 : Nat.ble 1 (xfr 88) = true := by decide +kernel
theorem fr_9 : Nat.ble 1 (xfr 9) = true := by decide +kernel
theorem ft_0_0 : (xts.getD 0 [])[0]? = some (.object "BernoulliWays$Choose") := by rfl
theorem ft_0_1 : (xts.getD 0 [])[1]? = some (.object "BernoulliWays$Total") := by rfl
theorem ft_0_10 : (xts.getD 0 [])[10]? = some (.object "BernoulliWays$ByWays") := by rfl
theorem ft_0_11 : (xts.getD 0 [])[11]? = some (.object "BernoulliWays$Pairs") := by rfl
theorem ft_0_12 : (xts.getD 0 [])[12]? = some (.object "BernoulliWays$Decimal") := by rfl
theorem ft_0_13 : (xts.getD 0 [])[13]? = some (.object "BernoulliWays$Fraction") := by rfl
theorem ft_0_14 : (xts.getD 0 [])[14]? = some (.array .long) := by rfl
theorem ft_0_15 : (xts.getD 0 [])[15]? = some (.array .long) := by rfl
theorem ft_0_2 : (xts.getD 0 [])[2]? = some (.object "BernoulliWays$Triangle") := by rfl
theorem ft_0_3 : (xts.getD 0 [])[3]? = some (.object "BernoulliWays$Entries") := by rfl
theorem ft_0_4 : (xts.getD 0 [])[4]? = some (.object "BernoulliWays$Entries") := by rfl
theorem ft_0_5 : (xts.getD 0 [])[5]? = some (.object "BernoulliWays$Entries") := by rfl
theorem ft_0_6 : (xts.getD 0 [])[6]? = some (.array .int) := by rfl
theorem ft_0_7 : (xts.getD 0 [])[7]? = some (.int) := by rfl
theorem ft_0_8 : (xts.getD 0 [])[8]? = some (.object "BernoulliWays$Checks") := by rfl
theorem ft_0_9 : (xts.getD 0 [])[9]? = some (.object "BernoulliWays$Memo") := by rfl
theorem ft_10_0 : (xts.getD 10 [])[0]? = some (.array .long) := by rfl
theorem ft_10_1 : (xts.getD 10 [])[1]? = some (.int) := by rfl
theorem ft_12_0 : (xts.getD 12 [])[0]? = some (.int) := by rfl
theorem ft_12_1 : (xts.getD 12 [])[1]? = some (.array .long) := by rfl
theorem ft_12_10 : (xts.getD 12 [])[10]? = some (.array .long) := by rfl
theorem ft_12_11 : (xts.getD 12 [])[11]? = some (.array .long) := by rfl
theorem ft_12_12 : (xts.getD 12 [])[12]? = some (.array .int) := by rfl
theorem ft_12_13 : (xts.getD 12 [])[13]? = some (.int) := by rfl
theorem ft_12_14 : (xts.getD 12 [])[14]? = some (.long) := by rfl
theorem ft_12_15 : (xts.getD 12 [])[15]? = some (.array .long) := by rfl
theorem ft_12_16 : (xts.getD 12 [])[16]? = some (.array .int) := by rfl
theorem ft_12_17 : (xts.getD 12 [])[17]? = some (.array .int) := by rfl
theorem ft_12_18 : (xts.getD 12 [])[18]? = some (.array .int) := by rfl
theorem ft_12_19 : (xts.getD 12 [])[19]? = some (.array .int) := by rfl
theorem ft_12_2 : (xts.getD 12 [])[2]? = some (.array .long) := by rfl
theorem ft_12_20 : (xts.getD 12 [])[20]? = some (.array .int) := by rfl
theorem ft_12_21 : (xts.getD 12 [])[21]? = some (.array .long) := by rfl
theorem ft_12_22 : (xts.getD 12 [])[22]? = some (.array .long) := by rfl
theorem ft_12_23 : (xts.getD 12 [])[23]? = some (.array .long) := by rfl
theorem ft_12_24 : (xts.getD 12 [])[24]? = some (.array .long) := by rfl
theorem ft_12_25 : (xts.getD 12 [])[25]? = some (.array .long) := by rfl
theorem ft_12_26 : (xts.getD 12 [])[26]? = some (.array .long) := by rfl
theorem ft_12_27 : (xts.getD 12 [])[27]? = some (.array .long) := by rfl
theorem ft_12_28 : (xts.getD 12 [])[28]? = some (.array .long) := by rfl
theorem ft_12_29 : (xts.getD 12 [])[29]? = some (.array .long) := by rfl
theorem ft_12_3 : (xts.getD 12 [])[3]? = some (.array .int) := by rfl
theorem ft_12_30 : (xts.getD 12 [])[30]? = some (.array .int) := by rfl
theorem ft_12_31 : (xts.getD 12 [])[31]? = some (.array .long) := by rfl
theorem ft_12_32 : (xts.getD 12 [])[32]? = some (.array .long) := by rfl
theorem ft_12_33 : (xts.getD 12 [])[33]? = some (.array .long) := by rfl
theorem ft_12_4 : (xts.getD 12 [])[4]? = some (.int) := by rfl
theorem ft_12_5 : (xts.getD 12 [])[5]? = some (.array .long) := by rfl
theorem ft_12_6 : (xts.getD 12 [])[6]? = some (.array .int) := by rfl
theorem ft_12_7 : (xts.getD 12 [])[7]? = some (.int) := by rfl
theorem ft_12_8 : (xts.getD 12 [])[8]? = some (.long) := by rfl
theorem ft_12_9 : (xts.getD 12 [])[9]? = some (.long) := by rfl
theorem ft_1_0 : (xts.getD 1 [])[0]? = some (.array .long) := by rfl
theorem ft_2_0 : (xts.getD 2 [])[0]? = some (.long) := by rfl
theorem ft_2_1 : (xts.getD 2 [])[1]? = some (.long) := by rfl
theorem ft_2_2 : (xts.getD 2 [])[2]? = some (.long) := by rfl
theorem ft_3_0 : (xts.getD 3 [])[0]? = some (.array .long) := by rfl
theorem ft_3_1 : (xts.getD 3 [])[1]? = some (.array .long) := by rfl
theorem ft_3_2 : (xts.getD 3 [])[2]? = some (.int) := by rfl
theorem ft_4_0 : (xts.getD 4 [])[0]? = some (.array .long) := by rfl
theorem ft_4_1 : (xts.getD 4 [])[1]? = some (.array .long) := by rfl
theorem ft_4_2 : (xts.getD 4 [])[2]? = some (.array .long) := by rfl
theorem ft_4_3 : (xts.getD 4 [])[3]? = some (.object "BernoulliWays$Fraction") := by rfl
theorem ft_5_0 : (xts.getD 5 [])[0]? = some (.long) := by rfl
theorem ft_5_1 : (xts.getD 5 [])[1]? = some (.long) := by rfl
theorem ft_5_2 : (xts.getD 5 [])[2]? = some (.long) := by rfl
theorem ft_6_0 : (xts.getD 6 [])[0]? = some (.object "BernoulliWays$Entries") := by rfl
theorem ft_6_1 : (xts.getD 6 [])[1]? = some (.object "BernoulliWays$Choose") := by rfl
theorem ft_6_2 : (xts.getD 6 [])[2]? = some (.object "BernoulliWays$Total") := by rfl
theorem ft_7_0 : (xts.getD 7 [])[0]? = some (.array .int) := by rfl
theorem ft_7_1 : (xts.getD 7 [])[1]? = some (.array .int) := by rfl
theorem ft_7_2 : (xts.getD 7 [])[2]? = some (.array .int) := by rfl
theorem ft_7_3 : (xts.getD 7 [])[3]? = some (.int) := by rfl
theorem ft_8_0 : (xts.getD 8 [])[0]? = some (.array .long) := by rfl
theorem ft_8_1 : (xts.getD 8 [])[1]? = some (.array .long) := by rfl
theorem ft_8_2 : (xts.getD 8 [])[2]? = some (.int) := by rfl
theorem ft_8_3 : (xts.getD 8 [])[3]? = some (.int) := by rfl
theorem ft_9_0 : (xts.getD 9 [])[0]? = some (.object "BernoulliWays$ByWays") := by rfl
theorem ft_9_1 : (xts.getD 9 [])[1]? = some (.array .int) := by rfl
theorem ft_9_2 : (xts.getD 9 [])[2]? = some (.array .int) := by rfl
theorem ft_9_3 : (xts.getD 9 [])[3]? = some (.int) := by rfl
theorem ft_9_4 : (xts.getD 9 [])[4]? = some (.int) := by rfl
theorem lo_0 : xlo 0 = 104 := by decide +kernel
theorem lo_1 : xlo 1 = 20 := by decide +kernel
theorem lo_10 : xlo 10 = 20 := by decide +kernel
theorem lo_11 : xlo 11 = 20 := by decide +kernel
theorem lo_111 : xlo 111 = 59 := by decide +kernel
theorem lo_180 : xlo 180 = 59 := by decide +kernel
theorem lo_188 : xlo 188 = 92 := by decide +kernel
theorem lo_2 : xlo 2 = 20 := by decide +kernel
theorem lo_3 : xlo 3 = 20 := by decide +kernel
theorem lo_4 : xlo 4 = 40 := by decide +kernel
theorem lo_5 : xlo 5 = 20 := by decide +kernel
theorem lo_7 : xlo 7 = 20 := by decide +kernel
theorem lo_8 : xlo 8 = 20 := by decide +kernel
theorem lo_88 : xlo 88 = 59 := by decide +kernel
theorem lo_9 : xlo 9 = 20 := by decide +kernel
theorem ml_0 : xml 0 = 2 := by decide +kernel
theorem ml_1 : xml 1 = 4 := by decide +kernel
theorem ml_10 : xml 10 = 2 := by decide +kernel
theorem ml_100 : xml 100 = 3 := by decide +kernel
theorem ml_101 : xml 101 = 9 := by decide +kernel
theorem ml_102 : xml 102 = 5 := by decide +kernel
theorem ml_105 : xml 105 = 10 := by decide +kernel
theorem ml_108 : xml 108 = 5 := by decide +kernel
theorem ml_109 : xml 109 = 6 := by decide +kernel
theorem ml_11 : xml 11 = 1 := by decide +kernel
theorem ml_110 : xml 110 = 3 := by decide +kernel
theorem ml_111 : xml 111 = 2 := by decide +kernel
theorem ml_112 : xml 112 = 6 := by decide +kernel
theorem ml_113 : xml 113 = 10 := by decide +kernel
theorem ml_114 : xml 114 = 2 := by decide +kernel
theorem ml_116 : xml 116 = 1 := by decide +kernel
theorem ml_117 : xml 117 = 2 := by decide +kernel
theorem ml_118 : xml 118 = 5 := by decide +kernel
theorem ml_119 : xml 119 = 3 := by decide +kernel
theorem ml_12 : xml 12 = 3 := by decide +kernel
theorem ml_121 : xml 121 = 2 := by decide +kernel
theorem ml_122 : xml 122 = 3 := by decide +kernel
theorem ml_123 : xml 123 = 3 := by decide +kernel
theorem ml_124 : xml 124 = 6 := by decide +kernel
theorem ml_125 : xml 125 = 4 := by decide +kernel
theorem ml_126 : xml 126 = 8 := by decide +kernel
theorem ml_127 : xml 127 = 2 := by decide +kernel
theorem ml_128 : xml 128 = 4 := by decide +kernel
theorem ml_13 : xml 13 = 2 := by decide +kernel
theorem ml_130 : xml 130 = 1 := by decide +kernel
theorem ml_131 : xml 131 = 2 := by decide +kernel
theorem ml_132 : xml 132 = 2 := by decide +kernel
theorem ml_134 : xml 134 = 9 := by decide +kernel
theorem ml_135 : xml 135 = 6 := by decide +kernel
theorem ml_137 : xml 137 = 8 := by decide +kernel
theorem ml_139 : xml 139 = 5 := by decide +kernel
theorem ml_14 : xml 14 = 3 := by decide +kernel
theorem ml_140 : xml 140 = 9 := by decide +kernel
theorem ml_141 : xml 141 = 7 := by decide +kernel
theorem ml_142 : xml 142 = 4 := by decide +kernel
theorem ml_143 : xml 143 = 4 := by decide +kernel
theorem ml_144 : xml 144 = 7 := by decide +kernel
theorem ml_145 : xml 145 = 14 := by decide +kernel
theorem ml_146 : xml 146 = 6 := by decide +kernel
theorem ml_147 : xml 147 = 7 := by decide +kernel
theorem ml_148 : xml 148 = 5 := by decide +kernel
theorem ml_149 : xml 149 = 1 := by decide +kernel
theorem ml_15 : xml 15 = 3 := by decide +kernel
theorem ml_150 : xml 150 = 1 := by decide +kernel
theorem ml_152 : xml 152 = 2 := by decide +kernel
theorem ml_153 : xml 153 = 3 := by decide +kernel
theorem ml_154 : xml 154 = 9 := by decide +kernel
theorem ml_156 : xml 156 = 7 := by decide +kernel
theorem ml_157 : xml 157 = 1 := by decide +kernel
theorem ml_158 : xml 158 = 10 := by decide +kernel
theorem ml_159 : xml 159 = 8 := by decide +kernel
theorem ml_16 : xml 16 = 11 := by decide +kernel
theorem ml_160 : xml 160 = 1 := by decide +kernel
theorem ml_161 : xml 161 = 5 := by decide +kernel
theorem ml_162 : xml 162 = 1 := by decide +kernel
theorem ml_164 : xml 164 = 2 := by decide +kernel
theorem ml_165 : xml 165 = 10 := by decide +kernel
theorem ml_167 : xml 167 = 6 := by decide +kernel
theorem ml_169 : xml 169 = 8 := by decide +kernel
theorem ml_17 : xml 17 = 6 := by decide +kernel
theorem ml_171 : xml 171 = 4 := by decide +kernel
theorem ml_172 : xml 172 = 8 := by decide +kernel
theorem ml_173 : xml 173 = 5 := by decide +kernel
theorem ml_177 : xml 177 = 4 := by decide +kernel
theorem ml_178 : xml 178 = 5 := by decide +kernel
theorem ml_179 : xml 179 = 5 := by decide +kernel
theorem ml_18 : xml 18 = 11 := by decide +kernel
theorem ml_180 : xml 180 = 4 := by decide +kernel
theorem ml_181 : xml 181 = 4 := by decide +kernel
theorem ml_182 : xml 182 = 4 := by decide +kernel
theorem ml_183 : xml 183 = 2 := by decide +kernel
theorem ml_185 : xml 185 = 3 := by decide +kernel
theorem ml_186 : xml 186 = 3 := by decide +kernel
theorem ml_188 : xml 188 = 4 := by decide +kernel
theorem ml_189 : xml 189 = 8 := by decide +kernel
theorem ml_19 : xml 19 = 6 := by decide +kernel
theorem ml_190 : xml 190 = 5 := by decide +kernel
theorem ml_191 : xml 191 = 7 := by decide +kernel
theorem ml_192 : xml 192 = 14 := by decide +kernel
theorem ml_193 : xml 193 = 6 := by decide +kernel
theorem ml_194 : xml 194 = 11 := by decide +kernel
theorem ml_195 : xml 195 = 10 := by decide +kernel
theorem ml_197 : xml 197 = 4 := by decide +kernel
theorem ml_198 : xml 198 = 2 := by decide +kernel
theorem ml_199 : xml 199 = 3 := by decide +kernel
theorem ml_2 : xml 2 = 1 := by decide +kernel
theorem ml_20 : xml 20 = 3 := by decide +kernel
theorem ml_200 : xml 200 = 3 := by decide +kernel
theorem ml_201 : xml 201 = 2 := by decide +kernel
theorem ml_202 : xml 202 = 3 := by decide +kernel
theorem ml_203 : xml 203 = 4 := by decide +kernel
theorem ml_205 : xml 205 = 9 := by decide +kernel
theorem ml_206 : xml 206 = 2 := by decide +kernel
theorem ml_207 : xml 207 = 7 := by decide +kernel
theorem ml_208 : xml 208 = 5 := by decide +kernel
theorem ml_209 : xml 209 = 2 := by decide +kernel
theorem ml_21 : xml 21 = 1 := by decide +kernel
theorem ml_210 : xml 210 = 1 := by decide +kernel
theorem ml_211 : xml 211 = 2 := by decide +kernel
theorem ml_212 : xml 212 = 4 := by decide +kernel
theorem ml_213 : xml 213 = 6 := by decide +kernel
theorem ml_214 : xml 214 = 5 := by decide +kernel
theorem ml_215 : xml 215 = 5 := by decide +kernel
theorem ml_216 : xml 216 = 6 := by decide +kernel
theorem ml_217 : xml 217 = 3 := by decide +kernel
theorem ml_219 : xml 219 = 1 := by decide +kernel
theorem ml_22 : xml 22 = 4 := by decide +kernel
theorem ml_223 : xml 223 = 5 := by decide +kernel
theorem ml_224 : xml 224 = 7 := by decide +kernel
theorem ml_225 : xml 225 = 10 := by decide +kernel
theorem ml_226 : xml 226 = 3 := by decide +kernel
theorem ml_227 : xml 227 = 4 := by decide +kernel
theorem ml_228 : xml 228 = 3 := by decide +kernel
theorem ml_229 : xml 229 = 6 := by decide +kernel
theorem ml_23 : xml 23 = 5 := by decide +kernel
theorem ml_230 : xml 230 = 4 := by decide +kernel
theorem ml_231 : xml 231 = 5 := by decide +kernel
theorem ml_233 : xml 233 = 2 := by decide +kernel
theorem ml_234 : xml 234 = 5 := by decide +kernel
theorem ml_235 : xml 235 = 6 := by decide +kernel
theorem ml_236 : xml 236 = 16 := by decide +kernel
theorem ml_238 : xml 238 = 10 := by decide +kernel
theorem ml_239 : xml 239 = 9 := by decide +kernel
theorem ml_24 : xml 24 = 1 := by decide +kernel
theorem ml_240 : xml 240 = 10 := by decide +kernel
theorem ml_242 : xml 242 = 5 := by decide +kernel
theorem ml_243 : xml 243 = 6 := by decide +kernel
theorem ml_244 : xml 244 = 10 := by decide +kernel
theorem ml_245 : xml 245 = 3 := by decide +kernel
theorem ml_246 : xml 246 = 7 := by decide +kernel
theorem ml_247 : xml 247 = 2 := by decide +kernel
theorem ml_249 : xml 249 = 5 := by decide +kernel
theorem ml_25 : xml 25 = 1 := by decide +kernel
theorem ml_251 : xml 251 = 4 := by decide +kernel
theorem ml_252 : xml 252 = 3 := by decide +kernel
theorem ml_253 : xml 253 = 5 := by decide +kernel
theorem ml_254 : xml 254 = 4 := by decide +kernel
theorem ml_255 : xml 255 = 7 := by decide +kernel
theorem ml_256 : xml 256 = 5 := by decide +kernel
theorem ml_258 : xml 258 = 4 := by decide +kernel
theorem ml_259 : xml 259 = 6 := by decide +kernel
theorem ml_26 : xml 26 = 3 := by decide +kernel
theorem ml_260 : xml 260 = 5 := by decide +kernel
theorem ml_261 : xml 261 = 4 := by decide +kernel
theorem ml_263 : xml 263 = 7 := by decide +kernel
theorem ml_264 : xml 264 = 5 := by decide +kernel
theorem ml_265 : xml 265 = 4 := by decide +kernel
theorem ml_266 : xml 266 = 3 := by decide +kernel
theorem ml_267 : xml 267 = 10 := by decide +kernel
theorem ml_268 : xml 268 = 6 := by decide +kernel
theorem ml_269 : xml 269 = 7 := by decide +kernel
theorem ml_27 : xml 27 = 2 := by decide +kernel
theorem ml_270 : xml 270 = 4 := by decide +kernel
theorem ml_272 : xml 272 = 16 := by decide +kernel
theorem ml_273 : xml 273 = 8 := by decide +kernel
theorem ml_275 : xml 275 = 6 := by decide +kernel
theorem ml_276 : xml 276 = 4 := by decide +kernel
theorem ml_277 : xml 277 = 8 := by decide +kernel
theorem ml_278 : xml 278 = 8 := by decide +kernel
theorem ml_28 : xml 28 = 3 := by decide +kernel
theorem ml_280 : xml 280 = 2 := by decide +kernel
theorem ml_281 : xml 281 = 4 := by decide +kernel
theorem ml_282 : xml 282 = 4 := by decide +kernel
theorem ml_283 : xml 283 = 8 := by decide +kernel
theorem ml_284 : xml 284 = 12 := by decide +kernel
theorem ml_285 : xml 285 = 5 := by decide +kernel
theorem ml_286 : xml 286 = 8 := by decide +kernel
theorem ml_288 : xml 288 = 16 := by decide +kernel
theorem ml_289 : xml 289 = 8 := by decide +kernel
theorem ml_29 : xml 29 = 2 := by decide +kernel
theorem ml_290 : xml 290 = 9 := by decide +kernel
theorem ml_291 : xml 291 = 11 := by decide +kernel
theorem ml_292 : xml 292 = 5 := by decide +kernel
theorem ml_293 : xml 293 = 5 := by decide +kernel
theorem ml_294 : xml 294 = 6 := by decide +kernel
theorem ml_295 : xml 295 = 6 := by decide +kernel
theorem ml_296 : xml 296 = 12 := by decide +kernel
theorem ml_297 : xml 297 = 6 := by decide +kernel
theorem ml_299 : xml 299 = 4 := by decide +kernel
theorem ml_3 : xml 3 = 1 := by decide +kernel
theorem ml_30 : xml 30 = 2 := by decide +kernel
theorem ml_300 : xml 300 = 5 := by decide +kernel
theorem ml_301 : xml 301 = 12 := by decide +kernel
theorem ml_302 : xml 302 = 4 := by decide +kernel
theorem ml_303 : xml 303 = 10 := by decide +kernel
theorem ml_304 : xml 304 = 2 := by decide +kernel
theorem ml_305 : xml 305 = 4 := by decide +kernel
theorem ml_306 : xml 306 = 4 := by decide +kernel
theorem ml_31 : xml 31 = 2 := by decide +kernel
theorem ml_32 : xml 32 = 4 := by decide +kernel
theorem ml_33 : xml 33 = 3 := by decide +kernel
theorem ml_34 : xml 34 = 2 := by decide +kernel
theorem ml_35 : xml 35 = 2 := by decide +kernel
theorem ml_36 : xml 36 = 4 := by decide +kernel
theorem ml_37 : xml 37 = 3 := by decide +kernel
theorem ml_38 : xml 38 = 4 := by decide +kernel
theorem ml_39 : xml 39 = 3 := by decide +kernel
theorem ml_4 : xml 4 = 1 := by decide +kernel
theorem ml_40 : xml 40 = 4 := by decide +kernel
theorem ml_41 : xml 41 = 11 := by decide +kernel
theorem ml_42 : xml 42 = 2 := by decide +kernel
theorem ml_43 : xml 43 = 3 := by decide +kernel
theorem ml_44 : xml 44 = 5 := by decide +kernel
theorem ml_45 : xml 45 = 3 := by decide +kernel
theorem ml_46 : xml 46 = 2 := by decide +kernel
theorem ml_47 : xml 47 = 1 := by decide +kernel
theorem ml_48 : xml 48 = 12 := by decide +kernel
theorem ml_49 : xml 49 = 7 := by decide +kernel
theorem ml_5 : xml 5 = 1 := by decide +kernel
theorem ml_50 : xml 50 = 10 := by decide +kernel
theorem ml_51 : xml 51 = 8 := by decide +kernel
theorem ml_52 : xml 52 = 2 := by decide +kernel
theorem ml_53 : xml 53 = 19 := by decide +kernel
theorem ml_54 : xml 54 = 4 := by decide +kernel
theorem ml_55 : xml 55 = 7 := by decide +kernel
theorem ml_56 : xml 56 = 3 := by decide +kernel
theorem ml_57 : xml 57 = 3 := by decide +kernel
theorem ml_6 : xml 6 = 5 := by decide +kernel
theorem ml_60 : xml 60 = 4 := by decide +kernel
theorem ml_61 : xml 61 = 4 := by decide +kernel
theorem ml_62 : xml 62 = 8 := by decide +kernel
theorem ml_63 : xml 63 = 2 := by decide +kernel
theorem ml_64 : xml 64 = 1 := by decide +kernel
theorem ml_65 : xml 65 = 2 := by decide +kernel
theorem ml_66 : xml 66 = 1 := by decide +kernel
theorem ml_67 : xml 67 = 5 := by decide +kernel
theorem ml_68 : xml 68 = 4 := by decide +kernel
theorem ml_69 : xml 69 = 3 := by decide +kernel
theorem ml_7 : xml 7 = 4 := by decide +kernel
theorem ml_70 : xml 70 = 8 := by decide +kernel
theorem ml_71 : xml 71 = 2 := by decide +kernel
theorem ml_72 : xml 72 = 4 := by decide +kernel
theorem ml_73 : xml 73 = 4 := by decide +kernel
theorem ml_74 : xml 74 = 3 := by decide +kernel
theorem ml_75 : xml 75 = 6 := by decide +kernel
theorem ml_76 : xml 76 = 1 := by decide +kernel
theorem ml_77 : xml 77 = 5 := by decide +kernel
theorem ml_8 : xml 8 = 1 := by decide +kernel
theorem ml_80 : xml 80 = 4 := by decide +kernel
theorem ml_81 : xml 81 = 8 := by decide +kernel
theorem ml_83 : xml 83 = 4 := by decide +kernel
theorem ml_84 : xml 84 = 5 := by decide +kernel
theorem ml_85 : xml 85 = 3 := by decide +kernel
theorem ml_86 : xml 86 = 5 := by decide +kernel
theorem ml_87 : xml 87 = 4 := by decide +kernel
theorem ml_88 : xml 88 = 1 := by decide +kernel
theorem ml_89 : xml 89 = 2 := by decide +kernel
theorem ml_9 : xml 9 = 1 := by decide +kernel
theorem ml_91 : xml 91 = 2 := by decide +kernel
theorem ml_93 : xml 93 = 1 := by decide +kernel
theorem ml_94 : xml 94 = 2 := by decide +kernel
theorem ml_95 : xml 95 = 2 := by decide +kernel
theorem ml_96 : xml 96 = 2 := by decide +kernel
theorem ml_97 : xml 97 = 2 := by decide +kernel
theorem ml_99 : xml 99 = 2 := by decide +kernel
theorem na_1 : xna 1 = 0 := by decide +kernel
theorem na_10 : xna 10 = 1 := by decide +kernel
theorem na_100 : xna 100 = 2 := by decide +kernel
theorem na_101 : xna 101 = 1 := by decide +kernel
theorem na_102 : xna 102 = 1 := by decide +kernel
theorem na_105 : xna 105 = 3 := by decide +kernel
theorem na_11 : xna 11 = 0 := by decide +kernel
theorem na_110 : xna 110 = 1 := by decide +kernel
theorem na_111 : xna 111 = 1 := by decide +kernel
theorem na_113 : xna 113 = 2 := by decide +kernel
theorem na_114 : xna 114 = 1 := by decide +kernel
theorem na_116 : xna 116 = 1 := by decide +kernel
theorem na_117 : xna 117 = 1 := by decide +kernel
theorem na_12 : xna 12 = 1 := by decide +kernel
theorem na_121 : xna 121 = 1 := by decide +kernel
theorem na_122 : xna 122 = 1 := by decide +kernel
theorem na_123 : xna 123 = 2 := by decide +kernel
theorem na_124 : xna 124 = 1 := by decide +kernel
theorem na_125 : xna 125 = 1 := by decide +kernel
theorem na_126 : xna 126 = 1 := by decide +kernel
theorem na_127 : xna 127 = 1 := by decide +kernel
theorem na_128 : xna 128 = 1 := by decide +kernel
theorem na_13 : xna 13 = 2 := by decide +kernel
theorem na_130 : xna 130 = 0 := by decide +kernel
theorem na_131 : xna 131 = 1 := by decide +kernel
theorem na_132 : xna 132 = 1 := by decide +kernel
theorem na_134 : xna 134 = 2 := by decide +kernel
theorem na_135 : xna 135 = 2 := by decide +kernel
theorem na_14 : xna 14 = 2 := by decide +kernel
theorem na_143 : xna 143 = 2 := by decide +kernel
theorem na_145 : xna 145 = 5 := by decide +kernel
theorem na_146 : xna 146 = 2 := by decide +kernel
theorem na_149 : xna 149 = 1 := by decide +kernel
theorem na_15 : xna 15 = 2 := by decide +kernel
theorem na_150 : xna 150 = 0 := by decide +kernel
theorem na_152 : xna 152 = 2 := by decide +kernel
theorem na_153 : xna 153 = 1 := by decide +kernel
theorem na_154 : xna 154 = 2 := by decide +kernel
theorem na_156 : xna 156 = 2 := by decide +kernel
theorem na_157 : xna 157 = 0 := by decide +kernel
theorem na_158 : xna 158 = 2 := by decide +kernel
theorem na_159 : xna 159 = 1 := by decide +kernel
theorem na_16 : xna 16 = 3 := by decide +kernel
theorem na_160 : xna 160 = 0 := by decide +kernel
theorem na_161 : xna 161 = 1 := by decide +kernel
theorem na_162 : xna 162 = 0 := by decide +kernel
theorem na_164 : xna 164 = 1 := by decide +kernel
theorem na_167 : xna 167 = 1 := by decide +kernel
theorem na_17 : xna 17 = 2 := by decide +kernel
theorem na_171 : xna 171 = 2 := by decide +kernel
theorem na_172 : xna 172 = 3 := by decide +kernel
theorem na_177 : xna 177 = 1 := by decide +kernel
theorem na_178 : xna 178 = 3 := by decide +kernel
theorem na_18 : xna 18 = 2 := by decide +kernel
theorem na_183 : xna 183 = 1 := by decide +kernel
theorem na_185 : xna 185 = 0 := by decide +kernel
theorem na_186 : xna 186 = 0 := by decide +kernel
theorem na_189 : xna 189 = 5 := by decide +kernel
theorem na_19 : xna 19 = 2 := by decide +kernel
theorem na_190 : xna 190 = 3 := by decide +kernel
theorem na_191 : xna 191 = 3 := by decide +kernel
theorem na_192 : xna 192 = 5 := by decide +kernel
theorem na_193 : xna 193 = 2 := by decide +kernel
theorem na_194 : xna 194 = 5 := by decide +kernel
theorem na_195 : xna 195 = 2 := by decide +kernel
theorem na_198 : xna 198 = 1 := by decide +kernel
theorem na_199 : xna 199 = 3 := by decide +kernel
theorem na_2 : xna 2 = 0 := by decide +kernel
theorem na_20 : xna 20 = 2 := by decide +kernel
theorem na_200 : xna 200 = 1 := by decide +kernel
theorem na_201 : xna 201 = 1 := by decide +kernel
theorem na_202 : xna 202 = 2 := by decide +kernel
theorem na_205 : xna 205 = 2 := by decide +kernel
theorem na_206 : xna 206 = 1 := by decide +kernel
theorem na_207 : xna 207 = 1 := by decide +kernel
theorem na_208 : xna 208 = 1 := by decide +kernel
theorem na_209 : xna 209 = 1 := by decide +kernel
theorem na_21 : xna 21 = 1 := by decide +kernel
theorem na_210 : xna 210 = 1 := by decide +kernel
theorem na_211 : xna 211 = 1 := by decide +kernel
theorem na_212 : xna 212 = 1 := by decide +kernel
theorem na_213 : xna 213 = 3 := by decide +kernel
theorem na_214 : xna 214 = 3 := by decide +kernel
theorem na_215 : xna 215 = 2 := by decide +kernel
theorem na_216 : xna 216 = 3 := by decide +kernel
theorem na_217 : xna 217 = 1 := by decide +kernel
theorem na_219 : xna 219 = 0 := by decide +kernel
theorem na_22 : xna 22 = 0 := by decide +kernel
theorem na_228 : xna 228 = 1 := by decide +kernel
theorem na_229 : xna 229 = 3 := by decide +kernel
theorem na_230 : xna 230 = 2 := by decide +kernel
theorem na_233 : xna 233 = 1 := by decide +kernel
theorem na_235 : xna 235 = 2 := by decide +kernel
theorem na_236 : xna 236 = 2 := by decide +kernel
theorem na_239 : xna 239 = 3 := by decide +kernel
theorem na_24 : xna 24 = 1 := by decide +kernel
theorem na_240 : xna 240 = 3 := by decide +kernel
theorem na_245 : xna 245 = 1 := by decide +kernel
theorem na_247 : xna 247 = 1 := by decide +kernel
theorem na_25 : xna 25 = 1 := by decide +kernel
theorem na_251 : xna 251 = 2 := by decide +kernel
theorem na_252 : xna 252 = 1 := by decide +kernel
theorem na_253 : xna 253 = 1 := by decide +kernel
theorem na_254 : xna 254 = 1 := by decide +kernel
theorem na_255 : xna 255 = 3 := by decide +kernel
theorem na_258 : xna 258 = 1 := by decide +kernel
theorem na_259 : xna 259 = 2 := by decide +kernel
theorem na_26 : xna 26 = 1 := by decide +kernel
theorem na_261 : xna 261 = 2 := by decide +kernel
theorem na_266 : xna 266 = 2 := by decide +kernel
theorem na_268 : xna 268 = 2 := by decide +kernel
theorem na_27 : xna 27 = 1 := by decide +kernel
theorem na_272 : xna 272 = 1 := by decide +kernel
theorem na_273 : xna 273 = 3 := by decide +kernel
theorem na_275 : xna 275 = 2 := by decide +kernel
theorem na_276 : xna 276 = 1 := by decide +kernel
theorem na_277 : xna 277 = 1 := by decide +kernel
theorem na_28 : xna 28 = 2 := by decide +kernel
theorem na_280 : xna 280 = 2 := by decide +kernel
theorem na_281 : xna 281 = 2 := by decide +kernel
theorem na_282 : xna 282 = 1 := by decide +kernel
theorem na_283 : xna 283 = 1 := by decide +kernel
theorem na_284 : xna 284 = 3 := by decide +kernel
theorem na_285 : xna 285 = 0 := by decide +kernel
theorem na_288 : xna 288 = 1 := by decide +kernel
theorem na_289 : xna 289 = 3 := by decide +kernel
theorem na_29 : xna 29 = 1 := by decide +kernel
theorem na_293 : xna 293 = 2 := by decide +kernel
theorem na_294 : xna 294 = 3 := by decide +kernel
theorem na_299 : xna 299 = 1 := by decide +kernel
theorem na_3 : xna 3 = 0 := by decide +kernel
theorem na_30 : xna 30 = 1 := by decide +kernel
theorem na_300 : xna 300 = 3 := by decide +kernel
theorem na_304 : xna 304 = 1 := by decide +kernel
theorem na_31 : xna 31 = 1 := by decide +kernel
theorem na_32 : xna 32 = 2 := by decide +kernel
theorem na_33 : xna 33 = 2 := by decide +kernel
theorem na_34 : xna 34 = 1 := by decide +kernel
theorem na_35 : xna 35 = 1 := by decide +kernel
theorem na_36 : xna 36 = 2 := by decide +kernel
theorem na_37 : xna 37 = 1 := by decide +kernel
theorem na_38 : xna 38 = 2 := by decide +kernel
theorem na_39 : xna 39 = 2 := by decide +kernel
theorem na_4 : xna 4 = 0 := by decide +kernel
theorem na_40 : xna 40 = 2 := by decide +kernel
theorem na_41 : xna 41 = 4 := by decide +kernel
theorem na_42 : xna 42 = 1 := by decide +kernel
theorem na_43 : xna 43 = 1 := by decide +kernel
theorem na_44 : xna 44 = 1 := by decide +kernel
theorem na_45 : xna 45 = 1 := by decide +kernel
theorem na_46 : xna 46 = 1 := by decide +kernel
theorem na_47 : xna 47 = 1 := by decide +kernel
theorem na_48 : xna 48 = 1 := by decide +kernel
theorem na_49 : xna 49 = 3 := by decide +kernel
theorem na_5 : xna 5 = 0 := by decide +kernel
theorem na_50 : xna 50 = 3 := by decide +kernel
theorem na_51 : xna 51 = 2 := by decide +kernel
theorem na_52 : xna 52 = 2 := by decide +kernel
theorem na_53 : xna 53 = 2 := by decide +kernel
theorem na_54 : xna 54 = 2 := by decide +kernel
theorem na_55 : xna 55 = 2 := by decide +kernel
theorem na_56 : xna 56 = 2 := by decide +kernel
theorem na_57 : xna 57 = 2 := by decide +kernel
theorem na_6 : xna 6 = 2 := by decide +kernel
theorem na_60 : xna 60 = 2 := by decide +kernel
theorem na_61 : xna 61 = 2 := by decide +kernel
theorem na_62 : xna 62 = 1 := by decide +kernel
theorem na_63 : xna 63 = 1 := by decide +kernel
theorem na_64 : xna 64 = 1 := by decide +kernel
theorem na_65 : xna 65 = 1 := by decide +kernel
theorem na_66 : xna 66 = 0 := by decide +kernel
theorem na_67 : xna 67 = 1 := by decide +kernel
theorem na_68 : xna 68 = 3 := by decide +kernel
theorem na_69 : xna 69 = 2 := by decide +kernel
theorem na_7 : xna 7 = 3 := by decide +kernel
theorem na_70 : xna 70 = 2 := by decide +kernel
theorem na_71 : xna 71 = 2 := by decide +kernel
theorem na_72 : xna 72 = 1 := by decide +kernel
theorem na_73 : xna 73 = 2 := by decide +kernel
theorem na_74 : xna 74 = 1 := by decide +kernel
theorem na_76 : xna 76 = 1 := by decide +kernel
theorem na_77 : xna 77 = 1 := by decide +kernel
theorem na_8 : xna 8 = 0 := by decide +kernel
theorem na_84 : xna 84 = 1 := by decide +kernel
theorem na_85 : xna 85 = 2 := by decide +kernel
theorem na_86 : xna 86 = 3 := by decide +kernel
theorem na_87 : xna 87 = 2 := by decide +kernel
theorem na_88 : xna 88 = 0 := by decide +kernel
theorem na_89 : xna 89 = 1 := by decide +kernel
theorem na_9 : xna 9 = 0 := by decide +kernel
theorem na_91 : xna 91 = 2 := by decide +kernel
theorem na_93 : xna 93 = 0 := by decide +kernel
theorem na_94 : xna 94 = 1 := by decide +kernel
theorem na_95 : xna 95 = 1 := by decide +kernel
theorem na_96 : xna 96 = 1 := by decide +kernel
theorem na_97 : xna 97 = 1 := by decide +kernel
theorem na_99 : xna 99 = 1 := by decide +kernel
theorem ow_100 : xown 100 = 4 := by decide +kernel
theorem ow_101 : xown 101 = 5 := by decide +kernel
theorem ow_102 : xown 102 = 5 := by decide +kernel
theorem ow_105 : xown 105 = 6 := by decide +kernel
theorem ow_110 : xown 110 = 0 := by decide +kernel
theorem ow_111 : xown 111 = 4 := by decide +kernel
theorem ow_113 : xown 113 = 0 := by decide +kernel
theorem ow_117 : xown 117 = 5 := by decide +kernel
theorem ow_12 : xown 12 = 3 := by decide +kernel
theorem ow_121 : xown 121 = 9 := by decide +kernel
theorem ow_122 : xown 122 = 9 := by decide +kernel
theorem ow_123 : xown 123 = 8 := by decide +kernel
theorem ow_124 : xown 124 = 8 := by decide +kernel
theorem ow_125 : xown 125 = 8 := by decide +kernel
theorem ow_126 : xown 126 = 8 := by decide +kernel
theorem ow_127 : xown 127 = 8 := by decide +kernel
theorem ow_128 : xown 128 = 9 := by decide +kernel
theorem ow_130 : xown 130 = 9 := by decide +kernel
theorem ow_131 : xown 131 = 9 := by decide +kernel
theorem ow_132 : xown 132 = 9 := by decide +kernel
theorem ow_14 : xown 14 = 3 := by decide +kernel
theorem ow_145 : xown 145 = 0 := by decide +kernel
theorem ow_146 : xown 146 = 4 := by decide +kernel
theorem ow_15 : xown 15 = 3 := by decide +kernel
theorem ow_150 : xown 150 = 5 := by decide +kernel
theorem ow_153 : xown 153 = 0 := by decide +kernel
theorem ow_154 : xown 154 = 0 := by decide +kernel
theorem ow_156 : xown 156 = 0 := by decide +kernel
theorem ow_157 : xown 157 = 10 := by decide +kernel
theorem ow_158 : xown 158 = 10 := by decide +kernel
theorem ow_159 : xown 159 = 10 := by decide +kernel
theorem ow_16 : xown 16 = 5 := by decide +kernel
theorem ow_160 : xown 160 = 10 := by decide +kernel
theorem ow_161 : xown 161 = 10 := by decide +kernel
theorem ow_162 : xown 162 = 10 := by decide +kernel
theorem ow_164 : xown 164 = 10 := by decide +kernel
theorem ow_167 : xown 167 = 0 := by decide +kernel
theorem ow_171 : xown 171 = 0 := by decide +kernel
theorem ow_172 : xown 172 = 0 := by decide +kernel
theorem ow_177 : xown 177 = 0 := by decide +kernel
theorem ow_185 : xown 185 = 0 := by decide +kernel
theorem ow_186 : xown 186 = 0 := by decide +kernel
theorem ow_190 : xown 190 = 12 := by decide +kernel
theorem ow_191 : xown 191 = 12 := by decide +kernel
theorem ow_192 : xown 192 = 12 := by decide +kernel
theorem ow_194 : xown 194 = 12 := by decide +kernel
theorem ow_198 : xown 198 = 12 := by decide +kernel
theorem ow_20 : xown 20 = 4 := by decide +kernel
theorem ow_200 : xown 200 = 12 := by decide +kernel
theorem ow_201 : xown 201 = 12 := by decide +kernel
theorem ow_202 : xown 202 = 12 := by decide +kernel
theorem ow_205 : xown 205 = 12 := by decide +kernel
theorem ow_206 : xown 206 = 12 := by decide +kernel
theorem ow_207 : xown 207 = 12 := by decide +kernel
theorem ow_208 : xown 208 = 12 := by decide +kernel
theorem ow_209 : xown 209 = 12 := by decide +kernel
theorem ow_211 : xown 211 = 12 := by decide +kernel
theorem ow_212 : xown 212 = 12 := by decide +kernel
theorem ow_213 : xown 213 = 12 := by decide +kernel
theorem ow_214 : xown 214 = 12 := by decide +kernel
theorem ow_217 : xown 217 = 12 := by decide +kernel
theorem ow_219 : xown 219 = 12 := by decide +kernel
theorem ow_22 : xown 22 = 3 := by decide +kernel
theorem ow_228 : xown 228 = 12 := by decide +kernel
theorem ow_229 : xown 229 = 12 := by decide +kernel
theorem ow_230 : xown 230 = 12 := by decide +kernel
theorem ow_233 : xown 233 = 12 := by decide +kernel
theorem ow_236 : xown 236 = 12 := by decide +kernel
theorem ow_245 : xown 245 = 12 := by decide +kernel
theorem ow_247 : xown 247 = 12 := by decide +kernel
theorem ow_251 : xown 251 = 12 := by decide +kernel
theorem ow_252 : xown 252 = 12 := by decide +kernel
theorem ow_253 : xown 253 = 12 := by decide +kernel
theorem ow_254 : xown 254 = 12 := by decide +kernel
theorem ow_258 : xown 258 = 12 := by decide +kernel
theorem ow_259 : xown 259 = 12 := by decide +kernel
theorem ow_26 : xown 26 = 0 := by decide +kernel
theorem ow_27 : xown 27 = 0 := by decide +kernel
theorem ow_272 : xown 272 = 12 := by decide +kernel
theorem ow_273 : xown 273 = 12 := by decide +kernel
theorem ow_275 : xown 275 = 12 := by decide +kernel
theorem ow_28 : xown 28 = 4 := by decide +kernel
theorem ow_281 : xown 281 = 12 := by decide +kernel
theorem ow_282 : xown 282 = 12 := by decide +kernel
theorem ow_283 : xown 283 = 12 := by decide +kernel
theorem ow_284 : xown 284 = 12 := by decide +kernel
theorem ow_285 : xown 285 = 12 := by decide +kernel
theorem ow_288 : xown 288 = 12 := by decide +kernel
theorem ow_289 : xown 289 = 12 := by decide +kernel
theorem ow_29 : xown 29 = 4 := by decide +kernel
theorem ow_293 : xown 293 = 12 := by decide +kernel
theorem ow_294 : xown 294 = 12 := by decide +kernel
theorem ow_299 : xown 299 = 12 := by decide +kernel
theorem ow_30 : xown 30 = 4 := by decide +kernel
theorem ow_31 : xown 31 = 4 := by decide +kernel
theorem ow_32 : xown 32 = 0 := by decide +kernel
theorem ow_33 : xown 33 = 0 := by decide +kernel
theorem ow_34 : xown 34 = 0 := by decide +kernel
theorem ow_35 : xown 35 = 0 := by decide +kernel
theorem ow_36 : xown 36 = 6 := by decide +kernel
theorem ow_37 : xown 37 = 2 := by decide +kernel
theorem ow_39 : xown 39 = 1 := by decide +kernel
theorem ow_40 : xown 40 = 6 := by decide +kernel
theorem ow_41 : xown 41 = 2 := by decide +kernel
theorem ow_42 : xown 42 = 2 := by decide +kernel
theorem ow_43 : xown 43 = 5 := by decide +kernel
theorem ow_44 : xown 44 = 5 := by decide +kernel
theorem ow_45 : xown 45 = 0 := by decide +kernel
theorem ow_46 : xown 46 = 0 := by decide +kernel
theorem ow_48 : xown 48 = 0 := by decide +kernel
theorem ow_55 : xown 55 = 0 := by decide +kernel
theorem ow_56 : xown 56 = 4 := by decide +kernel
theorem ow_57 : xown 57 = 0 := by decide +kernel
theorem ow_60 : xown 60 = 4 := by decide +kernel
theorem ow_61 : xown 61 = 6 := by decide +kernel
theorem ow_62 : xown 62 = 6 := by decide +kernel
theorem ow_63 : xown 63 = 4 := by decide +kernel
theorem ow_65 : xown 65 = 6 := by decide +kernel
theorem ow_66 : xown 66 = 2 := by decide +kernel
theorem ow_67 : xown 67 = 6 := by decide +kernel
theorem ow_68 : xown 68 = 6 := by decide +kernel
theorem ow_69 : xown 69 = 6 := by decide +kernel
theorem ow_70 : xown 70 = 6 := by decide +kernel
theorem ow_72 : xown 72 = 6 := by decide +kernel
theorem ow_73 : xown 73 = 4 := by decide +kernel
theorem ow_74 : xown 74 = 6 := by decide +kernel
theorem ow_77 : xown 77 = 0 := by decide +kernel
theorem ow_85 : xown 85 = 0 := by decide +kernel
theorem ow_86 : xown 86 = 7 := by decide +kernel
theorem ow_87 : xown 87 = 7 := by decide +kernel
theorem ow_88 : xown 88 = 7 := by decide +kernel
theorem ow_89 : xown 89 = 7 := by decide +kernel
theorem ow_93 : xown 93 = 7 := by decide +kernel
theorem ow_94 : xown 94 = 7 := by decide +kernel
theorem ow_95 : xown 95 = 7 := by decide +kernel
theorem ow_96 : xown 96 = 7 := by decide +kernel
theorem ow_97 : xown 97 = 0 := by decide +kernel
theorem ow_99 : xown 99 = 0 := by decide +kernel
theorem rm_0_1 : xroom 0 1 = true := by decide +kernel
theorem rm_0_10 : xroom 0 10 = true := by decide +kernel
theorem rm_0_11 : xroom 0 11 = true := by decide +kernel
theorem rm_0_12 : xroom 0 12 = true := by decide +kernel
theorem rm_0_14 : xroom 0 14 = true := by decide +kernel
theorem rm_0_2 : xroom 0 2 = true := by decide +kernel
theorem rm_0_20 : xroom 0 20 = true := by decide +kernel
theorem rm_0_22 : xroom 0 22 = true := by decide +kernel
theorem rm_0_3 : xroom 0 3 = true := by decide +kernel
theorem rm_0_4 : xroom 0 4 = true := by decide +kernel
theorem rm_0_5 : xroom 0 5 = true := by decide +kernel
theorem rm_0_7 : xroom 0 7 = true := by decide +kernel
theorem rm_0_8 : xroom 0 8 = true := by decide +kernel
theorem rm_0_9 : xroom 0 9 = true := by decide +kernel
theorem rm_100_16 : xroom 100 16 = true := by decide +kernel
theorem rm_100_29 : xroom 100 29 = true := by decide +kernel
theorem rm_100_30 : xroom 100 30 = true := by decide +kernel
theorem rm_100_31 : xroom 100 31 = true := by decide +kernel
theorem rm_101_17 : xroom 101 17 = true := by decide +kernel
theorem rm_101_19 : xroom 101 19 = true := by decide +kernel
theorem rm_103_24 : xroom 103 24 = true := by decide +kernel
theorem rm_103_68 : xroom 103 68 = true := by decide +kernel
theorem rm_103_84 : xroom 103 84 = true := by decide +kernel
theorem rm_104_105 : xroom 104 105 = true := by decide +kernel
theorem rm_104_24 : xroom 104 24 = true := by decide +kernel
theorem rm_104_84 : xroom 104 84 = true := by decide +kernel
theorem rm_105_50 : xroom 105 50 = true := by decide +kernel
theorem rm_105_54 : xroom 105 54 = true := by decide +kernel
theorem rm_105_69 : xroom 105 69 = true := by decide +kernel
theorem rm_105_70 : xroom 105 70 = true := by decide +kernel
theorem rm_106_24 : xroom 106 24 = true := by decide +kernel
theorem rm_106_61 : xroom 106 61 = true := by decide +kernel
theorem rm_107_76 : xroom 107 76 = true := by decide +kernel
theorem rm_107_77 : xroom 107 77 = true := by decide +kernel
theorem rm_108_61 : xroom 108 61 = true := by decide +kernel
theorem rm_109_100 : xroom 109 100 = true := by decide +kernel
theorem rm_109_110 : xroom 109 110 = true := by decide +kernel
theorem rm_109_111 : xroom 109 111 = true := by decide +kernel
theorem rm_109_20 : xroom 109 20 = true := by decide +kernel
theorem rm_109_27 : xroom 109 27 = true := by decide +kernel
theorem rm_109_76 : xroom 109 76 = true := by decide +kernel
theorem rm_110_61 : xroom 110 61 = true := by decide +kernel
theorem rm_112_111 : xroom 112 111 = true := by decide +kernel
theorem rm_112_113 : xroom 112 113 = true := by decide +kernel
theorem rm_112_27 : xroom 112 27 = true := by decide +kernel
theorem rm_112_61 : xroom 112 61 = true := by decide +kernel
theorem rm_112_76 : xroom 112 76 = true := by decide +kernel
theorem rm_113_114 : xroom 113 114 = true := by decide +kernel
theorem rm_113_60 : xroom 113 60 = true := by decide +kernel
theorem rm_115_116 : xroom 115 116 = true := by decide +kernel
theorem rm_115_117 : xroom 115 117 = true := by decide +kernel
theorem rm_115_36 : xroom 115 36 = true := by decide +kernel
theorem rm_115_42 : xroom 115 42 = true := by decide +kernel
theorem rm_115_99 : xroom 115 99 = true := by decide +kernel
theorem rm_118_116 : xroom 118 116 = true := by decide +kernel
theorem rm_118_117 : xroom 118 117 = true := by decide +kernel
theorem rm_118_12 : xroom 118 12 = true := by decide +kernel
theorem rm_118_15 : xroom 118 15 = true := by decide +kernel
theorem rm_118_22 : xroom 118 22 = true := by decide +kernel
theorem rm_119_31 : xroom 119 31 = true := by decide +kernel
theorem rm_120_121 : xroom 120 121 = true := by decide +kernel
theorem rm_120_128 : xroom 120 128 = true := by decide +kernel
theorem rm_120_84 : xroom 120 84 = true := by decide +kernel
theorem rm_121_122 : xroom 121 122 = true := by decide +kernel
theorem rm_122_123 : xroom 122 123 = true := by decide +kernel
theorem rm_122_127 : xroom 122 127 = true := by decide +kernel
theorem rm_123_124 : xroom 123 124 = true := by decide +kernel
theorem rm_123_125 : xroom 123 125 = true := by decide +kernel
theorem rm_123_126 : xroom 123 126 = true := by decide +kernel
theorem rm_124_53 : xroom 124 53 = true := by decide +kernel
theorem rm_124_6 : xroom 124 6 = true := by decide +kernel
theorem rm_125_53 : xroom 125 53 = true := by decide +kernel
theorem rm_126_53 : xroom 126 53 = true := by decide +kernel
theorem rm_126_6 : xroom 126 6 = true := by decide +kernel
theorem rm_129_121 : xroom 129 121 = true := by decide +kernel
theorem rm_129_130 : xroom 129 130 = true := by decide +kernel
theorem rm_129_131 : xroom 129 131 = true := by decide +kernel
theorem rm_129_132 : xroom 129 132 = true := by decide +kernel
theorem rm_12_13 : xroom 12 13 = true := by decide +kernel
theorem rm_133_121 : xroom 133 121 = true := by decide +kernel
theorem rm_133_130 : xroom 133 130 = true := by decide +kernel
theorem rm_133_131 : xroom 133 131 = true := by decide +kernel
theorem rm_133_132 : xroom 133 132 = true := by decide +kernel
theorem rm_133_134 : xroom 133 134 = true := by decide +kernel
theorem rm_134_135 : xroom 134 135 = true := by decide +kernel
theorem rm_134_54 : xroom 134 54 = true := by decide +kernel
theorem rm_135_49 : xroom 135 49 = true := by decide +kernel
theorem rm_135_53 : xroom 135 53 = true := by decide +kernel
theorem rm_136_84 : xroom 136 84 = true := by decide +kernel
theorem rm_136_91 : xroom 136 91 = true := by decide +kernel
theorem rm_137_24 : xroom 137 24 = true := by decide +kernel
theorem rm_137_47 : xroom 137 47 = true := by decide +kernel
theorem rm_137_50 : xroom 137 50 = true := by decide +kernel
theorem rm_137_54 : xroom 137 54 = true := by decide +kernel
theorem rm_137_84 : xroom 137 84 = true := by decide +kernel
theorem rm_138_123 : xroom 138 123 = true := by decide +kernel
theorem rm_138_127 : xroom 138 127 = true := by decide +kernel
theorem rm_138_25 : xroom 138 25 = true := by decide +kernel
theorem rm_138_84 : xroom 138 84 = true := by decide +kernel
theorem rm_139_123 : xroom 139 123 = true := by decide +kernel
theorem rm_139_127 : xroom 139 127 = true := by decide +kernel
theorem rm_139_25 : xroom 139 25 = true := by decide +kernel
theorem rm_139_84 : xroom 139 84 = true := by decide +kernel
theorem rm_140_53 : xroom 140 53 = true := by decide +kernel
theorem rm_140_84 : xroom 140 84 = true := by decide +kernel
theorem rm_141_84 : xroom 141 84 = true := by decide +kernel
theorem rm_142_143 : xroom 142 143 = true := by decide +kernel
theorem rm_142_84 : xroom 142 84 = true := by decide +kernel
theorem rm_143_50 : xroom 143 50 = true := by decide +kernel
theorem rm_144_116 : xroom 144 116 = true := by decide +kernel
theorem rm_144_117 : xroom 144 117 = true := by decide +kernel
theorem rm_144_143 : xroom 144 143 = true := by decide +kernel
theorem rm_144_145 : xroom 144 145 = true := by decide +kernel
theorem rm_144_16 : xroom 144 16 = true := by decide +kernel
theorem rm_144_84 : xroom 144 84 = true := by decide +kernel
theorem rm_145_146 : xroom 145 146 = true := by decide +kernel
theorem rm_145_39 : xroom 145 39 = true := by decide +kernel
theorem rm_146_29 : xroom 146 29 = true := by decide +kernel
theorem rm_146_30 : xroom 146 30 = true := by decide +kernel
theorem rm_146_31 : xroom 146 31 = true := by decide +kernel
theorem rm_147_121 : xroom 147 121 = true := by decide +kernel
theorem rm_147_128 : xroom 147 128 = true := by decide +kernel
theorem rm_148_100 : xroom 148 100 = true := by decide +kernel
theorem rm_148_149 : xroom 148 149 = true := by decide +kernel
theorem rm_148_150 : xroom 148 150 = true := by decide +kernel
theorem rm_148_16 : xroom 148 16 = true := by decide +kernel
theorem rm_148_39 : xroom 148 39 = true := by decide +kernel
theorem rm_148_43 : xroom 148 43 = true := by decide +kernel
theorem rm_148_44 : xroom 148 44 = true := by decide +kernel
theorem rm_14_15 : xroom 14 15 = true := by decide +kernel
theorem rm_151_152 : xroom 151 152 = true := by decide +kernel
theorem rm_151_153 : xroom 151 153 = true := by decide +kernel
theorem rm_151_154 : xroom 151 154 = true := by decide +kernel
theorem rm_153_149 : xroom 153 149 = true := by decide +kernel
theorem rm_153_73 : xroom 153 73 = true := by decide +kernel
theorem rm_154_39 : xroom 154 39 = true := by decide +kernel
theorem rm_154_53 : xroom 154 53 = true := by decide +kernel
theorem rm_155_152 : xroom 155 152 = true := by decide +kernel
theorem rm_155_156 : xroom 155 156 = true := by decide +kernel
theorem rm_155_162 : xroom 155 162 = true := by decide +kernel
theorem rm_156_146 : xroom 156 146 = true := by decide +kernel
theorem rm_156_149 : xroom 156 149 = true := by decide +kernel
theorem rm_156_157 : xroom 156 157 = true := by decide +kernel
theorem rm_156_158 : xroom 156 158 = true := by decide +kernel
theorem rm_156_159 : xroom 156 159 = true := by decide +kernel
theorem rm_156_160 : xroom 156 160 = true := by decide +kernel
theorem rm_156_39 : xroom 156 39 = true := by decide +kernel
theorem rm_157_6 : xroom 157 6 = true := by decide +kernel
theorem rm_158_17 : xroom 158 17 = true := by decide +kernel
theorem rm_158_19 : xroom 158 19 = true := by decide +kernel
theorem rm_15_16 : xroom 15 16 = true := by decide +kernel
theorem rm_160_161 : xroom 160 161 = true := by decide +kernel
theorem rm_163_152 : xroom 163 152 = true := by decide +kernel
theorem rm_163_156 : xroom 163 156 = true := by decide +kernel
theorem rm_163_162 : xroom 163 162 = true := by decide +kernel
theorem rm_163_164 : xroom 163 164 = true := by decide +kernel
theorem rm_164_161 : xroom 164 161 = true := by decide +kernel
theorem rm_165_152 : xroom 165 152 = true := by decide +kernel
theorem rm_165_153 : xroom 165 153 = true := by decide +kernel
theorem rm_165_154 : xroom 165 154 = true := by decide +kernel
theorem rm_165_39 : xroom 165 39 = true := by decide +kernel
theorem rm_165_50 : xroom 165 50 = true := by decide +kernel
theorem rm_166_150 : xroom 166 150 = true := by decide +kernel
theorem rm_166_16 : xroom 166 16 = true := by decide +kernel
theorem rm_166_167 : xroom 166 167 = true := by decide +kernel
theorem rm_167_146 : xroom 167 146 = true := by decide +kernel
theorem rm_167_149 : xroom 167 149 = true := by decide +kernel
theorem rm_167_39 : xroom 167 39 = true := by decide +kernel
theorem rm_168_100 : xroom 168 100 = true := by decide +kernel
theorem rm_168_116 : xroom 168 116 = true := by decide +kernel
theorem rm_168_117 : xroom 168 117 = true := by decide +kernel
theorem rm_168_24 : xroom 168 24 = true := by decide +kernel
theorem rm_168_39 : xroom 168 39 = true := by decide +kernel
theorem rm_168_43 : xroom 168 43 = true := by decide +kernel
theorem rm_169_116 : xroom 169 116 = true := by decide +kernel
theorem rm_169_117 : xroom 169 117 = true := by decide +kernel
theorem rm_169_145 : xroom 169 145 = true := by decide +kernel
theorem rm_169_16 : xroom 169 16 = true := by decide +kernel
theorem rm_16_17 : xroom 16 17 = true := by decide +kernel
theorem rm_16_18 : xroom 16 18 = true := by decide +kernel
theorem rm_16_19 : xroom 16 19 = true := by decide +kernel
theorem rm_170_171 : xroom 170 171 = true := by decide +kernel
theorem rm_170_172 : xroom 170 172 = true := by decide +kernel
theorem rm_170_24 : xroom 170 24 = true := by decide +kernel
theorem rm_170_84 : xroom 170 84 = true := by decide +kernel
theorem rm_171_31 : xroom 171 31 = true := by decide +kernel
theorem rm_171_39 : xroom 171 39 = true := by decide +kernel
theorem rm_171_73 : xroom 171 73 = true := by decide +kernel
theorem rm_173_171 : xroom 173 171 = true := by decide +kernel
theorem rm_173_172 : xroom 173 172 = true := by decide +kernel
theorem rm_173_24 : xroom 173 24 = true := by decide +kernel
theorem rm_173_84 : xroom 173 84 = true := by decide +kernel
theorem rm_174_100 : xroom 174 100 = true := by decide +kernel
theorem rm_174_116 : xroom 174 116 = true := by decide +kernel
theorem rm_174_117 : xroom 174 117 = true := by decide +kernel
theorem rm_174_43 : xroom 174 43 = true := by decide +kernel
theorem rm_174_44 : xroom 174 44 = true := by decide +kernel
theorem rm_175_100 : xroom 175 100 = true := by decide +kernel
theorem rm_175_43 : xroom 175 43 = true := by decide +kernel
theorem rm_176_177 : xroom 176 177 = true := by decide +kernel
theorem rm_177_13 : xroom 177 13 = true := by decide +kernel
theorem rm_177_178 : xroom 177 178 = true := by decide +kernel
theorem rm_177_6 : xroom 177 6 = true := by decide +kernel
theorem rm_179_116 : xroom 179 116 = true := by decide +kernel
theorem rm_179_117 : xroom 179 117 = true := by decide +kernel
theorem rm_179_177 : xroom 179 177 = true := by decide +kernel
theorem rm_179_37 : xroom 179 37 = true := by decide +kernel
theorem rm_179_41 : xroom 179 41 = true := by decide +kernel
theorem rm_179_42 : xroom 179 42 = true := by decide +kernel
theorem rm_181_100 : xroom 181 100 = true := by decide +kernel
theorem rm_181_43 : xroom 181 43 = true := by decide +kernel
theorem rm_181_44 : xroom 181 44 = true := by decide +kernel
theorem rm_181_47 : xroom 181 47 = true := by decide +kernel
theorem rm_181_63 : xroom 181 63 = true := by decide +kernel
theorem rm_182_183 : xroom 182 183 = true := by decide +kernel
theorem rm_182_29 : xroom 182 29 = true := by decide +kernel
theorem rm_184_185 : xroom 184 185 = true := by decide +kernel
theorem rm_184_186 : xroom 184 186 = true := by decide +kernel
theorem rm_184_93 : xroom 184 93 = true := by decide +kernel
theorem rm_185_27 : xroom 185 27 = true := by decide +kernel
theorem rm_186_93 : xroom 186 93 = true := by decide +kernel
theorem rm_186_97 : xroom 186 97 = true := by decide +kernel
theorem rm_187_100 : xroom 187 100 = true := by decide +kernel
theorem rm_187_116 : xroom 187 116 = true := by decide +kernel
theorem rm_187_117 : xroom 187 117 = true := by decide +kernel
theorem rm_187_99 : xroom 187 99 = true := by decide +kernel
theorem rm_188_189 : xroom 188 189 = true := by decide +kernel
theorem rm_188_190 : xroom 188 190 = true := by decide +kernel
theorem rm_188_192 : xroom 188 192 = true := by decide +kernel
theorem rm_190_191 : xroom 190 191 = true := by decide +kernel
theorem rm_192_193 : xroom 192 193 = true := by decide +kernel
theorem rm_192_194 : xroom 192 194 = true := by decide +kernel
theorem rm_194_189 : xroom 194 189 = true := by decide +kernel
theorem rm_194_195 : xroom 194 195 = true := by decide +kernel
theorem rm_197_198 : xroom 197 198 = true := by decide +kernel
theorem rm_197_199 : xroom 197 199 = true := by decide +kernel
theorem rm_197_200 : xroom 197 200 = true := by decide +kernel
theorem rm_197_202 : xroom 197 202 = true := by decide +kernel
theorem rm_198_199 : xroom 198 199 = true := by decide +kernel
theorem rm_200_201 : xroom 200 201 = true := by decide +kernel
theorem rm_202_189 : xroom 202 189 = true := by decide +kernel
theorem rm_203_198 : xroom 203 198 = true := by decide +kernel
theorem rm_203_199 : xroom 203 199 = true := by decide +kernel
theorem rm_203_200 : xroom 203 200 = true := by decide +kernel
theorem rm_203_201 : xroom 203 201 = true := by decide +kernel
theorem rm_203_202 : xroom 203 202 = true := by decide +kernel
theorem rm_204_198 : xroom 204 198 = true := by decide +kernel
theorem rm_204_199 : xroom 204 199 = true := by decide +kernel
theorem rm_204_205 : xroom 204 205 = true := by decide +kernel
theorem rm_204_206 : xroom 204 206 = true := by decide +kernel
theorem rm_205_193 : xroom 205 193 = true := by decide +kernel
theorem rm_205_194 : xroom 205 194 = true := by decide +kernel
theorem rm_206_207 : xroom 206 207 = true := by decide +kernel
theorem rm_206_208 : xroom 206 208 = true := by decide +kernel
theorem rm_206_209 : xroom 206 209 = true := by decide +kernel
theorem rm_206_210 : xroom 206 210 = true := by decide +kernel
theorem rm_206_211 : xroom 206 211 = true := by decide +kernel
theorem rm_206_212 : xroom 206 212 = true := by decide +kernel
theorem rm_206_217 : xroom 206 217 = true := by decide +kernel
theorem rm_207_191 : xroom 207 191 = true := by decide +kernel
theorem rm_207_193 : xroom 207 193 = true := by decide +kernel
theorem rm_20_21 : xroom 20 21 = true := by decide +kernel
theorem rm_211_190 : xroom 211 190 = true := by decide +kernel
theorem rm_212_213 : xroom 212 213 = true := by decide +kernel
theorem rm_213_214 : xroom 213 214 = true := by decide +kernel
theorem rm_213_215 : xroom 213 215 = true := by decide +kernel
theorem rm_213_216 : xroom 213 216 = true := by decide +kernel
theorem rm_214_215 : xroom 214 215 = true := by decide +kernel
theorem rm_214_216 : xroom 214 216 = true := by decide +kernel
theorem rm_217_214 : xroom 217 214 = true := by decide +kernel
theorem rm_218_199 : xroom 218 199 = true := by decide +kernel
theorem rm_218_219 : xroom 218 219 = true := by decide +kernel
theorem rm_220_198 : xroom 220 198 = true := by decide +kernel
theorem rm_221_198 : xroom 221 198 = true := by decide +kernel
theorem rm_221_201 : xroom 221 201 = true := by decide +kernel
theorem rm_222_198 : xroom 222 198 = true := by decide +kernel
theorem rm_222_200 : xroom 222 200 = true := by decide +kernel
theorem rm_222_201 : xroom 222 201 = true := by decide +kernel
theorem rm_223_198 : xroom 223 198 = true := by decide +kernel
theorem rm_224_199 : xroom 224 199 = true := by decide +kernel
theorem rm_225_193 : xroom 225 193 = true := by decide +kernel
theorem rm_225_194 : xroom 225 194 = true := by decide +kernel
theorem rm_225_199 : xroom 225 199 = true := by decide +kernel
theorem rm_227_198 : xroom 227 198 = true := by decide +kernel
theorem rm_227_214 : xroom 227 214 = true := by decide +kernel
theorem rm_227_228 : xroom 227 228 = true := by decide +kernel
theorem rm_227_229 : xroom 227 229 = true := by decide +kernel
theorem rm_229_230 : xroom 229 230 = true := by decide +kernel
theorem rm_22_17 : xroom 22 17 = true := by decide +kernel
theorem rm_22_19 : xroom 22 19 = true := by decide +kernel
theorem rm_231_198 : xroom 231 198 = true := by decide +kernel
theorem rm_231_216 : xroom 231 216 = true := by decide +kernel
theorem rm_231_228 : xroom 231 228 = true := by decide +kernel
theorem rm_232_199 : xroom 232 199 = true := by decide +kernel
theorem rm_232_233 : xroom 232 233 = true := by decide +kernel
theorem rm_233_214 : xroom 233 214 = true := by decide +kernel
theorem rm_234_198 : xroom 234 198 = true := by decide +kernel
theorem rm_234_228 : xroom 234 228 = true := by decide +kernel
theorem rm_234_235 : xroom 234 235 = true := by decide +kernel
theorem rm_234_236 : xroom 234 236 = true := by decide +kernel
theorem rm_237_198 : xroom 237 198 = true := by decide +kernel
theorem rm_237_213 : xroom 237 213 = true := by decide +kernel
theorem rm_237_228 : xroom 237 228 = true := by decide +kernel
theorem rm_238_198 : xroom 238 198 = true := by decide +kernel
theorem rm_238_213 : xroom 238 213 = true := by decide +kernel
theorem rm_238_228 : xroom 238 228 = true := by decide +kernel
theorem rm_238_239 : xroom 238 239 = true := by decide +kernel
theorem rm_239_240 : xroom 239 240 = true := by decide +kernel
theorem rm_23_24 : xroom 23 24 = true := by decide +kernel
theorem rm_23_25 : xroom 23 25 = true := by decide +kernel
theorem rm_23_26 : xroom 23 26 = true := by decide +kernel
theorem rm_23_32 : xroom 23 32 = true := by decide +kernel
theorem rm_241_198 : xroom 241 198 = true := by decide +kernel
theorem rm_241_206 : xroom 241 206 = true := by decide +kernel
theorem rm_242_199 : xroom 242 199 = true := by decide +kernel
theorem rm_242_206 : xroom 242 206 = true := by decide +kernel
theorem rm_243_199 : xroom 243 199 = true := by decide +kernel
theorem rm_243_201 : xroom 243 201 = true := by decide +kernel
theorem rm_243_202 : xroom 243 202 = true := by decide +kernel
theorem rm_243_206 : xroom 243 206 = true := by decide +kernel
theorem rm_244_189 : xroom 244 189 = true := by decide +kernel
theorem rm_244_199 : xroom 244 199 = true := by decide +kernel
theorem rm_244_245 : xroom 244 245 = true := by decide +kernel
theorem rm_245_206 : xroom 245 206 = true := by decide +kernel
theorem rm_246_199 : xroom 246 199 = true := by decide +kernel
theorem rm_246_201 : xroom 246 201 = true := by decide +kernel
theorem rm_246_205 : xroom 246 205 = true := by decide +kernel
theorem rm_246_206 : xroom 246 206 = true := by decide +kernel
theorem rm_246_247 : xroom 246 247 = true := by decide +kernel
theorem rm_248_190 : xroom 248 190 = true := by decide +kernel
theorem rm_248_194 : xroom 248 194 = true := by decide +kernel
theorem rm_248_199 : xroom 248 199 = true := by decide +kernel
theorem rm_249_199 : xroom 249 199 = true := by decide +kernel
theorem rm_249_211 : xroom 249 211 = true := by decide +kernel
theorem rm_250_199 : xroom 250 199 = true := by decide +kernel
theorem rm_250_228 : xroom 250 228 = true := by decide +kernel
theorem rm_250_251 : xroom 250 251 = true := by decide +kernel
theorem rm_251_252 : xroom 251 252 = true := by decide +kernel
theorem rm_251_254 : xroom 251 254 = true := by decide +kernel
theorem rm_251_255 : xroom 251 255 = true := by decide +kernel
theorem rm_252_253 : xroom 252 253 = true := by decide +kernel
theorem rm_253_215 : xroom 253 215 = true := by decide +kernel
theorem rm_253_216 : xroom 253 216 = true := by decide +kernel
theorem rm_254_215 : xroom 254 215 = true := by decide +kernel
theorem rm_254_216 : xroom 254 216 = true := by decide +kernel
theorem rm_255_240 : xroom 255 240 = true := by decide +kernel
theorem rm_256_199 : xroom 256 199 = true := by decide +kernel
theorem rm_256_228 : xroom 256 228 = true := by decide +kernel
theorem rm_256_251 : xroom 256 251 = true := by decide +kernel
theorem rm_257_228 : xroom 257 228 = true := by decide +kernel
theorem rm_257_258 : xroom 257 258 = true := by decide +kernel
theorem rm_258_253 : xroom 258 253 = true := by decide +kernel
theorem rm_259_199 : xroom 259 199 = true := by decide +kernel
theorem rm_259_253 : xroom 259 253 = true := by decide +kernel
theorem rm_260_259 : xroom 260 259 = true := by decide +kernel
theorem rm_260_261 : xroom 260 261 = true := by decide +kernel
theorem rm_261_255 : xroom 261 255 = true := by decide +kernel
theorem rm_262_199 : xroom 262 199 = true := by decide +kernel
theorem rm_262_228 : xroom 262 228 = true := by decide +kernel
theorem rm_262_255 : xroom 262 255 = true := by decide +kernel
theorem rm_263_228 : xroom 263 228 = true := by decide +kernel
theorem rm_263_240 : xroom 263 240 = true := by decide +kernel
theorem rm_264_228 : xroom 264 228 = true := by decide +kernel
theorem rm_265_228 : xroom 265 228 = true := by decide +kernel
theorem rm_265_266 : xroom 265 266 = true := by decide +kernel
theorem rm_266_216 : xroom 266 216 = true := by decide +kernel
theorem rm_267_193 : xroom 267 193 = true := by decide +kernel
theorem rm_267_194 : xroom 267 194 = true := by decide +kernel
theorem rm_267_199 : xroom 267 199 = true := by decide +kernel
theorem rm_267_228 : xroom 267 228 = true := by decide +kernel
theorem rm_267_266 : xroom 267 266 = true := by decide +kernel
theorem rm_267_268 : xroom 267 268 = true := by decide +kernel
theorem rm_269_199 : xroom 269 199 = true := by decide +kernel
theorem rm_269_215 : xroom 269 215 = true := by decide +kernel
theorem rm_269_216 : xroom 269 216 = true := by decide +kernel
theorem rm_269_228 : xroom 269 228 = true := by decide +kernel
theorem rm_26_27 : xroom 26 27 = true := by decide +kernel
theorem rm_270_199 : xroom 270 199 = true := by decide +kernel
theorem rm_270_258 : xroom 270 258 = true := by decide +kernel
theorem rm_271_199 : xroom 271 199 = true := by decide +kernel
theorem rm_271_272 : xroom 271 272 = true := by decide +kernel
theorem rm_272_195 : xroom 272 195 = true := by decide +kernel
theorem rm_272_273 : xroom 272 273 = true := by decide +kernel
theorem rm_273_195 : xroom 273 195 = true := by decide +kernel
theorem rm_274_199 : xroom 274 199 = true := by decide +kernel
theorem rm_274_275 : xroom 274 275 = true := by decide +kernel
theorem rm_275_272 : xroom 275 272 = true := by decide +kernel
theorem rm_275_276 : xroom 275 276 = true := by decide +kernel
theorem rm_275_277 : xroom 275 277 = true := by decide +kernel
theorem rm_277_276 : xroom 277 276 = true := by decide +kernel
theorem rm_278_199 : xroom 278 199 = true := by decide +kernel
theorem rm_278_240 : xroom 278 240 = true := by decide +kernel
theorem rm_278_275 : xroom 278 275 = true := by decide +kernel
theorem rm_279_280 : xroom 279 280 = true := by decide +kernel
theorem rm_279_281 : xroom 279 281 = true := by decide +kernel
theorem rm_279_285 : xroom 279 285 = true := by decide +kernel
theorem rm_27_28 : xroom 27 28 = true := by decide +kernel
theorem rm_280_199 : xroom 280 199 = true := by decide +kernel
theorem rm_281_282 : xroom 281 282 = true := by decide +kernel
theorem rm_281_283 : xroom 281 283 = true := by decide +kernel
theorem rm_281_284 : xroom 281 284 = true := by decide +kernel
theorem rm_286_280 : xroom 286 280 = true := by decide +kernel
theorem rm_286_281 : xroom 286 281 = true := by decide +kernel
theorem rm_286_285 : xroom 286 285 = true := by decide +kernel
theorem rm_287_199 : xroom 287 199 = true := by decide +kernel
theorem rm_287_288 : xroom 287 288 = true := by decide +kernel
theorem rm_288_195 : xroom 288 195 = true := by decide +kernel
theorem rm_288_272 : xroom 288 272 = true := by decide +kernel
theorem rm_288_289 : xroom 288 289 = true := by decide +kernel
theorem rm_289_195 : xroom 289 195 = true := by decide +kernel
theorem rm_289_273 : xroom 289 273 = true := by decide +kernel
theorem rm_28_29 : xroom 28 29 = true := by decide +kernel
theorem rm_28_30 : xroom 28 30 = true := by decide +kernel
theorem rm_28_31 : xroom 28 31 = true := by decide +kernel
theorem rm_290_194 : xroom 290 194 = true := by decide +kernel
theorem rm_290_198 : xroom 290 198 = true := by decide +kernel
theorem rm_290_199 : xroom 290 199 = true := by decide +kernel
theorem rm_291_193 : xroom 291 193 = true := by decide +kernel
theorem rm_291_194 : xroom 291 194 = true := by decide +kernel
theorem rm_291_199 : xroom 291 199 = true := by decide +kernel
theorem rm_291_268 : xroom 291 268 = true := by decide +kernel
theorem rm_292_198 : xroom 292 198 = true := by decide +kernel
theorem rm_292_199 : xroom 292 199 = true := by decide +kernel
theorem rm_292_228 : xroom 292 228 = true := by decide +kernel
theorem rm_292_293 : xroom 292 293 = true := by decide +kernel
theorem rm_292_294 : xroom 292 294 = true := by decide +kernel
theorem rm_293_214 : xroom 293 214 = true := by decide +kernel
theorem rm_293_215 : xroom 293 215 = true := by decide +kernel
theorem rm_295_198 : xroom 295 198 = true := by decide +kernel
theorem rm_295_228 : xroom 295 228 = true := by decide +kernel
theorem rm_295_293 : xroom 295 293 = true := by decide +kernel
theorem rm_295_294 : xroom 295 294 = true := by decide +kernel
theorem rm_296_193 : xroom 296 193 = true := by decide +kernel
theorem rm_296_194 : xroom 296 194 = true := by decide +kernel
theorem rm_296_199 : xroom 296 199 = true := by decide +kernel
theorem rm_297_199 : xroom 297 199 = true := by decide +kernel
theorem rm_298_199 : xroom 298 199 = true := by decide +kernel
theorem rm_298_299 : xroom 298 299 = true := by decide +kernel
theorem rm_299_300 : xroom 299 300 = true := by decide +kernel
theorem rm_29_21 : xroom 29 21 = true := by decide +kernel
theorem rm_301_193 : xroom 301 193 = true := by decide +kernel
theorem rm_301_194 : xroom 301 194 = true := by decide +kernel
theorem rm_301_199 : xroom 301 199 = true := by decide +kernel
theorem rm_301_299 : xroom 301 299 = true := by decide +kernel
theorem rm_302_199 : xroom 302 199 = true := by decide +kernel
theorem rm_303_195 : xroom 303 195 = true := by decide +kernel
theorem rm_303_199 : xroom 303 199 = true := by decide +kernel
theorem rm_303_304 : xroom 303 304 = true := by decide +kernel
theorem rm_305_199 : xroom 305 199 = true := by decide +kernel
theorem rm_305_304 : xroom 305 304 = true := by decide +kernel
theorem rm_306_201 : xroom 306 201 = true := by decide +kernel
theorem rm_306_233 : xroom 306 233 = true := by decide +kernel
theorem rm_30_21 : xroom 30 21 = true := by decide +kernel
theorem rm_31_21 : xroom 31 21 = true := by decide +kernel
theorem rm_32_20 : xroom 32 20 = true := by decide +kernel
theorem rm_32_33 : xroom 32 33 = true := by decide +kernel
theorem rm_32_56 : xroom 32 56 = true := by decide +kernel
theorem rm_32_57 : xroom 32 57 = true := by decide +kernel
theorem rm_33_34 : xroom 33 34 = true := by decide +kernel
theorem rm_33_45 : xroom 33 45 = true := by decide +kernel
theorem rm_33_46 : xroom 33 46 = true := by decide +kernel
theorem rm_34_35 : xroom 34 35 = true := by decide +kernel
theorem rm_34_36 : xroom 34 36 = true := by decide +kernel
theorem rm_34_42 : xroom 34 42 = true := by decide +kernel
theorem rm_34_43 : xroom 34 43 = true := by decide +kernel
theorem rm_34_44 : xroom 34 44 = true := by decide +kernel
theorem rm_35_16 : xroom 35 16 = true := by decide +kernel
theorem rm_36_37 : xroom 36 37 = true := by decide +kernel
theorem rm_36_39 : xroom 36 39 = true := by decide +kernel
theorem rm_36_40 : xroom 36 40 = true := by decide +kernel
theorem rm_37_38 : xroom 37 38 = true := by decide +kernel
theorem rm_40_29 : xroom 40 29 = true := by decide +kernel
theorem rm_40_30 : xroom 40 30 = true := by decide +kernel
theorem rm_40_31 : xroom 40 31 = true := by decide +kernel
theorem rm_40_41 : xroom 40 41 = true := by decide +kernel
theorem rm_41_17 : xroom 41 17 = true := by decide +kernel
theorem rm_41_19 : xroom 41 19 = true := by decide +kernel
theorem rm_42_16 : xroom 42 16 = true := by decide +kernel
theorem rm_43_16 : xroom 43 16 = true := by decide +kernel
theorem rm_44_16 : xroom 44 16 = true := by decide +kernel
theorem rm_44_17 : xroom 44 17 = true := by decide +kernel
theorem rm_44_19 : xroom 44 19 = true := by decide +kernel
theorem rm_45_12 : xroom 45 12 = true := by decide +kernel
theorem rm_45_14 : xroom 45 14 = true := by decide +kernel
theorem rm_45_22 : xroom 45 22 = true := by decide +kernel
theorem rm_46_35 : xroom 46 35 = true := by decide +kernel
theorem rm_46_37 : xroom 46 37 = true := by decide +kernel
theorem rm_46_41 : xroom 46 41 = true := by decide +kernel
theorem rm_46_42 : xroom 46 42 = true := by decide +kernel
theorem rm_46_47 : xroom 46 47 = true := by decide +kernel
theorem rm_46_48 : xroom 46 48 = true := by decide +kernel
theorem rm_46_55 : xroom 46 55 = true := by decide +kernel
theorem rm_48_49 : xroom 48 49 = true := by decide +kernel
theorem rm_48_51 : xroom 48 51 = true := by decide +kernel
theorem rm_48_53 : xroom 48 53 = true := by decide +kernel
theorem rm_48_54 : xroom 48 54 = true := by decide +kernel
theorem rm_49_50 : xroom 49 50 = true := by decide +kernel
theorem rm_4_5 : xroom 4 5 = true := by decide +kernel
theorem rm_4_6 : xroom 4 6 = true := by decide +kernel
theorem rm_50_17 : xroom 50 17 = true := by decide +kernel
theorem rm_51_52 : xroom 51 52 = true := by decide +kernel
theorem rm_51_53 : xroom 51 53 = true := by decide +kernel
theorem rm_52_47 : xroom 52 47 = true := by decide +kernel
theorem rm_53_17 : xroom 53 17 = true := by decide +kernel
theorem rm_54_17 : xroom 54 17 = true := by decide +kernel
theorem rm_55_41 : xroom 55 41 = true := by decide +kernel
theorem rm_55_52 : xroom 55 52 = true := by decide +kernel
theorem rm_56_29 : xroom 56 29 = true := by decide +kernel
theorem rm_56_30 : xroom 56 30 = true := by decide +kernel
theorem rm_56_31 : xroom 56 31 = true := by decide +kernel
theorem rm_58_24 : xroom 58 24 = true := by decide +kernel
theorem rm_58_25 : xroom 58 25 = true := by decide +kernel
theorem rm_58_26 : xroom 58 26 = true := by decide +kernel
theorem rm_58_32 : xroom 58 32 = true := by decide +kernel
theorem rm_59_24 : xroom 59 24 = true := by decide +kernel
theorem rm_59_57 : xroom 59 57 = true := by decide +kernel
theorem rm_59_60 : xroom 59 60 = true := by decide +kernel
theorem rm_59_61 : xroom 59 61 = true := by decide +kernel
theorem rm_60_16 : xroom 60 16 = true := by decide +kernel
theorem rm_60_20 : xroom 60 20 = true := by decide +kernel
theorem rm_60_29 : xroom 60 29 = true := by decide +kernel
theorem rm_60_30 : xroom 60 30 = true := by decide +kernel
theorem rm_60_31 : xroom 60 31 = true := by decide +kernel
theorem rm_61_62 : xroom 61 62 = true := by decide +kernel
theorem rm_61_63 : xroom 61 63 = true := by decide +kernel
theorem rm_61_64 : xroom 61 64 = true := by decide +kernel
theorem rm_61_65 : xroom 61 65 = true := by decide +kernel
theorem rm_61_67 : xroom 61 67 = true := by decide +kernel
theorem rm_61_72 : xroom 61 72 = true := by decide +kernel
theorem rm_61_74 : xroom 61 74 = true := by decide +kernel
theorem rm_62_31 : xroom 62 31 = true := by decide +kernel
theorem rm_62_52 : xroom 62 52 = true := by decide +kernel
theorem rm_63_29 : xroom 63 29 = true := by decide +kernel
theorem rm_63_30 : xroom 63 30 = true := by decide +kernel
theorem rm_65_36 : xroom 65 36 = true := by decide +kernel
theorem rm_65_66 : xroom 65 66 = true := by decide +kernel
theorem rm_67_68 : xroom 67 68 = true := by decide +kernel
theorem rm_67_71 : xroom 67 71 = true := by decide +kernel
theorem rm_68_54 : xroom 68 54 = true := by decide +kernel
theorem rm_68_69 : xroom 68 69 = true := by decide +kernel
theorem rm_68_70 : xroom 68 70 = true := by decide +kernel
theorem rm_69_31 : xroom 69 31 = true := by decide +kernel
theorem rm_69_47 : xroom 69 47 = true := by decide +kernel
theorem rm_70_29 : xroom 70 29 = true := by decide +kernel
theorem rm_70_30 : xroom 70 30 = true := by decide +kernel
theorem rm_70_31 : xroom 70 31 = true := by decide +kernel
theorem rm_70_53 : xroom 70 53 = true := by decide +kernel
theorem rm_72_31 : xroom 72 31 = true := by decide +kernel
theorem rm_72_47 : xroom 72 47 = true := by decide +kernel
theorem rm_72_73 : xroom 72 73 = true := by decide +kernel
theorem rm_73_29 : xroom 73 29 = true := by decide +kernel
theorem rm_73_30 : xroom 73 30 = true := by decide +kernel
theorem rm_73_31 : xroom 73 31 = true := by decide +kernel
theorem rm_73_53 : xroom 73 53 = true := by decide +kernel
theorem rm_73_54 : xroom 73 54 = true := by decide +kernel
theorem rm_74_37 : xroom 74 37 = true := by decide +kernel
theorem rm_74_39 : xroom 74 39 = true := by decide +kernel
theorem rm_74_40 : xroom 74 40 = true := by decide +kernel
theorem rm_74_41 : xroom 74 41 = true := by decide +kernel
theorem rm_74_66 : xroom 74 66 = true := by decide +kernel
theorem rm_75_32 : xroom 75 32 = true := by decide +kernel
theorem rm_75_76 : xroom 75 76 = true := by decide +kernel
theorem rm_75_77 : xroom 75 77 = true := by decide +kernel
theorem rm_77_61 : xroom 77 61 = true := by decide +kernel
theorem rm_78_24 : xroom 78 24 = true := by decide +kernel
theorem rm_79_24 : xroom 79 24 = true := by decide +kernel
theorem rm_79_27 : xroom 79 27 = true := by decide +kernel
theorem rm_80_24 : xroom 80 24 = true := by decide +kernel
theorem rm_80_26 : xroom 80 26 = true := by decide +kernel
theorem rm_80_33 : xroom 80 33 = true := by decide +kernel
theorem rm_80_56 : xroom 80 56 = true := by decide +kernel
theorem rm_81_24 : xroom 81 24 = true := by decide +kernel
theorem rm_81_52 : xroom 81 52 = true := by decide +kernel
theorem rm_82_24 : xroom 82 24 = true := by decide +kernel
theorem rm_82_29 : xroom 82 29 = true := by decide +kernel
theorem rm_82_30 : xroom 82 30 = true := by decide +kernel
theorem rm_82_31 : xroom 82 31 = true := by decide +kernel
theorem rm_82_37 : xroom 82 37 = true := by decide +kernel
theorem rm_82_41 : xroom 82 41 = true := by decide +kernel
theorem rm_82_42 : xroom 82 42 = true := by decide +kernel
theorem rm_82_47 : xroom 82 47 = true := by decide +kernel
theorem rm_82_55 : xroom 82 55 = true := by decide +kernel
theorem rm_83_24 : xroom 83 24 = true := by decide +kernel
theorem rm_83_84 : xroom 83 84 = true := by decide +kernel
theorem rm_83_85 : xroom 83 85 = true := by decide +kernel
theorem rm_83_86 : xroom 83 86 = true := by decide +kernel
theorem rm_85_31 : xroom 85 31 = true := by decide +kernel
theorem rm_85_73 : xroom 85 73 = true := by decide +kernel
theorem rm_86_87 : xroom 86 87 = true := by decide +kernel
theorem rm_86_88 : xroom 86 88 = true := by decide +kernel
theorem rm_86_89 : xroom 86 89 = true := by decide +kernel
theorem rm_90_24 : xroom 90 24 = true := by decide +kernel
theorem rm_90_47 : xroom 90 47 = true := by decide +kernel
theorem rm_90_84 : xroom 90 84 = true := by decide +kernel
theorem rm_90_91 : xroom 90 91 = true := by decide +kernel
theorem rm_91_49 : xroom 91 49 = true := by decide +kernel
theorem rm_92_93 : xroom 92 93 = true := by decide +kernel
theorem rm_92_94 : xroom 92 94 = true := by decide +kernel
theorem rm_92_95 : xroom 92 95 = true := by decide +kernel
theorem rm_92_96 : xroom 92 96 = true := by decide +kernel
theorem rm_92_97 : xroom 92 97 = true := by decide +kernel
theorem rm_94_89 : xroom 94 89 = true := by decide +kernel
theorem rm_95_89 : xroom 95 89 = true := by decide +kernel
theorem rm_96_89 : xroom 96 89 = true := by decide +kernel
theorem rm_97_85 : xroom 97 85 = true := by decide +kernel
theorem rm_97_94 : xroom 97 94 = true := by decide +kernel
theorem rm_97_95 : xroom 97 95 = true := by decide +kernel
theorem rm_97_96 : xroom 97 96 = true := by decide +kernel
theorem rm_98_100 : xroom 98 100 = true := by decide +kernel
theorem rm_98_101 : xroom 98 101 = true := by decide +kernel
theorem rm_98_102 : xroom 98 102 = true := by decide +kernel
theorem rm_98_63 : xroom 98 63 = true := by decide +kernel
theorem rm_98_84 : xroom 98 84 = true := by decide +kernel
theorem rm_98_99 : xroom 98 99 = true := by decide +kernel
theorem rt_0 : xret 0 = none := by decide +kernel
theorem rt_1 : xret 1 = none := by decide +kernel
theorem rt_10 : xret 10 = none := by decide +kernel
theorem rt_100 : xret 100 = none := by decide +kernel
theorem rt_101 : xret 101 = some .int := by decide +kernel
theorem rt_102 : xret 102 = some .int := by decide +kernel
theorem rt_103 : xret 103 = some .int := by decide +kernel
theorem rt_104 : xret 104 = some .int := by decide +kernel
theorem rt_105 : xret 105 = some .int := by decide +kernel
theorem rt_106 : xret 106 = some .int := by decide +kernel
theorem rt_107 : xret 107 = some .long := by decide +kernel
theorem rt_108 : xret 108 = some .int := by decide +kernel
theorem rt_109 : xret 109 = some .int := by decide +kernel
theorem rt_11 : xret 11 = none := by decide +kernel
theorem rt_110 : xret 110 = some .boolean := by decide +kernel
theorem rt_111 : xret 111 = none := by decide +kernel
theorem rt_112 : xret 112 = some .int := by decide +kernel
theorem rt_113 : xret 113 = none := by decide +kernel
theorem rt_114 : xret 114 = some .long := by decide +kernel
theorem rt_115 : xret 115 = some .long := by decide +kernel
theorem rt_116 : xret 116 = some .boolean := by decide +kernel
theorem rt_117 : xret 117 = some .long := by decide +kernel
theorem rt_118 : xret 118 = some .long := by decide +kernel
theorem rt_119 : xret 119 = some .int := by decide +kernel
theorem rt_12 : xret 12 = none := by decide +kernel
theorem rt_120 : xret 120 = some .int := by decide +kernel
theorem rt_121 : xret 121 = none := by decide +kernel
theorem rt_122 : xret 122 = none := by decide +kernel
theorem rt_123 : xret 123 = none := by decide +kernel
theorem rt_124 : xret 124 = none := by decide +kernel
theorem rt_125 : xret 125 = none := by decide +kernel
theorem rt_126 : xret 126 = none := by decide +kernel
theorem rt_127 : xret 127 = some .long := by decide +kernel
theorem rt_128 : xret 128 = some .int := by decide +kernel
theorem rt_129 : xret 129 = some .int := by decide +kernel
theorem rt_13 : xret 13 = some .int := by decide +kernel
theorem rt_130 : xret 130 = some .int := by decide +kernel
theorem rt_131 : xret 131 = some .int := by decide +kernel
theorem rt_132 : xret 132 = some .int := by decide +kernel
theorem rt_133 : xret 133 = some .int := by decide +kernel
theorem rt_134 : xret 134 = some .int := by decide +kernel
theorem rt_135 : xret 135 = some .long := by decide +kernel
theorem rt_136 : xret 136 = some .int := by decide +kernel
theorem rt_137 : xret 137 = some .int := by decide +kernel
theorem rt_138 : xret 138 = some .int := by decide +kernel
theorem rt_139 : xret 139 = some .int := by decide +kernel
theorem rt_14 : xret 14 = none := by decide +kernel
theorem rt_140 : xret 140 = some .int := by decide +kernel
theorem rt_141 : xret 141 = some .int := by decide +kernel
theorem rt_142 : xret 142 = some .int := by decide +kernel
theorem rt_143 : xret 143 = some .int := by decide +kernel
theorem rt_144 : xret 144 = some .long := by decide +kernel
theorem rt_145 : xret 145 = some .long := by decide +kernel
theorem rt_146 : xret 146 = some .long := by decide +kernel
theorem rt_147 : xret 147 = some .int := by decide +kernel
theorem rt_148 : xret 148 = some .long := by decide +kernel
theorem rt_149 : xret 149 = some .int := by decide +kernel
theorem rt_15 : xret 15 = none := by decide +kernel
theorem rt_150 : xret 150 = some .long := by decide +kernel
theorem rt_151 : xret 151 = some .int := by decide +kernel
theorem rt_152 : xret 152 = some .boolean := by decide +kernel
theorem rt_153 : xret 153 = none := by decide +kernel
theorem rt_154 : xret 154 = some .long := by decide +kernel
theorem rt_155 : xret 155 = some .int := by decide +kernel
theorem rt_156 : xret 156 = none := by decide +kernel
theorem rt_157 : xret 157 = none := by decide +kernel
theorem rt_158 : xret 158 = none := by decide +kernel
theorem rt_159 : xret 159 = none := by decide +kernel
theorem rt_16 : xret 16 = none := by decide +kernel
theorem rt_160 : xret 160 = none := by decide +kernel
theorem rt_161 : xret 161 = some .int := by decide +kernel
theorem rt_162 : xret 162 = some .int := by decide +kernel
theorem rt_163 : xret 163 = some .int := by decide +kernel
theorem rt_164 : xret 164 = some .int := by decide +kernel
theorem rt_165 : xret 165 = some .int := by decide +kernel
theorem rt_166 : xret 166 = some .long := by decide +kernel
theorem rt_167 : xret 167 = some .boolean := by decide +kernel
theorem rt_168 : xret 168 = some .long := by decide +kernel
theorem rt_169 : xret 169 = some .long := by decide +kernel
theorem rt_17 : xret 17 = some .long := by decide +kernel
theorem rt_170 : xret 170 = some .int := by decide +kernel
theorem rt_171 : xret 171 = some .boolean := by decide +kernel
theorem rt_172 : xret 172 = some .long := by decide +kernel
theorem rt_173 : xret 173 = some .int := by decide +kernel
theorem rt_174 : xret 174 = some .long := by decide +kernel
theorem rt_175 : xret 175 = some .long := by decide +kernel
theorem rt_176 : xret 176 = some .long := by decide +kernel
theorem rt_177 : xret 177 = none := by decide +kernel
theorem rt_178 : xret 178 = some .long := by decide +kernel
theorem rt_179 : xret 179 = some .long := by decide +kernel
theorem rt_18 : xret 18 = some .long := by decide +kernel
theorem rt_180 : xret 180 = some .long := by decide +kernel
theorem rt_181 : xret 181 = some .long := by decide +kernel
theorem rt_182 : xret 182 = some .int := by decide +kernel
theorem rt_183 : xret 183 = some .long := by decide +kernel
theorem rt_184 : xret 184 = some .int := by decide +kernel
theorem rt_185 : xret 185 = some .int := by decide +kernel
theorem rt_186 : xret 186 = some .int := by decide +kernel
theorem rt_187 : xret 187 = some .long := by decide +kernel
theorem rt_188 : xret 188 = none := by decide +kernel
theorem rt_189 : xret 189 = none := by decide +kernel
theorem rt_19 : xret 19 = some .long := by decide +kernel
theorem rt_190 : xret 190 = none := by decide +kernel
theorem rt_191 : xret 191 = none := by decide +kernel
theorem rt_192 : xret 192 = none := by decide +kernel
theorem rt_193 : xret 193 = some .long := by decide +kernel
theorem rt_194 : xret 194 = none := by decide +kernel
theorem rt_195 : xret 195 = some .long := by decide +kernel
theorem rt_196 : xret 196 = some .int := by decide +kernel
theorem rt_197 : xret 197 = some .int := by decide +kernel
theorem rt_198 : xret 198 = some .boolean := by decide +kernel
theorem rt_199 : xret 199 = some .boolean := by decide +kernel
theorem rt_2 : xret 2 = none := by decide +kernel
theorem rt_20 : xret 20 = none := by decide +kernel
theorem rt_200 : xret 200 = some .boolean := by decide +kernel
theorem rt_201 : xret 201 = some .boolean := by decide +kernel
theorem rt_202 : xret 202 = none := by decide +kernel
theorem rt_203 : xret 203 = some .int := by decide +kernel
theorem rt_204 : xret 204 = some .int := by decide +kernel
theorem rt_205 : xret 205 = none := by decide +kernel
theorem rt_206 : xret 206 = some .int := by decide +kernel
theorem rt_207 : xret 207 = some .boolean := by decide +kernel
theorem rt_208 : xret 208 = some .long := by decide +kernel
theorem rt_209 : xret 209 = some .int := by decide +kernel
theorem rt_21 : xret 21 = some .boolean := by decide +kernel
theorem rt_210 : xret 210 = some .int := by decide +kernel
theorem rt_211 : xret 211 = some .boolean := by decide +kernel
theorem rt_212 : xret 212 = some .boolean := by decide +kernel
theorem rt_213 : xret 213 = some .int := by decide +kernel
theorem rt_214 : xret 214 = some .int := by decide +kernel
theorem rt_215 : xret 215 = some .int := by decide +kernel
theorem rt_216 : xret 216 = some .int := by decide +kernel
theorem rt_217 : xret 217 = some .boolean := by decide +kernel
theorem rt_218 : xret 218 = some .long := by decide +kernel
theorem rt_219 : xret 219 = some .long := by decide +kernel
theorem rt_22 : xret 22 = none := by decide +kernel
theorem rt_220 : xret 220 = some .int := by decide +kernel
theorem rt_221 : xret 221 = some .int := by decide +kernel
theorem rt_222 : xret 222 = some .int := by decide +kernel
theorem rt_223 : xret 223 = some .int := by decide +kernel
theorem rt_224 : xret 224 = some .long := by decide +kernel
theorem rt_225 : xret 225 = some .long := by decide +kernel
theorem rt_226 : xret 226 = some .int := by decide +kernel
theorem rt_227 : xret 227 = some .int := by decide +kernel
theorem rt_228 : xret 228 = some .boolean := by decide +kernel
theorem rt_229 : xret 229 = none := by decide +kernel
theorem rt_23 : xret 23 = some .int := by decide +kernel
theorem rt_230 : xret 230 = some .int := by decide +kernel
theorem rt_231 : xret 231 = some .int := by decide +kernel
theorem rt_232 : xret 232 = some .int := by decide +kernel
theorem rt_233 : xret 233 = some .boolean := by decide +kernel
theorem rt_234 : xret 234 = some .int := by decide +kernel
theorem rt_235 : xret 235 = some .int := by decide +kernel
theorem rt_236 : xret 236 = some .int := by decide +kernel
theorem rt_237 : xret 237 = some .int := by decide +kernel
theorem rt_238 : xret 238 = some .int := by decide +kernel
theorem rt_239 : xret 239 = some .long := by decide +kernel
theorem rt_24 : xret 24 = some .boolean := by decide +kernel
theorem rt_240 : xret 240 = some .long := by decide +kernel
theorem rt_241 : xret 241 = some .int := by decide +kernel
theorem rt_242 : xret 242 = some .long := by decide +kernel
theorem rt_243 : xret 243 = some .int := by decide +kernel
theorem rt_244 : xret 244 = some .int := by decide +kernel
theorem rt_245 : xret 245 = some .boolean := by decide +kernel
theorem rt_246 : xret 246 = some .int := by decide +kernel
theorem rt_247 : xret 247 = some .int := by decide +kernel
theorem rt_248 : xret 248 = some .long := by decide +kernel
theorem rt_249 : xret 249 = some .int := by decide +kernel
theorem rt_25 : xret 25 = some .boolean := by decide +kernel
theorem rt_250 : xret 250 = some .int := by decide +kernel
theorem rt_251 : xret 251 = none := by decide +kernel
theorem rt_252 : xret 252 = none := by decide +kernel
theorem rt_253 : xret 253 = none := by decide +kernel
theorem rt_254 : xret 254 = none := by decide +kernel
theorem rt_255 : xret 255 = some .long := by decide +kernel
theorem rt_256 : xret 256 = some .int := by decide +kernel
theorem rt_257 : xret 257 = some .int := by decide +kernel
theorem rt_258 : xret 258 = some .int := by decide +kernel
theorem rt_259 : xret 259 = some .int := by decide +kernel
theorem rt_26 : xret 26 = some .boolean := by decide +kernel
theorem rt_260 : xret 260 = some .int := by decide +kernel
theorem rt_261 : xret 261 = some .boolean := by decide +kernel
theorem rt_262 : xret 262 = some .int := by decide +kernel
theorem rt_263 : xret 263 = some .int := by decide +kernel
theorem rt_264 : xret 264 = some .int := by decide +kernel
theorem rt_265 : xret 265 = some .int := by decide +kernel
theorem rt_266 : xret 266 = some .int := by decide +kernel
theorem rt_267 : xret 267 = some .long := by decide +kernel
theorem rt_268 : xret 268 = some .long := by decide +kernel
theorem rt_269 : xret 269 = some .int := by decide +kernel
theorem rt_27 : xret 27 = some .boolean := by decide +kernel
theorem rt_270 : xret 270 = some .int := by decide +kernel
theorem rt_271 : xret 271 = some .long := by decide +kernel
theorem rt_272 : xret 272 = none := by decide +kernel
theorem rt_273 : xret 273 = none := by decide +kernel
theorem rt_274 : xret 274 = some .int := by decide +kernel
theorem rt_275 : xret 275 = some .long := by decide +kernel
theorem rt_276 : xret 276 = some .long := by decide +kernel
theorem rt_277 : xret 277 = some .long := by decide +kernel
theorem rt_278 : xret 278 = some .int := by decide +kernel
theorem rt_279 : xret 279 = some .int := by decide +kernel
theorem rt_28 : xret 28 = some .boolean := by decide +kernel
theorem rt_280 : xret 280 = some .boolean := by decide +kernel
theorem rt_281 : xret 281 = none := by decide +kernel
theorem rt_282 : xret 282 = none := by decide +kernel
theorem rt_283 : xret 283 = none := by decide +kernel
theorem rt_284 : xret 284 = none := by decide +kernel
theorem rt_285 : xret 285 = some .int := by decide +kernel
theorem rt_286 : xret 286 = some .int := by decide +kernel
theorem rt_287 : xret 287 = some .long := by decide +kernel
theorem rt_288 : xret 288 = some .boolean := by decide +kernel
theorem rt_289 : xret 289 = none := by decide +kernel
theorem rt_29 : xret 29 = some .long := by decide +kernel
theorem rt_290 : xret 290 = some .long := by decide +kernel
theorem rt_291 : xret 291 = some .long := by decide +kernel
theorem rt_292 : xret 292 = some .int := by decide +kernel
theorem rt_293 : xret 293 = some .int := by decide +kernel
theorem rt_294 : xret 294 = some .int := by decide +kernel
theorem rt_295 : xret 295 = some .int := by decide +kernel
theorem rt_296 : xret 296 = some .long := by decide +kernel
theorem rt_297 : xret 297 = some .long := by decide +kernel
theorem rt_298 : xret 298 = some .long := by decide +kernel
theorem rt_299 : xret 299 = none := by decide +kernel
theorem rt_3 : xret 3 = none := by decide +kernel
theorem rt_30 : xret 30 = some .long := by decide +kernel
theorem rt_300 : xret 300 = some .long := by decide +kernel
theorem rt_301 : xret 301 = some .long := by decide +kernel
theorem rt_302 : xret 302 = some .long := by decide +kernel
theorem rt_303 : xret 303 = some .long := by decide +kernel
theorem rt_304 : xret 304 = some .long := by decide +kernel
theorem rt_305 : xret 305 = some .int := by decide +kernel
theorem rt_306 : xret 306 = some .int := by decide +kernel
theorem rt_31 : xret 31 = some .long := by decide +kernel
theorem rt_32 : xret 32 = some .boolean := by decide +kernel
theorem rt_33 : xret 33 = none := by decide +kernel
theorem rt_34 : xret 34 = none := by decide +kernel
theorem rt_35 : xret 35 = none := by decide +kernel
theorem rt_36 : xret 36 = none := by decide +kernel
theorem rt_37 : xret 37 = none := by decide +kernel
theorem rt_38 : xret 38 = some .long := by decide +kernel
theorem rt_39 : xret 39 = some .long := by decide +kernel
theorem rt_4 : xret 4 = none := by decide +kernel
theorem rt_40 : xret 40 = none := by decide +kernel
theorem rt_41 : xret 41 = none := by decide +kernel
theorem rt_42 : xret 42 = none := by decide +kernel
theorem rt_43 : xret 43 = none := by decide +kernel
theorem rt_44 : xret 44 = none := by decide +kernel
theorem rt_45 : xret 45 = none := by decide +kernel
theorem rt_46 : xret 46 = none := by decide +kernel
theorem rt_47 : xret 47 = some .boolean := by decide +kernel
theorem rt_48 : xret 48 = some .long := by decide +kernel
theorem rt_49 : xret 49 = some .long := by decide +kernel
theorem rt_5 : xret 5 = none := by decide +kernel
theorem rt_50 : xret 50 = some .long := by decide +kernel
theorem rt_51 : xret 51 = some .long := by decide +kernel
theorem rt_52 : xret 52 = some .boolean := by decide +kernel
theorem rt_53 : xret 53 = some .long := by decide +kernel
theorem rt_54 : xret 54 = some .long := by decide +kernel
theorem rt_55 : xret 55 = none := by decide +kernel
theorem rt_56 : xret 56 = some .boolean := by decide +kernel
theorem rt_57 : xret 57 = none := by decide +kernel
theorem rt_58 : xret 58 = some .int := by decide +kernel
theorem rt_59 : xret 59 = some .int := by decide +kernel
theorem rt_6 : xret 6 = none := by decide +kernel
theorem rt_60 : xret 60 = none := by decide +kernel
theorem rt_61 : xret 61 = some .int := by decide +kernel
theorem rt_62 : xret 62 = some .boolean := by decide +kernel
theorem rt_63 : xret 63 = some .int := by decide +kernel
theorem rt_64 : xret 64 = some .int := by decide +kernel
theorem rt_65 : xret 65 = some .boolean := by decide +kernel
theorem rt_66 : xret 66 = some .boolean := by decide +kernel
theorem rt_67 : xret 67 = some .boolean := by decide +kernel
theorem rt_68 : xret 68 = some .int := by decide +kernel
theorem rt_69 : xret 69 = some .boolean := by decide +kernel
theorem rt_7 : xret 7 = none := by decide +kernel
theorem rt_70 : xret 70 = some .long := by decide +kernel
theorem rt_71 : xret 71 = some .int := by decide +kernel
theorem rt_72 : xret 72 = some .boolean := by decide +kernel
theorem rt_73 : xret 73 = some .long := by decide +kernel
theorem rt_74 : xret 74 = some .boolean := by decide +kernel
theorem rt_75 : xret 75 = some .int := by decide +kernel
theorem rt_76 : xret 76 = some .boolean := by decide +kernel
theorem rt_77 : xret 77 = some .long := by decide +kernel
theorem rt_78 : xret 78 = some .int := by decide +kernel
theorem rt_79 : xret 79 = some .int := by decide +kernel
theorem rt_8 : xret 8 = none := by decide +kernel
theorem rt_80 : xret 80 = some .int := by decide +kernel
theorem rt_81 : xret 81 = some .int := by decide +kernel
theorem rt_82 : xret 82 = some .long := by decide +kernel
theorem rt_83 : xret 83 = some .int := by decide +kernel
theorem rt_84 : xret 84 = some .boolean := by decide +kernel
theorem rt_85 : xret 85 = some .int := by decide +kernel
theorem rt_86 : xret 86 = none := by decide +kernel
theorem rt_87 : xret 87 = some .int := by decide +kernel
theorem rt_88 : xret 88 = none := by decide +kernel
theorem rt_89 : xret 89 = some .boolean := by decide +kernel
theorem rt_9 : xret 9 = none := by decide +kernel
theorem rt_90 : xret 90 = some .int := by decide +kernel
theorem rt_91 : xret 91 = some .long := by decide +kernel
theorem rt_92 : xret 92 = some .int := by decide +kernel
theorem rt_93 : xret 93 = some .int := by decide +kernel
theorem rt_94 : xret 94 = some .int := by decide +kernel
theorem rt_95 : xret 95 = some .int := by decide +kernel
theorem rt_96 : xret 96 = some .int := by decide +kernel
theorem rt_97 : xret 97 = some .boolean := by decide +kernel
theorem rt_98 : xret 98 = some .int := by decide +kernel
theorem rt_99 : xret 99 = some .boolean := by decide +kernel
theorem st_0_103 : xsite 0 103 = some (4, 0, 15, 0) := by decide +kernel
theorem st_0_106 : xsite 0 106 = some (0, 12, 0, 0) := by decide +kernel
theorem st_0_11 : xsite 0 11 = some (8, 1, 0, 0) := by decide +kernel
theorem st_0_110 : xsite 0 110 = some (0, 14, 0, 0) := by decide +kernel
theorem st_0_114 : xsite 0 114 = some (0, 20, 0, 0) := by decide +kernel
theorem st_0_117 : xsite 0 117 = some (0, 22, 0, 0) := by decide +kernel
theorem st_0_13 : xsite 0 13 = some (0, 1, 2, 0) := by decide +kernel
theorem st_0_14 : xsite 0 14 = some (4, 0, 0, 0) := by decide +kernel
theorem st_0_18 : xsite 0 18 = some (8, 2, 0, 0) := by decide +kernel
theorem st_0_20 : xsite 0 20 = some (1, 2, 2, 0) := by decide +kernel
theorem st_0_21 : xsite 0 21 = some (4, 0, 1, 0) := by decide +kernel
theorem st_0_25 : xsite 0 25 = some (8, 3, 0, 0) := by decide +kernel
theorem st_0_27 : xsite 0 27 = some (1, 3, 2, 0) := by decide +kernel
theorem st_0_28 : xsite 0 28 = some (4, 0, 2, 0) := by decide +kernel
theorem st_0_32 : xsite 0 32 = some (8, 4, 0, 0) := by decide +kernel
theorem st_0_34 : xsite 0 34 = some (0, 4, 2, 0) := by decide +kernel
theorem st_0_35 : xsite 0 35 = some (4, 0, 3, 0) := by decide +kernel
theorem st_0_39 : xsite 0 39 = some (4, 0, 4, 0) := by decide +kernel
theorem st_0_42 : xsite 0 42 = some (4, 0, 5, 0) := by decide +kernel
theorem st_0_45 : xsite 0 45 = some (4, 0, 6, 0) := by decide +kernel
theorem st_0_49 : xsite 0 49 = some (4, 0, 7, 0) := by decide +kernel
theorem st_0_5 : xsite 0 5 = some (2, 0, 0, 0) := by decide +kernel
theorem st_0_53 : xsite 0 53 = some (8, 6, 0, 0) := by decide +kernel
theorem st_0_55 : xsite 0 55 = some (0, 7, 2, 0) := by decide +kernel
theorem st_0_58 : xsite 0 58 = some (4, 0, 8, 0) := by decide +kernel
theorem st_0_62 : xsite 0 62 = some (8, 7, 0, 0) := by decide +kernel
theorem st_0_64 : xsite 0 64 = some (1, 8, 2, 0) := by decide +kernel
theorem st_0_65 : xsite 0 65 = some (4, 0, 9, 0) := by decide +kernel
theorem st_0_69 : xsite 0 69 = some (8, 8, 0, 0) := by decide +kernel
theorem st_0_71 : xsite 0 71 = some (1, 9, 2, 0) := by decide +kernel
theorem st_0_72 : xsite 0 72 = some (4, 0, 10, 0) := by decide +kernel
theorem st_0_76 : xsite 0 76 = some (8, 9, 0, 0) := by decide +kernel
theorem st_0_78 : xsite 0 78 = some (0, 10, 2, 0) := by decide +kernel
theorem st_0_81 : xsite 0 81 = some (4, 0, 11, 0) := by decide +kernel
theorem st_0_85 : xsite 0 85 = some (8, 10, 0, 0) := by decide +kernel
theorem st_0_87 : xsite 0 87 = some (1, 11, 2, 0) := by decide +kernel
theorem st_0_88 : xsite 0 88 = some (4, 0, 12, 0) := by decide +kernel
theorem st_0_92 : xsite 0 92 = some (8, 5, 0, 0) := by decide +kernel
theorem st_0_94 : xsite 0 94 = some (1, 5, 2, 0) := by decide +kernel
theorem st_0_95 : xsite 0 95 = some (4, 0, 13, 0) := by decide +kernel
theorem st_0_99 : xsite 0 99 = some (4, 0, 14, 0) := by decide +kernel
theorem st_100_38 : xsite 100 38 = some (0, 29, 0, 0) := by decide +kernel
theorem st_100_42 : xsite 100 42 = some (0, 30, 0, 0) := by decide +kernel
theorem st_100_55 : xsite 100 55 = some (0, 31, 0, 0) := by decide +kernel
theorem st_100_58 : xsite 100 58 = some (0, 16, 0, 0) := by decide +kernel
theorem st_101_13 : xsite 101 13 = some (0, 17, 1, 0) := by decide +kernel
theorem st_101_22 : xsite 101 22 = some (0, 19, 1, 0) := by decide +kernel
theorem st_101_25 : xsite 101 25 = some (4, 5, 0, 0) := by decide +kernel
theorem st_101_28 : xsite 101 28 = some (4, 5, 1, 0) := by decide +kernel
theorem st_101_7 : xsite 101 7 = some (4, 5, 2, 0) := by decide +kernel
theorem st_102_7 : xsite 102 7 = some (4, 5, 2, 0) := by decide +kernel
theorem st_103_120 : xsite 103 120 = some (0, 24, 1, 0) := by decide +kernel
theorem st_103_222 : xsite 103 222 = some (0, 84, 1, 0) := by decide +kernel
theorem st_103_264 : xsite 103 264 = some (0, 68, 0, 0) := by decide +kernel
theorem st_103_49 : xsite 103 49 = some (4, 0, 7, 0) := by decide +kernel
theorem st_103_58 : xsite 103 58 = some (4, 0, 8, 0) := by decide +kernel
theorem st_104_120 : xsite 104 120 = some (0, 24, 1, 0) := by decide +kernel
theorem st_104_222 : xsite 104 222 = some (0, 84, 1, 0) := by decide +kernel
theorem st_104_268 : xsite 104 268 = some (0, 105, 0, 0) := by decide +kernel
theorem st_104_49 : xsite 104 49 = some (4, 0, 7, 0) := by decide +kernel
theorem st_104_58 : xsite 104 58 = some (4, 0, 8, 0) := by decide +kernel
theorem st_105_66 : xsite 105 66 = some (0, 69, 0, 0) := by decide +kernel
theorem st_105_70 : xsite 105 70 = some (0, 70, 0, 0) := by decide +kernel
theorem st_105_74 : xsite 105 74 = some (0, 54, 1, 0) := by decide +kernel
theorem st_105_80 : xsite 105 80 = some (0, 50, 1, 0) := by decide +kernel
theorem st_106_120 : xsite 106 120 = some (0, 24, 1, 0) := by decide +kernel
theorem st_106_142 : xsite 106 142 = some (0, 61, 0, 0) := by decide +kernel
theorem st_106_49 : xsite 106 49 = some (4, 0, 7, 0) := by decide +kernel
theorem st_106_58 : xsite 106 58 = some (4, 0, 8, 0) := by decide +kernel
theorem st_107_146 : xsite 107 146 = some (0, 76, 1, 0) := by decide +kernel
theorem st_107_149 : xsite 107 149 = some (0, 77, 0, 0) := by decide +kernel
theorem st_107_166 : xsite 107 166 = some (10, 0, 0, -9223372036854775808) := by decide +kernel
theorem st_108_142 : xsite 108 142 = some (0, 61, 0, 0) := by decide +kernel
theorem st_108_49 : xsite 108 49 = some (4, 0, 7, 0) := by decide +kernel
theorem st_108_58 : xsite 108 58 = some (4, 0, 8, 0) := by decide +kernel
theorem st_109_114 : xsite 109 114 = some (0, 20, 0, 0) := by decide +kernel
theorem st_109_146 : xsite 109 146 = some (0, 76, 1, 0) := by decide +kernel
theorem st_109_168 : xsite 109 168 = some (0, 100, 0, 0) := by decide +kernel
theorem st_109_174 : xsite 109 174 = some (0, 27, 0, 0) := by decide +kernel
theorem st_109_271 : xsite 109 271 = some (0, 110, 0, 0) := by decide +kernel
theorem st_109_274 : xsite 109 274 = some (0, 111, 0, 0) := by decide +kernel
theorem st_109_35 : xsite 109 35 = some (4, 0, 3, 0) := by decide +kernel
theorem st_109_39 : xsite 109 39 = some (4, 0, 4, 0) := by decide +kernel
theorem st_109_42 : xsite 109 42 = some (4, 0, 5, 0) := by decide +kernel
theorem st_109_49 : xsite 109 49 = some (4, 0, 7, 0) := by decide +kernel
theorem st_109_95 : xsite 109 95 = some (4, 0, 13, 0) := by decide +kernel
theorem st_10_11 : xsite 10 11 = some (4, 9, 1, 0) := by decide +kernel
theorem st_10_15 : xsite 10 15 = some (4, 9, 2, 0) := by decide +kernel
theorem st_10_18 : xsite 10 18 = some (4, 9, 4, 0) := by decide +kernel
theorem st_10_22 : xsite 10 22 = some (4, 9, 0, 0) := by decide +kernel
theorem st_10_3 : xsite 10 3 = some (2, 0, 0, 0) := by decide +kernel
theorem st_110_142 : xsite 110 142 = some (0, 61, 0, 0) := by decide +kernel
theorem st_110_49 : xsite 110 49 = some (4, 0, 7, 0) := by decide +kernel
theorem st_110_58 : xsite 110 58 = some (4, 0, 8, 0) := by decide +kernel
theorem st_111_15 : xsite 111 15 = some (4, 4, 1, 0) := by decide +kernel
theorem st_111_18 : xsite 111 18 = some (4, 4, 2, 0) := by decide +kernel
theorem st_111_62 : xsite 111 62 = some (3, 0, 0, 0) := by decide +kernel
theorem st_111_9 : xsite 111 9 = some (4, 4, 0, 0) := by decide +kernel
theorem st_112_142 : xsite 112 142 = some (0, 61, 0, 0) := by decide +kernel
theorem st_112_146 : xsite 112 146 = some (0, 76, 1, 0) := by decide +kernel
theorem st_112_174 : xsite 112 174 = some (0, 27, 0, 0) := by decide +kernel
theorem st_112_274 : xsite 112 274 = some (0, 111, 0, 0) := by decide +kernel
theorem st_112_278 : xsite 112 278 = some (0, 113, 0, 0) := by decide +kernel
theorem st_112_39 : xsite 112 39 = some (4, 0, 4, 0) := by decide +kernel
theorem st_112_42 : xsite 112 42 = some (4, 0, 5, 0) := by decide +kernel
theorem st_112_49 : xsite 112 49 = some (4, 0, 7, 0) := by decide +kernel
theorem st_112_58 : xsite 112 58 = some (4, 0, 8, 0) := by decide +kernel
theorem st_113_134 : xsite 113 134 = some (0, 60, 0, 0) := by decide +kernel
theorem st_113_389 : xsite 113 389 = some (10, 0, 0, 2) := by decide +kernel
theorem st_113_39 : xsite 113 39 = some (4, 0, 4, 0) := by decide +kernel
theorem st_113_447 : xsite 113 447 = some (0, 114, 1, 0) := by decide +kernel
theorem st_113_450 : xsite 113 450 = some (10, 0, 0, 9) := by decide +kernel
theorem st_113_49 : xsite 113 49 = some (4, 0, 7, 0) := by decide +kernel
theorem st_114_452 : xsite 114 452 = some (10, 0, 0, 1103515245) := by decide +kernel
theorem st_114_454 : xsite 114 454 = some (10, 0, 0, 12345) := by decide +kernel
theorem st_114_456 : xsite 114 456 = some (10, 0, 0, 2147483647) := by decide +kernel
theorem st_115_153 : xsite 115 153 = some (0, 116, 1, 0) := by decide +kernel
theorem st_115_163 : xsite 115 163 = some (0, 99, 0, 0) := by decide +kernel
theorem st_115_166 : xsite 115 166 = some (10, 0, 0, -9223372036854775808) := by decide +kernel
theorem st_115_171 : xsite 115 171 = some (0, 117, 0, 0) := by decide +kernel
theorem st_115_21 : xsite 115 21 = some (4, 0, 1, 0) := by decide +kernel
theorem st_115_214 : xsite 115 214 = some (0, 42, 0, 0) := by decide +kernel
theorem st_115_281 : xsite 115 281 = some (0, 36, 0, 0) := by decide +kernel
theorem st_115_58 : xsite 115 58 = some (4, 0, 8, 0) := by decide +kernel
theorem st_115_95 : xsite 115 95 = some (4, 0, 13, 0) := by decide +kernel
theorem st_117_25 : xsite 117 25 = some (4, 5, 0, 0) := by decide +kernel
theorem st_117_28 : xsite 117 28 = some (4, 5, 1, 0) := by decide +kernel
theorem st_117_7 : xsite 117 7 = some (4, 5, 2, 0) := by decide +kernel
theorem st_118_106 : xsite 118 106 = some (0, 12, 0, 0) := by decide +kernel
theorem st_118_117 : xsite 118 117 = some (0, 22, 0, 0) := by decide +kernel
theorem st_118_153 : xsite 118 153 = some (0, 116, 1, 0) := by decide +kernel
theorem st_118_166 : xsite 118 166 = some (10, 0, 0, -9223372036854775808) := by decide +kernel
theorem st_118_171 : xsite 118 171 = some (0, 117, 0, 0) := by decide +kernel
theorem st_118_28 : xsite 118 28 = some (4, 0, 2, 0) := by decide +kernel
theorem st_118_284 : xsite 118 284 = some (0, 15, 0, 0) := by decide +kernel
theorem st_118_95 : xsite 118 95 = some (4, 0, 13, 0) := by decide +kernel
theorem st_119_204 : xsite 119 204 = some (0, 31, 0, 0) := by decide +kernel
theorem st_119_35 : xsite 119 35 = some (4, 0, 3, 0) := by decide +kernel
theorem st_11_1 : xsite 11 1 = some (2, 0, 0, 0) := by decide +kernel
theorem st_11_13 : xsite 11 13 = some (4, 10, 1, 0) := by decide +kernel
theorem st_11_9 : xsite 11 9 = some (4, 10, 0, 0) := by decide +kernel
theorem st_120_222 : xsite 120 222 = some (0, 84, 1, 0) := by decide +kernel
theorem st_120_287 : xsite 120 287 = some (0, 121, 0, 0) := by decide +kernel
theorem st_120_290 : xsite 120 290 = some (0, 128, 0, 0) := by decide +kernel
theorem st_120_81 : xsite 120 81 = some (4, 0, 11, 0) := by decide +kernel
theorem st_121_18 : xsite 121 18 = some (4, 9, 4, 0) := by decide +kernel
theorem st_121_29 : xsite 121 29 = some (7, 0, 0, 0) := by decide +kernel
theorem st_121_32 : xsite 121 32 = some (0, 122, 0, 0) := by decide +kernel
theorem st_122_11 : xsite 122 11 = some (4, 9, 1, 0) := by decide +kernel
theorem st_122_15 : xsite 122 15 = some (4, 9, 2, 0) := by decide +kernel
theorem st_122_22 : xsite 122 22 = some (4, 9, 0, 0) := by decide +kernel
theorem st_122_26 : xsite 122 26 = some (4, 9, 3, 0) := by decide +kernel
theorem st_122_36 : xsite 122 36 = some (0, 123, 0, 0) := by decide +kernel
theorem st_122_42 : xsite 122 42 = some (0, 127, 0, 0) := by decide +kernel
theorem st_123_18 : xsite 123 18 = some (4, 8, 2, 0) := by decide +kernel
theorem st_123_22 : xsite 123 22 = some (4, 8, 3, 0) := by decide +kernel
theorem st_123_25 : xsite 123 25 = some (0, 124, 0, 0) := by decide +kernel
theorem st_123_29 : xsite 123 29 = some (0, 125, 0, 0) := by decide +kernel
theorem st_123_32 : xsite 123 32 = some (0, 126, 0, 0) := by decide +kernel
theorem st_124_15 : xsite 124 15 = some (4, 8, 1, 0) := by decide +kernel
theorem st_124_35 : xsite 124 35 = some (0, 6, 1, 0) := by decide +kernel
theorem st_124_41 : xsite 124 41 = some (0, 53, 1, 0) := by decide +kernel
theorem st_124_9 : xsite 124 9 = some (4, 8, 0, 0) := by decide +kernel
theorem st_125_15 : xsite 125 15 = some (4, 8, 1, 0) := by decide +kernel
theorem st_125_41 : xsite 125 41 = some (0, 53, 1, 0) := by decide +kernel
theorem st_125_9 : xsite 125 9 = some (4, 8, 0, 0) := by decide +kernel
theorem st_126_15 : xsite 126 15 = some (4, 8, 1, 0) := by decide +kernel
theorem st_126_35 : xsite 126 35 = some (0, 6, 1, 0) := by decide +kernel
theorem st_126_41 : xsite 126 41 = some (0, 53, 1, 0) := by decide +kernel
theorem st_126_47 : xsite 126 47 = some (10, 0, 0, 2) := by decide +kernel
theorem st_126_9 : xsite 126 9 = some (4, 8, 0, 0) := by decide +kernel
theorem st_127_9 : xsite 127 9 = some (4, 8, 0, 0) := by decide +kernel
theorem st_128_11 : xsite 128 11 = some (4, 9, 1, 0) := by decide +kernel
theorem st_128_26 : xsite 128 26 = some (4, 9, 3, 0) := by decide +kernel
theorem st_129_287 : xsite 129 287 = some (0, 121, 0, 0) := by decide +kernel
theorem st_129_293 : xsite 129 293 = some (0, 130, 0, 0) := by decide +kernel
theorem st_129_294 : xsite 129 294 = some (0, 131, 0, 0) := by decide +kernel
theorem st_129_295 : xsite 129 295 = some (0, 132, 0, 0) := by decide +kernel
theorem st_129_81 : xsite 129 81 = some (4, 0, 11, 0) := by decide +kernel
theorem st_12_15 : xsite 12 15 = some (4, 3, 1, 0) := by decide +kernel
theorem st_12_18 : xsite 12 18 = some (0, 13, 1, 0) := by decide +kernel
theorem st_12_24 : xsite 12 24 = some (4, 3, 2, 0) := by decide +kernel
theorem st_12_28 : xsite 12 28 = some (10, 0, 0, 5342931457063200) := by decide +kernel
theorem st_12_9 : xsite 12 9 = some (4, 3, 0, 0) := by decide +kernel
theorem st_130_26 : xsite 130 26 = some (4, 9, 3, 0) := by decide +kernel
theorem st_131_11 : xsite 131 11 = some (4, 9, 1, 0) := by decide +kernel
theorem st_131_26 : xsite 131 26 = some (4, 9, 3, 0) := by decide +kernel
theorem st_132_15 : xsite 132 15 = some (4, 9, 2, 0) := by decide +kernel
theorem st_132_26 : xsite 132 26 = some (4, 9, 3, 0) := by decide +kernel
theorem st_133_287 : xsite 133 287 = some (0, 121, 0, 0) := by decide +kernel
theorem st_133_293 : xsite 133 293 = some (0, 130, 0, 0) := by decide +kernel
theorem st_133_294 : xsite 133 294 = some (0, 131, 0, 0) := by decide +kernel
theorem st_133_295 : xsite 133 295 = some (0, 132, 0, 0) := by decide +kernel
theorem st_133_298 : xsite 133 298 = some (0, 134, 1, 0) := by decide +kernel
theorem st_133_81 : xsite 133 81 = some (4, 0, 11, 0) := by decide +kernel
theorem st_134_306 : xsite 134 306 = some (0, 54, 1, 0) := by decide +kernel
theorem st_134_458 : xsite 134 458 = some (0, 135, 1, 0) := by decide +kernel
theorem st_135_316 : xsite 135 316 = some (0, 53, 1, 0) := by decide +kernel
theorem st_135_437 : xsite 135 437 = some (0, 49, 1, 0) := by decide +kernel
theorem st_136_222 : xsite 136 222 = some (0, 84, 1, 0) := by decide +kernel
theorem st_136_232 : xsite 136 232 = some (0, 91, 1, 0) := by decide +kernel
theorem st_136_301 : xsite 136 301 = some (9, 0, 0, 1000000) := by decide +kernel
theorem st_137_120 : xsite 137 120 = some (0, 24, 1, 0) := by decide +kernel
theorem st_137_190 : xsite 137 190 = some (0, 47, 1, 0) := by decide +kernel
theorem st_137_222 : xsite 137 222 = some (0, 84, 1, 0) := by decide +kernel
theorem st_137_302 : xsite 137 302 = some (0, 50, 1, 0) := by decide +kernel
theorem st_137_306 : xsite 137 306 = some (0, 54, 1, 0) := by decide +kernel
theorem st_138_124 : xsite 138 124 = some (0, 25, 1, 0) := by decide +kernel
theorem st_138_222 : xsite 138 222 = some (0, 84, 1, 0) := by decide +kernel
theorem st_138_310 : xsite 138 310 = some (0, 123, 0, 0) := by decide +kernel
theorem st_138_313 : xsite 138 313 = some (0, 127, 0, 0) := by decide +kernel
theorem st_138_72 : xsite 138 72 = some (4, 0, 10, 0) := by decide +kernel
theorem st_139_124 : xsite 139 124 = some (0, 25, 1, 0) := by decide +kernel
theorem st_139_222 : xsite 139 222 = some (0, 84, 1, 0) := by decide +kernel
theorem st_139_310 : xsite 139 310 = some (0, 123, 0, 0) := by decide +kernel
theorem st_139_313 : xsite 139 313 = some (0, 127, 0, 0) := by decide +kernel
theorem st_139_72 : xsite 139 72 = some (4, 0, 10, 0) := by decide +kernel
theorem st_140_222 : xsite 140 222 = some (0, 84, 1, 0) := by decide +kernel
theorem st_140_316 : xsite 140 316 = some (0, 53, 1, 0) := by decide +kernel
theorem st_141_222 : xsite 141 222 = some (0, 84, 1, 0) := by decide +kernel
theorem st_142_222 : xsite 142 222 = some (0, 84, 1, 0) := by decide +kernel
theorem st_142_319 : xsite 142 319 = some (0, 143, 1, 0) := by decide +kernel
theorem st_143_13 : xsite 143 13 = some (0, 50, 1, 0) := by decide +kernel
theorem st_144_153 : xsite 144 153 = some (0, 116, 1, 0) := by decide +kernel
theorem st_144_166 : xsite 144 166 = some (10, 0, 0, -9223372036854775808) := by decide +kernel
theorem st_144_171 : xsite 144 171 = some (0, 117, 0, 0) := by decide +kernel
theorem st_144_222 : xsite 144 222 = some (0, 84, 1, 0) := by decide +kernel
theorem st_144_319 : xsite 144 319 = some (0, 143, 1, 0) := by decide +kernel
theorem st_144_321 : xsite 144 321 = some (10, 0, 0, 30) := by decide +kernel
theorem st_144_323 : xsite 144 323 = some (0, 145, 0, 0) := by decide +kernel
theorem st_144_327 : xsite 144 327 = some (0, 16, 0, 0) := by decide +kernel
theorem st_144_35 : xsite 144 35 = some (4, 0, 3, 0) := by decide +kernel
theorem st_144_95 : xsite 144 95 = some (4, 0, 13, 0) := by decide +kernel
theorem st_145_14 : xsite 145 14 = some (4, 0, 0, 0) := by decide +kernel
theorem st_145_336 : xsite 145 336 = some (0, 39, 0, 0) := by decide +kernel
theorem st_145_461 : xsite 145 461 = some (0, 146, 0, 0) := by decide +kernel
theorem st_146_38 : xsite 146 38 = some (0, 29, 0, 0) := by decide +kernel
theorem st_146_42 : xsite 146 42 = some (0, 30, 0, 0) := by decide +kernel
theorem st_146_55 : xsite 146 55 = some (0, 31, 0, 0) := by decide +kernel
theorem st_147_184 : xsite 147 184 = some (6, 0, 0, 0) := by decide +kernel
theorem st_147_287 : xsite 147 287 = some (0, 121, 0, 0) := by decide +kernel
theorem st_147_290 : xsite 147 290 = some (0, 128, 0, 0) := by decide +kernel
theorem st_147_81 : xsite 147 81 = some (4, 0, 11, 0) := by decide +kernel
theorem st_148_14 : xsite 148 14 = some (4, 0, 0, 0) := by decide +kernel
theorem st_148_166 : xsite 148 166 = some (10, 0, 0, -9223372036854775808) := by decide +kernel
theorem st_148_168 : xsite 148 168 = some (0, 100, 0, 0) := by decide +kernel
theorem st_148_218 : xsite 148 218 = some (4, 5, 0, 0) := by decide +kernel
theorem st_148_327 : xsite 148 327 = some (0, 16, 0, 0) := by decide +kernel
theorem st_148_331 : xsite 148 331 = some (10, 0, 0, -2) := by decide +kernel
theorem st_148_333 : xsite 148 333 = some (0, 149, 1, 0) := by decide +kernel
theorem st_148_336 : xsite 148 336 = some (0, 39, 0, 0) := by decide +kernel
theorem st_148_339 : xsite 148 339 = some (0, 43, 0, 0) := by decide +kernel
theorem st_148_342 : xsite 148 342 = some (0, 44, 0, 0) := by decide +kernel
theorem st_148_345 : xsite 148 345 = some (0, 150, 0, 0) := by decide +kernel
theorem st_148_349 : xsite 148 349 = some (4, 5, 2, 0) := by decide +kernel
theorem st_148_39 : xsite 148 39 = some (4, 0, 4, 0) := by decide +kernel
theorem st_148_49 : xsite 148 49 = some (4, 0, 7, 0) := by decide +kernel
theorem st_148_95 : xsite 148 95 = some (4, 0, 13, 0) := by decide +kernel
theorem st_14_43 : xsite 14 43 = some (0, 15, 0, 0) := by decide +kernel
theorem st_14_47 : xsite 14 47 = some (4, 5, 0, 0) := by decide +kernel
theorem st_150_25 : xsite 150 25 = some (4, 5, 0, 0) := by decide +kernel
theorem st_150_28 : xsite 150 28 = some (4, 5, 1, 0) := by decide +kernel
theorem st_150_7 : xsite 150 7 = some (4, 5, 2, 0) := by decide +kernel
theorem st_151_352 : xsite 151 352 = some (0, 152, 1, 0) := by decide +kernel
theorem st_151_355 : xsite 151 355 = some (0, 153, 0, 0) := by decide +kernel
theorem st_151_358 : xsite 151 358 = some (0, 154, 0, 0) := by decide +kernel
theorem st_151_49 : xsite 151 49 = some (4, 0, 7, 0) := by decide +kernel
theorem st_152_417 : xsite 152 417 = some (9, 0, 0, 1000000000) := by decide +kernel
theorem st_153_333 : xsite 153 333 = some (0, 149, 1, 0) := by decide +kernel
theorem st_153_369 : xsite 153 369 = some (10, 0, 0, 1000000007) := by decide +kernel
theorem st_153_39 : xsite 153 39 = some (4, 0, 4, 0) := by decide +kernel
theorem st_153_444 : xsite 153 444 = some (0, 73, 0, 0) := by decide +kernel
theorem st_153_99 : xsite 153 99 = some (4, 0, 14, 0) := by decide +kernel
theorem st_154_14 : xsite 154 14 = some (4, 0, 0, 0) := by decide +kernel
theorem st_154_316 : xsite 154 316 = some (0, 53, 1, 0) := by decide +kernel
theorem st_154_336 : xsite 154 336 = some (0, 39, 0, 0) := by decide +kernel
theorem st_154_369 : xsite 154 369 = some (10, 0, 0, 1000000007) := by decide +kernel
theorem st_154_99 : xsite 154 99 = some (4, 0, 14, 0) := by decide +kernel
theorem st_155_352 : xsite 155 352 = some (0, 152, 1, 0) := by decide +kernel
theorem st_155_362 : xsite 155 362 = some (0, 156, 0, 0) := by decide +kernel
theorem st_155_365 : xsite 155 365 = some (0, 162, 0, 0) := by decide +kernel
theorem st_155_88 : xsite 155 88 = some (4, 0, 12, 0) := by decide +kernel
theorem st_156_14 : xsite 156 14 = some (4, 0, 0, 0) := by decide +kernel
theorem st_156_333 : xsite 156 333 = some (0, 149, 1, 0) := by decide +kernel
theorem st_156_336 : xsite 156 336 = some (0, 39, 0, 0) := by decide +kernel
theorem st_156_35 : xsite 156 35 = some (4, 0, 3, 0) := by decide +kernel
theorem st_156_461 : xsite 156 461 = some (0, 146, 0, 0) := by decide +kernel
theorem st_156_464 : xsite 156 464 = some (0, 157, 0, 0) := by decide +kernel
theorem st_156_467 : xsite 156 467 = some (10, 0, 0, 223092870) := by decide +kernel
theorem st_156_469 : xsite 156 469 = some (0, 158, 0, 0) := by decide +kernel
theorem st_156_473 : xsite 156 473 = some (0, 159, 0, 0) := by decide +kernel
theorem st_156_474 : xsite 156 474 = some (0, 160, 0, 0) := by decide +kernel
theorem st_156_88 : xsite 156 88 = some (4, 0, 12, 0) := by decide +kernel
theorem st_157_17 : xsite 157 17 = some (0, 6, 1, 0) := by decide +kernel
theorem st_157_9 : xsite 157 9 = some (4, 10, 0, 0) := by decide +kernel
theorem st_158_23 : xsite 158 23 = some (10, 0, 0, 1000000000) := by decide +kernel
theorem st_158_25 : xsite 158 25 = some (0, 17, 1, 0) := by decide +kernel
theorem st_158_31 : xsite 158 31 = some (0, 19, 1, 0) := by decide +kernel
theorem st_158_9 : xsite 158 9 = some (4, 10, 0, 0) := by decide +kernel
theorem st_159_23 : xsite 159 23 = some (10, 0, 0, 1000000000) := by decide +kernel
theorem st_159_9 : xsite 159 9 = some (4, 10, 0, 0) := by decide +kernel
theorem st_15_15 : xsite 15 15 = some (4, 3, 1, 0) := by decide +kernel
theorem st_15_28 : xsite 15 28 = some (10, 0, 0, 5342931457063200) := by decide +kernel
theorem st_15_37 : xsite 15 37 = some (0, 16, 0, 0) := by decide +kernel
theorem st_15_9 : xsite 15 9 = some (4, 3, 0, 0) := by decide +kernel
theorem st_160_13 : xsite 160 13 = some (4, 10, 1, 0) := by decide +kernel
theorem st_160_34 : xsite 160 34 = some (0, 161, 0, 0) := by decide +kernel
theorem st_161_38 : xsite 161 38 = some (10, 0, 0, 10) := by decide +kernel
theorem st_161_9 : xsite 161 9 = some (4, 10, 0, 0) := by decide +kernel
theorem st_162_13 : xsite 162 13 = some (4, 10, 1, 0) := by decide +kernel
theorem st_163_352 : xsite 163 352 = some (0, 152, 1, 0) := by decide +kernel
theorem st_163_362 : xsite 163 362 = some (0, 156, 0, 0) := by decide +kernel
theorem st_163_365 : xsite 163 365 = some (0, 162, 0, 0) := by decide +kernel
theorem st_163_366 : xsite 163 366 = some (0, 164, 0, 0) := by decide +kernel
theorem st_163_88 : xsite 163 88 = some (4, 0, 12, 0) := by decide +kernel
theorem st_164_13 : xsite 164 13 = some (4, 10, 1, 0) := by decide +kernel
theorem st_164_34 : xsite 164 34 = some (0, 161, 0, 0) := by decide +kernel
theorem st_165_14 : xsite 165 14 = some (4, 0, 0, 0) := by decide +kernel
theorem st_165_302 : xsite 165 302 = some (0, 50, 1, 0) := by decide +kernel
theorem st_165_336 : xsite 165 336 = some (0, 39, 0, 0) := by decide +kernel
theorem st_165_352 : xsite 165 352 = some (0, 152, 1, 0) := by decide +kernel
theorem st_165_355 : xsite 165 355 = some (0, 153, 0, 0) := by decide +kernel
theorem st_165_358 : xsite 165 358 = some (0, 154, 0, 0) := by decide +kernel
theorem st_165_369 : xsite 165 369 = some (10, 0, 0, 1000000007) := by decide +kernel
theorem st_165_49 : xsite 165 49 = some (4, 0, 7, 0) := by decide +kernel
theorem st_166_103 : xsite 166 103 = some (4, 0, 15, 0) := by decide +kernel
theorem st_166_166 : xsite 166 166 = some (10, 0, 0, -9223372036854775808) := by decide +kernel
theorem st_166_327 : xsite 166 327 = some (0, 16, 0, 0) := by decide +kernel
theorem st_166_331 : xsite 166 331 = some (10, 0, 0, -2) := by decide +kernel
theorem st_166_345 : xsite 166 345 = some (0, 150, 0, 0) := by decide +kernel
theorem st_166_349 : xsite 166 349 = some (4, 5, 2, 0) := by decide +kernel
theorem st_166_371 : xsite 166 371 = some (0, 167, 0, 0) := by decide +kernel
theorem st_166_374 : xsite 166 374 = some (10, 0, 0, -3) := by decide +kernel
theorem st_166_376 : xsite 166 376 = some (10, 0, 0, 30030) := by decide +kernel
theorem st_166_49 : xsite 166 49 = some (4, 0, 7, 0) := by decide +kernel
theorem st_166_95 : xsite 166 95 = some (4, 0, 13, 0) := by decide +kernel
theorem st_167_103 : xsite 167 103 = some (4, 0, 15, 0) := by decide +kernel
theorem st_167_14 : xsite 167 14 = some (4, 0, 0, 0) := by decide +kernel
theorem st_167_333 : xsite 167 333 = some (0, 149, 1, 0) := by decide +kernel
theorem st_167_336 : xsite 167 336 = some (0, 39, 0, 0) := by decide +kernel
theorem st_167_376 : xsite 167 376 = some (10, 0, 0, 30030) := by decide +kernel
theorem st_167_39 : xsite 167 39 = some (4, 0, 4, 0) := by decide +kernel
theorem st_167_461 : xsite 167 461 = some (0, 146, 0, 0) := by decide +kernel
theorem st_167_99 : xsite 167 99 = some (4, 0, 14, 0) := by decide +kernel
theorem st_168_120 : xsite 168 120 = some (0, 24, 1, 0) := by decide +kernel
theorem st_168_14 : xsite 168 14 = some (4, 0, 0, 0) := by decide +kernel
theorem st_168_153 : xsite 168 153 = some (0, 116, 1, 0) := by decide +kernel
theorem st_168_166 : xsite 168 166 = some (10, 0, 0, -9223372036854775808) := by decide +kernel
theorem st_168_168 : xsite 168 168 = some (0, 100, 0, 0) := by decide +kernel
theorem st_168_171 : xsite 168 171 = some (0, 117, 0, 0) := by decide +kernel
theorem st_168_336 : xsite 168 336 = some (0, 39, 0, 0) := by decide +kernel
theorem st_168_339 : xsite 168 339 = some (0, 43, 0, 0) := by decide +kernel
theorem st_168_39 : xsite 168 39 = some (4, 0, 4, 0) := by decide +kernel
theorem st_168_49 : xsite 168 49 = some (4, 0, 7, 0) := by decide +kernel
theorem st_168_95 : xsite 168 95 = some (4, 0, 13, 0) := by decide +kernel
theorem st_169_153 : xsite 169 153 = some (0, 116, 1, 0) := by decide +kernel
theorem st_169_166 : xsite 169 166 = some (10, 0, 0, -9223372036854775808) := by decide +kernel
theorem st_169_171 : xsite 169 171 = some (0, 117, 0, 0) := by decide +kernel
theorem st_169_323 : xsite 169 323 = some (0, 145, 0, 0) := by decide +kernel
theorem st_169_327 : xsite 169 327 = some (0, 16, 0, 0) := by decide +kernel
theorem st_169_378 : xsite 169 378 = some (10, 0, 0, 2310) := by decide +kernel
theorem st_169_39 : xsite 169 39 = some (4, 0, 4, 0) := by decide +kernel
theorem st_169_49 : xsite 169 49 = some (4, 0, 7, 0) := by decide +kernel
theorem st_169_95 : xsite 169 95 = some (4, 0, 13, 0) := by decide +kernel
theorem st_16_13 : xsite 16 13 = some (0, 17, 1, 0) := by decide +kernel
theorem st_16_19 : xsite 16 19 = some (0, 18, 1, 0) := by decide +kernel
theorem st_16_22 : xsite 16 22 = some (0, 19, 1, 0) := by decide +kernel
theorem st_16_25 : xsite 16 25 = some (4, 5, 0, 0) := by decide +kernel
theorem st_16_28 : xsite 16 28 = some (4, 5, 1, 0) := by decide +kernel
theorem st_16_7 : xsite 16 7 = some (4, 5, 2, 0) := by decide +kernel
theorem st_170_120 : xsite 170 120 = some (0, 24, 1, 0) := by decide +kernel
theorem st_170_222 : xsite 170 222 = some (0, 84, 1, 0) := by decide +kernel
theorem st_170_380 : xsite 170 380 = some (0, 171, 0, 0) := by decide +kernel
theorem st_170_383 : xsite 170 383 = some (0, 172, 0, 0) := by decide +kernel
theorem st_170_49 : xsite 170 49 = some (4, 0, 7, 0) := by decide +kernel
theorem st_171_14 : xsite 171 14 = some (4, 0, 0, 0) := by decide +kernel
theorem st_171_204 : xsite 171 204 = some (0, 31, 0, 0) := by decide +kernel
theorem st_171_336 : xsite 171 336 = some (0, 39, 0, 0) := by decide +kernel
theorem st_171_39 : xsite 171 39 = some (4, 0, 4, 0) := by decide +kernel
theorem st_171_444 : xsite 171 444 = some (0, 73, 0, 0) := by decide +kernel
theorem st_171_99 : xsite 171 99 = some (4, 0, 14, 0) := by decide +kernel
theorem st_172_99 : xsite 172 99 = some (4, 0, 14, 0) := by decide +kernel
theorem st_173_120 : xsite 173 120 = some (0, 24, 1, 0) := by decide +kernel
theorem st_173_222 : xsite 173 222 = some (0, 84, 1, 0) := by decide +kernel
theorem st_173_380 : xsite 173 380 = some (0, 171, 0, 0) := by decide +kernel
theorem st_173_383 : xsite 173 383 = some (0, 172, 0, 0) := by decide +kernel
theorem st_173_49 : xsite 173 49 = some (4, 0, 7, 0) := by decide +kernel
theorem st_174_153 : xsite 174 153 = some (0, 116, 1, 0) := by decide +kernel
theorem st_174_166 : xsite 174 166 = some (10, 0, 0, -9223372036854775808) := by decide +kernel
theorem st_174_168 : xsite 174 168 = some (0, 100, 0, 0) := by decide +kernel
theorem st_174_171 : xsite 174 171 = some (0, 117, 0, 0) := by decide +kernel
theorem st_174_339 : xsite 174 339 = some (0, 43, 0, 0) := by decide +kernel
theorem st_174_342 : xsite 174 342 = some (0, 44, 0, 0) := by decide +kernel
theorem st_174_387 : xsite 174 387 = some (10, 0, 0, -1) := by decide +kernel
theorem st_174_39 : xsite 174 39 = some (4, 0, 4, 0) := by decide +kernel
theorem st_174_49 : xsite 174 49 = some (4, 0, 7, 0) := by decide +kernel
theorem st_174_95 : xsite 174 95 = some (4, 0, 13, 0) := by decide +kernel
theorem st_175_166 : xsite 175 166 = some (10, 0, 0, -9223372036854775808) := by decide +kernel
theorem st_175_168 : xsite 175 168 = some (0, 100, 0, 0) := by decide +kernel
theorem st_175_218 : xsite 175 218 = some (4, 5, 0, 0) := by decide +kernel
theorem st_175_339 : xsite 175 339 = some (0, 43, 0, 0) := by decide +kernel
theorem st_175_389 : xsite 175 389 = some (10, 0, 0, 2) := by decide +kernel
theorem st_175_39 : xsite 175 39 = some (4, 0, 4, 0) := by decide +kernel
theorem st_175_391 : xsite 175 391 = some (4, 5, 1, 0) := by decide +kernel
theorem st_175_49 : xsite 175 49 = some (4, 0, 7, 0) := by decide +kernel
theorem st_175_95 : xsite 175 95 = some (4, 0, 13, 0) := by decide +kernel
theorem st_176_166 : xsite 176 166 = some (10, 0, 0, -9223372036854775808) := by decide +kernel
theorem st_176_394 : xsite 176 394 = some (0, 177, 0, 0) := by decide +kernel
theorem st_176_99 : xsite 176 99 = some (4, 0, 14, 0) := by decide +kernel
theorem st_177_477 : xsite 177 477 = some (0, 6, 1, 0) := by decide +kernel
theorem st_177_482 : xsite 177 482 = some (0, 13, 1, 0) := by decide +kernel
theorem st_177_485 : xsite 177 485 = some (0, 178, 1, 0) := by decide +kernel
theorem st_177_99 : xsite 177 99 = some (4, 0, 14, 0) := by decide +kernel
theorem st_178_387 : xsite 178 387 = some (10, 0, 0, -1) := by decide +kernel
theorem st_178_489 : xsite 178 489 = some (10, 0, 0, 9223372036854775807) := by decide +kernel
theorem st_179_153 : xsite 179 153 = some (0, 116, 1, 0) := by decide +kernel
theorem st_179_166 : xsite 179 166 = some (10, 0, 0, -9223372036854775808) := by decide +kernel
theorem st_179_171 : xsite 179 171 = some (0, 117, 0, 0) := by decide +kernel
theorem st_179_195 : xsite 179 195 = some (0, 37, 0, 0) := by decide +kernel
theorem st_179_207 : xsite 179 207 = some (0, 41, 0, 0) := by decide +kernel
theorem st_179_21 : xsite 179 21 = some (4, 0, 1, 0) := by decide +kernel
theorem st_179_214 : xsite 179 214 = some (0, 42, 0, 0) := by decide +kernel
theorem st_179_387 : xsite 179 387 = some (10, 0, 0, -1) := by decide +kernel
theorem st_179_394 : xsite 179 394 = some (0, 177, 0, 0) := by decide +kernel
theorem st_179_397 : xsite 179 397 = some (10, 0, 0, 232792560) := by decide +kernel
theorem st_179_95 : xsite 179 95 = some (4, 0, 13, 0) := by decide +kernel
theorem st_179_99 : xsite 179 99 = some (4, 0, 14, 0) := by decide +kernel
theorem st_180_103 : xsite 180 103 = some (4, 0, 15, 0) := by decide +kernel
theorem st_180_166 : xsite 180 166 = some (10, 0, 0, -9223372036854775808) := by decide +kernel
theorem st_180_399 : xsite 180 399 = some (3, 0, 0, 0) := by decide +kernel
theorem st_180_99 : xsite 180 99 = some (4, 0, 14, 0) := by decide +kernel
theorem st_181_166 : xsite 181 166 = some (10, 0, 0, -9223372036854775808) := by decide +kernel
theorem st_181_168 : xsite 181 168 = some (0, 100, 0, 0) := by decide +kernel
theorem st_181_190 : xsite 181 190 = some (0, 47, 1, 0) := by decide +kernel
theorem st_181_218 : xsite 181 218 = some (4, 5, 0, 0) := by decide +kernel
theorem st_181_255 : xsite 181 255 = some (0, 63, 0, 0) := by decide +kernel
theorem st_181_339 : xsite 181 339 = some (0, 43, 0, 0) := by decide +kernel
theorem st_181_342 : xsite 181 342 = some (0, 44, 0, 0) := by decide +kernel
theorem st_181_39 : xsite 181 39 = some (4, 0, 4, 0) := by decide +kernel
theorem st_181_391 : xsite 181 391 = some (4, 5, 1, 0) := by decide +kernel
theorem st_181_49 : xsite 181 49 = some (4, 0, 7, 0) := by decide +kernel
theorem st_181_95 : xsite 181 95 = some (4, 0, 13, 0) := by decide +kernel
theorem st_182_198 : xsite 182 198 = some (0, 29, 0, 0) := by decide +kernel
theorem st_182_39 : xsite 182 39 = some (4, 0, 4, 0) := by decide +kernel
theorem st_182_405 : xsite 182 405 = some (0, 183, 1, 0) := by decide +kernel
theorem st_182_49 : xsite 182 49 = some (4, 0, 7, 0) := by decide +kernel
theorem st_184_238 : xsite 184 238 = some (0, 93, 0, 0) := by decide +kernel
theorem st_184_411 : xsite 184 411 = some (0, 185, 0, 0) := by decide +kernel
theorem st_184_414 : xsite 184 414 = some (0, 186, 0, 0) := by decide +kernel
theorem st_184_49 : xsite 184 49 = some (4, 0, 7, 0) := by decide +kernel
theorem st_184_65 : xsite 184 65 = some (4, 0, 9, 0) := by decide +kernel
theorem st_185_174 : xsite 185 174 = some (0, 27, 0, 0) := by decide +kernel
theorem st_185_49 : xsite 185 49 = some (4, 0, 7, 0) := by decide +kernel
theorem st_186_238 : xsite 186 238 = some (0, 93, 0, 0) := by decide +kernel
theorem st_186_252 : xsite 186 252 = some (0, 97, 0, 0) := by decide +kernel
theorem st_186_65 : xsite 186 65 = some (4, 0, 9, 0) := by decide +kernel
theorem st_187_153 : xsite 187 153 = some (0, 116, 1, 0) := by decide +kernel
theorem st_187_163 : xsite 187 163 = some (0, 99, 0, 0) := by decide +kernel
theorem st_187_166 : xsite 187 166 = some (10, 0, 0, -9223372036854775808) := by decide +kernel
theorem st_187_168 : xsite 187 168 = some (0, 100, 0, 0) := by decide +kernel
theorem st_187_171 : xsite 187 171 = some (0, 117, 0, 0) := by decide +kernel
theorem st_187_39 : xsite 187 39 = some (4, 0, 4, 0) := by decide +kernel
theorem st_187_95 : xsite 187 95 = some (4, 0, 13, 0) := by decide +kernel
theorem st_188_1 : xsite 188 1 = some (2, 0, 0, 0) := by decide +kernel
theorem st_188_103 : xsite 188 103 = some (0, 190, 0, 0) := by decide +kernel
theorem st_188_107 : xsite 188 107 = some (4, 12, 8, 0) := by decide +kernel
theorem st_188_111 : xsite 188 111 = some (4, 12, 9, 0) := by decide +kernel
theorem st_188_114 : xsite 188 114 = some (0, 192, 0, 0) := by decide +kernel
theorem st_188_13 : xsite 188 13 = some (4, 12, 2, 0) := by decide +kernel
theorem st_188_16 : xsite 188 16 = some (4, 12, 3, 0) := by decide +kernel
theorem st_188_20 : xsite 188 20 = some (4, 12, 4, 0) := by decide +kernel
theorem st_188_24 : xsite 188 24 = some (4, 12, 5, 0) := by decide +kernel
theorem st_188_27 : xsite 188 27 = some (4, 12, 6, 0) := by decide +kernel
theorem st_188_30 : xsite 188 30 = some (4, 12, 10, 0) := by decide +kernel
theorem st_188_33 : xsite 188 33 = some (4, 12, 11, 0) := by decide +kernel
theorem st_188_36 : xsite 188 36 = some (4, 12, 12, 0) := by decide +kernel
theorem st_188_39 : xsite 188 39 = some (4, 12, 15, 0) := by decide +kernel
theorem st_188_42 : xsite 188 42 = some (4, 12, 16, 0) := by decide +kernel
theorem st_188_45 : xsite 188 45 = some (4, 12, 17, 0) := by decide +kernel
theorem st_188_48 : xsite 188 48 = some (4, 12, 18, 0) := by decide +kernel
theorem st_188_51 : xsite 188 51 = some (4, 12, 19, 0) := by decide +kernel
theorem st_188_54 : xsite 188 54 = some (4, 12, 20, 0) := by decide +kernel
theorem st_188_57 : xsite 188 57 = some (4, 12, 21, 0) := by decide +kernel
theorem st_188_60 : xsite 188 60 = some (4, 12, 22, 0) := by decide +kernel
theorem st_188_63 : xsite 188 63 = some (4, 12, 23, 0) := by decide +kernel
theorem st_188_66 : xsite 188 66 = some (4, 12, 24, 0) := by decide +kernel
theorem st_188_69 : xsite 188 69 = some (4, 12, 25, 0) := by decide +kernel
theorem st_188_7 : xsite 188 7 = some (4, 12, 1, 0) := by decide +kernel
theorem st_188_72 : xsite 188 72 = some (4, 12, 26, 0) := by decide +kernel
theorem st_188_75 : xsite 188 75 = some (4, 12, 27, 0) := by decide +kernel
theorem st_188_78 : xsite 188 78 = some (4, 12, 28, 0) := by decide +kernel
theorem st_188_81 : xsite 188 81 = some (4, 12, 29, 0) := by decide +kernel
theorem st_188_84 : xsite 188 84 = some (4, 12, 30, 0) := by decide +kernel
theorem st_188_87 : xsite 188 87 = some (4, 12, 31, 0) := by decide +kernel
theorem st_188_90 : xsite 188 90 = some (4, 12, 32, 0) := by decide +kernel
theorem st_188_93 : xsite 188 93 = some (4, 12, 33, 0) := by decide +kernel
theorem st_188_96 : xsite 188 96 = some (4, 12, 7, 0) := by decide +kernel
theorem st_188_99 : xsite 188 99 = some (0, 189, 1, 0) := by decide +kernel
theorem st_190_107 : xsite 190 107 = some (4, 12, 8, 0) := by decide +kernel
theorem st_190_111 : xsite 190 111 = some (4, 12, 9, 0) := by decide +kernel
theorem st_190_125 : xsite 190 125 = some (10, 0, 0, 7420738134810) := by decide +kernel
theorem st_190_127 : xsite 190 127 = some (0, 191, 0, 0) := by decide +kernel
theorem st_190_24 : xsite 190 24 = some (4, 12, 5, 0) := by decide +kernel
theorem st_191_107 : xsite 191 107 = some (4, 12, 8, 0) := by decide +kernel
theorem st_191_111 : xsite 191 111 = some (4, 12, 9, 0) := by decide +kernel
theorem st_191_125 : xsite 191 125 = some (10, 0, 0, 7420738134810) := by decide +kernel
theorem st_192_125 : xsite 192 125 = some (10, 0, 0, 7420738134810) := by decide +kernel
theorem st_192_131 : xsite 192 131 = some (0, 193, 1, 0) := by decide +kernel
theorem st_192_134 : xsite 192 134 = some (0, 194, 0, 0) := by decide +kernel
theorem st_194_121 : xsite 194 121 = some (0, 195, 1, 0) := by decide +kernel
theorem st_194_99 : xsite 194 99 = some (0, 189, 1, 0) := by decide +kernel
theorem st_196_118 : xsite 196 118 = some (4, 12, 0, 0) := by decide +kernel
theorem st_197_118 : xsite 197 118 = some (4, 12, 0, 0) := by decide +kernel
theorem st_197_137 : xsite 197 137 = some (0, 199, 1, 0) := by decide +kernel
theorem st_197_145 : xsite 197 145 = some (0, 198, 0, 0) := by decide +kernel
theorem st_197_148 : xsite 197 148 = some (0, 200, 0, 0) := by decide +kernel
theorem st_197_151 : xsite 197 151 = some (0, 202, 0, 0) := by decide +kernel
theorem st_197_20 : xsite 197 20 = some (4, 12, 4, 0) := by decide +kernel
theorem st_198_137 : xsite 198 137 = some (0, 199, 1, 0) := by decide +kernel
theorem st_1_11 : xsite 1 11 = some (4, 1, 0, 0) := by decide +kernel
theorem st_1_3 : xsite 1 3 = some (2, 0, 0, 0) := by decide +kernel
theorem st_200_141 : xsite 200 141 = some (0, 201, 0, 0) := by decide +kernel
theorem st_201_13 : xsite 201 13 = some (4, 12, 2, 0) := by decide +kernel
theorem st_201_7 : xsite 201 7 = some (4, 12, 1, 0) := by decide +kernel
theorem st_202_13 : xsite 202 13 = some (4, 12, 2, 0) := by decide +kernel
theorem st_202_16 : xsite 202 16 = some (4, 12, 3, 0) := by decide +kernel
theorem st_202_7 : xsite 202 7 = some (4, 12, 1, 0) := by decide +kernel
theorem st_202_99 : xsite 202 99 = some (0, 189, 1, 0) := by decide +kernel
theorem st_203_118 : xsite 203 118 = some (4, 12, 0, 0) := by decide +kernel
theorem st_203_137 : xsite 203 137 = some (0, 199, 1, 0) := by decide +kernel
theorem st_203_141 : xsite 203 141 = some (0, 201, 0, 0) := by decide +kernel
theorem st_203_145 : xsite 203 145 = some (0, 198, 0, 0) := by decide +kernel
theorem st_203_148 : xsite 203 148 = some (0, 200, 0, 0) := by decide +kernel
theorem st_203_151 : xsite 203 151 = some (0, 202, 0, 0) := by decide +kernel
theorem st_203_20 : xsite 203 20 = some (4, 12, 4, 0) := by decide +kernel
theorem st_204_118 : xsite 204 118 = some (4, 12, 0, 0) := by decide +kernel
theorem st_204_137 : xsite 204 137 = some (0, 199, 1, 0) := by decide +kernel
theorem st_204_145 : xsite 204 145 = some (0, 198, 0, 0) := by decide +kernel
theorem st_204_155 : xsite 204 155 = some (0, 205, 0, 0) := by decide +kernel
theorem st_204_158 : xsite 204 158 = some (0, 206, 0, 0) := by decide +kernel
theorem st_204_16 : xsite 204 16 = some (4, 12, 3, 0) := by decide +kernel
theorem st_204_20 : xsite 204 20 = some (4, 12, 4, 0) := by decide +kernel
theorem st_205_13 : xsite 205 13 = some (4, 12, 2, 0) := by decide +kernel
theorem st_205_131 : xsite 205 131 = some (0, 193, 1, 0) := by decide +kernel
theorem st_205_134 : xsite 205 134 = some (0, 194, 0, 0) := by decide +kernel
theorem st_206_13 : xsite 206 13 = some (4, 12, 2, 0) := by decide +kernel
theorem st_206_218 : xsite 206 218 = some (0, 207, 0, 0) := by decide +kernel
theorem st_206_221 : xsite 206 221 = some (0, 208, 0, 0) := by decide +kernel
theorem st_206_225 : xsite 206 225 = some (0, 209, 0, 0) := by decide +kernel
theorem st_206_228 : xsite 206 228 = some (0, 210, 1, 0) := by decide +kernel
theorem st_206_231 : xsite 206 231 = some (0, 211, 0, 0) := by decide +kernel
theorem st_206_234 : xsite 206 234 = some (0, 212, 0, 0) := by decide +kernel
theorem st_206_237 : xsite 206 237 = some (0, 217, 0, 0) := by decide +kernel
theorem st_207_107 : xsite 207 107 = some (4, 12, 8, 0) := by decide +kernel
theorem st_207_111 : xsite 207 111 = some (4, 12, 9, 0) := by decide +kernel
theorem st_207_125 : xsite 207 125 = some (10, 0, 0, 7420738134810) := by decide +kernel
theorem st_207_127 : xsite 207 127 = some (0, 191, 0, 0) := by decide +kernel
theorem st_207_13 : xsite 207 13 = some (4, 12, 2, 0) := by decide +kernel
theorem st_207_131 : xsite 207 131 = some (0, 193, 1, 0) := by decide +kernel
theorem st_207_24 : xsite 207 24 = some (4, 12, 5, 0) := by decide +kernel
theorem st_208_216 : xsite 208 216 = some (10, 0, 0, 2) := by decide +kernel
theorem st_208_27 : xsite 208 27 = some (4, 12, 6, 0) := by decide +kernel
theorem st_209_13 : xsite 209 13 = some (4, 12, 2, 0) := by decide +kernel
theorem st_20_15 : xsite 20 15 = some (4, 4, 1, 0) := by decide +kernel
theorem st_20_18 : xsite 20 18 = some (4, 4, 2, 0) := by decide +kernel
theorem st_20_34 : xsite 20 34 = some (0, 21, 1, 0) := by decide +kernel
theorem st_20_45 : xsite 20 45 = some (4, 5, 0, 0) := by decide +kernel
theorem st_20_49 : xsite 20 49 = some (4, 5, 1, 0) := by decide +kernel
theorem st_20_52 : xsite 20 52 = some (4, 5, 2, 0) := by decide +kernel
theorem st_20_9 : xsite 20 9 = some (4, 4, 0, 0) := by decide +kernel
theorem st_211_103 : xsite 211 103 = some (0, 190, 0, 0) := by decide +kernel
theorem st_211_107 : xsite 211 107 = some (4, 12, 8, 0) := by decide +kernel
theorem st_211_111 : xsite 211 111 = some (4, 12, 9, 0) := by decide +kernel
theorem st_211_13 : xsite 211 13 = some (4, 12, 2, 0) := by decide +kernel
theorem st_212_205 : xsite 212 205 = some (0, 213, 0, 0) := by decide +kernel
theorem st_212_27 : xsite 212 27 = some (4, 12, 6, 0) := by decide +kernel
theorem st_213_13 : xsite 213 13 = some (4, 12, 2, 0) := by decide +kernel
theorem st_213_170 : xsite 213 170 = some (0, 215, 1, 0) := by decide +kernel
theorem st_213_174 : xsite 213 174 = some (0, 216, 1, 0) := by decide +kernel
theorem st_213_188 : xsite 213 188 = some (0, 214, 0, 0) := by decide +kernel
theorem st_214_170 : xsite 214 170 = some (0, 215, 1, 0) := by decide +kernel
theorem st_214_174 : xsite 214 174 = some (0, 216, 1, 0) := by decide +kernel
theorem st_217_13 : xsite 217 13 = some (4, 12, 2, 0) := by decide +kernel
theorem st_217_188 : xsite 217 188 = some (0, 214, 0, 0) := by decide +kernel
theorem st_217_27 : xsite 217 27 = some (4, 12, 6, 0) := by decide +kernel
theorem st_218_118 : xsite 218 118 = some (4, 12, 0, 0) := by decide +kernel
theorem st_218_13 : xsite 218 13 = some (4, 12, 2, 0) := by decide +kernel
theorem st_218_137 : xsite 218 137 = some (0, 199, 1, 0) := by decide +kernel
theorem st_218_162 : xsite 218 162 = some (0, 219, 0, 0) := by decide +kernel
theorem st_218_166 : xsite 218 166 = some (10, 0, 0, -9223372036854775808) := by decide +kernel
theorem st_218_20 : xsite 218 20 = some (4, 12, 4, 0) := by decide +kernel
theorem st_219_118 : xsite 219 118 = some (4, 12, 0, 0) := by decide +kernel
theorem st_220_118 : xsite 220 118 = some (4, 12, 0, 0) := by decide +kernel
theorem st_220_145 : xsite 220 145 = some (0, 198, 0, 0) := by decide +kernel
theorem st_220_16 : xsite 220 16 = some (4, 12, 3, 0) := by decide +kernel
theorem st_220_20 : xsite 220 20 = some (4, 12, 4, 0) := by decide +kernel
theorem st_221_118 : xsite 221 118 = some (4, 12, 0, 0) := by decide +kernel
theorem st_221_141 : xsite 221 141 = some (0, 201, 0, 0) := by decide +kernel
theorem st_221_145 : xsite 221 145 = some (0, 198, 0, 0) := by decide +kernel
theorem st_221_20 : xsite 221 20 = some (4, 12, 4, 0) := by decide +kernel
theorem st_222_118 : xsite 222 118 = some (4, 12, 0, 0) := by decide +kernel
theorem st_222_141 : xsite 222 141 = some (0, 201, 0, 0) := by decide +kernel
theorem st_222_145 : xsite 222 145 = some (0, 198, 0, 0) := by decide +kernel
theorem st_222_148 : xsite 222 148 = some (0, 200, 0, 0) := by decide +kernel
theorem st_222_20 : xsite 222 20 = some (4, 12, 4, 0) := by decide +kernel
theorem st_223_118 : xsite 223 118 = some (4, 12, 0, 0) := by decide +kernel
theorem st_223_145 : xsite 223 145 = some (0, 198, 0, 0) := by decide +kernel
theorem st_223_27 : xsite 223 27 = some (4, 12, 6, 0) := by decide +kernel
theorem st_223_7 : xsite 223 7 = some (4, 12, 1, 0) := by decide +kernel
theorem st_223_96 : xsite 223 96 = some (4, 12, 7, 0) := by decide +kernel
theorem st_224_118 : xsite 224 118 = some (4, 12, 0, 0) := by decide +kernel
theorem st_224_137 : xsite 224 137 = some (0, 199, 1, 0) := by decide +kernel
theorem st_224_166 : xsite 224 166 = some (10, 0, 0, -9223372036854775808) := by decide +kernel
theorem st_224_27 : xsite 224 27 = some (4, 12, 6, 0) := by decide +kernel
theorem st_224_7 : xsite 224 7 = some (4, 12, 1, 0) := by decide +kernel
theorem st_224_96 : xsite 224 96 = some (4, 12, 7, 0) := by decide +kernel
theorem st_225_118 : xsite 225 118 = some (4, 12, 0, 0) := by decide +kernel
theorem st_225_131 : xsite 225 131 = some (0, 193, 1, 0) := by decide +kernel
theorem st_225_134 : xsite 225 134 = some (0, 194, 0, 0) := by decide +kernel
theorem st_225_137 : xsite 225 137 = some (0, 199, 1, 0) := by decide +kernel
theorem st_225_166 : xsite 225 166 = some (10, 0, 0, -9223372036854775808) := by decide +kernel
theorem st_225_168 : xsite 225 168 = some (10, 0, 0, 5342931457063200) := by decide +kernel
theorem st_225_30 : xsite 225 30 = some (4, 12, 10, 0) := by decide +kernel
theorem st_225_33 : xsite 225 33 = some (4, 12, 11, 0) := by decide +kernel
theorem st_225_81 : xsite 225 81 = some (4, 12, 29, 0) := by decide +kernel
theorem st_226_118 : xsite 226 118 = some (4, 12, 0, 0) := by decide +kernel
theorem st_226_7 : xsite 226 7 = some (4, 12, 1, 0) := by decide +kernel
theorem st_227_118 : xsite 227 118 = some (4, 12, 0, 0) := by decide +kernel
theorem st_227_13 : xsite 227 13 = some (4, 12, 2, 0) := by decide +kernel
theorem st_227_145 : xsite 227 145 = some (0, 198, 0, 0) := by decide +kernel
theorem st_227_185 : xsite 227 185 = some (0, 228, 0, 0) := by decide +kernel
theorem st_227_188 : xsite 227 188 = some (0, 214, 0, 0) := by decide +kernel
theorem st_227_192 : xsite 227 192 = some (0, 229, 0, 0) := by decide +kernel
theorem st_227_20 : xsite 227 20 = some (4, 12, 4, 0) := by decide +kernel
theorem st_228_27 : xsite 228 27 = some (4, 12, 6, 0) := by decide +kernel
theorem st_228_96 : xsite 228 96 = some (4, 12, 7, 0) := by decide +kernel
theorem st_229_178 : xsite 229 178 = some (4, 12, 13, 0) := by decide +kernel
theorem st_229_181 : xsite 229 181 = some (0, 230, 0, 0) := by decide +kernel
theorem st_229_36 : xsite 229 36 = some (4, 12, 12, 0) := by decide +kernel
theorem st_22_15 : xsite 22 15 = some (4, 3, 1, 0) := by decide +kernel
theorem st_22_24 : xsite 22 24 = some (4, 3, 2, 0) := by decide +kernel
theorem st_22_28 : xsite 22 28 = some (10, 0, 0, 5342931457063200) := by decide +kernel
theorem st_22_30 : xsite 22 30 = some (0, 19, 1, 0) := by decide +kernel
theorem st_22_34 : xsite 22 34 = some (0, 17, 1, 0) := by decide +kernel
theorem st_22_9 : xsite 22 9 = some (4, 3, 0, 0) := by decide +kernel
theorem st_230_178 : xsite 230 178 = some (4, 12, 13, 0) := by decide +kernel
theorem st_230_36 : xsite 230 36 = some (4, 12, 12, 0) := by decide +kernel
theorem st_231_118 : xsite 231 118 = some (4, 12, 0, 0) := by decide +kernel
theorem st_231_145 : xsite 231 145 = some (0, 198, 0, 0) := by decide +kernel
theorem st_231_174 : xsite 231 174 = some (0, 216, 1, 0) := by decide +kernel
theorem st_231_185 : xsite 231 185 = some (0, 228, 0, 0) := by decide +kernel
theorem st_232_118 : xsite 232 118 = some (4, 12, 0, 0) := by decide +kernel
theorem st_232_137 : xsite 232 137 = some (0, 199, 1, 0) := by decide +kernel
theorem st_232_178 : xsite 232 178 = some (4, 12, 13, 0) := by decide +kernel
theorem st_232_196 : xsite 232 196 = some (0, 233, 0, 0) := by decide +kernel
theorem st_232_36 : xsite 232 36 = some (4, 12, 12, 0) := by decide +kernel
theorem st_233_13 : xsite 233 13 = some (4, 12, 2, 0) := by decide +kernel
theorem st_233_188 : xsite 233 188 = some (0, 214, 0, 0) := by decide +kernel
theorem st_233_36 : xsite 233 36 = some (4, 12, 12, 0) := by decide +kernel
theorem st_234_118 : xsite 234 118 = some (4, 12, 0, 0) := by decide +kernel
theorem st_234_13 : xsite 234 13 = some (4, 12, 2, 0) := by decide +kernel
theorem st_234_145 : xsite 234 145 = some (0, 198, 0, 0) := by decide +kernel
theorem st_234_185 : xsite 234 185 = some (0, 228, 0, 0) := by decide +kernel
theorem st_234_199 : xsite 234 199 = some (0, 235, 1, 0) := by decide +kernel
theorem st_234_20 : xsite 234 20 = some (4, 12, 4, 0) := by decide +kernel
theorem st_234_202 : xsite 234 202 = some (0, 236, 0, 0) := by decide +kernel
theorem st_236_13 : xsite 236 13 = some (4, 12, 2, 0) := by decide +kernel
theorem st_237_118 : xsite 237 118 = some (4, 12, 0, 0) := by decide +kernel
theorem st_237_145 : xsite 237 145 = some (0, 198, 0, 0) := by decide +kernel
theorem st_237_185 : xsite 237 185 = some (0, 228, 0, 0) := by decide +kernel
theorem st_237_20 : xsite 237 20 = some (4, 12, 4, 0) := by decide +kernel
theorem st_237_205 : xsite 237 205 = some (0, 213, 0, 0) := by decide +kernel
theorem st_238_118 : xsite 238 118 = some (4, 12, 0, 0) := by decide +kernel
theorem st_238_13 : xsite 238 13 = some (4, 12, 2, 0) := by decide +kernel
theorem st_238_145 : xsite 238 145 = some (0, 198, 0, 0) := by decide +kernel
theorem st_238_185 : xsite 238 185 = some (0, 228, 0, 0) := by decide +kernel
theorem st_238_20 : xsite 238 20 = some (4, 12, 4, 0) := by decide +kernel
theorem st_238_205 : xsite 238 205 = some (0, 213, 0, 0) := by decide +kernel
theorem st_238_212 : xsite 238 212 = some (0, 239, 1, 0) := by decide +kernel
theorem st_239_208 : xsite 239 208 = some (0, 240, 1, 0) := by decide +kernel
theorem st_23_120 : xsite 23 120 = some (0, 24, 1, 0) := by decide +kernel
theorem st_23_124 : xsite 23 124 = some (0, 25, 1, 0) := by decide +kernel
theorem st_23_127 : xsite 23 127 = some (0, 26, 0, 0) := by decide +kernel
theorem st_23_130 : xsite 23 130 = some (0, 32, 0, 0) := by decide +kernel
theorem st_23_49 : xsite 23 49 = some (4, 0, 7, 0) := by decide +kernel
theorem st_241_118 : xsite 241 118 = some (4, 12, 0, 0) := by decide +kernel
theorem st_241_145 : xsite 241 145 = some (0, 198, 0, 0) := by decide +kernel
theorem st_241_158 : xsite 241 158 = some (0, 206, 0, 0) := by decide +kernel
theorem st_241_20 : xsite 241 20 = some (4, 12, 4, 0) := by decide +kernel
theorem st_242_118 : xsite 242 118 = some (4, 12, 0, 0) := by decide +kernel
theorem st_242_137 : xsite 242 137 = some (0, 199, 1, 0) := by decide +kernel
theorem st_242_158 : xsite 242 158 = some (0, 206, 0, 0) := by decide +kernel
theorem st_242_166 : xsite 242 166 = some (10, 0, 0, -9223372036854775808) := by decide +kernel
theorem st_242_20 : xsite 242 20 = some (4, 12, 4, 0) := by decide +kernel
theorem st_243_118 : xsite 243 118 = some (4, 12, 0, 0) := by decide +kernel
theorem st_243_137 : xsite 243 137 = some (0, 199, 1, 0) := by decide +kernel
theorem st_243_141 : xsite 243 141 = some (0, 201, 0, 0) := by decide +kernel
theorem st_243_151 : xsite 243 151 = some (0, 202, 0, 0) := by decide +kernel
theorem st_243_158 : xsite 243 158 = some (0, 206, 0, 0) := by decide +kernel
theorem st_243_20 : xsite 243 20 = some (4, 12, 4, 0) := by decide +kernel
theorem st_244_118 : xsite 244 118 = some (4, 12, 0, 0) := by decide +kernel
theorem st_244_13 : xsite 244 13 = some (4, 12, 2, 0) := by decide +kernel
theorem st_244_137 : xsite 244 137 = some (0, 199, 1, 0) := by decide +kernel
theorem st_244_20 : xsite 244 20 = some (4, 12, 4, 0) := by decide +kernel
theorem st_244_240 : xsite 244 240 = some (0, 245, 0, 0) := by decide +kernel
theorem st_244_7 : xsite 244 7 = some (4, 12, 1, 0) := by decide +kernel
theorem st_244_99 : xsite 244 99 = some (0, 189, 1, 0) := by decide +kernel
theorem st_245_158 : xsite 245 158 = some (0, 206, 0, 0) := by decide +kernel
theorem st_245_20 : xsite 245 20 = some (4, 12, 4, 0) := by decide +kernel
theorem st_246_118 : xsite 246 118 = some (4, 12, 0, 0) := by decide +kernel
theorem st_246_13 : xsite 246 13 = some (4, 12, 2, 0) := by decide +kernel
theorem st_246_137 : xsite 246 137 = some (0, 199, 1, 0) := by decide +kernel
theorem st_246_141 : xsite 246 141 = some (0, 201, 0, 0) := by decide +kernel
theorem st_246_155 : xsite 246 155 = some (0, 205, 0, 0) := by decide +kernel
theorem st_246_158 : xsite 246 158 = some (0, 206, 0, 0) := by decide +kernel
theorem st_246_20 : xsite 246 20 = some (4, 12, 4, 0) := by decide +kernel
theorem st_246_243 : xsite 246 243 = some (4, 12, 14, 0) := by decide +kernel
theorem st_246_254 : xsite 246 254 = some (0, 247, 0, 0) := by decide +kernel
theorem st_246_39 : xsite 246 39 = some (4, 12, 15, 0) := by decide +kernel
theorem st_247_243 : xsite 247 243 = some (4, 12, 14, 0) := by decide +kernel
theorem st_247_246 : xsite 247 246 = some (10, 0, 0, 1103515245) := by decide +kernel
theorem st_247_248 : xsite 247 248 = some (10, 0, 0, 12345) := by decide +kernel
theorem st_247_250 : xsite 247 250 = some (10, 0, 0, 2147483647) := by decide +kernel
theorem st_247_252 : xsite 247 252 = some (10, 0, 0, 65536) := by decide +kernel
theorem st_248_103 : xsite 248 103 = some (0, 190, 0, 0) := by decide +kernel
theorem st_248_107 : xsite 248 107 = some (4, 12, 8, 0) := by decide +kernel
theorem st_248_111 : xsite 248 111 = some (4, 12, 9, 0) := by decide +kernel
theorem st_248_118 : xsite 248 118 = some (4, 12, 0, 0) := by decide +kernel
theorem st_248_125 : xsite 248 125 = some (10, 0, 0, 7420738134810) := by decide +kernel
theorem st_248_13 : xsite 248 13 = some (4, 12, 2, 0) := by decide +kernel
theorem st_248_134 : xsite 248 134 = some (0, 194, 0, 0) := by decide +kernel
theorem st_248_137 : xsite 248 137 = some (0, 199, 1, 0) := by decide +kernel
theorem st_248_166 : xsite 248 166 = some (10, 0, 0, -9223372036854775808) := by decide +kernel
theorem st_248_20 : xsite 248 20 = some (4, 12, 4, 0) := by decide +kernel
theorem st_248_81 : xsite 248 81 = some (4, 12, 29, 0) := by decide +kernel
theorem st_249_118 : xsite 249 118 = some (4, 12, 0, 0) := by decide +kernel
theorem st_249_137 : xsite 249 137 = some (0, 199, 1, 0) := by decide +kernel
theorem st_249_20 : xsite 249 20 = some (4, 12, 4, 0) := by decide +kernel
theorem st_249_231 : xsite 249 231 = some (0, 211, 0, 0) := by decide +kernel
theorem st_250_118 : xsite 250 118 = some (4, 12, 0, 0) := by decide +kernel
theorem st_250_137 : xsite 250 137 = some (0, 199, 1, 0) := by decide +kernel
theorem st_250_185 : xsite 250 185 = some (0, 228, 0, 0) := by decide +kernel
theorem st_250_271 : xsite 250 271 = some (0, 251, 0, 0) := by decide +kernel
theorem st_250_48 : xsite 250 48 = some (4, 12, 18, 0) := by decide +kernel
theorem st_251_257 : xsite 251 257 = some (0, 252, 0, 0) := by decide +kernel
theorem st_251_261 : xsite 251 261 = some (0, 254, 0, 0) := by decide +kernel
theorem st_251_264 : xsite 251 264 = some (0, 255, 1, 0) := by decide +kernel
theorem st_251_48 : xsite 251 48 = some (4, 12, 18, 0) := by decide +kernel
theorem st_252_268 : xsite 252 268 = some (0, 253, 0, 0) := by decide +kernel
theorem st_252_42 : xsite 252 42 = some (4, 12, 16, 0) := by decide +kernel
theorem st_252_48 : xsite 252 48 = some (4, 12, 18, 0) := by decide +kernel
theorem st_253_170 : xsite 253 170 = some (0, 215, 1, 0) := by decide +kernel
theorem st_253_174 : xsite 253 174 = some (0, 216, 1, 0) := by decide +kernel
theorem st_253_42 : xsite 253 42 = some (4, 12, 16, 0) := by decide +kernel
theorem st_253_45 : xsite 253 45 = some (4, 12, 17, 0) := by decide +kernel
theorem st_254_170 : xsite 254 170 = some (0, 215, 1, 0) := by decide +kernel
theorem st_254_174 : xsite 254 174 = some (0, 216, 1, 0) := by decide +kernel
theorem st_254_48 : xsite 254 48 = some (4, 12, 18, 0) := by decide +kernel
theorem st_254_51 : xsite 254 51 = some (4, 12, 19, 0) := by decide +kernel
theorem st_255_208 : xsite 255 208 = some (0, 240, 1, 0) := by decide +kernel
theorem st_256_118 : xsite 256 118 = some (4, 12, 0, 0) := by decide +kernel
theorem st_256_137 : xsite 256 137 = some (0, 199, 1, 0) := by decide +kernel
theorem st_256_185 : xsite 256 185 = some (0, 228, 0, 0) := by decide +kernel
theorem st_256_271 : xsite 256 271 = some (0, 251, 0, 0) := by decide +kernel
theorem st_256_48 : xsite 256 48 = some (4, 12, 18, 0) := by decide +kernel
theorem st_257_118 : xsite 257 118 = some (4, 12, 0, 0) := by decide +kernel
theorem st_257_185 : xsite 257 185 = some (0, 228, 0, 0) := by decide +kernel
theorem st_257_274 : xsite 257 274 = some (0, 258, 0, 0) := by decide +kernel
theorem st_258_268 : xsite 258 268 = some (0, 253, 0, 0) := by decide +kernel
theorem st_258_42 : xsite 258 42 = some (4, 12, 16, 0) := by decide +kernel
theorem st_259_118 : xsite 259 118 = some (4, 12, 0, 0) := by decide +kernel
theorem st_259_137 : xsite 259 137 = some (0, 199, 1, 0) := by decide +kernel
theorem st_259_268 : xsite 259 268 = some (0, 253, 0, 0) := by decide +kernel
theorem st_259_27 : xsite 259 27 = some (4, 12, 6, 0) := by decide +kernel
theorem st_259_42 : xsite 259 42 = some (4, 12, 16, 0) := by decide +kernel
theorem st_259_96 : xsite 259 96 = some (4, 12, 7, 0) := by decide +kernel
theorem st_260_118 : xsite 260 118 = some (4, 12, 0, 0) := by decide +kernel
theorem st_260_277 : xsite 260 277 = some (0, 259, 0, 0) := by decide +kernel
theorem st_260_280 : xsite 260 280 = some (0, 261, 1, 0) := by decide +kernel
theorem st_261_264 : xsite 261 264 = some (0, 255, 1, 0) := by decide +kernel
theorem st_262_118 : xsite 262 118 = some (4, 12, 0, 0) := by decide +kernel
theorem st_262_137 : xsite 262 137 = some (0, 199, 1, 0) := by decide +kernel
theorem st_262_185 : xsite 262 185 = some (0, 228, 0, 0) := by decide +kernel
theorem st_262_264 : xsite 262 264 = some (0, 255, 1, 0) := by decide +kernel
theorem st_262_284 : xsite 262 284 = some (9, 0, 0, 1000000) := by decide +kernel
theorem st_263_118 : xsite 263 118 = some (4, 12, 0, 0) := by decide +kernel
theorem st_263_185 : xsite 263 185 = some (0, 228, 0, 0) := by decide +kernel
theorem st_263_208 : xsite 263 208 = some (0, 240, 1, 0) := by decide +kernel
theorem st_264_118 : xsite 264 118 = some (4, 12, 0, 0) := by decide +kernel
theorem st_264_185 : xsite 264 185 = some (0, 228, 0, 0) := by decide +kernel
theorem st_265_118 : xsite 265 118 = some (4, 12, 0, 0) := by decide +kernel
theorem st_265_185 : xsite 265 185 = some (0, 228, 0, 0) := by decide +kernel
theorem st_265_285 : xsite 265 285 = some (0, 266, 1, 0) := by decide +kernel
theorem st_266_174 : xsite 266 174 = some (0, 216, 1, 0) := by decide +kernel
theorem st_267_118 : xsite 267 118 = some (4, 12, 0, 0) := by decide +kernel
theorem st_267_131 : xsite 267 131 = some (0, 193, 1, 0) := by decide +kernel
theorem st_267_134 : xsite 267 134 = some (0, 194, 0, 0) := by decide +kernel
theorem st_267_137 : xsite 267 137 = some (0, 199, 1, 0) := by decide +kernel
theorem st_267_166 : xsite 267 166 = some (10, 0, 0, -9223372036854775808) := by decide +kernel
theorem st_267_185 : xsite 267 185 = some (0, 228, 0, 0) := by decide +kernel
theorem st_267_24 : xsite 267 24 = some (4, 12, 5, 0) := by decide +kernel
theorem st_267_285 : xsite 267 285 = some (0, 266, 1, 0) := by decide +kernel
theorem st_267_287 : xsite 267 287 = some (0, 268, 1, 0) := by decide +kernel
theorem st_267_291 : xsite 267 291 = some (10, 0, 0, 30) := by decide +kernel
theorem st_267_54 : xsite 267 54 = some (4, 12, 20, 0) := by decide +kernel
theorem st_267_81 : xsite 267 81 = some (4, 12, 29, 0) := by decide +kernel
theorem st_269_118 : xsite 269 118 = some (4, 12, 0, 0) := by decide +kernel
theorem st_269_137 : xsite 269 137 = some (0, 199, 1, 0) := by decide +kernel
theorem st_269_170 : xsite 269 170 = some (0, 215, 1, 0) := by decide +kernel
theorem st_269_174 : xsite 269 174 = some (0, 216, 1, 0) := by decide +kernel
theorem st_269_185 : xsite 269 185 = some (0, 228, 0, 0) := by decide +kernel
theorem st_26_174 : xsite 26 174 = some (0, 27, 0, 0) := by decide +kernel
theorem st_270_118 : xsite 270 118 = some (4, 12, 0, 0) := by decide +kernel
theorem st_270_137 : xsite 270 137 = some (0, 199, 1, 0) := by decide +kernel
theorem st_270_27 : xsite 270 27 = some (4, 12, 6, 0) := by decide +kernel
theorem st_270_274 : xsite 270 274 = some (0, 258, 0, 0) := by decide +kernel
theorem st_270_96 : xsite 270 96 = some (4, 12, 7, 0) := by decide +kernel
theorem st_271_118 : xsite 271 118 = some (4, 12, 0, 0) := by decide +kernel
theorem st_271_137 : xsite 271 137 = some (0, 199, 1, 0) := by decide +kernel
theorem st_271_166 : xsite 271 166 = some (10, 0, 0, -9223372036854775808) := by decide +kernel
theorem st_271_20 : xsite 271 20 = some (4, 12, 4, 0) := by decide +kernel
theorem st_271_297 : xsite 271 297 = some (10, 0, 0, -2) := by decide +kernel
theorem st_271_299 : xsite 271 299 = some (0, 272, 0, 0) := by decide +kernel
theorem st_271_57 : xsite 271 57 = some (4, 12, 21, 0) := by decide +kernel
theorem st_271_60 : xsite 271 60 = some (4, 12, 22, 0) := by decide +kernel
theorem st_272_121 : xsite 272 121 = some (0, 195, 1, 0) := by decide +kernel
theorem st_272_13 : xsite 272 13 = some (4, 12, 2, 0) := by decide +kernel
theorem st_272_24 : xsite 272 24 = some (4, 12, 5, 0) := by decide +kernel
theorem st_272_293 : xsite 272 293 = some (0, 273, 0, 0) := by decide +kernel
theorem st_273_121 : xsite 273 121 = some (0, 195, 1, 0) := by decide +kernel
theorem st_273_57 : xsite 273 57 = some (4, 12, 21, 0) := by decide +kernel
theorem st_273_60 : xsite 273 60 = some (4, 12, 22, 0) := by decide +kernel
theorem st_274_118 : xsite 274 118 = some (4, 12, 0, 0) := by decide +kernel
theorem st_274_137 : xsite 274 137 = some (0, 199, 1, 0) := by decide +kernel
theorem st_274_20 : xsite 274 20 = some (4, 12, 4, 0) := by decide +kernel
theorem st_274_310 : xsite 274 310 = some (9, 0, 0, 1000000000) := by decide +kernel
theorem st_274_311 : xsite 274 311 = some (0, 275, 0, 0) := by decide +kernel
theorem st_275_299 : xsite 275 299 = some (0, 272, 0, 0) := by decide +kernel
theorem st_275_302 : xsite 275 302 = some (10, 0, 0, 1000000007) := by decide +kernel
theorem st_275_304 : xsite 275 304 = some (0, 276, 1, 0) := by decide +kernel
theorem st_275_315 : xsite 275 315 = some (0, 277, 1, 0) := by decide +kernel
theorem st_275_57 : xsite 275 57 = some (4, 12, 21, 0) := by decide +kernel
theorem st_275_60 : xsite 275 60 = some (4, 12, 22, 0) := by decide +kernel
theorem st_276_302 : xsite 276 302 = some (10, 0, 0, 1000000007) := by decide +kernel
theorem st_277_216 : xsite 277 216 = some (10, 0, 0, 2) := by decide +kernel
theorem st_277_302 : xsite 277 302 = some (10, 0, 0, 1000000007) := by decide +kernel
theorem st_277_304 : xsite 277 304 = some (0, 276, 1, 0) := by decide +kernel
theorem st_277_308 : xsite 277 308 = some (10, 0, 0, 1000000005) := by decide +kernel
theorem st_278_118 : xsite 278 118 = some (4, 12, 0, 0) := by decide +kernel
theorem st_278_137 : xsite 278 137 = some (0, 199, 1, 0) := by decide +kernel
theorem st_278_20 : xsite 278 20 = some (4, 12, 4, 0) := by decide +kernel
theorem st_278_208 : xsite 278 208 = some (0, 240, 1, 0) := by decide +kernel
theorem st_278_24 : xsite 278 24 = some (4, 12, 5, 0) := by decide +kernel
theorem st_278_302 : xsite 278 302 = some (10, 0, 0, 1000000007) := by decide +kernel
theorem st_278_310 : xsite 278 310 = some (9, 0, 0, 1000000000) := by decide +kernel
theorem st_278_311 : xsite 278 311 = some (0, 275, 0, 0) := by decide +kernel
theorem st_279_118 : xsite 279 118 = some (4, 12, 0, 0) := by decide +kernel
theorem st_279_333 : xsite 279 333 = some (0, 280, 1, 0) := by decide +kernel
theorem st_279_336 : xsite 279 336 = some (0, 281, 0, 0) := by decide +kernel
theorem st_279_339 : xsite 279 339 = some (0, 285, 0, 0) := by decide +kernel
theorem st_27_35 : xsite 27 35 = some (4, 0, 3, 0) := by decide +kernel
theorem st_27_39 : xsite 27 39 = some (4, 0, 4, 0) := by decide +kernel
theorem st_27_418 : xsite 27 418 = some (0, 28, 0, 0) := by decide +kernel
theorem st_280_137 : xsite 280 137 = some (0, 199, 1, 0) := by decide +kernel
theorem st_280_310 : xsite 280 310 = some (9, 0, 0, 1000000000) := by decide +kernel
theorem st_281_318 : xsite 281 318 = some (10, 0, 0, 1000000000) := by decide +kernel
theorem st_281_320 : xsite 281 320 = some (0, 282, 0, 0) := by decide +kernel
theorem st_281_323 : xsite 281 323 = some (0, 283, 0, 0) := by decide +kernel
theorem st_281_327 : xsite 281 327 = some (0, 284, 0, 0) := by decide +kernel
theorem st_281_63 : xsite 281 63 = some (4, 12, 23, 0) := by decide +kernel
theorem st_281_66 : xsite 281 66 = some (4, 12, 24, 0) := by decide +kernel
theorem st_281_69 : xsite 281 69 = some (4, 12, 25, 0) := by decide +kernel
theorem st_282_69 : xsite 282 69 = some (4, 12, 25, 0) := by decide +kernel
theorem st_283_318 : xsite 283 318 = some (10, 0, 0, 1000000000) := by decide +kernel
theorem st_283_66 : xsite 283 66 = some (4, 12, 24, 0) := by decide +kernel
theorem st_284_318 : xsite 284 318 = some (10, 0, 0, 1000000000) := by decide +kernel
theorem st_284_63 : xsite 284 63 = some (4, 12, 23, 0) := by decide +kernel
theorem st_284_66 : xsite 284 66 = some (4, 12, 24, 0) := by decide +kernel
theorem st_284_72 : xsite 284 72 = some (4, 12, 26, 0) := by decide +kernel
theorem st_285_331 : xsite 285 331 = some (10, 0, 0, 10) := by decide +kernel
theorem st_285_63 : xsite 285 63 = some (4, 12, 23, 0) := by decide +kernel
theorem st_286_118 : xsite 286 118 = some (4, 12, 0, 0) := by decide +kernel
theorem st_286_331 : xsite 286 331 = some (10, 0, 0, 10) := by decide +kernel
theorem st_286_333 : xsite 286 333 = some (0, 280, 1, 0) := by decide +kernel
theorem st_286_336 : xsite 286 336 = some (0, 281, 0, 0) := by decide +kernel
theorem st_286_339 : xsite 286 339 = some (0, 285, 0, 0) := by decide +kernel
theorem st_286_63 : xsite 286 63 = some (4, 12, 23, 0) := by decide +kernel
theorem st_287_118 : xsite 287 118 = some (4, 12, 0, 0) := by decide +kernel
theorem st_287_137 : xsite 287 137 = some (0, 199, 1, 0) := by decide +kernel
theorem st_287_166 : xsite 287 166 = some (10, 0, 0, -9223372036854775808) := by decide +kernel
theorem st_287_20 : xsite 287 20 = some (4, 12, 4, 0) := by decide +kernel
theorem st_287_297 : xsite 287 297 = some (10, 0, 0, -2) := by decide +kernel
theorem st_287_346 : xsite 287 346 = some (0, 288, 0, 0) := by decide +kernel
theorem st_287_349 : xsite 287 349 = some (10, 0, 0, -3) := by decide +kernel
theorem st_287_75 : xsite 287 75 = some (4, 12, 27, 0) := by decide +kernel
theorem st_287_78 : xsite 287 78 = some (4, 12, 28, 0) := by decide +kernel
theorem st_288_121 : xsite 288 121 = some (0, 195, 1, 0) := by decide +kernel
theorem st_288_24 : xsite 288 24 = some (4, 12, 5, 0) := by decide +kernel
theorem st_288_299 : xsite 288 299 = some (0, 272, 0, 0) := by decide +kernel
theorem st_288_343 : xsite 288 343 = some (0, 289, 0, 0) := by decide +kernel
theorem st_288_57 : xsite 288 57 = some (4, 12, 21, 0) := by decide +kernel
theorem st_288_60 : xsite 288 60 = some (4, 12, 22, 0) := by decide +kernel
theorem st_288_75 : xsite 288 75 = some (4, 12, 27, 0) := by decide +kernel
theorem st_288_78 : xsite 288 78 = some (4, 12, 28, 0) := by decide +kernel
theorem st_289_121 : xsite 289 121 = some (0, 195, 1, 0) := by decide +kernel
theorem st_289_293 : xsite 289 293 = some (0, 273, 0, 0) := by decide +kernel
theorem st_289_57 : xsite 289 57 = some (4, 12, 21, 0) := by decide +kernel
theorem st_289_60 : xsite 289 60 = some (4, 12, 22, 0) := by decide +kernel
theorem st_28_38 : xsite 28 38 = some (0, 29, 0, 0) := by decide +kernel
theorem st_28_42 : xsite 28 42 = some (0, 30, 0, 0) := by decide +kernel
theorem st_28_55 : xsite 28 55 = some (0, 31, 0, 0) := by decide +kernel
theorem st_290_118 : xsite 290 118 = some (4, 12, 0, 0) := by decide +kernel
theorem st_290_13 : xsite 290 13 = some (4, 12, 2, 0) := by decide +kernel
theorem st_290_134 : xsite 290 134 = some (0, 194, 0, 0) := by decide +kernel
theorem st_290_137 : xsite 290 137 = some (0, 199, 1, 0) := by decide +kernel
theorem st_290_145 : xsite 290 145 = some (0, 198, 0, 0) := by decide +kernel
theorem st_290_166 : xsite 290 166 = some (10, 0, 0, -9223372036854775808) := by decide +kernel
theorem st_290_20 : xsite 290 20 = some (4, 12, 4, 0) := by decide +kernel
theorem st_290_24 : xsite 290 24 = some (4, 12, 5, 0) := by decide +kernel
theorem st_290_81 : xsite 290 81 = some (4, 12, 29, 0) := by decide +kernel
theorem st_291_118 : xsite 291 118 = some (4, 12, 0, 0) := by decide +kernel
theorem st_291_13 : xsite 291 13 = some (4, 12, 2, 0) := by decide +kernel
theorem st_291_131 : xsite 291 131 = some (0, 193, 1, 0) := by decide +kernel
theorem st_291_134 : xsite 291 134 = some (0, 194, 0, 0) := by decide +kernel
theorem st_291_137 : xsite 291 137 = some (0, 199, 1, 0) := by decide +kernel
theorem st_291_166 : xsite 291 166 = some (10, 0, 0, -9223372036854775808) := by decide +kernel
theorem st_291_20 : xsite 291 20 = some (4, 12, 4, 0) := by decide +kernel
theorem st_291_24 : xsite 291 24 = some (4, 12, 5, 0) := by decide +kernel
theorem st_291_287 : xsite 291 287 = some (0, 268, 1, 0) := by decide +kernel
theorem st_291_351 : xsite 291 351 = some (10, 0, 0, 2310) := by decide +kernel
theorem st_291_81 : xsite 291 81 = some (4, 12, 29, 0) := by decide +kernel
theorem st_292_118 : xsite 292 118 = some (4, 12, 0, 0) := by decide +kernel
theorem st_292_137 : xsite 292 137 = some (0, 199, 1, 0) := by decide +kernel
theorem st_292_145 : xsite 292 145 = some (0, 198, 0, 0) := by decide +kernel
theorem st_292_185 : xsite 292 185 = some (0, 228, 0, 0) := by decide +kernel
theorem st_292_353 : xsite 292 353 = some (0, 293, 0, 0) := by decide +kernel
theorem st_292_356 : xsite 292 356 = some (0, 294, 0, 0) := by decide +kernel
theorem st_293_13 : xsite 293 13 = some (4, 12, 2, 0) := by decide +kernel
theorem st_293_170 : xsite 293 170 = some (0, 215, 1, 0) := by decide +kernel
theorem st_293_188 : xsite 293 188 = some (0, 214, 0, 0) := by decide +kernel
theorem st_293_20 : xsite 293 20 = some (4, 12, 4, 0) := by decide +kernel
theorem st_293_24 : xsite 293 24 = some (4, 12, 5, 0) := by decide +kernel
theorem st_293_84 : xsite 293 84 = some (4, 12, 30, 0) := by decide +kernel
theorem st_294_84 : xsite 294 84 = some (4, 12, 30, 0) := by decide +kernel
theorem st_295_118 : xsite 295 118 = some (4, 12, 0, 0) := by decide +kernel
theorem st_295_145 : xsite 295 145 = some (0, 198, 0, 0) := by decide +kernel
theorem st_295_185 : xsite 295 185 = some (0, 228, 0, 0) := by decide +kernel
theorem st_295_353 : xsite 295 353 = some (0, 293, 0, 0) := by decide +kernel
theorem st_295_356 : xsite 295 356 = some (0, 294, 0, 0) := by decide +kernel
theorem st_296_118 : xsite 296 118 = some (4, 12, 0, 0) := by decide +kernel
theorem st_296_13 : xsite 296 13 = some (4, 12, 2, 0) := by decide +kernel
theorem st_296_131 : xsite 296 131 = some (0, 193, 1, 0) := by decide +kernel
theorem st_296_134 : xsite 296 134 = some (0, 194, 0, 0) := by decide +kernel
theorem st_296_137 : xsite 296 137 = some (0, 199, 1, 0) := by decide +kernel
theorem st_296_166 : xsite 296 166 = some (10, 0, 0, -9223372036854775808) := by decide +kernel
theorem st_296_20 : xsite 296 20 = some (4, 12, 4, 0) := by decide +kernel
theorem st_296_81 : xsite 296 81 = some (4, 12, 29, 0) := by decide +kernel
theorem st_297_118 : xsite 297 118 = some (4, 12, 0, 0) := by decide +kernel
theorem st_297_13 : xsite 297 13 = some (4, 12, 2, 0) := by decide +kernel
theorem st_297_137 : xsite 297 137 = some (0, 199, 1, 0) := by decide +kernel
theorem st_297_166 : xsite 297 166 = some (10, 0, 0, -9223372036854775808) := by decide +kernel
theorem st_297_20 : xsite 297 20 = some (4, 12, 4, 0) := by decide +kernel
theorem st_297_216 : xsite 297 216 = some (10, 0, 0, 2) := by decide +kernel
theorem st_298_118 : xsite 298 118 = some (4, 12, 0, 0) := by decide +kernel
theorem st_298_137 : xsite 298 137 = some (0, 199, 1, 0) := by decide +kernel
theorem st_298_166 : xsite 298 166 = some (10, 0, 0, -9223372036854775808) := by decide +kernel
theorem st_298_365 : xsite 298 365 = some (0, 299, 0, 0) := by decide +kernel
theorem st_298_87 : xsite 298 87 = some (4, 12, 31, 0) := by decide +kernel
theorem st_299_361 : xsite 299 361 = some (0, 300, 1, 0) := by decide +kernel
theorem st_299_87 : xsite 299 87 = some (4, 12, 31, 0) := by decide +kernel
theorem st_29_34 : xsite 29 34 = some (0, 21, 1, 0) := by decide +kernel
theorem st_29_9 : xsite 29 9 = some (4, 4, 0, 0) := by decide +kernel
theorem st_2_1 : xsite 2 1 = some (2, 0, 0, 0) := by decide +kernel
theorem st_2_7 : xsite 2 7 = some (4, 2, 0, 0) := by decide +kernel
theorem st_300_166 : xsite 300 166 = some (10, 0, 0, -9223372036854775808) := by decide +kernel
theorem st_300_359 : xsite 300 359 = some (10, 0, 0, 9223372036854775807) := by decide +kernel
theorem st_301_118 : xsite 301 118 = some (4, 12, 0, 0) := by decide +kernel
theorem st_301_131 : xsite 301 131 = some (0, 193, 1, 0) := by decide +kernel
theorem st_301_134 : xsite 301 134 = some (0, 194, 0, 0) := by decide +kernel
theorem st_301_137 : xsite 301 137 = some (0, 199, 1, 0) := by decide +kernel
theorem st_301_166 : xsite 301 166 = some (10, 0, 0, -9223372036854775808) := by decide +kernel
theorem st_301_365 : xsite 301 365 = some (0, 299, 0, 0) := by decide +kernel
theorem st_301_368 : xsite 301 368 = some (10, 0, 0, 232792560) := by decide +kernel
theorem st_301_81 : xsite 301 81 = some (4, 12, 29, 0) := by decide +kernel
theorem st_301_87 : xsite 301 87 = some (4, 12, 31, 0) := by decide +kernel
theorem st_302_118 : xsite 302 118 = some (4, 12, 0, 0) := by decide +kernel
theorem st_302_137 : xsite 302 137 = some (0, 199, 1, 0) := by decide +kernel
theorem st_302_166 : xsite 302 166 = some (10, 0, 0, -9223372036854775808) := by decide +kernel
theorem st_302_90 : xsite 302 90 = some (4, 12, 32, 0) := by decide +kernel
theorem st_302_93 : xsite 302 93 = some (4, 12, 33, 0) := by decide +kernel
theorem st_303_118 : xsite 303 118 = some (4, 12, 0, 0) := by decide +kernel
theorem st_303_121 : xsite 303 121 = some (0, 195, 1, 0) := by decide +kernel
theorem st_303_13 : xsite 303 13 = some (4, 12, 2, 0) := by decide +kernel
theorem st_303_137 : xsite 303 137 = some (0, 199, 1, 0) := by decide +kernel
theorem st_303_166 : xsite 303 166 = some (10, 0, 0, -9223372036854775808) := by decide +kernel
theorem st_303_20 : xsite 303 20 = some (4, 12, 4, 0) := by decide +kernel
theorem st_303_370 : xsite 303 370 = some (0, 304, 1, 0) := by decide +kernel
theorem st_305_118 : xsite 305 118 = some (4, 12, 0, 0) := by decide +kernel
theorem st_305_13 : xsite 305 13 = some (4, 12, 2, 0) := by decide +kernel
theorem st_305_137 : xsite 305 137 = some (0, 199, 1, 0) := by decide +kernel
theorem st_305_20 : xsite 305 20 = some (4, 12, 4, 0) := by decide +kernel
theorem st_305_370 : xsite 305 370 = some (0, 304, 1, 0) := by decide +kernel
theorem st_306_118 : xsite 306 118 = some (4, 12, 0, 0) := by decide +kernel
theorem st_306_141 : xsite 306 141 = some (0, 201, 0, 0) := by decide +kernel
theorem st_306_178 : xsite 306 178 = some (4, 12, 13, 0) := by decide +kernel
theorem st_306_196 : xsite 306 196 = some (0, 233, 0, 0) := by decide +kernel
theorem st_306_20 : xsite 306 20 = some (4, 12, 4, 0) := by decide +kernel
theorem st_30_15 : xsite 30 15 = some (4, 4, 1, 0) := by decide +kernel
theorem st_30_34 : xsite 30 34 = some (0, 21, 1, 0) := by decide +kernel
theorem st_31_18 : xsite 31 18 = some (4, 4, 2, 0) := by decide +kernel
theorem st_31_34 : xsite 31 34 = some (0, 21, 1, 0) := by decide +kernel
theorem st_32_114 : xsite 32 114 = some (0, 20, 0, 0) := by decide +kernel
theorem st_32_138 : xsite 32 138 = some (0, 57, 0, 0) := by decide +kernel
theorem st_32_177 : xsite 32 177 = some (0, 33, 0, 0) := by decide +kernel
theorem st_32_180 : xsite 32 180 = some (0, 56, 0, 0) := by decide +kernel
theorem st_32_39 : xsite 32 39 = some (4, 0, 4, 0) := by decide +kernel
theorem st_32_95 : xsite 32 95 = some (4, 0, 13, 0) := by decide +kernel
theorem st_33_422 : xsite 33 422 = some (0, 34, 0, 0) := by decide +kernel
theorem st_33_425 : xsite 33 425 = some (0, 45, 0, 0) := by decide +kernel
theorem st_33_428 : xsite 33 428 = some (0, 46, 0, 0) := by decide +kernel
theorem st_34_21 : xsite 34 21 = some (4, 0, 1, 0) := by decide +kernel
theorem st_34_214 : xsite 34 214 = some (0, 42, 0, 0) := by decide +kernel
theorem st_34_281 : xsite 34 281 = some (0, 36, 0, 0) := by decide +kernel
theorem st_34_339 : xsite 34 339 = some (0, 43, 0, 0) := by decide +kernel
theorem st_34_342 : xsite 34 342 = some (0, 44, 0, 0) := by decide +kernel
theorem st_34_387 : xsite 34 387 = some (10, 0, 0, -1) := by decide +kernel
theorem st_34_431 : xsite 34 431 = some (0, 35, 0, 0) := by decide +kernel
theorem st_34_58 : xsite 34 58 = some (4, 0, 8, 0) := by decide +kernel
theorem st_34_95 : xsite 34 95 = some (4, 0, 13, 0) := by decide +kernel
theorem st_35_327 : xsite 35 327 = some (0, 16, 0, 0) := by decide +kernel
theorem st_35_387 : xsite 35 387 = some (10, 0, 0, -1) := by decide +kernel
theorem st_35_389 : xsite 35 389 = some (10, 0, 0, 2) := by decide +kernel
theorem st_35_95 : xsite 35 95 = some (4, 0, 13, 0) := by decide +kernel
theorem st_36_15 : xsite 36 15 = some (4, 6, 1, 0) := by decide +kernel
theorem st_36_19 : xsite 36 19 = some (4, 6, 2, 0) := by decide +kernel
theorem st_36_48 : xsite 36 48 = some (10, 0, 0, 7420738134810) := by decide +kernel
theorem st_36_50 : xsite 36 50 = some (0, 37, 0, 0) := by decide +kernel
theorem st_36_56 : xsite 36 56 = some (0, 39, 0, 0) := by decide +kernel
theorem st_36_62 : xsite 36 62 = some (0, 40, 0, 0) := by decide +kernel
theorem st_37_13 : xsite 37 13 = some (0, 38, 1, 0) := by decide +kernel
theorem st_37_19 : xsite 37 19 = some (4, 2, 1, 0) := by decide +kernel
theorem st_37_22 : xsite 37 22 = some (4, 2, 2, 0) := by decide +kernel
theorem st_37_7 : xsite 37 7 = some (4, 2, 0, 0) := by decide +kernel
theorem st_39_11 : xsite 39 11 = some (4, 1, 0, 0) := by decide +kernel
theorem st_3_15 : xsite 3 15 = some (4, 3, 1, 0) := by decide +kernel
theorem st_3_3 : xsite 3 3 = some (2, 0, 0, 0) := by decide +kernel
theorem st_3_9 : xsite 3 9 = some (4, 3, 0, 0) := by decide +kernel
theorem st_40_100 : xsite 40 100 = some (0, 41, 0, 0) := by decide +kernel
theorem st_40_19 : xsite 40 19 = some (4, 6, 2, 0) := by decide +kernel
theorem st_40_87 : xsite 40 87 = some (0, 31, 0, 0) := by decide +kernel
theorem st_40_9 : xsite 40 9 = some (4, 6, 0, 0) := by decide +kernel
theorem st_40_91 : xsite 40 91 = some (0, 29, 0, 0) := by decide +kernel
theorem st_40_94 : xsite 40 94 = some (0, 30, 0, 0) := by decide +kernel
theorem st_41_19 : xsite 41 19 = some (4, 2, 1, 0) := by decide +kernel
theorem st_41_22 : xsite 41 22 = some (4, 2, 2, 0) := by decide +kernel
theorem st_41_25 : xsite 41 25 = some (0, 19, 1, 0) := by decide +kernel
theorem st_41_28 : xsite 41 28 = some (0, 17, 1, 0) := by decide +kernel
theorem st_41_7 : xsite 41 7 = some (4, 2, 0, 0) := by decide +kernel
theorem st_42_19 : xsite 42 19 = some (4, 2, 1, 0) := by decide +kernel
theorem st_42_22 : xsite 42 22 = some (4, 2, 2, 0) := by decide +kernel
theorem st_42_31 : xsite 42 31 = some (0, 16, 0, 0) := by decide +kernel
theorem st_42_7 : xsite 42 7 = some (4, 2, 0, 0) := by decide +kernel
theorem st_43_25 : xsite 43 25 = some (4, 5, 0, 0) := by decide +kernel
theorem st_43_28 : xsite 43 28 = some (4, 5, 1, 0) := by decide +kernel
theorem st_43_31 : xsite 43 31 = some (0, 16, 0, 0) := by decide +kernel
theorem st_43_7 : xsite 43 7 = some (4, 5, 2, 0) := by decide +kernel
theorem st_44_13 : xsite 44 13 = some (0, 17, 1, 0) := by decide +kernel
theorem st_44_22 : xsite 44 22 = some (0, 19, 1, 0) := by decide +kernel
theorem st_44_25 : xsite 44 25 = some (4, 5, 0, 0) := by decide +kernel
theorem st_44_28 : xsite 44 28 = some (4, 5, 1, 0) := by decide +kernel
theorem st_44_31 : xsite 44 31 = some (0, 16, 0, 0) := by decide +kernel
theorem st_44_7 : xsite 44 7 = some (4, 5, 2, 0) := by decide +kernel
theorem st_45_106 : xsite 45 106 = some (0, 12, 0, 0) := by decide +kernel
theorem st_45_110 : xsite 45 110 = some (0, 14, 0, 0) := by decide +kernel
theorem st_45_117 : xsite 45 117 = some (0, 22, 0, 0) := by decide +kernel
theorem st_45_28 : xsite 45 28 = some (4, 0, 2, 0) := by decide +kernel
theorem st_45_95 : xsite 45 95 = some (4, 0, 13, 0) := by decide +kernel
theorem st_46_190 : xsite 46 190 = some (0, 47, 1, 0) := by decide +kernel
theorem st_46_193 : xsite 46 193 = some (10, 0, 0, 7420738134810) := by decide +kernel
theorem st_46_195 : xsite 46 195 = some (0, 37, 0, 0) := by decide +kernel
theorem st_46_207 : xsite 46 207 = some (0, 41, 0, 0) := by decide +kernel
theorem st_46_21 : xsite 46 21 = some (4, 0, 1, 0) := by decide +kernel
theorem st_46_211 : xsite 46 211 = some (0, 55, 0, 0) := by decide +kernel
theorem st_46_214 : xsite 46 214 = some (0, 42, 0, 0) := by decide +kernel
theorem st_46_431 : xsite 46 431 = some (0, 35, 0, 0) := by decide +kernel
theorem st_46_434 : xsite 46 434 = some (0, 48, 0, 0) := by decide +kernel
theorem st_46_95 : xsite 46 95 = some (4, 0, 13, 0) := by decide +kernel
theorem st_48_184 : xsite 48 184 = some (6, 0, 0, 0) := by decide +kernel
theorem st_48_306 : xsite 48 306 = some (0, 54, 1, 0) := by decide +kernel
theorem st_48_316 : xsite 48 316 = some (0, 53, 1, 0) := by decide +kernel
theorem st_48_389 : xsite 48 389 = some (10, 0, 0, 2) := by decide +kernel
theorem st_48_437 : xsite 48 437 = some (0, 49, 1, 0) := by decide +kernel
theorem st_48_441 : xsite 48 441 = some (0, 51, 1, 0) := by decide +kernel
theorem st_49_13 : xsite 49 13 = some (0, 50, 1, 0) := by decide +kernel
theorem st_4_15 : xsite 4 15 = some (4, 4, 1, 0) := by decide +kernel
theorem st_4_18 : xsite 4 18 = some (4, 4, 2, 0) := by decide +kernel
theorem st_4_21 : xsite 4 21 = some (8, 5, 0, 0) := by decide +kernel
theorem st_4_23 : xsite 4 23 = some (1, 5, 2, 0) := by decide +kernel
theorem st_4_24 : xsite 4 24 = some (4, 4, 3, 0) := by decide +kernel
theorem st_4_28 : xsite 4 28 = some (0, 6, 1, 0) := by decide +kernel
theorem st_4_3 : xsite 4 3 = some (2, 0, 0, 0) := by decide +kernel
theorem st_4_9 : xsite 4 9 = some (4, 4, 0, 0) := by decide +kernel
theorem st_50_7 : xsite 50 7 = some (0, 17, 1, 0) := by decide +kernel
theorem st_51_184 : xsite 51 184 = some (6, 0, 0, 0) := by decide +kernel
theorem st_51_187 : xsite 51 187 = some (0, 52, 1, 0) := by decide +kernel
theorem st_51_316 : xsite 51 316 = some (0, 53, 1, 0) := by decide +kernel
theorem st_52_190 : xsite 52 190 = some (0, 47, 1, 0) := by decide +kernel
theorem st_53_7 : xsite 53 7 = some (0, 17, 1, 0) := by decide +kernel
theorem st_54_7 : xsite 54 7 = some (0, 17, 1, 0) := by decide +kernel
theorem st_55_184 : xsite 55 184 = some (6, 0, 0, 0) := by decide +kernel
theorem st_55_187 : xsite 55 187 = some (0, 52, 1, 0) := by decide +kernel
theorem st_55_207 : xsite 55 207 = some (0, 41, 0, 0) := by decide +kernel
theorem st_55_21 : xsite 55 21 = some (4, 0, 1, 0) := by decide +kernel
theorem st_56_38 : xsite 56 38 = some (0, 29, 0, 0) := by decide +kernel
theorem st_56_42 : xsite 56 42 = some (0, 30, 0, 0) := by decide +kernel
theorem st_56_45 : xsite 56 45 = some (4, 5, 0, 0) := by decide +kernel
theorem st_56_49 : xsite 56 49 = some (4, 5, 1, 0) := by decide +kernel
theorem st_56_52 : xsite 56 52 = some (4, 5, 2, 0) := by decide +kernel
theorem st_56_55 : xsite 56 55 = some (0, 31, 0, 0) := by decide +kernel
theorem st_57_45 : xsite 57 45 = some (4, 0, 6, 0) := by decide +kernel
theorem st_58_120 : xsite 58 120 = some (0, 24, 1, 0) := by decide +kernel
theorem st_58_124 : xsite 58 124 = some (0, 25, 1, 0) := by decide +kernel
theorem st_58_127 : xsite 58 127 = some (0, 26, 0, 0) := by decide +kernel
theorem st_58_130 : xsite 58 130 = some (0, 32, 0, 0) := by decide +kernel
theorem st_58_49 : xsite 58 49 = some (4, 0, 7, 0) := by decide +kernel
theorem st_59_120 : xsite 59 120 = some (0, 24, 1, 0) := by decide +kernel
theorem st_59_134 : xsite 59 134 = some (0, 60, 0, 0) := by decide +kernel
theorem st_59_138 : xsite 59 138 = some (0, 57, 0, 0) := by decide +kernel
theorem st_59_142 : xsite 59 142 = some (0, 61, 0, 0) := by decide +kernel
theorem st_59_39 : xsite 59 39 = some (4, 0, 4, 0) := by decide +kernel
theorem st_59_49 : xsite 59 49 = some (4, 0, 7, 0) := by decide +kernel
theorem st_59_58 : xsite 59 58 = some (4, 0, 8, 0) := by decide +kernel
theorem st_5_1 : xsite 5 1 = some (2, 0, 0, 0) := by decide +kernel
theorem st_5_7 : xsite 5 7 = some (4, 5, 2, 0) := by decide +kernel
theorem st_60_24 : xsite 60 24 = some (4, 4, 3, 0) := by decide +kernel
theorem st_60_38 : xsite 60 38 = some (0, 29, 0, 0) := by decide +kernel
theorem st_60_42 : xsite 60 42 = some (0, 30, 0, 0) := by decide +kernel
theorem st_60_55 : xsite 60 55 = some (0, 31, 0, 0) := by decide +kernel
theorem st_60_58 : xsite 60 58 = some (0, 16, 0, 0) := by decide +kernel
theorem st_60_68 : xsite 60 68 = some (0, 20, 0, 0) := by decide +kernel
theorem st_61_23 : xsite 61 23 = some (0, 62, 0, 0) := by decide +kernel
theorem st_61_27 : xsite 61 27 = some (0, 63, 0, 0) := by decide +kernel
theorem st_61_33 : xsite 61 33 = some (0, 64, 1, 0) := by decide +kernel
theorem st_61_36 : xsite 61 36 = some (0, 65, 0, 0) := by decide +kernel
theorem st_61_39 : xsite 61 39 = some (0, 67, 0, 0) := by decide +kernel
theorem st_61_42 : xsite 61 42 = some (0, 72, 0, 0) := by decide +kernel
theorem st_61_45 : xsite 61 45 = some (0, 74, 0, 0) := by decide +kernel
theorem st_61_9 : xsite 61 9 = some (4, 6, 0, 0) := by decide +kernel
theorem st_62_104 : xsite 62 104 = some (7, 0, 0, 0) := by decide +kernel
theorem st_62_108 : xsite 62 108 = some (1, 52, 1, 0) := by decide +kernel
theorem st_62_87 : xsite 62 87 = some (0, 31, 0, 0) := by decide +kernel
theorem st_62_9 : xsite 62 9 = some (4, 6, 0, 0) := by decide +kernel
theorem st_63_38 : xsite 63 38 = some (0, 29, 0, 0) := by decide +kernel
theorem st_63_42 : xsite 63 42 = some (0, 30, 0, 0) := by decide +kernel
theorem st_65_111 : xsite 65 111 = some (0, 36, 0, 0) := by decide +kernel
theorem st_65_115 : xsite 65 115 = some (0, 66, 0, 0) := by decide +kernel
theorem st_65_19 : xsite 65 19 = some (4, 6, 2, 0) := by decide +kernel
theorem st_66_19 : xsite 66 19 = some (4, 2, 1, 0) := by decide +kernel
theorem st_66_22 : xsite 66 22 = some (4, 2, 2, 0) := by decide +kernel
theorem st_67_104 : xsite 67 104 = some (7, 0, 0, 0) := by decide +kernel
theorem st_67_119 : xsite 67 119 = some (0, 68, 0, 0) := by decide +kernel
theorem st_67_123 : xsite 67 123 = some (0, 71, 1, 0) := by decide +kernel
theorem st_68_66 : xsite 68 66 = some (0, 69, 0, 0) := by decide +kernel
theorem st_68_70 : xsite 68 70 = some (0, 70, 0, 0) := by decide +kernel
theorem st_68_74 : xsite 68 74 = some (0, 54, 1, 0) := by decide +kernel
theorem st_69_84 : xsite 69 84 = some (1, 47, 1, 0) := by decide +kernel
theorem st_69_87 : xsite 69 87 = some (0, 31, 0, 0) := by decide +kernel
theorem st_69_9 : xsite 69 9 = some (4, 6, 0, 0) := by decide +kernel
theorem st_70_87 : xsite 70 87 = some (0, 31, 0, 0) := by decide +kernel
theorem st_70_9 : xsite 70 9 = some (4, 6, 0, 0) := by decide +kernel
theorem st_70_91 : xsite 70 91 = some (0, 29, 0, 0) := by decide +kernel
theorem st_70_94 : xsite 70 94 = some (0, 30, 0, 0) := by decide +kernel
theorem st_70_97 : xsite 70 97 = some (0, 53, 1, 0) := by decide +kernel
theorem st_72_104 : xsite 72 104 = some (7, 0, 0, 0) := by decide +kernel
theorem st_72_129 : xsite 72 129 = some (0, 73, 0, 0) := by decide +kernel
theorem st_72_84 : xsite 72 84 = some (1, 47, 1, 0) := by decide +kernel
theorem st_72_87 : xsite 72 87 = some (0, 31, 0, 0) := by decide +kernel
theorem st_72_9 : xsite 72 9 = some (4, 6, 0, 0) := by decide +kernel
theorem st_73_38 : xsite 73 38 = some (0, 29, 0, 0) := by decide +kernel
theorem st_73_42 : xsite 73 42 = some (0, 30, 0, 0) := by decide +kernel
theorem st_73_55 : xsite 73 55 = some (0, 31, 0, 0) := by decide +kernel
theorem st_73_72 : xsite 73 72 = some (0, 53, 1, 0) := by decide +kernel
theorem st_73_78 : xsite 73 78 = some (0, 54, 1, 0) := by decide +kernel
theorem st_74_100 : xsite 74 100 = some (0, 41, 0, 0) := by decide +kernel
theorem st_74_115 : xsite 74 115 = some (0, 66, 0, 0) := by decide +kernel
theorem st_74_132 : xsite 74 132 = some (10, 0, 0, 6) := by decide +kernel
theorem st_74_134 : xsite 74 134 = some (10, 0, 0, 3) := by decide +kernel
theorem st_74_15 : xsite 74 15 = some (4, 6, 1, 0) := by decide +kernel
theorem st_74_19 : xsite 74 19 = some (4, 6, 2, 0) := by decide +kernel
theorem st_74_48 : xsite 74 48 = some (10, 0, 0, 7420738134810) := by decide +kernel
theorem st_74_50 : xsite 74 50 = some (0, 37, 0, 0) := by decide +kernel
theorem st_74_56 : xsite 74 56 = some (0, 39, 0, 0) := by decide +kernel
theorem st_74_62 : xsite 74 62 = some (0, 40, 0, 0) := by decide +kernel
theorem st_75_130 : xsite 75 130 = some (0, 32, 0, 0) := by decide +kernel
theorem st_75_146 : xsite 75 146 = some (0, 76, 1, 0) := by decide +kernel
theorem st_75_149 : xsite 75 149 = some (0, 77, 0, 0) := by decide +kernel
theorem st_75_49 : xsite 75 49 = some (4, 0, 7, 0) := by decide +kernel
theorem st_77_142 : xsite 77 142 = some (0, 61, 0, 0) := by decide +kernel
theorem st_77_49 : xsite 77 49 = some (4, 0, 7, 0) := by decide +kernel
theorem st_77_58 : xsite 77 58 = some (4, 0, 8, 0) := by decide +kernel
theorem st_78_120 : xsite 78 120 = some (0, 24, 1, 0) := by decide +kernel
theorem st_78_45 : xsite 78 45 = some (4, 0, 6, 0) := by decide +kernel
theorem st_78_49 : xsite 78 49 = some (4, 0, 7, 0) := by decide +kernel
theorem st_79_120 : xsite 79 120 = some (0, 24, 1, 0) := by decide +kernel
theorem st_79_174 : xsite 79 174 = some (0, 27, 0, 0) := by decide +kernel
theorem st_79_49 : xsite 79 49 = some (4, 0, 7, 0) := by decide +kernel
theorem st_7_15 : xsite 7 15 = some (4, 6, 1, 0) := by decide +kernel
theorem st_7_19 : xsite 7 19 = some (4, 6, 2, 0) := by decide +kernel
theorem st_7_3 : xsite 7 3 = some (2, 0, 0, 0) := by decide +kernel
theorem st_7_9 : xsite 7 9 = some (4, 6, 0, 0) := by decide +kernel
theorem st_80_120 : xsite 80 120 = some (0, 24, 1, 0) := by decide +kernel
theorem st_80_127 : xsite 80 127 = some (0, 26, 0, 0) := by decide +kernel
theorem st_80_177 : xsite 80 177 = some (0, 33, 0, 0) := by decide +kernel
theorem st_80_180 : xsite 80 180 = some (0, 56, 0, 0) := by decide +kernel
theorem st_80_39 : xsite 80 39 = some (4, 0, 4, 0) := by decide +kernel
theorem st_80_49 : xsite 80 49 = some (4, 0, 7, 0) := by decide +kernel
theorem st_80_95 : xsite 80 95 = some (4, 0, 13, 0) := by decide +kernel
theorem st_81_120 : xsite 81 120 = some (0, 24, 1, 0) := by decide +kernel
theorem st_81_184 : xsite 81 184 = some (6, 0, 0, 0) := by decide +kernel
theorem st_81_187 : xsite 81 187 = some (0, 52, 1, 0) := by decide +kernel
theorem st_82_120 : xsite 82 120 = some (0, 24, 1, 0) := by decide +kernel
theorem st_82_166 : xsite 82 166 = some (10, 0, 0, -9223372036854775808) := by decide +kernel
theorem st_82_190 : xsite 82 190 = some (0, 47, 1, 0) := by decide +kernel
theorem st_82_193 : xsite 82 193 = some (10, 0, 0, 7420738134810) := by decide +kernel
theorem st_82_195 : xsite 82 195 = some (0, 37, 0, 0) := by decide +kernel
theorem st_82_198 : xsite 82 198 = some (0, 29, 0, 0) := by decide +kernel
theorem st_82_201 : xsite 82 201 = some (0, 30, 0, 0) := by decide +kernel
theorem st_82_204 : xsite 82 204 = some (0, 31, 0, 0) := by decide +kernel
theorem st_82_207 : xsite 82 207 = some (0, 41, 0, 0) := by decide +kernel
theorem st_82_21 : xsite 82 21 = some (4, 0, 1, 0) := by decide +kernel
theorem st_82_211 : xsite 82 211 = some (0, 55, 0, 0) := by decide +kernel
theorem st_82_214 : xsite 82 214 = some (0, 42, 0, 0) := by decide +kernel
theorem st_82_218 : xsite 82 218 = some (4, 5, 0, 0) := by decide +kernel
theorem st_82_35 : xsite 82 35 = some (4, 0, 3, 0) := by decide +kernel
theorem st_82_95 : xsite 82 95 = some (4, 0, 13, 0) := by decide +kernel
theorem st_83_120 : xsite 83 120 = some (0, 24, 1, 0) := by decide +kernel
theorem st_83_222 : xsite 83 222 = some (0, 84, 1, 0) := by decide +kernel
theorem st_83_225 : xsite 83 225 = some (0, 85, 0, 0) := by decide +kernel
theorem st_83_228 : xsite 83 228 = some (0, 86, 0, 0) := by decide +kernel
theorem st_83_49 : xsite 83 49 = some (4, 0, 7, 0) := by decide +kernel
theorem st_83_65 : xsite 83 65 = some (4, 0, 9, 0) := by decide +kernel
theorem st_84_184 : xsite 84 184 = some (6, 0, 0, 0) := by decide +kernel
theorem st_85_204 : xsite 85 204 = some (0, 31, 0, 0) := by decide +kernel
theorem st_85_39 : xsite 85 39 = some (4, 0, 4, 0) := by decide +kernel
theorem st_85_444 : xsite 85 444 = some (0, 73, 0, 0) := by decide +kernel
theorem st_86_11 : xsite 86 11 = some (4, 7, 0, 0) := by decide +kernel
theorem st_86_15 : xsite 86 15 = some (4, 7, 1, 0) := by decide +kernel
theorem st_86_18 : xsite 86 18 = some (4, 7, 2, 0) := by decide +kernel
theorem st_86_21 : xsite 86 21 = some (4, 7, 3, 0) := by decide +kernel
theorem st_86_25 : xsite 86 25 = some (0, 89, 0, 0) := by decide +kernel
theorem st_86_29 : xsite 86 29 = some (0, 87, 0, 0) := by decide +kernel
theorem st_86_33 : xsite 86 33 = some (0, 88, 0, 0) := by decide +kernel
theorem st_87_11 : xsite 87 11 = some (4, 7, 0, 0) := by decide +kernel
theorem st_87_15 : xsite 87 15 = some (4, 7, 1, 0) := by decide +kernel
theorem st_87_21 : xsite 87 21 = some (4, 7, 3, 0) := by decide +kernel
theorem st_88_11 : xsite 88 11 = some (4, 7, 0, 0) := by decide +kernel
theorem st_88_15 : xsite 88 15 = some (4, 7, 1, 0) := by decide +kernel
theorem st_88_18 : xsite 88 18 = some (4, 7, 2, 0) := by decide +kernel
theorem st_88_21 : xsite 88 21 = some (4, 7, 3, 0) := by decide +kernel
theorem st_88_36 : xsite 88 36 = some (3, 0, 0, 0) := by decide +kernel
theorem st_89_21 : xsite 89 21 = some (4, 7, 3, 0) := by decide +kernel
theorem st_8_11 : xsite 8 11 = some (4, 7, 0, 0) := by decide +kernel
theorem st_8_15 : xsite 8 15 = some (4, 7, 1, 0) := by decide +kernel
theorem st_8_18 : xsite 8 18 = some (4, 7, 2, 0) := by decide +kernel
theorem st_8_3 : xsite 8 3 = some (2, 0, 0, 0) := by decide +kernel
theorem st_90_120 : xsite 90 120 = some (0, 24, 1, 0) := by decide +kernel
theorem st_90_190 : xsite 90 190 = some (0, 47, 1, 0) := by decide +kernel
theorem st_90_222 : xsite 90 222 = some (0, 84, 1, 0) := by decide +kernel
theorem st_90_232 : xsite 90 232 = some (0, 91, 1, 0) := by decide +kernel
theorem st_91_19 : xsite 91 19 = some (0, 49, 1, 0) := by decide +kernel
theorem st_92_238 : xsite 92 238 = some (0, 93, 0, 0) := by decide +kernel
theorem st_92_242 : xsite 92 242 = some (0, 94, 0, 0) := by decide +kernel
theorem st_92_246 : xsite 92 246 = some (0, 95, 0, 0) := by decide +kernel
theorem st_92_249 : xsite 92 249 = some (0, 96, 0, 0) := by decide +kernel
theorem st_92_252 : xsite 92 252 = some (0, 97, 0, 0) := by decide +kernel
theorem st_92_65 : xsite 92 65 = some (4, 0, 9, 0) := by decide +kernel
theorem st_93_21 : xsite 93 21 = some (4, 7, 3, 0) := by decide +kernel
theorem st_94_11 : xsite 94 11 = some (4, 7, 0, 0) := by decide +kernel
theorem st_94_25 : xsite 94 25 = some (0, 89, 0, 0) := by decide +kernel
theorem st_95_15 : xsite 95 15 = some (4, 7, 1, 0) := by decide +kernel
theorem st_95_25 : xsite 95 25 = some (0, 89, 0, 0) := by decide +kernel
theorem st_96_18 : xsite 96 18 = some (4, 7, 2, 0) := by decide +kernel
theorem st_96_25 : xsite 96 25 = some (0, 89, 0, 0) := by decide +kernel
theorem st_97_225 : xsite 97 225 = some (0, 85, 0, 0) := by decide +kernel
theorem st_97_242 : xsite 97 242 = some (0, 94, 0, 0) := by decide +kernel
theorem st_97_246 : xsite 97 246 = some (0, 95, 0, 0) := by decide +kernel
theorem st_97_249 : xsite 97 249 = some (0, 96, 0, 0) := by decide +kernel
theorem st_97_65 : xsite 97 65 = some (4, 0, 9, 0) := by decide +kernel
theorem st_98_163 : xsite 98 163 = some (0, 99, 0, 0) := by decide +kernel
theorem st_98_168 : xsite 98 168 = some (0, 100, 0, 0) := by decide +kernel
theorem st_98_222 : xsite 98 222 = some (0, 84, 1, 0) := by decide +kernel
theorem st_98_255 : xsite 98 255 = some (0, 63, 0, 0) := by decide +kernel
theorem st_98_258 : xsite 98 258 = some (0, 101, 0, 0) := by decide +kernel
theorem st_98_261 : xsite 98 261 = some (0, 102, 0, 0) := by decide +kernel
theorem st_98_39 : xsite 98 39 = some (4, 0, 4, 0) := by decide +kernel
theorem st_98_95 : xsite 98 95 = some (4, 0, 13, 0) := by decide +kernel
theorem st_99_49 : xsite 99 49 = some (4, 0, 7, 0) := by decide +kernel
theorem st_9_15 : xsite 9 15 = some (4, 8, 1, 0) := by decide +kernel
theorem st_9_3 : xsite 9 3 = some (2, 0, 0, 0) := by decide +kernel
theorem st_9_9 : xsite 9 9 = some (4, 8, 0, 0) := by decide +kernel
end
section
/-! segments of methods, laid by wip/whole/wp.py -/
-- 0 BernoulliWays.<init>()V
theorem S_0_0 {a0 : Nat} {w : xW} {r : Option Value × xW} (h : (¬ xP ≤ w.length + 1) ∧ ∀ b3 w2, b3 = w.length → w2 = w ++ [.inr (1, xvs.getD 1 [])] → ∃ w4, xCall 1 [.ref b3] w2 (none, w4) ∧ ∃ fs6, w4[a0]? = some (.inr (0, fs6)) ∧ (0 < fs6.length) ∧ ∀ w9, w9 = w4.set a0 (.inr (0, fs6.set 0 (.ref b3))) → (¬ xP ≤ w9.length + 1) ∧ ∀ b12 w11, b12 = w9.length → w11 = w9 ++ [.inr (2, xvs.getD 2 [])] → ∃ w13, xCall 2 [.ref b12] w11 (none, w13) ∧ ∃ fs15, w13[a0]? = some (.inr (0, fs15)) ∧ (1 < fs15.length) ∧ ∀ w18, w18 = w13.set a0 (.inr (0, fs15.set 1 (.ref b12))) → (¬ xP ≤ w18.length + 1) ∧ ∀ b21 w20, b21 = w18.length → w20 = w18 ++ [.inr (3, xvs.getD 3 [])] → ∃ w22, xCall 3 [.ref b21] w20 (none, w22) ∧ ∃ fs24, w22[a0]? = some (.inr (0, fs24)) ∧ (2 < fs24.length) ∧ ∀ w27, w27 = w22.set a0 (.inr (0, fs24.set 2 (.ref b21))) → (¬ xP ≤ w27.length + 1) ∧ ∀ b30 w29, b30 = w27.length → w29 = w27 ++ [.inr (4, xvs.getD 4 [])] → ∃ w31, xCall 4 [.ref b30] w29 (none, w31) ∧ ∃ fs33, w31[a0]? = some (.inr (0, fs33)) ∧ (3 < fs33.length) ∧ ∀ w36, w36 = w31.set a0 (.inr (0, fs33.set 3 (.ref b30))) → (¬ xP ≤ w36.length + 1) ∧ ∀ b39 w38, b39 = w36.length → w38 = w36 ++ [.inr (4, xvs.getD 4 [])] → ∃ w40, xCall 4 [.ref b39] w38 (none, w40) ∧ ∃ fs42, w40[a0]? = some (.inr (0, fs42)) ∧ (4 < fs42.length) ∧ ∀ w45, w45 = w40.set a0 (.inr (0, fs42.set 4 (.ref b39))) → (¬ xP ≤ w45.length + 1) ∧ ∀ b48 w47, b48 = w45.length → w47 = w45 ++ [.inr (4, xvs.getD 4 [])] → ∃ w49, xCall 4 [.ref b48] w47 (none, w49) ∧ ∃ fs51, w49[a0]? = some (.inr (0, fs51)) ∧ (5 < fs51.length) ∧ ∀ w54, w54 = w49.set a0 (.inr (0, fs51.set 5 (.ref b48))) → (¬ ((39 : Int32) < 0 ∨ 1000000 < (39 : Int32).toNatClampNeg ∨ xP ≤ w54.length + 1)) ∧ ∀ b57 w56, b57 = w54.length → w56 = w54 ++ [.inl (.inl ((39 : Int32).toNatClampNeg, fun _ => 0))] → ∃ fs58, w56[a0]? = some (.inr (0, fs58)) ∧ (6 < fs58.length) ∧ ∀ w61, w61 = w56.set a0 (.inr (0, fs58.set 6 (.ref b57))) → (7 < (fs58.set 6 (.ref b57)).length) ∧ ∀ w63, w63 = w61.set a0 (.inr (0, (fs58.set 6 (.ref b57)).set 7 (.int (-1 : Int32)))) → (¬ xP ≤ w63.length + 1) ∧ ∀ b66 w65, b66 = w63.length → w65 = w63 ++ [.inr (6, xvs.getD 6 [])] → ∃ fs67, w65[a0]? = some (.inr (0, fs67)) ∧ ∃ b69, fs67[4]? = some (.ref b69) ∧ ∃ b71, fs67[0]? = some (.ref b71) ∧ ∃ b73, fs67[1]? = some (.ref b73) ∧ ∃ w75, xCall 7 [.ref b66, .ref b69, .ref b71, .ref b73] w65 (none, w75) ∧ ∃ fs77, w75[a0]? = some (.inr (0, fs77)) ∧ (8 < fs77.length) ∧ ∀ w80, w80 = w75.set a0 (.inr (0, fs77.set 8 (.ref b66))) → (¬ xP ≤ w80.length + 1) ∧ ∀ b83 w82, b83 = w80.length → w82 = w80 ++ [.inr (7, xvs.getD 7 [])] → ∃ w84, xCall 8 [.ref b83] w82 (none, w84) ∧ ∃ fs86, w84[a0]? = some (.inr (0, fs86)) ∧ (9 < fs86.length) ∧ ∀ w89, w89 = w84.set a0 (.inr (0, fs86.set 9 (.ref b83))) → (¬ xP ≤ w89.length + 1) ∧ ∀ b92 w91, b92 = w89.length → w91 = w89 ++ [.inr (8, xvs.getD 8 [])] → ∃ w93, xCall 9 [.ref b92] w91 (none, w93) ∧ ∃ fs95, w93[a0]? = some (.inr (0, fs95)) ∧ (10 < fs95.length) ∧ ∀ w98, w98 = w93.set a0 (.inr (0, fs95.set 10 (.ref b92))) → (¬ xP ≤ w98.length + 1) ∧ ∀ b101 w100, b101 = w98.length → w100 = w98 ++ [.inr (9, xvs.getD 9 [])] → ∃ fs102, w100[a0]? = some (.inr (0, fs102)) ∧ ∃ b104, fs102[10]? = some (.ref b104) ∧ ∃ w106, xCall 10 [.ref b101, .ref b104] w100 (none, w106) ∧ ∃ fs108, w106[a0]? = some (.inr (0, fs108)) ∧ (11 < fs108.length) ∧ ∀ w111, w111 = w106.set a0 (.inr (0, fs108.set 11 (.ref b101))) → (¬ xP ≤ w111.length + 1) ∧ ∀ b114 w113, b114 = w111.length → w113 = w111 ++ [.inr (10, xvs.getD 10 [])] → ∃ w115, xCall 11 [.ref b114] w113 (none, w115) ∧ ∃ fs117, w115[a0]? = some (.inr (0, fs117)) ∧ (12 < fs117.length) ∧ ∀ w120, w120 = w115.set a0 (.inr (0, fs117.set 12 (.ref b114))) → (¬ xP ≤ w120.length + 1) ∧ ∀ b123 w122, b123 = w120.length → w122 = w120 ++ [.inr (5, xvs.getD 5 [])] → ∃ w124, xCall 5 [.ref b123] w122 (none, w124) ∧ ∃ fs126, w124[a0]? = some (.inr (0, fs126)) ∧ (13 < fs126.length) ∧ ∀ w129, w129 = w124.set a0 (.inr (0, fs126.set 13 (.ref b123))) → (¬ ((40 : Int32) < 0 ∨ 1000000 < (40 : Int32).toNatClampNeg ∨ xP ≤ w129.length + 1)) ∧ ∀ b132 w131, b132 = w129.length → w131 = w129 ++ [.inl (.inr ((40 : Int32).toNatClampNeg, fun _ => 0))] → ∃ fs133, w131[a0]? = some (.inr (0, fs133)) ∧ (14 < fs133.length) ∧ ∀ w136, w136 = w131.set a0 (.inr (0, fs133.set 14 (.ref b132))) → (¬ ((40 : Int32) < 0 ∨ 1000000 < (40 : Int32).toNatClampNeg ∨ xP ≤ w136.length + 1)) ∧ ∀ b139 w138, b139 = w136.length → w138 = w136 ++ [.inl (.inr ((40 : Int32).toNatClampNeg, fun _ => 0))] → ∃ fs140, w138[a0]? = some (.inr (0, fs140)) ∧ (15 < fs140.length) ∧ ∀ w143, w143 = w138.set a0 (.inr (0, fs140.set 15 (.ref b139))) → ∃ b144, (fs140.set 15 (.ref b139))[2]? = some (.ref b144) ∧ ∃ fs146, w143[b144]? = some (.inr (3, fs146)) ∧ ∃ w148, xCall 12 [.ref b144, .int (38 : Int32)] w143 (none, w148) ∧ xGo 0 192 [some (.ref a0), some (.int (0 : Int32))] [] w148 r) : xGo 0 0 [some (.ref a0), none] [] w r := by
  refine g_aloadn (pc' := 1) d_0_0 rfl rfl ?_
  refine g_obj (pc' := 4) d_0_1 rfl st_0_5 fr_0 lo_0 rfl ?_
  refine g_aloadn (pc' := 5) d_0_4 rfl rfl ?_
  obtain ⟨hc1, h⟩ := h
  have h := h _ _ rfl rfl
  refine g_new (pc' := 8) d_0_5 rfl st_0_11 hc1 ?_
  refine g_dup (pc' := 9) d_0_8 rfl rfl ?_
  obtain ⟨w4, hk5, h⟩ := h
  refine g_callI (pc' := 12) d_0_9 rfl st_0_13 (Or.inl rfl) na_1 ml_1 rfl rfl rfl rm_0_1 rfl rfl hk5 ?_
  obtain ⟨fs6, hw7, h⟩ := h
  obtain ⟨hc8, h⟩ := h
  have h := h _ rfl
  refine g_putf (pc' := 15) d_0_12 rfl st_0_14 ft_0_0 ff_0_0 rfl (Or.inr ⟨by decide +kernel, by decide +kernel⟩) hw7 hc8 ?_
  refine g_aloadn (pc' := 16) d_0_15 rfl rfl ?_
  obtain ⟨hc10, h⟩ := h
  have h := h _ _ rfl rfl
  refine g_new (pc' := 19) d_0_16 rfl st_0_18 hc10 ?_
  refine g_dup (pc' := 20) d_0_19 rfl rfl ?_
  obtain ⟨w13, hk14, h⟩ := h
  refine g_callI (pc' := 23) d_0_20 rfl st_0_20 (Or.inr rfl) na_2 ml_2 rfl rfl rfl rm_0_2 rfl rfl hk14 ?_
  obtain ⟨fs15, hw16, h⟩ := h
  obtain ⟨hc17, h⟩ := h
  have h := h _ rfl
  refine g_putf (pc' := 26) d_0_23 rfl st_0_21 ft_0_1 ff_0_1 rfl (Or.inr ⟨by decide +kernel, by decide +kernel⟩) hw16 hc17 ?_
  refine g_aloadn (pc' := 27) d_0_26 rfl rfl ?_
  obtain ⟨hc19, h⟩ := h
  have h := h _ _ rfl rfl
  refine g_new (pc' := 30) d_0_27 rfl st_0_25 hc19 ?_
  refine g_dup (pc' := 31) d_0_30 rfl rfl ?_
  obtain ⟨w22, hk23, h⟩ := h
  refine g_callI (pc' := 34) d_0_31 rfl st_0_27 (Or.inr rfl) na_3 ml_3 rfl rfl rfl rm_0_3 rfl rfl hk23 ?_
  obtain ⟨fs24, hw25, h⟩ := h
  obtain ⟨hc26, h⟩ := h
  have h := h _ rfl
  refine g_putf (pc' := 37) d_0_34 rfl st_0_28 ft_0_2 ff_0_2 rfl (Or.inr ⟨by decide +kernel, by decide +kernel⟩) hw25 hc26 ?_
  refine g_aloadn (pc' := 38) d_0_37 rfl rfl ?_
  obtain ⟨hc28, h⟩ := h
  have h := h _ _ rfl rfl
  refine g_new (pc' := 41) d_0_38 rfl st_0_32 hc28 ?_
  refine g_dup (pc' := 42) d_0_41 rfl rfl ?_
  obtain ⟨w31, hk32, h⟩ := h
  refine g_callI (pc' := 45) d_0_42 rfl st_0_34 (Or.inl rfl) na_4 ml_4 rfl rfl rfl rm_0_4 rfl rfl hk32 ?_
  obtain ⟨fs33, hw34, h⟩ := h
  obtain ⟨hc35, h⟩ := h
  have h := h _ rfl
  refine g_putf (pc' := 48) d_0_45 rfl st_0_35 ft_0_3 ff_0_3 rfl (Or.inr ⟨by decide +kernel, by decide +kernel⟩) hw34 hc35 ?_
  refine g_aloadn (pc' := 49) d_0_48 rfl rfl ?_
  obtain ⟨hc37, h⟩ := h
  have h := h _ _ rfl rfl
  refine g_new (pc' := 52) d_0_49 rfl st_0_32 hc37 ?_
  refine g_dup (pc' := 53) d_0_52 rfl rfl ?_
  obtain ⟨w40, hk41, h⟩ := h
  refine g_callI (pc' := 56) d_0_53 rfl st_0_34 (Or.inl rfl) na_4 ml_4 rfl rfl rfl rm_0_4 rfl rfl hk41 ?_
  obtain ⟨fs42, hw43, h⟩ := h
  obtain ⟨hc44, h⟩ := h
  have h := h _ rfl
  refine g_putf (pc' := 59) d_0_56 rfl st_0_39 ft_0_4 ff_0_4 rfl (Or.inr ⟨by decide +kernel, by decide +kernel⟩) hw43 hc44 ?_
  refine g_aloadn (pc' := 60) d_0_59 rfl rfl ?_
  obtain ⟨hc46, h⟩ := h
  have h := h _ _ rfl rfl
  refine g_new (pc' := 63) d_0_60 rfl st_0_32 hc46 ?_
  refine g_dup (pc' := 64) d_0_63 rfl rfl ?_
  obtain ⟨w49, hk50, h⟩ := h
  refine g_callI (pc' := 67) d_0_64 rfl st_0_34 (Or.inl rfl) na_4 ml_4 rfl rfl rfl rm_0_4 rfl rfl hk50 ?_
  obtain ⟨fs51, hw52, h⟩ := h
  obtain ⟨hc53, h⟩ := h
  have h := h _ rfl
  refine g_putf (pc' := 70) d_0_67 rfl st_0_42 ft_0_5 ff_0_5 rfl (Or.inr ⟨by decide +kernel, by decide +kernel⟩) hw52 hc53 ?_
  refine g_aloadn (pc' := 71) d_0_70 rfl rfl ?_
  refine g_bipush (pc' := 73) d_0_71 rfl cb_39 ?_
  obtain ⟨hc55, h⟩ := h
  have h := h _ _ rfl rfl
  refine g_newi (pc' := 75) d_0_73 rfl hc55 ?_
  obtain ⟨fs58, hw59, h⟩ := h
  obtain ⟨hc60, h⟩ := h
  have h := h _ rfl
  refine g_putf (pc' := 78) d_0_75 rfl st_0_45 ft_0_6 ff_0_6 rfl (Or.inr ⟨by decide +kernel, by decide +kernel⟩) hw59 hc60 ?_
  refine g_aloadn (pc' := 79) d_0_78 rfl rfl ?_
  refine g_iconst (pc' := 80) d_0_79 rfl ci_m1 ?_
  obtain ⟨hc62, h⟩ := h
  have h := h _ rfl
  refine g_putf (pc' := 83) d_0_80 rfl st_0_49 ft_0_7 ff_0_7 rfl (Or.inl rfl) (x_gss hw59) hc62 ?_
  refine g_aloadn (pc' := 84) d_0_83 rfl rfl ?_
  obtain ⟨hc64, h⟩ := h
  have h := h _ _ rfl rfl
  refine g_new (pc' := 87) d_0_84 rfl st_0_53 hc64 ?_
  refine g_dup (pc' := 88) d_0_87 rfl rfl ?_
  refine g_aloadn (pc' := 89) d_0_88 rfl rfl ?_
  obtain ⟨fs67, hw68, h⟩ := h
  obtain ⟨b69, hv70, h⟩ := h
  refine g_getf (pc' := 92) d_0_89 rfl st_0_39 hw68 hv70 ?_
  refine g_aloadn (pc' := 93) d_0_92 rfl rfl ?_
  obtain ⟨b71, hv72, h⟩ := h
  refine g_getf (pc' := 96) d_0_93 rfl st_0_14 hw68 hv72 ?_
  refine g_aloadn (pc' := 97) d_0_96 rfl rfl ?_
  obtain ⟨b73, hv74, h⟩ := h
  refine g_getf (pc' := 100) d_0_97 rfl st_0_21 hw68 hv74 ?_
  obtain ⟨w75, hk76, h⟩ := h
  refine g_callI (pc' := 103) d_0_100 rfl st_0_55 (Or.inl rfl) na_7 ml_7 rfl rfl rfl rm_0_7 rfl rfl hk76 ?_
  obtain ⟨fs77, hw78, h⟩ := h
  obtain ⟨hc79, h⟩ := h
  have h := h _ rfl
  refine g_putf (pc' := 106) d_0_103 rfl st_0_58 ft_0_8 ff_0_8 rfl (Or.inr ⟨by decide +kernel, by decide +kernel⟩) hw78 hc79 ?_
  refine g_aloadn (pc' := 107) d_0_106 rfl rfl ?_
  obtain ⟨hc81, h⟩ := h
  have h := h _ _ rfl rfl
  refine g_new (pc' := 110) d_0_107 rfl st_0_62 hc81 ?_
  refine g_dup (pc' := 111) d_0_110 rfl rfl ?_
  obtain ⟨w84, hk85, h⟩ := h
  refine g_callI (pc' := 114) d_0_111 rfl st_0_64 (Or.inr rfl) na_8 ml_8 rfl rfl rfl rm_0_8 rfl rfl hk85 ?_
  obtain ⟨fs86, hw87, h⟩ := h
  obtain ⟨hc88, h⟩ := h
  have h := h _ rfl
  refine g_putf (pc' := 117) d_0_114 rfl st_0_65 ft_0_9 ff_0_9 rfl (Or.inr ⟨by decide +kernel, by decide +kernel⟩) hw87 hc88 ?_
  refine g_aloadn (pc' := 118) d_0_117 rfl rfl ?_
  obtain ⟨hc90, h⟩ := h
  have h := h _ _ rfl rfl
  refine g_new (pc' := 121) d_0_118 rfl st_0_69 hc90 ?_
  refine g_dup (pc' := 122) d_0_121 rfl rfl ?_
  obtain ⟨w93, hk94, h⟩ := h
  refine g_callI (pc' := 125) d_0_122 rfl st_0_71 (Or.inr rfl) na_9 ml_9 rfl rfl rfl rm_0_9 rfl rfl hk94 ?_
  obtain ⟨fs95, hw96, h⟩ := h
  obtain ⟨hc97, h⟩ := h
  have h := h _ rfl
  refine g_putf (pc' := 128) d_0_125 rfl st_0_72 ft_0_10 ff_0_10 rfl (Or.inr ⟨by decide +kernel, by decide +kernel⟩) hw96 hc97 ?_
  refine g_aloadn (pc' := 129) d_0_128 rfl rfl ?_
  obtain ⟨hc99, h⟩ := h
  have h := h _ _ rfl rfl
  refine g_new (pc' := 132) d_0_129 rfl st_0_76 hc99 ?_
  refine g_dup (pc' := 133) d_0_132 rfl rfl ?_
  refine g_aloadn (pc' := 134) d_0_133 rfl rfl ?_
  obtain ⟨fs102, hw103, h⟩ := h
  obtain ⟨b104, hv105, h⟩ := h
  refine g_getf (pc' := 137) d_0_134 rfl st_0_72 hw103 hv105 ?_
  obtain ⟨w106, hk107, h⟩ := h
  refine g_callI (pc' := 140) d_0_137 rfl st_0_78 (Or.inl rfl) na_10 ml_10 rfl rfl rfl rm_0_10 rfl rfl hk107 ?_
  obtain ⟨fs108, hw109, h⟩ := h
  obtain ⟨hc110, h⟩ := h
  have h := h _ rfl
  refine g_putf (pc' := 143) d_0_140 rfl st_0_81 ft_0_11 ff_0_11 rfl (Or.inr ⟨by decide +kernel, by decide +kernel⟩) hw109 hc110 ?_
  refine g_aloadn (pc' := 144) d_0_143 rfl rfl ?_
  obtain ⟨hc112, h⟩ := h
  have h := h _ _ rfl rfl
  refine g_new (pc' := 147) d_0_144 rfl st_0_85 hc112 ?_
  refine g_dup (pc' := 148) d_0_147 rfl rfl ?_
  obtain ⟨w115, hk116, h⟩ := h
  refine g_callI (pc' := 151) d_0_148 rfl st_0_87 (Or.inr rfl) na_11 ml_11 rfl rfl rfl rm_0_11 rfl rfl hk116 ?_
  obtain ⟨fs117, hw118, h⟩ := h
  obtain ⟨hc119, h⟩ := h
  have h := h _ rfl
  refine g_putf (pc' := 154) d_0_151 rfl st_0_88 ft_0_12 ff_0_12 rfl (Or.inr ⟨by decide +kernel, by decide +kernel⟩) hw118 hc119 ?_
  refine g_aloadn (pc' := 155) d_0_154 rfl rfl ?_
  obtain ⟨hc121, h⟩ := h
  have h := h _ _ rfl rfl
  refine g_new (pc' := 158) d_0_155 rfl st_0_92 hc121 ?_
  refine g_dup (pc' := 159) d_0_158 rfl rfl ?_
  obtain ⟨w124, hk125, h⟩ := h
  refine g_callI (pc' := 162) d_0_159 rfl st_0_94 (Or.inr rfl) na_5 ml_5 rfl rfl rfl rm_0_5 rfl rfl hk125 ?_
  obtain ⟨fs126, hw127, h⟩ := h
  obtain ⟨hc128, h⟩ := h
  have h := h _ rfl
  refine g_putf (pc' := 165) d_0_162 rfl st_0_95 ft_0_13 ff_0_13 rfl (Or.inr ⟨by decide +kernel, by decide +kernel⟩) hw127 hc128 ?_
  refine g_aloadn (pc' := 166) d_0_165 rfl rfl ?_
  refine g_bipush (pc' := 168) d_0_166 rfl cb_40 ?_
  obtain ⟨hc130, h⟩ := h
  have h := h _ _ rfl rfl
  refine g_newl (pc' := 170) d_0_168 rfl hc130 ?_
  obtain ⟨fs133, hw134, h⟩ := h
  obtain ⟨hc135, h⟩ := h
  have h := h _ rfl
  refine g_putf (pc' := 173) d_0_170 rfl st_0_99 ft_0_14 ff_0_14 rfl (Or.inr ⟨by decide +kernel, by decide +kernel⟩) hw134 hc135 ?_
  refine g_aloadn (pc' := 174) d_0_173 rfl rfl ?_
  refine g_bipush (pc' := 176) d_0_174 rfl cb_40 ?_
  obtain ⟨hc137, h⟩ := h
  have h := h _ _ rfl rfl
  refine g_newl (pc' := 178) d_0_176 rfl hc137 ?_
  obtain ⟨fs140, hw141, h⟩ := h
  obtain ⟨hc142, h⟩ := h
  have h := h _ rfl
  refine g_putf (pc' := 181) d_0_178 rfl st_0_103 ft_0_15 ff_0_15 rfl (Or.inr ⟨by decide +kernel, by decide +kernel⟩) hw141 hc142 ?_
  refine g_aloadn (pc' := 182) d_0_181 rfl rfl ?_
  obtain ⟨b144, hv145, h⟩ := h
  refine g_getf (pc' := 185) d_0_182 rfl st_0_28 (x_gss hw141) hv145 ?_
  refine g_bipush (pc' := 187) d_0_185 rfl cb_38 ?_
  obtain ⟨fs146, hw147, h⟩ := h
  obtain ⟨w148, hk149, h⟩ := h
  refine g_callV (pc' := 190) d_0_187 rfl st_0_106 na_12 ml_12 rfl rfl rfl rm_0_12 rfl rfl ow_12 hw147 hk149 ?_
  refine g_iconst (pc' := 191) d_0_190 rfl ci_0 ?_
  refine g_istoren (pc' := 192) (l' := [some (.ref a0), some (.int (0 : Int32))]) d_0_191 rfl ml_0 rfl rfl ?_
  exact h
theorem S_0_192 {a0 : Nat} {i1 : Int32} {w : xW} {r : Option Value × xW} (h : ((38 : Int32) < i1 → r = (none, w)) ∧ (¬ ((38 : Int32) < i1) → ∃ fs1, w[a0]? = some (.inr (0, fs1)) ∧ ∃ b3, fs1[2]? = some (.ref b3) ∧ ∃ b5, fs1[13]? = some (.ref b5) ∧ ∃ fs7, w[b3]? = some (.inr (3, fs7)) ∧ ∃ w9, xCall 14 [.ref b3, .int i1, .ref b5] w (none, w9) ∧ ∃ fs11, w9[a0]? = some (.inr (0, fs11)) ∧ ∃ b13, fs11[3]? = some (.ref b13) ∧ ∃ b15, fs11[13]? = some (.ref b15) ∧ ∃ fs17, w9[b13]? = some (.inr (4, fs17)) ∧ ∃ w19, xCall 20 [.ref b13, .int i1, .ref b15] w9 (none, w19) ∧ ∃ fs21, w19[a0]? = some (.inr (0, fs21)) ∧ ∃ b23, fs21[2]? = some (.ref b23) ∧ ∃ fs25, w19[b23]? = some (.inr (3, fs25)) ∧ ∃ w27, xCall 22 [.ref b23] w19 (none, w27) ∧ ∀ v29 : Int32, v29 = i1 + (1 : Int32) → xGo 0 192 [some (.ref a0), some (.int v29)] [] w27 r)) : xGo 0 192 [some (.ref a0), some (.int i1)] [] w r := by
  refine g_iloadn (pc' := 193) d_0_192 rfl rfl ?_
  refine g_bipush (pc' := 195) d_0_193 rfl cb_38 ?_
  refine g_ic_gt (pc' := 198) (pt := 235) d_0_195 (by decide) rfl (fun c => ?_) (fun c => ?_)
  · replace h := h.1 c
    exact g_vret d_0_235 rt_0 h
  · replace h := h.2 c
    refine g_aloadn (pc' := 199) d_0_198 rfl rfl ?_
    obtain ⟨fs1, hw2, h⟩ := h
    obtain ⟨b3, hv4, h⟩ := h
    refine g_getf (pc' := 202) d_0_199 rfl st_0_28 hw2 hv4 ?_
    refine g_iloadn (pc' := 203) d_0_202 rfl rfl ?_
    refine g_aloadn (pc' := 204) d_0_203 rfl rfl ?_
    obtain ⟨b5, hv6, h⟩ := h
    refine g_getf (pc' := 207) d_0_204 rfl st_0_95 hw2 hv6 ?_
    obtain ⟨fs7, hw8, h⟩ := h
    obtain ⟨w9, hk10, h⟩ := h
    refine g_callV (pc' := 210) d_0_207 rfl st_0_110 na_14 ml_14 rfl rfl rfl rm_0_14 rfl rfl ow_14 hw8 hk10 ?_
    refine g_aloadn (pc' := 211) d_0_210 rfl rfl ?_
    obtain ⟨fs11, hw12, h⟩ := h
    obtain ⟨b13, hv14, h⟩ := h
    refine g_getf (pc' := 214) d_0_211 rfl st_0_35 hw12 hv14 ?_
    refine g_iloadn (pc' := 215) d_0_214 rfl rfl ?_
    refine g_aloadn (pc' := 216) d_0_215 rfl rfl ?_
    obtain ⟨b15, hv16, h⟩ := h
    refine g_getf (pc' := 219) d_0_216 rfl st_0_95 hw12 hv16 ?_
    obtain ⟨fs17, hw18, h⟩ := h
    obtain ⟨w19, hk20, h⟩ := h
    refine g_callV (pc' := 222) d_0_219 rfl st_0_114 na_20 ml_20 rfl rfl rfl rm_0_20 rfl rfl ow_20 hw18 hk20 ?_
    refine g_aloadn (pc' := 223) d_0_222 rfl rfl ?_
    obtain ⟨fs21, hw22, h⟩ := h
    obtain ⟨b23, hv24, h⟩ := h
    refine g_getf (pc' := 226) d_0_223 rfl st_0_28 hw22 hv24 ?_
    obtain ⟨fs25, hw26, h⟩ := h
    obtain ⟨w27, hk28, h⟩ := h
    refine g_callV (pc' := 229) d_0_226 rfl st_0_117 na_22 ml_22 rfl rfl rfl rm_0_22 rfl rfl ow_22 hw26 hk28 ?_
    have h := h _ rfl
    refine g_iinc (pc' := 232) (l' := [some (.ref a0), some (.int (i1 + (1 : Int32)))]) d_0_229 rfl rfl ci_1 ml_0 rfl rfl ?_
    refine g_goto (pt := 192) d_0_232 (by decide) ?_
    exact h
-- 1 BernoulliWays$Choose.<init>()V
theorem S_1_0 {a0 : Nat} {w : xW} {r : Option Value × xW} (h : (¬ ((1764 : Int32) < 0 ∨ 1000000 < (1764 : Int32).toNatClampNeg ∨ xP ≤ w.length + 1)) ∧ ∀ b3 w2, b3 = w.length → w2 = w ++ [.inl (.inr ((1764 : Int32).toNatClampNeg, fun _ => 0))] → ∃ fs4, w2[a0]? = some (.inr (1, fs4)) ∧ (0 < fs4.length) ∧ ∀ w7, w7 = w2.set a0 (.inr (1, fs4.set 0 (.ref b3))) → xGo 1 15 [some (.ref a0), some (.int (0 : Int32)), none, none] [] w7 r) : xGo 1 0 [some (.ref a0), none, none, none] [] w r := by
  refine g_aloadn (pc' := 1) d_1_0 rfl rfl ?_
  refine g_obj (pc' := 4) d_1_1 rfl st_1_3 fr_1 lo_1 rfl ?_
  refine g_aloadn (pc' := 5) d_1_4 rfl rfl ?_
  refine g_sipush (pc' := 8) d_1_5 rfl cs_1764 ?_
  obtain ⟨hc1, h⟩ := h
  have h := h _ _ rfl rfl
  refine g_newl (pc' := 10) d_1_8 rfl hc1 ?_
  obtain ⟨fs4, hw5, h⟩ := h
  obtain ⟨hc6, h⟩ := h
  have h := h _ rfl
  refine g_putf (pc' := 13) d_1_10 rfl st_1_11 ft_1_0 ff_1_0 rfl (Or.inr ⟨by decide +kernel, by decide +kernel⟩) hw5 hc6 ?_
  refine g_iconst (pc' := 14) d_1_13 rfl ci_0 ?_
  refine g_istoren (pc' := 15) (l' := [some (.ref a0), some (.int (0 : Int32)), none, none]) d_1_14 rfl ml_1 rfl rfl ?_
  exact h
theorem S_1_15 {a0 : Nat} {i1 : Int32} {w : xW} {r : Option Value × xW} (h : ((42 : Int32) ≤ i1 → r = (none, w)) ∧ (¬ ((42 : Int32) ≤ i1) → ∃ fs1, w[a0]? = some (.inr (1, fs1)) ∧ ∃ b3, fs1[0]? = some (.ref b3) ∧ ∃ n5 f6, w[b3]? = some (.inl (.inr (n5, f6))) ∧ (¬ ((i1 * (42 : Int32)) < 0 ∨ n5 ≤ (i1 * (42 : Int32)).toNatClampNeg)) ∧ ∀ w9, w9 = w.set b3 (.inl (.inr (n5, (vp_updL f6 (i1 * (42 : Int32)).toNatClampNeg (1 : Int64))))) → xGo 1 33 [some (.ref a0), some (.int i1), some (.int (1 : Int32)), none] [] w9 r)) : xGo 1 15 [some (.ref a0), some (.int i1), none, none] [] w r := by
  refine g_iloadn (pc' := 16) d_1_15 rfl rfl ?_
  refine g_bipush (pc' := 18) d_1_16 rfl cb_42 ?_
  refine g_ic_ge (pc' := 21) (pt := 85) d_1_18 (by decide) rfl (fun c => ?_) (fun c => ?_)
  · replace h := h.1 c
    exact g_vret d_1_85 rt_1 h
  · replace h := h.2 c
    refine g_aloadn (pc' := 22) d_1_21 rfl rfl ?_
    obtain ⟨fs1, hw2, h⟩ := h
    obtain ⟨b3, hv4, h⟩ := h
    refine g_getf (pc' := 25) d_1_22 rfl st_1_11 hw2 hv4 ?_
    refine g_iloadn (pc' := 26) d_1_25 rfl rfl ?_
    refine g_bipush (pc' := 28) d_1_26 rfl cb_42 ?_
    refine g_imul (pc' := 29) d_1_28 rfl ?_
    refine g_lconst (pc' := 30) d_1_29 rfl cl_1 ?_
    obtain ⟨n5, f6, hw7, h⟩ := h
    obtain ⟨hc8, h⟩ := h
    have h := h _ rfl
    refine g_last (pc' := 31) d_1_30 rfl hw7 hc8 ?_
    refine g_iconst (pc' := 32) d_1_31 rfl ci_1 ?_
    refine g_istoren (pc' := 33) (l' := [some (.ref a0), some (.int i1), some (.int (1 : Int32)), none]) d_1_32 rfl ml_1 rfl rfl ?_
    exact h
theorem S_1_33 {a0 : Nat} {i1 : Int32} {i2 : Int32} {w : xW} {r : Option Value × xW} (h : (i1 < i2 → ∀ v1 : Int32, v1 = i1 + (1 : Int32) → xGo 1 15 [some (.ref a0), some (.int v1), some (.int i2), none] [] w r) ∧ (¬ (i1 < i2) → ∀ v2 : Int32, v2 = (((i1 - (1 : Int32)) * (42 : Int32)) + i2) → ∃ fs3, w[a0]? = some (.inr (1, fs3)) ∧ ∃ b5, fs3[0]? = some (.ref b5) ∧ ∃ n7 f8, w[b5]? = some (.inl (.inr (n7, f8))) ∧ (¬ ((v2 - (1 : Int32)) < 0 ∨ n7 ≤ (v2 - (1 : Int32)).toNatClampNeg)) ∧ (¬ (v2 < 0 ∨ n7 ≤ v2.toNatClampNeg)) ∧ ∀ v12 : Int64, v12 = ((f8 (v2 - (1 : Int32)).toNatClampNeg) + (f8 v2.toNatClampNeg)) → (¬ (((i1 * (42 : Int32)) + i2) < 0 ∨ n7 ≤ ((i1 * (42 : Int32)) + i2).toNatClampNeg)) ∧ ∀ w14, w14 = w.set b5 (.inl (.inr (n7, (vp_updL f8 ((i1 * (42 : Int32)) + i2).toNatClampNeg v12)))) → ∀ v15 : Int32, v15 = i2 + (1 : Int32) → xGo 1 33 [some (.ref a0), some (.int i1), some (.int v15), some (.int v2)] [] w14 r)) : xGo 1 33 [some (.ref a0), some (.int i1), some (.int i2), none] [] w r := by
  refine g_iloadn (pc' := 34) d_1_33 rfl rfl ?_
  refine g_iloadn (pc' := 35) d_1_34 rfl rfl ?_
  refine g_ic_gt (pc' := 38) (pt := 79) d_1_35 (by decide) rfl (fun c => ?_) (fun c => ?_)
  · replace h := h.1 c
    have h := h _ rfl
    refine g_iinc (pc' := 82) (l' := [some (.ref a0), some (.int (i1 + (1 : Int32))), some (.int i2), none]) d_1_79 rfl rfl ci_1 ml_1 rfl rfl ?_
    refine g_goto (pt := 15) d_1_82 (by decide) ?_
    exact h
  · replace h := h.2 c
    refine g_iloadn (pc' := 39) d_1_38 rfl rfl ?_
    refine g_iconst (pc' := 40) d_1_39 rfl ci_1 ?_
    refine g_isub (pc' := 41) d_1_40 rfl ?_
    refine g_bipush (pc' := 43) d_1_41 rfl cb_42 ?_
    refine g_imul (pc' := 44) d_1_43 rfl ?_
    refine g_iloadn (pc' := 45) d_1_44 rfl rfl ?_
    refine g_iadd (pc' := 46) d_1_45 rfl ?_
    have h := h _ rfl
    refine g_istoren (pc' := 47) (l' := [some (.ref a0), some (.int i1), some (.int i2), some (.int ((((i1 - (1 : Int32)) * (42 : Int32)) + i2)))]) d_1_46 rfl ml_1 rfl rfl ?_
    refine g_aloadn (pc' := 48) d_1_47 rfl rfl ?_
    obtain ⟨fs3, hw4, h⟩ := h
    obtain ⟨b5, hv6, h⟩ := h
    refine g_getf (pc' := 51) d_1_48 rfl st_1_11 hw4 hv6 ?_
    refine g_iloadn (pc' := 52) d_1_51 rfl rfl ?_
    refine g_bipush (pc' := 54) d_1_52 rfl cb_42 ?_
    refine g_imul (pc' := 55) d_1_54 rfl ?_
    refine g_iloadn (pc' := 56) d_1_55 rfl rfl ?_
    refine g_iadd (pc' := 57) d_1_56 rfl ?_
    refine g_aloadn (pc' := 58) d_1_57 rfl rfl ?_
    refine g_getf (pc' := 61) d_1_58 rfl st_1_11 hw4 hv6 ?_
    refine g_iloadn (pc' := 62) d_1_61 rfl rfl ?_
    refine g_iconst (pc' := 63) d_1_62 rfl ci_1 ?_
    refine g_isub (pc' := 64) d_1_63 rfl ?_
    obtain ⟨n7, f8, hw9, h⟩ := h
    obtain ⟨hc10, h⟩ := h
    refine g_lald (pc' := 65) d_1_64 rfl hw9 hc10 ?_
    refine g_aloadn (pc' := 66) d_1_65 rfl rfl ?_
    refine g_getf (pc' := 69) d_1_66 rfl st_1_11 hw4 hv6 ?_
    refine g_iloadn (pc' := 70) d_1_69 rfl rfl ?_
    obtain ⟨hc11, h⟩ := h
    refine g_lald (pc' := 71) d_1_70 rfl hw9 hc11 ?_
    refine g_ladd (pc' := 72) d_1_71 rfl ?_
    have h := h _ rfl
    obtain ⟨hc13, h⟩ := h
    have h := h _ rfl
    refine g_last (pc' := 73) d_1_72 rfl hw9 hc13 ?_
    have h := h _ rfl
    refine g_iinc (pc' := 76) (l' := [some (.ref a0), some (.int i1), some (.int (i2 + (1 : Int32))), some (.int ((((i1 - (1 : Int32)) * (42 : Int32)) + i2)))]) d_1_73 rfl rfl ci_1 ml_1 rfl rfl ?_
    refine g_goto (pt := 33) d_1_76 (by decide) ?_
    exact h
-- 2 BernoulliWays$Total.<init>()V
theorem S_2_0 {a0 : Nat} {w : xW} {r : Option Value × xW} (h : ∃ fs1, w[a0]? = some (.inr (2, fs1)) ∧ (0 < fs1.length) ∧ ∀ w4, w4 = w.set a0 (.inr (2, fs1.set 0 (.long (1 : Int64)))) → r = (none, w4)) : xGo 2 0 [some (.ref a0)] [] w r := by
  refine g_aloadn (pc' := 1) d_2_0 rfl rfl ?_
  refine g_obj (pc' := 4) d_2_1 rfl st_2_1 fr_2 lo_2 rfl ?_
  refine g_aloadn (pc' := 5) d_2_4 rfl rfl ?_
  refine g_lconst (pc' := 6) d_2_5 rfl cl_1 ?_
  obtain ⟨fs1, hw2, h⟩ := h
  obtain ⟨hc3, h⟩ := h
  have h := h _ rfl
  refine g_putf (pc' := 9) d_2_6 rfl st_2_7 ft_2_0 ff_2_0 rfl (Or.inl rfl) hw2 hc3 ?_
  exact g_vret d_2_9 rt_2 h
-- 3 BernoulliWays$Triangle.<init>()V
theorem S_3_0 {a0 : Nat} {w : xW} {r : Option Value × xW} (h : (¬ ((39 : Int32) < 0 ∨ 1000000 < (39 : Int32).toNatClampNeg ∨ xP ≤ w.length + 1)) ∧ ∀ b3 w2, b3 = w.length → w2 = w ++ [.inl (.inr ((39 : Int32).toNatClampNeg, fun _ => 0))] → ∃ fs4, w2[a0]? = some (.inr (3, fs4)) ∧ (0 < fs4.length) ∧ ∀ w7, w7 = w2.set a0 (.inr (3, fs4.set 0 (.ref b3))) → (¬ ((39 : Int32) < 0 ∨ 1000000 < (39 : Int32).toNatClampNeg ∨ xP ≤ w7.length + 1)) ∧ ∀ b10 w9, b10 = w7.length → w9 = w7 ++ [.inl (.inr ((39 : Int32).toNatClampNeg, fun _ => 0))] → ∃ fs11, w9[a0]? = some (.inr (3, fs11)) ∧ (1 < fs11.length) ∧ ∀ w14, w14 = w9.set a0 (.inr (3, fs11.set 1 (.ref b10))) → r = (none, w14)) : xGo 3 0 [some (.ref a0)] [] w r := by
  refine g_aloadn (pc' := 1) d_3_0 rfl rfl ?_
  refine g_obj (pc' := 4) d_3_1 rfl st_3_3 fr_3 lo_3 rfl ?_
  refine g_aloadn (pc' := 5) d_3_4 rfl rfl ?_
  refine g_bipush (pc' := 7) d_3_5 rfl cb_39 ?_
  obtain ⟨hc1, h⟩ := h
  have h := h _ _ rfl rfl
  refine g_newl (pc' := 9) d_3_7 rfl hc1 ?_
  obtain ⟨fs4, hw5, h⟩ := h
  obtain ⟨hc6, h⟩ := h
  have h := h _ rfl
  refine g_putf (pc' := 12) d_3_9 rfl st_3_9 ft_3_0 ff_3_0 rfl (Or.inr ⟨by decide +kernel, by decide +kernel⟩) hw5 hc6 ?_
  refine g_aloadn (pc' := 13) d_3_12 rfl rfl ?_
  refine g_bipush (pc' := 15) d_3_13 rfl cb_39 ?_
  obtain ⟨hc8, h⟩ := h
  have h := h _ _ rfl rfl
  refine g_newl (pc' := 17) d_3_15 rfl hc8 ?_
  obtain ⟨fs11, hw12, h⟩ := h
  obtain ⟨hc13, h⟩ := h
  have h := h _ rfl
  refine g_putf (pc' := 20) d_3_17 rfl st_3_15 ft_3_1 ff_3_1 rfl (Or.inr ⟨by decide +kernel, by decide +kernel⟩) hw12 hc13 ?_
  exact g_vret d_3_20 rt_3 h
-- 4 BernoulliWays$Entries.<init>()V
theorem S_4_0 {a0 : Nat} {w : xW} {r : Option Value × xW} (h : (¬ ((39 : Int32) < 0 ∨ 1000000 < (39 : Int32).toNatClampNeg ∨ xP ≤ w.length + 1)) ∧ ∀ b3 w2, b3 = w.length → w2 = w ++ [.inl (.inr ((39 : Int32).toNatClampNeg, fun _ => 0))] → ∃ fs4, w2[a0]? = some (.inr (4, fs4)) ∧ (0 < fs4.length) ∧ ∀ w7, w7 = w2.set a0 (.inr (4, fs4.set 0 (.ref b3))) → (¬ ((39 : Int32) < 0 ∨ 1000000 < (39 : Int32).toNatClampNeg ∨ xP ≤ w7.length + 1)) ∧ ∀ b10 w9, b10 = w7.length → w9 = w7 ++ [.inl (.inr ((39 : Int32).toNatClampNeg, fun _ => 0))] → ∃ fs11, w9[a0]? = some (.inr (4, fs11)) ∧ (1 < fs11.length) ∧ ∀ w14, w14 = w9.set a0 (.inr (4, fs11.set 1 (.ref b10))) → (¬ ((39 : Int32) < 0 ∨ 1000000 < (39 : Int32).toNatClampNeg ∨ xP ≤ w14.length + 1)) ∧ ∀ b17 w16, b17 = w14.length → w16 = w14 ++ [.inl (.inr ((39 : Int32).toNatClampNeg, fun _ => 0))] → ∃ fs18, w16[a0]? = some (.inr (4, fs18)) ∧ (2 < fs18.length) ∧ ∀ w21, w21 = w16.set a0 (.inr (4, fs18.set 2 (.ref b17))) → (¬ xP ≤ w21.length + 1) ∧ ∀ b24 w23, b24 = w21.length → w23 = w21 ++ [.inr (5, xvs.getD 5 [])] → ∃ w25, xCall 5 [.ref b24] w23 (none, w25) ∧ ∃ fs27, w25[a0]? = some (.inr (4, fs27)) ∧ (3 < fs27.length) ∧ ∀ w30, w30 = w25.set a0 (.inr (4, fs27.set 3 (.ref b24))) → ∃ b31, (fs27.set 3 (.ref b24))[2]? = some (.ref b31) ∧ ∃ w33, xCall 6 [.ref b31, .long (1 : Int64)] w30 (none, w33) ∧ r = (none, w33)) : xGo 4 0 [some (.ref a0)] [] w r := by
  refine g_aloadn (pc' := 1) d_4_0 rfl rfl ?_
  refine g_obj (pc' := 4) d_4_1 rfl st_4_3 fr_4 lo_4 rfl ?_
  refine g_aloadn (pc' := 5) d_4_4 rfl rfl ?_
  refine g_bipush (pc' := 7) d_4_5 rfl cb_39 ?_
  obtain ⟨hc1, h⟩ := h
  have h := h _ _ rfl rfl
  refine g_newl (pc' := 9) d_4_7 rfl hc1 ?_
  obtain ⟨fs4, hw5, h⟩ := h
  obtain ⟨hc6, h⟩ := h
  have h := h _ rfl
  refine g_putf (pc' := 12) d_4_9 rfl st_4_9 ft_4_0 ff_4_0 rfl (Or.inr ⟨by decide +kernel, by decide +kernel⟩) hw5 hc6 ?_
  refine g_aloadn (pc' := 13) d_4_12 rfl rfl ?_
  refine g_bipush (pc' := 15) d_4_13 rfl cb_39 ?_
  obtain ⟨hc8, h⟩ := h
  have h := h _ _ rfl rfl
  refine g_newl (pc' := 17) d_4_15 rfl hc8 ?_
  obtain ⟨fs11, hw12, h⟩ := h
  obtain ⟨hc13, h⟩ := h
  have h := h _ rfl
  refine g_putf (pc' := 20) d_4_17 rfl st_4_15 ft_4_1 ff_4_1 rfl (Or.inr ⟨by decide +kernel, by decide +kernel⟩) hw12 hc13 ?_
  refine g_aloadn (pc' := 21) d_4_20 rfl rfl ?_
  refine g_bipush (pc' := 23) d_4_21 rfl cb_39 ?_
  obtain ⟨hc15, h⟩ := h
  have h := h _ _ rfl rfl
  refine g_newl (pc' := 25) d_4_23 rfl hc15 ?_
  obtain ⟨fs18, hw19, h⟩ := h
  obtain ⟨hc20, h⟩ := h
  have h := h _ rfl
  refine g_putf (pc' := 28) d_4_25 rfl st_4_18 ft_4_2 ff_4_2 rfl (Or.inr ⟨by decide +kernel, by decide +kernel⟩) hw19 hc20 ?_
  refine g_aloadn (pc' := 29) d_4_28 rfl rfl ?_
  obtain ⟨hc22, h⟩ := h
  have h := h _ _ rfl rfl
  refine g_new (pc' := 32) d_4_29 rfl st_4_21 hc22 ?_
  refine g_dup (pc' := 33) d_4_32 rfl rfl ?_
  obtain ⟨w25, hk26, h⟩ := h
  refine g_callI (pc' := 36) d_4_33 rfl st_4_23 (Or.inr rfl) na_5 ml_5 rfl rfl rfl rm_4_5 rfl rfl hk26 ?_
  obtain ⟨fs27, hw28, h⟩ := h
  obtain ⟨hc29, h⟩ := h
  have h := h _ rfl
  refine g_putf (pc' := 39) d_4_36 rfl st_4_24 ft_4_3 ff_4_3 rfl (Or.inr ⟨by decide +kernel, by decide +kernel⟩) hw28 hc29 ?_
  refine g_aloadn (pc' := 40) d_4_39 rfl rfl ?_
  obtain ⟨b31, hv32, h⟩ := h
  refine g_getf (pc' := 43) d_4_40 rfl st_4_18 (x_gss hw28) hv32 ?_
  refine g_lconst (pc' := 44) d_4_43 rfl cl_1 ?_
  obtain ⟨w33, hk34, h⟩ := h
  refine g_callS (pc' := 47) d_4_44 rfl st_4_28 (Or.inl rfl) na_6 ml_6 rfl rfl rfl rm_4_6 rfl rfl hk34 ?_
  exact g_vret d_4_47 rt_4 h
-- 5 BernoulliWays$Fraction.<init>()V
theorem S_5_0 {a0 : Nat} {w : xW} {r : Option Value × xW} (h : ∃ fs1, w[a0]? = some (.inr (5, fs1)) ∧ (2 < fs1.length) ∧ ∀ w4, w4 = w.set a0 (.inr (5, fs1.set 2 (.long (1 : Int64)))) → r = (none, w4)) : xGo 5 0 [some (.ref a0)] [] w r := by
  refine g_aloadn (pc' := 1) d_5_0 rfl rfl ?_
  refine g_obj (pc' := 4) d_5_1 rfl st_5_1 fr_5 lo_5 rfl ?_
  refine g_aloadn (pc' := 5) d_5_4 rfl rfl ?_
  refine g_lconst (pc' := 6) d_5_5 rfl cl_1 ?_
  obtain ⟨fs1, hw2, h⟩ := h
  obtain ⟨hc3, h⟩ := h
  have h := h _ rfl
  refine g_putf (pc' := 9) d_5_6 rfl st_5_7 ft_5_2 ff_5_2 rfl (Or.inl rfl) hw2 hc3 ?_
  exact g_vret d_5_9 rt_5 h
-- 6 java/util/Arrays.fill([JJ)V
theorem S_6_0 {a0 : Nat} {l1 : Int64} {w : xW} {r : Option Value × xW} (h : ∃ n1 f2, w[a0]? = some (.inl (.inr (n1, f2))) ∧ ∀ v4 : Int32, v4 = (Int32.ofNat n1) → xGo 6 6 [some (.ref a0), some (.long l1), none, some (.int (0 : Int32)), some (.int v4)] [] w r) : xGo 6 0 [some (.ref a0), some (.long l1), none, none, none] [] w r := by
  refine g_iconst (pc' := 1) d_6_0 rfl ci_0 ?_
  refine g_istoren (pc' := 2) (l' := [some (.ref a0), some (.long l1), none, some (.int (0 : Int32)), none]) d_6_1 rfl ml_6 rfl rfl ?_
  refine g_aloadn (pc' := 3) d_6_2 rfl rfl ?_
  obtain ⟨n1, f2, hw3, h⟩ := h
  refine g_lenl (pc' := 4) d_6_3 rfl hw3 ?_
  have h := h _ rfl
  refine g_istore (pc' := 6) (l' := [some (.ref a0), some (.long l1), none, some (.int (0 : Int32)), some (.int ((Int32.ofNat n1)))]) d_6_4 rfl ml_6 rfl rfl ?_
  exact h
theorem S_6_6 {a0 : Nat} {l1 : Int64} {i3 : Int32} {i4 : Int32} {w : xW} {r : Option Value × xW} (h : (i4 ≤ i3 → r = (none, w)) ∧ (¬ (i4 ≤ i3) → ∃ n1 f2, w[a0]? = some (.inl (.inr (n1, f2))) ∧ (¬ (i3 < 0 ∨ n1 ≤ i3.toNatClampNeg)) ∧ ∀ w5, w5 = w.set a0 (.inl (.inr (n1, (vp_updL f2 i3.toNatClampNeg l1)))) → ∀ v6 : Int32, v6 = i3 + (1 : Int32) → xGo 6 6 [some (.ref a0), some (.long l1), none, some (.int v6), some (.int i4)] [] w5 r)) : xGo 6 6 [some (.ref a0), some (.long l1), none, some (.int i3), some (.int i4)] [] w r := by
  refine g_iloadn (pc' := 7) d_6_6 rfl rfl ?_
  refine g_iload (pc' := 9) d_6_7 rfl rfl ?_
  refine g_ic_ge (pc' := 12) (pt := 22) d_6_9 (by decide) rfl (fun c => ?_) (fun c => ?_)
  · replace h := h.1 c
    exact g_vret d_6_22 rt_6 h
  · replace h := h.2 c
    refine g_aloadn (pc' := 13) d_6_12 rfl rfl ?_
    refine g_iloadn (pc' := 14) d_6_13 rfl rfl ?_
    refine g_lloadn (pc' := 15) d_6_14 rfl rfl ?_
    obtain ⟨n1, f2, hw3, h⟩ := h
    obtain ⟨hc4, h⟩ := h
    have h := h _ rfl
    refine g_last (pc' := 16) d_6_15 rfl hw3 hc4 ?_
    have h := h _ rfl
    refine g_iinc (pc' := 19) (l' := [some (.ref a0), some (.long l1), none, some (.int (i3 + (1 : Int32))), some (.int i4)]) d_6_16 rfl rfl ci_1 ml_6 rfl rfl ?_
    refine g_goto (pt := 6) d_6_19 (by decide) ?_
    exact h
-- 7 BernoulliWays$Checks.<init>(LBernoulliWays$Entries;LBernoulliWays$Choose;LBernoulliWays$Total;)V
theorem S_7_0 {a0 : Nat} {a1 : Nat} {a2 : Nat} {a3 : Nat} {w : xW} {r : Option Value × xW} (h : ∃ fs1, w[a0]? = some (.inr (6, fs1)) ∧ (0 < fs1.length) ∧ ∀ w4, w4 = w.set a0 (.inr (6, fs1.set 0 (.ref a1))) → (1 < (fs1.set 0 (.ref a1)).length) ∧ ∀ w6, w6 = w4.set a0 (.inr (6, (fs1.set 0 (.ref a1)).set 1 (.ref a2))) → (2 < ((fs1.set 0 (.ref a1)).set 1 (.ref a2)).length) ∧ ∀ w8, w8 = w6.set a0 (.inr (6, ((fs1.set 0 (.ref a1)).set 1 (.ref a2)).set 2 (.ref a3))) → r = (none, w8)) : xGo 7 0 [some (.ref a0), some (.ref a1), some (.ref a2), some (.ref a3)] [] w r := by
  refine g_aloadn (pc' := 1) d_7_0 rfl rfl ?_
  refine g_obj (pc' := 4) d_7_1 rfl st_7_3 fr_7 lo_7 rfl ?_
  refine g_aloadn (pc' := 5) d_7_4 rfl rfl ?_
  refine g_aloadn (pc' := 6) d_7_5 rfl rfl ?_
  obtain ⟨fs1, hw2, h⟩ := h
  obtain ⟨hc3, h⟩ := h
  have h := h _ rfl
  refine g_putf (pc' := 9) d_7_6 rfl st_7_9 ft_6_0 ff_6_0 rfl (Or.inr ⟨by decide +kernel, by decide +kernel⟩) hw2 hc3 ?_
  refine g_aloadn (pc' := 10) d_7_9 rfl rfl ?_
  refine g_aloadn (pc' := 11) d_7_10 rfl rfl ?_
  obtain ⟨hc5, h⟩ := h
  have h := h _ rfl
  refine g_putf (pc' := 14) d_7_11 rfl st_7_15 ft_6_1 ff_6_1 rfl (Or.inr ⟨by decide +kernel, by decide +kernel⟩) (x_gss hw2) hc5 ?_
  refine g_aloadn (pc' := 15) d_7_14 rfl rfl ?_
  refine g_aloadn (pc' := 16) d_7_15 rfl rfl ?_
  obtain ⟨hc7, h⟩ := h
  have h := h _ rfl
  refine g_putf (pc' := 19) d_7_16 rfl st_7_19 ft_6_2 ff_6_2 rfl (Or.inr ⟨by decide +kernel, by decide +kernel⟩) (x_gss (x_gss hw2)) hc7 ?_
  exact g_vret d_7_19 rt_7 h
-- 8 BernoulliWays$Memo.<init>()V
theorem S_8_0 {a0 : Nat} {w : xW} {r : Option Value × xW} (h : (¬ ((20 : Int32) < 0 ∨ 1000000 < (20 : Int32).toNatClampNeg ∨ xP ≤ w.length + 1)) ∧ ∀ b3 w2, b3 = w.length → w2 = w ++ [.inl (.inl ((20 : Int32).toNatClampNeg, fun _ => 0))] → ∃ fs4, w2[a0]? = some (.inr (7, fs4)) ∧ (0 < fs4.length) ∧ ∀ w7, w7 = w2.set a0 (.inr (7, fs4.set 0 (.ref b3))) → (¬ ((20 : Int32) < 0 ∨ 1000000 < (20 : Int32).toNatClampNeg ∨ xP ≤ w7.length + 1)) ∧ ∀ b10 w9, b10 = w7.length → w9 = w7 ++ [.inl (.inl ((20 : Int32).toNatClampNeg, fun _ => 0))] → ∃ fs11, w9[a0]? = some (.inr (7, fs11)) ∧ (1 < fs11.length) ∧ ∀ w14, w14 = w9.set a0 (.inr (7, fs11.set 1 (.ref b10))) → (¬ ((20 : Int32) < 0 ∨ 1000000 < (20 : Int32).toNatClampNeg ∨ xP ≤ w14.length + 1)) ∧ ∀ b17 w16, b17 = w14.length → w16 = w14 ++ [.inl (.inl ((20 : Int32).toNatClampNeg, fun _ => 0))] → ∃ fs18, w16[a0]? = some (.inr (7, fs18)) ∧ (2 < fs18.length) ∧ ∀ w21, w21 = w16.set a0 (.inr (7, fs18.set 2 (.ref b17))) → r = (none, w21)) : xGo 8 0 [some (.ref a0)] [] w r := by
  refine g_aloadn (pc' := 1) d_8_0 rfl rfl ?_
  refine g_obj (pc' := 4) d_8_1 rfl st_8_3 fr_8 lo_8 rfl ?_
  refine g_aloadn (pc' := 5) d_8_4 rfl rfl ?_
  refine g_bipush (pc' := 7) d_8_5 rfl cb_20 ?_
  obtain ⟨hc1, h⟩ := h
  have h := h _ _ rfl rfl
  refine g_newi (pc' := 9) d_8_7 rfl hc1 ?_
  obtain ⟨fs4, hw5, h⟩ := h
  obtain ⟨hc6, h⟩ := h
  have h := h _ rfl
  refine g_putf (pc' := 12) d_8_9 rfl st_8_11 ft_7_0 ff_7_0 rfl (Or.inr ⟨by decide +kernel, by decide +kernel⟩) hw5 hc6 ?_
  refine g_aloadn (pc' := 13) d_8_12 rfl rfl ?_
  refine g_bipush (pc' := 15) d_8_13 rfl cb_20 ?_
  obtain ⟨hc8, h⟩ := h
  have h := h _ _ rfl rfl
  refine g_newi (pc' := 17) d_8_15 rfl hc8 ?_
  obtain ⟨fs11, hw12, h⟩ := h
  obtain ⟨hc13, h⟩ := h
  have h := h _ rfl
  refine g_putf (pc' := 20) d_8_17 rfl st_8_15 ft_7_1 ff_7_1 rfl (Or.inr ⟨by decide +kernel, by decide +kernel⟩) hw12 hc13 ?_
  refine g_aloadn (pc' := 21) d_8_20 rfl rfl ?_
  refine g_bipush (pc' := 23) d_8_21 rfl cb_20 ?_
  obtain ⟨hc15, h⟩ := h
  have h := h _ _ rfl rfl
  refine g_newi (pc' := 25) d_8_23 rfl hc15 ?_
  obtain ⟨fs18, hw19, h⟩ := h
  obtain ⟨hc20, h⟩ := h
  have h := h _ rfl
  refine g_putf (pc' := 28) d_8_25 rfl st_8_18 ft_7_2 ff_7_2 rfl (Or.inr ⟨by decide +kernel, by decide +kernel⟩) hw19 hc20 ?_
  exact g_vret d_8_28 rt_8 h
-- 9 BernoulliWays$ByWays.<init>()V
theorem S_9_0 {a0 : Nat} {w : xW} {r : Option Value × xW} (h : (¬ ((200 : Int32) < 0 ∨ 1000000 < (200 : Int32).toNatClampNeg ∨ xP ≤ w.length + 1)) ∧ ∀ b3 w2, b3 = w.length → w2 = w ++ [.inl (.inr ((200 : Int32).toNatClampNeg, fun _ => 0))] → ∃ fs4, w2[a0]? = some (.inr (8, fs4)) ∧ (0 < fs4.length) ∧ ∀ w7, w7 = w2.set a0 (.inr (8, fs4.set 0 (.ref b3))) → (¬ ((200 : Int32) < 0 ∨ 1000000 < (200 : Int32).toNatClampNeg ∨ xP ≤ w7.length + 1)) ∧ ∀ b10 w9, b10 = w7.length → w9 = w7 ++ [.inl (.inr ((200 : Int32).toNatClampNeg, fun _ => 0))] → ∃ fs11, w9[a0]? = some (.inr (8, fs11)) ∧ (1 < fs11.length) ∧ ∀ w14, w14 = w9.set a0 (.inr (8, fs11.set 1 (.ref b10))) → r = (none, w14)) : xGo 9 0 [some (.ref a0)] [] w r := by
  refine g_aloadn (pc' := 1) d_9_0 rfl rfl ?_
  refine g_obj (pc' := 4) d_9_1 rfl st_9_3 fr_9 lo_9 rfl ?_
  refine g_aloadn (pc' := 5) d_9_4 rfl rfl ?_
  refine g_sipush (pc' := 8) d_9_5 rfl cs_200 ?_
  obtain ⟨hc1, h⟩ := h
  have h := h _ _ rfl rfl
  refine g_newl (pc' := 10) d_9_8 rfl hc1 ?_
  obtain ⟨fs4, hw5, h⟩ := h
  obtain ⟨hc6, h⟩ := h
  have h := h _ rfl
  refine g_putf (pc' := 13) d_9_10 rfl st_9_9 ft_8_0 ff_8_0 rfl (Or.inr ⟨by decide +kernel, by decide +kernel⟩) hw5 hc6 ?_
  refine g_aloadn (pc' := 14) d_9_13 rfl rfl ?_
  refine g_sipush (pc' := 17) d_9_14 rfl cs_200 ?_
  obtain ⟨hc8, h⟩ := h
  have h := h _ _ rfl rfl
  refine g_newl (pc' := 19) d_9_17 rfl hc8 ?_
  obtain ⟨fs11, hw12, h⟩ := h
  obtain ⟨hc13, h⟩ := h
  have h := h _ rfl
  refine g_putf (pc' := 22) d_9_19 rfl st_9_15 ft_8_1 ff_8_1 rfl (Or.inr ⟨by decide +kernel, by decide +kernel⟩) hw12 hc13 ?_
  exact g_vret d_9_22 rt_9 h
-- 10 BernoulliWays$Pairs.<init>(LBernoulliWays$ByWays;)V
theorem S_10_0 {a0 : Nat} {a1 : Nat} {w : xW} {r : Option Value × xW} (h : (¬ ((100 : Int32) < 0 ∨ 1000000 < (100 : Int32).toNatClampNeg ∨ xP ≤ w.length + 1)) ∧ ∀ b3 w2, b3 = w.length → w2 = w ++ [.inl (.inl ((100 : Int32).toNatClampNeg, fun _ => 0))] → ∃ fs4, w2[a0]? = some (.inr (9, fs4)) ∧ (1 < fs4.length) ∧ ∀ w7, w7 = w2.set a0 (.inr (9, fs4.set 1 (.ref b3))) → (¬ ((100 : Int32) < 0 ∨ 1000000 < (100 : Int32).toNatClampNeg ∨ xP ≤ w7.length + 1)) ∧ ∀ b10 w9, b10 = w7.length → w9 = w7 ++ [.inl (.inl ((100 : Int32).toNatClampNeg, fun _ => 0))] → ∃ fs11, w9[a0]? = some (.inr (9, fs11)) ∧ (2 < fs11.length) ∧ ∀ w14, w14 = w9.set a0 (.inr (9, fs11.set 2 (.ref b10))) → (4 < (fs11.set 2 (.ref b10)).length) ∧ ∀ w16, w16 = w14.set a0 (.inr (9, (fs11.set 2 (.ref b10)).set 4 (.int (1 : Int32)))) → (0 < ((fs11.set 2 (.ref b10)).set 4 (.int (1 : Int32))).length) ∧ ∀ w18, w18 = w16.set a0 (.inr (9, ((fs11.set 2 (.ref b10)).set 4 (.int (1 : Int32))).set 0 (.ref a1))) → r = (none, w18)) : xGo 10 0 [some (.ref a0), some (.ref a1)] [] w r := by
  refine g_aloadn (pc' := 1) d_10_0 rfl rfl ?_
  refine g_obj (pc' := 4) d_10_1 rfl st_10_3 fr_10 lo_10 rfl ?_
  refine g_aloadn (pc' := 5) d_10_4 rfl rfl ?_
  refine g_bipush (pc' := 7) d_10_5 rfl cb_100 ?_
  obtain ⟨hc1, h⟩ := h
  have h := h _ _ rfl rfl
  refine g_newi (pc' := 9) d_10_7 rfl hc1 ?_
  obtain ⟨fs4, hw5, h⟩ := h
  obtain ⟨hc6, h⟩ := h
  have h := h _ rfl
  refine g_putf (pc' := 12) d_10_9 rfl st_10_11 ft_9_1 ff_9_1 rfl (Or.inr ⟨by decide +kernel, by decide +kernel⟩) hw5 hc6 ?_
  refine g_aloadn (pc' := 13) d_10_12 rfl rfl ?_
  refine g_bipush (pc' := 15) d_10_13 rfl cb_100 ?_
  obtain ⟨hc8, h⟩ := h
  have h := h _ _ rfl rfl
  refine g_newi (pc' := 17) d_10_15 rfl hc8 ?_
  obtain ⟨fs11, hw12, h⟩ := h
  obtain ⟨hc13, h⟩ := h
  have h := h _ rfl
  refine g_putf (pc' := 20) d_10_17 rfl st_10_15 ft_9_2 ff_9_2 rfl (Or.inr ⟨by decide +kernel, by decide +kernel⟩) hw12 hc13 ?_
  refine g_aloadn (pc' := 21) d_10_20 rfl rfl ?_
  refine g_iconst (pc' := 22) d_10_21 rfl ci_1 ?_
  obtain ⟨hc15, h⟩ := h
  have h := h _ rfl
  refine g_putf (pc' := 25) d_10_22 rfl st_10_18 ft_9_4 ff_9_4 rfl (Or.inl rfl) (x_gss hw12) hc15 ?_
  refine g_aloadn (pc' := 26) d_10_25 rfl rfl ?_
  refine g_aloadn (pc' := 27) d_10_26 rfl rfl ?_
  obtain ⟨hc17, h⟩ := h
  have h := h _ rfl
  refine g_putf (pc' := 30) d_10_27 rfl st_10_22 ft_9_0 ff_9_0 rfl (Or.inr ⟨by decide +kernel, by decide +kernel⟩) (x_gss (x_gss hw12)) hc17 ?_
  exact g_vret d_10_30 rt_10 h
-- 11 BernoulliWays$Decimal.<init>()V
theorem S_11_0 {a0 : Nat} {w : xW} {r : Option Value × xW} (h : (¬ ((28 : Int32) < 0 ∨ 1000000 < (28 : Int32).toNatClampNeg ∨ xP ≤ w.length + 1)) ∧ ∀ b3 w2, b3 = w.length → w2 = w ++ [.inl (.inr ((28 : Int32).toNatClampNeg, fun _ => 0))] → ∃ fs4, w2[a0]? = some (.inr (10, fs4)) ∧ (0 < fs4.length) ∧ ∀ w7, w7 = w2.set a0 (.inr (10, fs4.set 0 (.ref b3))) → (1 < (fs4.set 0 (.ref b3)).length) ∧ ∀ w9, w9 = w7.set a0 (.inr (10, (fs4.set 0 (.ref b3)).set 1 (.int (1 : Int32)))) → r = (none, w9)) : xGo 11 0 [some (.ref a0)] [] w r := by
  refine g_aloadn (pc' := 1) d_11_0 rfl rfl ?_
  refine g_obj (pc' := 4) d_11_1 rfl st_11_1 fr_11 lo_11 rfl ?_
  refine g_aloadn (pc' := 5) d_11_4 rfl rfl ?_
  refine g_bipush (pc' := 7) d_11_5 rfl cb_28 ?_
  obtain ⟨hc1, h⟩ := h
  have h := h _ _ rfl rfl
  refine g_newl (pc' := 9) d_11_7 rfl hc1 ?_
  obtain ⟨fs4, hw5, h⟩ := h
  obtain ⟨hc6, h⟩ := h
  have h := h _ rfl
  refine g_putf (pc' := 12) d_11_9 rfl st_11_9 ft_10_0 ff_10_0 rfl (Or.inr ⟨by decide +kernel, by decide +kernel⟩) hw5 hc6 ?_
  refine g_aloadn (pc' := 13) d_11_12 rfl rfl ?_
  refine g_iconst (pc' := 14) d_11_13 rfl ci_1 ?_
  obtain ⟨hc8, h⟩ := h
  have h := h _ rfl
  refine g_putf (pc' := 17) d_11_14 rfl st_11_13 ft_10_1 ff_10_1 rfl (Or.inl rfl) (x_gss hw5) hc8 ?_
  exact g_vret d_11_17 rt_11 h
-- 12 BernoulliWays$Triangle.begin(I)V
theorem S_12_0 {a0 : Nat} {i1 : Int32} {w : xW} {r : Option Value × xW} (h : ∃ r3 w1, xCall 13 [.int i1, .int (38 : Int32)] w (some (.int r3), w1) ∧ ∃ fs4, w1[a0]? = some (.inr (3, fs4)) ∧ (2 < fs4.length) ∧ ∀ w7, w7 = w1.set a0 (.inr (3, fs4.set 2 (.int r3))) → xGo 12 12 [some (.ref a0), some (.int i1), some (.int (0 : Int32))] [] w7 r) : xGo 12 0 [some (.ref a0), some (.int i1), none] [] w r := by
  refine g_aloadn (pc' := 1) d_12_0 rfl rfl ?_
  refine g_iloadn (pc' := 2) d_12_1 rfl rfl ?_
  refine g_bipush (pc' := 4) d_12_2 rfl cb_38 ?_
  obtain ⟨r3, w1, hk2, h⟩ := h
  refine g_callS (pc' := 7) d_12_4 rfl st_12_18 (Or.inl rfl) na_13 ml_13 rfl rfl rfl rm_12_13 rfl rfl hk2 ?_
  obtain ⟨fs4, hw5, h⟩ := h
  obtain ⟨hc6, h⟩ := h
  have h := h _ rfl
  refine g_putf (pc' := 10) d_12_7 rfl st_12_24 ft_3_2 ff_3_2 rfl (Or.inl rfl) hw5 hc6 ?_
  refine g_iconst (pc' := 11) d_12_10 rfl ci_0 ?_
  refine g_istoren (pc' := 12) (l' := [some (.ref a0), some (.int i1), some (.int (0 : Int32))]) d_12_11 rfl ml_12 rfl rfl ?_
  exact h
theorem S_12_12 {a0 : Nat} {i1 : Int32} {i2 : Int32} {w : xW} {r : Option Value × xW} (h : ∃ fs1, w[a0]? = some (.inr (3, fs1)) ∧ ∃ x3, fs1[2]? = some (.int x3) ∧ (x3 < i2 → r = (none, w)) ∧ (¬ (x3 < i2) → ∃ b5, fs1[0]? = some (.ref b5) ∧ (¬ i2 = 0 → ∃ n7 f8, w[b5]? = some (.inl (.inr (n7, f8))) ∧ (¬ (i2 < 0 ∨ n7 ≤ i2.toNatClampNeg)) ∧ ∀ w11, w11 = w.set b5 (.inl (.inr (n7, (vp_updL f8 i2.toNatClampNeg (0 : Int64))))) → ∃ fs12, w11[a0]? = some (.inr (3, fs12)) ∧ ∃ b14, fs12[1]? = some (.ref b14) ∧ (¬ i2 = 0 → (¬ ((i2 + (1 : Int32)).toInt64) = 0) ∧ ∃ n17 f18, w11[b14]? = some (.inl (.inr (n17, f18))) ∧ ∀ v20 : Int64, v20 = ((5342931457063200 : Int64) / ((i2 + (1 : Int32)).toInt64)) → (¬ (i2 < 0 ∨ n17 ≤ i2.toNatClampNeg)) ∧ ∀ w22, w22 = w11.set b14 (.inl (.inr (n17, (vp_updL f18 i2.toNatClampNeg v20)))) → ∀ v23 : Int32, v23 = i2 + (1 : Int32) → xGo 12 12 [some (.ref a0), some (.int i1), some (.int v23)] [] w22 r) ∧ (¬ (¬ i2 = 0) → ∃ n24 f25, w11[b14]? = some (.inl (.inr (n24, f25))) ∧ (¬ (i2 < 0 ∨ n24 ≤ i2.toNatClampNeg)) ∧ ∀ w28, w28 = w11.set b14 (.inl (.inr (n24, (vp_updL f25 i2.toNatClampNeg (0 : Int64))))) → ∀ v29 : Int32, v29 = i2 + (1 : Int32) → xGo 12 12 [some (.ref a0), some (.int i1), some (.int v29)] [] w28 r)) ∧ (¬ (¬ i2 = 0) → ∃ n30 f31, w[b5]? = some (.inl (.inr (n30, f31))) ∧ (¬ (i2 < 0 ∨ n30 ≤ i2.toNatClampNeg)) ∧ ∀ w34, w34 = w.set b5 (.inl (.inr (n30, (vp_updL f31 i2.toNatClampNeg (1 : Int64))))) → ∃ fs35, w34[a0]? = some (.inr (3, fs35)) ∧ ∃ b37, fs35[1]? = some (.ref b37) ∧ (¬ i2 = 0 → (¬ ((i2 + (1 : Int32)).toInt64) = 0) ∧ ∃ n40 f41, w34[b37]? = some (.inl (.inr (n40, f41))) ∧ ∀ v43 : Int64, v43 = ((5342931457063200 : Int64) / ((i2 + (1 : Int32)).toInt64)) → (¬ (i2 < 0 ∨ n40 ≤ i2.toNatClampNeg)) ∧ ∀ w45, w45 = w34.set b37 (.inl (.inr (n40, (vp_updL f41 i2.toNatClampNeg v43)))) → ∀ v46 : Int32, v46 = i2 + (1 : Int32) → xGo 12 12 [some (.ref a0), some (.int i1), some (.int v46)] [] w45 r) ∧ (¬ (¬ i2 = 0) → ∃ n47 f48, w34[b37]? = some (.inl (.inr (n47, f48))) ∧ (¬ (i2 < 0 ∨ n47 ≤ i2.toNatClampNeg)) ∧ ∀ w51, w51 = w34.set b37 (.inl (.inr (n47, (vp_updL f48 i2.toNatClampNeg (0 : Int64))))) → ∀ v52 : Int32, v52 = i2 + (1 : Int32) → xGo 12 12 [some (.ref a0), some (.int i1), some (.int v52)] [] w51 r)))) : xGo 12 12 [some (.ref a0), some (.int i1), some (.int i2)] [] w r := by
  refine g_iloadn (pc' := 13) d_12_12 rfl rfl ?_
  refine g_aloadn (pc' := 14) d_12_13 rfl rfl ?_
  obtain ⟨fs1, hw2, h⟩ := h
  obtain ⟨x3, hv4, h⟩ := h
  refine g_getf (pc' := 17) d_12_14 rfl st_12_24 hw2 hv4 ?_
  refine g_ic_gt (pc' := 20) (pt := 63) d_12_17 (by decide) rfl (fun c => ?_) (fun c => ?_)
  · replace h := h.1 c
    exact g_vret d_12_63 rt_12 h
  · replace h := h.2 c
    refine g_aloadn (pc' := 21) d_12_20 rfl rfl ?_
    obtain ⟨b5, hv6, h⟩ := h
    refine g_getf (pc' := 24) d_12_21 rfl st_12_9 hw2 hv6 ?_
    refine g_iloadn (pc' := 25) d_12_24 rfl rfl ?_
    refine g_iloadn (pc' := 26) d_12_25 rfl rfl ?_
    refine g_if_ne (pc' := 29) (pt := 33) d_12_26 (by decide) rfl (fun c => ?_) (fun c => ?_)
    · replace h := h.1 c
      refine g_lconst (pc' := 34) d_12_33 rfl cl_0 ?_
      obtain ⟨n7, f8, hw9, h⟩ := h
      obtain ⟨hc10, h⟩ := h
      have h := h _ rfl
      refine g_last (pc' := 35) d_12_34 rfl hw9 hc10 ?_
      refine g_aloadn (pc' := 36) d_12_35 rfl rfl ?_
      obtain ⟨fs12, hw13, h⟩ := h
      obtain ⟨b14, hv15, h⟩ := h
      refine g_getf (pc' := 39) d_12_36 rfl st_12_15 hw13 hv15 ?_
      refine g_iloadn (pc' := 40) d_12_39 rfl rfl ?_
      refine g_iloadn (pc' := 41) d_12_40 rfl rfl ?_
      refine g_if_ne (pc' := 44) (pt := 48) d_12_41 (by decide) rfl (fun c => ?_) (fun c => ?_)
      · replace h := h.1 c
        refine g_ldc2 (pc' := 51) d_12_48 rfl st_12_28 cL_5342931457063200 ?_
        refine g_iloadn (pc' := 52) d_12_51 rfl rfl ?_
        refine g_iconst (pc' := 53) d_12_52 rfl ci_1 ?_
        refine g_iadd (pc' := 54) d_12_53 rfl ?_
        refine g_i2l (pc' := 55) d_12_54 rfl ?_
        obtain ⟨hc16, h⟩ := h
        refine g_ldiv (pc' := 56) d_12_55 rfl hc16 ?_
        obtain ⟨n17, f18, hw19, h⟩ := h
        have h := h _ rfl
        obtain ⟨hc21, h⟩ := h
        have h := h _ rfl
        refine g_last (pc' := 57) d_12_56 rfl hw19 hc21 ?_
        have h := h _ rfl
        refine g_iinc (pc' := 60) (l' := [some (.ref a0), some (.int i1), some (.int (i2 + (1 : Int32)))]) d_12_57 rfl rfl ci_1 ml_12 rfl rfl ?_
        refine g_goto (pt := 12) d_12_60 (by decide) ?_
        exact h
      · replace h := h.2 c
        refine g_lconst (pc' := 45) d_12_44 rfl cl_0 ?_
        refine g_goto (pt := 56) d_12_45 (by decide) ?_
        obtain ⟨n24, f25, hw26, h⟩ := h
        obtain ⟨hc27, h⟩ := h
        have h := h _ rfl
        refine g_last (pc' := 57) d_12_56 rfl hw26 hc27 ?_
        have h := h _ rfl
        refine g_iinc (pc' := 60) (l' := [some (.ref a0), some (.int i1), some (.int (i2 + (1 : Int32)))]) d_12_57 rfl rfl ci_1 ml_12 rfl rfl ?_
        refine g_goto (pt := 12) d_12_60 (by decide) ?_
        exact h
    · replace h := h.2 c
      refine g_lconst (pc' := 30) d_12_29 rfl cl_1 ?_
      refine g_goto (pt := 34) d_12_30 (by decide) ?_
      obtain ⟨n30, f31, hw32, h⟩ := h
      obtain ⟨hc33, h⟩ := h
      have h := h _ rfl
      refine g_last (pc' := 35) d_12_34 rfl hw32 hc33 ?_
      refine g_aloadn (pc' := 36) d_12_35 rfl rfl ?_
      obtain ⟨fs35, hw36, h⟩ := h
      obtain ⟨b37, hv38, h⟩ := h
      refine g_getf (pc' := 39) d_12_36 rfl st_12_15 hw36 hv38 ?_
      refine g_iloadn (pc' := 40) d_12_39 rfl rfl ?_
      refine g_iloadn (pc' := 41) d_12_40 rfl rfl ?_
      refine g_if_ne (pc' := 44) (pt := 48) d_12_41 (by decide) rfl (fun c => ?_) (fun c => ?_)
      · replace h := h.1 c
        refine g_ldc2 (pc' := 51) d_12_48 rfl st_12_28 cL_5342931457063200 ?_
        refine g_iloadn (pc' := 52) d_12_51 rfl rfl ?_
        refine g_iconst (pc' := 53) d_12_52 rfl ci_1 ?_
        refine g_iadd (pc' := 54) d_12_53 rfl ?_
        refine g_i2l (pc' := 55) d_12_54 rfl ?_
        obtain ⟨hc39, h⟩ := h
        refine g_ldiv (pc' := 56) d_12_55 rfl hc39 ?_
        obtain ⟨n40, f41, hw42, h⟩ := h
        have h := h _ rfl
        obtain ⟨hc44, h⟩ := h
        have h := h _ rfl
        refine g_last (pc' := 57) d_12_56 rfl hw42 hc44 ?_
        have h := h _ rfl
        refine g_iinc (pc' := 60) (l' := [some (.ref a0), some (.int i1), some (.int (i2 + (1 : Int32)))]) d_12_57 rfl rfl ci_1 ml_12 rfl rfl ?_
        refine g_goto (pt := 12) d_12_60 (by decide) ?_
        exact h
      · replace h := h.2 c
        refine g_lconst (pc' := 45) d_12_44 rfl cl_0 ?_
        refine g_goto (pt := 56) d_12_45 (by decide) ?_
        obtain ⟨n47, f48, hw49, h⟩ := h
        obtain ⟨hc50, h⟩ := h
        have h := h _ rfl
        refine g_last (pc' := 57) d_12_56 rfl hw49 hc50 ?_
        have h := h _ rfl
        refine g_iinc (pc' := 60) (l' := [some (.ref a0), some (.int i1), some (.int (i2 + (1 : Int32)))]) d_12_57 rfl rfl ci_1 ml_12 rfl rfl ?_
        refine g_goto (pt := 12) d_12_60 (by decide) ?_
        exact h
-- 13 java/lang/Math.min(II)I
theorem S_13_0 {i0 : Int32} {i1 : Int32} {w : xW} {r : Option Value × xW} (h : (i1 < i0 → r = (some (.int i1), w)) ∧ (¬ (i1 < i0) → r = (some (.int i0), w))) : xGo 13 0 [some (.int i0), some (.int i1)] [] w r := by
  refine g_iloadn (pc' := 1) d_13_0 rfl rfl ?_
  refine g_iloadn (pc' := 2) d_13_1 rfl rfl ?_
  refine g_ic_gt (pc' := 5) (pt := 9) d_13_2 (by decide) rfl (fun c => ?_) (fun c => ?_)
  · replace h := h.1 c
    refine g_iloadn (pc' := 10) d_13_9 rfl rfl ?_
    exact g_iret d_13_10 rt_13 h
  · replace h := h.2 c
    refine g_iloadn (pc' := 6) d_13_5 rfl rfl ?_
    refine g_goto (pt := 10) d_13_6 (by decide) ?_
    exact g_iret d_13_10 rt_13 h
-- 14 BernoulliWays$Triangle.tellEntry(ILBernoulliWays$Fraction;)V
theorem S_14_0 {a0 : Nat} {i1 : Int32} {a2 : Nat} {w : xW} {r : Option Value × xW} (h : ∃ fs1, w[a0]? = some (.inr (3, fs1)) ∧ ∃ w3, xCall 15 [.ref a0, .int (0 : Int32), .ref a2] w (none, w3) ∧ (¬ i1 = (1 : Int32) → r = (none, w3)) ∧ (¬ (¬ i1 = (1 : Int32)) → ∃ fs5, w3[a2]? = some (.inr (5, fs5)) ∧ ∃ x7, fs5[0]? = some (.long x7) ∧ ∀ v9 : Int64, v9 = (x7 - (1 : Int64)) → (0 < fs5.length) ∧ ∀ w11, w11 = w3.set a2 (.inr (5, fs5.set 0 (.long v9))) → r = (none, w11))) : xGo 14 0 [some (.ref a0), some (.int i1), some (.ref a2)] [] w r := by
  refine g_aloadn (pc' := 1) d_14_0 rfl rfl ?_
  refine g_iconst (pc' := 2) d_14_1 rfl ci_0 ?_
  refine g_aloadn (pc' := 3) d_14_2 rfl rfl ?_
  obtain ⟨fs1, hw2, h⟩ := h
  obtain ⟨w3, hk4, h⟩ := h
  refine g_callV (pc' := 6) d_14_3 rfl st_14_43 na_15 ml_15 rfl rfl rfl rm_14_15 rfl rfl ow_15 hw2 hk4 ?_
  refine g_iloadn (pc' := 7) d_14_6 rfl rfl ?_
  refine g_iconst (pc' := 8) d_14_7 rfl ci_1 ?_
  refine g_ic_ne (pc' := 11) (pt := 21) d_14_8 (by decide) rfl (fun c => ?_) (fun c => ?_)
  · replace h := h.1 c
    exact g_vret d_14_21 rt_14 h
  · replace h := h.2 c
    refine g_aloadn (pc' := 12) d_14_11 rfl rfl ?_
    refine g_dup (pc' := 13) d_14_12 rfl rfl ?_
    obtain ⟨fs5, hw6, h⟩ := h
    obtain ⟨x7, hv8, h⟩ := h
    refine g_getf (pc' := 16) d_14_13 rfl st_14_47 hw6 hv8 ?_
    refine g_lconst (pc' := 17) d_14_16 rfl cl_1 ?_
    refine g_lsub (pc' := 18) d_14_17 rfl ?_
    have h := h _ rfl
    obtain ⟨hc10, h⟩ := h
    have h := h _ rfl
    refine g_putf (pc' := 21) d_14_18 rfl st_14_47 ft_5_0 ff_5_0 rfl (Or.inl rfl) hw6 hc10 ?_
    exact g_vret d_14_21 rt_14 h
-- 15 BernoulliWays$Triangle.tellPlace(ILBernoulliWays$Fraction;)V
theorem S_15_0 {a0 : Nat} {i1 : Int32} {a2 : Nat} {w : xW} {r : Option Value × xW} (h : (i1 < 0 → r = (none, w)) ∧ (¬ (i1 < 0) → ((39 : Int32) ≤ i1 → r = (none, w)) ∧ (¬ ((39 : Int32) ≤ i1) → ∃ fs1, w[a0]? = some (.inr (3, fs1)) ∧ ∃ b3, fs1[0]? = some (.ref b3) ∧ ∃ n5 f6, w[b3]? = some (.inl (.inr (n5, f6))) ∧ (¬ (i1 < 0 ∨ n5 ≤ i1.toNatClampNeg)) ∧ ∃ b9, fs1[1]? = some (.ref b9) ∧ ∃ n11 f12, w[b9]? = some (.inl (.inr (n11, f12))) ∧ (¬ (i1 < 0 ∨ n11 ≤ i1.toNatClampNeg)) ∧ ∃ fs15, w[a2]? = some (.inr (5, fs15)) ∧ ∃ w17, xCall 16 [.ref a2, .long (f6 i1.toNatClampNeg), .long (f12 i1.toNatClampNeg), .long (5342931457063200 : Int64)] w (none, w17) ∧ r = (none, w17)))) : xGo 15 0 [some (.ref a0), some (.int i1), some (.ref a2)] [] w r := by
  refine g_iloadn (pc' := 1) d_15_0 rfl rfl ?_
  refine g_if_lt (pc' := 4) (pt := 29) d_15_1 (by decide) rfl (fun c => ?_) (fun c => ?_)
  · replace h := h.1 c
    exact g_vret d_15_29 rt_15 h
  · replace h := h.2 c
    refine g_iloadn (pc' := 5) d_15_4 rfl rfl ?_
    refine g_bipush (pc' := 7) d_15_5 rfl cb_39 ?_
    refine g_ic_ge (pc' := 10) (pt := 29) d_15_7 (by decide) rfl (fun c => ?_) (fun c => ?_)
    · replace h := h.1 c
      exact g_vret d_15_29 rt_15 h
    · replace h := h.2 c
      refine g_aloadn (pc' := 11) d_15_10 rfl rfl ?_
      refine g_aloadn (pc' := 12) d_15_11 rfl rfl ?_
      obtain ⟨fs1, hw2, h⟩ := h
      obtain ⟨b3, hv4, h⟩ := h
      refine g_getf (pc' := 15) d_15_12 rfl st_15_9 hw2 hv4 ?_
      refine g_iloadn (pc' := 16) d_15_15 rfl rfl ?_
      obtain ⟨n5, f6, hw7, h⟩ := h
      obtain ⟨hc8, h⟩ := h
      refine g_lald (pc' := 17) d_15_16 rfl hw7 hc8 ?_
      refine g_aloadn (pc' := 18) d_15_17 rfl rfl ?_
      obtain ⟨b9, hv10, h⟩ := h
      refine g_getf (pc' := 21) d_15_18 rfl st_15_15 hw2 hv10 ?_
      refine g_iloadn (pc' := 22) d_15_21 rfl rfl ?_
      obtain ⟨n11, f12, hw13, h⟩ := h
      obtain ⟨hc14, h⟩ := h
      refine g_lald (pc' := 23) d_15_22 rfl hw13 hc14 ?_
      refine g_ldc2 (pc' := 26) d_15_23 rfl st_15_28 cL_5342931457063200 ?_
      obtain ⟨fs15, hw16, h⟩ := h
      obtain ⟨w17, hk18, h⟩ := h
      refine g_callV (pc' := 29) d_15_26 rfl st_15_37 na_16 ml_16 rfl rfl rfl rm_15_16 rfl rfl ow_16 hw16 hk18 ?_
      exact g_vret d_15_29 rt_15 h
-- 16 BernoulliWays$Fraction.become(JJJ)V
theorem S_16_0 {a0 : Nat} {l1 : Int64} {l3 : Int64} {l5 : Int64} {w : xW} {r : Option Value × xW} (h : ((0 : Int64) < l5 → ∃ r3 w1, xCall 17 [.long l3, .long l5] w (some (.long r3), w1) ∧ ∃ r6 w4, xCall 18 [.long r3, .long l5] w1 (some (.long r6), w4) ∧ ∃ r9 w7, xCall 19 [.long l3, .long l5] w4 (some (.long r9), w7) ∧ ∃ fs10, w7[a0]? = some (.inr (5, fs10)) ∧ ∀ v12 : Int64, v12 = (l1 + r9) → (0 < fs10.length) ∧ ∀ w14, w14 = w7.set a0 (.inr (5, fs10.set 0 (.long v12))) → (¬ r6 = 0) ∧ ∀ v16 : Int64, v16 = (r3 / r6) → (1 < (fs10.set 0 (.long v12)).length) ∧ ∀ w18, w18 = w14.set a0 (.inr (5, (fs10.set 0 (.long v12)).set 1 (.long v16))) → (¬ r6 = 0) ∧ ∀ v20 : Int64, v20 = (l5 / r6) → (2 < ((fs10.set 0 (.long v12)).set 1 (.long v16)).length) ∧ ∀ w22, w22 = w18.set a0 (.inr (5, ((fs10.set 0 (.long v12)).set 1 (.long v16)).set 2 (.long v20))) → r = (none, w22)) ∧ (¬ ((0 : Int64) < l5) → r = (none, w))) : xGo 16 0 [some (.ref a0), some (.long l1), none, some (.long l3), none, some (.long l5), none, none, none, none, none] [] w r := by
  refine g_lload (pc' := 2) d_16_0 rfl rfl ?_
  refine g_lconst (pc' := 3) d_16_2 rfl cl_0 ?_
  refine g_lc_gt (pc' := 7) (pm := 4) (pt := 8) d_16_3 rfl d_16_4 (by decide) rfl (fun c => ?_) (fun c => ?_)
  · replace h := h.1 c
    refine g_lloadn (pc' := 9) d_16_8 rfl rfl ?_
    refine g_lload (pc' := 11) d_16_9 rfl rfl ?_
    obtain ⟨r3, w1, hk2, h⟩ := h
    refine g_callS (pc' := 14) d_16_11 rfl st_16_13 (Or.inl rfl) na_17 ml_17 rfl rfl rfl rm_16_17 rfl rfl hk2 ?_
    refine g_lstore (pc' := 16) (l' := [some (.ref a0), some (.long l1), none, some (.long l3), none, some (.long l5), none, some (.long r3), none, none, none]) d_16_14 rfl ml_16 rfl rfl ?_
    refine g_lload (pc' := 18) d_16_16 rfl rfl ?_
    refine g_lload (pc' := 20) d_16_18 rfl rfl ?_
    obtain ⟨r6, w4, hk5, h⟩ := h
    refine g_callS (pc' := 23) d_16_20 rfl st_16_19 (Or.inl rfl) na_18 ml_18 rfl rfl rfl rm_16_18 rfl rfl hk5 ?_
    refine g_lstore (pc' := 25) (l' := [some (.ref a0), some (.long l1), none, some (.long l3), none, some (.long l5), none, some (.long r3), none, some (.long r6), none]) d_16_23 rfl ml_16 rfl rfl ?_
    refine g_aloadn (pc' := 26) d_16_25 rfl rfl ?_
    refine g_lloadn (pc' := 27) d_16_26 rfl rfl ?_
    refine g_lloadn (pc' := 28) d_16_27 rfl rfl ?_
    refine g_lload (pc' := 30) d_16_28 rfl rfl ?_
    obtain ⟨r9, w7, hk8, h⟩ := h
    refine g_callS (pc' := 33) d_16_30 rfl st_16_22 (Or.inl rfl) na_19 ml_19 rfl rfl rfl rm_16_19 rfl rfl hk8 ?_
    refine g_ladd (pc' := 34) d_16_33 rfl ?_
    obtain ⟨fs10, hw11, h⟩ := h
    have h := h _ rfl
    obtain ⟨hc13, h⟩ := h
    have h := h _ rfl
    refine g_putf (pc' := 37) d_16_34 rfl st_16_25 ft_5_0 ff_5_0 rfl (Or.inl rfl) hw11 hc13 ?_
    refine g_aloadn (pc' := 38) d_16_37 rfl rfl ?_
    refine g_lload (pc' := 40) d_16_38 rfl rfl ?_
    refine g_lload (pc' := 42) d_16_40 rfl rfl ?_
    obtain ⟨hc15, h⟩ := h
    refine g_ldiv (pc' := 43) d_16_42 rfl hc15 ?_
    have h := h _ rfl
    obtain ⟨hc17, h⟩ := h
    have h := h _ rfl
    refine g_putf (pc' := 46) d_16_43 rfl st_16_28 ft_5_1 ff_5_1 rfl (Or.inl rfl) (x_gss hw11) hc17 ?_
    refine g_aloadn (pc' := 47) d_16_46 rfl rfl ?_
    refine g_lload (pc' := 49) d_16_47 rfl rfl ?_
    refine g_lload (pc' := 51) d_16_49 rfl rfl ?_
    obtain ⟨hc19, h⟩ := h
    refine g_ldiv (pc' := 52) d_16_51 rfl hc19 ?_
    have h := h _ rfl
    obtain ⟨hc21, h⟩ := h
    have h := h _ rfl
    refine g_putf (pc' := 55) d_16_52 rfl st_16_7 ft_5_2 ff_5_2 rfl (Or.inl rfl) (x_gss (x_gss hw11)) hc21 ?_
    exact g_vret d_16_55 rt_16 h
  · replace h := h.2 c
    exact g_vret d_16_7 rt_16 h
-- 17 java/lang/Math.floorMod(JJ)J
theorem S_17_0 {l0 : Int64} {l2 : Int64} {w : xW} {r : Option Value × xW} (h : (¬ l2 = 0) ∧ ∀ v2 : Int64, v2 = (lrem l0 l2) → ((0 : Int64) ≤ (l0 ^^^ l2) → r = (some (.long v2), w)) ∧ (¬ ((0 : Int64) ≤ (l0 ^^^ l2)) → (v2 = (0 : Int64) → r = (some (.long v2), w)) ∧ (¬ (v2 = (0 : Int64)) → r = (some (.long (v2 + l2)), w)))) : xGo 17 0 [some (.long l0), none, some (.long l2), none, none, none] [] w r := by
  refine g_lloadn (pc' := 1) d_17_0 rfl rfl ?_
  refine g_lloadn (pc' := 2) d_17_1 rfl rfl ?_
  obtain ⟨hc1, h⟩ := h
  refine g_lrem (pc' := 3) d_17_2 rfl hc1 ?_
  have h := h _ rfl
  refine g_lstore (pc' := 5) (l' := [some (.long l0), none, some (.long l2), none, some (.long ((lrem l0 l2))), none]) d_17_3 rfl ml_17 rfl rfl ?_
  refine g_lloadn (pc' := 6) d_17_5 rfl rfl ?_
  refine g_lloadn (pc' := 7) d_17_6 rfl rfl ?_
  refine g_lxor (pc' := 8) d_17_7 rfl ?_
  refine g_lconst (pc' := 9) d_17_8 rfl cl_0 ?_
  refine g_lc_ge (pc' := 13) (pm := 10) (pt := 25) d_17_9 rfl d_17_10 (by decide) rfl (fun c => ?_) (fun c => ?_)
  · replace h := h.1 c
    refine g_lload (pc' := 27) d_17_25 rfl rfl ?_
    exact g_lret d_17_27 rt_17 h
  · replace h := h.2 c
    refine g_lload (pc' := 15) d_17_13 rfl rfl ?_
    refine g_lconst (pc' := 16) d_17_15 rfl cl_0 ?_
    refine g_lc_eq (pc' := 20) (pm := 17) (pt := 25) d_17_16 rfl d_17_17 (by decide) rfl (fun c => ?_) (fun c => ?_)
    · replace h := h.1 c
      refine g_lload (pc' := 27) d_17_25 rfl rfl ?_
      exact g_lret d_17_27 rt_17 h
    · replace h := h.2 c
      refine g_lload (pc' := 22) d_17_20 rfl rfl ?_
      refine g_lloadn (pc' := 23) d_17_22 rfl rfl ?_
      refine g_ladd (pc' := 24) d_17_23 rfl ?_
      exact g_lret d_17_24 rt_17 h
-- 18 BernoulliWays$Fraction.commonDivisor(JJ)J
theorem S_18_0 {l0 : Int64} {l2 : Int64} {w : xW} {r : Option Value × xW} (h : xGo 18 9 [some (.long l0), none, some (.long l2), none, some (.long l2), none, some (.long l0), none, some (.int (0 : Int32)), none, none] [] w r) : xGo 18 0 [some (.long l0), none, some (.long l2), none, none, none, none, none, none, none, none] [] w r := by
  refine g_lloadn (pc' := 1) d_18_0 rfl rfl ?_
  refine g_lstore (pc' := 3) (l' := [some (.long l0), none, some (.long l2), none, some (.long l2), none, none, none, none, none, none]) d_18_1 rfl ml_18 rfl rfl ?_
  refine g_lloadn (pc' := 4) d_18_3 rfl rfl ?_
  refine g_lstore (pc' := 6) (l' := [some (.long l0), none, some (.long l2), none, some (.long l2), none, some (.long l0), none, none, none, none]) d_18_4 rfl ml_18 rfl rfl ?_
  refine g_iconst (pc' := 7) d_18_6 rfl ci_0 ?_
  refine g_istore (pc' := 9) (l' := [some (.long l0), none, some (.long l2), none, some (.long l2), none, some (.long l0), none, some (.int (0 : Int32)), none, none]) d_18_7 rfl ml_18 rfl rfl ?_
  exact h
theorem S_18_9 {l0 : Int64} {l2 : Int64} {l4 : Int64} {l6 : Int64} {i8 : Int32} {w : xW} {r : Option Value × xW} (h : ((100 : Int32) ≤ i8 → (l4 ≤ (0 : Int64) → r = (some (.long (1 : Int64)), w)) ∧ (¬ (l4 ≤ (0 : Int64)) → r = (some (.long l4), w))) ∧ (¬ ((100 : Int32) ≤ i8) → (l6 ≤ (0 : Int64) → (l4 ≤ (0 : Int64) → r = (some (.long (1 : Int64)), w)) ∧ (¬ (l4 ≤ (0 : Int64)) → r = (some (.long l4), w))) ∧ (¬ (l6 ≤ (0 : Int64)) → (¬ l6 = 0) ∧ ∀ v2 : Int64, v2 = (lrem l4 l6) → ∀ v3 : Int32, v3 = i8 + (1 : Int32) → xGo 18 9 [some (.long l0), none, some (.long l2), none, some (.long l6), none, some (.long v2), none, some (.int v3), some (.long v2), none] [] w r))) : xGo 18 9 [some (.long l0), none, some (.long l2), none, some (.long l4), none, some (.long l6), none, some (.int i8), none, none] [] w r := by
  refine g_iload (pc' := 11) d_18_9 rfl rfl ?_
  refine g_bipush (pc' := 13) d_18_11 rfl cb_100 ?_
  refine g_ic_ge (pc' := 16) (pt := 44) d_18_13 (by decide) rfl (fun c => ?_) (fun c => ?_)
  · replace h := h.1 c
    refine g_lload (pc' := 46) d_18_44 rfl rfl ?_
    refine g_lconst (pc' := 47) d_18_46 rfl cl_0 ?_
    refine g_lc_le (pc' := 51) (pm := 48) (pt := 56) d_18_47 rfl d_18_48 (by decide) rfl (fun c => ?_) (fun c => ?_)
    · replace h := h.1 c
      refine g_lconst (pc' := 57) d_18_56 rfl cl_1 ?_
      exact g_lret d_18_57 rt_18 h
    · replace h := h.2 c
      refine g_lload (pc' := 53) d_18_51 rfl rfl ?_
      refine g_goto (pt := 57) d_18_53 (by decide) ?_
      exact g_lret d_18_57 rt_18 h
  · replace h := h.2 c
    refine g_lload (pc' := 18) d_18_16 rfl rfl ?_
    refine g_lconst (pc' := 19) d_18_18 rfl cl_0 ?_
    refine g_lc_le (pc' := 23) (pm := 20) (pt := 44) d_18_19 rfl d_18_20 (by decide) rfl (fun c => ?_) (fun c => ?_)
    · replace h := h.1 c
      refine g_lload (pc' := 46) d_18_44 rfl rfl ?_
      refine g_lconst (pc' := 47) d_18_46 rfl cl_0 ?_
      refine g_lc_le (pc' := 51) (pm := 48) (pt := 56) d_18_47 rfl d_18_48 (by decide) rfl (fun c => ?_) (fun c => ?_)
      · replace h := h.1 c
        refine g_lconst (pc' := 57) d_18_56 rfl cl_1 ?_
        exact g_lret d_18_57 rt_18 h
      · replace h := h.2 c
        refine g_lload (pc' := 53) d_18_51 rfl rfl ?_
        refine g_goto (pt := 57) d_18_53 (by decide) ?_
        exact g_lret d_18_57 rt_18 h
    · replace h := h.2 c
      refine g_lload (pc' := 25) d_18_23 rfl rfl ?_
      refine g_lload (pc' := 27) d_18_25 rfl rfl ?_
      obtain ⟨hc1, h⟩ := h
      refine g_lrem (pc' := 28) d_18_27 rfl hc1 ?_
      have h := h _ rfl
      refine g_lstore (pc' := 30) (l' := [some (.long l0), none, some (.long l2), none, some (.long l4), none, some (.long l6), none, some (.int i8), some (.long ((lrem l4 l6))), none]) d_18_28 rfl ml_18 rfl rfl ?_
      refine g_lload (pc' := 32) d_18_30 rfl rfl ?_
      refine g_lstore (pc' := 34) (l' := [some (.long l0), none, some (.long l2), none, some (.long l6), none, some (.long l6), none, some (.int i8), some (.long ((lrem l4 l6))), none]) d_18_32 rfl ml_18 rfl rfl ?_
      refine g_lload (pc' := 36) d_18_34 rfl rfl ?_
      refine g_lstore (pc' := 38) (l' := [some (.long l0), none, some (.long l2), none, some (.long l6), none, some (.long ((lrem l4 l6))), none, some (.int i8), some (.long ((lrem l4 l6))), none]) d_18_36 rfl ml_18 rfl rfl ?_
      have h := h _ rfl
      refine g_iinc (pc' := 41) (l' := [some (.long l0), none, some (.long l2), none, some (.long l6), none, some (.long ((lrem l4 l6))), none, some (.int (i8 + (1 : Int32))), some (.long ((lrem l4 l6))), none]) d_18_38 rfl rfl ci_1 ml_18 rfl rfl ?_
      refine g_goto (pt := 9) d_18_41 (by decide) ?_
      exact h
-- 19 java/lang/Math.floorDiv(JJ)J
theorem S_19_0 {l0 : Int64} {l2 : Int64} {w : xW} {r : Option Value × xW} (h : (¬ l2 = 0) ∧ ∀ v2 : Int64, v2 = (l0 / l2) → ((0 : Int64) ≤ (l0 ^^^ l2) → r = (some (.long v2), w)) ∧ (¬ ((0 : Int64) ≤ (l0 ^^^ l2)) → ((v2 * l2) = l0 → r = (some (.long v2), w)) ∧ (¬ ((v2 * l2) = l0) → r = (some (.long (v2 - (1 : Int64))), w)))) : xGo 19 0 [some (.long l0), none, some (.long l2), none, none, none] [] w r := by
  refine g_lloadn (pc' := 1) d_19_0 rfl rfl ?_
  refine g_lloadn (pc' := 2) d_19_1 rfl rfl ?_
  obtain ⟨hc1, h⟩ := h
  refine g_ldiv (pc' := 3) d_19_2 rfl hc1 ?_
  have h := h _ rfl
  refine g_lstore (pc' := 5) (l' := [some (.long l0), none, some (.long l2), none, some (.long ((l0 / l2))), none]) d_19_3 rfl ml_19 rfl rfl ?_
  refine g_lloadn (pc' := 6) d_19_5 rfl rfl ?_
  refine g_lloadn (pc' := 7) d_19_6 rfl rfl ?_
  refine g_lxor (pc' := 8) d_19_7 rfl ?_
  refine g_lconst (pc' := 9) d_19_8 rfl cl_0 ?_
  refine g_lc_ge (pc' := 13) (pm := 10) (pt := 27) d_19_9 rfl d_19_10 (by decide) rfl (fun c => ?_) (fun c => ?_)
  · replace h := h.1 c
    refine g_lload (pc' := 29) d_19_27 rfl rfl ?_
    exact g_lret d_19_29 rt_19 h
  · replace h := h.2 c
    refine g_lload (pc' := 15) d_19_13 rfl rfl ?_
    refine g_lloadn (pc' := 16) d_19_15 rfl rfl ?_
    refine g_lmul (pc' := 17) d_19_16 rfl ?_
    refine g_lloadn (pc' := 18) d_19_17 rfl rfl ?_
    refine g_lc_eq (pc' := 22) (pm := 19) (pt := 27) d_19_18 rfl d_19_19 (by decide) rfl (fun c => ?_) (fun c => ?_)
    · replace h := h.1 c
      refine g_lload (pc' := 29) d_19_27 rfl rfl ?_
      exact g_lret d_19_29 rt_19 h
    · replace h := h.2 c
      refine g_lload (pc' := 24) d_19_22 rfl rfl ?_
      refine g_lconst (pc' := 25) d_19_24 rfl cl_1 ?_
      refine g_lsub (pc' := 26) d_19_25 rfl ?_
      exact g_lret d_19_26 rt_19 h
-- 20 BernoulliWays$Entries.store(ILBernoulliWays$Fraction;)V
theorem S_20_0 {a0 : Nat} {i1 : Int32} {a2 : Nat} {w : xW} {r : Option Value × xW} (h : ∃ r3 w1, xCall 21 [.int i1] w (some (.int r3), w1) ∧ (r3 = 0 → r = (none, w1)) ∧ (¬ (r3 = 0) → ∃ fs4, w1[a0]? = some (.inr (4, fs4)) ∧ ∃ b6, fs4[0]? = some (.ref b6) ∧ ∃ fs8, w1[a2]? = some (.inr (5, fs8)) ∧ ∃ x10, fs8[0]? = some (.long x10) ∧ ∃ n12 f13, w1[b6]? = some (.inl (.inr (n12, f13))) ∧ (¬ (i1 < 0 ∨ n12 ≤ i1.toNatClampNeg)) ∧ ∀ w16, w16 = w1.set b6 (.inl (.inr (n12, (vp_updL f13 i1.toNatClampNeg x10)))) → ∃ fs17, w16[a0]? = some (.inr (4, fs17)) ∧ ∃ b19, fs17[1]? = some (.ref b19) ∧ ∃ fs21, w16[a2]? = some (.inr (5, fs21)) ∧ ∃ x23, fs21[1]? = some (.long x23) ∧ ∃ n25 f26, w16[b19]? = some (.inl (.inr (n25, f26))) ∧ (¬ (i1 < 0 ∨ n25 ≤ i1.toNatClampNeg)) ∧ ∀ w29, w29 = w16.set b19 (.inl (.inr (n25, (vp_updL f26 i1.toNatClampNeg x23)))) → ∃ fs30, w29[a0]? = some (.inr (4, fs30)) ∧ ∃ b32, fs30[2]? = some (.ref b32) ∧ ∃ fs34, w29[a2]? = some (.inr (5, fs34)) ∧ ∃ x36, fs34[2]? = some (.long x36) ∧ ∃ n38 f39, w29[b32]? = some (.inl (.inr (n38, f39))) ∧ (¬ (i1 < 0 ∨ n38 ≤ i1.toNatClampNeg)) ∧ ∀ w42, w42 = w29.set b32 (.inl (.inr (n38, (vp_updL f39 i1.toNatClampNeg x36)))) → r = (none, w42))) : xGo 20 0 [some (.ref a0), some (.int i1), some (.ref a2)] [] w r := by
  refine g_iloadn (pc' := 1) d_20_0 rfl rfl ?_
  obtain ⟨r3, w1, hk2, h⟩ := h
  refine g_callS (pc' := 4) d_20_1 rfl st_20_34 (Or.inl rfl) na_21 ml_21 rfl rfl rfl rm_20_21 rfl rfl hk2 ?_
  refine g_if_eq (pc' := 7) (pt := 37) d_20_4 (by decide) rfl (fun c => ?_) (fun c => ?_)
  · replace h := h.1 c
    exact g_vret d_20_37 rt_20 h
  · replace h := h.2 c
    refine g_aloadn (pc' := 8) d_20_7 rfl rfl ?_
    obtain ⟨fs4, hw5, h⟩ := h
    obtain ⟨b6, hv7, h⟩ := h
    refine g_getf (pc' := 11) d_20_8 rfl st_20_9 hw5 hv7 ?_
    refine g_iloadn (pc' := 12) d_20_11 rfl rfl ?_
    refine g_aloadn (pc' := 13) d_20_12 rfl rfl ?_
    obtain ⟨fs8, hw9, h⟩ := h
    obtain ⟨x10, hv11, h⟩ := h
    refine g_getf (pc' := 16) d_20_13 rfl st_20_45 hw9 hv11 ?_
    obtain ⟨n12, f13, hw14, h⟩ := h
    obtain ⟨hc15, h⟩ := h
    have h := h _ rfl
    refine g_last (pc' := 17) d_20_16 rfl hw14 hc15 ?_
    refine g_aloadn (pc' := 18) d_20_17 rfl rfl ?_
    obtain ⟨fs17, hw18, h⟩ := h
    obtain ⟨b19, hv20, h⟩ := h
    refine g_getf (pc' := 21) d_20_18 rfl st_20_15 hw18 hv20 ?_
    refine g_iloadn (pc' := 22) d_20_21 rfl rfl ?_
    refine g_aloadn (pc' := 23) d_20_22 rfl rfl ?_
    obtain ⟨fs21, hw22, h⟩ := h
    obtain ⟨x23, hv24, h⟩ := h
    refine g_getf (pc' := 26) d_20_23 rfl st_20_49 hw22 hv24 ?_
    obtain ⟨n25, f26, hw27, h⟩ := h
    obtain ⟨hc28, h⟩ := h
    have h := h _ rfl
    refine g_last (pc' := 27) d_20_26 rfl hw27 hc28 ?_
    refine g_aloadn (pc' := 28) d_20_27 rfl rfl ?_
    obtain ⟨fs30, hw31, h⟩ := h
    obtain ⟨b32, hv33, h⟩ := h
    refine g_getf (pc' := 31) d_20_28 rfl st_20_18 hw31 hv33 ?_
    refine g_iloadn (pc' := 32) d_20_31 rfl rfl ?_
    refine g_aloadn (pc' := 33) d_20_32 rfl rfl ?_
    obtain ⟨fs34, hw35, h⟩ := h
    obtain ⟨x36, hv37, h⟩ := h
    refine g_getf (pc' := 36) d_20_33 rfl st_20_52 hw35 hv37 ?_
    obtain ⟨n38, f39, hw40, h⟩ := h
    obtain ⟨hc41, h⟩ := h
    have h := h _ rfl
    refine g_last (pc' := 37) d_20_36 rfl hw40 hc41 ?_
    exact g_vret d_20_37 rt_20 h
-- 21 BernoulliWays$Entries.fits(I)Z
theorem S_21_0 {i0 : Int32} {w : xW} {r : Option Value × xW} (h : (i0 < 0 → r = (some (.int (0 : Int32)), w)) ∧ (¬ (i0 < 0) → ((39 : Int32) ≤ i0 → r = (some (.int (0 : Int32)), w)) ∧ (¬ ((39 : Int32) ≤ i0) → r = (some (.int (1 : Int32)), w)))) : xGo 21 0 [some (.int i0)] [] w r := by
  refine g_iloadn (pc' := 1) d_21_0 rfl rfl ?_
  refine g_if_lt (pc' := 4) (pt := 14) d_21_1 (by decide) rfl (fun c => ?_) (fun c => ?_)
  · replace h := h.1 c
    refine g_iconst (pc' := 15) d_21_14 rfl ci_0 ?_
    exact g_zret d_21_15 rt_21 (Or.inl rfl) h
  · replace h := h.2 c
    refine g_iloadn (pc' := 5) d_21_4 rfl rfl ?_
    refine g_bipush (pc' := 7) d_21_5 rfl cb_39 ?_
    refine g_ic_ge (pc' := 10) (pt := 14) d_21_7 (by decide) rfl (fun c => ?_) (fun c => ?_)
    · replace h := h.1 c
      refine g_iconst (pc' := 15) d_21_14 rfl ci_0 ?_
      exact g_zret d_21_15 rt_21 (Or.inl rfl) h
    · replace h := h.2 c
      refine g_iconst (pc' := 11) d_21_10 rfl ci_1 ?_
      refine g_goto (pt := 15) d_21_11 (by decide) ?_
      exact g_zret d_21_15 rt_21 (Or.inr rfl) h
-- 22 BernoulliWays$Triangle.step()V
theorem S_22_0 {a0 : Nat} {w : xW} {r : Option Value × xW} (h : xGo 22 2 [some (.ref a0), some (.int (0 : Int32)), none, none] [] w r) : xGo 22 0 [some (.ref a0), none, none, none] [] w r := by
  refine g_iconst (pc' := 1) d_22_0 rfl ci_0 ?_
  refine g_istoren (pc' := 2) (l' := [some (.ref a0), some (.int (0 : Int32)), none, none]) d_22_1 rfl ml_22 rfl rfl ?_
  exact h
theorem S_22_2 {a0 : Nat} {i1 : Int32} {w : xW} {r : Option Value × xW} (h : ∃ fs1, w[a0]? = some (.inr (3, fs1)) ∧ ∃ x3, fs1[2]? = some (.int x3) ∧ (x3 ≤ i1 → ∀ v5 : Int32, v5 = (x3 - (1 : Int32)) → (2 < fs1.length) ∧ ∀ w7, w7 = w.set a0 (.inr (3, fs1.set 2 (.int v5))) → r = (none, w7)) ∧ (¬ (x3 ≤ i1) → ((39 : Int32) ≤ (i1 + (1 : Int32)) → ∀ v8 : Int32, v8 = (x3 - (1 : Int32)) → (2 < fs1.length) ∧ ∀ w10, w10 = w.set a0 (.inr (3, fs1.set 2 (.int v8))) → r = (none, w10)) ∧ (¬ ((39 : Int32) ≤ (i1 + (1 : Int32))) → ∃ b11, fs1[1]? = some (.ref b11) ∧ ∃ n13 f14, w[b11]? = some (.inl (.inr (n13, f14))) ∧ (¬ (i1 < 0 ∨ n13 ≤ i1.toNatClampNeg)) ∧ (¬ ((i1 + (1 : Int32)) < 0 ∨ n13 ≤ (i1 + (1 : Int32)).toNatClampNeg)) ∧ ∀ v18 : Int64, v18 = (((i1 + (1 : Int32)).toInt64) * ((f14 i1.toNatClampNeg) - (f14 (i1 + (1 : Int32)).toNatClampNeg))) → ∃ b19, fs1[0]? = some (.ref b19) ∧ ∃ n21 f22, w[b19]? = some (.inl (.inr (n21, f22))) ∧ (¬ (i1 < 0 ∨ n21 ≤ i1.toNatClampNeg)) ∧ (¬ ((i1 + (1 : Int32)) < 0 ∨ n21 ≤ (i1 + (1 : Int32)).toNatClampNeg)) ∧ ∃ r28 w26, xCall 19 [.long v18, .long (5342931457063200 : Int64)] w (some (.long r28), w26) ∧ ∃ n29 f30, w26[b19]? = some (.inl (.inr (n29, f30))) ∧ ∀ v32 : Int64, v32 = ((((i1 + (1 : Int32)).toInt64) * ((f22 i1.toNatClampNeg) - (f22 (i1 + (1 : Int32)).toNatClampNeg))) + r28) → (¬ (i1 < 0 ∨ n29 ≤ i1.toNatClampNeg)) ∧ ∀ w34, w34 = w26.set b19 (.inl (.inr (n29, (vp_updL f30 i1.toNatClampNeg v32)))) → ∃ fs35, w34[a0]? = some (.inr (3, fs35)) ∧ ∃ b37, fs35[1]? = some (.ref b37) ∧ ∃ r41 w39, xCall 17 [.long v18, .long (5342931457063200 : Int64)] w34 (some (.long r41), w39) ∧ ∃ n42 f43, w39[b37]? = some (.inl (.inr (n42, f43))) ∧ (¬ (i1 < 0 ∨ n42 ≤ i1.toNatClampNeg)) ∧ ∀ w46, w46 = w39.set b37 (.inl (.inr (n42, (vp_updL f43 i1.toNatClampNeg r41)))) → ∀ v47 : Int32, v47 = i1 + (1 : Int32) → xGo 22 2 [some (.ref a0), some (.int v47), some (.long v18), none] [] w46 r))) : xGo 22 2 [some (.ref a0), some (.int i1), none, none] [] w r := by
  refine g_iloadn (pc' := 3) d_22_2 rfl rfl ?_
  refine g_aloadn (pc' := 4) d_22_3 rfl rfl ?_
  obtain ⟨fs1, hw2, h⟩ := h
  obtain ⟨x3, hv4, h⟩ := h
  refine g_getf (pc' := 7) d_22_4 rfl st_22_24 hw2 hv4 ?_
  refine g_ic_ge (pc' := 10) (pt := 92) d_22_7 (by decide) rfl (fun c => ?_) (fun c => ?_)
  · replace h := h.1 c
    refine g_aloadn (pc' := 93) d_22_92 rfl rfl ?_
    refine g_dup (pc' := 94) d_22_93 rfl rfl ?_
    refine g_getf (pc' := 97) d_22_94 rfl st_22_24 hw2 hv4 ?_
    refine g_iconst (pc' := 98) d_22_97 rfl ci_1 ?_
    refine g_isub (pc' := 99) d_22_98 rfl ?_
    have h := h _ rfl
    obtain ⟨hc6, h⟩ := h
    have h := h _ rfl
    refine g_putf (pc' := 102) d_22_99 rfl st_22_24 ft_3_2 ff_3_2 rfl (Or.inl rfl) hw2 hc6 ?_
    exact g_vret d_22_102 rt_22 h
  · replace h := h.2 c
    refine g_iloadn (pc' := 11) d_22_10 rfl rfl ?_
    refine g_iconst (pc' := 12) d_22_11 rfl ci_1 ?_
    refine g_iadd (pc' := 13) d_22_12 rfl ?_
    refine g_bipush (pc' := 15) d_22_13 rfl cb_39 ?_
    refine g_ic_ge (pc' := 18) (pt := 92) d_22_15 (by decide) rfl (fun c => ?_) (fun c => ?_)
    · replace h := h.1 c
      refine g_aloadn (pc' := 93) d_22_92 rfl rfl ?_
      refine g_dup (pc' := 94) d_22_93 rfl rfl ?_
      refine g_getf (pc' := 97) d_22_94 rfl st_22_24 hw2 hv4 ?_
      refine g_iconst (pc' := 98) d_22_97 rfl ci_1 ?_
      refine g_isub (pc' := 99) d_22_98 rfl ?_
      have h := h _ rfl
      obtain ⟨hc9, h⟩ := h
      have h := h _ rfl
      refine g_putf (pc' := 102) d_22_99 rfl st_22_24 ft_3_2 ff_3_2 rfl (Or.inl rfl) hw2 hc9 ?_
      exact g_vret d_22_102 rt_22 h
    · replace h := h.2 c
      refine g_iloadn (pc' := 19) d_22_18 rfl rfl ?_
      refine g_iconst (pc' := 20) d_22_19 rfl ci_1 ?_
      refine g_iadd (pc' := 21) d_22_20 rfl ?_
      refine g_i2l (pc' := 22) d_22_21 rfl ?_
      refine g_aloadn (pc' := 23) d_22_22 rfl rfl ?_
      obtain ⟨b11, hv12, h⟩ := h
      refine g_getf (pc' := 26) d_22_23 rfl st_22_15 hw2 hv12 ?_
      refine g_iloadn (pc' := 27) d_22_26 rfl rfl ?_
      obtain ⟨n13, f14, hw15, h⟩ := h
      obtain ⟨hc16, h⟩ := h
      refine g_lald (pc' := 28) d_22_27 rfl hw15 hc16 ?_
      refine g_aloadn (pc' := 29) d_22_28 rfl rfl ?_
      refine g_getf (pc' := 32) d_22_29 rfl st_22_15 hw2 hv12 ?_
      refine g_iloadn (pc' := 33) d_22_32 rfl rfl ?_
      refine g_iconst (pc' := 34) d_22_33 rfl ci_1 ?_
      refine g_iadd (pc' := 35) d_22_34 rfl ?_
      obtain ⟨hc17, h⟩ := h
      refine g_lald (pc' := 36) d_22_35 rfl hw15 hc17 ?_
      refine g_lsub (pc' := 37) d_22_36 rfl ?_
      refine g_lmul (pc' := 38) d_22_37 rfl ?_
      have h := h _ rfl
      refine g_lstoren (pc' := 39) (l' := [some (.ref a0), some (.int i1), some (.long ((((i1 + (1 : Int32)).toInt64) * ((f14 i1.toNatClampNeg) - (f14 (i1 + (1 : Int32)).toNatClampNeg))))), none]) d_22_38 rfl ml_22 rfl rfl ?_
      refine g_aloadn (pc' := 40) d_22_39 rfl rfl ?_
      obtain ⟨b19, hv20, h⟩ := h
      refine g_getf (pc' := 43) d_22_40 rfl st_22_9 hw2 hv20 ?_
      refine g_iloadn (pc' := 44) d_22_43 rfl rfl ?_
      refine g_iloadn (pc' := 45) d_22_44 rfl rfl ?_
      refine g_iconst (pc' := 46) d_22_45 rfl ci_1 ?_
      refine g_iadd (pc' := 47) d_22_46 rfl ?_
      refine g_i2l (pc' := 48) d_22_47 rfl ?_
      refine g_aloadn (pc' := 49) d_22_48 rfl rfl ?_
      refine g_getf (pc' := 52) d_22_49 rfl st_22_9 hw2 hv20 ?_
      refine g_iloadn (pc' := 53) d_22_52 rfl rfl ?_
      obtain ⟨n21, f22, hw23, h⟩ := h
      obtain ⟨hc24, h⟩ := h
      refine g_lald (pc' := 54) d_22_53 rfl hw23 hc24 ?_
      refine g_aloadn (pc' := 55) d_22_54 rfl rfl ?_
      refine g_getf (pc' := 58) d_22_55 rfl st_22_9 hw2 hv20 ?_
      refine g_iloadn (pc' := 59) d_22_58 rfl rfl ?_
      refine g_iconst (pc' := 60) d_22_59 rfl ci_1 ?_
      refine g_iadd (pc' := 61) d_22_60 rfl ?_
      obtain ⟨hc25, h⟩ := h
      refine g_lald (pc' := 62) d_22_61 rfl hw23 hc25 ?_
      refine g_lsub (pc' := 63) d_22_62 rfl ?_
      refine g_lmul (pc' := 64) d_22_63 rfl ?_
      refine g_lloadn (pc' := 65) d_22_64 rfl rfl ?_
      refine g_ldc2 (pc' := 68) d_22_65 rfl st_22_28 cL_5342931457063200 ?_
      obtain ⟨r28, w26, hk27, h⟩ := h
      refine g_callS (pc' := 71) d_22_68 rfl st_22_30 (Or.inl rfl) na_19 ml_19 rfl rfl rfl rm_22_19 rfl rfl hk27 ?_
      refine g_ladd (pc' := 72) d_22_71 rfl ?_
      obtain ⟨n29, f30, hw31, h⟩ := h
      have h := h _ rfl
      obtain ⟨hc33, h⟩ := h
      have h := h _ rfl
      refine g_last (pc' := 73) d_22_72 rfl hw31 hc33 ?_
      refine g_aloadn (pc' := 74) d_22_73 rfl rfl ?_
      obtain ⟨fs35, hw36, h⟩ := h
      obtain ⟨b37, hv38, h⟩ := h
      refine g_getf (pc' := 77) d_22_74 rfl st_22_15 hw36 hv38 ?_
      refine g_iloadn (pc' := 78) d_22_77 rfl rfl ?_
      refine g_lloadn (pc' := 79) d_22_78 rfl rfl ?_
      refine g_ldc2 (pc' := 82) d_22_79 rfl st_22_28 cL_5342931457063200 ?_
      obtain ⟨r41, w39, hk40, h⟩ := h
      refine g_callS (pc' := 85) d_22_82 rfl st_22_34 (Or.inl rfl) na_17 ml_17 rfl rfl rfl rm_22_17 rfl rfl hk40 ?_
      obtain ⟨n42, f43, hw44, h⟩ := h
      obtain ⟨hc45, h⟩ := h
      have h := h _ rfl
      refine g_last (pc' := 86) d_22_85 rfl hw44 hc45 ?_
      have h := h _ rfl
      refine g_iinc (pc' := 89) (l' := [some (.ref a0), some (.int (i1 + (1 : Int32))), some (.long ((((i1 + (1 : Int32)).toInt64) * ((f14 i1.toNatClampNeg) - (f14 (i1 + (1 : Int32)).toNatClampNeg))))), none]) d_22_86 rfl rfl ci_1 ml_22 rfl rfl ?_
      refine g_goto (pt := 2) d_22_89 (by decide) ?_
      exact h
-- 23 BernoulliWays.lay(II)I
theorem S_23_0 {a0 : Nat} {i1 : Int32} {i2 : Int32} {w : xW} {r : Option Value × xW} (h : ∃ r3 w1, xCall 24 [.int i1] w (some (.int r3), w1) ∧ (r3 = 0 → r = (some (.int (-1 : Int32)), w1)) ∧ (¬ (r3 = 0) → ∃ r6 w4, xCall 25 [.int i2] w1 (some (.int r6), w4) ∧ (¬ r6 = 0 → (¬ i2 = 0 → ∃ fs7, w4[a0]? = some (.inr (0, fs7)) ∧ ∃ x9, fs7[7]? = some (.int x9) ∧ ∀ v11 : Int32, v11 = (x9 + (1 : Int32)) → xGo 23 46 [some (.ref a0), some (.int i1), some (.int i2), some (.int (0 : Int32)), some (.int v11)] [] w4 r) ∧ (¬ (¬ i2 = 0) → ∃ fs12, w4[a0]? = some (.inr (0, fs12)) ∧ ∃ x14, fs12[7]? = some (.int x14) ∧ ∃ r18 w16, xCall 26 [.ref a0, .int (x14 + (1 : Int32))] w4 (some (.int r18), w16) ∧ (¬ r18 = 0 → ∃ fs19, w16[a0]? = some (.inr (0, fs19)) ∧ ∃ x21, fs19[7]? = some (.int x21) ∧ ∀ v23 : Int32, v23 = (x21 + (1 : Int32)) → xGo 23 46 [some (.ref a0), some (.int i1), some (.int i2), some (.int (0 : Int32)), some (.int v23)] [] w16 r) ∧ (¬ (¬ r18 = 0) → r = (some (.int (-3 : Int32)), w16)))) ∧ (¬ (¬ r6 = 0) → r = (some (.int (-1 : Int32)), w4)))) : xGo 23 0 [some (.ref a0), some (.int i1), some (.int i2), none, none] [] w r := by
  refine g_iloadn (pc' := 1) d_23_0 rfl rfl ?_
  obtain ⟨r3, w1, hk2, h⟩ := h
  refine g_callS (pc' := 4) d_23_1 rfl st_23_120 (Or.inl rfl) na_24 ml_24 rfl rfl rfl rm_23_24 rfl rfl hk2 ?_
  refine g_if_eq (pc' := 7) (pt := 14) d_23_4 (by decide) rfl (fun c => ?_) (fun c => ?_)
  · replace h := h.1 c
    refine g_iconst (pc' := 15) d_23_14 rfl ci_m1 ?_
    exact g_iret d_23_15 rt_23 h
  · replace h := h.2 c
    refine g_iloadn (pc' := 8) d_23_7 rfl rfl ?_
    obtain ⟨r6, w4, hk5, h⟩ := h
    refine g_callS (pc' := 11) d_23_8 rfl st_23_124 (Or.inl rfl) na_25 ml_25 rfl rfl rfl rm_23_25 rfl rfl hk5 ?_
    refine g_if_ne (pc' := 14) (pt := 16) d_23_11 (by decide) rfl (fun c => ?_) (fun c => ?_)
    · replace h := h.1 c
      refine g_iloadn (pc' := 17) d_23_16 rfl rfl ?_
      refine g_if_ne (pc' := 20) (pt := 36) d_23_17 (by decide) rfl (fun c => ?_) (fun c => ?_)
      · replace h := h.1 c
        refine g_iconst (pc' := 37) d_23_36 rfl ci_0 ?_
        refine g_istoren (pc' := 38) (l' := [some (.ref a0), some (.int i1), some (.int i2), some (.int (0 : Int32)), none]) d_23_37 rfl ml_23 rfl rfl ?_
        refine g_aloadn (pc' := 39) d_23_38 rfl rfl ?_
        obtain ⟨fs7, hw8, h⟩ := h
        obtain ⟨x9, hv10, h⟩ := h
        refine g_getf (pc' := 42) d_23_39 rfl st_23_49 hw8 hv10 ?_
        refine g_iconst (pc' := 43) d_23_42 rfl ci_1 ?_
        refine g_iadd (pc' := 44) d_23_43 rfl ?_
        have h := h _ rfl
        refine g_istore (pc' := 46) (l' := [some (.ref a0), some (.int i1), some (.int i2), some (.int (0 : Int32)), some (.int ((x9 + (1 : Int32))))]) d_23_44 rfl ml_23 rfl rfl ?_
        exact h
      · replace h := h.2 c
        refine g_aloadn (pc' := 21) d_23_20 rfl rfl ?_
        refine g_aloadn (pc' := 22) d_23_21 rfl rfl ?_
        obtain ⟨fs12, hw13, h⟩ := h
        obtain ⟨x14, hv15, h⟩ := h
        refine g_getf (pc' := 25) d_23_22 rfl st_23_49 hw13 hv15 ?_
        refine g_iconst (pc' := 26) d_23_25 rfl ci_1 ?_
        refine g_iadd (pc' := 27) d_23_26 rfl ?_
        obtain ⟨r18, w16, hk17, h⟩ := h
        refine g_callV (pc' := 30) d_23_27 rfl st_23_127 na_26 ml_26 rfl rfl rfl rm_23_26 rfl rfl ow_26 hw13 hk17 ?_
        refine g_if_ne (pc' := 33) (pt := 36) d_23_30 (by decide) rfl (fun c => ?_) (fun c => ?_)
        · replace h := h.1 c
          refine g_iconst (pc' := 37) d_23_36 rfl ci_0 ?_
          refine g_istoren (pc' := 38) (l' := [some (.ref a0), some (.int i1), some (.int i2), some (.int (0 : Int32)), none]) d_23_37 rfl ml_23 rfl rfl ?_
          refine g_aloadn (pc' := 39) d_23_38 rfl rfl ?_
          obtain ⟨fs19, hw20, h⟩ := h
          obtain ⟨x21, hv22, h⟩ := h
          refine g_getf (pc' := 42) d_23_39 rfl st_23_49 hw20 hv22 ?_
          refine g_iconst (pc' := 43) d_23_42 rfl ci_1 ?_
          refine g_iadd (pc' := 44) d_23_43 rfl ?_
          have h := h _ rfl
          refine g_istore (pc' := 46) (l' := [some (.ref a0), some (.int i1), some (.int i2), some (.int (0 : Int32)), some (.int ((x21 + (1 : Int32))))]) d_23_44 rfl ml_23 rfl rfl ?_
          exact h
        · replace h := h.2 c
          refine g_bipush (pc' := 35) d_23_33 rfl cb_m3 ?_
          exact g_iret d_23_35 rt_23 h
    · replace h := h.2 c
      refine g_iconst (pc' := 15) d_23_14 rfl ci_m1 ?_
      exact g_iret d_23_15 rt_23 h
theorem S_23_46 {a0 : Nat} {i1 : Int32} {i2 : Int32} {i3 : Int32} {i4 : Int32} {w : xW} {r : Option Value × xW} (h : (i1 < i4 → r = (some (.int i3), w)) ∧ (¬ (i1 < i4) → ∃ fs1, w[a0]? = some (.inr (0, fs1)) ∧ ∃ r5 w3, xCall 32 [.ref a0, .int i4, .int i2] w (some (.int r5), w3) ∧ ∃ fs6, w3[a0]? = some (.inr (0, fs6)) ∧ (7 < fs6.length) ∧ ∀ w9, w9 = w3.set a0 (.inr (0, fs6.set 7 (.int i4))) → ∀ v10 : Int32, v10 = i3 + (1 : Int32) → ∀ v11 : Int32, v11 = i4 + (1 : Int32) → xGo 23 46 [some (.ref a0), some (.int i1), some (.int i2), some (.int v10), some (.int v11)] [] w9 r)) : xGo 23 46 [some (.ref a0), some (.int i1), some (.int i2), some (.int i3), some (.int i4)] [] w r := by
  refine g_iload (pc' := 48) d_23_46 rfl rfl ?_
  refine g_iloadn (pc' := 49) d_23_48 rfl rfl ?_
  refine g_ic_gt (pc' := 52) (pt := 75) d_23_49 (by decide) rfl (fun c => ?_) (fun c => ?_)
  · replace h := h.1 c
    refine g_iloadn (pc' := 76) d_23_75 rfl rfl ?_
    exact g_iret d_23_76 rt_23 h
  · replace h := h.2 c
    refine g_aloadn (pc' := 53) d_23_52 rfl rfl ?_
    refine g_iload (pc' := 55) d_23_53 rfl rfl ?_
    refine g_iloadn (pc' := 56) d_23_55 rfl rfl ?_
    obtain ⟨fs1, hw2, h⟩ := h
    obtain ⟨r5, w3, hk4, h⟩ := h
    refine g_callV (pc' := 59) d_23_56 rfl st_23_130 na_32 ml_32 rfl rfl rfl rm_23_32 rfl rfl ow_32 hw2 hk4 ?_
    refine g_pop (pc' := 60) d_23_59 rfl rfl ?_
    refine g_aloadn (pc' := 61) d_23_60 rfl rfl ?_
    refine g_iload (pc' := 63) d_23_61 rfl rfl ?_
    obtain ⟨fs6, hw7, h⟩ := h
    obtain ⟨hc8, h⟩ := h
    have h := h _ rfl
    refine g_putf (pc' := 66) d_23_63 rfl st_23_49 ft_0_7 ff_0_7 rfl (Or.inl rfl) hw7 hc8 ?_
    have h := h _ rfl
    refine g_iinc (pc' := 69) (l' := [some (.ref a0), some (.int i1), some (.int i2), some (.int (i3 + (1 : Int32))), some (.int i4)]) d_23_66 rfl rfl ci_1 ml_23 rfl rfl ?_
    have h := h _ rfl
    refine g_iinc (pc' := 72) (l' := [some (.ref a0), some (.int i1), some (.int i2), some (.int (i3 + (1 : Int32))), some (.int (i4 + (1 : Int32)))]) d_23_69 rfl rfl ci_1 ml_23 rfl rfl ?_
    refine g_goto (pt := 46) d_23_72 (by decide) ?_
    exact h
-- 24 BernoulliWays.isEntry(I)Z
theorem S_24_0 {i0 : Int32} {w : xW} {r : Option Value × xW} (h : (i0 < 0 → r = (some (.int (0 : Int32)), w)) ∧ (¬ (i0 < 0) → ((38 : Int32) < i0 → r = (some (.int (0 : Int32)), w)) ∧ (¬ ((38 : Int32) < i0) → r = (some (.int (1 : Int32)), w)))) : xGo 24 0 [some (.int i0)] [] w r := by
  refine g_iloadn (pc' := 1) d_24_0 rfl rfl ?_
  refine g_if_lt (pc' := 4) (pt := 14) d_24_1 (by decide) rfl (fun c => ?_) (fun c => ?_)
  · replace h := h.1 c
    refine g_iconst (pc' := 15) d_24_14 rfl ci_0 ?_
    exact g_zret d_24_15 rt_24 (Or.inl rfl) h
  · replace h := h.2 c
    refine g_iloadn (pc' := 5) d_24_4 rfl rfl ?_
    refine g_bipush (pc' := 7) d_24_5 rfl cb_38 ?_
    refine g_ic_gt (pc' := 10) (pt := 14) d_24_7 (by decide) rfl (fun c => ?_) (fun c => ?_)
    · replace h := h.1 c
      refine g_iconst (pc' := 15) d_24_14 rfl ci_0 ?_
      exact g_zret d_24_15 rt_24 (Or.inl rfl) h
    · replace h := h.2 c
      refine g_iconst (pc' := 11) d_24_10 rfl ci_1 ?_
      refine g_goto (pt := 15) d_24_11 (by decide) ?_
      exact g_zret d_24_15 rt_24 (Or.inr rfl) h
-- 25 BernoulliWays.isWay(I)Z
theorem S_25_0 {i0 : Int32} {w : xW} {r : Option Value × xW} (h : (i0 < 0 → r = (some (.int (0 : Int32)), w)) ∧ (¬ (i0 < 0) → ((2 : Int32) < i0 → r = (some (.int (0 : Int32)), w)) ∧ (¬ ((2 : Int32) < i0) → r = (some (.int (1 : Int32)), w)))) : xGo 25 0 [some (.int i0)] [] w r := by
  refine g_iloadn (pc' := 1) d_25_0 rfl rfl ?_
  refine g_if_lt (pc' := 4) (pt := 13) d_25_1 (by decide) rfl (fun c => ?_) (fun c => ?_)
  · replace h := h.1 c
    refine g_iconst (pc' := 14) d_25_13 rfl ci_0 ?_
    exact g_zret d_25_14 rt_25 (Or.inl rfl) h
  · replace h := h.2 c
    refine g_iloadn (pc' := 5) d_25_4 rfl rfl ?_
    refine g_iconst (pc' := 6) d_25_5 rfl ci_2 ?_
    refine g_ic_gt (pc' := 9) (pt := 13) d_25_6 (by decide) rfl (fun c => ?_) (fun c => ?_)
    · replace h := h.1 c
      refine g_iconst (pc' := 14) d_25_13 rfl ci_0 ?_
      exact g_zret d_25_14 rt_25 (Or.inl rfl) h
    · replace h := h.2 c
      refine g_iconst (pc' := 10) d_25_9 rfl ci_1 ?_
      refine g_goto (pt := 14) d_25_10 (by decide) ?_
      exact g_zret d_25_14 rt_25 (Or.inr rfl) h
-- 26 BernoulliWays.allRightBelow(I)Z
theorem S_26_0 {a0 : Nat} {i1 : Int32} {w : xW} {r : Option Value × xW} (h : xGo 26 2 [some (.ref a0), some (.int i1), some (.int (0 : Int32))] [] w r) : xGo 26 0 [some (.ref a0), some (.int i1), none] [] w r := by
  refine g_iconst (pc' := 1) d_26_0 rfl ci_0 ?_
  refine g_istoren (pc' := 2) (l' := [some (.ref a0), some (.int i1), some (.int (0 : Int32))]) d_26_1 rfl ml_26 rfl rfl ?_
  exact h
theorem S_26_2 {a0 : Nat} {i1 : Int32} {i2 : Int32} {w : xW} {r : Option Value × xW} (h : (i1 ≤ i2 → r = (some (.int (1 : Int32)), w)) ∧ (¬ (i1 ≤ i2) → ∃ fs1, w[a0]? = some (.inr (0, fs1)) ∧ ∃ r5 w3, xCall 27 [.ref a0, .int i2] w (some (.int r5), w3) ∧ (¬ r5 = 0 → ∀ v6 : Int32, v6 = i2 + (1 : Int32) → xGo 26 2 [some (.ref a0), some (.int i1), some (.int v6)] [] w3 r) ∧ (¬ (¬ r5 = 0) → r = (some (.int (0 : Int32)), w3)))) : xGo 26 2 [some (.ref a0), some (.int i1), some (.int i2)] [] w r := by
  refine g_iloadn (pc' := 3) d_26_2 rfl rfl ?_
  refine g_iloadn (pc' := 4) d_26_3 rfl rfl ?_
  refine g_ic_ge (pc' := 7) (pt := 23) d_26_4 (by decide) rfl (fun c => ?_) (fun c => ?_)
  · replace h := h.1 c
    refine g_iconst (pc' := 24) d_26_23 rfl ci_1 ?_
    exact g_zret d_26_24 rt_26 (Or.inr rfl) h
  · replace h := h.2 c
    refine g_aloadn (pc' := 8) d_26_7 rfl rfl ?_
    refine g_iloadn (pc' := 9) d_26_8 rfl rfl ?_
    obtain ⟨fs1, hw2, h⟩ := h
    obtain ⟨r5, w3, hk4, h⟩ := h
    refine g_callV (pc' := 12) d_26_9 rfl st_26_174 na_27 ml_27 rfl rfl rfl rm_26_27 rfl rfl ow_27 hw2 hk4 ?_
    refine g_if_ne (pc' := 15) (pt := 17) d_26_12 (by decide) rfl (fun c => ?_) (fun c => ?_)
    · replace h := h.1 c
      have h := h _ rfl
      refine g_iinc (pc' := 20) (l' := [some (.ref a0), some (.int i1), some (.int (i2 + (1 : Int32)))]) d_26_17 rfl rfl ci_1 ml_26 rfl rfl ?_
      refine g_goto (pt := 2) d_26_20 (by decide) ?_
      exact h
    · replace h := h.2 c
      refine g_iconst (pc' := 16) d_26_15 rfl ci_0 ?_
      exact g_zret d_26_16 rt_26 (Or.inl rfl) h
-- 27 BernoulliWays.isRight(I)Z
theorem S_27_0 {a0 : Nat} {i1 : Int32} {w : xW} {r : Option Value × xW} (h : ∃ fs1, w[a0]? = some (.inr (0, fs1)) ∧ ∃ b3, fs1[4]? = some (.ref b3) ∧ ∃ b5, fs1[3]? = some (.ref b5) ∧ ∃ fs7, w[b3]? = some (.inr (4, fs7)) ∧ ∃ r11 w9, xCall 28 [.ref b3, .int i1, .ref b5] w (some (.int r11), w9) ∧ (r11 = 0 ∨ r11 = 1) ∧ r = (some (.int r11), w9)) : xGo 27 0 [some (.ref a0), some (.int i1)] [] w r := by
  refine g_aloadn (pc' := 1) d_27_0 rfl rfl ?_
  obtain ⟨fs1, hw2, h⟩ := h
  obtain ⟨b3, hv4, h⟩ := h
  refine g_getf (pc' := 4) d_27_1 rfl st_27_39 hw2 hv4 ?_
  refine g_iloadn (pc' := 5) d_27_4 rfl rfl ?_
  refine g_aloadn (pc' := 6) d_27_5 rfl rfl ?_
  obtain ⟨b5, hv6, h⟩ := h
  refine g_getf (pc' := 9) d_27_6 rfl st_27_35 hw2 hv6 ?_
  obtain ⟨fs7, hw8, h⟩ := h
  obtain ⟨r11, w9, hk10, h⟩ := h
  refine g_callV (pc' := 12) d_27_9 rfl st_27_418 na_28 ml_28 rfl rfl rfl rm_27_28 rfl rfl ow_28 hw8 hk10 ?_
  obtain ⟨hc12, h⟩ := h
  exact g_zret d_27_12 rt_27 hc12 h
-- 28 BernoulliWays$Entries.alike(ILBernoulliWays$Entries;)Z
theorem S_28_0 {a0 : Nat} {i1 : Int32} {a2 : Nat} {w : xW} {r : Option Value × xW} (h : ∃ fs1, w[a0]? = some (.inr (4, fs1)) ∧ ∃ r5 w3, xCall 29 [.ref a0, .int i1] w (some (.long r5), w3) ∧ ∃ fs6, w3[a2]? = some (.inr (4, fs6)) ∧ ∃ r10 w8, xCall 29 [.ref a2, .int i1] w3 (some (.long r10), w8) ∧ (¬ r5 = r10 → r = (some (.int (0 : Int32)), w8)) ∧ (¬ (¬ r5 = r10) → ∃ fs11, w8[a0]? = some (.inr (4, fs11)) ∧ ∃ r15 w13, xCall 30 [.ref a0, .int i1] w8 (some (.long r15), w13) ∧ ∃ fs16, w13[a2]? = some (.inr (4, fs16)) ∧ ∃ r20 w18, xCall 30 [.ref a2, .int i1] w13 (some (.long r20), w18) ∧ (¬ r15 = r20 → r = (some (.int (0 : Int32)), w18)) ∧ (¬ (¬ r15 = r20) → ∃ fs21, w18[a0]? = some (.inr (4, fs21)) ∧ ∃ r25 w23, xCall 31 [.ref a0, .int i1] w18 (some (.long r25), w23) ∧ ∃ fs26, w23[a2]? = some (.inr (4, fs26)) ∧ ∃ r30 w28, xCall 31 [.ref a2, .int i1] w23 (some (.long r30), w28) ∧ (¬ r25 = r30 → r = (some (.int (0 : Int32)), w28)) ∧ (¬ (¬ r25 = r30) → r = (some (.int (1 : Int32)), w28))))) : xGo 28 0 [some (.ref a0), some (.int i1), some (.ref a2)] [] w r := by
  refine g_aloadn (pc' := 1) d_28_0 rfl rfl ?_
  refine g_iloadn (pc' := 2) d_28_1 rfl rfl ?_
  obtain ⟨fs1, hw2, h⟩ := h
  obtain ⟨r5, w3, hk4, h⟩ := h
  refine g_callV (pc' := 5) d_28_2 rfl st_28_38 na_29 ml_29 rfl rfl rfl rm_28_29 rfl rfl ow_29 hw2 hk4 ?_
  refine g_aloadn (pc' := 6) d_28_5 rfl rfl ?_
  refine g_iloadn (pc' := 7) d_28_6 rfl rfl ?_
  obtain ⟨fs6, hw7, h⟩ := h
  obtain ⟨r10, w8, hk9, h⟩ := h
  refine g_callV (pc' := 10) d_28_7 rfl st_28_38 na_29 ml_29 rfl rfl rfl rm_28_29 rfl rfl ow_29 hw7 hk9 ?_
  refine g_lc_ne (pc' := 14) (pm := 11) (pt := 46) d_28_10 rfl d_28_11 (by decide) rfl (fun c => ?_) (fun c => ?_)
  · replace h := h.1 c
    refine g_iconst (pc' := 47) d_28_46 rfl ci_0 ?_
    exact g_zret d_28_47 rt_28 (Or.inl rfl) h
  · replace h := h.2 c
    refine g_aloadn (pc' := 15) d_28_14 rfl rfl ?_
    refine g_iloadn (pc' := 16) d_28_15 rfl rfl ?_
    obtain ⟨fs11, hw12, h⟩ := h
    obtain ⟨r15, w13, hk14, h⟩ := h
    refine g_callV (pc' := 19) d_28_16 rfl st_28_42 na_30 ml_30 rfl rfl rfl rm_28_30 rfl rfl ow_30 hw12 hk14 ?_
    refine g_aloadn (pc' := 20) d_28_19 rfl rfl ?_
    refine g_iloadn (pc' := 21) d_28_20 rfl rfl ?_
    obtain ⟨fs16, hw17, h⟩ := h
    obtain ⟨r20, w18, hk19, h⟩ := h
    refine g_callV (pc' := 24) d_28_21 rfl st_28_42 na_30 ml_30 rfl rfl rfl rm_28_30 rfl rfl ow_30 hw17 hk19 ?_
    refine g_lc_ne (pc' := 28) (pm := 25) (pt := 46) d_28_24 rfl d_28_25 (by decide) rfl (fun c => ?_) (fun c => ?_)
    · replace h := h.1 c
      refine g_iconst (pc' := 47) d_28_46 rfl ci_0 ?_
      exact g_zret d_28_47 rt_28 (Or.inl rfl) h
    · replace h := h.2 c
      refine g_aloadn (pc' := 29) d_28_28 rfl rfl ?_
      refine g_iloadn (pc' := 30) d_28_29 rfl rfl ?_
      obtain ⟨fs21, hw22, h⟩ := h
      obtain ⟨r25, w23, hk24, h⟩ := h
      refine g_callV (pc' := 33) d_28_30 rfl st_28_55 na_31 ml_31 rfl rfl rfl rm_28_31 rfl rfl ow_31 hw22 hk24 ?_
      refine g_aloadn (pc' := 34) d_28_33 rfl rfl ?_
      refine g_iloadn (pc' := 35) d_28_34 rfl rfl ?_
      obtain ⟨fs26, hw27, h⟩ := h
      obtain ⟨r30, w28, hk29, h⟩ := h
      refine g_callV (pc' := 38) d_28_35 rfl st_28_55 na_31 ml_31 rfl rfl rfl rm_28_31 rfl rfl ow_31 hw27 hk29 ?_
      refine g_lc_ne (pc' := 42) (pm := 39) (pt := 46) d_28_38 rfl d_28_39 (by decide) rfl (fun c => ?_) (fun c => ?_)
      · replace h := h.1 c
        refine g_iconst (pc' := 47) d_28_46 rfl ci_0 ?_
        exact g_zret d_28_47 rt_28 (Or.inl rfl) h
      · replace h := h.2 c
        refine g_iconst (pc' := 43) d_28_42 rfl ci_1 ?_
        refine g_goto (pt := 47) d_28_43 (by decide) ?_
        exact g_zret d_28_47 rt_28 (Or.inr rfl) h
-- 29 BernoulliWays$Entries.wholeOf(I)J
theorem S_29_0 {a0 : Nat} {i1 : Int32} {w : xW} {r : Option Value × xW} (h : ∃ r3 w1, xCall 21 [.int i1] w (some (.int r3), w1) ∧ (r3 = 0 → r = (some (.long (0 : Int64)), w1)) ∧ (¬ (r3 = 0) → ∃ fs4, w1[a0]? = some (.inr (4, fs4)) ∧ ∃ b6, fs4[0]? = some (.ref b6) ∧ ∃ n8 f9, w1[b6]? = some (.inl (.inr (n8, f9))) ∧ (¬ (i1 < 0 ∨ n8 ≤ i1.toNatClampNeg)) ∧ r = (some (.long (f9 i1.toNatClampNeg)), w1))) : xGo 29 0 [some (.ref a0), some (.int i1)] [] w r := by
  refine g_iloadn (pc' := 1) d_29_0 rfl rfl ?_
  obtain ⟨r3, w1, hk2, h⟩ := h
  refine g_callS (pc' := 4) d_29_1 rfl st_29_34 (Or.inl rfl) na_21 ml_21 rfl rfl rfl rm_29_21 rfl rfl hk2 ?_
  refine g_if_eq (pc' := 7) (pt := 16) d_29_4 (by decide) rfl (fun c => ?_) (fun c => ?_)
  · replace h := h.1 c
    refine g_lconst (pc' := 17) d_29_16 rfl cl_0 ?_
    exact g_lret d_29_17 rt_29 h
  · replace h := h.2 c
    refine g_aloadn (pc' := 8) d_29_7 rfl rfl ?_
    obtain ⟨fs4, hw5, h⟩ := h
    obtain ⟨b6, hv7, h⟩ := h
    refine g_getf (pc' := 11) d_29_8 rfl st_29_9 hw5 hv7 ?_
    refine g_iloadn (pc' := 12) d_29_11 rfl rfl ?_
    obtain ⟨n8, f9, hw10, h⟩ := h
    obtain ⟨hc11, h⟩ := h
    refine g_lald (pc' := 13) d_29_12 rfl hw10 hc11 ?_
    refine g_goto (pt := 17) d_29_13 (by decide) ?_
    exact g_lret d_29_17 rt_29 h
-- 30 BernoulliWays$Entries.aboveOf(I)J
theorem S_30_0 {a0 : Nat} {i1 : Int32} {w : xW} {r : Option Value × xW} (h : ∃ r3 w1, xCall 21 [.int i1] w (some (.int r3), w1) ∧ (r3 = 0 → r = (some (.long (0 : Int64)), w1)) ∧ (¬ (r3 = 0) → ∃ fs4, w1[a0]? = some (.inr (4, fs4)) ∧ ∃ b6, fs4[1]? = some (.ref b6) ∧ ∃ n8 f9, w1[b6]? = some (.inl (.inr (n8, f9))) ∧ (¬ (i1 < 0 ∨ n8 ≤ i1.toNatClampNeg)) ∧ r = (some (.long (f9 i1.toNatClampNeg)), w1))) : xGo 30 0 [some (.ref a0), some (.int i1)] [] w r := by
  refine g_iloadn (pc' := 1) d_30_0 rfl rfl ?_
  obtain ⟨r3, w1, hk2, h⟩ := h
  refine g_callS (pc' := 4) d_30_1 rfl st_30_34 (Or.inl rfl) na_21 ml_21 rfl rfl rfl rm_30_21 rfl rfl hk2 ?_
  refine g_if_eq (pc' := 7) (pt := 16) d_30_4 (by decide) rfl (fun c => ?_) (fun c => ?_)
  · replace h := h.1 c
    refine g_lconst (pc' := 17) d_30_16 rfl cl_0 ?_
    exact g_lret d_30_17 rt_30 h
  · replace h := h.2 c
    refine g_aloadn (pc' := 8) d_30_7 rfl rfl ?_
    obtain ⟨fs4, hw5, h⟩ := h
    obtain ⟨b6, hv7, h⟩ := h
    refine g_getf (pc' := 11) d_30_8 rfl st_30_15 hw5 hv7 ?_
    refine g_iloadn (pc' := 12) d_30_11 rfl rfl ?_
    obtain ⟨n8, f9, hw10, h⟩ := h
    obtain ⟨hc11, h⟩ := h
    refine g_lald (pc' := 13) d_30_12 rfl hw10 hc11 ?_
    refine g_goto (pt := 17) d_30_13 (by decide) ?_
    exact g_lret d_30_17 rt_30 h
-- 31 BernoulliWays$Entries.belowOf(I)J
theorem S_31_0 {a0 : Nat} {i1 : Int32} {w : xW} {r : Option Value × xW} (h : ∃ r3 w1, xCall 21 [.int i1] w (some (.int r3), w1) ∧ (r3 = 0 → r = (some (.long (1 : Int64)), w1)) ∧ (¬ (r3 = 0) → ∃ fs4, w1[a0]? = some (.inr (4, fs4)) ∧ ∃ b6, fs4[2]? = some (.ref b6) ∧ ∃ n8 f9, w1[b6]? = some (.inl (.inr (n8, f9))) ∧ (¬ (i1 < 0 ∨ n8 ≤ i1.toNatClampNeg)) ∧ r = (some (.long (f9 i1.toNatClampNeg)), w1))) : xGo 31 0 [some (.ref a0), some (.int i1)] [] w r := by
  refine g_iloadn (pc' := 1) d_31_0 rfl rfl ?_
  obtain ⟨r3, w1, hk2, h⟩ := h
  refine g_callS (pc' := 4) d_31_1 rfl st_31_34 (Or.inl rfl) na_21 ml_21 rfl rfl rfl rm_31_21 rfl rfl hk2 ?_
  refine g_if_eq (pc' := 7) (pt := 16) d_31_4 (by decide) rfl (fun c => ?_) (fun c => ?_)
  · replace h := h.1 c
    refine g_lconst (pc' := 17) d_31_16 rfl cl_1 ?_
    exact g_lret d_31_17 rt_31 h
  · replace h := h.2 c
    refine g_aloadn (pc' := 8) d_31_7 rfl rfl ?_
    obtain ⟨fs4, hw5, h⟩ := h
    obtain ⟨b6, hv7, h⟩ := h
    refine g_getf (pc' := 11) d_31_8 rfl st_31_18 hw5 hv7 ?_
    refine g_iloadn (pc' := 12) d_31_11 rfl rfl ?_
    obtain ⟨n8, f9, hw10, h⟩ := h
    obtain ⟨hc11, h⟩ := h
    refine g_lald (pc' := 13) d_31_12 rfl hw10 hc11 ?_
    refine g_goto (pt := 17) d_31_13 (by decide) ?_
    exact g_lret d_31_17 rt_31 h
-- 32 BernoulliWays.layOne(II)Z
theorem S_32_0 {a0 : Nat} {i1 : Int32} {i2 : Int32} {w : xW} {r : Option Value × xW} (h : ∃ fs1, w[a0]? = some (.inr (0, fs1)) ∧ ∃ w3, xCall 33 [.ref a0, .int i1, .int i2] w (none, w3) ∧ ∃ fs5, w3[a0]? = some (.inr (0, fs5)) ∧ ∃ b7, fs5[4]? = some (.ref b7) ∧ ∃ b9, fs5[13]? = some (.ref b9) ∧ ∃ fs11, w3[b7]? = some (.inr (4, fs11)) ∧ ∃ r15 w13, xCall 56 [.ref b7, .int i1, .ref b9] w3 (some (.int r15), w13) ∧ (¬ r15 = 0 → ∃ fs16, w13[a0]? = some (.inr (0, fs16)) ∧ ∃ b18, fs16[4]? = some (.ref b18) ∧ ∃ b20, fs16[13]? = some (.ref b20) ∧ ∃ fs22, w13[b18]? = some (.inr (4, fs22)) ∧ ∃ w24, xCall 20 [.ref b18, .int i1, .ref b20] w13 (none, w24) ∧ ∃ fs26, w24[a0]? = some (.inr (0, fs26)) ∧ ∃ w28, xCall 57 [.ref a0, .int i1, .int i2] w24 (none, w28) ∧ r = (some (.int (0 : Int32)), w28)) ∧ (¬ (¬ r15 = 0) → ∃ fs30, w13[a0]? = some (.inr (0, fs30)) ∧ ∃ b32, fs30[4]? = some (.ref b32) ∧ ∃ b34, fs30[13]? = some (.ref b34) ∧ ∃ fs36, w13[b32]? = some (.inr (4, fs36)) ∧ ∃ w38, xCall 20 [.ref b32, .int i1, .ref b34] w13 (none, w38) ∧ ∃ fs40, w38[a0]? = some (.inr (0, fs40)) ∧ ∃ w42, xCall 57 [.ref a0, .int i1, .int i2] w38 (none, w42) ∧ r = (some (.int (1 : Int32)), w42))) : xGo 32 0 [some (.ref a0), some (.int i1), some (.int i2), none] [] w r := by
  refine g_aloadn (pc' := 1) d_32_0 rfl rfl ?_
  refine g_iloadn (pc' := 2) d_32_1 rfl rfl ?_
  refine g_iloadn (pc' := 3) d_32_2 rfl rfl ?_
  obtain ⟨fs1, hw2, h⟩ := h
  obtain ⟨w3, hk4, h⟩ := h
  refine g_callV (pc' := 6) d_32_3 rfl st_32_177 na_33 ml_33 rfl rfl rfl rm_32_33 rfl rfl ow_33 hw2 hk4 ?_
  refine g_aloadn (pc' := 7) d_32_6 rfl rfl ?_
  obtain ⟨fs5, hw6, h⟩ := h
  obtain ⟨b7, hv8, h⟩ := h
  refine g_getf (pc' := 10) d_32_7 rfl st_32_39 hw6 hv8 ?_
  refine g_iloadn (pc' := 11) d_32_10 rfl rfl ?_
  refine g_aloadn (pc' := 12) d_32_11 rfl rfl ?_
  obtain ⟨b9, hv10, h⟩ := h
  refine g_getf (pc' := 15) d_32_12 rfl st_32_95 hw6 hv10 ?_
  obtain ⟨fs11, hw12, h⟩ := h
  obtain ⟨r15, w13, hk14, h⟩ := h
  refine g_callV (pc' := 18) d_32_15 rfl st_32_180 na_56 ml_56 rfl rfl rfl rm_32_56 rfl rfl ow_56 hw12 hk14 ?_
  refine g_if_ne (pc' := 21) (pt := 25) d_32_18 (by decide) rfl (fun c => ?_) (fun c => ?_)
  · replace h := h.1 c
    refine g_iconst (pc' := 26) d_32_25 rfl ci_0 ?_
    refine g_istoren (pc' := 27) (l' := [some (.ref a0), some (.int i1), some (.int i2), some (.int (0 : Int32))]) d_32_26 rfl ml_32 rfl rfl ?_
    refine g_aloadn (pc' := 28) d_32_27 rfl rfl ?_
    obtain ⟨fs16, hw17, h⟩ := h
    obtain ⟨b18, hv19, h⟩ := h
    refine g_getf (pc' := 31) d_32_28 rfl st_32_39 hw17 hv19 ?_
    refine g_iloadn (pc' := 32) d_32_31 rfl rfl ?_
    refine g_aloadn (pc' := 33) d_32_32 rfl rfl ?_
    obtain ⟨b20, hv21, h⟩ := h
    refine g_getf (pc' := 36) d_32_33 rfl st_32_95 hw17 hv21 ?_
    obtain ⟨fs22, hw23, h⟩ := h
    obtain ⟨w24, hk25, h⟩ := h
    refine g_callV (pc' := 39) d_32_36 rfl st_32_114 na_20 ml_20 rfl rfl rfl rm_32_20 rfl rfl ow_20 hw23 hk25 ?_
    refine g_aloadn (pc' := 40) d_32_39 rfl rfl ?_
    refine g_iloadn (pc' := 41) d_32_40 rfl rfl ?_
    refine g_iloadn (pc' := 42) d_32_41 rfl rfl ?_
    obtain ⟨fs26, hw27, h⟩ := h
    obtain ⟨w28, hk29, h⟩ := h
    refine g_callV (pc' := 45) d_32_42 rfl st_32_138 na_57 ml_57 rfl rfl rfl rm_32_57 rfl rfl ow_57 hw27 hk29 ?_
    refine g_iloadn (pc' := 46) d_32_45 rfl rfl ?_
    exact g_zret d_32_46 rt_32 (Or.inl rfl) h
  · replace h := h.2 c
    refine g_iconst (pc' := 22) d_32_21 rfl ci_1 ?_
    refine g_goto (pt := 26) d_32_22 (by decide) ?_
    refine g_istoren (pc' := 27) (l' := [some (.ref a0), some (.int i1), some (.int i2), some (.int (1 : Int32))]) d_32_26 rfl ml_32 rfl rfl ?_
    refine g_aloadn (pc' := 28) d_32_27 rfl rfl ?_
    obtain ⟨fs30, hw31, h⟩ := h
    obtain ⟨b32, hv33, h⟩ := h
    refine g_getf (pc' := 31) d_32_28 rfl st_32_39 hw31 hv33 ?_
    refine g_iloadn (pc' := 32) d_32_31 rfl rfl ?_
    refine g_aloadn (pc' := 33) d_32_32 rfl rfl ?_
    obtain ⟨b34, hv35, h⟩ := h
    refine g_getf (pc' := 36) d_32_33 rfl st_32_95 hw31 hv35 ?_
    obtain ⟨fs36, hw37, h⟩ := h
    obtain ⟨w38, hk39, h⟩ := h
    refine g_callV (pc' := 39) d_32_36 rfl st_32_114 na_20 ml_20 rfl rfl rfl rm_32_20 rfl rfl ow_20 hw37 hk39 ?_
    refine g_aloadn (pc' := 40) d_32_39 rfl rfl ?_
    refine g_iloadn (pc' := 41) d_32_40 rfl rfl ?_
    refine g_iloadn (pc' := 42) d_32_41 rfl rfl ?_
    obtain ⟨fs40, hw41, h⟩ := h
    obtain ⟨w42, hk43, h⟩ := h
    refine g_callV (pc' := 45) d_32_42 rfl st_32_138 na_57 ml_57 rfl rfl rfl rm_32_57 rfl rfl ow_57 hw41 hk43 ?_
    refine g_iloadn (pc' := 46) d_32_45 rfl rfl ?_
    exact g_zret d_32_46 rt_32 (Or.inr rfl) h
-- 33 BernoulliWays.work(II)V
theorem S_33_0 {a0 : Nat} {i1 : Int32} {i2 : Int32} {w : xW} {r : Option Value × xW} (h : (¬ i2 = 0 → (¬ i2 = (1 : Int32) → ∃ fs1, w[a0]? = some (.inr (0, fs1)) ∧ ∃ w3, xCall 46 [.ref a0, .int i1] w (none, w3) ∧ r = (none, w3)) ∧ (¬ (¬ i2 = (1 : Int32)) → ∃ fs5, w[a0]? = some (.inr (0, fs5)) ∧ ∃ w7, xCall 45 [.ref a0, .int i1] w (none, w7) ∧ r = (none, w7))) ∧ (¬ (¬ i2 = 0) → ∃ fs9, w[a0]? = some (.inr (0, fs9)) ∧ ∃ w11, xCall 34 [.ref a0, .int i1] w (none, w11) ∧ r = (none, w11))) : xGo 33 0 [some (.ref a0), some (.int i1), some (.int i2)] [] w r := by
  refine g_iloadn (pc' := 1) d_33_0 rfl rfl ?_
  refine g_if_ne (pc' := 4) (pt := 12) d_33_1 (by decide) rfl (fun c => ?_) (fun c => ?_)
  · replace h := h.1 c
    refine g_iloadn (pc' := 13) d_33_12 rfl rfl ?_
    refine g_iconst (pc' := 14) d_33_13 rfl ci_1 ?_
    refine g_ic_ne (pc' := 17) (pt := 25) d_33_14 (by decide) rfl (fun c => ?_) (fun c => ?_)
    · replace h := h.1 c
      refine g_aloadn (pc' := 26) d_33_25 rfl rfl ?_
      refine g_iloadn (pc' := 27) d_33_26 rfl rfl ?_
      obtain ⟨fs1, hw2, h⟩ := h
      obtain ⟨w3, hk4, h⟩ := h
      refine g_callV (pc' := 30) d_33_27 rfl st_33_428 na_46 ml_46 rfl rfl rfl rm_33_46 rfl rfl ow_46 hw2 hk4 ?_
      exact g_vret d_33_30 rt_33 h
    · replace h := h.2 c
      refine g_aloadn (pc' := 18) d_33_17 rfl rfl ?_
      refine g_iloadn (pc' := 19) d_33_18 rfl rfl ?_
      obtain ⟨fs5, hw6, h⟩ := h
      obtain ⟨w7, hk8, h⟩ := h
      refine g_callV (pc' := 22) d_33_19 rfl st_33_425 na_45 ml_45 rfl rfl rfl rm_33_45 rfl rfl ow_45 hw6 hk8 ?_
      refine g_goto (pt := 30) d_33_22 (by decide) ?_
      exact g_vret d_33_30 rt_33 h
  · replace h := h.2 c
    refine g_aloadn (pc' := 5) d_33_4 rfl rfl ?_
    refine g_iloadn (pc' := 6) d_33_5 rfl rfl ?_
    obtain ⟨fs9, hw10, h⟩ := h
    obtain ⟨w11, hk12, h⟩ := h
    refine g_callV (pc' := 9) d_33_6 rfl st_33_422 na_34 ml_34 rfl rfl rfl rm_33_34 rfl rfl ow_34 hw10 hk12 ?_
    refine g_goto (pt := 30) d_33_9 (by decide) ?_
    exact g_vret d_33_30 rt_33 h
-- 34 BernoulliWays.workRecurrence(I)V
theorem S_34_0 {a0 : Nat} {i1 : Int32} {w : xW} {r : Option Value × xW} (h : ((1 : Int32) ≤ i1 → ∃ fs1, w[a0]? = some (.inr (0, fs1)) ∧ ∃ b3, fs1[8]? = some (.ref b3) ∧ ∃ fs5, w[b3]? = some (.inr (6, fs5)) ∧ ∃ w7, xCall 36 [.ref b3, .int i1, .int (i1 - (1 : Int32))] w (none, w7) ∧ ∃ fs9, w7[a0]? = some (.inr (0, fs9)) ∧ ∃ b11, fs9[1]? = some (.ref b11) ∧ ∃ b13, fs9[13]? = some (.ref b13) ∧ ∃ fs15, w7[b11]? = some (.inr (2, fs15)) ∧ ∃ w17, xCall 42 [.ref b11, .ref b13] w7 (none, w17) ∧ ∃ fs19, w17[a0]? = some (.inr (0, fs19)) ∧ ∃ b21, fs19[13]? = some (.ref b21) ∧ ∃ fs23, w17[b21]? = some (.inr (5, fs23)) ∧ ∃ w25, xCall 43 [.ref b21, .long (-1 : Int64)] w17 (none, w25) ∧ ∃ fs27, w25[a0]? = some (.inr (0, fs27)) ∧ ∃ b29, fs27[13]? = some (.ref b29) ∧ ∃ fs31, w25[b29]? = some (.inr (5, fs31)) ∧ ∃ w33, xCall 44 [.ref b29, .long ((i1 + (1 : Int32)).toInt64)] w25 (none, w33) ∧ r = (none, w33)) ∧ (¬ ((1 : Int32) ≤ i1) → ∃ fs35, w[a0]? = some (.inr (0, fs35)) ∧ ∃ w37, xCall 35 [.ref a0, .int i1] w (none, w37) ∧ r = (none, w37))) : xGo 34 0 [some (.ref a0), some (.int i1)] [] w r := by
  refine g_iloadn (pc' := 1) d_34_0 rfl rfl ?_
  refine g_iconst (pc' := 2) d_34_1 rfl ci_1 ?_
  refine g_ic_ge (pc' := 5) (pt := 11) d_34_2 (by decide) rfl (fun c => ?_) (fun c => ?_)
  · replace h := h.1 c
    refine g_aloadn (pc' := 12) d_34_11 rfl rfl ?_
    obtain ⟨fs1, hw2, h⟩ := h
    obtain ⟨b3, hv4, h⟩ := h
    refine g_getf (pc' := 15) d_34_12 rfl st_34_58 hw2 hv4 ?_
    refine g_iloadn (pc' := 16) d_34_15 rfl rfl ?_
    refine g_iloadn (pc' := 17) d_34_16 rfl rfl ?_
    refine g_iconst (pc' := 18) d_34_17 rfl ci_1 ?_
    refine g_isub (pc' := 19) d_34_18 rfl ?_
    obtain ⟨fs5, hw6, h⟩ := h
    obtain ⟨w7, hk8, h⟩ := h
    refine g_callV (pc' := 22) d_34_19 rfl st_34_281 na_36 ml_36 rfl rfl rfl rm_34_36 rfl rfl ow_36 hw6 hk8 ?_
    refine g_aloadn (pc' := 23) d_34_22 rfl rfl ?_
    obtain ⟨fs9, hw10, h⟩ := h
    obtain ⟨b11, hv12, h⟩ := h
    refine g_getf (pc' := 26) d_34_23 rfl st_34_21 hw10 hv12 ?_
    refine g_aloadn (pc' := 27) d_34_26 rfl rfl ?_
    obtain ⟨b13, hv14, h⟩ := h
    refine g_getf (pc' := 30) d_34_27 rfl st_34_95 hw10 hv14 ?_
    obtain ⟨fs15, hw16, h⟩ := h
    obtain ⟨w17, hk18, h⟩ := h
    refine g_callV (pc' := 33) d_34_30 rfl st_34_214 na_42 ml_42 rfl rfl rfl rm_34_42 rfl rfl ow_42 hw16 hk18 ?_
    refine g_aloadn (pc' := 34) d_34_33 rfl rfl ?_
    obtain ⟨fs19, hw20, h⟩ := h
    obtain ⟨b21, hv22, h⟩ := h
    refine g_getf (pc' := 37) d_34_34 rfl st_34_95 hw20 hv22 ?_
    refine g_ldc2 (pc' := 40) d_34_37 rfl st_34_387 cL_m1 ?_
    obtain ⟨fs23, hw24, h⟩ := h
    obtain ⟨w25, hk26, h⟩ := h
    refine g_callV (pc' := 43) d_34_40 rfl st_34_339 na_43 ml_43 rfl rfl rfl rm_34_43 rfl rfl ow_43 hw24 hk26 ?_
    refine g_aloadn (pc' := 44) d_34_43 rfl rfl ?_
    obtain ⟨fs27, hw28, h⟩ := h
    obtain ⟨b29, hv30, h⟩ := h
    refine g_getf (pc' := 47) d_34_44 rfl st_34_95 hw28 hv30 ?_
    refine g_iloadn (pc' := 48) d_34_47 rfl rfl ?_
    refine g_iconst (pc' := 49) d_34_48 rfl ci_1 ?_
    refine g_iadd (pc' := 50) d_34_49 rfl ?_
    refine g_i2l (pc' := 51) d_34_50 rfl ?_
    obtain ⟨fs31, hw32, h⟩ := h
    obtain ⟨w33, hk34, h⟩ := h
    refine g_callV (pc' := 54) d_34_51 rfl st_34_342 na_44 ml_44 rfl rfl rfl rm_34_44 rfl rfl ow_44 hw32 hk34 ?_
    exact g_vret d_34_54 rt_34 h
  · replace h := h.2 c
    refine g_aloadn (pc' := 6) d_34_5 rfl rfl ?_
    refine g_iloadn (pc' := 7) d_34_6 rfl rfl ?_
    obtain ⟨fs35, hw36, h⟩ := h
    obtain ⟨w37, hk38, h⟩ := h
    refine g_callV (pc' := 10) d_34_7 rfl st_34_431 na_35 ml_35 rfl rfl rfl rm_34_35 rfl rfl ow_35 hw36 hk38 ?_
    exact g_vret d_34_10 rt_34 h
-- 35 BernoulliWays.workAsTold(I)V
theorem S_35_0 {a0 : Nat} {i1 : Int32} {w : xW} {r : Option Value × xW} (h : (¬ i1 = 0 → (¬ i1 = (1 : Int32) → ∃ fs1, w[a0]? = some (.inr (0, fs1)) ∧ ∃ b3, fs1[13]? = some (.ref b3) ∧ ∃ fs5, w[b3]? = some (.inr (5, fs5)) ∧ ∃ w7, xCall 16 [.ref b3, .long (0 : Int64), .long (0 : Int64), .long (1 : Int64)] w (none, w7) ∧ r = (none, w7)) ∧ (¬ (¬ i1 = (1 : Int32)) → ∃ fs9, w[a0]? = some (.inr (0, fs9)) ∧ ∃ b11, fs9[13]? = some (.ref b11) ∧ ∃ fs13, w[b11]? = some (.inr (5, fs13)) ∧ ∃ w15, xCall 16 [.ref b11, .long (0 : Int64), .long (-1 : Int64), .long (2 : Int64)] w (none, w15) ∧ r = (none, w15))) ∧ (¬ (¬ i1 = 0) → ∃ fs17, w[a0]? = some (.inr (0, fs17)) ∧ ∃ b19, fs17[13]? = some (.ref b19) ∧ ∃ fs21, w[b19]? = some (.inr (5, fs21)) ∧ ∃ w23, xCall 16 [.ref b19, .long (1 : Int64), .long (0 : Int64), .long (1 : Int64)] w (none, w23) ∧ r = (none, w23))) : xGo 35 0 [some (.ref a0), some (.int i1)] [] w r := by
  refine g_iloadn (pc' := 1) d_35_0 rfl rfl ?_
  refine g_if_ne (pc' := 4) (pt := 17) d_35_1 (by decide) rfl (fun c => ?_) (fun c => ?_)
  · replace h := h.1 c
    refine g_iloadn (pc' := 18) d_35_17 rfl rfl ?_
    refine g_iconst (pc' := 19) d_35_18 rfl ci_1 ?_
    refine g_ic_ne (pc' := 22) (pt := 39) d_35_19 (by decide) rfl (fun c => ?_) (fun c => ?_)
    · replace h := h.1 c
      refine g_aloadn (pc' := 40) d_35_39 rfl rfl ?_
      obtain ⟨fs1, hw2, h⟩ := h
      obtain ⟨b3, hv4, h⟩ := h
      refine g_getf (pc' := 43) d_35_40 rfl st_35_95 hw2 hv4 ?_
      refine g_lconst (pc' := 44) d_35_43 rfl cl_0 ?_
      refine g_lconst (pc' := 45) d_35_44 rfl cl_0 ?_
      refine g_lconst (pc' := 46) d_35_45 rfl cl_1 ?_
      obtain ⟨fs5, hw6, h⟩ := h
      obtain ⟨w7, hk8, h⟩ := h
      refine g_callV (pc' := 49) d_35_46 rfl st_35_327 na_16 ml_16 rfl rfl rfl rm_35_16 rfl rfl ow_16 hw6 hk8 ?_
      exact g_vret d_35_49 rt_35 h
    · replace h := h.2 c
      refine g_aloadn (pc' := 23) d_35_22 rfl rfl ?_
      obtain ⟨fs9, hw10, h⟩ := h
      obtain ⟨b11, hv12, h⟩ := h
      refine g_getf (pc' := 26) d_35_23 rfl st_35_95 hw10 hv12 ?_
      refine g_lconst (pc' := 27) d_35_26 rfl cl_0 ?_
      refine g_ldc2 (pc' := 30) d_35_27 rfl st_35_387 cL_m1 ?_
      refine g_ldc2 (pc' := 33) d_35_30 rfl st_35_389 cL_2 ?_
      obtain ⟨fs13, hw14, h⟩ := h
      obtain ⟨w15, hk16, h⟩ := h
      refine g_callV (pc' := 36) d_35_33 rfl st_35_327 na_16 ml_16 rfl rfl rfl rm_35_16 rfl rfl ow_16 hw14 hk16 ?_
      refine g_goto (pt := 49) d_35_36 (by decide) ?_
      exact g_vret d_35_49 rt_35 h
  · replace h := h.2 c
    refine g_aloadn (pc' := 5) d_35_4 rfl rfl ?_
    obtain ⟨fs17, hw18, h⟩ := h
    obtain ⟨b19, hv20, h⟩ := h
    refine g_getf (pc' := 8) d_35_5 rfl st_35_95 hw18 hv20 ?_
    refine g_lconst (pc' := 9) d_35_8 rfl cl_1 ?_
    refine g_lconst (pc' := 10) d_35_9 rfl cl_0 ?_
    refine g_lconst (pc' := 11) d_35_10 rfl cl_1 ?_
    obtain ⟨fs21, hw22, h⟩ := h
    obtain ⟨w23, hk24, h⟩ := h
    refine g_callV (pc' := 14) d_35_11 rfl st_35_327 na_16 ml_16 rfl rfl rfl rm_35_16 rfl rfl ow_16 hw22 hk24 ?_
    refine g_goto (pt := 49) d_35_14 (by decide) ?_
    exact g_vret d_35_49 rt_35 h
-- 36 BernoulliWays$Checks.addUp(II)V
theorem S_36_0 {a0 : Nat} {i1 : Int32} {i2 : Int32} {w : xW} {r : Option Value × xW} (h : ∃ fs1, w[a0]? = some (.inr (6, fs1)) ∧ ∃ b3, fs1[2]? = some (.ref b3) ∧ ∃ fs5, w[b3]? = some (.inr (2, fs5)) ∧ ∃ w7, xCall 37 [.ref b3, .long (7420738134810 : Int64)] w (none, w7) ∧ xGo 36 12 [some (.ref a0), some (.int i1), some (.int i2), some (.int (0 : Int32))] [] w7 r) : xGo 36 0 [some (.ref a0), some (.int i1), some (.int i2), none] [] w r := by
  refine g_aloadn (pc' := 1) d_36_0 rfl rfl ?_
  obtain ⟨fs1, hw2, h⟩ := h
  obtain ⟨b3, hv4, h⟩ := h
  refine g_getf (pc' := 4) d_36_1 rfl st_36_19 hw2 hv4 ?_
  refine g_ldc2 (pc' := 7) d_36_4 rfl st_36_48 cL_7420738134810 ?_
  obtain ⟨fs5, hw6, h⟩ := h
  obtain ⟨w7, hk8, h⟩ := h
  refine g_callV (pc' := 10) d_36_7 rfl st_36_50 na_37 ml_37 rfl rfl rfl rm_36_37 rfl rfl ow_37 hw6 hk8 ?_
  refine g_iconst (pc' := 11) d_36_10 rfl ci_0 ?_
  refine g_istoren (pc' := 12) (l' := [some (.ref a0), some (.int i1), some (.int i2), some (.int (0 : Int32))]) d_36_11 rfl ml_36 rfl rfl ?_
  exact h
theorem S_36_12 {a0 : Nat} {i1 : Int32} {i2 : Int32} {i3 : Int32} {w : xW} {r : Option Value × xW} (h : (i2 < i3 → r = (none, w)) ∧ (¬ (i2 < i3) → ∃ fs1, w[a0]? = some (.inr (6, fs1)) ∧ ∃ b3, fs1[1]? = some (.ref b3) ∧ ∃ fs5, w[b3]? = some (.inr (1, fs5)) ∧ ∃ r9 w7, xCall 39 [.ref b3, .int (i1 + (1 : Int32)), .int i3] w (some (.long r9), w7) ∧ ∃ fs10, w7[a0]? = some (.inr (6, fs10)) ∧ ∃ w12, xCall 40 [.ref a0, .long r9, .int i3] w7 (none, w12) ∧ ∀ v14 : Int32, v14 = i3 + (1 : Int32) → xGo 36 12 [some (.ref a0), some (.int i1), some (.int i2), some (.int v14)] [] w12 r)) : xGo 36 12 [some (.ref a0), some (.int i1), some (.int i2), some (.int i3)] [] w r := by
  refine g_iloadn (pc' := 13) d_36_12 rfl rfl ?_
  refine g_iloadn (pc' := 14) d_36_13 rfl rfl ?_
  refine g_ic_gt (pc' := 17) (pt := 39) d_36_14 (by decide) rfl (fun c => ?_) (fun c => ?_)
  · replace h := h.1 c
    exact g_vret d_36_39 rt_36 h
  · replace h := h.2 c
    refine g_aloadn (pc' := 18) d_36_17 rfl rfl ?_
    refine g_aloadn (pc' := 19) d_36_18 rfl rfl ?_
    obtain ⟨fs1, hw2, h⟩ := h
    obtain ⟨b3, hv4, h⟩ := h
    refine g_getf (pc' := 22) d_36_19 rfl st_36_15 hw2 hv4 ?_
    refine g_iloadn (pc' := 23) d_36_22 rfl rfl ?_
    refine g_iconst (pc' := 24) d_36_23 rfl ci_1 ?_
    refine g_iadd (pc' := 25) d_36_24 rfl ?_
    refine g_iloadn (pc' := 26) d_36_25 rfl rfl ?_
    obtain ⟨fs5, hw6, h⟩ := h
    obtain ⟨r9, w7, hk8, h⟩ := h
    refine g_callV (pc' := 29) d_36_26 rfl st_36_56 na_39 ml_39 rfl rfl rfl rm_36_39 rfl rfl ow_39 hw6 hk8 ?_
    refine g_iloadn (pc' := 30) d_36_29 rfl rfl ?_
    obtain ⟨fs10, hw11, h⟩ := h
    obtain ⟨w12, hk13, h⟩ := h
    refine g_callV (pc' := 33) d_36_30 rfl st_36_62 na_40 ml_40 rfl rfl rfl rm_36_40 rfl rfl ow_40 hw11 hk13 ?_
    have h := h _ rfl
    refine g_iinc (pc' := 36) (l' := [some (.ref a0), some (.int i1), some (.int i2), some (.int (i3 + (1 : Int32)))]) d_36_33 rfl rfl ci_1 ml_36 rfl rfl ?_
    refine g_goto (pt := 12) d_36_36 (by decide) ?_
    exact h
-- 37 BernoulliWays$Total.begin(J)V
theorem S_37_0 {a0 : Nat} {l1 : Int64} {w : xW} {r : Option Value × xW} (h : ∃ r3 w1, xCall 38 [.long l1, .long (1 : Int64)] w (some (.long r3), w1) ∧ ∃ fs4, w1[a0]? = some (.inr (2, fs4)) ∧ (0 < fs4.length) ∧ ∀ w7, w7 = w1.set a0 (.inr (2, fs4.set 0 (.long r3))) → (1 < (fs4.set 0 (.long r3)).length) ∧ ∀ w9, w9 = w7.set a0 (.inr (2, (fs4.set 0 (.long r3)).set 1 (.long (0 : Int64)))) → (2 < ((fs4.set 0 (.long r3)).set 1 (.long (0 : Int64))).length) ∧ ∀ w11, w11 = w9.set a0 (.inr (2, ((fs4.set 0 (.long r3)).set 1 (.long (0 : Int64))).set 2 (.long (0 : Int64)))) → r = (none, w11)) : xGo 37 0 [some (.ref a0), some (.long l1), none] [] w r := by
  refine g_aloadn (pc' := 1) d_37_0 rfl rfl ?_
  refine g_lloadn (pc' := 2) d_37_1 rfl rfl ?_
  refine g_lconst (pc' := 3) d_37_2 rfl cl_1 ?_
  obtain ⟨r3, w1, hk2, h⟩ := h
  refine g_callS (pc' := 6) d_37_3 rfl st_37_13 (Or.inl rfl) na_38 ml_38 rfl rfl rfl rm_37_38 rfl rfl hk2 ?_
  obtain ⟨fs4, hw5, h⟩ := h
  obtain ⟨hc6, h⟩ := h
  have h := h _ rfl
  refine g_putf (pc' := 9) d_37_6 rfl st_37_7 ft_2_0 ff_2_0 rfl (Or.inl rfl) hw5 hc6 ?_
  refine g_aloadn (pc' := 10) d_37_9 rfl rfl ?_
  refine g_lconst (pc' := 11) d_37_10 rfl cl_0 ?_
  obtain ⟨hc8, h⟩ := h
  have h := h _ rfl
  refine g_putf (pc' := 14) d_37_11 rfl st_37_19 ft_2_1 ff_2_1 rfl (Or.inl rfl) (x_gss hw5) hc8 ?_
  refine g_aloadn (pc' := 15) d_37_14 rfl rfl ?_
  refine g_lconst (pc' := 16) d_37_15 rfl cl_0 ?_
  obtain ⟨hc10, h⟩ := h
  have h := h _ rfl
  refine g_putf (pc' := 19) d_37_16 rfl st_37_22 ft_2_2 ff_2_2 rfl (Or.inl rfl) (x_gss (x_gss hw5)) hc10 ?_
  exact g_vret d_37_19 rt_37 h
-- 38 java/lang/Math.max(JJ)J
theorem S_38_0 {l0 : Int64} {l2 : Int64} {w : xW} {r : Option Value × xW} (h : (l0 < l2 → r = (some (.long l2), w)) ∧ (¬ (l0 < l2) → r = (some (.long l0), w))) : xGo 38 0 [some (.long l0), none, some (.long l2), none] [] w r := by
  refine g_lloadn (pc' := 1) d_38_0 rfl rfl ?_
  refine g_lloadn (pc' := 2) d_38_1 rfl rfl ?_
  refine g_lc_lt (pc' := 6) (pm := 3) (pt := 10) d_38_2 rfl d_38_3 (by decide) rfl (fun c => ?_) (fun c => ?_)
  · replace h := h.1 c
    refine g_lloadn (pc' := 11) d_38_10 rfl rfl ?_
    exact g_lret d_38_11 rt_38 h
  · replace h := h.2 c
    refine g_lloadn (pc' := 7) d_38_6 rfl rfl ?_
    refine g_goto (pt := 11) d_38_7 (by decide) ?_
    exact g_lret d_38_11 rt_38 h
-- 39 BernoulliWays$Choose.of(II)J
theorem S_39_0 {a0 : Nat} {i1 : Int32} {i2 : Int32} {w : xW} {r : Option Value × xW} (h : (i1 < 0 → r = (some (.long (0 : Int64)), w)) ∧ (¬ (i1 < 0) → ((42 : Int32) ≤ i1 → r = (some (.long (0 : Int64)), w)) ∧ (¬ ((42 : Int32) ≤ i1) → (i2 < 0 → r = (some (.long (0 : Int64)), w)) ∧ (¬ (i2 < 0) → ((42 : Int32) ≤ i2 → r = (some (.long (0 : Int64)), w)) ∧ (¬ ((42 : Int32) ≤ i2) → ∃ fs1, w[a0]? = some (.inr (1, fs1)) ∧ ∃ b3, fs1[0]? = some (.ref b3) ∧ ∃ n5 f6, w[b3]? = some (.inl (.inr (n5, f6))) ∧ (¬ (((i1 * (42 : Int32)) + i2) < 0 ∨ n5 ≤ ((i1 * (42 : Int32)) + i2).toNatClampNeg)) ∧ r = (some (.long (f6 ((i1 * (42 : Int32)) + i2).toNatClampNeg)), w)))))) : xGo 39 0 [some (.ref a0), some (.int i1), some (.int i2)] [] w r := by
  refine g_iloadn (pc' := 1) d_39_0 rfl rfl ?_
  refine g_if_lt (pc' := 4) (pt := 34) d_39_1 (by decide) rfl (fun c => ?_) (fun c => ?_)
  · replace h := h.1 c
    refine g_lconst (pc' := 35) d_39_34 rfl cl_0 ?_
    exact g_lret d_39_35 rt_39 h
  · replace h := h.2 c
    refine g_iloadn (pc' := 5) d_39_4 rfl rfl ?_
    refine g_bipush (pc' := 7) d_39_5 rfl cb_42 ?_
    refine g_ic_ge (pc' := 10) (pt := 34) d_39_7 (by decide) rfl (fun c => ?_) (fun c => ?_)
    · replace h := h.1 c
      refine g_lconst (pc' := 35) d_39_34 rfl cl_0 ?_
      exact g_lret d_39_35 rt_39 h
    · replace h := h.2 c
      refine g_iloadn (pc' := 11) d_39_10 rfl rfl ?_
      refine g_if_lt (pc' := 14) (pt := 34) d_39_11 (by decide) rfl (fun c => ?_) (fun c => ?_)
      · replace h := h.1 c
        refine g_lconst (pc' := 35) d_39_34 rfl cl_0 ?_
        exact g_lret d_39_35 rt_39 h
      · replace h := h.2 c
        refine g_iloadn (pc' := 15) d_39_14 rfl rfl ?_
        refine g_bipush (pc' := 17) d_39_15 rfl cb_42 ?_
        refine g_ic_ge (pc' := 20) (pt := 34) d_39_17 (by decide) rfl (fun c => ?_) (fun c => ?_)
        · replace h := h.1 c
          refine g_lconst (pc' := 35) d_39_34 rfl cl_0 ?_
          exact g_lret d_39_35 rt_39 h
        · replace h := h.2 c
          refine g_aloadn (pc' := 21) d_39_20 rfl rfl ?_
          obtain ⟨fs1, hw2, h⟩ := h
          obtain ⟨b3, hv4, h⟩ := h
          refine g_getf (pc' := 24) d_39_21 rfl st_39_11 hw2 hv4 ?_
          refine g_iloadn (pc' := 25) d_39_24 rfl rfl ?_
          refine g_bipush (pc' := 27) d_39_25 rfl cb_42 ?_
          refine g_imul (pc' := 28) d_39_27 rfl ?_
          refine g_iloadn (pc' := 29) d_39_28 rfl rfl ?_
          refine g_iadd (pc' := 30) d_39_29 rfl ?_
          obtain ⟨n5, f6, hw7, h⟩ := h
          obtain ⟨hc8, h⟩ := h
          refine g_lald (pc' := 31) d_39_30 rfl hw7 hc8 ?_
          refine g_goto (pt := 35) d_39_31 (by decide) ?_
          exact g_lret d_39_35 rt_39 h
-- 40 BernoulliWays$Checks.addEntry(JI)V
theorem S_40_0 {a0 : Nat} {l1 : Int64} {i3 : Int32} {w : xW} {r : Option Value × xW} (h : ∃ fs1, w[a0]? = some (.inr (6, fs1)) ∧ ∃ b3, fs1[2]? = some (.ref b3) ∧ ∃ b5, fs1[0]? = some (.ref b5) ∧ ∃ fs7, w[b5]? = some (.inr (4, fs7)) ∧ ∃ r11 w9, xCall 29 [.ref b5, .int i3] w (some (.long r11), w9) ∧ ∃ fs12, w9[a0]? = some (.inr (6, fs12)) ∧ ∃ b14, fs12[0]? = some (.ref b14) ∧ ∃ fs16, w9[b14]? = some (.inr (4, fs16)) ∧ ∃ r20 w18, xCall 30 [.ref b14, .int i3] w9 (some (.long r20), w18) ∧ ∃ fs21, w18[a0]? = some (.inr (6, fs21)) ∧ ∃ b23, fs21[0]? = some (.ref b23) ∧ ∃ fs25, w18[b23]? = some (.inr (4, fs25)) ∧ ∃ r29 w27, xCall 31 [.ref b23, .int i3] w18 (some (.long r29), w27) ∧ ∃ fs30, w27[b3]? = some (.inr (2, fs30)) ∧ ∃ w32, xCall 41 [.ref b3, .long l1, .long r11, .long r20, .long r29] w27 (none, w32) ∧ r = (none, w32)) : xGo 40 0 [some (.ref a0), some (.long l1), none, some (.int i3)] [] w r := by
  refine g_aloadn (pc' := 1) d_40_0 rfl rfl ?_
  obtain ⟨fs1, hw2, h⟩ := h
  obtain ⟨b3, hv4, h⟩ := h
  refine g_getf (pc' := 4) d_40_1 rfl st_40_19 hw2 hv4 ?_
  refine g_lloadn (pc' := 5) d_40_4 rfl rfl ?_
  refine g_aloadn (pc' := 6) d_40_5 rfl rfl ?_
  obtain ⟨b5, hv6, h⟩ := h
  refine g_getf (pc' := 9) d_40_6 rfl st_40_9 hw2 hv6 ?_
  refine g_iloadn (pc' := 10) d_40_9 rfl rfl ?_
  obtain ⟨fs7, hw8, h⟩ := h
  obtain ⟨r11, w9, hk10, h⟩ := h
  refine g_callV (pc' := 13) d_40_10 rfl st_40_91 na_29 ml_29 rfl rfl rfl rm_40_29 rfl rfl ow_29 hw8 hk10 ?_
  refine g_aloadn (pc' := 14) d_40_13 rfl rfl ?_
  obtain ⟨fs12, hw13, h⟩ := h
  obtain ⟨b14, hv15, h⟩ := h
  refine g_getf (pc' := 17) d_40_14 rfl st_40_9 hw13 hv15 ?_
  refine g_iloadn (pc' := 18) d_40_17 rfl rfl ?_
  obtain ⟨fs16, hw17, h⟩ := h
  obtain ⟨r20, w18, hk19, h⟩ := h
  refine g_callV (pc' := 21) d_40_18 rfl st_40_94 na_30 ml_30 rfl rfl rfl rm_40_30 rfl rfl ow_30 hw17 hk19 ?_
  refine g_aloadn (pc' := 22) d_40_21 rfl rfl ?_
  obtain ⟨fs21, hw22, h⟩ := h
  obtain ⟨b23, hv24, h⟩ := h
  refine g_getf (pc' := 25) d_40_22 rfl st_40_9 hw22 hv24 ?_
  refine g_iloadn (pc' := 26) d_40_25 rfl rfl ?_
  obtain ⟨fs25, hw26, h⟩ := h
  obtain ⟨r29, w27, hk28, h⟩ := h
  refine g_callV (pc' := 29) d_40_26 rfl st_40_87 na_31 ml_31 rfl rfl rfl rm_40_31 rfl rfl ow_31 hw26 hk28 ?_
  obtain ⟨fs30, hw31, h⟩ := h
  obtain ⟨w32, hk33, h⟩ := h
  refine g_callV (pc' := 32) d_40_29 rfl st_40_100 na_41 ml_41 rfl rfl rfl rm_40_41 rfl rfl ow_41 hw31 hk33 ?_
  exact g_vret d_40_32 rt_40 h
-- 41 BernoulliWays$Total.add(JJJJ)V
theorem S_41_0 {a0 : Nat} {l1 : Int64} {l3 : Int64} {l5 : Int64} {l7 : Int64} {w : xW} {r : Option Value × xW} (h : ((0 : Int64) < l7 → ∀ v1 : Int64, v1 = (l1 * l5) → ∃ fs2, w[a0]? = some (.inr (2, fs2)) ∧ ∃ x4, fs2[1]? = some (.long x4) ∧ ∃ r8 w6, xCall 19 [.long v1, .long l7] w (some (.long r8), w6) ∧ ∃ fs9, w6[a0]? = some (.inr (2, fs9)) ∧ ∀ v11 : Int64, v11 = (x4 + ((l1 * l3) + r8)) → (1 < fs9.length) ∧ ∀ w13, w13 = w6.set a0 (.inr (2, fs9.set 1 (.long v11))) → ∃ x14, (fs9.set 1 (.long v11))[2]? = some (.long x14) ∧ ∃ r18 w16, xCall 17 [.long v1, .long l7] w13 (some (.long r18), w16) ∧ ∃ fs19, w16[a0]? = some (.inr (2, fs19)) ∧ ∃ x21, fs19[0]? = some (.long x21) ∧ (¬ l7 = 0) ∧ ∀ v24 : Int64, v24 = (x14 + (r18 * (x21 / l7))) → (2 < fs19.length) ∧ ∀ w26, w26 = w16.set a0 (.inr (2, fs19.set 2 (.long v24))) → ∃ x27, (fs19.set 2 (.long v24))[2]? = some (.long x27) ∧ ∃ x29, (fs19.set 2 (.long v24))[0]? = some (.long x29) ∧ (x27 < x29 → r = (none, w26)) ∧ (¬ (x27 < x29) → ∀ v31 : Int64, v31 = (x27 - x29) → (2 < (fs19.set 2 (.long v24)).length) ∧ ∀ w33, w33 = w26.set a0 (.inr (2, (fs19.set 2 (.long v24)).set 2 (.long v31))) → ∃ x34, ((fs19.set 2 (.long v24)).set 2 (.long v31))[1]? = some (.long x34) ∧ ∀ v36 : Int64, v36 = (x34 + (1 : Int64)) → (1 < ((fs19.set 2 (.long v24)).set 2 (.long v31)).length) ∧ ∀ w38, w38 = w33.set a0 (.inr (2, ((fs19.set 2 (.long v24)).set 2 (.long v31)).set 1 (.long v36))) → r = (none, w38))) ∧ (¬ ((0 : Int64) < l7) → r = (none, w))) : xGo 41 0 [some (.ref a0), some (.long l1), none, some (.long l3), none, some (.long l5), none, some (.long l7), none, none, none] [] w r := by
  refine g_lload (pc' := 2) d_41_0 rfl rfl ?_
  refine g_lconst (pc' := 3) d_41_2 rfl cl_0 ?_
  refine g_lc_gt (pc' := 7) (pm := 4) (pt := 8) d_41_3 rfl d_41_4 (by decide) rfl (fun c => ?_) (fun c => ?_)
  · replace h := h.1 c
    refine g_lloadn (pc' := 9) d_41_8 rfl rfl ?_
    refine g_lload (pc' := 11) d_41_9 rfl rfl ?_
    refine g_lmul (pc' := 12) d_41_11 rfl ?_
    have h := h _ rfl
    refine g_lstore (pc' := 14) (l' := [some (.ref a0), some (.long l1), none, some (.long l3), none, some (.long l5), none, some (.long l7), none, some (.long ((l1 * l5))), none]) d_41_12 rfl ml_41 rfl rfl ?_
    refine g_aloadn (pc' := 15) d_41_14 rfl rfl ?_
    refine g_dup (pc' := 16) d_41_15 rfl rfl ?_
    obtain ⟨fs2, hw3, h⟩ := h
    obtain ⟨x4, hv5, h⟩ := h
    refine g_getf (pc' := 19) d_41_16 rfl st_41_19 hw3 hv5 ?_
    refine g_lloadn (pc' := 20) d_41_19 rfl rfl ?_
    refine g_lloadn (pc' := 21) d_41_20 rfl rfl ?_
    refine g_lmul (pc' := 22) d_41_21 rfl ?_
    refine g_lload (pc' := 24) d_41_22 rfl rfl ?_
    refine g_lload (pc' := 26) d_41_24 rfl rfl ?_
    obtain ⟨r8, w6, hk7, h⟩ := h
    refine g_callS (pc' := 29) d_41_26 rfl st_41_25 (Or.inl rfl) na_19 ml_19 rfl rfl rfl rm_41_19 rfl rfl hk7 ?_
    refine g_ladd (pc' := 30) d_41_29 rfl ?_
    refine g_ladd (pc' := 31) d_41_30 rfl ?_
    obtain ⟨fs9, hw10, h⟩ := h
    have h := h _ rfl
    obtain ⟨hc12, h⟩ := h
    have h := h _ rfl
    refine g_putf (pc' := 34) d_41_31 rfl st_41_19 ft_2_1 ff_2_1 rfl (Or.inl rfl) hw10 hc12 ?_
    refine g_aloadn (pc' := 35) d_41_34 rfl rfl ?_
    refine g_dup (pc' := 36) d_41_35 rfl rfl ?_
    obtain ⟨x14, hv15, h⟩ := h
    refine g_getf (pc' := 39) d_41_36 rfl st_41_22 (x_gss hw10) hv15 ?_
    refine g_lload (pc' := 41) d_41_39 rfl rfl ?_
    refine g_lload (pc' := 43) d_41_41 rfl rfl ?_
    obtain ⟨r18, w16, hk17, h⟩ := h
    refine g_callS (pc' := 46) d_41_43 rfl st_41_28 (Or.inl rfl) na_17 ml_17 rfl rfl rfl rm_41_17 rfl rfl hk17 ?_
    refine g_aloadn (pc' := 47) d_41_46 rfl rfl ?_
    obtain ⟨fs19, hw20, h⟩ := h
    obtain ⟨x21, hv22, h⟩ := h
    refine g_getf (pc' := 50) d_41_47 rfl st_41_7 hw20 hv22 ?_
    refine g_lload (pc' := 52) d_41_50 rfl rfl ?_
    obtain ⟨hc23, h⟩ := h
    refine g_ldiv (pc' := 53) d_41_52 rfl hc23 ?_
    refine g_lmul (pc' := 54) d_41_53 rfl ?_
    refine g_ladd (pc' := 55) d_41_54 rfl ?_
    have h := h _ rfl
    obtain ⟨hc25, h⟩ := h
    have h := h _ rfl
    refine g_putf (pc' := 58) d_41_55 rfl st_41_22 ft_2_2 ff_2_2 rfl (Or.inl rfl) hw20 hc25 ?_
    refine g_aloadn (pc' := 59) d_41_58 rfl rfl ?_
    obtain ⟨x27, hv28, h⟩ := h
    refine g_getf (pc' := 62) d_41_59 rfl st_41_22 (x_gss hw20) hv28 ?_
    refine g_aloadn (pc' := 63) d_41_62 rfl rfl ?_
    obtain ⟨x29, hv30, h⟩ := h
    refine g_getf (pc' := 66) d_41_63 rfl st_41_7 (x_gss hw20) hv30 ?_
    refine g_lc_lt (pc' := 70) (pm := 67) (pt := 93) d_41_66 rfl d_41_67 (by decide) rfl (fun c => ?_) (fun c => ?_)
    · replace h := h.1 c
      exact g_vret d_41_93 rt_41 h
    · replace h := h.2 c
      refine g_aloadn (pc' := 71) d_41_70 rfl rfl ?_
      refine g_dup (pc' := 72) d_41_71 rfl rfl ?_
      refine g_getf (pc' := 75) d_41_72 rfl st_41_22 (x_gss hw20) hv28 ?_
      refine g_aloadn (pc' := 76) d_41_75 rfl rfl ?_
      refine g_getf (pc' := 79) d_41_76 rfl st_41_7 (x_gss hw20) hv30 ?_
      refine g_lsub (pc' := 80) d_41_79 rfl ?_
      have h := h _ rfl
      obtain ⟨hc32, h⟩ := h
      have h := h _ rfl
      refine g_putf (pc' := 83) d_41_80 rfl st_41_22 ft_2_2 ff_2_2 rfl (Or.inl rfl) (x_gss hw20) hc32 ?_
      refine g_aloadn (pc' := 84) d_41_83 rfl rfl ?_
      refine g_dup (pc' := 85) d_41_84 rfl rfl ?_
      obtain ⟨x34, hv35, h⟩ := h
      refine g_getf (pc' := 88) d_41_85 rfl st_41_19 (x_gss (x_gss hw20)) hv35 ?_
      refine g_lconst (pc' := 89) d_41_88 rfl cl_1 ?_
      refine g_ladd (pc' := 90) d_41_89 rfl ?_
      have h := h _ rfl
      obtain ⟨hc37, h⟩ := h
      have h := h _ rfl
      refine g_putf (pc' := 93) d_41_90 rfl st_41_19 ft_2_1 ff_2_1 rfl (Or.inl rfl) (x_gss (x_gss hw20)) hc37 ?_
      exact g_vret d_41_93 rt_41 h
  · replace h := h.2 c
    exact g_vret d_41_7 rt_41 h
-- 42 BernoulliWays$Total.tell(LBernoulliWays$Fraction;)V
theorem S_42_0 {a0 : Nat} {a1 : Nat} {w : xW} {r : Option Value × xW} (h : ∃ fs1, w[a0]? = some (.inr (2, fs1)) ∧ ∃ x3, fs1[1]? = some (.long x3) ∧ ∃ x5, fs1[2]? = some (.long x5) ∧ ∃ x7, fs1[0]? = some (.long x7) ∧ ∃ fs9, w[a1]? = some (.inr (5, fs9)) ∧ ∃ w11, xCall 16 [.ref a1, .long x3, .long x5, .long x7] w (none, w11) ∧ r = (none, w11)) : xGo 42 0 [some (.ref a0), some (.ref a1)] [] w r := by
  refine g_aloadn (pc' := 1) d_42_0 rfl rfl ?_
  refine g_aloadn (pc' := 2) d_42_1 rfl rfl ?_
  obtain ⟨fs1, hw2, h⟩ := h
  obtain ⟨x3, hv4, h⟩ := h
  refine g_getf (pc' := 5) d_42_2 rfl st_42_19 hw2 hv4 ?_
  refine g_aloadn (pc' := 6) d_42_5 rfl rfl ?_
  obtain ⟨x5, hv6, h⟩ := h
  refine g_getf (pc' := 9) d_42_6 rfl st_42_22 hw2 hv6 ?_
  refine g_aloadn (pc' := 10) d_42_9 rfl rfl ?_
  obtain ⟨x7, hv8, h⟩ := h
  refine g_getf (pc' := 13) d_42_10 rfl st_42_7 hw2 hv8 ?_
  obtain ⟨fs9, hw10, h⟩ := h
  obtain ⟨w11, hk12, h⟩ := h
  refine g_callV (pc' := 16) d_42_13 rfl st_42_31 na_16 ml_16 rfl rfl rfl rm_42_16 rfl rfl ow_16 hw10 hk12 ?_
  exact g_vret d_42_16 rt_42 h
-- 43 BernoulliWays$Fraction.multiply(J)V
theorem S_43_0 {a0 : Nat} {l1 : Int64} {w : xW} {r : Option Value × xW} (h : ∃ fs1, w[a0]? = some (.inr (5, fs1)) ∧ ∃ x3, fs1[0]? = some (.long x3) ∧ ∃ x5, fs1[1]? = some (.long x5) ∧ ∃ x7, fs1[2]? = some (.long x7) ∧ ∃ w9, xCall 16 [.ref a0, .long (l1 * x3), .long (l1 * x5), .long x7] w (none, w9) ∧ r = (none, w9)) : xGo 43 0 [some (.ref a0), some (.long l1), none] [] w r := by
  refine g_aloadn (pc' := 1) d_43_0 rfl rfl ?_
  refine g_lloadn (pc' := 2) d_43_1 rfl rfl ?_
  refine g_aloadn (pc' := 3) d_43_2 rfl rfl ?_
  obtain ⟨fs1, hw2, h⟩ := h
  obtain ⟨x3, hv4, h⟩ := h
  refine g_getf (pc' := 6) d_43_3 rfl st_43_25 hw2 hv4 ?_
  refine g_lmul (pc' := 7) d_43_6 rfl ?_
  refine g_lloadn (pc' := 8) d_43_7 rfl rfl ?_
  refine g_aloadn (pc' := 9) d_43_8 rfl rfl ?_
  obtain ⟨x5, hv6, h⟩ := h
  refine g_getf (pc' := 12) d_43_9 rfl st_43_28 hw2 hv6 ?_
  refine g_lmul (pc' := 13) d_43_12 rfl ?_
  refine g_aloadn (pc' := 14) d_43_13 rfl rfl ?_
  obtain ⟨x7, hv8, h⟩ := h
  refine g_getf (pc' := 17) d_43_14 rfl st_43_7 hw2 hv8 ?_
  obtain ⟨w9, hk10, h⟩ := h
  refine g_callV (pc' := 20) d_43_17 rfl st_43_31 na_16 ml_16 rfl rfl rfl rm_43_16 rfl rfl ow_16 hw2 hk10 ?_
  exact g_vret d_43_20 rt_43 h
-- 44 BernoulliWays$Fraction.divide(J)V
theorem S_44_0 {a0 : Nat} {l1 : Int64} {w : xW} {r : Option Value × xW} (h : (l1 ≤ (0 : Int64) → r = (none, w)) ∧ (¬ (l1 ≤ (0 : Int64)) → ∃ fs1, w[a0]? = some (.inr (5, fs1)) ∧ ∃ x3, fs1[0]? = some (.long x3) ∧ ∃ r7 w5, xCall 17 [.long x3, .long l1] w (some (.long r7), w5) ∧ ∃ fs8, w5[a0]? = some (.inr (5, fs8)) ∧ ∃ x10, fs8[0]? = some (.long x10) ∧ ∃ r14 w12, xCall 19 [.long x10, .long l1] w5 (some (.long r14), w12) ∧ ∃ fs15, w12[a0]? = some (.inr (5, fs15)) ∧ ∃ x17, fs15[2]? = some (.long x17) ∧ ∃ x19, fs15[1]? = some (.long x19) ∧ ∃ w21, xCall 16 [.ref a0, .long r14, .long ((r7 * x17) + x19), .long (x17 * l1)] w12 (none, w21) ∧ r = (none, w21))) : xGo 44 0 [some (.ref a0), some (.long l1), none, none, none] [] w r := by
  refine g_lloadn (pc' := 1) d_44_0 rfl rfl ?_
  refine g_lconst (pc' := 2) d_44_1 rfl cl_0 ?_
  refine g_lc_le (pc' := 6) (pm := 3) (pt := 44) d_44_2 rfl d_44_3 (by decide) rfl (fun c => ?_) (fun c => ?_)
  · replace h := h.1 c
    exact g_vret d_44_44 rt_44 h
  · replace h := h.2 c
    refine g_aloadn (pc' := 7) d_44_6 rfl rfl ?_
    obtain ⟨fs1, hw2, h⟩ := h
    obtain ⟨x3, hv4, h⟩ := h
    refine g_getf (pc' := 10) d_44_7 rfl st_44_25 hw2 hv4 ?_
    refine g_lloadn (pc' := 11) d_44_10 rfl rfl ?_
    obtain ⟨r7, w5, hk6, h⟩ := h
    refine g_callS (pc' := 14) d_44_11 rfl st_44_13 (Or.inl rfl) na_17 ml_17 rfl rfl rfl rm_44_17 rfl rfl hk6 ?_
    refine g_lstoren (pc' := 15) (l' := [some (.ref a0), some (.long l1), none, some (.long r7), none]) d_44_14 rfl ml_44 rfl rfl ?_
    refine g_aloadn (pc' := 16) d_44_15 rfl rfl ?_
    refine g_aloadn (pc' := 17) d_44_16 rfl rfl ?_
    obtain ⟨fs8, hw9, h⟩ := h
    obtain ⟨x10, hv11, h⟩ := h
    refine g_getf (pc' := 20) d_44_17 rfl st_44_25 hw9 hv11 ?_
    refine g_lloadn (pc' := 21) d_44_20 rfl rfl ?_
    obtain ⟨r14, w12, hk13, h⟩ := h
    refine g_callS (pc' := 24) d_44_21 rfl st_44_22 (Or.inl rfl) na_19 ml_19 rfl rfl rfl rm_44_19 rfl rfl hk13 ?_
    refine g_lloadn (pc' := 25) d_44_24 rfl rfl ?_
    refine g_aloadn (pc' := 26) d_44_25 rfl rfl ?_
    obtain ⟨fs15, hw16, h⟩ := h
    obtain ⟨x17, hv18, h⟩ := h
    refine g_getf (pc' := 29) d_44_26 rfl st_44_7 hw16 hv18 ?_
    refine g_lmul (pc' := 30) d_44_29 rfl ?_
    refine g_aloadn (pc' := 31) d_44_30 rfl rfl ?_
    obtain ⟨x19, hv20, h⟩ := h
    refine g_getf (pc' := 34) d_44_31 rfl st_44_28 hw16 hv20 ?_
    refine g_ladd (pc' := 35) d_44_34 rfl ?_
    refine g_aloadn (pc' := 36) d_44_35 rfl rfl ?_
    refine g_getf (pc' := 39) d_44_36 rfl st_44_7 hw16 hv18 ?_
    refine g_lloadn (pc' := 40) d_44_39 rfl rfl ?_
    refine g_lmul (pc' := 41) d_44_40 rfl ?_
    obtain ⟨w21, hk22, h⟩ := h
    refine g_callV (pc' := 44) d_44_41 rfl st_44_31 na_16 ml_16 rfl rfl rfl rm_44_16 rfl rfl ow_16 hw16 hk22 ?_
    exact g_vret d_44_44 rt_44 h
-- 45 BernoulliWays.workTriangle(I)V
theorem S_45_0 {a0 : Nat} {i1 : Int32} {w : xW} {r : Option Value × xW} (h : ∃ fs1, w[a0]? = some (.inr (0, fs1)) ∧ ∃ b3, fs1[2]? = some (.ref b3) ∧ ∃ fs5, w[b3]? = some (.inr (3, fs5)) ∧ ∃ w7, xCall 12 [.ref b3, .int i1] w (none, w7) ∧ xGo 45 10 [some (.ref a0), some (.int i1), some (.int (0 : Int32))] [] w7 r) : xGo 45 0 [some (.ref a0), some (.int i1), none] [] w r := by
  refine g_aloadn (pc' := 1) d_45_0 rfl rfl ?_
  obtain ⟨fs1, hw2, h⟩ := h
  obtain ⟨b3, hv4, h⟩ := h
  refine g_getf (pc' := 4) d_45_1 rfl st_45_28 hw2 hv4 ?_
  refine g_iloadn (pc' := 5) d_45_4 rfl rfl ?_
  obtain ⟨fs5, hw6, h⟩ := h
  obtain ⟨w7, hk8, h⟩ := h
  refine g_callV (pc' := 8) d_45_5 rfl st_45_106 na_12 ml_12 rfl rfl rfl rm_45_12 rfl rfl ow_12 hw6 hk8 ?_
  refine g_iconst (pc' := 9) d_45_8 rfl ci_0 ?_
  refine g_istoren (pc' := 10) (l' := [some (.ref a0), some (.int i1), some (.int (0 : Int32))]) d_45_9 rfl ml_45 rfl rfl ?_
  exact h
theorem S_45_10 {a0 : Nat} {i1 : Int32} {i2 : Int32} {w : xW} {r : Option Value × xW} (h : (i1 ≤ i2 → ∃ fs1, w[a0]? = some (.inr (0, fs1)) ∧ ∃ b3, fs1[2]? = some (.ref b3) ∧ ∃ b5, fs1[13]? = some (.ref b5) ∧ ∃ fs7, w[b3]? = some (.inr (3, fs7)) ∧ ∃ w9, xCall 14 [.ref b3, .int i1, .ref b5] w (none, w9) ∧ r = (none, w9)) ∧ (¬ (i1 ≤ i2) → ∃ fs11, w[a0]? = some (.inr (0, fs11)) ∧ ∃ b13, fs11[2]? = some (.ref b13) ∧ ∃ fs15, w[b13]? = some (.inr (3, fs15)) ∧ ∃ w17, xCall 22 [.ref b13] w (none, w17) ∧ ∀ v19 : Int32, v19 = i2 + (1 : Int32) → xGo 45 10 [some (.ref a0), some (.int i1), some (.int v19)] [] w17 r)) : xGo 45 10 [some (.ref a0), some (.int i1), some (.int i2)] [] w r := by
  refine g_iloadn (pc' := 11) d_45_10 rfl rfl ?_
  refine g_iloadn (pc' := 12) d_45_11 rfl rfl ?_
  refine g_ic_ge (pc' := 15) (pt := 28) d_45_12 (by decide) rfl (fun c => ?_) (fun c => ?_)
  · replace h := h.1 c
    refine g_aloadn (pc' := 29) d_45_28 rfl rfl ?_
    obtain ⟨fs1, hw2, h⟩ := h
    obtain ⟨b3, hv4, h⟩ := h
    refine g_getf (pc' := 32) d_45_29 rfl st_45_28 hw2 hv4 ?_
    refine g_iloadn (pc' := 33) d_45_32 rfl rfl ?_
    refine g_aloadn (pc' := 34) d_45_33 rfl rfl ?_
    obtain ⟨b5, hv6, h⟩ := h
    refine g_getf (pc' := 37) d_45_34 rfl st_45_95 hw2 hv6 ?_
    obtain ⟨fs7, hw8, h⟩ := h
    obtain ⟨w9, hk10, h⟩ := h
    refine g_callV (pc' := 40) d_45_37 rfl st_45_110 na_14 ml_14 rfl rfl rfl rm_45_14 rfl rfl ow_14 hw8 hk10 ?_
    exact g_vret d_45_40 rt_45 h
  · replace h := h.2 c
    refine g_aloadn (pc' := 16) d_45_15 rfl rfl ?_
    obtain ⟨fs11, hw12, h⟩ := h
    obtain ⟨b13, hv14, h⟩ := h
    refine g_getf (pc' := 19) d_45_16 rfl st_45_28 hw12 hv14 ?_
    obtain ⟨fs15, hw16, h⟩ := h
    obtain ⟨w17, hk18, h⟩ := h
    refine g_callV (pc' := 22) d_45_19 rfl st_45_117 na_22 ml_22 rfl rfl rfl rm_45_22 rfl rfl ow_22 hw16 hk18 ?_
    have h := h _ rfl
    refine g_iinc (pc' := 25) (l' := [some (.ref a0), some (.int i1), some (.int (i2 + (1 : Int32)))]) d_45_22 rfl rfl ci_1 ml_45 rfl rfl ?_
    refine g_goto (pt := 10) d_45_25 (by decide) ?_
    exact h
-- 46 BernoulliWays.workSieve(I)V
theorem S_46_0 {a0 : Nat} {i1 : Int32} {w : xW} {r : Option Value × xW} (h : ∃ r3 w1, xCall 47 [.int i1] w (some (.int r3), w1) ∧ (¬ r3 = 0 → ∃ fs4, w1[a0]? = some (.inr (0, fs4)) ∧ ∃ b6, fs4[1]? = some (.ref b6) ∧ ∃ fs8, w1[b6]? = some (.inr (2, fs8)) ∧ ∃ w10, xCall 37 [.ref b6, .long (7420738134810 : Int64)] w1 (none, w10) ∧ ∃ fs12, w10[a0]? = some (.inr (0, fs12)) ∧ ∃ b14, fs12[1]? = some (.ref b14) ∧ ∃ r18 w16, xCall 48 [.ref a0, .int i1] w10 (some (.long r18), w16) ∧ ∃ fs19, w16[b14]? = some (.inr (2, fs19)) ∧ ∃ w21, xCall 41 [.ref b14, .long (1 : Int64), .long r18, .long (0 : Int64), .long (1 : Int64)] w16 (none, w21) ∧ ∃ fs23, w21[a0]? = some (.inr (0, fs23)) ∧ ∃ w25, xCall 55 [.ref a0, .int i1, .int (-1 : Int32)] w21 (none, w25) ∧ ∃ fs27, w25[a0]? = some (.inr (0, fs27)) ∧ ∃ b29, fs27[1]? = some (.ref b29) ∧ ∃ b31, fs27[13]? = some (.ref b31) ∧ ∃ fs33, w25[b29]? = some (.inr (2, fs33)) ∧ ∃ w35, xCall 42 [.ref b29, .ref b31] w25 (none, w35) ∧ r = (none, w35)) ∧ (¬ (¬ r3 = 0) → ∃ fs37, w1[a0]? = some (.inr (0, fs37)) ∧ ∃ w39, xCall 35 [.ref a0, .int i1] w1 (none, w39) ∧ r = (none, w39))) : xGo 46 0 [some (.ref a0), some (.int i1)] [] w r := by
  refine g_iloadn (pc' := 1) d_46_0 rfl rfl ?_
  obtain ⟨r3, w1, hk2, h⟩ := h
  refine g_callS (pc' := 4) d_46_1 rfl st_46_190 (Or.inl rfl) na_47 ml_47 rfl rfl rfl rm_46_47 rfl rfl hk2 ?_
  refine g_if_ne (pc' := 7) (pt := 13) d_46_4 (by decide) rfl (fun c => ?_) (fun c => ?_)
  · replace h := h.1 c
    refine g_aloadn (pc' := 14) d_46_13 rfl rfl ?_
    obtain ⟨fs4, hw5, h⟩ := h
    obtain ⟨b6, hv7, h⟩ := h
    refine g_getf (pc' := 17) d_46_14 rfl st_46_21 hw5 hv7 ?_
    refine g_ldc2 (pc' := 20) d_46_17 rfl st_46_193 cL_7420738134810 ?_
    obtain ⟨fs8, hw9, h⟩ := h
    obtain ⟨w10, hk11, h⟩ := h
    refine g_callV (pc' := 23) d_46_20 rfl st_46_195 na_37 ml_37 rfl rfl rfl rm_46_37 rfl rfl ow_37 hw9 hk11 ?_
    refine g_aloadn (pc' := 24) d_46_23 rfl rfl ?_
    obtain ⟨fs12, hw13, h⟩ := h
    obtain ⟨b14, hv15, h⟩ := h
    refine g_getf (pc' := 27) d_46_24 rfl st_46_21 hw13 hv15 ?_
    refine g_lconst (pc' := 28) d_46_27 rfl cl_1 ?_
    refine g_aloadn (pc' := 29) d_46_28 rfl rfl ?_
    refine g_iloadn (pc' := 30) d_46_29 rfl rfl ?_
    obtain ⟨r18, w16, hk17, h⟩ := h
    refine g_callV (pc' := 33) d_46_30 rfl st_46_434 na_48 ml_48 rfl rfl rfl rm_46_48 rfl rfl ow_48 hw13 hk17 ?_
    refine g_lconst (pc' := 34) d_46_33 rfl cl_0 ?_
    refine g_lconst (pc' := 35) d_46_34 rfl cl_1 ?_
    obtain ⟨fs19, hw20, h⟩ := h
    obtain ⟨w21, hk22, h⟩ := h
    refine g_callV (pc' := 38) d_46_35 rfl st_46_207 na_41 ml_41 rfl rfl rfl rm_46_41 rfl rfl ow_41 hw20 hk22 ?_
    refine g_aloadn (pc' := 39) d_46_38 rfl rfl ?_
    refine g_iloadn (pc' := 40) d_46_39 rfl rfl ?_
    refine g_iconst (pc' := 41) d_46_40 rfl ci_m1 ?_
    obtain ⟨fs23, hw24, h⟩ := h
    obtain ⟨w25, hk26, h⟩ := h
    refine g_callV (pc' := 44) d_46_41 rfl st_46_211 na_55 ml_55 rfl rfl rfl rm_46_55 rfl rfl ow_55 hw24 hk26 ?_
    refine g_aloadn (pc' := 45) d_46_44 rfl rfl ?_
    obtain ⟨fs27, hw28, h⟩ := h
    obtain ⟨b29, hv30, h⟩ := h
    refine g_getf (pc' := 48) d_46_45 rfl st_46_21 hw28 hv30 ?_
    refine g_aloadn (pc' := 49) d_46_48 rfl rfl ?_
    obtain ⟨b31, hv32, h⟩ := h
    refine g_getf (pc' := 52) d_46_49 rfl st_46_95 hw28 hv32 ?_
    obtain ⟨fs33, hw34, h⟩ := h
    obtain ⟨w35, hk36, h⟩ := h
    refine g_callV (pc' := 55) d_46_52 rfl st_46_214 na_42 ml_42 rfl rfl rfl rm_46_42 rfl rfl ow_42 hw34 hk36 ?_
    exact g_vret d_46_55 rt_46 h
  · replace h := h.2 c
    refine g_aloadn (pc' := 8) d_46_7 rfl rfl ?_
    refine g_iloadn (pc' := 9) d_46_8 rfl rfl ?_
    obtain ⟨fs37, hw38, h⟩ := h
    obtain ⟨w39, hk40, h⟩ := h
    refine g_callV (pc' := 12) d_46_9 rfl st_46_431 na_35 ml_35 rfl rfl rfl rm_46_35 rfl rfl ow_35 hw38 hk40 ?_
    exact g_vret d_46_12 rt_46 h
-- 47 BernoulliWays.isEvenFromTwo(I)Z
theorem S_47_0 {i0 : Int32} {w : xW} {r : Option Value × xW} (h : (i0 < (2 : Int32) → r = (some (.int (0 : Int32)), w)) ∧ (¬ (i0 < (2 : Int32)) → (¬ (irem i0 (2 : Int32)) = 0 → r = (some (.int (0 : Int32)), w)) ∧ (¬ (¬ (irem i0 (2 : Int32)) = 0) → r = (some (.int (1 : Int32)), w)))) : xGo 47 0 [some (.int i0)] [] w r := by
  refine g_iloadn (pc' := 1) d_47_0 rfl rfl ?_
  refine g_iconst (pc' := 2) d_47_1 rfl ci_2 ?_
  refine g_ic_lt (pc' := 5) (pt := 15) d_47_2 (by decide) rfl (fun c => ?_) (fun c => ?_)
  · replace h := h.1 c
    refine g_iconst (pc' := 16) d_47_15 rfl ci_0 ?_
    exact g_zret d_47_16 rt_47 (Or.inl rfl) h
  · replace h := h.2 c
    refine g_iloadn (pc' := 6) d_47_5 rfl rfl ?_
    refine g_iconst (pc' := 7) d_47_6 rfl ci_2 ?_
    refine g_irem (pc' := 8) d_47_7 rfl (by decide) ?_
    refine g_if_ne (pc' := 11) (pt := 15) d_47_8 (by decide) rfl (fun c => ?_) (fun c => ?_)
    · replace h := h.1 c
      refine g_iconst (pc' := 16) d_47_15 rfl ci_0 ?_
      exact g_zret d_47_16 rt_47 (Or.inl rfl) h
    · replace h := h.2 c
      refine g_iconst (pc' := 12) d_47_11 rfl ci_1 ?_
      refine g_goto (pt := 16) d_47_12 (by decide) ?_
      exact g_zret d_47_16 rt_47 (Or.inr rfl) h
-- 48 BernoulliWays.sievedWhole(I)J
theorem S_48_0 {a0 : Nat} {i1 : Int32} {w : xW} {r : Option Value × xW} (h : xGo 48 9 [some (.ref a0), some (.int i1), some (.long (0 : Int64)), none, some (.long (1 : Int64)), none, some (.int (12 : Int32)), none, none, none, none, none] [] w r) : xGo 48 0 [some (.ref a0), some (.int i1), none, none, none, none, none, none, none, none, none, none] [] w r := by
  refine g_lconst (pc' := 1) d_48_0 rfl cl_0 ?_
  refine g_lstoren (pc' := 2) (l' := [some (.ref a0), some (.int i1), some (.long (0 : Int64)), none, none, none, none, none, none, none, none, none]) d_48_1 rfl ml_48 rfl rfl ?_
  refine g_lconst (pc' := 3) d_48_2 rfl cl_1 ?_
  refine g_lstore (pc' := 5) (l' := [some (.ref a0), some (.int i1), some (.long (0 : Int64)), none, some (.long (1 : Int64)), none, none, none, none, none, none, none]) d_48_3 rfl ml_48 rfl rfl ?_
  refine g_bipush (pc' := 7) d_48_5 rfl cb_12 ?_
  refine g_istore (pc' := 9) (l' := [some (.ref a0), some (.int i1), some (.long (0 : Int64)), none, some (.long (1 : Int64)), none, some (.int (12 : Int32)), none, none, none, none, none]) d_48_7 rfl ml_48 rfl rfl ?_
  exact h
theorem S_48_9 {a0 : Nat} {i1 : Int32} {l2 : Int64} {l4 : Int64} {i6 : Int32} {w : xW} {r : Option Value × xW} (h : ((21 : Int32) ≤ i6 → (l2 ≤ (l4 / (2 : Int64)) → r = (some (.long l2), w)) ∧ (¬ (l2 ≤ (l4 / (2 : Int64))) → r = (some (.long (l2 - l4)), w))) ∧ (¬ ((21 : Int32) ≤ i6) → (w[xP]? = none) ∧ ((46 : Int32) ≤ i6 → (l2 ≤ (l4 / (2 : Int64)) → r = (some (.long l2), w)) ∧ (¬ (l2 ≤ (l4 / (2 : Int64))) → r = (some (.long (l2 - l4)), w))) ∧ (¬ ((46 : Int32) ≤ i6) → (w[xP]? = none) ∧ (¬ (i6 < 0 ∨ 46 ≤ i6.toNatClampNeg)) ∧ ∀ v4 : Int32, v4 = (xpr i6.toNatClampNeg) → ∃ r7 w5, xCall 49 [.int i1, .int v4, .long ((v4.toInt64) * (v4.toInt64))] w (some (.long r7), w5) ∧ (¬ (v4.toInt64) = 0) ∧ ∃ r11 w9, xCall 51 [.int i1, .int v4] w5 (some (.long r11), w9) ∧ ∀ v12 : Int64, v12 = ((r7 / (v4.toInt64)) + r11) → ∃ r15 w13, xCall 54 [.long (v12 - l2), .long (v4.toInt64)] w9 (some (.long r15), w13) ∧ ∃ r18 w16, xCall 53 [.long l4, .long (v4.toInt64)] w13 (some (.long r18), w16) ∧ (¬ (v4.toInt64) = 0) ∧ ∀ v20 : Int64, v20 = (l2 + (l4 * (lrem (r15 * r18) (v4.toInt64)))) → ∀ v21 : Int64, v21 = (l4 * (v4.toInt64)) → ∀ v22 : Int32, v22 = i6 + (1 : Int32) → xGo 48 9 [some (.ref a0), some (.int i1), some (.long v20), none, some (.long v21), none, some (.int v22), some (.int v4), some (.long v12), none, some (.long r15), none] [] w16 r))) : xGo 48 9 [some (.ref a0), some (.int i1), some (.long l2), none, some (.long l4), none, some (.int i6), none, none, none, none, none] [] w r := by
  refine g_iload (pc' := 11) d_48_9 rfl rfl ?_
  refine g_bipush (pc' := 13) d_48_11 rfl cb_21 ?_
  refine g_ic_ge (pc' := 16) (pt := 106) d_48_13 (by decide) rfl (fun c => ?_) (fun c => ?_)
  · replace h := h.1 c
    refine g_lloadn (pc' := 107) d_48_106 rfl rfl ?_
    refine g_lload (pc' := 109) d_48_107 rfl rfl ?_
    refine g_ldc2 (pc' := 112) d_48_109 rfl st_48_389 cL_2 ?_
    refine g_ldiv (pc' := 113) d_48_112 rfl (by decide) ?_
    refine g_lc_le (pc' := 117) (pm := 114) (pt := 124) d_48_113 rfl d_48_114 (by decide) rfl (fun c => ?_) (fun c => ?_)
    · replace h := h.1 c
      refine g_lloadn (pc' := 125) d_48_124 rfl rfl ?_
      exact g_lret d_48_125 rt_48 h
    · replace h := h.2 c
      refine g_lloadn (pc' := 118) d_48_117 rfl rfl ?_
      refine g_lload (pc' := 120) d_48_118 rfl rfl ?_
      refine g_lsub (pc' := 121) d_48_120 rfl ?_
      refine g_goto (pt := 125) d_48_121 (by decide) ?_
      exact g_lret d_48_125 rt_48 h
  · replace h := h.2 c
    refine g_iload (pc' := 18) d_48_16 rfl rfl ?_
    refine g_gets (pc' := 21) d_48_18 rfl st_48_184 (Or.inl rfl) ?_
    obtain ⟨hc1, h⟩ := h
    refine g_lenp (pc' := 22) d_48_21 rfl hc1 ?_
    refine g_ic_ge (pc' := 25) (pt := 106) d_48_22 (by decide) rfl (fun c => ?_) (fun c => ?_)
    · replace h := h.1 c
      refine g_lloadn (pc' := 107) d_48_106 rfl rfl ?_
      refine g_lload (pc' := 109) d_48_107 rfl rfl ?_
      refine g_ldc2 (pc' := 112) d_48_109 rfl st_48_389 cL_2 ?_
      refine g_ldiv (pc' := 113) d_48_112 rfl (by decide) ?_
      refine g_lc_le (pc' := 117) (pm := 114) (pt := 124) d_48_113 rfl d_48_114 (by decide) rfl (fun c => ?_) (fun c => ?_)
      · replace h := h.1 c
        refine g_lloadn (pc' := 125) d_48_124 rfl rfl ?_
        exact g_lret d_48_125 rt_48 h
      · replace h := h.2 c
        refine g_lloadn (pc' := 118) d_48_117 rfl rfl ?_
        refine g_lload (pc' := 120) d_48_118 rfl rfl ?_
        refine g_lsub (pc' := 121) d_48_120 rfl ?_
        refine g_goto (pt := 125) d_48_121 (by decide) ?_
        exact g_lret d_48_125 rt_48 h
    · replace h := h.2 c
      refine g_gets (pc' := 28) d_48_25 rfl st_48_184 (Or.inl rfl) ?_
      refine g_iload (pc' := 30) d_48_28 rfl rfl ?_
      obtain ⟨hc2, h⟩ := h
      obtain ⟨hc3, h⟩ := h
      refine g_pald (pc' := 31) d_48_30 rfl hc2 hc3 ?_
      have h := h _ rfl
      refine g_istore (pc' := 33) (l' := [some (.ref a0), some (.int i1), some (.long l2), none, some (.long l4), none, some (.int i6), some (.int ((xpr i6.toNatClampNeg))), none, none, none, none]) d_48_31 rfl ml_48 rfl rfl ?_
      refine g_iloadn (pc' := 34) d_48_33 rfl rfl ?_
      refine g_iload (pc' := 36) d_48_34 rfl rfl ?_
      refine g_iload (pc' := 38) d_48_36 rfl rfl ?_
      refine g_i2l (pc' := 39) d_48_38 rfl ?_
      refine g_iload (pc' := 41) d_48_39 rfl rfl ?_
      refine g_i2l (pc' := 42) d_48_41 rfl ?_
      refine g_lmul (pc' := 43) d_48_42 rfl ?_
      obtain ⟨r7, w5, hk6, h⟩ := h
      refine g_callS (pc' := 46) d_48_43 rfl st_48_437 (Or.inl rfl) na_49 ml_49 rfl rfl rfl rm_48_49 rfl rfl hk6 ?_
      refine g_iload (pc' := 48) d_48_46 rfl rfl ?_
      refine g_i2l (pc' := 49) d_48_48 rfl ?_
      obtain ⟨hc8, h⟩ := h
      refine g_ldiv (pc' := 50) d_48_49 rfl hc8 ?_
      refine g_iloadn (pc' := 51) d_48_50 rfl rfl ?_
      refine g_iload (pc' := 53) d_48_51 rfl rfl ?_
      obtain ⟨r11, w9, hk10, h⟩ := h
      refine g_callS (pc' := 56) d_48_53 rfl st_48_441 (Or.inl rfl) na_51 ml_51 rfl rfl rfl rm_48_51 rfl rfl hk10 ?_
      refine g_ladd (pc' := 57) d_48_56 rfl ?_
      have h := h _ rfl
      refine g_lstore (pc' := 59) (l' := [some (.ref a0), some (.int i1), some (.long l2), none, some (.long l4), none, some (.int i6), some (.int ((xpr i6.toNatClampNeg))), some (.long (((r7 / (((xpr i6.toNatClampNeg)).toInt64)) + r11))), none, none, none]) d_48_57 rfl ml_48 rfl rfl ?_
      refine g_lload (pc' := 61) d_48_59 rfl rfl ?_
      refine g_lloadn (pc' := 62) d_48_61 rfl rfl ?_
      refine g_lsub (pc' := 63) d_48_62 rfl ?_
      refine g_iload (pc' := 65) d_48_63 rfl rfl ?_
      refine g_i2l (pc' := 66) d_48_65 rfl ?_
      obtain ⟨r15, w13, hk14, h⟩ := h
      refine g_callS (pc' := 69) d_48_66 rfl st_48_306 (Or.inl rfl) na_54 ml_54 rfl rfl rfl rm_48_54 rfl rfl hk14 ?_
      refine g_lstore (pc' := 71) (l' := [some (.ref a0), some (.int i1), some (.long l2), none, some (.long l4), none, some (.int i6), some (.int ((xpr i6.toNatClampNeg))), some (.long (((r7 / (((xpr i6.toNatClampNeg)).toInt64)) + r11))), none, some (.long r15), none]) d_48_69 rfl ml_48 rfl rfl ?_
      refine g_lloadn (pc' := 72) d_48_71 rfl rfl ?_
      refine g_lload (pc' := 74) d_48_72 rfl rfl ?_
      refine g_lload (pc' := 76) d_48_74 rfl rfl ?_
      refine g_lload (pc' := 78) d_48_76 rfl rfl ?_
      refine g_iload (pc' := 80) d_48_78 rfl rfl ?_
      refine g_i2l (pc' := 81) d_48_80 rfl ?_
      obtain ⟨r18, w16, hk17, h⟩ := h
      refine g_callS (pc' := 84) d_48_81 rfl st_48_316 (Or.inl rfl) na_53 ml_53 rfl rfl rfl rm_48_53 rfl rfl hk17 ?_
      refine g_lmul (pc' := 85) d_48_84 rfl ?_
      refine g_iload (pc' := 87) d_48_85 rfl rfl ?_
      refine g_i2l (pc' := 88) d_48_87 rfl ?_
      obtain ⟨hc19, h⟩ := h
      refine g_lrem (pc' := 89) d_48_88 rfl hc19 ?_
      refine g_lmul (pc' := 90) d_48_89 rfl ?_
      refine g_ladd (pc' := 91) d_48_90 rfl ?_
      have h := h _ rfl
      refine g_lstoren (pc' := 92) (l' := [some (.ref a0), some (.int i1), some (.long ((l2 + (l4 * (lrem (r15 * r18) (((xpr i6.toNatClampNeg)).toInt64)))))), none, some (.long l4), none, some (.int i6), some (.int ((xpr i6.toNatClampNeg))), some (.long (((r7 / (((xpr i6.toNatClampNeg)).toInt64)) + r11))), none, some (.long r15), none]) d_48_91 rfl ml_48 rfl rfl ?_
      refine g_lload (pc' := 94) d_48_92 rfl rfl ?_
      refine g_iload (pc' := 96) d_48_94 rfl rfl ?_
      refine g_i2l (pc' := 97) d_48_96 rfl ?_
      refine g_lmul (pc' := 98) d_48_97 rfl ?_
      have h := h _ rfl
      refine g_lstore (pc' := 100) (l' := [some (.ref a0), some (.int i1), some (.long ((l2 + (l4 * (lrem (r15 * r18) (((xpr i6.toNatClampNeg)).toInt64)))))), none, some (.long ((l4 * (((xpr i6.toNatClampNeg)).toInt64)))), none, some (.int i6), some (.int ((xpr i6.toNatClampNeg))), some (.long (((r7 / (((xpr i6.toNatClampNeg)).toInt64)) + r11))), none, some (.long r15), none]) d_48_98 rfl ml_48 rfl rfl ?_
      have h := h _ rfl
      refine g_iinc (pc' := 103) (l' := [some (.ref a0), some (.int i1), some (.long ((l2 + (l4 * (lrem (r15 * r18) (((xpr i6.toNatClampNeg)).toInt64)))))), none, some (.long ((l4 * (((xpr i6.toNatClampNeg)).toInt64)))), none, some (.int (i6 + (1 : Int32))), some (.int ((xpr i6.toNatClampNeg))), some (.long (((r7 / (((xpr i6.toNatClampNeg)).toInt64)) + r11))), none, some (.long r15), none]) d_48_100 rfl rfl ci_1 ml_48 rfl rfl ?_
      refine g_goto (pt := 9) d_48_103 (by decide) ?_
      exact h
-- 49 BernoulliWays$Modulo.powerSum(IIJ)J
theorem S_49_0 {i0 : Int32} {i1 : Int32} {l2 : Int64} {w : xW} {r : Option Value × xW} (h : ((0 : Int64) < l2 → xGo 49 14 [some (.int i0), some (.int i1), some (.long l2), none, some (.long (0 : Int64)), none, some (.int (1 : Int32))] [] w r) ∧ (¬ ((0 : Int64) < l2) → r = (some (.long (0 : Int64)), w))) : xGo 49 0 [some (.int i0), some (.int i1), some (.long l2), none, none, none, none] [] w r := by
  refine g_lloadn (pc' := 1) d_49_0 rfl rfl ?_
  refine g_lconst (pc' := 2) d_49_1 rfl cl_0 ?_
  refine g_lc_gt (pc' := 6) (pm := 3) (pt := 8) d_49_2 rfl d_49_3 (by decide) rfl (fun c => ?_) (fun c => ?_)
  · replace h := h.1 c
    refine g_lconst (pc' := 9) d_49_8 rfl cl_0 ?_
    refine g_lstore (pc' := 11) (l' := [some (.int i0), some (.int i1), some (.long l2), none, some (.long (0 : Int64)), none, none]) d_49_9 rfl ml_49 rfl rfl ?_
    refine g_iconst (pc' := 12) d_49_11 rfl ci_1 ?_
    refine g_istore (pc' := 14) (l' := [some (.int i0), some (.int i1), some (.long l2), none, some (.long (0 : Int64)), none, some (.int (1 : Int32))]) d_49_12 rfl ml_49 rfl rfl ?_
    exact h
  · replace h := h.2 c
    refine g_lconst (pc' := 7) d_49_6 rfl cl_0 ?_
    exact g_lret d_49_7 rt_49 h
theorem S_49_14 {i0 : Int32} {i1 : Int32} {l2 : Int64} {l4 : Int64} {i6 : Int32} {w : xW} {r : Option Value × xW} (h : (i1 ≤ i6 → (¬ l2 = 0) ∧ r = (some (.long (lrem l4 l2)), w)) ∧ (¬ (i1 ≤ i6) → ∃ r4 w2, xCall 50 [.long (i6.toInt64), .int i0, .long l2] w (some (.long r4), w2) ∧ ∀ v5 : Int64, v5 = (l4 + r4) → ∀ v6 : Int32, v6 = i6 + (1 : Int32) → xGo 49 14 [some (.int i0), some (.int i1), some (.long l2), none, some (.long v5), none, some (.int v6)] [] w2 r)) : xGo 49 14 [some (.int i0), some (.int i1), some (.long l2), none, some (.long l4), none, some (.int i6)] [] w r := by
  refine g_iload (pc' := 16) d_49_14 rfl rfl ?_
  refine g_iloadn (pc' := 17) d_49_16 rfl rfl ?_
  refine g_ic_ge (pc' := 20) (pt := 39) d_49_17 (by decide) rfl (fun c => ?_) (fun c => ?_)
  · replace h := h.1 c
    refine g_lload (pc' := 41) d_49_39 rfl rfl ?_
    refine g_lloadn (pc' := 42) d_49_41 rfl rfl ?_
    obtain ⟨hc1, h⟩ := h
    refine g_lrem (pc' := 43) d_49_42 rfl hc1 ?_
    exact g_lret d_49_43 rt_49 h
  · replace h := h.2 c
    refine g_lload (pc' := 22) d_49_20 rfl rfl ?_
    refine g_iload (pc' := 24) d_49_22 rfl rfl ?_
    refine g_i2l (pc' := 25) d_49_24 rfl ?_
    refine g_iloadn (pc' := 26) d_49_25 rfl rfl ?_
    refine g_lloadn (pc' := 27) d_49_26 rfl rfl ?_
    obtain ⟨r4, w2, hk3, h⟩ := h
    refine g_callS (pc' := 30) d_49_27 rfl st_49_13 (Or.inl rfl) na_50 ml_50 rfl rfl rfl rm_49_50 rfl rfl hk3 ?_
    refine g_ladd (pc' := 31) d_49_30 rfl ?_
    have h := h _ rfl
    refine g_lstore (pc' := 33) (l' := [some (.int i0), some (.int i1), some (.long l2), none, some (.long ((l4 + r4))), none, some (.int i6)]) d_49_31 rfl ml_49 rfl rfl ?_
    have h := h _ rfl
    refine g_iinc (pc' := 36) (l' := [some (.int i0), some (.int i1), some (.long l2), none, some (.long ((l4 + r4))), none, some (.int (i6 + (1 : Int32)))]) d_49_33 rfl rfl ci_1 ml_49 rfl rfl ?_
    refine g_goto (pt := 14) d_49_36 (by decide) ?_
    exact h
-- 50 BernoulliWays$Modulo.power(JIJ)J
theorem S_50_0 {l0 : Int64} {i2 : Int32} {l3 : Int64} {w : xW} {r : Option Value × xW} (h : ((0 : Int64) < l3 → (¬ l3 = 0) ∧ ∀ v2 : Int64, v2 = (lrem (1 : Int64) l3) → ∃ r5 w3, xCall 17 [.long l0, .long l3] w (some (.long r5), w3) ∧ xGo 50 23 [some (.long l0), none, some (.int i2), some (.long l3), none, some (.long v2), none, some (.long r5), none, some (.int (0 : Int32))] [] w3 r) ∧ (¬ ((0 : Int64) < l3) → r = (some (.long (0 : Int64)), w))) : xGo 50 0 [some (.long l0), none, some (.int i2), some (.long l3), none, none, none, none, none, none] [] w r := by
  refine g_lloadn (pc' := 1) d_50_0 rfl rfl ?_
  refine g_lconst (pc' := 2) d_50_1 rfl cl_0 ?_
  refine g_lc_gt (pc' := 6) (pm := 3) (pt := 8) d_50_2 rfl d_50_3 (by decide) rfl (fun c => ?_) (fun c => ?_)
  · replace h := h.1 c
    refine g_lconst (pc' := 9) d_50_8 rfl cl_1 ?_
    refine g_lloadn (pc' := 10) d_50_9 rfl rfl ?_
    obtain ⟨hc1, h⟩ := h
    refine g_lrem (pc' := 11) d_50_10 rfl hc1 ?_
    have h := h _ rfl
    refine g_lstore (pc' := 13) (l' := [some (.long l0), none, some (.int i2), some (.long l3), none, some (.long ((lrem (1 : Int64) l3))), none, none, none, none]) d_50_11 rfl ml_50 rfl rfl ?_
    refine g_lloadn (pc' := 14) d_50_13 rfl rfl ?_
    refine g_lloadn (pc' := 15) d_50_14 rfl rfl ?_
    obtain ⟨r5, w3, hk4, h⟩ := h
    refine g_callS (pc' := 18) d_50_15 rfl st_50_7 (Or.inl rfl) na_17 ml_17 rfl rfl rfl rm_50_17 rfl rfl hk4 ?_
    refine g_lstore (pc' := 20) (l' := [some (.long l0), none, some (.int i2), some (.long l3), none, some (.long ((lrem (1 : Int64) l3))), none, some (.long r5), none, none]) d_50_18 rfl ml_50 rfl rfl ?_
    refine g_iconst (pc' := 21) d_50_20 rfl ci_0 ?_
    refine g_istore (pc' := 23) (l' := [some (.long l0), none, some (.int i2), some (.long l3), none, some (.long ((lrem (1 : Int64) l3))), none, some (.long r5), none, some (.int (0 : Int32))]) d_50_21 rfl ml_50 rfl rfl ?_
    exact h
  · replace h := h.2 c
    refine g_lconst (pc' := 7) d_50_6 rfl cl_0 ?_
    exact g_lret d_50_7 rt_50 h
theorem S_50_23 {l0 : Int64} {i2 : Int32} {l3 : Int64} {l5 : Int64} {l7 : Int64} {i9 : Int32} {w : xW} {r : Option Value × xW} (h : ((31 : Int32) ≤ i9 → r = (some (.long l5), w)) ∧ (¬ ((31 : Int32) ≤ i9) → ((i2 >>> (i9 &&& 31)) ≤ 0 → r = (some (.long l5), w)) ∧ (¬ ((i2 >>> (i9 &&& 31)) ≤ 0) → (¬ ((i2 >>> (i9 &&& 31)) &&& (1 : Int32)) = (1 : Int32) → (¬ l3 = 0) ∧ ∀ v2 : Int64, v2 = (lrem (l7 * l7) l3) → ∀ v3 : Int32, v3 = i9 + (1 : Int32) → xGo 50 23 [some (.long l0), none, some (.int i2), some (.long l3), none, some (.long l5), none, some (.long v2), none, some (.int v3)] [] w r) ∧ (¬ (¬ ((i2 >>> (i9 &&& 31)) &&& (1 : Int32)) = (1 : Int32)) → (¬ l3 = 0) ∧ ∀ v5 : Int64, v5 = (lrem (l5 * l7) l3) → (¬ l3 = 0) ∧ ∀ v7 : Int64, v7 = (lrem (l7 * l7) l3) → ∀ v8 : Int32, v8 = i9 + (1 : Int32) → xGo 50 23 [some (.long l0), none, some (.int i2), some (.long l3), none, some (.long v5), none, some (.long v7), none, some (.int v8)] [] w r)))) : xGo 50 23 [some (.long l0), none, some (.int i2), some (.long l3), none, some (.long l5), none, some (.long l7), none, some (.int i9)] [] w r := by
  refine g_iload (pc' := 25) d_50_23 rfl rfl ?_
  refine g_bipush (pc' := 27) d_50_25 rfl cb_31 ?_
  refine g_ic_ge (pc' := 30) (pt := 71) d_50_27 (by decide) rfl (fun c => ?_) (fun c => ?_)
  · replace h := h.1 c
    refine g_lload (pc' := 73) d_50_71 rfl rfl ?_
    exact g_lret d_50_73 rt_50 h
  · replace h := h.2 c
    refine g_iloadn (pc' := 31) d_50_30 rfl rfl ?_
    refine g_iload (pc' := 33) d_50_31 rfl rfl ?_
    refine g_ishr (pc' := 34) d_50_33 rfl ?_
    refine g_if_le (pc' := 37) (pt := 71) d_50_34 (by decide) rfl (fun c => ?_) (fun c => ?_)
    · replace h := h.1 c
      refine g_lload (pc' := 73) d_50_71 rfl rfl ?_
      exact g_lret d_50_73 rt_50 h
    · replace h := h.2 c
      refine g_iloadn (pc' := 38) d_50_37 rfl rfl ?_
      refine g_iload (pc' := 40) d_50_38 rfl rfl ?_
      refine g_ishr (pc' := 41) d_50_40 rfl ?_
      refine g_iconst (pc' := 42) d_50_41 rfl ci_1 ?_
      refine g_iand (pc' := 43) d_50_42 rfl ?_
      refine g_iconst (pc' := 44) d_50_43 rfl ci_1 ?_
      refine g_ic_ne (pc' := 47) (pt := 56) d_50_44 (by decide) rfl (fun c => ?_) (fun c => ?_)
      · replace h := h.1 c
        refine g_lload (pc' := 58) d_50_56 rfl rfl ?_
        refine g_lload (pc' := 60) d_50_58 rfl rfl ?_
        refine g_lmul (pc' := 61) d_50_60 rfl ?_
        refine g_lloadn (pc' := 62) d_50_61 rfl rfl ?_
        obtain ⟨hc1, h⟩ := h
        refine g_lrem (pc' := 63) d_50_62 rfl hc1 ?_
        have h := h _ rfl
        refine g_lstore (pc' := 65) (l' := [some (.long l0), none, some (.int i2), some (.long l3), none, some (.long l5), none, some (.long ((lrem (l7 * l7) l3))), none, some (.int i9)]) d_50_63 rfl ml_50 rfl rfl ?_
        have h := h _ rfl
        refine g_iinc (pc' := 68) (l' := [some (.long l0), none, some (.int i2), some (.long l3), none, some (.long l5), none, some (.long ((lrem (l7 * l7) l3))), none, some (.int (i9 + (1 : Int32)))]) d_50_65 rfl rfl ci_1 ml_50 rfl rfl ?_
        refine g_goto (pt := 23) d_50_68 (by decide) ?_
        exact h
      · replace h := h.2 c
        refine g_lload (pc' := 49) d_50_47 rfl rfl ?_
        refine g_lload (pc' := 51) d_50_49 rfl rfl ?_
        refine g_lmul (pc' := 52) d_50_51 rfl ?_
        refine g_lloadn (pc' := 53) d_50_52 rfl rfl ?_
        obtain ⟨hc4, h⟩ := h
        refine g_lrem (pc' := 54) d_50_53 rfl hc4 ?_
        have h := h _ rfl
        refine g_lstore (pc' := 56) (l' := [some (.long l0), none, some (.int i2), some (.long l3), none, some (.long ((lrem (l5 * l7) l3))), none, some (.long l7), none, some (.int i9)]) d_50_54 rfl ml_50 rfl rfl ?_
        refine g_lload (pc' := 58) d_50_56 rfl rfl ?_
        refine g_lload (pc' := 60) d_50_58 rfl rfl ?_
        refine g_lmul (pc' := 61) d_50_60 rfl ?_
        refine g_lloadn (pc' := 62) d_50_61 rfl rfl ?_
        obtain ⟨hc6, h⟩ := h
        refine g_lrem (pc' := 63) d_50_62 rfl hc6 ?_
        have h := h _ rfl
        refine g_lstore (pc' := 65) (l' := [some (.long l0), none, some (.int i2), some (.long l3), none, some (.long ((lrem (l5 * l7) l3))), none, some (.long ((lrem (l7 * l7) l3))), none, some (.int i9)]) d_50_63 rfl ml_50 rfl rfl ?_
        have h := h _ rfl
        refine g_iinc (pc' := 68) (l' := [some (.long l0), none, some (.int i2), some (.long l3), none, some (.long ((lrem (l5 * l7) l3))), none, some (.long ((lrem (l7 * l7) l3))), none, some (.int (i9 + (1 : Int32)))]) d_50_65 rfl rfl ci_1 ml_50 rfl rfl ?_
        refine g_goto (pt := 23) d_50_68 (by decide) ?_
        exact h
-- 51 BernoulliWays.inversesBelow(II)J
theorem S_51_0 {i0 : Int32} {i1 : Int32} {w : xW} {r : Option Value × xW} (h : (w[xP]? = none) ∧ xGo 51 15 [some (.int i0), some (.int i1), some (.long (0 : Int64)), none, some (.ref xP), some (.int (46 : Int32)), some (.int (0 : Int32)), none] [] w r) : xGo 51 0 [some (.int i0), some (.int i1), none, none, none, none, none, none] [] w r := by
  refine g_lconst (pc' := 1) d_51_0 rfl cl_0 ?_
  refine g_lstoren (pc' := 2) (l' := [some (.int i0), some (.int i1), some (.long (0 : Int64)), none, none, none, none, none]) d_51_1 rfl ml_51 rfl rfl ?_
  refine g_gets (pc' := 5) d_51_2 rfl st_51_184 (Or.inl rfl) ?_
  refine g_astore (pc' := 7) (l' := [some (.int i0), some (.int i1), some (.long (0 : Int64)), none, some (.ref xP), none, none, none]) d_51_5 rfl ml_51 rfl rfl ?_
  refine g_aload (pc' := 9) d_51_7 rfl rfl ?_
  obtain ⟨hc1, h⟩ := h
  refine g_lenp (pc' := 10) d_51_9 rfl hc1 ?_
  refine g_istore (pc' := 12) (l' := [some (.int i0), some (.int i1), some (.long (0 : Int64)), none, some (.ref xP), some (.int (46 : Int32)), none, none]) d_51_10 rfl ml_51 rfl rfl ?_
  refine g_iconst (pc' := 13) d_51_12 rfl ci_0 ?_
  refine g_istore (pc' := 15) (l' := [some (.int i0), some (.int i1), some (.long (0 : Int64)), none, some (.ref xP), some (.int (46 : Int32)), some (.int (0 : Int32)), none]) d_51_13 rfl ml_51 rfl rfl ?_
  exact h
theorem S_51_15 {i0 : Int32} {i1 : Int32} {l2 : Int64} {i5 : Int32} {i6 : Int32} {w : xW} {r : Option Value × xW} (h : (i5 ≤ i6 → r = (some (.long l2), w)) ∧ (¬ (i5 ≤ i6) → (w[xP]? = none) ∧ (¬ (i6 < 0 ∨ 46 ≤ i6.toNatClampNeg)) ∧ ∀ v3 : Int32, v3 = (xpr i6.toNatClampNeg) → ∃ r6 w4, xCall 52 [.int v3, .int i0] w (some (.int r6), w4) ∧ (r6 = 0 → ∀ v7 : Int32, v7 = i6 + (1 : Int32) → xGo 51 15 [some (.int i0), some (.int i1), some (.long l2), none, some (.ref xP), some (.int i5), some (.int v7), some (.int v3)] [] w4 r) ∧ (¬ (r6 = 0) → ∃ r10 w8, xCall 53 [.long (v3.toInt64), .long (i1.toInt64)] w4 (some (.long r10), w8) ∧ ∀ v11 : Int64, v11 = (l2 + r10) → ∀ v12 : Int32, v12 = i6 + (1 : Int32) → xGo 51 15 [some (.int i0), some (.int i1), some (.long v11), none, some (.ref xP), some (.int i5), some (.int v12), some (.int v3)] [] w8 r))) : xGo 51 15 [some (.int i0), some (.int i1), some (.long l2), none, some (.ref xP), some (.int i5), some (.int i6), none] [] w r := by
  refine g_iload (pc' := 17) d_51_15 rfl rfl ?_
  refine g_iload (pc' := 19) d_51_17 rfl rfl ?_
  refine g_ic_ge (pc' := 22) (pt := 55) d_51_19 (by decide) rfl (fun c => ?_) (fun c => ?_)
  · replace h := h.1 c
    refine g_lloadn (pc' := 56) d_51_55 rfl rfl ?_
    exact g_lret d_51_56 rt_51 h
  · replace h := h.2 c
    refine g_aload (pc' := 24) d_51_22 rfl rfl ?_
    refine g_iload (pc' := 26) d_51_24 rfl rfl ?_
    obtain ⟨hc1, h⟩ := h
    obtain ⟨hc2, h⟩ := h
    refine g_pald (pc' := 27) d_51_26 rfl hc1 hc2 ?_
    have h := h _ rfl
    refine g_istore (pc' := 29) (l' := [some (.int i0), some (.int i1), some (.long l2), none, some (.ref xP), some (.int i5), some (.int i6), some (.int ((xpr i6.toNatClampNeg)))]) d_51_27 rfl ml_51 rfl rfl ?_
    refine g_iload (pc' := 31) d_51_29 rfl rfl ?_
    refine g_iloadn (pc' := 32) d_51_31 rfl rfl ?_
    obtain ⟨r6, w4, hk5, h⟩ := h
    refine g_callS (pc' := 35) d_51_32 rfl st_51_187 (Or.inl rfl) na_52 ml_52 rfl rfl rfl rm_51_52 rfl rfl hk5 ?_
    refine g_if_eq (pc' := 38) (pt := 49) d_51_35 (by decide) rfl (fun c => ?_) (fun c => ?_)
    · replace h := h.1 c
      have h := h _ rfl
      refine g_iinc (pc' := 52) (l' := [some (.int i0), some (.int i1), some (.long l2), none, some (.ref xP), some (.int i5), some (.int (i6 + (1 : Int32))), some (.int ((xpr i6.toNatClampNeg)))]) d_51_49 rfl rfl ci_1 ml_51 rfl rfl ?_
      refine g_goto (pt := 15) d_51_52 (by decide) ?_
      exact h
    · replace h := h.2 c
      refine g_lloadn (pc' := 39) d_51_38 rfl rfl ?_
      refine g_iload (pc' := 41) d_51_39 rfl rfl ?_
      refine g_i2l (pc' := 42) d_51_41 rfl ?_
      refine g_iloadn (pc' := 43) d_51_42 rfl rfl ?_
      refine g_i2l (pc' := 44) d_51_43 rfl ?_
      obtain ⟨r10, w8, hk9, h⟩ := h
      refine g_callS (pc' := 47) d_51_44 rfl st_51_316 (Or.inl rfl) na_53 ml_53 rfl rfl rfl rm_51_53 rfl rfl hk9 ?_
      refine g_ladd (pc' := 48) d_51_47 rfl ?_
      have h := h _ rfl
      refine g_lstoren (pc' := 49) (l' := [some (.int i0), some (.int i1), some (.long ((l2 + r10))), none, some (.ref xP), some (.int i5), some (.int i6), some (.int ((xpr i6.toNatClampNeg)))]) d_51_48 rfl ml_51 rfl rfl ?_
      have h := h _ rfl
      refine g_iinc (pc' := 52) (l' := [some (.int i0), some (.int i1), some (.long ((l2 + r10))), none, some (.ref xP), some (.int i5), some (.int (i6 + (1 : Int32))), some (.int ((xpr i6.toNatClampNeg)))]) d_51_49 rfl rfl ci_1 ml_51 rfl rfl ?_
      refine g_goto (pt := 15) d_51_52 (by decide) ?_
      exact h
-- 52 BernoulliWays.isBelow(II)Z
theorem S_52_0 {i0 : Int32} {i1 : Int32} {w : xW} {r : Option Value × xW} (h : (¬ i1 = (1 : Int32) → ∃ r3 w1, xCall 47 [.int i1] w (some (.int r3), w1) ∧ (r3 = 0 → r = (some (.int (0 : Int32)), w1)) ∧ (¬ (r3 = 0) → (i0 ≤ (1 : Int32) → r = (some (.int (0 : Int32)), w1)) ∧ (¬ (i0 ≤ (1 : Int32)) → (¬ (i0 - (1 : Int32)) = 0) ∧ (¬ (irem i1 (i0 - (1 : Int32))) = 0 → r = (some (.int (0 : Int32)), w1)) ∧ (¬ (¬ (irem i1 (i0 - (1 : Int32))) = 0) → r = (some (.int (1 : Int32)), w1))))) ∧ (¬ (¬ i1 = (1 : Int32)) → (¬ i0 = (2 : Int32) → r = (some (.int (0 : Int32)), w)) ∧ (¬ (¬ i0 = (2 : Int32)) → r = (some (.int (1 : Int32)), w)))) : xGo 52 0 [some (.int i0), some (.int i1)] [] w r := by
  refine g_iloadn (pc' := 1) d_52_0 rfl rfl ?_
  refine g_iconst (pc' := 2) d_52_1 rfl ci_1 ?_
  refine g_ic_ne (pc' := 5) (pt := 16) d_52_2 (by decide) rfl (fun c => ?_) (fun c => ?_)
  · replace h := h.1 c
    refine g_iloadn (pc' := 17) d_52_16 rfl rfl ?_
    obtain ⟨r3, w1, hk2, h⟩ := h
    refine g_callS (pc' := 20) d_52_17 rfl st_52_190 (Or.inl rfl) na_47 ml_47 rfl rfl rfl rm_52_47 rfl rfl hk2 ?_
    refine g_if_eq (pc' := 23) (pt := 40) d_52_20 (by decide) rfl (fun c => ?_) (fun c => ?_)
    · replace h := h.1 c
      refine g_iconst (pc' := 41) d_52_40 rfl ci_0 ?_
      exact g_zret d_52_41 rt_52 (Or.inl rfl) h
    · replace h := h.2 c
      refine g_iloadn (pc' := 24) d_52_23 rfl rfl ?_
      refine g_iconst (pc' := 25) d_52_24 rfl ci_1 ?_
      refine g_ic_le (pc' := 28) (pt := 40) d_52_25 (by decide) rfl (fun c => ?_) (fun c => ?_)
      · replace h := h.1 c
        refine g_iconst (pc' := 41) d_52_40 rfl ci_0 ?_
        exact g_zret d_52_41 rt_52 (Or.inl rfl) h
      · replace h := h.2 c
        refine g_iloadn (pc' := 29) d_52_28 rfl rfl ?_
        refine g_iloadn (pc' := 30) d_52_29 rfl rfl ?_
        refine g_iconst (pc' := 31) d_52_30 rfl ci_1 ?_
        refine g_isub (pc' := 32) d_52_31 rfl ?_
        obtain ⟨hc4, h⟩ := h
        refine g_irem (pc' := 33) d_52_32 rfl hc4 ?_
        refine g_if_ne (pc' := 36) (pt := 40) d_52_33 (by decide) rfl (fun c => ?_) (fun c => ?_)
        · replace h := h.1 c
          refine g_iconst (pc' := 41) d_52_40 rfl ci_0 ?_
          exact g_zret d_52_41 rt_52 (Or.inl rfl) h
        · replace h := h.2 c
          refine g_iconst (pc' := 37) d_52_36 rfl ci_1 ?_
          refine g_goto (pt := 41) d_52_37 (by decide) ?_
          exact g_zret d_52_41 rt_52 (Or.inr rfl) h
  · replace h := h.2 c
    refine g_iloadn (pc' := 6) d_52_5 rfl rfl ?_
    refine g_iconst (pc' := 7) d_52_6 rfl ci_2 ?_
    refine g_ic_ne (pc' := 10) (pt := 14) d_52_7 (by decide) rfl (fun c => ?_) (fun c => ?_)
    · replace h := h.1 c
      refine g_iconst (pc' := 15) d_52_14 rfl ci_0 ?_
      exact g_zret d_52_15 rt_52 (Or.inl rfl) h
    · replace h := h.2 c
      refine g_iconst (pc' := 11) d_52_10 rfl ci_1 ?_
      refine g_goto (pt := 15) d_52_11 (by decide) ?_
      exact g_zret d_52_15 rt_52 (Or.inr rfl) h
-- 53 BernoulliWays$Modulo.inverse(JJ)J
theorem S_53_0 {l0 : Int64} {l2 : Int64} {w : xW} {r : Option Value × xW} (h : ((0 : Int64) < l2 → ∃ r3 w1, xCall 17 [.long l0, .long l2] w (some (.long r3), w1) ∧ xGo 53 27 [some (.long l0), none, some (.long l2), none, some (.long l2), none, some (.long r3), none, some (.long (0 : Int64)), none, some (.long (1 : Int64)), none, some (.int (0 : Int32)), none, none, none, none, none, none] [] w1 r) ∧ (¬ ((0 : Int64) < l2) → r = (some (.long (0 : Int64)), w))) : xGo 53 0 [some (.long l0), none, some (.long l2), none, none, none, none, none, none, none, none, none, none, none, none, none, none, none, none] [] w r := by
  refine g_lloadn (pc' := 1) d_53_0 rfl rfl ?_
  refine g_lconst (pc' := 2) d_53_1 rfl cl_0 ?_
  refine g_lc_gt (pc' := 6) (pm := 3) (pt := 8) d_53_2 rfl d_53_3 (by decide) rfl (fun c => ?_) (fun c => ?_)
  · replace h := h.1 c
    refine g_lloadn (pc' := 9) d_53_8 rfl rfl ?_
    refine g_lstore (pc' := 11) (l' := [some (.long l0), none, some (.long l2), none, some (.long l2), none, none, none, none, none, none, none, none, none, none, none, none, none, none]) d_53_9 rfl ml_53 rfl rfl ?_
    refine g_lloadn (pc' := 12) d_53_11 rfl rfl ?_
    refine g_lloadn (pc' := 13) d_53_12 rfl rfl ?_
    obtain ⟨r3, w1, hk2, h⟩ := h
    refine g_callS (pc' := 16) d_53_13 rfl st_53_7 (Or.inl rfl) na_17 ml_17 rfl rfl rfl rm_53_17 rfl rfl hk2 ?_
    refine g_lstore (pc' := 18) (l' := [some (.long l0), none, some (.long l2), none, some (.long l2), none, some (.long r3), none, none, none, none, none, none, none, none, none, none, none, none]) d_53_16 rfl ml_53 rfl rfl ?_
    refine g_lconst (pc' := 19) d_53_18 rfl cl_0 ?_
    refine g_lstore (pc' := 21) (l' := [some (.long l0), none, some (.long l2), none, some (.long l2), none, some (.long r3), none, some (.long (0 : Int64)), none, none, none, none, none, none, none, none, none, none]) d_53_19 rfl ml_53 rfl rfl ?_
    refine g_lconst (pc' := 22) d_53_21 rfl cl_1 ?_
    refine g_lstore (pc' := 24) (l' := [some (.long l0), none, some (.long l2), none, some (.long l2), none, some (.long r3), none, some (.long (0 : Int64)), none, some (.long (1 : Int64)), none, none, none, none, none, none, none, none]) d_53_22 rfl ml_53 rfl rfl ?_
    refine g_iconst (pc' := 25) d_53_24 rfl ci_0 ?_
    refine g_istore (pc' := 27) (l' := [some (.long l0), none, some (.long l2), none, some (.long l2), none, some (.long r3), none, some (.long (0 : Int64)), none, some (.long (1 : Int64)), none, some (.int (0 : Int32)), none, none, none, none, none, none]) d_53_25 rfl ml_53 rfl rfl ?_
    exact h
  · replace h := h.2 c
    refine g_lconst (pc' := 7) d_53_6 rfl cl_0 ?_
    exact g_lret d_53_7 rt_53 h
theorem S_53_27 {l0 : Int64} {l2 : Int64} {l4 : Int64} {l6 : Int64} {l8 : Int64} {l10 : Int64} {i12 : Int32} {w : xW} {r : Option Value × xW} (h : ((100 : Int32) ≤ i12 → ∃ r3 w1, xCall 17 [.long l8, .long l2] w (some (.long r3), w1) ∧ r = (some (.long r3), w1)) ∧ (¬ ((100 : Int32) ≤ i12) → (l6 ≤ (0 : Int64) → ∃ r6 w4, xCall 17 [.long l8, .long l2] w (some (.long r6), w4) ∧ r = (some (.long r6), w4)) ∧ (¬ (l6 ≤ (0 : Int64)) → (¬ l6 = 0) ∧ ∀ v8 : Int64, v8 = (l4 / l6) → ∀ v9 : Int64, v9 = (l4 - (v8 * l6)) → ∀ v10 : Int64, v10 = (l8 - (v8 * l10)) → ∀ v11 : Int32, v11 = i12 + (1 : Int32) → xGo 53 27 [some (.long l0), none, some (.long l2), none, some (.long l6), none, some (.long v9), none, some (.long l10), none, some (.long v10), none, some (.int v11), some (.long v8), none, some (.long v9), none, some (.long v10), none] [] w r))) : xGo 53 27 [some (.long l0), none, some (.long l2), none, some (.long l4), none, some (.long l6), none, some (.long l8), none, some (.long l10), none, some (.int i12), none, none, none, none, none, none] [] w r := by
  refine g_iload (pc' := 29) d_53_27 rfl rfl ?_
  refine g_bipush (pc' := 31) d_53_29 rfl cb_100 ?_
  refine g_ic_ge (pc' := 34) (pt := 90) d_53_31 (by decide) rfl (fun c => ?_) (fun c => ?_)
  · replace h := h.1 c
    refine g_lload (pc' := 92) d_53_90 rfl rfl ?_
    refine g_lloadn (pc' := 93) d_53_92 rfl rfl ?_
    obtain ⟨r3, w1, hk2, h⟩ := h
    refine g_callS (pc' := 96) d_53_93 rfl st_53_7 (Or.inl rfl) na_17 ml_17 rfl rfl rfl rm_53_17 rfl rfl hk2 ?_
    exact g_lret d_53_96 rt_53 h
  · replace h := h.2 c
    refine g_lload (pc' := 36) d_53_34 rfl rfl ?_
    refine g_lconst (pc' := 37) d_53_36 rfl cl_0 ?_
    refine g_lc_le (pc' := 41) (pm := 38) (pt := 90) d_53_37 rfl d_53_38 (by decide) rfl (fun c => ?_) (fun c => ?_)
    · replace h := h.1 c
      refine g_lload (pc' := 92) d_53_90 rfl rfl ?_
      refine g_lloadn (pc' := 93) d_53_92 rfl rfl ?_
      obtain ⟨r6, w4, hk5, h⟩ := h
      refine g_callS (pc' := 96) d_53_93 rfl st_53_7 (Or.inl rfl) na_17 ml_17 rfl rfl rfl rm_53_17 rfl rfl hk5 ?_
      exact g_lret d_53_96 rt_53 h
    · replace h := h.2 c
      refine g_lload (pc' := 43) d_53_41 rfl rfl ?_
      refine g_lload (pc' := 45) d_53_43 rfl rfl ?_
      obtain ⟨hc7, h⟩ := h
      refine g_ldiv (pc' := 46) d_53_45 rfl hc7 ?_
      have h := h _ rfl
      refine g_lstore (pc' := 48) (l' := [some (.long l0), none, some (.long l2), none, some (.long l4), none, some (.long l6), none, some (.long l8), none, some (.long l10), none, some (.int i12), some (.long ((l4 / l6))), none, none, none, none, none]) d_53_46 rfl ml_53 rfl rfl ?_
      refine g_lload (pc' := 50) d_53_48 rfl rfl ?_
      refine g_lload (pc' := 52) d_53_50 rfl rfl ?_
      refine g_lload (pc' := 54) d_53_52 rfl rfl ?_
      refine g_lmul (pc' := 55) d_53_54 rfl ?_
      refine g_lsub (pc' := 56) d_53_55 rfl ?_
      have h := h _ rfl
      refine g_lstore (pc' := 58) (l' := [some (.long l0), none, some (.long l2), none, some (.long l4), none, some (.long l6), none, some (.long l8), none, some (.long l10), none, some (.int i12), some (.long ((l4 / l6))), none, some (.long ((l4 - (((l4 / l6)) * l6)))), none, none, none]) d_53_56 rfl ml_53 rfl rfl ?_
      refine g_lload (pc' := 60) d_53_58 rfl rfl ?_
      refine g_lload (pc' := 62) d_53_60 rfl rfl ?_
      refine g_lload (pc' := 64) d_53_62 rfl rfl ?_
      refine g_lmul (pc' := 65) d_53_64 rfl ?_
      refine g_lsub (pc' := 66) d_53_65 rfl ?_
      have h := h _ rfl
      refine g_lstore (pc' := 68) (l' := [some (.long l0), none, some (.long l2), none, some (.long l4), none, some (.long l6), none, some (.long l8), none, some (.long l10), none, some (.int i12), some (.long ((l4 / l6))), none, some (.long ((l4 - (((l4 / l6)) * l6)))), none, some (.long ((l8 - (((l4 / l6)) * l10)))), none]) d_53_66 rfl ml_53 rfl rfl ?_
      refine g_lload (pc' := 70) d_53_68 rfl rfl ?_
      refine g_lstore (pc' := 72) (l' := [some (.long l0), none, some (.long l2), none, some (.long l6), none, some (.long l6), none, some (.long l8), none, some (.long l10), none, some (.int i12), some (.long ((l4 / l6))), none, some (.long ((l4 - (((l4 / l6)) * l6)))), none, some (.long ((l8 - (((l4 / l6)) * l10)))), none]) d_53_70 rfl ml_53 rfl rfl ?_
      refine g_lload (pc' := 74) d_53_72 rfl rfl ?_
      refine g_lstore (pc' := 76) (l' := [some (.long l0), none, some (.long l2), none, some (.long l6), none, some (.long ((l4 - (((l4 / l6)) * l6)))), none, some (.long l8), none, some (.long l10), none, some (.int i12), some (.long ((l4 / l6))), none, some (.long ((l4 - (((l4 / l6)) * l6)))), none, some (.long ((l8 - (((l4 / l6)) * l10)))), none]) d_53_74 rfl ml_53 rfl rfl ?_
      refine g_lload (pc' := 78) d_53_76 rfl rfl ?_
      refine g_lstore (pc' := 80) (l' := [some (.long l0), none, some (.long l2), none, some (.long l6), none, some (.long ((l4 - (((l4 / l6)) * l6)))), none, some (.long l10), none, some (.long l10), none, some (.int i12), some (.long ((l4 / l6))), none, some (.long ((l4 - (((l4 / l6)) * l6)))), none, some (.long ((l8 - (((l4 / l6)) * l10)))), none]) d_53_78 rfl ml_53 rfl rfl ?_
      refine g_lload (pc' := 82) d_53_80 rfl rfl ?_
      refine g_lstore (pc' := 84) (l' := [some (.long l0), none, some (.long l2), none, some (.long l6), none, some (.long ((l4 - (((l4 / l6)) * l6)))), none, some (.long l10), none, some (.long ((l8 - (((l4 / l6)) * l10)))), none, some (.int i12), some (.long ((l4 / l6))), none, some (.long ((l4 - (((l4 / l6)) * l6)))), none, some (.long ((l8 - (((l4 / l6)) * l10)))), none]) d_53_82 rfl ml_53 rfl rfl ?_
      have h := h _ rfl
      refine g_iinc (pc' := 87) (l' := [some (.long l0), none, some (.long l2), none, some (.long l6), none, some (.long ((l4 - (((l4 / l6)) * l6)))), none, some (.long l10), none, some (.long ((l8 - (((l4 / l6)) * l10)))), none, some (.int (i12 + (1 : Int32))), some (.long ((l4 / l6))), none, some (.long ((l4 - (((l4 / l6)) * l6)))), none, some (.long ((l8 - (((l4 / l6)) * l10)))), none]) d_53_84 rfl rfl ci_1 ml_53 rfl rfl ?_
      refine g_goto (pt := 27) d_53_87 (by decide) ?_
      exact h
-- 54 BernoulliWays$Modulo.least(JJ)J
theorem S_54_0 {l0 : Int64} {l2 : Int64} {w : xW} {r : Option Value × xW} (h : (l2 ≤ (0 : Int64) → r = (some (.long (0 : Int64)), w)) ∧ (¬ (l2 ≤ (0 : Int64)) → ∃ r3 w1, xCall 17 [.long l0, .long l2] w (some (.long r3), w1) ∧ r = (some (.long r3), w1))) : xGo 54 0 [some (.long l0), none, some (.long l2), none] [] w r := by
  refine g_lloadn (pc' := 1) d_54_0 rfl rfl ?_
  refine g_lconst (pc' := 2) d_54_1 rfl cl_0 ?_
  refine g_lc_le (pc' := 6) (pm := 3) (pt := 14) d_54_2 rfl d_54_3 (by decide) rfl (fun c => ?_) (fun c => ?_)
  · replace h := h.1 c
    refine g_lconst (pc' := 15) d_54_14 rfl cl_0 ?_
    exact g_lret d_54_15 rt_54 h
  · replace h := h.2 c
    refine g_lloadn (pc' := 7) d_54_6 rfl rfl ?_
    refine g_lloadn (pc' := 8) d_54_7 rfl rfl ?_
    obtain ⟨r3, w1, hk2, h⟩ := h
    refine g_callS (pc' := 11) d_54_8 rfl st_54_7 (Or.inl rfl) na_17 ml_17 rfl rfl rfl rm_54_17 rfl rfl hk2 ?_
    refine g_goto (pt := 15) d_54_11 (by decide) ?_
    exact g_lret d_54_15 rt_54 h
-- 55 BernoulliWays.addPrimesBelow(II)V
theorem S_55_0 {a0 : Nat} {i1 : Int32} {i2 : Int32} {w : xW} {r : Option Value × xW} (h : (w[xP]? = none) ∧ xGo 55 11 [some (.ref a0), some (.int i1), some (.int i2), some (.ref xP), some (.int (46 : Int32)), some (.int (0 : Int32)), none] [] w r) : xGo 55 0 [some (.ref a0), some (.int i1), some (.int i2), none, none, none, none] [] w r := by
  refine g_gets (pc' := 3) d_55_0 rfl st_55_184 (Or.inl rfl) ?_
  refine g_astoren (pc' := 4) (l' := [some (.ref a0), some (.int i1), some (.int i2), some (.ref xP), none, none, none]) d_55_3 rfl ml_55 rfl rfl ?_
  refine g_aloadn (pc' := 5) d_55_4 rfl rfl ?_
  obtain ⟨hc1, h⟩ := h
  refine g_lenp (pc' := 6) d_55_5 rfl hc1 ?_
  refine g_istore (pc' := 8) (l' := [some (.ref a0), some (.int i1), some (.int i2), some (.ref xP), some (.int (46 : Int32)), none, none]) d_55_6 rfl ml_55 rfl rfl ?_
  refine g_iconst (pc' := 9) d_55_8 rfl ci_0 ?_
  refine g_istore (pc' := 11) (l' := [some (.ref a0), some (.int i1), some (.int i2), some (.ref xP), some (.int (46 : Int32)), some (.int (0 : Int32)), none]) d_55_9 rfl ml_55 rfl rfl ?_
  exact h
theorem S_55_11 {a0 : Nat} {i1 : Int32} {i2 : Int32} {i4 : Int32} {i5 : Int32} {w : xW} {r : Option Value × xW} (h : (i4 ≤ i5 → r = (none, w)) ∧ (¬ (i4 ≤ i5) → (w[xP]? = none) ∧ (¬ (i5 < 0 ∨ 46 ≤ i5.toNatClampNeg)) ∧ ∀ v3 : Int32, v3 = (xpr i5.toNatClampNeg) → ∃ r6 w4, xCall 52 [.int v3, .int i1] w (some (.int r6), w4) ∧ (r6 = 0 → ∀ v7 : Int32, v7 = i5 + (1 : Int32) → xGo 55 11 [some (.ref a0), some (.int i1), some (.int i2), some (.ref xP), some (.int i4), some (.int v7), some (.int v3)] [] w4 r) ∧ (¬ (r6 = 0) → ∃ fs8, w4[a0]? = some (.inr (0, fs8)) ∧ ∃ b10, fs8[1]? = some (.ref b10) ∧ ∃ fs12, w4[b10]? = some (.inr (2, fs12)) ∧ ∃ w14, xCall 41 [.ref b10, .long (i2.toInt64), .long (0 : Int64), .long (1 : Int64), .long (v3.toInt64)] w4 (none, w14) ∧ ∀ v16 : Int32, v16 = i5 + (1 : Int32) → xGo 55 11 [some (.ref a0), some (.int i1), some (.int i2), some (.ref xP), some (.int i4), some (.int v16), some (.int v3)] [] w14 r))) : xGo 55 11 [some (.ref a0), some (.int i1), some (.int i2), some (.ref xP), some (.int i4), some (.int i5), none] [] w r := by
  refine g_iload (pc' := 13) d_55_11 rfl rfl ?_
  refine g_iload (pc' := 15) d_55_13 rfl rfl ?_
  refine g_ic_ge (pc' := 18) (pt := 53) d_55_15 (by decide) rfl (fun c => ?_) (fun c => ?_)
  · replace h := h.1 c
    exact g_vret d_55_53 rt_55 h
  · replace h := h.2 c
    refine g_aloadn (pc' := 19) d_55_18 rfl rfl ?_
    refine g_iload (pc' := 21) d_55_19 rfl rfl ?_
    obtain ⟨hc1, h⟩ := h
    obtain ⟨hc2, h⟩ := h
    refine g_pald (pc' := 22) d_55_21 rfl hc1 hc2 ?_
    have h := h _ rfl
    refine g_istore (pc' := 24) (l' := [some (.ref a0), some (.int i1), some (.int i2), some (.ref xP), some (.int i4), some (.int i5), some (.int ((xpr i5.toNatClampNeg)))]) d_55_22 rfl ml_55 rfl rfl ?_
    refine g_iload (pc' := 26) d_55_24 rfl rfl ?_
    refine g_iloadn (pc' := 27) d_55_26 rfl rfl ?_
    obtain ⟨r6, w4, hk5, h⟩ := h
    refine g_callS (pc' := 30) d_55_27 rfl st_55_187 (Or.inl rfl) na_52 ml_52 rfl rfl rfl rm_55_52 rfl rfl hk5 ?_
    refine g_if_eq (pc' := 33) (pt := 47) d_55_30 (by decide) rfl (fun c => ?_) (fun c => ?_)
    · replace h := h.1 c
      have h := h _ rfl
      refine g_iinc (pc' := 50) (l' := [some (.ref a0), some (.int i1), some (.int i2), some (.ref xP), some (.int i4), some (.int (i5 + (1 : Int32))), some (.int ((xpr i5.toNatClampNeg)))]) d_55_47 rfl rfl ci_1 ml_55 rfl rfl ?_
      refine g_goto (pt := 11) d_55_50 (by decide) ?_
      exact h
    · replace h := h.2 c
      refine g_aloadn (pc' := 34) d_55_33 rfl rfl ?_
      obtain ⟨fs8, hw9, h⟩ := h
      obtain ⟨b10, hv11, h⟩ := h
      refine g_getf (pc' := 37) d_55_34 rfl st_55_21 hw9 hv11 ?_
      refine g_iloadn (pc' := 38) d_55_37 rfl rfl ?_
      refine g_i2l (pc' := 39) d_55_38 rfl ?_
      refine g_lconst (pc' := 40) d_55_39 rfl cl_0 ?_
      refine g_lconst (pc' := 41) d_55_40 rfl cl_1 ?_
      refine g_iload (pc' := 43) d_55_41 rfl rfl ?_
      refine g_i2l (pc' := 44) d_55_43 rfl ?_
      obtain ⟨fs12, hw13, h⟩ := h
      obtain ⟨w14, hk15, h⟩ := h
      refine g_callV (pc' := 47) d_55_44 rfl st_55_207 na_41 ml_41 rfl rfl rfl rm_55_41 rfl rfl ow_41 hw13 hk15 ?_
      have h := h _ rfl
      refine g_iinc (pc' := 50) (l' := [some (.ref a0), some (.int i1), some (.int i2), some (.ref xP), some (.int i4), some (.int (i5 + (1 : Int32))), some (.int ((xpr i5.toNatClampNeg)))]) d_55_47 rfl rfl ci_1 ml_55 rfl rfl ?_
      refine g_goto (pt := 11) d_55_50 (by decide) ?_
      exact h
-- 56 BernoulliWays$Entries.holds(ILBernoulliWays$Fraction;)Z
theorem S_56_0 {a0 : Nat} {i1 : Int32} {a2 : Nat} {w : xW} {r : Option Value × xW} (h : ∃ fs1, w[a0]? = some (.inr (4, fs1)) ∧ ∃ r5 w3, xCall 29 [.ref a0, .int i1] w (some (.long r5), w3) ∧ ∃ fs6, w3[a2]? = some (.inr (5, fs6)) ∧ ∃ x8, fs6[0]? = some (.long x8) ∧ (¬ r5 = x8 → r = (some (.int (0 : Int32)), w3)) ∧ (¬ (¬ r5 = x8) → ∃ fs10, w3[a0]? = some (.inr (4, fs10)) ∧ ∃ r14 w12, xCall 30 [.ref a0, .int i1] w3 (some (.long r14), w12) ∧ ∃ fs15, w12[a2]? = some (.inr (5, fs15)) ∧ ∃ x17, fs15[1]? = some (.long x17) ∧ (¬ r14 = x17 → r = (some (.int (0 : Int32)), w12)) ∧ (¬ (¬ r14 = x17) → ∃ fs19, w12[a0]? = some (.inr (4, fs19)) ∧ ∃ r23 w21, xCall 31 [.ref a0, .int i1] w12 (some (.long r23), w21) ∧ ∃ fs24, w21[a2]? = some (.inr (5, fs24)) ∧ ∃ x26, fs24[2]? = some (.long x26) ∧ (¬ r23 = x26 → r = (some (.int (0 : Int32)), w21)) ∧ (¬ (¬ r23 = x26) → r = (some (.int (1 : Int32)), w21))))) : xGo 56 0 [some (.ref a0), some (.int i1), some (.ref a2)] [] w r := by
  refine g_aloadn (pc' := 1) d_56_0 rfl rfl ?_
  refine g_iloadn (pc' := 2) d_56_1 rfl rfl ?_
  obtain ⟨fs1, hw2, h⟩ := h
  obtain ⟨r5, w3, hk4, h⟩ := h
  refine g_callV (pc' := 5) d_56_2 rfl st_56_38 na_29 ml_29 rfl rfl rfl rm_56_29 rfl rfl ow_29 hw2 hk4 ?_
  refine g_aloadn (pc' := 6) d_56_5 rfl rfl ?_
  obtain ⟨fs6, hw7, h⟩ := h
  obtain ⟨x8, hv9, h⟩ := h
  refine g_getf (pc' := 9) d_56_6 rfl st_56_45 hw7 hv9 ?_
  refine g_lc_ne (pc' := 13) (pm := 10) (pt := 43) d_56_9 rfl d_56_10 (by decide) rfl (fun c => ?_) (fun c => ?_)
  · replace h := h.1 c
    refine g_iconst (pc' := 44) d_56_43 rfl ci_0 ?_
    exact g_zret d_56_44 rt_56 (Or.inl rfl) h
  · replace h := h.2 c
    refine g_aloadn (pc' := 14) d_56_13 rfl rfl ?_
    refine g_iloadn (pc' := 15) d_56_14 rfl rfl ?_
    obtain ⟨fs10, hw11, h⟩ := h
    obtain ⟨r14, w12, hk13, h⟩ := h
    refine g_callV (pc' := 18) d_56_15 rfl st_56_42 na_30 ml_30 rfl rfl rfl rm_56_30 rfl rfl ow_30 hw11 hk13 ?_
    refine g_aloadn (pc' := 19) d_56_18 rfl rfl ?_
    obtain ⟨fs15, hw16, h⟩ := h
    obtain ⟨x17, hv18, h⟩ := h
    refine g_getf (pc' := 22) d_56_19 rfl st_56_49 hw16 hv18 ?_
    refine g_lc_ne (pc' := 26) (pm := 23) (pt := 43) d_56_22 rfl d_56_23 (by decide) rfl (fun c => ?_) (fun c => ?_)
    · replace h := h.1 c
      refine g_iconst (pc' := 44) d_56_43 rfl ci_0 ?_
      exact g_zret d_56_44 rt_56 (Or.inl rfl) h
    · replace h := h.2 c
      refine g_aloadn (pc' := 27) d_56_26 rfl rfl ?_
      refine g_iloadn (pc' := 28) d_56_27 rfl rfl ?_
      obtain ⟨fs19, hw20, h⟩ := h
      obtain ⟨r23, w21, hk22, h⟩ := h
      refine g_callV (pc' := 31) d_56_28 rfl st_56_55 na_31 ml_31 rfl rfl rfl rm_56_31 rfl rfl ow_31 hw20 hk22 ?_
      refine g_aloadn (pc' := 32) d_56_31 rfl rfl ?_
      obtain ⟨fs24, hw25, h⟩ := h
      obtain ⟨x26, hv27, h⟩ := h
      refine g_getf (pc' := 35) d_56_32 rfl st_56_52 hw25 hv27 ?_
      refine g_lc_ne (pc' := 39) (pm := 36) (pt := 43) d_56_35 rfl d_56_36 (by decide) rfl (fun c => ?_) (fun c => ?_)
      · replace h := h.1 c
        refine g_iconst (pc' := 44) d_56_43 rfl ci_0 ?_
        exact g_zret d_56_44 rt_56 (Or.inl rfl) h
      · replace h := h.2 c
        refine g_iconst (pc' := 40) d_56_39 rfl ci_1 ?_
        refine g_goto (pt := 44) d_56_40 (by decide) ?_
        exact g_zret d_56_44 rt_56 (Or.inr rfl) h
-- 57 BernoulliWays.noteWay(II)V
theorem S_57_0 {a0 : Nat} {i1 : Int32} {i2 : Int32} {w : xW} {r : Option Value × xW} (h : (i1 < 0 → r = (none, w)) ∧ (¬ (i1 < 0) → ∃ fs1, w[a0]? = some (.inr (0, fs1)) ∧ ∃ b3, fs1[6]? = some (.ref b3) ∧ ∃ n5 f6, w[b3]? = some (.inl (.inl (n5, f6))) ∧ ((Int32.ofNat n5) ≤ i1 → r = (none, w)) ∧ (¬ ((Int32.ofNat n5) ≤ i1) → (¬ (i1 < 0 ∨ n5 ≤ i1.toNatClampNeg)) ∧ ∀ w9, w9 = w.set b3 (.inl (.inl (n5, (upd f6 i1.toNatClampNeg i2)))) → r = (none, w9)))) : xGo 57 0 [some (.ref a0), some (.int i1), some (.int i2)] [] w r := by
  refine g_iloadn (pc' := 1) d_57_0 rfl rfl ?_
  refine g_if_lt (pc' := 4) (pt := 20) d_57_1 (by decide) rfl (fun c => ?_) (fun c => ?_)
  · replace h := h.1 c
    exact g_vret d_57_20 rt_57 h
  · replace h := h.2 c
    refine g_iloadn (pc' := 5) d_57_4 rfl rfl ?_
    refine g_aloadn (pc' := 6) d_57_5 rfl rfl ?_
    obtain ⟨fs1, hw2, h⟩ := h
    obtain ⟨b3, hv4, h⟩ := h
    refine g_getf (pc' := 9) d_57_6 rfl st_57_45 hw2 hv4 ?_
    obtain ⟨n5, f6, hw7, h⟩ := h
    refine g_leni (pc' := 10) d_57_9 rfl hw7 ?_
    refine g_ic_ge (pc' := 13) (pt := 20) d_57_10 (by decide) rfl (fun c => ?_) (fun c => ?_)
    · replace h := h.1 c
      exact g_vret d_57_20 rt_57 h
    · replace h := h.2 c
      refine g_aloadn (pc' := 14) d_57_13 rfl rfl ?_
      refine g_getf (pc' := 17) d_57_14 rfl st_57_45 hw2 hv4 ?_
      refine g_iloadn (pc' := 18) d_57_17 rfl rfl ?_
      refine g_iloadn (pc' := 19) d_57_18 rfl rfl ?_
      obtain ⟨hc8, h⟩ := h
      have h := h _ rfl
      refine g_iast (pc' := 20) d_57_19 rfl hw7 hc8 ?_
      exact g_vret d_57_20 rt_57 h
-- 58 BernoulliWays.relay(II)I
theorem S_58_0 {a0 : Nat} {i1 : Int32} {i2 : Int32} {w : xW} {r : Option Value × xW} (h : ∃ r3 w1, xCall 24 [.int i1] w (some (.int r3), w1) ∧ (r3 = 0 → r = (some (.int (-1 : Int32)), w1)) ∧ (¬ (r3 = 0) → ∃ r6 w4, xCall 25 [.int i2] w1 (some (.int r6), w4) ∧ (¬ r6 = 0 → ∃ fs7, w4[a0]? = some (.inr (0, fs7)) ∧ ∃ x9, fs7[7]? = some (.int x9) ∧ (i1 ≤ x9 → (¬ i2 = 0 → ∃ r13 w11, xCall 32 [.ref a0, .int i1, .int i2] w4 (some (.int r13), w11) ∧ (r13 = 0 → r = (some (.int (0 : Int32)), w11)) ∧ (¬ (r13 = 0) → r = (some (.int (1 : Int32)), w11))) ∧ (¬ (¬ i2 = 0) → ∃ r16 w14, xCall 26 [.ref a0, .int i1] w4 (some (.int r16), w14) ∧ (¬ r16 = 0 → ∃ fs17, w14[a0]? = some (.inr (0, fs17)) ∧ ∃ r21 w19, xCall 32 [.ref a0, .int i1, .int i2] w14 (some (.int r21), w19) ∧ (r21 = 0 → r = (some (.int (0 : Int32)), w19)) ∧ (¬ (r21 = 0) → r = (some (.int (1 : Int32)), w19))) ∧ (¬ (¬ r16 = 0) → r = (some (.int (-3 : Int32)), w14)))) ∧ (¬ (i1 ≤ x9) → r = (some (.int (-2 : Int32)), w4))) ∧ (¬ (¬ r6 = 0) → r = (some (.int (-1 : Int32)), w4)))) : xGo 58 0 [some (.ref a0), some (.int i1), some (.int i2)] [] w r := by
  refine g_iloadn (pc' := 1) d_58_0 rfl rfl ?_
  obtain ⟨r3, w1, hk2, h⟩ := h
  refine g_callS (pc' := 4) d_58_1 rfl st_58_120 (Or.inl rfl) na_24 ml_24 rfl rfl rfl rm_58_24 rfl rfl hk2 ?_
  refine g_if_eq (pc' := 7) (pt := 14) d_58_4 (by decide) rfl (fun c => ?_) (fun c => ?_)
  · replace h := h.1 c
    refine g_iconst (pc' := 15) d_58_14 rfl ci_m1 ?_
    exact g_iret d_58_15 rt_58 h
  · replace h := h.2 c
    refine g_iloadn (pc' := 8) d_58_7 rfl rfl ?_
    obtain ⟨r6, w4, hk5, h⟩ := h
    refine g_callS (pc' := 11) d_58_8 rfl st_58_124 (Or.inl rfl) na_25 ml_25 rfl rfl rfl rm_58_25 rfl rfl hk5 ?_
    refine g_if_ne (pc' := 14) (pt := 16) d_58_11 (by decide) rfl (fun c => ?_) (fun c => ?_)
    · replace h := h.1 c
      refine g_iloadn (pc' := 17) d_58_16 rfl rfl ?_
      refine g_aloadn (pc' := 18) d_58_17 rfl rfl ?_
      obtain ⟨fs7, hw8, h⟩ := h
      obtain ⟨x9, hv10, h⟩ := h
      refine g_getf (pc' := 21) d_58_18 rfl st_58_49 hw8 hv10 ?_
      refine g_ic_le (pc' := 24) (pt := 27) d_58_21 (by decide) rfl (fun c => ?_) (fun c => ?_)
      · replace h := h.1 c
        refine g_iloadn (pc' := 28) d_58_27 rfl rfl ?_
        refine g_if_ne (pc' := 31) (pt := 42) d_58_28 (by decide) rfl (fun c => ?_) (fun c => ?_)
        · replace h := h.1 c
          refine g_aloadn (pc' := 43) d_58_42 rfl rfl ?_
          refine g_iloadn (pc' := 44) d_58_43 rfl rfl ?_
          refine g_iloadn (pc' := 45) d_58_44 rfl rfl ?_
          obtain ⟨r13, w11, hk12, h⟩ := h
          refine g_callV (pc' := 48) d_58_45 rfl st_58_130 na_32 ml_32 rfl rfl rfl rm_58_32 rfl rfl ow_32 hw8 hk12 ?_
          refine g_if_eq (pc' := 51) (pt := 55) d_58_48 (by decide) rfl (fun c => ?_) (fun c => ?_)
          · replace h := h.1 c
            refine g_iconst (pc' := 56) d_58_55 rfl ci_0 ?_
            exact g_iret d_58_56 rt_58 h
          · replace h := h.2 c
            refine g_iconst (pc' := 52) d_58_51 rfl ci_1 ?_
            refine g_goto (pt := 56) d_58_52 (by decide) ?_
            exact g_iret d_58_56 rt_58 h
        · replace h := h.2 c
          refine g_aloadn (pc' := 32) d_58_31 rfl rfl ?_
          refine g_iloadn (pc' := 33) d_58_32 rfl rfl ?_
          obtain ⟨r16, w14, hk15, h⟩ := h
          refine g_callV (pc' := 36) d_58_33 rfl st_58_127 na_26 ml_26 rfl rfl rfl rm_58_26 rfl rfl ow_26 hw8 hk15 ?_
          refine g_if_ne (pc' := 39) (pt := 42) d_58_36 (by decide) rfl (fun c => ?_) (fun c => ?_)
          · replace h := h.1 c
            refine g_aloadn (pc' := 43) d_58_42 rfl rfl ?_
            refine g_iloadn (pc' := 44) d_58_43 rfl rfl ?_
            refine g_iloadn (pc' := 45) d_58_44 rfl rfl ?_
            obtain ⟨fs17, hw18, h⟩ := h
            obtain ⟨r21, w19, hk20, h⟩ := h
            refine g_callV (pc' := 48) d_58_45 rfl st_58_130 na_32 ml_32 rfl rfl rfl rm_58_32 rfl rfl ow_32 hw18 hk20 ?_
            refine g_if_eq (pc' := 51) (pt := 55) d_58_48 (by decide) rfl (fun c => ?_) (fun c => ?_)
            · replace h := h.1 c
              refine g_iconst (pc' := 56) d_58_55 rfl ci_0 ?_
              exact g_iret d_58_56 rt_58 h
            · replace h := h.2 c
              refine g_iconst (pc' := 52) d_58_51 rfl ci_1 ?_
              refine g_goto (pt := 56) d_58_52 (by decide) ?_
              exact g_iret d_58_56 rt_58 h
          · replace h := h.2 c
            refine g_bipush (pc' := 41) d_58_39 rfl cb_m3 ?_
            exact g_iret d_58_41 rt_58 h
      · replace h := h.2 c
        refine g_bipush (pc' := 26) d_58_24 rfl cb_m2 ?_
        exact g_iret d_58_26 rt_58 h
    · replace h := h.2 c
      refine g_iconst (pc' := 15) d_58_14 rfl ci_m1 ?_
      exact g_iret d_58_15 rt_58 h
-- 59 BernoulliWays.spoil(II)I
theorem S_59_0 {a0 : Nat} {i1 : Int32} {i2 : Int32} {w : xW} {r : Option Value × xW} (h : ∃ r3 w1, xCall 24 [.int i1] w (some (.int r3), w1) ∧ (r3 = 0 → r = (some (.int (-1 : Int32)), w1)) ∧ (¬ (r3 = 0) → (i2 = 0 → r = (some (.int (-1 : Int32)), w1)) ∧ (¬ (i2 = 0) → (i2 < (-9 : Int32) → r = (some (.int (-1 : Int32)), w1)) ∧ (¬ (i2 < (-9 : Int32)) → (i2 ≤ (9 : Int32) → ∃ fs4, w1[a0]? = some (.inr (0, fs4)) ∧ ∃ x6, fs4[7]? = some (.int x6) ∧ (i1 ≤ x6 → ∃ b8, fs4[4]? = some (.ref b8) ∧ ∃ fs10, w1[b8]? = some (.inr (4, fs10)) ∧ ∃ w12, xCall 60 [.ref b8, .int i1, .long (i2.toInt64)] w1 (none, w12) ∧ ∃ fs14, w12[a0]? = some (.inr (0, fs14)) ∧ ∃ w16, xCall 57 [.ref a0, .int i1, .int (3 : Int32)] w12 (none, w16) ∧ ∃ fs18, w16[a0]? = some (.inr (0, fs18)) ∧ ∃ b20, fs18[8]? = some (.ref b20) ∧ ∃ fs22, w16[b20]? = some (.inr (6, fs22)) ∧ ∃ r26 w24, xCall 61 [.ref b20, .int i1, .int (63 : Int32)] w16 (some (.int r26), w24) ∧ r = (some (.int r26), w24)) ∧ (¬ (i1 ≤ x6) → r = (some (.int (-2 : Int32)), w1))) ∧ (¬ (i2 ≤ (9 : Int32)) → r = (some (.int (-1 : Int32)), w1)))))) : xGo 59 0 [some (.ref a0), some (.int i1), some (.int i2)] [] w r := by
  refine g_iloadn (pc' := 1) d_59_0 rfl rfl ?_
  obtain ⟨r3, w1, hk2, h⟩ := h
  refine g_callS (pc' := 4) d_59_1 rfl st_59_120 (Or.inl rfl) na_24 ml_24 rfl rfl rfl rm_59_24 rfl rfl hk2 ?_
  refine g_if_eq (pc' := 7) (pt := 23) d_59_4 (by decide) rfl (fun c => ?_) (fun c => ?_)
  · replace h := h.1 c
    refine g_iconst (pc' := 24) d_59_23 rfl ci_m1 ?_
    exact g_iret d_59_24 rt_59 h
  · replace h := h.2 c
    refine g_iloadn (pc' := 8) d_59_7 rfl rfl ?_
    refine g_if_eq (pc' := 11) (pt := 23) d_59_8 (by decide) rfl (fun c => ?_) (fun c => ?_)
    · replace h := h.1 c
      refine g_iconst (pc' := 24) d_59_23 rfl ci_m1 ?_
      exact g_iret d_59_24 rt_59 h
    · replace h := h.2 c
      refine g_iloadn (pc' := 12) d_59_11 rfl rfl ?_
      refine g_bipush (pc' := 14) d_59_12 rfl cb_m9 ?_
      refine g_ic_lt (pc' := 17) (pt := 23) d_59_14 (by decide) rfl (fun c => ?_) (fun c => ?_)
      · replace h := h.1 c
        refine g_iconst (pc' := 24) d_59_23 rfl ci_m1 ?_
        exact g_iret d_59_24 rt_59 h
      · replace h := h.2 c
        refine g_iloadn (pc' := 18) d_59_17 rfl rfl ?_
        refine g_bipush (pc' := 20) d_59_18 rfl cb_9 ?_
        refine g_ic_le (pc' := 23) (pt := 25) d_59_20 (by decide) rfl (fun c => ?_) (fun c => ?_)
        · replace h := h.1 c
          refine g_iloadn (pc' := 26) d_59_25 rfl rfl ?_
          refine g_aloadn (pc' := 27) d_59_26 rfl rfl ?_
          obtain ⟨fs4, hw5, h⟩ := h
          obtain ⟨x6, hv7, h⟩ := h
          refine g_getf (pc' := 30) d_59_27 rfl st_59_49 hw5 hv7 ?_
          refine g_ic_le (pc' := 33) (pt := 36) d_59_30 (by decide) rfl (fun c => ?_) (fun c => ?_)
          · replace h := h.1 c
            refine g_aloadn (pc' := 37) d_59_36 rfl rfl ?_
            obtain ⟨b8, hv9, h⟩ := h
            refine g_getf (pc' := 40) d_59_37 rfl st_59_39 hw5 hv9 ?_
            refine g_iloadn (pc' := 41) d_59_40 rfl rfl ?_
            refine g_iloadn (pc' := 42) d_59_41 rfl rfl ?_
            refine g_i2l (pc' := 43) d_59_42 rfl ?_
            obtain ⟨fs10, hw11, h⟩ := h
            obtain ⟨w12, hk13, h⟩ := h
            refine g_callV (pc' := 46) d_59_43 rfl st_59_134 na_60 ml_60 rfl rfl rfl rm_59_60 rfl rfl ow_60 hw11 hk13 ?_
            refine g_aloadn (pc' := 47) d_59_46 rfl rfl ?_
            refine g_iloadn (pc' := 48) d_59_47 rfl rfl ?_
            refine g_iconst (pc' := 49) d_59_48 rfl ci_3 ?_
            obtain ⟨fs14, hw15, h⟩ := h
            obtain ⟨w16, hk17, h⟩ := h
            refine g_callV (pc' := 52) d_59_49 rfl st_59_138 na_57 ml_57 rfl rfl rfl rm_59_57 rfl rfl ow_57 hw15 hk17 ?_
            refine g_aloadn (pc' := 53) d_59_52 rfl rfl ?_
            obtain ⟨fs18, hw19, h⟩ := h
            obtain ⟨b20, hv21, h⟩ := h
            refine g_getf (pc' := 56) d_59_53 rfl st_59_58 hw19 hv21 ?_
            refine g_iloadn (pc' := 57) d_59_56 rfl rfl ?_
            refine g_bipush (pc' := 59) d_59_57 rfl cb_63 ?_
            obtain ⟨fs22, hw23, h⟩ := h
            obtain ⟨r26, w24, hk25, h⟩ := h
            refine g_callV (pc' := 62) d_59_59 rfl st_59_142 na_61 ml_61 rfl rfl rfl rm_59_61 rfl rfl ow_61 hw23 hk25 ?_
            exact g_iret d_59_62 rt_59 h
          · replace h := h.2 c
            refine g_bipush (pc' := 35) d_59_33 rfl cb_m2 ?_
            exact g_iret d_59_35 rt_59 h
        · replace h := h.2 c
          refine g_iconst (pc' := 24) d_59_23 rfl ci_m1 ?_
          exact g_iret d_59_24 rt_59 h
-- 60 BernoulliWays$Entries.increase(IJ)V
theorem S_60_0 {a0 : Nat} {i1 : Int32} {l2 : Int64} {w : xW} {r : Option Value × xW} (h : ∃ fs1, w[a0]? = some (.inr (4, fs1)) ∧ ∃ b3, fs1[3]? = some (.ref b3) ∧ ∃ r7 w5, xCall 29 [.ref a0, .int i1] w (some (.long r7), w5) ∧ ∃ fs8, w5[a0]? = some (.inr (4, fs8)) ∧ ∃ r12 w10, xCall 30 [.ref a0, .int i1] w5 (some (.long r12), w10) ∧ ∃ fs13, w10[a0]? = some (.inr (4, fs13)) ∧ ∃ r17 w15, xCall 31 [.ref a0, .int i1] w10 (some (.long r17), w15) ∧ ∃ fs18, w15[b3]? = some (.inr (5, fs18)) ∧ ∃ w20, xCall 16 [.ref b3, .long r7, .long (r12 + l2), .long r17] w15 (none, w20) ∧ ∃ fs22, w20[a0]? = some (.inr (4, fs22)) ∧ ∃ b24, fs22[3]? = some (.ref b24) ∧ ∃ w26, xCall 20 [.ref a0, .int i1, .ref b24] w20 (none, w26) ∧ r = (none, w26)) : xGo 60 0 [some (.ref a0), some (.int i1), some (.long l2), none] [] w r := by
  refine g_aloadn (pc' := 1) d_60_0 rfl rfl ?_
  obtain ⟨fs1, hw2, h⟩ := h
  obtain ⟨b3, hv4, h⟩ := h
  refine g_getf (pc' := 4) d_60_1 rfl st_60_24 hw2 hv4 ?_
  refine g_aloadn (pc' := 5) d_60_4 rfl rfl ?_
  refine g_iloadn (pc' := 6) d_60_5 rfl rfl ?_
  obtain ⟨r7, w5, hk6, h⟩ := h
  refine g_callV (pc' := 9) d_60_6 rfl st_60_38 na_29 ml_29 rfl rfl rfl rm_60_29 rfl rfl ow_29 hw2 hk6 ?_
  refine g_aloadn (pc' := 10) d_60_9 rfl rfl ?_
  refine g_iloadn (pc' := 11) d_60_10 rfl rfl ?_
  obtain ⟨fs8, hw9, h⟩ := h
  obtain ⟨r12, w10, hk11, h⟩ := h
  refine g_callV (pc' := 14) d_60_11 rfl st_60_42 na_30 ml_30 rfl rfl rfl rm_60_30 rfl rfl ow_30 hw9 hk11 ?_
  refine g_lloadn (pc' := 15) d_60_14 rfl rfl ?_
  refine g_ladd (pc' := 16) d_60_15 rfl ?_
  refine g_aloadn (pc' := 17) d_60_16 rfl rfl ?_
  refine g_iloadn (pc' := 18) d_60_17 rfl rfl ?_
  obtain ⟨fs13, hw14, h⟩ := h
  obtain ⟨r17, w15, hk16, h⟩ := h
  refine g_callV (pc' := 21) d_60_18 rfl st_60_55 na_31 ml_31 rfl rfl rfl rm_60_31 rfl rfl ow_31 hw14 hk16 ?_
  obtain ⟨fs18, hw19, h⟩ := h
  obtain ⟨w20, hk21, h⟩ := h
  refine g_callV (pc' := 24) d_60_21 rfl st_60_58 na_16 ml_16 rfl rfl rfl rm_60_16 rfl rfl ow_16 hw19 hk21 ?_
  refine g_aloadn (pc' := 25) d_60_24 rfl rfl ?_
  refine g_iloadn (pc' := 26) d_60_25 rfl rfl ?_
  refine g_aloadn (pc' := 27) d_60_26 rfl rfl ?_
  obtain ⟨fs22, hw23, h⟩ := h
  obtain ⟨b24, hv25, h⟩ := h
  refine g_getf (pc' := 30) d_60_27 rfl st_60_24 hw23 hv25 ?_
  obtain ⟨w26, hk27, h⟩ := h
  refine g_callV (pc' := 33) d_60_30 rfl st_60_68 na_20 ml_20 rfl rfl rfl rm_60_20 rfl rfl ow_20 hw23 hk27 ?_
  exact g_vret d_60_33 rt_60 h
-- 61 BernoulliWays$Checks.failed(II)I
theorem S_61_0 {a0 : Nat} {i1 : Int32} {i2 : Int32} {w : xW} {r : Option Value × xW} (h : ((i2 &&& (1 : Int32)) = 0 → ((i2 &&& (2 : Int32)) = 0 → xGo 61 45 [some (.ref a0), some (.int i1), some (.int i2), some (.int (0 : Int32))] [] w r) ∧ (¬ ((i2 &&& (2 : Int32)) = 0) → ∃ fs1, w[a0]? = some (.inr (6, fs1)) ∧ ∃ b3, fs1[0]? = some (.ref b3) ∧ ∃ fs5, w[b3]? = some (.inr (4, fs5)) ∧ ∃ r9 w7, xCall 63 [.ref b3, .int i1] w (some (.int r9), w7) ∧ ∃ r12 w10, xCall 64 [.int i1] w7 (some (.int r12), w10) ∧ (r9 = r12 → xGo 61 45 [some (.ref a0), some (.int i1), some (.int i2), some (.int (0 : Int32))] [] w10 r) ∧ (¬ (r9 = r12) → ∀ v13 : Int32, v13 = ((0 : Int32) ||| (2 : Int32)) → xGo 61 45 [some (.ref a0), some (.int i1), some (.int i2), some (.int v13)] [] w10 r))) ∧ (¬ ((i2 &&& (1 : Int32)) = 0) → ∃ fs14, w[a0]? = some (.inr (6, fs14)) ∧ ∃ r18 w16, xCall 62 [.ref a0, .int i1] w (some (.int r18), w16) ∧ (r18 = 0 → ((i2 &&& (2 : Int32)) = 0 → xGo 61 45 [some (.ref a0), some (.int i1), some (.int i2), some (.int (0 : Int32))] [] w16 r) ∧ (¬ ((i2 &&& (2 : Int32)) = 0) → ∃ fs19, w16[a0]? = some (.inr (6, fs19)) ∧ ∃ b21, fs19[0]? = some (.ref b21) ∧ ∃ fs23, w16[b21]? = some (.inr (4, fs23)) ∧ ∃ r27 w25, xCall 63 [.ref b21, .int i1] w16 (some (.int r27), w25) ∧ ∃ r30 w28, xCall 64 [.int i1] w25 (some (.int r30), w28) ∧ (r27 = r30 → xGo 61 45 [some (.ref a0), some (.int i1), some (.int i2), some (.int (0 : Int32))] [] w28 r) ∧ (¬ (r27 = r30) → ∀ v31 : Int32, v31 = ((0 : Int32) ||| (2 : Int32)) → xGo 61 45 [some (.ref a0), some (.int i1), some (.int i2), some (.int v31)] [] w28 r))) ∧ (¬ (r18 = 0) → ∀ v32 : Int32, v32 = ((0 : Int32) ||| (1 : Int32)) → ((i2 &&& (2 : Int32)) = 0 → xGo 61 45 [some (.ref a0), some (.int i1), some (.int i2), some (.int v32)] [] w16 r) ∧ (¬ ((i2 &&& (2 : Int32)) = 0) → ∃ fs33, w16[a0]? = some (.inr (6, fs33)) ∧ ∃ b35, fs33[0]? = some (.ref b35) ∧ ∃ fs37, w16[b35]? = some (.inr (4, fs37)) ∧ ∃ r41 w39, xCall 63 [.ref b35, .int i1] w16 (some (.int r41), w39) ∧ ∃ r44 w42, xCall 64 [.int i1] w39 (some (.int r44), w42) ∧ (r41 = r44 → xGo 61 45 [some (.ref a0), some (.int i1), some (.int i2), some (.int v32)] [] w42 r) ∧ (¬ (r41 = r44) → ∀ v45 : Int32, v45 = (v32 ||| (2 : Int32)) → xGo 61 45 [some (.ref a0), some (.int i1), some (.int i2), some (.int v45)] [] w42 r))))) : xGo 61 0 [some (.ref a0), some (.int i1), some (.int i2), none] [] w r := by
  refine g_iconst (pc' := 1) d_61_0 rfl ci_0 ?_
  refine g_istoren (pc' := 2) (l' := [some (.ref a0), some (.int i1), some (.int i2), some (.int (0 : Int32))]) d_61_1 rfl ml_61 rfl rfl ?_
  refine g_iloadn (pc' := 3) d_61_2 rfl rfl ?_
  refine g_iconst (pc' := 4) d_61_3 rfl ci_1 ?_
  refine g_iand (pc' := 5) d_61_4 rfl ?_
  refine g_if_eq (pc' := 8) (pt := 20) d_61_5 (by decide) rfl (fun c => ?_) (fun c => ?_)
  · replace h := h.1 c
    refine g_iloadn (pc' := 21) d_61_20 rfl rfl ?_
    refine g_iconst (pc' := 22) d_61_21 rfl ci_2 ?_
    refine g_iand (pc' := 23) d_61_22 rfl ?_
    refine g_if_eq (pc' := 26) (pt := 45) d_61_23 (by decide) rfl (fun c => ?_) (fun c => ?_)
    · replace h := h.1 c
      exact h
    · replace h := h.2 c
      refine g_aloadn (pc' := 27) d_61_26 rfl rfl ?_
      obtain ⟨fs1, hw2, h⟩ := h
      obtain ⟨b3, hv4, h⟩ := h
      refine g_getf (pc' := 30) d_61_27 rfl st_61_9 hw2 hv4 ?_
      refine g_iloadn (pc' := 31) d_61_30 rfl rfl ?_
      obtain ⟨fs5, hw6, h⟩ := h
      obtain ⟨r9, w7, hk8, h⟩ := h
      refine g_callV (pc' := 34) d_61_31 rfl st_61_27 na_63 ml_63 rfl rfl rfl rm_61_63 rfl rfl ow_63 hw6 hk8 ?_
      refine g_iloadn (pc' := 35) d_61_34 rfl rfl ?_
      obtain ⟨r12, w10, hk11, h⟩ := h
      refine g_callS (pc' := 38) d_61_35 rfl st_61_33 (Or.inl rfl) na_64 ml_64 rfl rfl rfl rm_61_64 rfl rfl hk11 ?_
      refine g_ic_eq (pc' := 41) (pt := 45) d_61_38 (by decide) rfl (fun c => ?_) (fun c => ?_)
      · replace h := h.1 c
        exact h
      · replace h := h.2 c
        refine g_iloadn (pc' := 42) d_61_41 rfl rfl ?_
        refine g_iconst (pc' := 43) d_61_42 rfl ci_2 ?_
        refine g_ior (pc' := 44) d_61_43 rfl ?_
        have h := h _ rfl
        refine g_istoren (pc' := 45) (l' := [some (.ref a0), some (.int i1), some (.int i2), some (.int (((0 : Int32) ||| (2 : Int32))))]) d_61_44 rfl ml_61 rfl rfl ?_
        exact h
  · replace h := h.2 c
    refine g_aloadn (pc' := 9) d_61_8 rfl rfl ?_
    refine g_iloadn (pc' := 10) d_61_9 rfl rfl ?_
    obtain ⟨fs14, hw15, h⟩ := h
    obtain ⟨r18, w16, hk17, h⟩ := h
    refine g_callV (pc' := 13) d_61_10 rfl st_61_23 na_62 ml_62 rfl rfl rfl rm_61_62 rfl rfl ow_62 hw15 hk17 ?_
    refine g_if_eq (pc' := 16) (pt := 20) d_61_13 (by decide) rfl (fun c => ?_) (fun c => ?_)
    · replace h := h.1 c
      refine g_iloadn (pc' := 21) d_61_20 rfl rfl ?_
      refine g_iconst (pc' := 22) d_61_21 rfl ci_2 ?_
      refine g_iand (pc' := 23) d_61_22 rfl ?_
      refine g_if_eq (pc' := 26) (pt := 45) d_61_23 (by decide) rfl (fun c => ?_) (fun c => ?_)
      · replace h := h.1 c
        exact h
      · replace h := h.2 c
        refine g_aloadn (pc' := 27) d_61_26 rfl rfl ?_
        obtain ⟨fs19, hw20, h⟩ := h
        obtain ⟨b21, hv22, h⟩ := h
        refine g_getf (pc' := 30) d_61_27 rfl st_61_9 hw20 hv22 ?_
        refine g_iloadn (pc' := 31) d_61_30 rfl rfl ?_
        obtain ⟨fs23, hw24, h⟩ := h
        obtain ⟨r27, w25, hk26, h⟩ := h
        refine g_callV (pc' := 34) d_61_31 rfl st_61_27 na_63 ml_63 rfl rfl rfl rm_61_63 rfl rfl ow_63 hw24 hk26 ?_
        refine g_iloadn (pc' := 35) d_61_34 rfl rfl ?_
        obtain ⟨r30, w28, hk29, h⟩ := h
        refine g_callS (pc' := 38) d_61_35 rfl st_61_33 (Or.inl rfl) na_64 ml_64 rfl rfl rfl rm_61_64 rfl rfl hk29 ?_
        refine g_ic_eq (pc' := 41) (pt := 45) d_61_38 (by decide) rfl (fun c => ?_) (fun c => ?_)
        · replace h := h.1 c
          exact h
        · replace h := h.2 c
          refine g_iloadn (pc' := 42) d_61_41 rfl rfl ?_
          refine g_iconst (pc' := 43) d_61_42 rfl ci_2 ?_
          refine g_ior (pc' := 44) d_61_43 rfl ?_
          have h := h _ rfl
          refine g_istoren (pc' := 45) (l' := [some (.ref a0), some (.int i1), some (.int i2), some (.int (((0 : Int32) ||| (2 : Int32))))]) d_61_44 rfl ml_61 rfl rfl ?_
          exact h
    · replace h := h.2 c
      refine g_iloadn (pc' := 17) d_61_16 rfl rfl ?_
      refine g_iconst (pc' := 18) d_61_17 rfl ci_1 ?_
      refine g_ior (pc' := 19) d_61_18 rfl ?_
      have h := h _ rfl
      refine g_istoren (pc' := 20) (l' := [some (.ref a0), some (.int i1), some (.int i2), some (.int (((0 : Int32) ||| (1 : Int32))))]) d_61_19 rfl ml_61 rfl rfl ?_
      refine g_iloadn (pc' := 21) d_61_20 rfl rfl ?_
      refine g_iconst (pc' := 22) d_61_21 rfl ci_2 ?_
      refine g_iand (pc' := 23) d_61_22 rfl ?_
      refine g_if_eq (pc' := 26) (pt := 45) d_61_23 (by decide) rfl (fun c => ?_) (fun c => ?_)
      · replace h := h.1 c
        exact h
      · replace h := h.2 c
        refine g_aloadn (pc' := 27) d_61_26 rfl rfl ?_
        obtain ⟨fs33, hw34, h⟩ := h
        obtain ⟨b35, hv36, h⟩ := h
        refine g_getf (pc' := 30) d_61_27 rfl st_61_9 hw34 hv36 ?_
        refine g_iloadn (pc' := 31) d_61_30 rfl rfl ?_
        obtain ⟨fs37, hw38, h⟩ := h
        obtain ⟨r41, w39, hk40, h⟩ := h
        refine g_callV (pc' := 34) d_61_31 rfl st_61_27 na_63 ml_63 rfl rfl rfl rm_61_63 rfl rfl ow_63 hw38 hk40 ?_
        refine g_iloadn (pc' := 35) d_61_34 rfl rfl ?_
        obtain ⟨r44, w42, hk43, h⟩ := h
        refine g_callS (pc' := 38) d_61_35 rfl st_61_33 (Or.inl rfl) na_64 ml_64 rfl rfl rfl rm_61_64 rfl rfl hk43 ?_
        refine g_ic_eq (pc' := 41) (pt := 45) d_61_38 (by decide) rfl (fun c => ?_) (fun c => ?_)
        · replace h := h.1 c
          exact h
        · replace h := h.2 c
          refine g_iloadn (pc' := 42) d_61_41 rfl rfl ?_
          refine g_iconst (pc' := 43) d_61_42 rfl ci_2 ?_
          refine g_ior (pc' := 44) d_61_43 rfl ?_
          have h := h _ rfl
          refine g_istoren (pc' := 45) (l' := [some (.ref a0), some (.int i1), some (.int i2), some (.int (((((0 : Int32) ||| (1 : Int32))) ||| (2 : Int32))))]) d_61_44 rfl ml_61 rfl rfl ?_
          exact h
theorem S_61_45 {a0 : Nat} {i1 : Int32} {i2 : Int32} {i3 : Int32} {w : xW} {r : Option Value × xW} (h : ((i2 &&& (4 : Int32)) = 0 → xGo 61 63 [some (.ref a0), some (.int i1), some (.int i2), some (.int i3)] [] w r) ∧ (¬ ((i2 &&& (4 : Int32)) = 0) → ∃ fs1, w[a0]? = some (.inr (6, fs1)) ∧ ∃ r5 w3, xCall 65 [.ref a0, .int i1] w (some (.int r5), w3) ∧ (r5 = 0 → xGo 61 63 [some (.ref a0), some (.int i1), some (.int i2), some (.int i3)] [] w3 r) ∧ (¬ (r5 = 0) → ∀ v6 : Int32, v6 = (i3 ||| (4 : Int32)) → xGo 61 63 [some (.ref a0), some (.int i1), some (.int i2), some (.int v6)] [] w3 r))) : xGo 61 45 [some (.ref a0), some (.int i1), some (.int i2), some (.int i3)] [] w r := by
  refine g_iloadn (pc' := 46) d_61_45 rfl rfl ?_
  refine g_iconst (pc' := 47) d_61_46 rfl ci_4 ?_
  refine g_iand (pc' := 48) d_61_47 rfl ?_
  refine g_if_eq (pc' := 51) (pt := 63) d_61_48 (by decide) rfl (fun c => ?_) (fun c => ?_)
  · replace h := h.1 c
    exact h
  · replace h := h.2 c
    refine g_aloadn (pc' := 52) d_61_51 rfl rfl ?_
    refine g_iloadn (pc' := 53) d_61_52 rfl rfl ?_
    obtain ⟨fs1, hw2, h⟩ := h
    obtain ⟨r5, w3, hk4, h⟩ := h
    refine g_callV (pc' := 56) d_61_53 rfl st_61_36 na_65 ml_65 rfl rfl rfl rm_61_65 rfl rfl ow_65 hw2 hk4 ?_
    refine g_if_eq (pc' := 59) (pt := 63) d_61_56 (by decide) rfl (fun c => ?_) (fun c => ?_)
    · replace h := h.1 c
      exact h
    · replace h := h.2 c
      refine g_iloadn (pc' := 60) d_61_59 rfl rfl ?_
      refine g_iconst (pc' := 61) d_61_60 rfl ci_4 ?_
      refine g_ior (pc' := 62) d_61_61 rfl ?_
      have h := h _ rfl
      refine g_istoren (pc' := 63) (l' := [some (.ref a0), some (.int i1), some (.int i2), some (.int ((i3 ||| (4 : Int32))))]) d_61_62 rfl ml_61 rfl rfl ?_
      exact h
theorem S_61_63 {a0 : Nat} {i1 : Int32} {i2 : Int32} {i3 : Int32} {w : xW} {r : Option Value × xW} (h : ((i2 &&& (8 : Int32)) = 0 → xGo 61 83 [some (.ref a0), some (.int i1), some (.int i2), some (.int i3)] [] w r) ∧ (¬ ((i2 &&& (8 : Int32)) = 0) → ∃ fs1, w[a0]? = some (.inr (6, fs1)) ∧ ∃ r5 w3, xCall 67 [.ref a0, .int i1] w (some (.int r5), w3) ∧ (r5 = 0 → xGo 61 83 [some (.ref a0), some (.int i1), some (.int i2), some (.int i3)] [] w3 r) ∧ (¬ (r5 = 0) → ∀ v6 : Int32, v6 = (i3 ||| (8 : Int32)) → xGo 61 83 [some (.ref a0), some (.int i1), some (.int i2), some (.int v6)] [] w3 r))) : xGo 61 63 [some (.ref a0), some (.int i1), some (.int i2), some (.int i3)] [] w r := by
  refine g_iloadn (pc' := 64) d_61_63 rfl rfl ?_
  refine g_bipush (pc' := 66) d_61_64 rfl cb_8 ?_
  refine g_iand (pc' := 67) d_61_66 rfl ?_
  refine g_if_eq (pc' := 70) (pt := 83) d_61_67 (by decide) rfl (fun c => ?_) (fun c => ?_)
  · replace h := h.1 c
    exact h
  · replace h := h.2 c
    refine g_aloadn (pc' := 71) d_61_70 rfl rfl ?_
    refine g_iloadn (pc' := 72) d_61_71 rfl rfl ?_
    obtain ⟨fs1, hw2, h⟩ := h
    obtain ⟨r5, w3, hk4, h⟩ := h
    refine g_callV (pc' := 75) d_61_72 rfl st_61_39 na_67 ml_67 rfl rfl rfl rm_61_67 rfl rfl ow_67 hw2 hk4 ?_
    refine g_if_eq (pc' := 78) (pt := 83) d_61_75 (by decide) rfl (fun c => ?_) (fun c => ?_)
    · replace h := h.1 c
      exact h
    · replace h := h.2 c
      refine g_iloadn (pc' := 79) d_61_78 rfl rfl ?_
      refine g_bipush (pc' := 81) d_61_79 rfl cb_8 ?_
      refine g_ior (pc' := 82) d_61_81 rfl ?_
      have h := h _ rfl
      refine g_istoren (pc' := 83) (l' := [some (.ref a0), some (.int i1), some (.int i2), some (.int ((i3 ||| (8 : Int32))))]) d_61_82 rfl ml_61 rfl rfl ?_
      exact h
theorem S_61_83 {a0 : Nat} {i1 : Int32} {i2 : Int32} {i3 : Int32} {w : xW} {r : Option Value × xW} (h : ((i2 &&& (16 : Int32)) = 0 → xGo 61 103 [some (.ref a0), some (.int i1), some (.int i2), some (.int i3)] [] w r) ∧ (¬ ((i2 &&& (16 : Int32)) = 0) → ∃ fs1, w[a0]? = some (.inr (6, fs1)) ∧ ∃ r5 w3, xCall 72 [.ref a0, .int i1] w (some (.int r5), w3) ∧ (r5 = 0 → xGo 61 103 [some (.ref a0), some (.int i1), some (.int i2), some (.int i3)] [] w3 r) ∧ (¬ (r5 = 0) → ∀ v6 : Int32, v6 = (i3 ||| (16 : Int32)) → xGo 61 103 [some (.ref a0), some (.int i1), some (.int i2), some (.int v6)] [] w3 r))) : xGo 61 83 [some (.ref a0), some (.int i1), some (.int i2), some (.int i3)] [] w r := by
  refine g_iloadn (pc' := 84) d_61_83 rfl rfl ?_
  refine g_bipush (pc' := 86) d_61_84 rfl cb_16 ?_
  refine g_iand (pc' := 87) d_61_86 rfl ?_
  refine g_if_eq (pc' := 90) (pt := 103) d_61_87 (by decide) rfl (fun c => ?_) (fun c => ?_)
  · replace h := h.1 c
    exact h
  · replace h := h.2 c
    refine g_aloadn (pc' := 91) d_61_90 rfl rfl ?_
    refine g_iloadn (pc' := 92) d_61_91 rfl rfl ?_
    obtain ⟨fs1, hw2, h⟩ := h
    obtain ⟨r5, w3, hk4, h⟩ := h
    refine g_callV (pc' := 95) d_61_92 rfl st_61_42 na_72 ml_72 rfl rfl rfl rm_61_72 rfl rfl ow_72 hw2 hk4 ?_
    refine g_if_eq (pc' := 98) (pt := 103) d_61_95 (by decide) rfl (fun c => ?_) (fun c => ?_)
    · replace h := h.1 c
      exact h
    · replace h := h.2 c
      refine g_iloadn (pc' := 99) d_61_98 rfl rfl ?_
      refine g_bipush (pc' := 101) d_61_99 rfl cb_16 ?_
      refine g_ior (pc' := 102) d_61_101 rfl ?_
      have h := h _ rfl
      refine g_istoren (pc' := 103) (l' := [some (.ref a0), some (.int i1), some (.int i2), some (.int ((i3 ||| (16 : Int32))))]) d_61_102 rfl ml_61 rfl rfl ?_
      exact h
theorem S_61_103 {a0 : Nat} {i1 : Int32} {i2 : Int32} {i3 : Int32} {w : xW} {r : Option Value × xW} (h : ((i2 &&& (32 : Int32)) = 0 → r = (some (.int i3), w)) ∧ (¬ ((i2 &&& (32 : Int32)) = 0) → ∃ fs1, w[a0]? = some (.inr (6, fs1)) ∧ ∃ r5 w3, xCall 74 [.ref a0, .int i1] w (some (.int r5), w3) ∧ (r5 = 0 → r = (some (.int i3), w3)) ∧ (¬ (r5 = 0) → ∀ v6 : Int32, v6 = (i3 ||| (32 : Int32)) → r = (some (.int v6), w3)))) : xGo 61 103 [some (.ref a0), some (.int i1), some (.int i2), some (.int i3)] [] w r := by
  refine g_iloadn (pc' := 104) d_61_103 rfl rfl ?_
  refine g_bipush (pc' := 106) d_61_104 rfl cb_32 ?_
  refine g_iand (pc' := 107) d_61_106 rfl ?_
  refine g_if_eq (pc' := 110) (pt := 123) d_61_107 (by decide) rfl (fun c => ?_) (fun c => ?_)
  · replace h := h.1 c
    refine g_iloadn (pc' := 124) d_61_123 rfl rfl ?_
    exact g_iret d_61_124 rt_61 h
  · replace h := h.2 c
    refine g_aloadn (pc' := 111) d_61_110 rfl rfl ?_
    refine g_iloadn (pc' := 112) d_61_111 rfl rfl ?_
    obtain ⟨fs1, hw2, h⟩ := h
    obtain ⟨r5, w3, hk4, h⟩ := h
    refine g_callV (pc' := 115) d_61_112 rfl st_61_45 na_74 ml_74 rfl rfl rfl rm_61_74 rfl rfl ow_74 hw2 hk4 ?_
    refine g_if_eq (pc' := 118) (pt := 123) d_61_115 (by decide) rfl (fun c => ?_) (fun c => ?_)
    · replace h := h.1 c
      refine g_iloadn (pc' := 124) d_61_123 rfl rfl ?_
      exact g_iret d_61_124 rt_61 h
    · replace h := h.2 c
      refine g_iloadn (pc' := 119) d_61_118 rfl rfl ?_
      refine g_bipush (pc' := 121) d_61_119 rfl cb_32 ?_
      refine g_ior (pc' := 122) d_61_121 rfl ?_
      have h := h _ rfl
      refine g_istoren (pc' := 123) (l' := [some (.ref a0), some (.int i1), some (.int i2), some (.int ((i3 ||| (32 : Int32))))]) d_61_122 rfl ml_61 rfl rfl ?_
      refine g_iloadn (pc' := 124) d_61_123 rfl rfl ?_
      exact g_iret d_61_124 rt_61 h
-- 62 BernoulliWays$Checks.failsBelow(I)Z
theorem S_62_0 {a0 : Nat} {i1 : Int32} {w : xW} {r : Option Value × xW} (h : (w[xP]? = none) ∧ xGo 62 15 [some (.ref a0), some (.int i1), some (.long (1 : Int64)), none, some (.ref xP), some (.int (46 : Int32)), some (.int (0 : Int32)), none] [] w r) : xGo 62 0 [some (.ref a0), some (.int i1), none, none, none, none, none, none] [] w r := by
  refine g_lconst (pc' := 1) d_62_0 rfl cl_1 ?_
  refine g_lstoren (pc' := 2) (l' := [some (.ref a0), some (.int i1), some (.long (1 : Int64)), none, none, none, none, none]) d_62_1 rfl ml_62 rfl rfl ?_
  refine g_gets (pc' := 5) d_62_2 rfl st_62_104 (Or.inr rfl) ?_
  refine g_astore (pc' := 7) (l' := [some (.ref a0), some (.int i1), some (.long (1 : Int64)), none, some (.ref xP), none, none, none]) d_62_5 rfl ml_62 rfl rfl ?_
  refine g_aload (pc' := 9) d_62_7 rfl rfl ?_
  obtain ⟨hc1, h⟩ := h
  refine g_lenp (pc' := 10) d_62_9 rfl hc1 ?_
  refine g_istore (pc' := 12) (l' := [some (.ref a0), some (.int i1), some (.long (1 : Int64)), none, some (.ref xP), some (.int (46 : Int32)), none, none]) d_62_10 rfl ml_62 rfl rfl ?_
  refine g_iconst (pc' := 13) d_62_12 rfl ci_0 ?_
  refine g_istore (pc' := 15) (l' := [some (.ref a0), some (.int i1), some (.long (1 : Int64)), none, some (.ref xP), some (.int (46 : Int32)), some (.int (0 : Int32)), none]) d_62_13 rfl ml_62 rfl rfl ?_
  exact h
theorem S_62_15 {a0 : Nat} {i1 : Int32} {l2 : Int64} {i5 : Int32} {i6 : Int32} {w : xW} {r : Option Value × xW} (h : (i5 ≤ i6 → ∃ fs1, w[a0]? = some (.inr (6, fs1)) ∧ ∃ b3, fs1[0]? = some (.ref b3) ∧ ∃ fs5, w[b3]? = some (.inr (4, fs5)) ∧ ∃ r9 w7, xCall 31 [.ref b3, .int i1] w (some (.long r9), w7) ∧ (r9 = l2 → r = (some (.int (0 : Int32)), w7)) ∧ (¬ (r9 = l2) → r = (some (.int (1 : Int32)), w7))) ∧ (¬ (i5 ≤ i6) → (w[xP]? = none) ∧ (¬ (i6 < 0 ∨ 46 ≤ i6.toNatClampNeg)) ∧ ∀ v12 : Int32, v12 = (xpr i6.toNatClampNeg) → ∃ r15 w13, xCall 52 [.int v12, .int i1] w (some (.int r15), w13) ∧ (r15 = 0 → ∀ v16 : Int32, v16 = i6 + (1 : Int32) → xGo 62 15 [some (.ref a0), some (.int i1), some (.long l2), none, some (.ref xP), some (.int i5), some (.int v16), some (.int v12)] [] w13 r) ∧ (¬ (r15 = 0) → ∀ v17 : Int64, v17 = (l2 * (v12.toInt64)) → ∀ v18 : Int32, v18 = i6 + (1 : Int32) → xGo 62 15 [some (.ref a0), some (.int i1), some (.long v17), none, some (.ref xP), some (.int i5), some (.int v18), some (.int v12)] [] w13 r))) : xGo 62 15 [some (.ref a0), some (.int i1), some (.long l2), none, some (.ref xP), some (.int i5), some (.int i6), none] [] w r := by
  refine g_iload (pc' := 17) d_62_15 rfl rfl ?_
  refine g_iload (pc' := 19) d_62_17 rfl rfl ?_
  refine g_ic_ge (pc' := 22) (pt := 50) d_62_19 (by decide) rfl (fun c => ?_) (fun c => ?_)
  · replace h := h.1 c
    refine g_aloadn (pc' := 51) d_62_50 rfl rfl ?_
    obtain ⟨fs1, hw2, h⟩ := h
    obtain ⟨b3, hv4, h⟩ := h
    refine g_getf (pc' := 54) d_62_51 rfl st_62_9 hw2 hv4 ?_
    refine g_iloadn (pc' := 55) d_62_54 rfl rfl ?_
    obtain ⟨fs5, hw6, h⟩ := h
    obtain ⟨r9, w7, hk8, h⟩ := h
    refine g_callV (pc' := 58) d_62_55 rfl st_62_87 na_31 ml_31 rfl rfl rfl rm_62_31 rfl rfl ow_31 hw6 hk8 ?_
    refine g_lloadn (pc' := 59) d_62_58 rfl rfl ?_
    refine g_lc_eq (pc' := 63) (pm := 60) (pt := 67) d_62_59 rfl d_62_60 (by decide) rfl (fun c => ?_) (fun c => ?_)
    · replace h := h.1 c
      refine g_iconst (pc' := 68) d_62_67 rfl ci_0 ?_
      exact g_zret d_62_68 rt_62 (Or.inl rfl) h
    · replace h := h.2 c
      refine g_iconst (pc' := 64) d_62_63 rfl ci_1 ?_
      refine g_goto (pt := 68) d_62_64 (by decide) ?_
      exact g_zret d_62_68 rt_62 (Or.inr rfl) h
  · replace h := h.2 c
    refine g_aload (pc' := 24) d_62_22 rfl rfl ?_
    refine g_iload (pc' := 26) d_62_24 rfl rfl ?_
    obtain ⟨hc10, h⟩ := h
    obtain ⟨hc11, h⟩ := h
    refine g_pald (pc' := 27) d_62_26 rfl hc10 hc11 ?_
    have h := h _ rfl
    refine g_istore (pc' := 29) (l' := [some (.ref a0), some (.int i1), some (.long l2), none, some (.ref xP), some (.int i5), some (.int i6), some (.int ((xpr i6.toNatClampNeg)))]) d_62_27 rfl ml_62 rfl rfl ?_
    refine g_iload (pc' := 31) d_62_29 rfl rfl ?_
    refine g_iloadn (pc' := 32) d_62_31 rfl rfl ?_
    obtain ⟨r15, w13, hk14, h⟩ := h
    refine g_callS (pc' := 35) d_62_32 rfl st_62_108 (Or.inr rfl) na_52 ml_52 rfl rfl rfl rm_62_52 rfl rfl hk14 ?_
    refine g_if_eq (pc' := 38) (pt := 44) d_62_35 (by decide) rfl (fun c => ?_) (fun c => ?_)
    · replace h := h.1 c
      have h := h _ rfl
      refine g_iinc (pc' := 47) (l' := [some (.ref a0), some (.int i1), some (.long l2), none, some (.ref xP), some (.int i5), some (.int (i6 + (1 : Int32))), some (.int ((xpr i6.toNatClampNeg)))]) d_62_44 rfl rfl ci_1 ml_62 rfl rfl ?_
      refine g_goto (pt := 15) d_62_47 (by decide) ?_
      exact h
    · replace h := h.2 c
      refine g_lloadn (pc' := 39) d_62_38 rfl rfl ?_
      refine g_iload (pc' := 41) d_62_39 rfl rfl ?_
      refine g_i2l (pc' := 42) d_62_41 rfl ?_
      refine g_lmul (pc' := 43) d_62_42 rfl ?_
      have h := h _ rfl
      refine g_lstoren (pc' := 44) (l' := [some (.ref a0), some (.int i1), some (.long ((l2 * (((xpr i6.toNatClampNeg)).toInt64)))), none, some (.ref xP), some (.int i5), some (.int i6), some (.int ((xpr i6.toNatClampNeg)))]) d_62_43 rfl ml_62 rfl rfl ?_
      have h := h _ rfl
      refine g_iinc (pc' := 47) (l' := [some (.ref a0), some (.int i1), some (.long ((l2 * (((xpr i6.toNatClampNeg)).toInt64)))), none, some (.ref xP), some (.int i5), some (.int (i6 + (1 : Int32))), some (.int ((xpr i6.toNatClampNeg)))]) d_62_44 rfl rfl ci_1 ml_62 rfl rfl ?_
      refine g_goto (pt := 15) d_62_47 (by decide) ?_
      exact h
-- 63 BernoulliWays$Entries.signOf(I)I
theorem S_63_0 {a0 : Nat} {i1 : Int32} {w : xW} {r : Option Value × xW} (h : ∃ fs1, w[a0]? = some (.inr (4, fs1)) ∧ ∃ r5 w3, xCall 29 [.ref a0, .int i1] w (some (.long r5), w3) ∧ ((0 : Int64) ≤ r5 → ∃ fs6, w3[a0]? = some (.inr (4, fs6)) ∧ ∃ r10 w8, xCall 29 [.ref a0, .int i1] w3 (some (.long r10), w8) ∧ (¬ r10 = (0 : Int64) → r = (some (.int (1 : Int32)), w8)) ∧ (¬ (¬ r10 = (0 : Int64)) → ∃ fs11, w8[a0]? = some (.inr (4, fs11)) ∧ ∃ r15 w13, xCall 30 [.ref a0, .int i1] w8 (some (.long r15), w13) ∧ (¬ r15 = (0 : Int64) → r = (some (.int (1 : Int32)), w13)) ∧ (¬ (¬ r15 = (0 : Int64)) → r = (some (.int (0 : Int32)), w13)))) ∧ (¬ ((0 : Int64) ≤ r5) → r = (some (.int (-1 : Int32)), w3))) : xGo 63 0 [some (.ref a0), some (.int i1)] [] w r := by
  refine g_aloadn (pc' := 1) d_63_0 rfl rfl ?_
  refine g_iloadn (pc' := 2) d_63_1 rfl rfl ?_
  obtain ⟨fs1, hw2, h⟩ := h
  obtain ⟨r5, w3, hk4, h⟩ := h
  refine g_callV (pc' := 5) d_63_2 rfl st_63_38 na_29 ml_29 rfl rfl rfl rm_63_29 rfl rfl ow_29 hw2 hk4 ?_
  refine g_lconst (pc' := 6) d_63_5 rfl cl_0 ?_
  refine g_lc_ge (pc' := 10) (pm := 7) (pt := 12) d_63_6 rfl d_63_7 (by decide) rfl (fun c => ?_) (fun c => ?_)
  · replace h := h.1 c
    refine g_aloadn (pc' := 13) d_63_12 rfl rfl ?_
    refine g_iloadn (pc' := 14) d_63_13 rfl rfl ?_
    obtain ⟨fs6, hw7, h⟩ := h
    obtain ⟨r10, w8, hk9, h⟩ := h
    refine g_callV (pc' := 17) d_63_14 rfl st_63_38 na_29 ml_29 rfl rfl rfl rm_63_29 rfl rfl ow_29 hw7 hk9 ?_
    refine g_lconst (pc' := 18) d_63_17 rfl cl_0 ?_
    refine g_lc_ne (pc' := 22) (pm := 19) (pt := 36) d_63_18 rfl d_63_19 (by decide) rfl (fun c => ?_) (fun c => ?_)
    · replace h := h.1 c
      refine g_iconst (pc' := 37) d_63_36 rfl ci_1 ?_
      exact g_iret d_63_37 rt_63 h
    · replace h := h.2 c
      refine g_aloadn (pc' := 23) d_63_22 rfl rfl ?_
      refine g_iloadn (pc' := 24) d_63_23 rfl rfl ?_
      obtain ⟨fs11, hw12, h⟩ := h
      obtain ⟨r15, w13, hk14, h⟩ := h
      refine g_callV (pc' := 27) d_63_24 rfl st_63_42 na_30 ml_30 rfl rfl rfl rm_63_30 rfl rfl ow_30 hw12 hk14 ?_
      refine g_lconst (pc' := 28) d_63_27 rfl cl_0 ?_
      refine g_lc_ne (pc' := 32) (pm := 29) (pt := 36) d_63_28 rfl d_63_29 (by decide) rfl (fun c => ?_) (fun c => ?_)
      · replace h := h.1 c
        refine g_iconst (pc' := 37) d_63_36 rfl ci_1 ?_
        exact g_iret d_63_37 rt_63 h
      · replace h := h.2 c
        refine g_iconst (pc' := 33) d_63_32 rfl ci_0 ?_
        refine g_goto (pt := 37) d_63_33 (by decide) ?_
        exact g_iret d_63_37 rt_63 h
  · replace h := h.2 c
    refine g_iconst (pc' := 11) d_63_10 rfl ci_m1 ?_
    exact g_iret d_63_11 rt_63 h
end
