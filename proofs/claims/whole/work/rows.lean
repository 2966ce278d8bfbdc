section
-- ===== PART A: goes FIRST, ahead of the names: the tables' words, and 'selects' of the private methods out of them =====
/-- a private method of a class that the tables say can be made, by its rows of tables_1 -/
def lw_okq (q : MethodName × Nat) : Prop := (q.1.cls ≠ "java/lang/invoke/MethodHandle" ∧ q.1.cls ≠ "java/lang/invoke/VarHandle") ∧ Cond.instantiable q.1.cls q.2 ∈ tables_1 ∧ Cond.privateMethod q.1 ∈ tables_1 ∧ Cond.instanceMethod q.1 ∈ tables_1
theorem lw_p0 : lw_okq (⟨"BernoulliWays", "allRightBelow", "(I)Z"⟩, 16) := ⟨⟨by decide +kernel, by decide +kernel⟩, List.mem_of_getElem? (i := 22) (by decide +kernel), List.mem_of_getElem? (i := 311) (by decide +kernel), List.mem_of_getElem? (i := 312) (by decide +kernel)⟩
theorem lw_p1 : lw_okq (⟨"BernoulliWays", "isRight", "(I)Z"⟩, 16) := ⟨⟨by decide +kernel, by decide +kernel⟩, List.mem_of_getElem? (i := 22) (by decide +kernel), List.mem_of_getElem? (i := 315) (by decide +kernel), List.mem_of_getElem? (i := 316) (by decide +kernel)⟩
theorem lw_p2 : lw_okq (⟨"BernoulliWays", "layOne", "(II)Z"⟩, 16) := ⟨⟨by decide +kernel, by decide +kernel⟩, List.mem_of_getElem? (i := 22) (by decide +kernel), List.mem_of_getElem? (i := 335) (by decide +kernel), List.mem_of_getElem? (i := 336) (by decide +kernel)⟩
theorem lw_p3 : lw_okq (⟨"BernoulliWays", "work", "(II)V"⟩, 16) := ⟨⟨by decide +kernel, by decide +kernel⟩, List.mem_of_getElem? (i := 22) (by decide +kernel), List.mem_of_getElem? (i := 339) (by decide +kernel), List.mem_of_getElem? (i := 340) (by decide +kernel)⟩
theorem lw_p4 : lw_okq (⟨"BernoulliWays", "workRecurrence", "(I)V"⟩, 16) := ⟨⟨by decide +kernel, by decide +kernel⟩, List.mem_of_getElem? (i := 22) (by decide +kernel), List.mem_of_getElem? (i := 343) (by decide +kernel), List.mem_of_getElem? (i := 344) (by decide +kernel)⟩
theorem lw_p5 : lw_okq (⟨"BernoulliWays", "workAsTold", "(I)V"⟩, 16) := ⟨⟨by decide +kernel, by decide +kernel⟩, List.mem_of_getElem? (i := 22) (by decide +kernel), List.mem_of_getElem? (i := 347) (by decide +kernel), List.mem_of_getElem? (i := 348) (by decide +kernel)⟩
theorem lw_p6 : lw_okq (⟨"BernoulliWays$Checks", "addEntry", "(JI)V"⟩, 3) := ⟨⟨by decide +kernel, by decide +kernel⟩, List.mem_of_getElem? (i := 118) (by decide +kernel), List.mem_of_getElem? (i := 370) (by decide +kernel), List.mem_of_getElem? (i := 371) (by decide +kernel)⟩
theorem lw_p7 : lw_okq (⟨"BernoulliWays", "workTriangle", "(I)V"⟩, 16) := ⟨⟨by decide +kernel, by decide +kernel⟩, List.mem_of_getElem? (i := 22) (by decide +kernel), List.mem_of_getElem? (i := 397) (by decide +kernel), List.mem_of_getElem? (i := 398) (by decide +kernel)⟩
theorem lw_p8 : lw_okq (⟨"BernoulliWays", "workSieve", "(I)V"⟩, 16) := ⟨⟨by decide +kernel, by decide +kernel⟩, List.mem_of_getElem? (i := 22) (by decide +kernel), List.mem_of_getElem? (i := 401) (by decide +kernel), List.mem_of_getElem? (i := 402) (by decide +kernel)⟩
theorem lw_p9 : lw_okq (⟨"BernoulliWays", "sievedWhole", "(I)J"⟩, 16) := ⟨⟨by decide +kernel, by decide +kernel⟩, List.mem_of_getElem? (i := 22) (by decide +kernel), List.mem_of_getElem? (i := 410) (by decide +kernel), List.mem_of_getElem? (i := 411) (by decide +kernel)⟩
theorem lw_p10 : lw_okq (⟨"BernoulliWays", "addPrimesBelow", "(II)V"⟩, 16) := ⟨⟨by decide +kernel, by decide +kernel⟩, List.mem_of_getElem? (i := 22) (by decide +kernel), List.mem_of_getElem? (i := 436) (by decide +kernel), List.mem_of_getElem? (i := 437) (by decide +kernel)⟩
theorem lw_p11 : lw_okq (⟨"BernoulliWays", "noteWay", "(II)V"⟩, 16) := ⟨⟨by decide +kernel, by decide +kernel⟩, List.mem_of_getElem? (i := 22) (by decide +kernel), List.mem_of_getElem? (i := 444) (by decide +kernel), List.mem_of_getElem? (i := 445) (by decide +kernel)⟩
theorem lw_p12 : lw_okq (⟨"BernoulliWays$Checks", "failsBelow", "(I)Z"⟩, 3) := ⟨⟨by decide +kernel, by decide +kernel⟩, List.mem_of_getElem? (i := 118) (by decide +kernel), List.mem_of_getElem? (i := 466) (by decide +kernel), List.mem_of_getElem? (i := 467) (by decide +kernel)⟩
theorem lw_p13 : lw_okq (⟨"BernoulliWays$Checks", "failsRecurrence", "(I)Z"⟩, 3) := ⟨⟨by decide +kernel, by decide +kernel⟩, List.mem_of_getElem? (i := 118) (by decide +kernel), List.mem_of_getElem? (i := 479) (by decide +kernel), List.mem_of_getElem? (i := 480) (by decide +kernel)⟩
theorem lw_p14 : lw_okq (⟨"BernoulliWays$Checks", "failsKummer", "(I)Z"⟩, 3) := ⟨⟨by decide +kernel, by decide +kernel⟩, List.mem_of_getElem? (i := 118) (by decide +kernel), List.mem_of_getElem? (i := 488) (by decide +kernel), List.mem_of_getElem? (i := 489) (by decide +kernel)⟩
theorem lw_p15 : lw_okq (⟨"BernoulliWays$Checks", "isTold", "(II)Z"⟩, 3) := ⟨⟨by decide +kernel, by decide +kernel⟩, List.mem_of_getElem? (i := 118) (by decide +kernel), List.mem_of_getElem? (i := 496) (by decide +kernel), List.mem_of_getElem? (i := 497) (by decide +kernel)⟩
def lw_privs_1 : List (MethodName × Nat) := [(⟨"BernoulliWays", "allRightBelow", "(I)Z"⟩, 16), (⟨"BernoulliWays", "isRight", "(I)Z"⟩, 16), (⟨"BernoulliWays", "layOne", "(II)Z"⟩, 16), (⟨"BernoulliWays", "work", "(II)V"⟩, 16), (⟨"BernoulliWays", "workRecurrence", "(I)V"⟩, 16), (⟨"BernoulliWays", "workAsTold", "(I)V"⟩, 16), (⟨"BernoulliWays$Checks", "addEntry", "(JI)V"⟩, 3), (⟨"BernoulliWays", "workTriangle", "(I)V"⟩, 16), (⟨"BernoulliWays", "workSieve", "(I)V"⟩, 16), (⟨"BernoulliWays", "sievedWhole", "(I)J"⟩, 16), (⟨"BernoulliWays", "addPrimesBelow", "(II)V"⟩, 16), (⟨"BernoulliWays", "noteWay", "(II)V"⟩, 16), (⟨"BernoulliWays$Checks", "failsBelow", "(I)Z"⟩, 3), (⟨"BernoulliWays$Checks", "failsRecurrence", "(I)Z"⟩, 3), (⟨"BernoulliWays$Checks", "failsKummer", "(I)Z"⟩, 3), (⟨"BernoulliWays$Checks", "isTold", "(II)Z"⟩, 3)]
theorem lw_r1 : ∀ q ∈ lw_privs_1, lw_okq q := List.forall_mem_cons.mpr ⟨lw_p0, List.forall_mem_cons.mpr ⟨lw_p1, List.forall_mem_cons.mpr ⟨lw_p2, List.forall_mem_cons.mpr ⟨lw_p3, List.forall_mem_cons.mpr ⟨lw_p4, List.forall_mem_cons.mpr ⟨lw_p5, List.forall_mem_cons.mpr ⟨lw_p6, List.forall_mem_cons.mpr ⟨lw_p7, List.forall_mem_cons.mpr ⟨lw_p8, List.forall_mem_cons.mpr ⟨lw_p9, List.forall_mem_cons.mpr ⟨lw_p10, List.forall_mem_cons.mpr ⟨lw_p11, List.forall_mem_cons.mpr ⟨lw_p12, List.forall_mem_cons.mpr ⟨lw_p13, List.forall_mem_cons.mpr ⟨lw_p14, List.forall_mem_cons.mpr ⟨lw_p15, fun _ h => absurd h List.not_mem_nil⟩⟩⟩⟩⟩⟩⟩⟩⟩⟩⟩⟩⟩⟩⟩⟩
theorem lw_p16 : lw_okq (⟨"BernoulliWays$Checks", "byNumber", "(IJ)J"⟩, 3) := ⟨⟨by decide +kernel, by decide +kernel⟩, List.mem_of_getElem? (i := 118) (by decide +kernel), List.mem_of_getElem? (i := 501) (by decide +kernel), List.mem_of_getElem? (i := 502) (by decide +kernel)⟩
theorem lw_p17 : lw_okq (⟨"BernoulliWays$Checks", "failsDivisor", "(I)Z"⟩, 3) := ⟨⟨by decide +kernel, by decide +kernel⟩, List.mem_of_getElem? (i := 118) (by decide +kernel), List.mem_of_getElem? (i := 510) (by decide +kernel), List.mem_of_getElem? (i := 511) (by decide +kernel)⟩
theorem lw_p18 : lw_okq (⟨"BernoulliWays$Checks", "failsSixth", "(I)Z"⟩, 3) := ⟨⟨by decide +kernel, by decide +kernel⟩, List.mem_of_getElem? (i := 118) (by decide +kernel), List.mem_of_getElem? (i := 520) (by decide +kernel), List.mem_of_getElem? (i := 521) (by decide +kernel)⟩
theorem lw_p19 : lw_okq (⟨"BernoulliWays", "failingOnes", "(I)J"⟩, 16) := ⟨⟨by decide +kernel, by decide +kernel⟩, List.mem_of_getElem? (i := 22) (by decide +kernel), List.mem_of_getElem? (i := 533) (by decide +kernel), List.mem_of_getElem? (i := 534) (by decide +kernel)⟩
theorem lw_p20 : lw_okq (⟨"BernoulliWays", "residueNow", "(II)I"⟩, 16) := ⟨⟨by decide +kernel, by decide +kernel⟩, List.mem_of_getElem? (i := 22) (by decide +kernel), List.mem_of_getElem? (i := 568) (by decide +kernel), List.mem_of_getElem? (i := 569) (by decide +kernel)⟩
theorem lw_p21 : lw_okq (⟨"BernoulliWays$Memo", "placeOf", "(II)I"⟩, 4) := ⟨⟨by decide +kernel, by decide +kernel⟩, List.mem_of_getElem? (i := 135) (by decide +kernel), List.mem_of_getElem? (i := 577) (by decide +kernel), List.mem_of_getElem? (i := 578) (by decide +kernel)⟩
theorem lw_p22 : lw_okq (⟨"BernoulliWays$Memo", "dropEldest", "()V"⟩, 4) := ⟨⟨by decide +kernel, by decide +kernel⟩, List.mem_of_getElem? (i := 135) (by decide +kernel), List.mem_of_getElem? (i := 581) (by decide +kernel), List.mem_of_getElem? (i := 582) (by decide +kernel)⟩
theorem lw_p23 : lw_okq (⟨"BernoulliWays$Memo", "fits", "(I)Z"⟩, 4) := ⟨⟨by decide +kernel, by decide +kernel⟩, List.mem_of_getElem? (i := 135) (by decide +kernel), List.mem_of_getElem? (i := 588) (by decide +kernel), List.mem_of_getElem? (i := 589) (by decide +kernel)⟩
theorem lw_p24 : lw_okq (⟨"BernoulliWays", "holdsStill", "(I)Z"⟩, 16) := ⟨⟨by decide +kernel, by decide +kernel⟩, List.mem_of_getElem? (i := 22) (by decide +kernel), List.mem_of_getElem? (i := 620) (by decide +kernel), List.mem_of_getElem? (i := 621) (by decide +kernel)⟩
theorem lw_p25 : lw_okq (⟨"BernoulliWays", "isLaid", "(I)Z"⟩, 16) := ⟨⟨by decide +kernel, by decide +kernel⟩, List.mem_of_getElem? (i := 22) (by decide +kernel), List.mem_of_getElem? (i := 628) (by decide +kernel), List.mem_of_getElem? (i := 629) (by decide +kernel)⟩
theorem lw_p26 : lw_okq (⟨"BernoulliWays", "allPass", "(I)Z"⟩, 16) := ⟨⟨by decide +kernel, by decide +kernel⟩, List.mem_of_getElem? (i := 22) (by decide +kernel), List.mem_of_getElem? (i := 675) (by decide +kernel), List.mem_of_getElem? (i := 676) (by decide +kernel)⟩
theorem lw_p27 : lw_okq (⟨"BernoulliWays", "spoilByDraws", "(II)V"⟩, 16) := ⟨⟨by decide +kernel, by decide +kernel⟩, List.mem_of_getElem? (i := 22) (by decide +kernel), List.mem_of_getElem? (i := 688) (by decide +kernel), List.mem_of_getElem? (i := 689) (by decide +kernel)⟩
theorem lw_p28 : lw_okq (⟨"BernoulliWays$Pairs", "search", "(I)V"⟩, 5) := ⟨⟨by decide +kernel, by decide +kernel⟩, List.mem_of_getElem? (i := 173) (by decide +kernel), List.mem_of_getElem? (i := 728) (by decide +kernel), List.mem_of_getElem? (i := 729) (by decide +kernel)⟩
theorem lw_p29 : lw_okq (⟨"BernoulliWays$ByWays", "fillByRecurrence", "(I)V"⟩, 4) := ⟨⟨by decide +kernel, by decide +kernel⟩, List.mem_of_getElem? (i := 154) (by decide +kernel), List.mem_of_getElem? (i := 736) (by decide +kernel), List.mem_of_getElem? (i := 737) (by decide +kernel)⟩
theorem lw_p30 : lw_okq (⟨"BernoulliWays$ByWays", "fillByTriangle", "(I)V"⟩, 4) := ⟨⟨by decide +kernel, by decide +kernel⟩, List.mem_of_getElem? (i := 154) (by decide +kernel), List.mem_of_getElem? (i := 742) (by decide +kernel), List.mem_of_getElem? (i := 743) (by decide +kernel)⟩
theorem lw_p31 : lw_okq (⟨"BernoulliWays$ByWays", "fillByPowers", "(I)V"⟩, 4) := ⟨⟨by decide +kernel, by decide +kernel⟩, List.mem_of_getElem? (i := 154) (by decide +kernel), List.mem_of_getElem? (i := 746) (by decide +kernel), List.mem_of_getElem? (i := 747) (by decide +kernel)⟩
def lw_privs_2 : List (MethodName × Nat) := [(⟨"BernoulliWays$Checks", "byNumber", "(IJ)J"⟩, 3), (⟨"BernoulliWays$Checks", "failsDivisor", "(I)Z"⟩, 3), (⟨"BernoulliWays$Checks", "failsSixth", "(I)Z"⟩, 3), (⟨"BernoulliWays", "failingOnes", "(I)J"⟩, 16), (⟨"BernoulliWays", "residueNow", "(II)I"⟩, 16), (⟨"BernoulliWays$Memo", "placeOf", "(II)I"⟩, 4), (⟨"BernoulliWays$Memo", "dropEldest", "()V"⟩, 4), (⟨"BernoulliWays$Memo", "fits", "(I)Z"⟩, 4), (⟨"BernoulliWays", "holdsStill", "(I)Z"⟩, 16), (⟨"BernoulliWays", "isLaid", "(I)Z"⟩, 16), (⟨"BernoulliWays", "allPass", "(I)Z"⟩, 16), (⟨"BernoulliWays", "spoilByDraws", "(II)V"⟩, 16), (⟨"BernoulliWays$Pairs", "search", "(I)V"⟩, 5), (⟨"BernoulliWays$ByWays", "fillByRecurrence", "(I)V"⟩, 4), (⟨"BernoulliWays$ByWays", "fillByTriangle", "(I)V"⟩, 4), (⟨"BernoulliWays$ByWays", "fillByPowers", "(I)V"⟩, 4)]
theorem lw_r2 : ∀ q ∈ lw_privs_2, lw_okq q := List.forall_mem_cons.mpr ⟨lw_p16, List.forall_mem_cons.mpr ⟨lw_p17, List.forall_mem_cons.mpr ⟨lw_p18, List.forall_mem_cons.mpr ⟨lw_p19, List.forall_mem_cons.mpr ⟨lw_p20, List.forall_mem_cons.mpr ⟨lw_p21, List.forall_mem_cons.mpr ⟨lw_p22, List.forall_mem_cons.mpr ⟨lw_p23, List.forall_mem_cons.mpr ⟨lw_p24, List.forall_mem_cons.mpr ⟨lw_p25, List.forall_mem_cons.mpr ⟨lw_p26, List.forall_mem_cons.mpr ⟨lw_p27, List.forall_mem_cons.mpr ⟨lw_p28, List.forall_mem_cons.mpr ⟨lw_p29, List.forall_mem_cons.mpr ⟨lw_p30, List.forall_mem_cons.mpr ⟨lw_p31, fun _ h => absurd h List.not_mem_nil⟩⟩⟩⟩⟩⟩⟩⟩⟩⟩⟩⟩⟩⟩⟩⟩
theorem lw_p32 : lw_okq (⟨"BernoulliWays", "homogeneous", "(LBernoulliWays$Entries;IJJJ)J"⟩, 16) := ⟨⟨by decide +kernel, by decide +kernel⟩, List.mem_of_getElem? (i := 22) (by decide +kernel), List.mem_of_getElem? (i := 825) (by decide +kernel), List.mem_of_getElem? (i := 826) (by decide +kernel)⟩
theorem lw_p33 : lw_okq (⟨"BernoulliWays", "fillBigResidues", "(I)V"⟩, 16) := ⟨⟨by decide +kernel, by decide +kernel⟩, List.mem_of_getElem? (i := 22) (by decide +kernel), List.mem_of_getElem? (i := 858) (by decide +kernel), List.mem_of_getElem? (i := 859) (by decide +kernel)⟩
theorem lw_p34 : lw_okq (⟨"BernoulliWays", "bigPolynomial", "(IJ)J"⟩, 16) := ⟨⟨by decide +kernel, by decide +kernel⟩, List.mem_of_getElem? (i := 22) (by decide +kernel), List.mem_of_getElem? (i := 863) (by decide +kernel), List.mem_of_getElem? (i := 864) (by decide +kernel)⟩
theorem lw_p35 : lw_okq (⟨"BernoulliWays", "workSum", "(II)V"⟩, 16) := ⟨⟨by decide +kernel, by decide +kernel⟩, List.mem_of_getElem? (i := 22) (by decide +kernel), List.mem_of_getElem? (i := 871) (by decide +kernel), List.mem_of_getElem? (i := 872) (by decide +kernel)⟩
theorem lw_p36 : lw_okq (⟨"BernoulliWays$Decimal", "fromRight", "(I)I"⟩, 2) := ⟨⟨by decide +kernel, by decide +kernel⟩, List.mem_of_getElem? (i := 195) (by decide +kernel), List.mem_of_getElem? (i := 896) (by decide +kernel), List.mem_of_getElem? (i := 897) (by decide +kernel)⟩
theorem lw_p37 : lw_okq (⟨"BernoulliWays", "splitInTriangles", "(I)Z"⟩, 16) := ⟨⟨by decide +kernel, by decide +kernel⟩, List.mem_of_getElem? (i := 22) (by decide +kernel), List.mem_of_getElem? (i := 921) (by decide +kernel), List.mem_of_getElem? (i := 922) (by decide +kernel)⟩
theorem lw_p38 : lw_okq (⟨"BernoulliWays", "fillPolynomial", "(II)Z"⟩, 16) := ⟨⟨by decide +kernel, by decide +kernel⟩, List.mem_of_getElem? (i := 22) (by decide +kernel), List.mem_of_getElem? (i := 940) (by decide +kernel), List.mem_of_getElem? (i := 941) (by decide +kernel)⟩
theorem lw_p39 : lw_okq (⟨"BernoulliWays", "polynomialAt", "(IJI)J"⟩, 16) := ⟨⟨by decide +kernel, by decide +kernel⟩, List.mem_of_getElem? (i := 22) (by decide +kernel), List.mem_of_getElem? (i := 944) (by decide +kernel), List.mem_of_getElem? (i := 945) (by decide +kernel)⟩
theorem lw_p40 : lw_okq (⟨"BernoulliWays", "fillBoxes", "(I)V"⟩, 16) := ⟨⟨by decide +kernel, by decide +kernel⟩, List.mem_of_getElem? (i := 22) (by decide +kernel), List.mem_of_getElem? (i := 964) (by decide +kernel), List.mem_of_getElem? (i := 965) (by decide +kernel)⟩
theorem lw_p41 : lw_okq (⟨"BernoulliWays", "manyNotRight", "()I"⟩, 16) := ⟨⟨by decide +kernel, by decide +kernel⟩, List.mem_of_getElem? (i := 22) (by decide +kernel), List.mem_of_getElem? (i := 999) (by decide +kernel), List.mem_of_getElem? (i := 1000) (by decide +kernel)⟩
theorem lw_p42 : lw_okq (⟨"BernoulliWays", "manyOutdated", "()I"⟩, 16) := ⟨⟨by decide +kernel, by decide +kernel⟩, List.mem_of_getElem? (i := 22) (by decide +kernel), List.mem_of_getElem? (i := 1003) (by decide +kernel), List.mem_of_getElem? (i := 1004) (by decide +kernel)⟩
theorem lw_p43 : lw_okq (⟨"java/lang/Throwable", "fillInStackTrace", "(I)Ljava/lang/Throwable;"⟩, 6) := ⟨⟨by decide +kernel, by decide +kernel⟩, List.mem_of_getElem? (i := 1051) (by decide +kernel), List.mem_of_getElem? (i := 1049) (by decide +kernel), List.mem_of_getElem? (i := 1050) (by decide +kernel)⟩
theorem lw_p44 : lw_okq (⟨"BernoulliWaysModel", "addsUp", "([JII)V"⟩, 34) := ⟨⟨by decide +kernel, by decide +kernel⟩, List.mem_of_getElem? (i := 1081) (by decide +kernel), List.mem_of_getElem? (i := 1090) (by decide +kernel), List.mem_of_getElem? (i := 1091) (by decide +kernel)⟩
theorem lw_p45 : lw_okq (⟨"BernoulliWaysModel", "addsOne", "([JJI)V"⟩, 34) := ⟨⟨by decide +kernel, by decide +kernel⟩, List.mem_of_getElem? (i := 1081) (by decide +kernel), List.mem_of_getElem? (i := 1094) (by decide +kernel), List.mem_of_getElem? (i := 1095) (by decide +kernel)⟩
theorem lw_p46 : lw_okq (⟨"BernoulliWaysModel", "quotes", "([JIJJI)V"⟩, 34) := ⟨⟨by decide +kernel, by decide +kernel⟩, List.mem_of_getElem? (i := 1081) (by decide +kernel), List.mem_of_getElem? (i := 1099) (by decide +kernel), List.mem_of_getElem? (i := 1100) (by decide +kernel)⟩
theorem lw_p47 : lw_okq (⟨"BernoulliWaysModel", "laysProper", "([JIJJJ)V"⟩, 34) := ⟨⟨by decide +kernel, by decide +kernel⟩, List.mem_of_getElem? (i := 1081) (by decide +kernel), List.mem_of_getElem? (i := 1106) (by decide +kernel), List.mem_of_getElem? (i := 1107) (by decide +kernel)⟩
def lw_privs_3 : List (MethodName × Nat) := [(⟨"BernoulliWays", "homogeneous", "(LBernoulliWays$Entries;IJJJ)J"⟩, 16), (⟨"BernoulliWays", "fillBigResidues", "(I)V"⟩, 16), (⟨"BernoulliWays", "bigPolynomial", "(IJ)J"⟩, 16), (⟨"BernoulliWays", "workSum", "(II)V"⟩, 16), (⟨"BernoulliWays$Decimal", "fromRight", "(I)I"⟩, 2), (⟨"BernoulliWays", "splitInTriangles", "(I)Z"⟩, 16), (⟨"BernoulliWays", "fillPolynomial", "(II)Z"⟩, 16), (⟨"BernoulliWays", "polynomialAt", "(IJI)J"⟩, 16), (⟨"BernoulliWays", "fillBoxes", "(I)V"⟩, 16), (⟨"BernoulliWays", "manyNotRight", "()I"⟩, 16), (⟨"BernoulliWays", "manyOutdated", "()I"⟩, 16), (⟨"java/lang/Throwable", "fillInStackTrace", "(I)Ljava/lang/Throwable;"⟩, 6), (⟨"BernoulliWaysModel", "addsUp", "([JII)V"⟩, 34), (⟨"BernoulliWaysModel", "addsOne", "([JJI)V"⟩, 34), (⟨"BernoulliWaysModel", "quotes", "([JIJJI)V"⟩, 34), (⟨"BernoulliWaysModel", "laysProper", "([JIJJJ)V"⟩, 34)]
theorem lw_r3 : ∀ q ∈ lw_privs_3, lw_okq q := List.forall_mem_cons.mpr ⟨lw_p32, List.forall_mem_cons.mpr ⟨lw_p33, List.forall_mem_cons.mpr ⟨lw_p34, List.forall_mem_cons.mpr ⟨lw_p35, List.forall_mem_cons.mpr ⟨lw_p36, List.forall_mem_cons.mpr ⟨lw_p37, List.forall_mem_cons.mpr ⟨lw_p38, List.forall_mem_cons.mpr ⟨lw_p39, List.forall_mem_cons.mpr ⟨lw_p40, List.forall_mem_cons.mpr ⟨lw_p41, List.forall_mem_cons.mpr ⟨lw_p42, List.forall_mem_cons.mpr ⟨lw_p43, List.forall_mem_cons.mpr ⟨lw_p44, List.forall_mem_cons.mpr ⟨lw_p45, List.forall_mem_cons.mpr ⟨lw_p46, List.forall_mem_cons.mpr ⟨lw_p47, fun _ h => absurd h List.not_mem_nil⟩⟩⟩⟩⟩⟩⟩⟩⟩⟩⟩⟩⟩⟩⟩⟩
theorem lw_p48 : lw_okq (⟨"BernoulliWaysModel", "isEntry", "(I)Z"⟩, 34) := ⟨⟨by decide +kernel, by decide +kernel⟩, List.mem_of_getElem? (i := 1081) (by decide +kernel), List.mem_of_getElem? (i := 1224) (by decide +kernel), List.mem_of_getElem? (i := 1225) (by decide +kernel)⟩
theorem lw_p49 : lw_okq (⟨"BernoulliWaysModel", "areRight", "(I)Z"⟩, 34) := ⟨⟨by decide +kernel, by decide +kernel⟩, List.mem_of_getElem? (i := 1081) (by decide +kernel), List.mem_of_getElem? (i := 1231) (by decide +kernel), List.mem_of_getElem? (i := 1232) (by decide +kernel)⟩
theorem lw_p50 : lw_okq (⟨"BernoulliWaysModel", "isRight", "(I)Z"⟩, 34) := ⟨⟨by decide +kernel, by decide +kernel⟩, List.mem_of_getElem? (i := 1081) (by decide +kernel), List.mem_of_getElem? (i := 1235) (by decide +kernel), List.mem_of_getElem? (i := 1236) (by decide +kernel)⟩
theorem lw_p51 : lw_okq (⟨"BernoulliWaysModel", "makes", "(II)V"⟩, 34) := ⟨⟨by decide +kernel, by decide +kernel⟩, List.mem_of_getElem? (i := 1081) (by decide +kernel), List.mem_of_getElem? (i := 1239) (by decide +kernel), List.mem_of_getElem? (i := 1240) (by decide +kernel)⟩
theorem lw_p52 : lw_okq (⟨"BernoulliWaysModel", "spoils", "(II)V"⟩, 34) := ⟨⟨by decide +kernel, by decide +kernel⟩, List.mem_of_getElem? (i := 1081) (by decide +kernel), List.mem_of_getElem? (i := 1251) (by decide +kernel), List.mem_of_getElem? (i := 1252) (by decide +kernel)⟩
theorem lw_p53 : lw_okq (⟨"BernoulliWaysModel", "testsOf", "(I)I"⟩, 34) := ⟨⟨by decide +kernel, by decide +kernel⟩, List.mem_of_getElem? (i := 1081) (by decide +kernel), List.mem_of_getElem? (i := 1255) (by decide +kernel), List.mem_of_getElem? (i := 1256) (by decide +kernel)⟩
theorem lw_p54 : lw_okq (⟨"BernoulliWaysModel", "breaksSixth", "(I)Z"⟩, 34) := ⟨⟨by decide +kernel, by decide +kernel⟩, List.mem_of_getElem? (i := 1081) (by decide +kernel), List.mem_of_getElem? (i := 1259) (by decide +kernel), List.mem_of_getElem? (i := 1260) (by decide +kernel)⟩
theorem lw_p55 : lw_okq (⟨"BernoulliWaysModel", "dueBelow", "(I)J"⟩, 34) := ⟨⟨by decide +kernel, by decide +kernel⟩, List.mem_of_getElem? (i := 1081) (by decide +kernel), List.mem_of_getElem? (i := 1263) (by decide +kernel), List.mem_of_getElem? (i := 1264) (by decide +kernel)⟩
theorem lw_p56 : lw_okq (⟨"BernoulliWaysModel", "signOf", "(I)I"⟩, 34) := ⟨⟨by decide +kernel, by decide +kernel⟩, List.mem_of_getElem? (i := 1081) (by decide +kernel), List.mem_of_getElem? (i := 1268) (by decide +kernel), List.mem_of_getElem? (i := 1269) (by decide +kernel)⟩
theorem lw_p57 : lw_okq (⟨"BernoulliWaysModel", "breaksSum", "(I)Z"⟩, 34) := ⟨⟨by decide +kernel, by decide +kernel⟩, List.mem_of_getElem? (i := 1081) (by decide +kernel), List.mem_of_getElem? (i := 1275) (by decide +kernel), List.mem_of_getElem? (i := 1276) (by decide +kernel)⟩
theorem lw_p58 : lw_okq (⟨"BernoulliWaysModel", "breaksKummer", "(I)Z"⟩, 34) := ⟨⟨by decide +kernel, by decide +kernel⟩, List.mem_of_getElem? (i := 1081) (by decide +kernel), List.mem_of_getElem? (i := 1279) (by decide +kernel), List.mem_of_getElem? (i := 1280) (by decide +kernel)⟩
theorem lw_p59 : lw_okq (⟨"BernoulliWaysModel", "kummerOf", "(III)I"⟩, 34) := ⟨⟨by decide +kernel, by decide +kernel⟩, List.mem_of_getElem? (i := 1081) (by decide +kernel), List.mem_of_getElem? (i := 1283) (by decide +kernel), List.mem_of_getElem? (i := 1284) (by decide +kernel)⟩
theorem lw_p60 : lw_okq (⟨"BernoulliWaysModel", "restOf", "([JII)I"⟩, 34) := ⟨⟨by decide +kernel, by decide +kernel⟩, List.mem_of_getElem? (i := 1081) (by decide +kernel), List.mem_of_getElem? (i := 1287) (by decide +kernel), List.mem_of_getElem? (i := 1288) (by decide +kernel)⟩
theorem lw_p61 : lw_okq (⟨"BernoulliWaysModel", "breaksPrimes", "(I)Z"⟩, 34) := ⟨⟨by decide +kernel, by decide +kernel⟩, List.mem_of_getElem? (i := 1081) (by decide +kernel), List.mem_of_getElem? (i := 1297) (by decide +kernel), List.mem_of_getElem? (i := 1298) (by decide +kernel)⟩
theorem lw_p62 : lw_okq (⟨"BernoulliWaysModel", "failsWith", "()J"⟩, 34) := ⟨⟨by decide +kernel, by decide +kernel⟩, List.mem_of_getElem? (i := 1081) (by decide +kernel), List.mem_of_getElem? (i := 1305) (by decide +kernel), List.mem_of_getElem? (i := 1306) (by decide +kernel)⟩
theorem lw_p63 : lw_okq (⟨"BernoulliWaysModel", "isPrime", "(I)Z"⟩, 34) := ⟨⟨by decide +kernel, by decide +kernel⟩, List.mem_of_getElem? (i := 1081) (by decide +kernel), List.mem_of_getElem? (i := 1343) (by decide +kernel), List.mem_of_getElem? (i := 1344) (by decide +kernel)⟩
def lw_privs_4 : List (MethodName × Nat) := [(⟨"BernoulliWaysModel", "isEntry", "(I)Z"⟩, 34), (⟨"BernoulliWaysModel", "areRight", "(I)Z"⟩, 34), (⟨"BernoulliWaysModel", "isRight", "(I)Z"⟩, 34), (⟨"BernoulliWaysModel", "makes", "(II)V"⟩, 34), (⟨"BernoulliWaysModel", "spoils", "(II)V"⟩, 34), (⟨"BernoulliWaysModel", "testsOf", "(I)I"⟩, 34), (⟨"BernoulliWaysModel", "breaksSixth", "(I)Z"⟩, 34), (⟨"BernoulliWaysModel", "dueBelow", "(I)J"⟩, 34), (⟨"BernoulliWaysModel", "signOf", "(I)I"⟩, 34), (⟨"BernoulliWaysModel", "breaksSum", "(I)Z"⟩, 34), (⟨"BernoulliWaysModel", "breaksKummer", "(I)Z"⟩, 34), (⟨"BernoulliWaysModel", "kummerOf", "(III)I"⟩, 34), (⟨"BernoulliWaysModel", "restOf", "([JII)I"⟩, 34), (⟨"BernoulliWaysModel", "breaksPrimes", "(I)Z"⟩, 34), (⟨"BernoulliWaysModel", "failsWith", "()J"⟩, 34), (⟨"BernoulliWaysModel", "isPrime", "(I)Z"⟩, 34)]
theorem lw_r4 : ∀ q ∈ lw_privs_4, lw_okq q := List.forall_mem_cons.mpr ⟨lw_p48, List.forall_mem_cons.mpr ⟨lw_p49, List.forall_mem_cons.mpr ⟨lw_p50, List.forall_mem_cons.mpr ⟨lw_p51, List.forall_mem_cons.mpr ⟨lw_p52, List.forall_mem_cons.mpr ⟨lw_p53, List.forall_mem_cons.mpr ⟨lw_p54, List.forall_mem_cons.mpr ⟨lw_p55, List.forall_mem_cons.mpr ⟨lw_p56, List.forall_mem_cons.mpr ⟨lw_p57, List.forall_mem_cons.mpr ⟨lw_p58, List.forall_mem_cons.mpr ⟨lw_p59, List.forall_mem_cons.mpr ⟨lw_p60, List.forall_mem_cons.mpr ⟨lw_p61, List.forall_mem_cons.mpr ⟨lw_p62, List.forall_mem_cons.mpr ⟨lw_p63, fun _ h => absurd h List.not_mem_nil⟩⟩⟩⟩⟩⟩⟩⟩⟩⟩⟩⟩⟩⟩⟩⟩
theorem lw_p64 : lw_okq (⟨"BernoulliWaysModel", "keeps", "(III)V"⟩, 34) := ⟨⟨by decide +kernel, by decide +kernel⟩, List.mem_of_getElem? (i := 1081) (by decide +kernel), List.mem_of_getElem? (i := 1347) (by decide +kernel), List.mem_of_getElem? (i := 1348) (by decide +kernel)⟩
theorem lw_p65 : lw_okq (⟨"BernoulliWaysModel", "memoOf", "(II)I"⟩, 34) := ⟨⟨by decide +kernel, by decide +kernel⟩, List.mem_of_getElem? (i := 1081) (by decide +kernel), List.mem_of_getElem? (i := 1351) (by decide +kernel), List.mem_of_getElem? (i := 1352) (by decide +kernel)⟩
theorem lw_p66 : lw_okq (⟨"BernoulliWaysModel", "isAsKept", "(I)Z"⟩, 34) := ⟨⟨by decide +kernel, by decide +kernel⟩, List.mem_of_getElem? (i := 1081) (by decide +kernel), List.mem_of_getElem? (i := 1363) (by decide +kernel), List.mem_of_getElem? (i := 1364) (by decide +kernel)⟩
theorem lw_p67 : lw_okq (⟨"BernoulliWaysModel", "oftenAbove", "(II)I"⟩, 34) := ⟨⟨by decide +kernel, by decide +kernel⟩, List.mem_of_getElem? (i := 1081) (by decide +kernel), List.mem_of_getElem? (i := 1374) (by decide +kernel), List.mem_of_getElem? (i := 1375) (by decide +kernel)⟩
theorem lw_p68 : lw_okq (⟨"BernoulliWaysModel", "fails", "(I)Z"⟩, 34) := ⟨⟨by decide +kernel, by decide +kernel⟩, List.mem_of_getElem? (i := 1081) (by decide +kernel), List.mem_of_getElem? (i := 1408) (by decide +kernel), List.mem_of_getElem? (i := 1409) (by decide +kernel)⟩
theorem lw_p69 : lw_okq (⟨"BernoulliWaysModel", "draw", "(I)I"⟩, 34) := ⟨⟨by decide +kernel, by decide +kernel⟩, List.mem_of_getElem? (i := 1081) (by decide +kernel), List.mem_of_getElem? (i := 1416) (by decide +kernel), List.mem_of_getElem? (i := 1417) (by decide +kernel)⟩
theorem lw_p70 : lw_okq (⟨"BernoulliWaysModel", "laysWay", "(II)V"⟩, 34) := ⟨⟨by decide +kernel, by decide +kernel⟩, List.mem_of_getElem? (i := 1081) (by decide +kernel), List.mem_of_getElem? (i := 1436) (by decide +kernel), List.mem_of_getElem? (i := 1437) (by decide +kernel)⟩
theorem lw_p71 : lw_okq (⟨"BernoulliWaysModel", "laysAll", "(I)V"⟩, 34) := ⟨⟨by decide +kernel, by decide +kernel⟩, List.mem_of_getElem? (i := 1081) (by decide +kernel), List.mem_of_getElem? (i := 1440) (by decide +kernel), List.mem_of_getElem? (i := 1441) (by decide +kernel)⟩
theorem lw_p72 : lw_okq (⟨"BernoulliWaysModel", "laysRests", "(I)V"⟩, 34) := ⟨⟨by decide +kernel, by decide +kernel⟩, List.mem_of_getElem? (i := 1081) (by decide +kernel), List.mem_of_getElem? (i := 1444) (by decide +kernel), List.mem_of_getElem? (i := 1445) (by decide +kernel)⟩
theorem lw_p73 : lw_okq (⟨"BernoulliWaysModel", "laysTriangle", "(I)V"⟩, 34) := ⟨⟨by decide +kernel, by decide +kernel⟩, List.mem_of_getElem? (i := 1081) (by decide +kernel), List.mem_of_getElem? (i := 1448) (by decide +kernel), List.mem_of_getElem? (i := 1449) (by decide +kernel)⟩
theorem lw_p74 : lw_okq (⟨"BernoulliWaysModel", "irregularOf", "(I)I"⟩, 34) := ⟨⟨by decide +kernel, by decide +kernel⟩, List.mem_of_getElem? (i := 1081) (by decide +kernel), List.mem_of_getElem? (i := 1463) (by decide +kernel), List.mem_of_getElem? (i := 1464) (by decide +kernel)⟩
theorem lw_p75 : lw_okq (⟨"BernoulliWaysModel", "laysSums", "(I)V"⟩, 34) := ⟨⟨by decide +kernel, by decide +kernel⟩, List.mem_of_getElem? (i := 1081) (by decide +kernel), List.mem_of_getElem? (i := 1520) (by decide +kernel), List.mem_of_getElem? (i := 1521) (by decide +kernel)⟩
theorem lw_p76 : lw_okq (⟨"BernoulliWaysModel", "puts", "(IJJ)V"⟩, 34) := ⟨⟨by decide +kernel, by decide +kernel⟩, List.mem_of_getElem? (i := 1081) (by decide +kernel), List.mem_of_getElem? (i := 1524) (by decide +kernel), List.mem_of_getElem? (i := 1525) (by decide +kernel)⟩
theorem lw_p77 : lw_okq (⟨"BernoulliWaysModel", "sumAt", "(II)J"⟩, 34) := ⟨⟨by decide +kernel, by decide +kernel⟩, List.mem_of_getElem? (i := 1081) (by decide +kernel), List.mem_of_getElem? (i := 1533) (by decide +kernel), List.mem_of_getElem? (i := 1534) (by decide +kernel)⟩
theorem lw_p78 : lw_okq (⟨"BernoulliWaysModel", "laysFull", "(II)V"⟩, 34) := ⟨⟨by decide +kernel, by decide +kernel⟩, List.mem_of_getElem? (i := 1081) (by decide +kernel), List.mem_of_getElem? (i := 1556) (by decide +kernel), List.mem_of_getElem? (i := 1557) (by decide +kernel)⟩
theorem lw_p79 : lw_okq (⟨"BernoulliWaysModel", "laysKinds", "(I)V"⟩, 34) := ⟨⟨by decide +kernel, by decide +kernel⟩, List.mem_of_getElem? (i := 1081) (by decide +kernel), List.mem_of_getElem? (i := 1561) (by decide +kernel), List.mem_of_getElem? (i := 1562) (by decide +kernel)⟩
def lw_privs_5 : List (MethodName × Nat) := [(⟨"BernoulliWaysModel", "keeps", "(III)V"⟩, 34), (⟨"BernoulliWaysModel", "memoOf", "(II)I"⟩, 34), (⟨"BernoulliWaysModel", "isAsKept", "(I)Z"⟩, 34), (⟨"BernoulliWaysModel", "oftenAbove", "(II)I"⟩, 34), (⟨"BernoulliWaysModel", "fails", "(I)Z"⟩, 34), (⟨"BernoulliWaysModel", "draw", "(I)I"⟩, 34), (⟨"BernoulliWaysModel", "laysWay", "(II)V"⟩, 34), (⟨"BernoulliWaysModel", "laysAll", "(I)V"⟩, 34), (⟨"BernoulliWaysModel", "laysRests", "(I)V"⟩, 34), (⟨"BernoulliWaysModel", "laysTriangle", "(I)V"⟩, 34), (⟨"BernoulliWaysModel", "irregularOf", "(I)I"⟩, 34), (⟨"BernoulliWaysModel", "laysSums", "(I)V"⟩, 34), (⟨"BernoulliWaysModel", "puts", "(IJJ)V"⟩, 34), (⟨"BernoulliWaysModel", "sumAt", "(II)J"⟩, 34), (⟨"BernoulliWaysModel", "laysFull", "(II)V"⟩, 34), (⟨"BernoulliWaysModel", "laysKinds", "(I)V"⟩, 34)]
theorem lw_r5 : ∀ q ∈ lw_privs_5, lw_okq q := List.forall_mem_cons.mpr ⟨lw_p64, List.forall_mem_cons.mpr ⟨lw_p65, List.forall_mem_cons.mpr ⟨lw_p66, List.forall_mem_cons.mpr ⟨lw_p67, List.forall_mem_cons.mpr ⟨lw_p68, List.forall_mem_cons.mpr ⟨lw_p69, List.forall_mem_cons.mpr ⟨lw_p70, List.forall_mem_cons.mpr ⟨lw_p71, List.forall_mem_cons.mpr ⟨lw_p72, List.forall_mem_cons.mpr ⟨lw_p73, List.forall_mem_cons.mpr ⟨lw_p74, List.forall_mem_cons.mpr ⟨lw_p75, List.forall_mem_cons.mpr ⟨lw_p76, List.forall_mem_cons.mpr ⟨lw_p77, List.forall_mem_cons.mpr ⟨lw_p78, List.forall_mem_cons.mpr ⟨lw_p79, fun _ h => absurd h List.not_mem_nil⟩⟩⟩⟩⟩⟩⟩⟩⟩⟩⟩⟩⟩⟩⟩⟩
theorem lw_p80 : lw_okq (⟨"BernoulliWaysModel", "times", "(J)V"⟩, 34) := ⟨⟨by decide +kernel, by decide +kernel⟩, List.mem_of_getElem? (i := 1081) (by decide +kernel), List.mem_of_getElem? (i := 1565) (by decide +kernel), List.mem_of_getElem? (i := 1566) (by decide +kernel)⟩
theorem lw_p81 : lw_okq (⟨"BernoulliWaysModel", "addsRow", "(IJI)V"⟩, 34) := ⟨⟨by decide +kernel, by decide +kernel⟩, List.mem_of_getElem? (i := 1081) (by decide +kernel), List.mem_of_getElem? (i := 1569) (by decide +kernel), List.mem_of_getElem? (i := 1570) (by decide +kernel)⟩
theorem lw_p82 : lw_okq (⟨"BernoulliWaysModel", "digitsOfFull", "()I"⟩, 34) := ⟨⟨by decide +kernel, by decide +kernel⟩, List.mem_of_getElem? (i := 1081) (by decide +kernel), List.mem_of_getElem? (i := 1573) (by decide +kernel), List.mem_of_getElem? (i := 1574) (by decide +kernel)⟩
theorem lw_p83 : lw_okq (⟨"BernoulliWaysModel", "laysTriangles", "(I)Z"⟩, 34) := ⟨⟨by decide +kernel, by decide +kernel⟩, List.mem_of_getElem? (i := 1081) (by decide +kernel), List.mem_of_getElem? (i := 1586) (by decide +kernel), List.mem_of_getElem? (i := 1587) (by decide +kernel)⟩
theorem lw_p84 : lw_okq (⟨"BernoulliWaysModel", "takes", "(IJJ)V"⟩, 34) := ⟨⟨by decide +kernel, by decide +kernel⟩, List.mem_of_getElem? (i := 1081) (by decide +kernel), List.mem_of_getElem? (i := 1590) (by decide +kernel), List.mem_of_getElem? (i := 1591) (by decide +kernel)⟩
theorem lw_p85 : lw_okq (⟨"BernoulliWaysModel", "laysPoly", "(II)I"⟩, 34) := ⟨⟨by decide +kernel, by decide +kernel⟩, List.mem_of_getElem? (i := 1081) (by decide +kernel), List.mem_of_getElem? (i := 1608) (by decide +kernel), List.mem_of_getElem? (i := 1609) (by decide +kernel)⟩
theorem lw_p86 : lw_okq (⟨"BernoulliWaysModel", "polyAt", "(III)I"⟩, 34) := ⟨⟨by decide +kernel, by decide +kernel⟩, List.mem_of_getElem? (i := 1081) (by decide +kernel), List.mem_of_getElem? (i := 1612) (by decide +kernel), List.mem_of_getElem? (i := 1613) (by decide +kernel)⟩
theorem lw_p87 : lw_okq (⟨"BernoulliWaysModel", "laysBoxes", "(I)V"⟩, 34) := ⟨⟨by decide +kernel, by decide +kernel⟩, List.mem_of_getElem? (i := 1081) (by decide +kernel), List.mem_of_getElem? (i := 1632) (by decide +kernel), List.mem_of_getElem? (i := 1633) (by decide +kernel)⟩
def lw_privs_6 : List (MethodName × Nat) := [(⟨"BernoulliWaysModel", "times", "(J)V"⟩, 34), (⟨"BernoulliWaysModel", "addsRow", "(IJI)V"⟩, 34), (⟨"BernoulliWaysModel", "digitsOfFull", "()I"⟩, 34), (⟨"BernoulliWaysModel", "laysTriangles", "(I)Z"⟩, 34), (⟨"BernoulliWaysModel", "takes", "(IJJ)V"⟩, 34), (⟨"BernoulliWaysModel", "laysPoly", "(II)I"⟩, 34), (⟨"BernoulliWaysModel", "polyAt", "(III)I"⟩, 34), (⟨"BernoulliWaysModel", "laysBoxes", "(I)V"⟩, 34)]
theorem lw_r6 : ∀ q ∈ lw_privs_6, lw_okq q := List.forall_mem_cons.mpr ⟨lw_p80, List.forall_mem_cons.mpr ⟨lw_p81, List.forall_mem_cons.mpr ⟨lw_p82, List.forall_mem_cons.mpr ⟨lw_p83, List.forall_mem_cons.mpr ⟨lw_p84, List.forall_mem_cons.mpr ⟨lw_p85, List.forall_mem_cons.mpr ⟨lw_p86, List.forall_mem_cons.mpr ⟨lw_p87, fun _ h => absurd h List.not_mem_nil⟩⟩⟩⟩⟩⟩⟩⟩
def lw_privs : List (MethodName × Nat) := lw_privs_1 ++ (lw_privs_2 ++ (lw_privs_3 ++ (lw_privs_4 ++ (lw_privs_5 ++ (lw_privs_6)))))
def lw_tbl : List Cond := k2_sels lw_privs ++ tables_1
theorem lw_privs_ok : ∀ q ∈ lw_privs, lw_okq q := by
  show ∀ q ∈ lw_privs_1 ++ (lw_privs_2 ++ (lw_privs_3 ++ (lw_privs_4 ++ (lw_privs_5 ++ (lw_privs_6))))), lw_okq q
  exact List.forall_mem_append.mpr ⟨lw_r1, List.forall_mem_append.mpr ⟨lw_r2, List.forall_mem_append.mpr ⟨lw_r3, List.forall_mem_append.mpr ⟨lw_r4, List.forall_mem_append.mpr ⟨lw_r5, lw_r6⟩⟩⟩⟩⟩
-- ===== end of PART A; then your names; then what follows =====
end
section
/-! THE TABLES OF THE PURE MACHINE, laid by wip/whole/lay02.py out of the Statement's own tables -/
/-- the classes: name; fields (declaring class, name, descriptor, final); how many -/
def xf_0 : List (String × String × String × Bool) := [("BernoulliWays", "choose", "LBernoulliWays$Choose;", true), ("BernoulliWays", "total", "LBernoulliWays$Total;", true), ("BernoulliWays", "triangle", "LBernoulliWays$Triangle;", true), ("BernoulliWays", "rightOnes", "LBernoulliWays$Entries;", true), ("BernoulliWays", "now", "LBernoulliWays$Entries;", true), ("BernoulliWays", "kept", "LBernoulliWays$Entries;", true), ("BernoulliWays", "ways", "[I", true), ("BernoulliWays", "top", "I", false), ("BernoulliWays", "checks", "LBernoulliWays$Checks;", true), ("BernoulliWays", "memory", "LBernoulliWays$Memo;", true), ("BernoulliWays", "alone", "LBernoulliWays$ByWays;", true), ("BernoulliWays", "pairs", "LBernoulliWays$Pairs;", true), ("BernoulliWays", "decimal", "LBernoulliWays$Decimal;", true), ("BernoulliWays", "worked", "LBernoulliWays$Fraction;", true), ("BernoulliWays", "row", "[J", true), ("BernoulliWays", "otherRow", "[J", true)]
def xt_0 : List FieldType := [.object "BernoulliWays$Choose", .object "BernoulliWays$Total", .object "BernoulliWays$Triangle", .object "BernoulliWays$Entries", .object "BernoulliWays$Entries", .object "BernoulliWays$Entries", .array .int, .int, .object "BernoulliWays$Checks", .object "BernoulliWays$Memo", .object "BernoulliWays$ByWays", .object "BernoulliWays$Pairs", .object "BernoulliWays$Decimal", .object "BernoulliWays$Fraction", .array .long, .array .long]
def xv_0 : List Value := [.null, .null, .null, .null, .null, .null, .null, .int 0, .null, .null, .null, .null, .null, .null, .null, .null]
def xF_0 : u_T := fun k => xf_0.getD k ("", "", "", false)
def xf_1 : List (String × String × String × Bool) := [("BernoulliWays$Choose", "cells", "[J", true)]
def xt_1 : List FieldType := [.array .long]
def xv_1 : List Value := [.null]
def xF_1 : u_T := fun k => xf_1.getD k ("", "", "", false)
def xf_2 : List (String × String × String × Bool) := [("BernoulliWays$Total", "under", "J", false), ("BernoulliWays$Total", "whole", "J", false), ("BernoulliWays$Total", "part", "J", false)]
def xt_2 : List FieldType := [.long, .long, .long]
def xv_2 : List Value := [.long 0, .long 0, .long 0]
def xF_2 : u_T := fun k => xf_2.getD k ("", "", "", false)
def xf_3 : List (String × String × String × Bool) := [("BernoulliWays$Triangle", "wholes", "[J", true), ("BernoulliWays$Triangle", "parts", "[J", true), ("BernoulliWays$Triangle", "last", "I", false)]
def xt_3 : List FieldType := [.array .long, .array .long, .int]
def xv_3 : List Value := [.null, .null, .int 0]
def xF_3 : u_T := fun k => xf_3.getD k ("", "", "", false)
def xf_4 : List (String × String × String × Bool) := [("BernoulliWays$Entries", "wholes", "[J", true), ("BernoulliWays$Entries", "aboves", "[J", true), ("BernoulliWays$Entries", "belows", "[J", true), ("BernoulliWays$Entries", "spare", "LBernoulliWays$Fraction;", true)]
def xt_4 : List FieldType := [.array .long, .array .long, .array .long, .object "BernoulliWays$Fraction"]
def xv_4 : List Value := [.null, .null, .null, .null]
def xF_4 : u_T := fun k => xf_4.getD k ("", "", "", false)
def xf_5 : List (String × String × String × Bool) := [("BernoulliWays$Fraction", "whole", "J", false), ("BernoulliWays$Fraction", "above", "J", false), ("BernoulliWays$Fraction", "below", "J", false)]
def xt_5 : List FieldType := [.long, .long, .long]
def xv_5 : List Value := [.long 0, .long 0, .long 0]
def xF_5 : u_T := fun k => xf_5.getD k ("", "", "", false)
def xf_6 : List (String × String × String × Bool) := [("BernoulliWays$Checks", "entries", "LBernoulliWays$Entries;", true), ("BernoulliWays$Checks", "choose", "LBernoulliWays$Choose;", true), ("BernoulliWays$Checks", "total", "LBernoulliWays$Total;", true)]
def xt_6 : List FieldType := [.object "BernoulliWays$Entries", .object "BernoulliWays$Choose", .object "BernoulliWays$Total"]
def xv_6 : List Value := [.null, .null, .null]
def xF_6 : u_T := fun k => xf_6.getD k ("", "", "", false)
def xf_7 : List (String × String × String × Bool) := [("BernoulliWays$Memo", "numbers", "[I", true), ("BernoulliWays$Memo", "primes", "[I", true), ("BernoulliWays$Memo", "answers", "[I", true), ("BernoulliWays$Memo", "size", "I", false)]
def xt_7 : List FieldType := [.array .int, .array .int, .array .int, .int]
def xv_7 : List Value := [.null, .null, .null, .int 0]
def xF_7 : u_T := fun k => xf_7.getD k ("", "", "", false)
def xf_8 : List (String × String × String × Bool) := [("BernoulliWays$ByWays", "found", "[J", true), ("BernoulliWays$ByWays", "cells", "[J", true), ("BernoulliWays$ByWays", "filledPrime", "I", false), ("BernoulliWays$ByWays", "filledWay", "I", false)]
def xt_8 : List FieldType := [.array .long, .array .long, .int, .int]
def xv_8 : List Value := [.null, .null, .int 0, .int 0]
def xF_8 : u_T := fun k => xf_8.getD k ("", "", "", false)
def xf_9 : List (String × String × String × Bool) := [("BernoulliWays$Pairs", "byWays", "LBernoulliWays$ByWays;", true), ("BernoulliWays$Pairs", "primes", "[I", true), ("BernoulliWays$Pairs", "evens", "[I", true), ("BernoulliWays$Pairs", "size", "I", false), ("BernoulliWays$Pairs", "searched", "I", false)]
def xt_9 : List FieldType := [.object "BernoulliWays$ByWays", .array .int, .array .int, .int, .int]
def xv_9 : List Value := [.null, .null, .null, .int 0, .int 0]
def xF_9 : u_T := fun k => xf_9.getD k ("", "", "", false)
def xf_10 : List (String × String × String × Bool) := [("BernoulliWays$Decimal", "limbs", "[J", true), ("BernoulliWays$Decimal", "size", "I", false)]
def xt_10 : List FieldType := [.array .long, .int]
def xv_10 : List Value := [.null, .int 0]
def xF_10 : u_T := fun k => xf_10.getD k ("", "", "", false)
def xf_11 : List (String × String × String × Bool) := []
def xt_11 : List FieldType := []
def xv_11 : List Value := []
def xF_11 : u_T := fun k => xf_11.getD k ("", "", "", false)
def xf_12 : List (String × String × String × Bool) := [("BernoulliWaysModel", "thrown", "I", false), ("BernoulliWaysModel", "right", "[J", true), ("BernoulliWaysModel", "table", "[J", true), ("BernoulliWaysModel", "ways", "[I", true), ("BernoulliWaysModel", "top", "I", false), ("BernoulliWaysModel", "choose", "[J", true), ("BernoulliWaysModel", "primes", "[I", true), ("BernoulliWaysModel", "primeMany", "I", false), ("BernoulliWaysModel", "sumWhole", "J", false), ("BernoulliWaysModel", "sumRest", "J", false), ("BernoulliWaysModel", "rowWhole", "[J", true), ("BernoulliWaysModel", "rowRest", "[J", true), ("BernoulliWaysModel", "memo", "[I", true), ("BernoulliWaysModel", "memoMany", "I", false), ("BernoulliWaysModel", "drawn", "J", false), ("BernoulliWaysModel", "aside", "[J", true), ("BernoulliWaysModel", "rests", "[I", true), ("BernoulliWaysModel", "chooseRests", "[I", true), ("BernoulliWaysModel", "byWay", "[I", true), ("BernoulliWaysModel", "rowOf", "[I", true), ("BernoulliWaysModel", "thirty", "[I", true), ("BernoulliWaysModel", "above", "[J", true), ("BernoulliWaysModel", "below", "[J", true), ("BernoulliWaysModel", "full", "[J", true), ("BernoulliWaysModel", "row1", "[J", true), ("BernoulliWaysModel", "kinds", "[J", true), ("BernoulliWaysModel", "quote", "[J", true), ("BernoulliWaysModel", "inAbove", "[J", true), ("BernoulliWaysModel", "inBelow", "[J", true), ("BernoulliWaysModel", "spare", "[J", true), ("BernoulliWaysModel", "polyRests", "[I", true), ("BernoulliWaysModel", "boxes", "[J", true), ("BernoulliWaysModel", "zig", "[J", true), ("BernoulliWaysModel", "zag", "[J", true)]
def xt_12 : List FieldType := [.int, .array .long, .array .long, .array .int, .int, .array .long, .array .int, .int, .long, .long, .array .long, .array .long, .array .int, .int, .long, .array .long, .array .int, .array .int, .array .int, .array .int, .array .int, .array .long, .array .long, .array .long, .array .long, .array .long, .array .long, .array .long, .array .long, .array .long, .array .int, .array .long, .array .long, .array .long]
def xv_12 : List Value := [.int 0, .null, .null, .null, .int 0, .null, .null, .int 0, .long 0, .long 0, .null, .null, .null, .int 0, .long 0, .null, .null, .null, .null, .null, .null, .null, .null, .null, .null, .null, .null, .null, .null, .null, .null, .null, .null, .null]
def xF_12 : u_T := fun k => xf_12.getD k ("", "", "", false)
def xf_13 : List (String × String × String × Bool) := []
def xt_13 : List FieldType := []
def xv_13 : List Value := []
def xF_13 : u_T := fun k => xf_13.getD k ("", "", "", false)
def xf_14 : List (String × String × String × Bool) := []
def xt_14 : List FieldType := []
def xv_14 : List Value := []
def xF_14 : u_T := fun k => xf_14.getD k ("", "", "", false)
def xcn : List String := ["BernoulliWays", "BernoulliWays$Choose", "BernoulliWays$Total", "BernoulliWays$Triangle", "BernoulliWays$Entries", "BernoulliWays$Fraction", "BernoulliWays$Checks", "BernoulliWays$Memo", "BernoulliWays$ByWays", "BernoulliWays$Pairs", "BernoulliWays$Decimal", "BernoulliWays$Modulo", "BernoulliWaysModel", "java/lang/Math", "java/util/Arrays"]
def xcl : List vw_C := [("BernoulliWays", xF_0, 16), ("BernoulliWays$Choose", xF_1, 1), ("BernoulliWays$Total", xF_2, 3), ("BernoulliWays$Triangle", xF_3, 3), ("BernoulliWays$Entries", xF_4, 4), ("BernoulliWays$Fraction", xF_5, 3), ("BernoulliWays$Checks", xF_6, 3), ("BernoulliWays$Memo", xF_7, 4), ("BernoulliWays$ByWays", xF_8, 4), ("BernoulliWays$Pairs", xF_9, 5), ("BernoulliWays$Decimal", xF_10, 2), ("BernoulliWays$Modulo", xF_11, 0), ("BernoulliWaysModel", xF_12, 34), ("java/lang/Math", xF_13, 0), ("java/util/Arrays", xF_14, 0)]
def xfs : List (List (String × String × String × Bool)) := [xf_0, xf_1, xf_2, xf_3, xf_4, xf_5, xf_6, xf_7, xf_8, xf_9, xf_10, xf_11, xf_12, xf_13, xf_14]
def xts : List (List FieldType) := [xt_0, xt_1, xt_2, xt_3, xt_4, xt_5, xt_6, xt_7, xt_8, xt_9, xt_10, xt_11, xt_12, xt_13, xt_14]
def xvs : List (List Value) := [xv_0, xv_1, xv_2, xv_3, xv_4, xv_5, xv_6, xv_7, xv_8, xv_9, xv_10, xv_11, xv_12, xv_13, xv_14]
/-- the methods: own class, locals, parameters, frames and words of room, returns; their names and bytes -/
def xm_0 : List (Nat × Nat × Nat × Nat × Nat × Option FieldType) := [(0, 2, 0, 4, 104, none), (1, 4, 0, 1, 20, none), (2, 1, 0, 1, 20, none), (3, 1, 0, 1, 20, none), (4, 1, 0, 2, 40, none), (5, 1, 0, 1, 20, none), (14, 5, 2, 0, 0, none), (6, 4, 3, 1, 20, none), (7, 1, 0, 1, 20, none), (8, 1, 0, 1, 20, none), (9, 2, 1, 1, 20, none), (10, 1, 0, 1, 20, none), (3, 3, 1, 1, 21, none), (13, 2, 2, 0, 0, some .int), (3, 3, 2, 3, 82, none), (3, 3, 2, 2, 60, none), (5, 11, 3, 1, 30, none), (13, 6, 2, 0, 0, some .long), (5, 11, 2, 0, 0, some .long), (13, 6, 2, 0, 0, some .long), (4, 3, 2, 1, 20, none), (4, 1, 1, 0, 0, some .boolean), (3, 4, 0, 1, 25, none), (0, 5, 2, 7, 187, some .int), (0, 1, 1, 0, 0, some .boolean), (0, 1, 1, 0, 0, some .boolean), (0, 3, 1, 4, 84, some .boolean), (0, 2, 1, 3, 63, some .boolean), (4, 3, 2, 2, 41, some .boolean), (4, 2, 1, 1, 20, some .long), (4, 2, 1, 1, 20, some .long), (4, 2, 1, 1, 20, some .long), (0, 4, 2, 6, 164, some .boolean), (0, 3, 2, 5, 142, none), (0, 2, 1, 4, 101, none), (0, 2, 1, 2, 60, none), (6, 4, 2, 3, 78, none), (2, 3, 1, 1, 23, none), (13, 4, 2, 0, 0, some .long), (1, 3, 2, 0, 0, some .long)]
def xn_0 : List MethodName := [⟨"BernoulliWays", "<init>", "()V"⟩, ⟨"BernoulliWays$Choose", "<init>", "()V"⟩, ⟨"BernoulliWays$Total", "<init>", "()V"⟩, ⟨"BernoulliWays$Triangle", "<init>", "()V"⟩, ⟨"BernoulliWays$Entries", "<init>", "()V"⟩, ⟨"BernoulliWays$Fraction", "<init>", "()V"⟩, ⟨"java/util/Arrays", "fill", "([JJ)V"⟩, ⟨"BernoulliWays$Checks", "<init>", "(LBernoulliWays$Entries;LBernoulliWays$Choose;LBernoulliWays$Total;)V"⟩, ⟨"BernoulliWays$Memo", "<init>", "()V"⟩, ⟨"BernoulliWays$ByWays", "<init>", "()V"⟩, ⟨"BernoulliWays$Pairs", "<init>", "(LBernoulliWays$ByWays;)V"⟩, ⟨"BernoulliWays$Decimal", "<init>", "()V"⟩, ⟨"BernoulliWays$Triangle", "begin", "(I)V"⟩, ⟨"java/lang/Math", "min", "(II)I"⟩, ⟨"BernoulliWays$Triangle", "tellEntry", "(ILBernoulliWays$Fraction;)V"⟩, ⟨"BernoulliWays$Triangle", "tellPlace", "(ILBernoulliWays$Fraction;)V"⟩, ⟨"BernoulliWays$Fraction", "become", "(JJJ)V"⟩, ⟨"java/lang/Math", "floorMod", "(JJ)J"⟩, ⟨"BernoulliWays$Fraction", "commonDivisor", "(JJ)J"⟩, ⟨"java/lang/Math", "floorDiv", "(JJ)J"⟩, ⟨"BernoulliWays$Entries", "store", "(ILBernoulliWays$Fraction;)V"⟩, ⟨"BernoulliWays$Entries", "fits", "(I)Z"⟩, ⟨"BernoulliWays$Triangle", "step", "()V"⟩, ⟨"BernoulliWays", "lay", "(II)I"⟩, ⟨"BernoulliWays", "isEntry", "(I)Z"⟩, ⟨"BernoulliWays", "isWay", "(I)Z"⟩, ⟨"BernoulliWays", "allRightBelow", "(I)Z"⟩, ⟨"BernoulliWays", "isRight", "(I)Z"⟩, ⟨"BernoulliWays$Entries", "alike", "(ILBernoulliWays$Entries;)Z"⟩, ⟨"BernoulliWays$Entries", "wholeOf", "(I)J"⟩, ⟨"BernoulliWays$Entries", "aboveOf", "(I)J"⟩, ⟨"BernoulliWays$Entries", "belowOf", "(I)J"⟩, ⟨"BernoulliWays", "layOne", "(II)Z"⟩, ⟨"BernoulliWays", "work", "(II)V"⟩, ⟨"BernoulliWays", "workRecurrence", "(I)V"⟩, ⟨"BernoulliWays", "workAsTold", "(I)V"⟩, ⟨"BernoulliWays$Checks", "addUp", "(II)V"⟩, ⟨"BernoulliWays$Total", "begin", "(J)V"⟩, ⟨"java/lang/Math", "max", "(JJ)J"⟩, ⟨"BernoulliWays$Choose", "of", "(II)J"⟩]
def xb_0 : List ByteArray := [prog_1_method_1_code, prog_4_method_1_code, prog_11_method_1_code, prog_12_method_1_code, prog_6_method_1_code, prog_7_method_1_code, prog_22_method_101_code, prog_3_method_1_code, prog_8_method_1_code, prog_2_method_1_code, prog_10_method_1_code, prog_5_method_1_code, prog_12_method_2_code, prog_17_method_69_code, prog_12_method_5_code, prog_12_method_4_code, prog_7_method_2_code, prog_17_method_52_code, prog_7_method_9_code, prog_17_method_49_code, prog_6_method_7_code, prog_6_method_2_code, prog_12_method_3_code, prog_1_method_2_code, prog_1_method_56_code, prog_1_method_57_code, prog_1_method_66_code, prog_1_method_65_code, prog_6_method_10_code, prog_6_method_3_code, prog_6_method_4_code, prog_6_method_5_code, prog_1_method_68_code, prog_1_method_70_code, prog_1_method_71_code, prog_1_method_74_code, prog_3_method_3_code, prog_11_method_2_code, prog_17_method_66_code, prog_4_method_2_code]
def xw_0 : List Nat := [113, 121, 132, 148, 164, 170, 191, 209, 226, 245, 264, 286, 300, 303, 308, 312, 316, 319, 322, 325, 329, 332, 336, 391, 394, 397, 401, 405, 409, 413, 417, 421, 425, 429, 433, 437, 444, 449, 452, 456]
def xm_1 : List (Nat × Nat × Nat × Nat × Nat × Option FieldType) := [(6, 4, 2, 2, 55, none), (2, 11, 4, 1, 25, none), (2, 2, 1, 2, 60, none), (5, 3, 1, 2, 60, none), (5, 5, 1, 2, 60, none), (0, 3, 1, 4, 104, none), (0, 2, 1, 4, 121, none), (0, 1, 1, 0, 0, some .boolean), (0, 12, 1, 3, 90, some .long), (11, 7, 3, 2, 54, some .long), (11, 10, 3, 1, 25, some .long), (0, 8, 2, 2, 63, some .long), (0, 2, 2, 1, 20, some .boolean), (11, 19, 2, 1, 25, some .long), (11, 4, 2, 1, 25, some .long), (0, 7, 2, 2, 55, none), (4, 3, 2, 2, 41, some .boolean), (0, 3, 2, 0, 0, none), (0, 3, 2, 7, 187, some .int), (0, 3, 2, 6, 160, some .int), (4, 4, 2, 2, 60, none), (6, 4, 2, 5, 137, some .int), (6, 8, 1, 2, 41, some .boolean), (4, 2, 1, 2, 41, some .int), (6, 1, 1, 0, 0, some .int), (6, 2, 1, 4, 101, some .boolean), (2, 1, 0, 0, 0, some .boolean), (6, 5, 1, 4, 113, some .boolean), (6, 4, 3, 3, 90, some .int), (6, 3, 2, 2, 41, some .boolean), (6, 8, 2, 2, 63, some .long), (13, 2, 2, 0, 0, some .int), (6, 4, 1, 3, 86, some .boolean), (4, 4, 2, 2, 63, some .long), (6, 3, 1, 3, 78, some .boolean), (0, 6, 1, 7, 187, some .int), (0, 1, 1, 0, 0, some .boolean), (0, 5, 1, 6, 160, some .long), (0, 2, 1, 1, 20, some .int), (0, 2, 1, 4, 84, some .int)]
def xn_1 : List MethodName := [⟨"BernoulliWays$Checks", "addEntry", "(JI)V"⟩, ⟨"BernoulliWays$Total", "add", "(JJJJ)V"⟩, ⟨"BernoulliWays$Total", "tell", "(LBernoulliWays$Fraction;)V"⟩, ⟨"BernoulliWays$Fraction", "multiply", "(J)V"⟩, ⟨"BernoulliWays$Fraction", "divide", "(J)V"⟩, ⟨"BernoulliWays", "workTriangle", "(I)V"⟩, ⟨"BernoulliWays", "workSieve", "(I)V"⟩, ⟨"BernoulliWays", "isEvenFromTwo", "(I)Z"⟩, ⟨"BernoulliWays", "sievedWhole", "(I)J"⟩, ⟨"BernoulliWays$Modulo", "powerSum", "(IIJ)J"⟩, ⟨"BernoulliWays$Modulo", "power", "(JIJ)J"⟩, ⟨"BernoulliWays", "inversesBelow", "(II)J"⟩, ⟨"BernoulliWays", "isBelow", "(II)Z"⟩, ⟨"BernoulliWays$Modulo", "inverse", "(JJ)J"⟩, ⟨"BernoulliWays$Modulo", "least", "(JJ)J"⟩, ⟨"BernoulliWays", "addPrimesBelow", "(II)V"⟩, ⟨"BernoulliWays$Entries", "holds", "(ILBernoulliWays$Fraction;)Z"⟩, ⟨"BernoulliWays", "noteWay", "(II)V"⟩, ⟨"BernoulliWays", "relay", "(II)I"⟩, ⟨"BernoulliWays", "spoil", "(II)I"⟩, ⟨"BernoulliWays$Entries", "increase", "(IJ)V"⟩, ⟨"BernoulliWays$Checks", "failed", "(II)I"⟩, ⟨"BernoulliWays$Checks", "failsBelow", "(I)Z"⟩, ⟨"BernoulliWays$Entries", "signOf", "(I)I"⟩, ⟨"BernoulliWays$Checks", "dueSign", "(I)I"⟩, ⟨"BernoulliWays$Checks", "failsRecurrence", "(I)Z"⟩, ⟨"BernoulliWays$Total", "isNothing", "()Z"⟩, ⟨"BernoulliWays$Checks", "failsKummer", "(I)Z"⟩, ⟨"BernoulliWays$Checks", "kummerOf", "(III)I"⟩, ⟨"BernoulliWays$Checks", "isTold", "(II)Z"⟩, ⟨"BernoulliWays$Checks", "byNumber", "(IJ)J"⟩, ⟨"java/lang/Math", "max", "(II)I"⟩, ⟨"BernoulliWays$Checks", "failsDivisor", "(I)Z"⟩, ⟨"BernoulliWays$Entries", "modulo", "(IJ)J"⟩, ⟨"BernoulliWays$Checks", "failsSixth", "(I)Z"⟩, ⟨"BernoulliWays", "heal", "(I)I"⟩, ⟨"BernoulliWays", "areTests", "(I)Z"⟩, ⟨"BernoulliWays", "failingOnes", "(I)J"⟩, ⟨"BernoulliWays", "way", "(I)I"⟩, ⟨"BernoulliWays", "right", "(I)I"⟩]
def xb_1 : List ByteArray := [prog_3_method_8_code, prog_11_method_3_code, prog_11_method_5_code, prog_7_method_3_code, prog_7_method_4_code, prog_1_method_72_code, prog_1_method_73_code, prog_1_method_60_code, prog_1_method_76_code, prog_9_method_5_code, prog_9_method_3_code, prog_1_method_77_code, prog_1_method_63_code, prog_9_method_4_code, prog_9_method_2_code, prog_1_method_75_code, prog_6_method_9_code, prog_1_method_69_code, prog_1_method_3_code, prog_1_method_4_code, prog_6_method_12_code, prog_3_method_2_code, prog_3_method_9_code, prog_6_method_6_code, prog_3_method_10_code, prog_3_method_11_code, prog_11_method_4_code, prog_3_method_12_code, prog_3_method_4_code, prog_3_method_6_code, prog_3_method_7_code, prog_17_method_65_code, prog_3_method_13_code, prog_6_method_13_code, prog_3_method_14_code, prog_1_method_5_code, prog_1_method_59_code, prog_1_method_81_code, prog_1_method_7_code, prog_1_method_8_code]
def xw_1 : List Nat := [460, 467, 473, 478, 483, 487, 491, 494, 500, 505, 508, 512, 515, 518, 521, 526, 530, 534, 538, 542, 546, 552, 556, 562, 565, 569, 574, 578, 582, 586, 591, 596, 600, 604, 610, 616, 619, 623, 627, 631]
def xm_2 : List (Nat × Nat × Nat × Nat × Nat × Option FieldType) := [(0, 4, 1, 6, 164, some .int), (0, 8, 2, 2, 41, some .int), (0, 2, 1, 3, 81, some .long), (0, 4, 2, 4, 108, some .int), (0, 5, 1, 0, 0, some .boolean), (0, 3, 2, 3, 86, some .int), (7, 5, 3, 2, 79, none), (7, 4, 2, 0, 0, some .int), (7, 1, 0, 1, 59, none), (7, 2, 1, 0, 0, some .boolean), (0, 3, 2, 4, 101, some .int), (11, 2, 2, 3, 80, some .long), (0, 3, 2, 5, 129, some .int), (7, 1, 0, 0, 0, some .int), (7, 2, 1, 1, 21, some .int), (7, 2, 1, 1, 21, some .int), (7, 2, 1, 1, 21, some .int), (0, 2, 1, 4, 108, some .boolean), (0, 3, 2, 3, 82, some .int), (0, 2, 1, 0, 0, some .boolean), (4, 3, 2, 2, 60, none), (5, 9, 1, 1, 25, some .int), (5, 5, 1, 0, 0, some .int), (0, 4, 3, 4, 113, some .int), (0, 4, 3, 4, 119, some .int), (6, 10, 3, 3, 90, some .int), (0, 2, 1, 6, 160, some .int), (0, 2, 1, 7, 184, some .long), (0, 5, 1, 6, 160, some .int), (0, 6, 1, 7, 182, some .int), (0, 3, 1, 6, 160, some .boolean), (4, 2, 1, 1, 59, none), (0, 6, 3, 6, 160, some .int), (0, 10, 2, 3, 83, none), (0, 2, 1, 0, 0, some .long), (0, 3, 2, 4, 101, some .long), (0, 1, 1, 0, 0, some .boolean), (5, 2, 1, 0, 0, some .long), (0, 5, 3, 3, 82, some .long), (0, 3, 1, 2, 41, some .int)]
def xn_2 : List MethodName := [⟨"BernoulliWays", "agree", "(I)I"⟩, ⟨"BernoulliWays", "prime", "(II)I"⟩, ⟨"BernoulliWays", "whole", "(I)J"⟩, ⟨"BernoulliWays", "residue", "(II)I"⟩, ⟨"BernoulliWays", "isPrime", "(I)Z"⟩, ⟨"BernoulliWays", "residueNow", "(II)I"⟩, ⟨"BernoulliWays$Memo", "remember", "(III)V"⟩, ⟨"BernoulliWays$Memo", "placeOf", "(II)I"⟩, ⟨"BernoulliWays$Memo", "dropEldest", "()V"⟩, ⟨"BernoulliWays$Memo", "fits", "(I)Z"⟩, ⟨"BernoulliWays", "byPowers", "(II)I"⟩, ⟨"BernoulliWays$Modulo", "byPowerSum", "(II)J"⟩, ⟨"BernoulliWays", "memo", "(II)I"⟩, ⟨"BernoulliWays$Memo", "size", "()I"⟩, ⟨"BernoulliWays$Memo", "entryOf", "(I)I"⟩, ⟨"BernoulliWays$Memo", "primeOf", "(I)I"⟩, ⟨"BernoulliWays$Memo", "answerOf", "(I)I"⟩, ⟨"BernoulliWays", "holdsStill", "(I)Z"⟩, ⟨"BernoulliWays", "often", "(II)I"⟩, ⟨"BernoulliWays", "isLaid", "(I)Z"⟩, ⟨"BernoulliWays$Entries", "fetch", "(ILBernoulliWays$Fraction;)V"⟩, ⟨"BernoulliWays$Fraction", "oftenAbove", "(I)I"⟩, ⟨"BernoulliWays$Fraction", "oftenBelow", "(I)I"⟩, ⟨"BernoulliWays", "kummer", "(III)I"⟩, ⟨"BernoulliWays", "kummerTwice", "(III)I"⟩, ⟨"BernoulliWays$Checks", "kummerTwiceOf", "(III)I"⟩, ⟨"BernoulliWays", "tests", "(I)I"⟩, ⟨"BernoulliWays", "suspects", "(I)J"⟩, ⟨"BernoulliWays", "broken", "(I)I"⟩, ⟨"BernoulliWays", "culprit", "(I)I"⟩, ⟨"BernoulliWays", "allPass", "(I)Z"⟩, ⟨"BernoulliWays$Entries", "takeOver", "(LBernoulliWays$Entries;)V"⟩, ⟨"BernoulliWays", "trial", "(III)I"⟩, ⟨"BernoulliWays", "spoilByDraws", "(II)V"⟩, ⟨"BernoulliWays", "nextDraw", "(J)J"⟩, ⟨"BernoulliWays", "remainder", "(II)J"⟩, ⟨"BernoulliWays", "isPart", "(I)Z"⟩, ⟨"BernoulliWays$Fraction", "told", "(I)J"⟩, ⟨"BernoulliWays", "triangleAt", "(III)J"⟩, ⟨"BernoulliWays", "whichBelow", "(I)I"⟩]
def xb_2 : List ByteArray := [prog_1_method_9_code, prog_1_method_10_code, prog_1_method_11_code, prog_1_method_12_code, prog_1_method_62_code, prog_1_method_78_code, prog_8_method_6_code, prog_8_method_8_code, prog_8_method_9_code, prog_8_method_7_code, prog_1_method_13_code, prog_9_method_6_code, prog_1_method_14_code, prog_8_method_2_code, prog_8_method_3_code, prog_8_method_4_code, prog_8_method_5_code, prog_1_method_79_code, prog_1_method_15_code, prog_1_method_64_code, prog_6_method_8_code, prog_7_method_7_code, prog_7_method_8_code, prog_1_method_16_code, prog_1_method_17_code, prog_3_method_5_code, prog_1_method_18_code, prog_1_method_19_code, prog_1_method_20_code, prog_1_method_21_code, prog_1_method_82_code, prog_6_method_11_code, prog_1_method_22_code, prog_1_method_83_code, prog_1_method_84_code, prog_1_method_23_code, prog_1_method_58_code, prog_7_method_5_code, prog_1_method_24_code, prog_1_method_25_code]
def xw_2 : List Nat := [635, 639, 643, 651, 654, 658, 663, 667, 671, 678, 682, 685, 690, 694, 698, 702, 706, 710, 714, 718, 723, 727, 731, 735, 740, 744, 749, 753, 757, 761, 765, 769, 774, 778, 781, 789, 792, 796, 800, 805]
def xm_3 : List (Nat × Nat × Nat × Nat × Nat × Option FieldType) := [(0, 2, 1, 6, 155, some .int), (9, 2, 1, 5, 134, none), (9, 3, 1, 4, 112, none), (8, 3, 2, 3, 90, none), (8, 6, 1, 2, 63, none), (8, 4, 1, 2, 63, none), (8, 8, 1, 2, 63, none), (8, 2, 1, 0, 0, some .long), (9, 4, 1, 0, 0, some .int), (0, 3, 2, 6, 155, some .int), (9, 1, 0, 0, 0, some .int), (9, 2, 1, 0, 0, some .int), (9, 2, 1, 0, 0, some .int), (0, 2, 1, 6, 155, some .int), (0, 9, 2, 4, 105, some .int), (0, 6, 2, 3, 80, some .long), (0, 3, 2, 4, 101, some .int), (0, 8, 3, 2, 54, some .int), (0, 4, 3, 4, 112, some .int), (0, 5, 2, 4, 112, some .int), (0, 9, 1, 2, 63, some .int), (0, 7, 1, 1, 24, some .int), (0, 4, 1, 3, 77, some .int), (11, 4, 2, 2, 54, some .int), (0, 7, 3, 4, 99, some .long), (0, 14, 5, 3, 66, some .long), (4, 6, 2, 2, 41, some .long), (0, 7, 1, 6, 155, some .int), (0, 5, 3, 3, 84, some .long), (0, 1, 1, 0, 0, some .int), (5, 1, 0, 0, 0, some .long), (0, 3, 2, 4, 108, some .int), (0, 2, 2, 0, 0, some .boolean), (0, 3, 1, 3, 86, none), (0, 9, 2, 2, 63, some .long), (0, 3, 2, 4, 92, some .int), (0, 7, 2, 3, 66, none), (10, 1, 0, 1, 24, none), (10, 10, 2, 1, 25, none), (10, 8, 1, 0, 0, none)]
def xn_3 : List MethodName := [⟨"BernoulliWays", "irregular", "(I)I"⟩, ⟨"BernoulliWays$Pairs", "searchUpTo", "(I)V"⟩, ⟨"BernoulliWays$Pairs", "search", "(I)V"⟩, ⟨"BernoulliWays$ByWays", "fill", "(II)V"⟩, ⟨"BernoulliWays$ByWays", "fillByRecurrence", "(I)V"⟩, ⟨"BernoulliWays$ByWays", "fillByTriangle", "(I)V"⟩, ⟨"BernoulliWays$ByWays", "fillByPowers", "(I)V"⟩, ⟨"BernoulliWays$ByWays", "residueOf", "(I)J"⟩, ⟨"BernoulliWays$Pairs", "manyOf", "(I)I"⟩, ⟨"BernoulliWays", "pair", "(II)I"⟩, ⟨"BernoulliWays$Pairs", "size", "()I"⟩, ⟨"BernoulliWays$Pairs", "primeOf", "(I)I"⟩, ⟨"BernoulliWays$Pairs", "evenOf", "(I)I"⟩, ⟨"BernoulliWays", "second", "(I)I"⟩, ⟨"BernoulliWays", "secondOf", "(II)I"⟩, ⟨"BernoulliWays", "byNumber", "(II)J"⟩, ⟨"BernoulliWays", "far", "(II)I"⟩, ⟨"BernoulliWays", "voronoi", "(III)I"⟩, ⟨"BernoulliWays", "byWay", "(III)I"⟩, ⟨"BernoulliWays", "nothings", "(II)I"⟩, ⟨"BernoulliWays", "harmonic", "(I)I"⟩, ⟨"BernoulliWays", "wilson", "(I)I"⟩, ⟨"BernoulliWays", "classNumber", "(I)I"⟩, ⟨"BernoulliWays$Modulo", "signOf", "(II)I"⟩, ⟨"BernoulliWays", "quadratic", "(III)J"⟩, ⟨"BernoulliWays", "homogeneous", "(LBernoulliWays$Entries;IJJJ)J"⟩, ⟨"BernoulliWays$Entries", "scaled", "(IJ)J"⟩, ⟨"BernoulliWays", "regulars", "(I)I"⟩, ⟨"BernoulliWays", "coefficient", "(III)J"⟩, ⟨"BernoulliWays", "extra", "(I)I"⟩, ⟨"BernoulliWays$Fraction", "overLine", "()J"⟩, ⟨"BernoulliWays", "sum", "(II)I"⟩, ⟨"BernoulliWays", "isSum", "(II)Z"⟩, ⟨"BernoulliWays", "fillBigResidues", "(I)V"⟩, ⟨"BernoulliWays", "bigPolynomial", "(IJ)J"⟩, ⟨"BernoulliWays", "digits", "(II)I"⟩, ⟨"BernoulliWays", "workSum", "(II)V"⟩, ⟨"BernoulliWays$Decimal", "clear", "()V"⟩, ⟨"BernoulliWays$Decimal", "multiplyAndAdd", "(JJ)V"⟩, ⟨"BernoulliWays$Decimal", "divide", "(J)V"⟩]
def xb_3 : List ByteArray := [prog_1_method_26_code, prog_10_method_6_code, prog_10_method_7_code, prog_2_method_3_code, prog_2_method_4_code, prog_2_method_5_code, prog_2_method_6_code, prog_2_method_2_code, prog_10_method_5_code, prog_1_method_27_code, prog_10_method_2_code, prog_10_method_3_code, prog_10_method_4_code, prog_1_method_28_code, prog_1_method_85_code, prog_1_method_86_code, prog_1_method_29_code, prog_1_method_30_code, prog_1_method_31_code, prog_1_method_32_code, prog_1_method_33_code, prog_1_method_34_code, prog_1_method_35_code, prog_9_method_7_code, prog_1_method_36_code, prog_1_method_87_code, prog_6_method_14_code, prog_1_method_37_code, prog_1_method_38_code, prog_1_method_88_code, prog_7_method_6_code, prog_1_method_39_code, prog_1_method_61_code, prog_1_method_89_code, prog_1_method_90_code, prog_1_method_40_code, prog_1_method_91_code, prog_5_method_2_code, prog_5_method_3_code, prog_5_method_4_code]
def xw_3 : List Nat := [809, 813, 818, 822, 826, 832, 836, 841, 845, 849, 853, 857, 861, 865, 868, 871, 875, 880, 885, 891, 895, 899, 903, 906, 910, 915, 920, 924, 928, 932, 936, 940, 943, 948, 953, 957, 961, 965, 971, 978]
def xm_4 : List (Nat × Nat × Nat × Nat × Nat × Option FieldType) := [(10, 1, 0, 1, 24, none), (10, 5, 1, 0, 0, some .int), (10, 1, 0, 0, 0, some .int), (0, 4, 3, 4, 92, some .int), (10, 2, 1, 1, 24, some .int), (0, 10, 4, 4, 108, some .int), (0, 4, 3, 4, 91, some .long), (0, 6, 1, 3, 66, some .boolean), (0, 4, 3, 3, 82, some .long), (0, 8, 4, 4, 99, some .long), (0, 4, 3, 4, 109, some .int), (0, 4, 2, 3, 86, some .boolean), (0, 8, 3, 0, 0, some .long), (0, 5, 2, 4, 109, some .int), (0, 3, 2, 3, 84, some .long), (0, 2, 1, 3, 82, some .long), (0, 3, 2, 2, 47, some .long), (0, 4, 1, 1, 24, none), (0, 5, 3, 0, 0, some .long), (0, 5, 2, 3, 81, some .long), (0, 4, 1, 1, 59, some .long), (0, 4, 1, 3, 84, some .long), (0, 4, 1, 2, 41, some .int), (13, 2, 1, 0, 0, some .long), (0, 2, 1, 6, 151, some .int), (0, 3, 0, 4, 84, some .int), (0, 3, 0, 5, 129, some .int), (0, 3, 2, 3, 82, some .long), (12, 4, 0, 3, 92, none), (12, 8, 5, 0, 0, none), (12, 5, 3, 1, 26, none), (12, 7, 3, 0, 0, none), (12, 14, 5, 2, 59, none), (12, 6, 2, 0, 0, some .long), (12, 11, 5, 1, 29, none), (12, 10, 2, 0, 0, some .long), (12, 1, 0, 0, 0, some .int), (12, 4, 2, 2, 49, some .int), (12, 2, 1, 1, 22, some .boolean), (12, 3, 3, 0, 0, some .boolean)]
def xn_4 : List MethodName := [⟨"BernoulliWays$Decimal", "measure", "()V"⟩, ⟨"BernoulliWays$Decimal", "fromRight", "(I)I"⟩, ⟨"BernoulliWays$Decimal", "size", "()I"⟩, ⟨"BernoulliWays", "digit", "(III)I"⟩, ⟨"BernoulliWays$Decimal", "fromLeft", "(I)I"⟩, ⟨"BernoulliWays", "progression", "(IIII)I"⟩, ⟨"BernoulliWays", "triangular", "(III)J"⟩, ⟨"BernoulliWays", "splitInTriangles", "(I)Z"⟩, ⟨"BernoulliWays", "poly", "(III)J"⟩, ⟨"BernoulliWays", "value", "(IIII)J"⟩, ⟨"BernoulliWays", "at", "(III)I"⟩, ⟨"BernoulliWays", "fillPolynomial", "(II)Z"⟩, ⟨"BernoulliWays", "polynomialAt", "(IJI)J"⟩, ⟨"BernoulliWays", "roots", "(II)I"⟩, ⟨"BernoulliWays", "zeta", "(II)J"⟩, ⟨"BernoulliWays", "genocchi", "(I)J"⟩, ⟨"BernoulliWays", "onto", "(II)J"⟩, ⟨"BernoulliWays", "fillBoxes", "(I)V"⟩, ⟨"BernoulliWays", "timesTogether", "(IJJ)J"⟩, ⟨"BernoulliWays", "byBoxes", "(II)J"⟩, ⟨"BernoulliWays", "zigzag", "(I)J"⟩, ⟨"BernoulliWays", "tangent", "(I)J"⟩, ⟨"BernoulliWays", "growth", "(I)I"⟩, ⟨"java/lang/Math", "abs", "(J)J"⟩, ⟨"BernoulliWays", "count", "(I)I"⟩, ⟨"BernoulliWays", "manyNotRight", "()I"⟩, ⟨"BernoulliWays", "manyOutdated", "()I"⟩, ⟨"BernoulliWays", "number", "(II)J"⟩, ⟨"BernoulliWaysModel", "<init>", "()V"⟩, ⟨"BernoulliWaysModel", "lays", "([JIJJJ)V"⟩, ⟨"BernoulliWaysModel", "addsUp", "([JII)V"⟩, ⟨"BernoulliWaysModel", "addsOne", "([JJI)V"⟩, ⟨"BernoulliWaysModel", "quotes", "([JIJJI)V"⟩, ⟨"BernoulliWaysModel", "downBy", "(JJ)J"⟩, ⟨"BernoulliWaysModel", "laysProper", "([JIJJJ)V"⟩, ⟨"BernoulliWaysModel", "common", "(JJ)J"⟩, ⟨"BernoulliWaysModel", "thrown", "()I"⟩, ⟨"BernoulliWaysModel", "lay", "(II)I"⟩, ⟨"BernoulliWaysModel", "isEntry", "(I)Z"⟩, ⟨"BernoulliWaysModel", "isIn", "(III)Z"⟩]
def xb_4 : List ByteArray := [prog_5_method_5_code, prog_5_method_8_code, prog_5_method_6_code, prog_1_method_41_code, prog_5_method_7_code, prog_1_method_42_code, prog_1_method_43_code, prog_1_method_92_code, prog_1_method_44_code, prog_1_method_45_code, prog_1_method_46_code, prog_1_method_93_code, prog_1_method_94_code, prog_1_method_47_code, prog_1_method_48_code, prog_1_method_49_code, prog_1_method_50_code, prog_1_method_95_code, prog_1_method_96_code, prog_1_method_51_code, prog_1_method_52_code, prog_1_method_53_code, prog_1_method_54_code, prog_17_method_61_code, prog_1_method_55_code, prog_1_method_67_code, prog_1_method_80_code, prog_1_method_6_code, prog_14_method_1_code, prog_14_method_6_code, prog_14_method_9_code, prog_14_method_8_code, prog_14_method_10_code, prog_14_method_5_code, prog_14_method_7_code, prog_14_method_4_code, prog_14_method_2_code, prog_14_method_15_code, prog_14_method_11_code, prog_14_method_3_code]
def xw_4 : List Nat := [982, 986, 991, 995, 999, 1003, 1007, 1011, 1017, 1021, 1026, 1030, 1034, 1038, 1042, 1046, 1050, 1054, 1059, 1064, 1069, 1074, 1078, 1081, 1085, 1089, 1093, 1101, 1172, 1176, 1180, 1184, 1189, 1192, 1196, 1199, 1306, 1310, 1314, 1317]
def xm_5 : List (Nat × Nat × Nat × Nat × Nat × Option FieldType) := [(12, 3, 1, 1, 21, some .boolean), (12, 2, 1, 0, 0, some .boolean), (12, 3, 2, 1, 27, none), (12, 4, 2, 2, 49, some .int), (12, 3, 2, 5, 118, some .int), (12, 9, 2, 2, 59, none), (12, 2, 1, 4, 97, some .int), (12, 7, 1, 1, 26, some .boolean), (12, 5, 1, 0, 0, some .long), (12, 2, 1, 0, 0, some .int), (12, 1, 1, 0, 0, some .int), (12, 2, 1, 2, 50, some .boolean), (12, 4, 1, 3, 74, some .boolean), (12, 6, 3, 2, 49, some .int), (12, 5, 3, 1, 25, some .int), (12, 5, 2, 0, 0, some .int), (12, 6, 3, 0, 0, some .int), (12, 3, 1, 2, 49, some .boolean), (12, 3, 2, 1, 22, some .long), (12, 1, 0, 0, 0, some .long), (12, 2, 1, 2, 43, some .int), (12, 2, 1, 2, 43, some .int), (12, 2, 1, 2, 43, some .int), (12, 5, 2, 2, 43, some .int), (12, 7, 1, 1, 22, some .long), (12, 10, 3, 2, 59, some .long), (12, 3, 1, 0, 0, some .int), (12, 4, 2, 2, 49, some .int), (12, 3, 1, 0, 0, some .boolean), (12, 6, 3, 1, 23, none), (12, 4, 2, 0, 0, some .int), (12, 5, 2, 2, 43, some .int), (12, 3, 2, 3, 70, some .int), (12, 2, 1, 2, 49, some .boolean), (12, 5, 2, 2, 43, some .int), (12, 6, 2, 0, 0, some .int), (12, 16, 2, 0, 0, some .int), (12, 4, 3, 3, 74, some .int), (12, 10, 3, 3, 74, some .int), (12, 9, 3, 1, 29, some .long)]
def xn_5 : List MethodName := [⟨"BernoulliWaysModel", "areRight", "(I)Z"⟩, ⟨"BernoulliWaysModel", "isRight", "(I)Z"⟩, ⟨"BernoulliWaysModel", "makes", "(II)V"⟩, ⟨"BernoulliWaysModel", "relay", "(II)I"⟩, ⟨"BernoulliWaysModel", "spoil", "(II)I"⟩, ⟨"BernoulliWaysModel", "spoils", "(II)V"⟩, ⟨"BernoulliWaysModel", "testsOf", "(I)I"⟩, ⟨"BernoulliWaysModel", "breaksSixth", "(I)Z"⟩, ⟨"BernoulliWaysModel", "dueBelow", "(I)J"⟩, ⟨"BernoulliWaysModel", "signOf", "(I)I"⟩, ⟨"BernoulliWaysModel", "dueSign", "(I)I"⟩, ⟨"BernoulliWaysModel", "breaksSum", "(I)Z"⟩, ⟨"BernoulliWaysModel", "breaksKummer", "(I)Z"⟩, ⟨"BernoulliWaysModel", "kummerOf", "(III)I"⟩, ⟨"BernoulliWaysModel", "restOf", "([JII)I"⟩, ⟨"BernoulliWaysModel", "rest", "(JI)I"⟩, ⟨"BernoulliWaysModel", "power", "(III)I"⟩, ⟨"BernoulliWaysModel", "breaksPrimes", "(I)Z"⟩, ⟨"BernoulliWaysModel", "number", "(II)J"⟩, ⟨"BernoulliWaysModel", "failsWith", "()J"⟩, ⟨"BernoulliWaysModel", "way", "(I)I"⟩, ⟨"BernoulliWaysModel", "right", "(I)I"⟩, ⟨"BernoulliWaysModel", "agree", "(I)I"⟩, ⟨"BernoulliWaysModel", "prime", "(II)I"⟩, ⟨"BernoulliWaysModel", "whole", "(I)J"⟩, ⟨"BernoulliWaysModel", "triangleAt", "(III)J"⟩, ⟨"BernoulliWaysModel", "whichBelow", "(I)I"⟩, ⟨"BernoulliWaysModel", "residue", "(II)I"⟩, ⟨"BernoulliWaysModel", "isPrime", "(I)Z"⟩, ⟨"BernoulliWaysModel", "keeps", "(III)V"⟩, ⟨"BernoulliWaysModel", "memoOf", "(II)I"⟩, ⟨"BernoulliWaysModel", "byPowers", "(II)I"⟩, ⟨"BernoulliWaysModel", "memo", "(II)I"⟩, ⟨"BernoulliWaysModel", "isAsKept", "(I)Z"⟩, ⟨"BernoulliWaysModel", "often", "(II)I"⟩, ⟨"BernoulliWaysModel", "oftenIn", "(JI)I"⟩, ⟨"BernoulliWaysModel", "oftenAbove", "(II)I"⟩, ⟨"BernoulliWaysModel", "kummer", "(III)I"⟩, ⟨"BernoulliWaysModel", "kummerTwice", "(III)I"⟩, ⟨"BernoulliWaysModel", "twiceOf", "([JII)J"⟩]
def xb_5 : List ByteArray := [prog_14_method_13_code, prog_14_method_12_code, prog_14_method_14_code, prog_14_method_16_code, prog_14_method_17_code, prog_14_method_18_code, prog_14_method_52_code, prog_14_method_51_code, prog_14_method_45_code, prog_14_method_46_code, prog_14_method_47_code, prog_14_method_48_code, prog_14_method_49_code, prog_14_method_41_code, prog_14_method_31_code, prog_14_method_29_code, prog_14_method_30_code, prog_14_method_50_code, prog_14_method_20_code, prog_14_method_19_code, prog_14_method_21_code, prog_14_method_22_code, prog_14_method_23_code, prog_14_method_25_code, prog_14_method_26_code, prog_14_method_27_code, prog_14_method_28_code, prog_14_method_34_code, prog_14_method_24_code, prog_14_method_33_code, prog_14_method_32_code, prog_14_method_35_code, prog_14_method_37_code, prog_14_method_36_code, prog_14_method_39_code, prog_14_method_38_code, prog_14_method_40_code, prog_14_method_42_code, prog_14_method_44_code, prog_14_method_43_code]
def xw_5 : List Nat := [1321, 1325, 1329, 1333, 1337, 1341, 1345, 1349, 1353, 1358, 1361, 1365, 1369, 1373, 1377, 1380, 1383, 1387, 1391, 1395, 1400, 1404, 1408, 1412, 1416, 1420, 1425, 1429, 1433, 1437, 1441, 1445, 1449, 1453, 1457, 1460, 1464, 1468, 1472, 1475]
def xm_6 : List (Nat × Nat × Nat × Nat × Nat × Option FieldType) := [(12, 10, 3, 0, 0, some .long), (12, 2, 1, 5, 118, some .int), (12, 5, 1, 5, 118, some .long), (12, 6, 1, 5, 118, some .int), (12, 10, 1, 6, 140, some .int), (12, 3, 1, 5, 118, some .boolean), (12, 7, 3, 5, 118, some .int), (12, 2, 1, 0, 0, some .int), (12, 3, 2, 2, 59, some .long), (12, 5, 1, 3, 71, some .int), (12, 4, 3, 4, 94, some .int), (12, 4, 2, 3, 71, none), (12, 3, 1, 2, 49, none), (12, 5, 1, 1, 25, none), (12, 4, 1, 1, 25, none), (12, 7, 3, 1, 29, some .long), (12, 5, 2, 4, 94, some .int), (12, 2, 1, 3, 72, some .int), (12, 4, 1, 2, 49, some .int), (12, 6, 2, 2, 49, some .int), (12, 5, 1, 3, 78, some .int), (12, 4, 2, 2, 55, some .boolean), (12, 3, 2, 2, 55, some .int), (12, 7, 1, 1, 29, some .int), (12, 5, 1, 1, 22, some .int), (12, 4, 1, 2, 47, some .int), (12, 3, 2, 1, 25, some .int), (12, 10, 3, 2, 59, some .long), (12, 6, 2, 0, 0, some .long), (12, 7, 3, 1, 25, some .int), (12, 4, 1, 3, 72, some .int), (12, 4, 3, 3, 91, some .long), (12, 16, 1, 2, 56, none), (12, 8, 3, 1, 29, none), (12, 3, 2, 4, 116, some .int), (12, 6, 2, 3, 91, some .long), (12, 4, 1, 0, 0, some .long), (12, 8, 1, 1, 23, some .long), (12, 8, 4, 4, 116, some .int), (12, 3, 2, 2, 54, some .int)]
def xn_6 : List MethodName := [⟨"BernoulliWaysModel", "bigPower", "(JIJ)J"⟩, ⟨"BernoulliWaysModel", "tests", "(I)I"⟩, ⟨"BernoulliWaysModel", "suspects", "(I)J"⟩, ⟨"BernoulliWaysModel", "heal", "(I)I"⟩, ⟨"BernoulliWaysModel", "culprit", "(I)I"⟩, ⟨"BernoulliWaysModel", "fails", "(I)Z"⟩, ⟨"BernoulliWaysModel", "trial", "(III)I"⟩, ⟨"BernoulliWaysModel", "draw", "(I)I"⟩, ⟨"BernoulliWaysModel", "remainder", "(II)J"⟩, ⟨"BernoulliWaysModel", "broken", "(I)I"⟩, ⟨"BernoulliWaysModel", "byWay", "(III)I"⟩, ⟨"BernoulliWaysModel", "laysWay", "(II)V"⟩, ⟨"BernoulliWaysModel", "laysAll", "(I)V"⟩, ⟨"BernoulliWaysModel", "laysRests", "(I)V"⟩, ⟨"BernoulliWaysModel", "laysTriangle", "(I)V"⟩, ⟨"BernoulliWaysModel", "powersBy", "(IIJ)J"⟩, ⟨"BernoulliWaysModel", "nothings", "(II)I"⟩, ⟨"BernoulliWaysModel", "irregular", "(I)I"⟩, ⟨"BernoulliWaysModel", "irregularOf", "(I)I"⟩, ⟨"BernoulliWaysModel", "pair", "(II)I"⟩, ⟨"BernoulliWaysModel", "second", "(I)I"⟩, ⟨"BernoulliWaysModel", "hasSquare", "(II)Z"⟩, ⟨"BernoulliWaysModel", "far", "(II)I"⟩, ⟨"BernoulliWaysModel", "harmonic", "(I)I"⟩, ⟨"BernoulliWaysModel", "wilson", "(I)I"⟩, ⟨"BernoulliWaysModel", "classNumber", "(I)I"⟩, ⟨"BernoulliWaysModel", "signOf", "(II)I"⟩, ⟨"BernoulliWaysModel", "quadratic", "(III)J"⟩, ⟨"BernoulliWaysModel", "raised", "(JI)J"⟩, ⟨"BernoulliWaysModel", "voronoi", "(III)I"⟩, ⟨"BernoulliWaysModel", "regulars", "(I)I"⟩, ⟨"BernoulliWaysModel", "coefficient", "(III)J"⟩, ⟨"BernoulliWaysModel", "laysSums", "(I)V"⟩, ⟨"BernoulliWaysModel", "puts", "(IJJ)V"⟩, ⟨"BernoulliWaysModel", "sum", "(II)I"⟩, ⟨"BernoulliWaysModel", "sumAt", "(II)J"⟩, ⟨"BernoulliWaysModel", "bigRest", "(J)J"⟩, ⟨"BernoulliWaysModel", "inverse", "(J)J"⟩, ⟨"BernoulliWaysModel", "progression", "(IIII)I"⟩, ⟨"BernoulliWaysModel", "digits", "(II)I"⟩]
def xb_6 : List ByteArray := [prog_14_method_71_code, prog_14_method_53_code, prog_14_method_54_code, prog_14_method_55_code, prog_14_method_57_code, prog_14_method_56_code, prog_14_method_59_code, prog_14_method_58_code, prog_14_method_60_code, prog_14_method_61_code, prog_14_method_66_code, prog_14_method_63_code, prog_14_method_64_code, prog_14_method_62_code, prog_14_method_65_code, prog_14_method_72_code, prog_14_method_67_code, prog_14_method_69_code, prog_14_method_68_code, prog_14_method_70_code, prog_14_method_74_code, prog_14_method_73_code, prog_14_method_75_code, prog_14_method_76_code, prog_14_method_77_code, prog_14_method_79_code, prog_14_method_78_code, prog_14_method_80_code, prog_14_method_103_code, prog_14_method_81_code, prog_14_method_82_code, prog_14_method_85_code, prog_14_method_84_code, prog_14_method_83_code, prog_14_method_88_code, prog_14_method_89_code, prog_14_method_86_code, prog_14_method_87_code, prog_14_method_90_code, prog_14_method_97_code]
def xw_6 : List Nat := [1478, 1482, 1486, 1490, 1494, 1498, 1502, 1506, 1514, 1518, 1522, 1526, 1530, 1534, 1538, 1541, 1545, 1549, 1553, 1557, 1561, 1565, 1569, 1574, 1578, 1582, 1585, 1589, 1592, 1597, 1601, 1605, 1610, 1614, 1618, 1623, 1626, 1630, 1635, 1639]
def xm_7 : List (Nat × Nat × Nat × Nat × Nat × Option FieldType) := [(12, 2, 2, 1, 22, some .boolean), (12, 4, 2, 1, 31, none), (12, 4, 1, 0, 0, none), (12, 8, 1, 0, 0, none), (12, 12, 3, 0, 0, none), (12, 5, 0, 0, 0, some .int), (12, 8, 3, 2, 54, some .int), (12, 4, 3, 4, 126, some .long), (12, 16, 1, 3, 91, some .boolean), (12, 8, 3, 2, 56, none), (12, 9, 3, 2, 59, some .long), (12, 11, 4, 2, 59, some .long), (12, 5, 3, 3, 73, some .int), (12, 5, 2, 2, 49, some .int), (12, 6, 3, 0, 0, some .int), (12, 6, 2, 3, 73, some .int), (12, 12, 2, 2, 59, some .long), (12, 6, 1, 1, 22, some .long), (12, 3, 2, 2, 47, some .long), (12, 4, 1, 1, 24, none), (12, 5, 3, 0, 0, some .long), (12, 12, 2, 2, 59, some .long), (12, 4, 1, 1, 22, some .long), (12, 10, 1, 1, 29, some .long), (12, 2, 1, 0, 0, some .long), (12, 4, 1, 1, 22, some .int), (12, 4, 1, 3, 70, some .int)]
def xn_7 : List MethodName := [⟨"BernoulliWaysModel", "isSum", "(II)Z"⟩, ⟨"BernoulliWaysModel", "laysFull", "(II)V"⟩, ⟨"BernoulliWaysModel", "laysKinds", "(I)V"⟩, ⟨"BernoulliWaysModel", "times", "(J)V"⟩, ⟨"BernoulliWaysModel", "addsRow", "(IJI)V"⟩, ⟨"BernoulliWaysModel", "digitsOfFull", "()I"⟩, ⟨"BernoulliWaysModel", "digit", "(III)I"⟩, ⟨"BernoulliWaysModel", "triangular", "(III)J"⟩, ⟨"BernoulliWaysModel", "laysTriangles", "(I)Z"⟩, ⟨"BernoulliWaysModel", "takes", "(IJJ)V"⟩, ⟨"BernoulliWaysModel", "poly", "(III)J"⟩, ⟨"BernoulliWaysModel", "value", "(IIII)J"⟩, ⟨"BernoulliWaysModel", "at", "(III)I"⟩, ⟨"BernoulliWaysModel", "laysPoly", "(II)I"⟩, ⟨"BernoulliWaysModel", "polyAt", "(III)I"⟩, ⟨"BernoulliWaysModel", "roots", "(II)I"⟩, ⟨"BernoulliWaysModel", "zeta", "(II)J"⟩, ⟨"BernoulliWaysModel", "genocchi", "(I)J"⟩, ⟨"BernoulliWaysModel", "onto", "(II)J"⟩, ⟨"BernoulliWaysModel", "laysBoxes", "(I)V"⟩, ⟨"BernoulliWaysModel", "timesUpTo", "(IJJ)J"⟩, ⟨"BernoulliWaysModel", "byBoxes", "(II)J"⟩, ⟨"BernoulliWaysModel", "zigzag", "(I)J"⟩, ⟨"BernoulliWaysModel", "tangent", "(I)J"⟩, ⟨"BernoulliWaysModel", "size", "(J)J"⟩, ⟨"BernoulliWaysModel", "growth", "(I)I"⟩, ⟨"BernoulliWaysModel", "count", "(I)I"⟩]
def xb_7 : List ByteArray := [prog_14_method_96_code, prog_14_method_94_code, prog_14_method_91_code, prog_14_method_92_code, prog_14_method_93_code, prog_14_method_95_code, prog_14_method_98_code, prog_14_method_101_code, prog_14_method_100_code, prog_14_method_99_code, prog_14_method_102_code, prog_14_method_104_code, prog_14_method_107_code, prog_14_method_105_code, prog_14_method_106_code, prog_14_method_108_code, prog_14_method_109_code, prog_14_method_110_code, prog_14_method_113_code, prog_14_method_112_code, prog_14_method_111_code, prog_14_method_114_code, prog_14_method_115_code, prog_14_method_116_code, prog_14_method_117_code, prog_14_method_118_code, prog_14_method_119_code]
def xw_7 : List Nat := [1642, 1646, 1651, 1655, 1659, 1663, 1668, 1672, 1676, 1680, 1685, 1689, 1694, 1698, 1702, 1706, 1710, 1714, 1718, 1722, 1725, 1730, 1735, 1739, 1742, 1746, 1750]
def xms : List (Nat × Nat × Nat × Nat × Nat × Option FieldType) := xm_0 ++ (xm_1 ++ (xm_2 ++ (xm_3 ++ (xm_4 ++ (xm_5 ++ (xm_6 ++ (xm_7)))))))
def xns : List (MethodName) := xn_0 ++ (xn_1 ++ (xn_2 ++ (xn_3 ++ (xn_4 ++ (xn_5 ++ (xn_6 ++ (xn_7)))))))
def xbs : List (ByteArray) := xb_0 ++ (xb_1 ++ (xb_2 ++ (xb_3 ++ (xb_4 ++ (xb_5 ++ (xb_6 ++ (xb_7)))))))
def xws : List (Nat) := xw_0 ++ (xw_1 ++ (xw_2 ++ (xw_3 ++ (xw_4 ++ (xw_5 ++ (xw_6 ++ (xw_7)))))))
/-- the sites: (index, tag, a, b, constant), and the places of their words -/
def xs_0 : List (Nat × Nat × Nat × Nat × Int) := [(5, 2, 0, 0, 0), (11, 8, 1, 0, 0), (13, 0, 1, 2, 0), (14, 4, 0, 0, 0), (18, 8, 2, 0, 0), (20, 1, 2, 2, 0), (21, 4, 0, 1, 0), (25, 8, 3, 0, 0), (27, 1, 3, 2, 0), (28, 4, 0, 2, 0), (32, 8, 4, 0, 0), (34, 0, 4, 2, 0), (35, 4, 0, 3, 0), (39, 4, 0, 4, 0), (42, 4, 0, 5, 0), (45, 4, 0, 6, 0), (49, 4, 0, 7, 0), (53, 8, 6, 0, 0), (55, 0, 7, 2, 0), (58, 4, 0, 8, 0), (62, 8, 7, 0, 0), (64, 1, 8, 2, 0), (65, 4, 0, 9, 0), (69, 8, 8, 0, 0), (71, 1, 9, 2, 0), (72, 4, 0, 10, 0), (76, 8, 9, 0, 0), (78, 0, 10, 2, 0), (81, 4, 0, 11, 0), (85, 8, 10, 0, 0), (87, 1, 11, 2, 0), (88, 4, 0, 12, 0), (92, 8, 5, 0, 0), (94, 1, 5, 2, 0), (95, 4, 0, 13, 0), (99, 4, 0, 14, 0), (103, 4, 0, 15, 0), (106, 0, 12, 0, 0), (110, 0, 14, 0, 0), (114, 0, 20, 0, 0), (117, 0, 22, 0, 0), (120, 0, 24, 1, 0), (124, 0, 25, 1, 0), (127, 0, 26, 0, 0), (130, 0, 32, 0, 0), (134, 0, 60, 0, 0), (138, 0, 57, 0, 0), (142, 0, 61, 0, 0), (146, 0, 76, 1, 0), (149, 0, 77, 0, 0), (153, 0, 116, 1, 0), (163, 0, 99, 0, 0), (166, 10, 0, 0, -9223372036854775808), (168, 0, 100, 0, 0), (171, 0, 117, 0, 0), (174, 0, 27, 0, 0), (177, 0, 33, 0, 0), (180, 0, 56, 0, 0), (184, 6, 0, 0, 0), (187, 0, 52, 1, 0), (190, 0, 47, 1, 0), (193, 10, 0, 0, 7420738134810), (195, 0, 37, 0, 0), (198, 0, 29, 0, 0), (201, 0, 30, 0, 0), (204, 0, 31, 0, 0), (207, 0, 41, 0, 0), (211, 0, 55, 0, 0), (214, 0, 42, 0, 0), (218, 4, 5, 0, 0), (222, 0, 84, 1, 0), (225, 0, 85, 0, 0), (228, 0, 86, 0, 0), (232, 0, 91, 1, 0), (238, 0, 93, 0, 0), (242, 0, 94, 0, 0), (246, 0, 95, 0, 0), (249, 0, 96, 0, 0), (252, 0, 97, 0, 0), (255, 0, 63, 0, 0), (258, 0, 101, 0, 0), (261, 0, 102, 0, 0), (264, 0, 68, 0, 0), (268, 0, 105, 0, 0), (271, 0, 110, 0, 0), (274, 0, 111, 0, 0), (278, 0, 113, 0, 0), (281, 0, 36, 0, 0), (284, 0, 15, 0, 0), (287, 0, 121, 0, 0), (290, 0, 128, 0, 0), (293, 0, 130, 0, 0), (294, 0, 131, 0, 0), (295, 0, 132, 0, 0), (298, 0, 134, 1, 0), (301, 9, 0, 0, 1000000), (302, 0, 50, 1, 0), (306, 0, 54, 1, 0), (310, 0, 123, 0, 0), (313, 0, 127, 0, 0), (316, 0, 53, 1, 0), (319, 0, 143, 1, 0), (321, 10, 0, 0, 30), (323, 0, 145, 0, 0), (327, 0, 16, 0, 0), (331, 10, 0, 0, -2), (333, 0, 149, 1, 0), (336, 0, 39, 0, 0), (339, 0, 43, 0, 0), (342, 0, 44, 0, 0), (345, 0, 150, 0, 0), (349, 4, 5, 2, 0), (352, 0, 152, 1, 0), (355, 0, 153, 0, 0), (358, 0, 154, 0, 0), (362, 0, 156, 0, 0), (365, 0, 162, 0, 0), (366, 0, 164, 0, 0), (369, 10, 0, 0, 1000000007), (371, 0, 167, 0, 0), (374, 10, 0, 0, -3), (376, 10, 0, 0, 30030), (378, 10, 0, 0, 2310), (380, 0, 171, 0, 0), (383, 0, 172, 0, 0), (387, 10, 0, 0, -1), (389, 10, 0, 0, 2), (391, 4, 5, 1, 0), (394, 0, 177, 0, 0), (397, 10, 0, 0, 232792560), (399, 3, 0, 0, 0), (405, 0, 183, 1, 0), (411, 0, 185, 0, 0), (414, 0, 186, 0, 0), (417, 9, 0, 0, 1000000000), (418, 0, 28, 0, 0), (422, 0, 34, 0, 0), (425, 0, 45, 0, 0), (428, 0, 46, 0, 0), (431, 0, 35, 0, 0), (434, 0, 48, 0, 0), (437, 0, 49, 1, 0), (441, 0, 51, 1, 0), (444, 0, 73, 0, 0), (447, 0, 114, 1, 0), (450, 10, 0, 0, 9), (452, 10, 0, 0, 1103515245), (454, 10, 0, 0, 12345), (456, 10, 0, 0, 2147483647), (458, 0, 135, 1, 0), (461, 0, 146, 0, 0), (464, 0, 157, 0, 0), (467, 10, 0, 0, 223092870), (469, 0, 158, 0, 0), (473, 0, 159, 0, 0), (474, 0, 160, 0, 0), (477, 0, 6, 1, 0), (482, 0, 13, 1, 0), (485, 0, 178, 1, 0), (489, 10, 0, 0, 9223372036854775807)]
def xp_0 : List (List Nat) := [[114, 115, 116], [117, 118, 90], [119, 120, 90], [339], [128, 129, 91], [130, 131, 91], [340], [144, 145, 92], [146, 147, 92], [341], [160, 161, 93], [162, 163, 93], [342], [343], [344], [345], [346], [205, 206, 96], [207, 208, 96], [347], [222, 223, 97], [224, 225, 97], [348], [241, 242, 98], [243, 244, 98], [349], [260, 261, 99], [262, 263, 99], [350], [282, 283, 100], [284, 285, 100], [351], [295, 167, 94], [296, 169, 94], [352], [353], [354], [297, 298, 299, 92], [305, 306, 307, 92], [326, 327, 328, 93], [333, 334, 335, 92], [392, 393, 89], [395, 396, 89], [398, 400, 0, 89], [422, 424, 2, 89], [543, 544, 545, 93], [531, 533, 11, 89], [549, 550, 551, 96], [617, 618, 89], [620, 622, 19, 89], [790, 791, 89], [715, 717, 25, 89], [644], [720, 721, 722, 93], [793, 794, 795, 94], [402, 404, 1, 89], [426, 428, 3, 89], [527, 528, 529, 93], [501], [513, 514, 89], [492, 493, 89], [495], [496, 447, 448, 91], [645, 411, 412, 93], [646, 415, 416, 93], [647, 419, 420, 93], [522, 465, 466, 91], [523, 525, 10, 89], [470, 471, 472, 91], [175], [652, 653, 89], [655, 657, 20, 89], [660, 661, 662, 97], [683, 684, 103], [691, 692, 693, 97], [695, 696, 697, 97], [699, 700, 701, 97], [703, 704, 705, 97], [707, 709, 24, 89], [719, 560, 561, 93], [724, 725, 726, 94], [728, 729, 730, 94], [736, 580, 581, 96], [741, 742, 743, 96], [762, 764, 26, 89], [766, 767, 768, 93], [775, 777, 27, 89], [441, 442, 443, 96], [801, 310, 311, 92], [810, 811, 812, 99], [842, 843, 844, 99], [850, 851, 852, 99], [854, 855, 856, 99], [858, 859, 860, 99], [866, 867, 89], [876], [881, 507, 103], [519, 520, 103], [886, 820, 821, 98], [887, 839, 840, 98], [516, 517, 103], [904, 905, 103], [911], [912, 914, 32, 89], [438, 314, 315, 94], [929], [930, 931, 89], [916, 454, 455, 90], [475, 476, 477, 94], [480, 481, 482, 94], [933, 934, 935, 94], [181], [941, 942, 89], [945, 947, 33, 89], [950, 952, 34, 89], [958, 960, 35, 89], [988, 989, 990, 100], [996, 997, 998, 100], [949], [1008, 1010, 37, 89], [1013], [1012], [1022], [1027, 1029, 38, 89], [1031, 1033, 39, 89], [439], [440], [178], [1051, 1053, 40, 89], [1065], [1070, 674, 673, 108], [1079, 1080, 101], [1086, 1088, 41, 89], [1090, 1092, 42, 89], [944], [406, 407, 408, 93], [430, 432, 4, 89], [484, 486, 7, 89], [488, 490, 8, 89], [434, 436, 5, 89], [497, 499, 9, 89], [503, 504, 103], [510, 511, 89], [659, 602, 603, 93], [779, 780, 89], [785], [782], [783], [784], [869, 870, 89], [917, 918, 919, 93], [962, 963, 964, 100], [967], [968, 969, 970, 100], [975, 976, 977, 100], [979, 980, 981, 100], [1055, 190, 95], [1056, 302, 101], [1057, 1058, 89], [1060]]
def xs_1 : List (Nat × Nat × Nat × Nat × Int) := [(3, 2, 0, 0, 0), (11, 4, 1, 0, 0)]
def xp_1 : List (List Nat) := [[122, 115, 116], [123]]
def xs_2 : List (Nat × Nat × Nat × Nat × Int) := [(1, 2, 0, 0, 0), (7, 4, 2, 0, 0), (13, 0, 38, 1, 0), (19, 4, 2, 1, 0), (22, 4, 2, 2, 0), (25, 0, 19, 1, 0), (28, 0, 17, 1, 0), (31, 0, 16, 0, 0)]
def xp_2 : List (List Nat) := [[133, 115, 116], [134], [450, 451, 101], [135], [136], [468, 324, 101], [469, 318, 101], [474, 314, 315, 94]]
def xs_3 : List (Nat × Nat × Nat × Nat × Int) := [(3, 2, 0, 0, 0), (9, 4, 3, 0, 0), (15, 4, 3, 1, 0), (18, 0, 13, 1, 0), (24, 4, 3, 2, 0), (28, 10, 0, 0, 5342931457063200), (30, 0, 19, 1, 0), (34, 0, 17, 1, 0), (37, 0, 16, 0, 0), (43, 0, 15, 0, 0), (47, 4, 5, 0, 0)]
def xp_3 : List (List Nat) := [[149, 115, 116], [150], [151], [301, 302, 101], [152], [304], [337, 324, 101], [338, 318, 101], [313, 314, 315, 94], [309, 310, 311, 92], [173]]
def xs_4 : List (Nat × Nat × Nat × Nat × Int) := [(3, 2, 0, 0, 0), (9, 4, 4, 0, 0), (15, 4, 4, 1, 0), (18, 4, 4, 2, 0), (21, 8, 5, 0, 0), (23, 1, 5, 2, 0), (24, 4, 4, 3, 0), (28, 0, 6, 1, 0), (34, 0, 21, 1, 0), (38, 0, 29, 0, 0), (42, 0, 30, 0, 0), (45, 4, 5, 0, 0), (49, 4, 5, 1, 0), (52, 4, 5, 2, 0), (55, 0, 31, 0, 0), (58, 0, 16, 0, 0), (62, 3, 0, 0, 0), (68, 0, 20, 0, 0), (72, 0, 53, 1, 0), (78, 0, 54, 1, 0)]
def xp_4 : List (List Nat) := [[165, 115, 116], [192], [193], [194], [166, 167, 94], [168, 169, 94], [195], [189, 190, 95], [330, 331, 93], [410, 411, 412, 93], [414, 415, 416, 93], [174], [177], [180], [418, 419, 420, 93], [547, 314, 315, 94], [770, 674, 673, 108], [548, 327, 328, 93], [605, 517, 103], [606, 520, 103]]
def xs_5 : List (Nat × Nat × Nat × Nat × Int) := [(1, 2, 0, 0, 0), (7, 4, 5, 2, 0), (13, 0, 17, 1, 0), (19, 0, 18, 1, 0), (22, 0, 19, 1, 0), (25, 4, 5, 0, 0), (28, 4, 5, 1, 0), (31, 0, 16, 0, 0)]
def xp_5 : List (List Nat) := [[171, 115, 116], [179], [317, 318, 101], [320, 321, 94], [323, 324, 101], [172], [176], [479, 314, 315, 94]]
def xs_6 : List (Nat × Nat × Nat × Nat × Int) := [(3, 2, 0, 0, 0), (9, 4, 6, 0, 0), (15, 4, 6, 1, 0), (19, 4, 6, 2, 0), (23, 0, 62, 0, 0), (27, 0, 63, 0, 0), (33, 0, 64, 1, 0), (36, 0, 65, 0, 0), (39, 0, 67, 0, 0), (42, 0, 72, 0, 0), (45, 0, 74, 0, 0), (48, 10, 0, 0, 7420738134810), (50, 0, 37, 0, 0), (56, 0, 39, 0, 0), (62, 0, 40, 0, 0), (66, 0, 69, 0, 0), (70, 0, 70, 0, 0), (74, 0, 54, 1, 0), (80, 0, 50, 1, 0), (84, 1, 47, 1, 0), (87, 0, 31, 0, 0), (91, 0, 29, 0, 0), (94, 0, 30, 0, 0), (97, 0, 53, 1, 0), (100, 0, 41, 0, 0), (104, 7, 0, 0, 0), (108, 1, 52, 1, 0), (111, 0, 36, 0, 0), (115, 0, 66, 0, 0), (119, 0, 68, 0, 0), (123, 0, 71, 1, 0), (129, 0, 73, 0, 0), (132, 10, 0, 0, 6), (134, 10, 0, 0, 3)]
def xp_6 : List (List Nat) := [[210, 115, 116], [211], [212], [213], [553, 555, 12, 96], [559, 560, 561, 93], [563, 564, 96], [566, 568, 13, 96], [575, 577, 14, 96], [597, 599, 17, 96], [607, 609, 18, 96], [445], [446, 447, 448, 91], [453, 454, 455, 90], [457, 459, 6, 96], [583, 585, 15, 96], [588, 590, 16, 96], [593, 520, 103], [745, 507, 103], [587, 493, 89], [463, 419, 420, 93], [461, 411, 412, 93], [462, 415, 416, 93], [592, 517, 103], [464, 465, 466, 91], [557], [558, 514, 89], [570, 442, 443, 96], [571, 572, 573, 91], [579, 580, 581, 96], [594, 595, 101], [601, 602, 603, 93], [611], [612]]
def xs_7 : List (Nat × Nat × Nat × Nat × Int) := [(3, 2, 0, 0, 0), (11, 4, 7, 0, 0), (15, 4, 7, 1, 0), (18, 4, 7, 2, 0), (21, 4, 7, 3, 0), (25, 0, 89, 0, 0), (29, 0, 87, 0, 0), (33, 0, 88, 0, 0), (36, 3, 0, 0, 0)]
def xp_7 : List (List Nat) := [[227, 115, 116], [228], [229], [230], [231], [675, 677, 23, 97], [664, 666, 21, 97], [668, 670, 22, 97], [672, 674, 673, 108]]
def xs_8 : List (Nat × Nat × Nat × Nat × Int) := [(3, 2, 0, 0, 0), (9, 4, 8, 0, 0), (15, 4, 8, 1, 0), (18, 4, 8, 2, 0), (22, 4, 8, 3, 0), (25, 0, 124, 0, 0), (29, 0, 125, 0, 0), (32, 0, 126, 0, 0), (35, 0, 6, 1, 0), (41, 0, 53, 1, 0), (47, 10, 0, 0, 2)]
def xp_8 : List (List Nat) := [[246, 115, 116], [247], [248], [249], [250], [823, 825, 29, 98], [829, 831, 30, 98], [833, 835, 31, 98], [827, 190, 95], [828, 517, 103], [837]]
def xs_9 : List (Nat × Nat × Nat × Nat × Int) := [(3, 2, 0, 0, 0), (11, 4, 9, 1, 0), (15, 4, 9, 2, 0), (18, 4, 9, 4, 0), (22, 4, 9, 0, 0), (26, 4, 9, 3, 0), (29, 7, 0, 0, 0), (32, 0, 122, 0, 0), (36, 0, 123, 0, 0), (42, 0, 127, 0, 0)]
def xp_9 : List (List Nat) := [[265, 115, 116], [267], [268], [270], [266], [269], [814], [815, 817, 28, 99], [819, 820, 821, 98], [838, 839, 840, 98]]
def xs_10 : List (Nat × Nat × Nat × Nat × Int) := [(1, 2, 0, 0, 0), (9, 4, 10, 0, 0), (13, 4, 10, 1, 0), (17, 0, 6, 1, 0), (23, 10, 0, 0, 1000000000), (25, 0, 17, 1, 0), (31, 0, 19, 1, 0), (34, 0, 161, 0, 0), (38, 10, 0, 0, 10)]
def xp_10 : List (List Nat) := [[287, 115, 116], [288], [289], [966, 190, 95], [972], [973, 318, 101], [974, 324, 101], [983, 985, 36, 100], [987]]
def xs_11 : List (Nat × Nat × Nat × Nat × Int) := [(7, 0, 17, 1, 0), (13, 0, 50, 1, 0), (19, 0, 49, 1, 0)]
def xp_11 : List (List Nat) := [[509, 318, 101], [506, 507, 103], [686, 504, 103]]
def xs_12 : List (Nat × Nat × Nat × Nat × Int) := [(1, 2, 0, 0, 0), (7, 4, 12, 1, 0), (13, 4, 12, 2, 0), (16, 4, 12, 3, 0), (20, 4, 12, 4, 0), (24, 4, 12, 5, 0), (27, 4, 12, 6, 0), (30, 4, 12, 10, 0), (33, 4, 12, 11, 0), (36, 4, 12, 12, 0), (39, 4, 12, 15, 0), (42, 4, 12, 16, 0), (45, 4, 12, 17, 0), (48, 4, 12, 18, 0), (51, 4, 12, 19, 0), (54, 4, 12, 20, 0), (57, 4, 12, 21, 0), (60, 4, 12, 22, 0), (63, 4, 12, 23, 0), (66, 4, 12, 24, 0), (69, 4, 12, 25, 0), (72, 4, 12, 26, 0), (75, 4, 12, 27, 0), (78, 4, 12, 28, 0), (81, 4, 12, 29, 0), (84, 4, 12, 30, 0), (87, 4, 12, 31, 0), (90, 4, 12, 32, 0), (93, 4, 12, 33, 0), (96, 4, 12, 7, 0), (99, 0, 189, 1, 0), (103, 0, 190, 0, 0), (107, 4, 12, 8, 0), (111, 4, 12, 9, 0), (114, 0, 192, 0, 0), (118, 4, 12, 0, 0), (121, 0, 195, 1, 0), (125, 10, 0, 0, 7420738134810), (127, 0, 191, 0, 0), (131, 0, 193, 1, 0), (134, 0, 194, 0, 0), (137, 0, 199, 1, 0), (141, 0, 201, 0, 0), (145, 0, 198, 0, 0), (148, 0, 200, 0, 0), (151, 0, 202, 0, 0), (155, 0, 205, 0, 0), (158, 0, 206, 0, 0), (162, 0, 219, 0, 0), (166, 10, 0, 0, -9223372036854775808), (168, 10, 0, 0, 5342931457063200), (170, 0, 215, 1, 0), (174, 0, 216, 1, 0), (178, 4, 12, 13, 0), (181, 0, 230, 0, 0), (185, 0, 228, 0, 0), (188, 0, 214, 0, 0), (192, 0, 229, 0, 0), (196, 0, 233, 0, 0), (199, 0, 235, 1, 0), (202, 0, 236, 0, 0), (205, 0, 213, 0, 0), (208, 0, 240, 1, 0), (212, 0, 239, 1, 0), (216, 10, 0, 0, 2), (218, 0, 207, 0, 0), (221, 0, 208, 0, 0), (225, 0, 209, 0, 0), (228, 0, 210, 1, 0), (231, 0, 211, 0, 0), (234, 0, 212, 0, 0), (237, 0, 217, 0, 0), (240, 0, 245, 0, 0), (243, 4, 12, 14, 0), (246, 10, 0, 0, 1103515245), (248, 10, 0, 0, 12345), (250, 10, 0, 0, 2147483647), (252, 10, 0, 0, 65536), (254, 0, 247, 0, 0), (257, 0, 252, 0, 0), (261, 0, 254, 0, 0), (264, 0, 255, 1, 0), (268, 0, 253, 0, 0), (271, 0, 251, 0, 0), (274, 0, 258, 0, 0), (277, 0, 259, 0, 0), (280, 0, 261, 1, 0), (284, 9, 0, 0, 1000000), (285, 0, 266, 1, 0), (287, 0, 268, 1, 0), (291, 10, 0, 0, 30), (293, 0, 273, 0, 0), (297, 10, 0, 0, -2), (299, 0, 272, 0, 0), (302, 10, 0, 0, 1000000007), (304, 0, 276, 1, 0), (308, 10, 0, 0, 1000000005), (310, 9, 0, 0, 1000000000), (311, 0, 275, 0, 0), (315, 0, 277, 1, 0), (318, 10, 0, 0, 1000000000), (320, 0, 282, 0, 0), (323, 0, 283, 0, 0), (327, 0, 284, 0, 0), (331, 10, 0, 0, 10), (333, 0, 280, 1, 0), (336, 0, 281, 0, 0), (339, 0, 285, 0, 0), (343, 0, 289, 0, 0), (346, 0, 288, 0, 0), (349, 10, 0, 0, -3), (351, 10, 0, 0, 2310), (353, 0, 293, 0, 0), (356, 0, 294, 0, 0), (359, 10, 0, 0, 9223372036854775807), (361, 0, 300, 1, 0), (365, 0, 299, 0, 0), (368, 10, 0, 0, 232792560), (370, 0, 304, 1, 0)]
def xp_12 : List (List Nat) := [[1173, 115, 116], [1201], [1202], [1203], [1204], [1205], [1206], [1210], [1211], [1212], [1215], [1216], [1217], [1218], [1219], [1220], [1221], [1222], [1223], [1224], [1225], [1226], [1227], [1228], [1229], [1230], [1231], [1232], [1233], [1207], [1174, 1175, 102], [1177, 1179, 44, 102], [1208], [1209], [1186, 1188, 46, 102], [1200], [1197, 1198, 102], [1185], [1181, 1183, 45, 102], [1190, 1191, 102], [1193, 1195, 47, 102], [1315, 1316, 102], [1322, 1324, 50, 102], [1311, 1313, 48, 102], [1318, 1320, 49, 102], [1326, 1328, 51, 102], [1338, 1340, 52, 102], [1342, 1344, 53, 102], [1392, 1394, 62, 102], [1396], [1421], [1378, 1379, 102], [1381, 1382, 102], [1213], [1438, 1440, 65, 102], [1430, 1432, 63, 102], [1374, 1376, 60, 102], [1434, 1436, 64, 102], [1450, 1452, 66, 102], [1458, 1459, 102], [1461, 1463, 67, 102], [1370, 1372, 59, 102], [1476, 1477, 102], [1473, 1474, 102], [1354], [1346, 1348, 54, 102], [1350, 1352, 55, 102], [1355, 1357, 56, 102], [1359, 1360, 102], [1362, 1364, 57, 102], [1366, 1368, 58, 102], [1384, 1386, 61, 102], [1495, 1497, 68, 102], [1214], [1507], [1508], [1509], [1510], [1503, 1505, 69, 102], [1527, 1529, 71, 102], [1535, 1537, 73, 102], [1539, 1540, 102], [1531, 1533, 72, 102], [1523, 1525, 70, 102], [1550, 1552, 74, 102], [1562, 1555, 1556, 102], [1563, 1564, 102], [1570], [1583, 1584, 102], [1590, 1591, 102], [1593], [1611, 1613, 76, 102], [1606], [1607, 1609, 75, 102], [1627], [1624, 1625, 102], [1631], [1619], [1620, 1622, 77, 102], [1628, 1629, 102], [1647], [1648, 1650, 79, 102], [1652, 1654, 80, 102], [1656, 1658, 81, 102], [1664], [1640, 1641, 102], [1643, 1645, 78, 102], [1660, 1662, 82, 102], [1677, 1679, 84, 102], [1673, 1675, 83, 102], [1681], [1690], [1695, 1697, 85, 102], [1699, 1701, 86, 102], [1726], [1723, 1724, 102], [1719, 1721, 87, 102], [1731], [1740, 1741, 102]]
def xs_13 : List (Nat × Nat × Nat × Nat × Int) := []
def xp_13 : List (List Nat) := []
def xs_14 : List (Nat × Nat × Nat × Nat × Int) := []
def xp_14 : List (List Nat) := []
def xss : List (List (Nat × Nat × Nat × Nat × Int)) := [xs_0, xs_1, xs_2, xs_3, xs_4, xs_5, xs_6, xs_7, xs_8, xs_9, xs_10, xs_11, xs_12, xs_13, xs_14]
def xps : List (List (List Nat)) := [xp_0, xp_1, xp_2, xp_3, xp_4, xp_5, xp_6, xp_7, xp_8, xp_9, xp_10, xp_11, xp_12, xp_13, xp_14]
def xlp : List (List Nat) := [[355, 357, 359, 361, 363, 365, 367, 369, 371, 373, 375, 377, 379, 381, 383, 385], [124], [137, 139, 141], [153, 155, 157], [196, 198, 200, 202], [182, 184, 186], [214, 216, 218], [232, 234, 236, 238], [251, 253, 255, 257], [271, 273, 275, 277, 279], [290, 292], [], [1234, 1236, 1238, 1240, 1242, 1244, 1246, 1248, 1250, 1252, 1254, 1256, 1258, 1260, 1262, 1264, 1266, 1268, 1270, 1272, 1274, 1276, 1278, 1280, 1282, 1284, 1286, 1288, 1290, 1292, 1294, 1296, 1298, 1300], [], []]
end
section
/-! THE PURE MACHINE: what the bytecode of the tables' methods does, over a heap of pure cells; a reference is a cell's number. -/
/-- a cell: a row of ints, a row of longs, an object of a class (its number) with its fields -/
abbrev xC : Type := ((Nat × (Nat → Int32)) ⊕ (Nat × (Nat → Int64))) ⊕ (Nat × List Value)
abbrev xW : Type := List xC
/-- the static row of primes, by a number that no cell has -/
def xP : Nat := 1000000
def xprimes : List Int32 := [2, 3, 5, 7, 11, 13, 17, 19, 23, 29, 31, 37, 41, 43, 47, 53, 59, 61, 67, 71, 73, 79, 83, 89, 97, 101, 103, 107, 109, 113, 127, 131, 137, 139, 149, 151, 157, 163, 167, 173, 179, 181, 191, 193, 197, 199]
def xpr (j : Nat) : Int32 := xprimes.getD j 0
def xmi (k : Nat) : Nat × Nat × Nat × Nat × Nat × Option FieldType := xms.getD k (0, 0, 0, 0, 0, none)
def xown (k : Nat) : Nat := (xmi k).1
def xml (k : Nat) : Nat := (xmi k).2.1
def xna (k : Nat) : Nat := (xmi k).2.2.1
def xfr (k : Nat) : Nat := (xmi k).2.2.2.1
def xlo (k : Nat) : Nat := (xmi k).2.2.2.2.1
def xret (k : Nat) : Option FieldType := (xmi k).2.2.2.2.2
def xy (k : Nat) : MethodName := xns.getD k ⟨"", "", ""⟩
def xb (k : Nat) : ByteArray := xbs.getD k ⟨#[]⟩
def xcode (k pc : Nat) : Option (Instr × Nat) := match decode (xb k) pc with
  | .ok r => some r
  | _ => none
def xsite (k ix : Nat) : Option (Nat × Nat × Nat × Int) := (xss.getD (xown k) []).lookup ix
def xsz (c : xC) : Nat := match c with
  | .inl (.inl a) => a.1
  | .inl (.inr a) => a.1
  | .inr o => o.2.length
def xsl (w : xW) : Nat := (w.map xsz).sum
/-- locals: a place each, a long ahead of an empty one -/
def xent1 : List Value → List (Option Value)
  | [] => []
  | v :: vs => if v.category = 2 then some v :: none :: xent1 vs else some v :: xent1 vs
def xent (n : Nat) (vs : List Value) : List (Option Value) := xent1 vs ++ List.replicate (n - (xent1 vs).length) none
def xclr (l : List (Option Value)) (i : Nat) : List (Option Value) := match i with
  | 0 => l
  | j + 1 => match l[j]? with
    | some (some v) => if v.category = 2 then l.set j none else l
    | _ => l
def xst1 (l : List (Option Value)) (i : Nat) (v : Value) : List (Option Value) := (xclr l i).set i (some v)
def xst2 (l : List (Option Value)) (i : Nat) (v : Value) : List (Option Value) := ((xclr l i).set i (some v)).set (i + 1) none
def xtgt (pc : Nat) (off : Int) : Nat := ((pc : Int) + off).toNat
def xfits (ty : FieldType) (v : Value) : Bool := match ty, v with
  | .int, .int _ => true
  | .long, .long _ => true
  | .array _, .ref _ => true
  | .object _, .ref _ => true
  | _, _ => false
/-- what a machine at a place comes to: an answer and a heap -/
abbrev xA : Type := Option (Option Value × xW)
abbrev xK : Type := Nat → Nat → List (Option Value) → List Value → xW → xA
def xjump (F : xK) (k pc : Nat) (off : Int) (l : List (Option Value)) (st : List Value) (w : xW) : xA :=
  if 0 ≤ (pc : Int) + off then F k (xtgt pc off) l st w else none
def xbr (F : xK) (c : Bool) (k pc : Nat) (off : Int) (l : List (Option Value)) (st : List Value) (w : xW) : xA :=
  if 0 ≤ (pc : Int) + off then (if c = true then F k (xtgt pc off) l st w else F k (pc + 3) l st w) else none
def xaft (F : xK) (k pc : Nat) (l : List (Option Value)) (st : List Value) (r : xA) : xA := match r with
  | some (v, w') => F k (pc + 3) l (v.toList ++ st) w'
  | none => none
/-- a call of z: room, locals, the rest of the stack -/
def xgo (F : xK) (k pc : Nat) (l : List (Option Value)) (w : xW) (z : Nat) (as rest : List Value) : xA :=
  if xfr z + 1 ≤ xfr k ∧ 8 + (xml z + 11) + xlo z ≤ xlo k ∧ (rest.map fun v => v.category).sum ≤ 8 ∧ (xent1 as).length ≤ xml z ∧ z < xms.length then
    xaft F k pc l rest (F z 0 (xent (xml z) as) [] w)
  else none
def xinvV (F : xK) (k pc ix : Nat) (l : List (Option Value)) (st : List Value) (w : xW) : xA := match xsite k ix with
  | some (0, z, 0, _) => if xna z + 1 ≤ st.length then match (st.drop (xna z)) with
      | .ref b :: rest => match w[b]? with
        | some (.inr (ci, _)) => if ci = xown z then xgo F k pc l w z (.ref b :: (st.take (xna z)).reverse) rest else none
        | _ => none
      | _ => none
    else none
  | _ => none
def xinvS (F : xK) (k pc ix : Nat) (l : List (Option Value)) (st : List Value) (w : xW) : xA := match xsite k ix with
  | some (0, z, 1, _) => if xna z ≤ st.length then xgo F k pc l w z (st.take (xna z)).reverse (st.drop (xna z)) else none
  | some (1, z, 1, _) => if xna z ≤ st.length then xgo F k pc l w z (st.take (xna z)).reverse (st.drop (xna z)) else none
  | some (3, _, _, _) => match st with
    | .int n :: .int dp :: .ref d :: .int sp :: .ref a :: rest =>
      if n < 0 ∨ dp < 0 ∨ sp < 0 ∨ xfr k < 1 ∨ xlo k < (rest.map fun v => v.category).sum + 18 then none else match w[a]?, w[d]? with
      | some (.inl (.inl (n0, f))), some (.inl (.inl (n1, g))) => if sp.toNatClampNeg + n.toNatClampNeg ≤ n0 ∧ dp.toNatClampNeg + n.toNatClampNeg ≤ n1 then
          F k (pc + 3) l rest (w.set d (.inl (.inl (n1, va_cpy f g sp.toNatClampNeg dp.toNatClampNeg n.toNatClampNeg)))) else none
      | some (.inl (.inr (n0, f))), some (.inl (.inr (n1, g))) => if sp.toNatClampNeg + n.toNatClampNeg ≤ n0 ∧ dp.toNatClampNeg + n.toNatClampNeg ≤ n1 then
          F k (pc + 3) l rest (w.set d (.inl (.inr (n1, va_cpy f g sp.toNatClampNeg dp.toNatClampNeg n.toNatClampNeg)))) else none
      | _, _ => none
    | _ => none
  | _ => none
def xinvI (F : xK) (k pc ix : Nat) (l : List (Option Value)) (st : List Value) (w : xW) : xA := match xsite k ix with
  | some (0, z, 2, _) => if xna z + 1 ≤ st.length then match (st.drop (xna z)) with
      | .ref b :: rest => xgo F k pc l w z (.ref b :: (st.take (xna z)).reverse) rest
      | _ => none
    else none
  | some (1, z, 2, _) => if xna z + 1 ≤ st.length then match (st.drop (xna z)) with
      | .ref b :: rest => xgo F k pc l w z (.ref b :: (st.take (xna z)).reverse) rest
      | _ => none
    else none
  | some (2, _, _, _) => match st with
    | .ref _ :: rest => if 1 ≤ xfr k ∧ (rest.map fun v => v.category).sum + 12 ≤ xlo k then F k (pc + 3) l rest w else none
    | _ => none
  | _ => none
def xgetf (F : xK) (k pc ix : Nat) (l : List (Option Value)) (st : List Value) (w : xW) : xA := match xsite k ix, st with
  | some (4, ci, j, _), .ref a :: rest => match w[a]? with
    | some (.inr (c2, fs)) => if c2 = ci then match fs[j]? with
        | some v => F k (pc + 3) l (v :: rest) w
        | none => none
      else none
    | _ => none
  | _, _ => none
def xputf (F : xK) (k pc ix : Nat) (l : List (Option Value)) (st : List Value) (w : xW) : xA := match xsite k ix, st with
  | some (4, ci, j, _), v :: .ref a :: rest => match w[a]? with
    | some (.inr (c2, fs)) => if c2 = ci ∧ j < fs.length then match (xts.getD ci [])[j]?, (xfs.getD ci [])[j]? with
        | some ty, some fd => if xfits ty v = true ∧ (fd.2.2.2 = false ∨ (xy k).name = "<init>" ∧ fd.1 = (xy k).cls) then F k (pc + 3) l rest (w.set a (.inr (ci, fs.set j v))) else none
        | _, _ => none
      else none
    | _ => none
  | _, _ => none
def xald (F : xK) (k pc : Nat) (l : List (Option Value)) (st : List Value) (w : xW) : xA := match st with
  | .int i :: .ref a :: rest => match w[a]? with
    | some (.inl (.inl (n, f))) => if i < 0 ∨ n ≤ i.toNatClampNeg then none else F k (pc + 1) l (.int (f i.toNatClampNeg) :: rest) w
    | some _ => none
    | none => if a = xP then (if i < 0 ∨ 46 ≤ i.toNatClampNeg then none else F k (pc + 1) l (.int (xpr i.toNatClampNeg) :: rest) w) else none
  | _ => none
def xalen (F : xK) (k pc : Nat) (l : List (Option Value)) (st : List Value) (w : xW) : xA := match st with
  | .ref a :: rest => match w[a]? with
    | some (.inl (.inl (n, _))) => F k (pc + 1) l (.int (Int32.ofNat n) :: rest) w
    | some (.inl (.inr (n, _))) => F k (pc + 1) l (.int (Int32.ofNat n) :: rest) w
    | some _ => none
    | none => if a = xP then F k (pc + 1) l (.int 46 :: rest) w else none
  | _ => none
def xlald (F : xK) (k pc : Nat) (l : List (Option Value)) (st : List Value) (w : xW) : xA := match st with
  | .int i :: .ref a :: rest => match w[a]? with
    | some (.inl (.inr (n, f))) => if i < 0 ∨ n ≤ i.toNatClampNeg then none else F k (pc + 1) l (.long (f i.toNatClampNeg) :: rest) w
    | _ => none
  | _ => none
def xiast (F : xK) (k pc : Nat) (l : List (Option Value)) (st : List Value) (w : xW) : xA := match st with
  | .int x :: .int i :: .ref a :: rest => match w[a]? with
    | some (.inl (.inl (n, f))) => if i < 0 ∨ n ≤ i.toNatClampNeg then none else F k (pc + 1) l rest (w.set a (.inl (.inl (n, upd f i.toNatClampNeg x))))
    | _ => none
  | _ => none
def xlast (F : xK) (k pc : Nat) (l : List (Option Value)) (st : List Value) (w : xW) : xA := match st with
  | .long x :: .int i :: .ref a :: rest => match w[a]? with
    | some (.inl (.inr (n, f))) => if i < 0 ∨ n ≤ i.toNatClampNeg then none else F k (pc + 1) l rest (w.set a (.inl (.inr (n, vp_updL f i.toNatClampNeg x))))
    | _ => none
  | _ => none
def xnewa (F : xK) (k pc : Nat) (t : ArrayType) (l : List (Option Value)) (st : List Value) (w : xW) : xA := match st with
  | .int n :: rest => if n < 0 ∨ 1000000 < n.toNatClampNeg ∨ xP ≤ w.length + 1 then none else match t with
    | .int => F k (pc + 2) l (.ref w.length :: rest) (w ++ [.inl (.inl (n.toNatClampNeg, fun _ => 0))])
    | .long => F k (pc + 2) l (.ref w.length :: rest) (w ++ [.inl (.inr (n.toNatClampNeg, fun _ => 0))])
    | _ => none
  | _ => none
def xnew (F : xK) (k pc ix : Nat) (l : List (Option Value)) (st : List Value) (w : xW) : xA := match xsite k ix with
  | some (8, ci, _, _) => if xP ≤ w.length + 1 then none else F k (pc + 3) l (.ref w.length :: st) (w ++ [.inr (ci, xvs.getD ci [])])
  | _ => none
def xgets (F : xK) (k pc ix : Nat) (l : List (Option Value)) (st : List Value) (w : xW) : xA := match xsite k ix with
  | some (6, _, _, _) => F k (pc + 3) l (.ref xP :: st) w
  | some (7, _, _, _) => F k (pc + 3) l (.ref xP :: st) w
  | _ => none
def xild (F : xK) (k pc i len : Nat) (l : List (Option Value)) (st : List Value) (w : xW) : xA := match l[i]? with
  | some (some (.int x)) => F k (pc + len) l (.int x :: st) w
  | _ => none
def xlld (F : xK) (k pc i len : Nat) (l : List (Option Value)) (st : List Value) (w : xW) : xA := match l[i]? with
  | some (some (.long x)) => F k (pc + len) l (.long x :: st) w
  | _ => none
def xaldr (F : xK) (k pc i len : Nat) (l : List (Option Value)) (st : List Value) (w : xW) : xA := match l[i]? with
  | some (some (.ref x)) => F k (pc + len) l (.ref x :: st) w
  | _ => none
def xis (F : xK) (k pc i len : Nat) (l : List (Option Value)) (st : List Value) (w : xW) : xA := match st with
  | .int x :: rest => if i < xml k then F k (pc + len) (xst1 l i (.int x)) rest w else none
  | _ => none
def xas (F : xK) (k pc i len : Nat) (l : List (Option Value)) (st : List Value) (w : xW) : xA := match st with
  | .ref x :: rest => if i < xml k then F k (pc + len) (xst1 l i (.ref x)) rest w else none
  | _ => none
def xls (F : xK) (k pc i len : Nat) (l : List (Option Value)) (st : List Value) (w : xW) : xA := match st with
  | .long x :: rest => if i + 1 < xml k then F k (pc + len) (xst2 l i (.long x)) rest w else none
  | _ => none
def xinc (F : xK) (k pc i : Nat) (d : Int) (l : List (Option Value)) (st : List Value) (w : xW) : xA := match l[i]? with
  | some (some (.int x)) => if i < xml k then F k (pc + 3) (xst1 l i (.int (x + Int32.ofInt d))) st w else none
  | _ => none
def xi2 (F : xK) (f : Int32 → Int32 → Int32) (k pc : Nat) (l : List (Option Value)) (st : List Value) (w : xW) : xA := match st with
  | .int y :: .int x :: rest => F k (pc + 1) l (.int (f x y) :: rest) w
  | _ => none
def xl2 (F : xK) (f : Int64 → Int64 → Int64) (k pc : Nat) (l : List (Option Value)) (st : List Value) (w : xW) : xA := match st with
  | .long y :: .long x :: rest => F k (pc + 1) l (.long (f x y) :: rest) w
  | _ => none
def xid (F : xK) (f : Int32 → Int32 → Int32) (k pc : Nat) (l : List (Option Value)) (st : List Value) (w : xW) : xA := match st with
  | .int y :: .int x :: rest => if y = 0 then none else F k (pc + 1) l (.int (f x y) :: rest) w
  | _ => none
def xld (F : xK) (f : Int64 → Int64 → Int64) (k pc : Nat) (l : List (Option Value)) (st : List Value) (w : xW) : xA := match st with
  | .long y :: .long x :: rest => if y = 0 then none else F k (pc + 1) l (.long (f x y) :: rest) w
  | _ => none
def xlsh (F : xK) (f : Int64 → Int64 → Int64) (k pc : Nat) (l : List (Option Value)) (st : List Value) (w : xW) : xA := match st with
  | .int y :: .long x :: rest => F k (pc + 1) l (.long (f x (y.toInt64 &&& 63)) :: rest) w
  | _ => none
def xcmp1 (c : Jvm.ClassFile.Cond) (x : Int32) : Bool := match c with
  | .eq => decide (x = 0)
  | .ne => decide (¬ x = 0)
  | .lt => decide (x < 0)
  | .ge => decide (0 ≤ x)
  | .gt => decide (0 < x)
  | .le => decide (x ≤ 0)
def xcmp2 (c : Jvm.ClassFile.Cond) (x y : Int32) : Bool := match c with
  | .eq => decide (x = y)
  | .ne => decide (¬ x = y)
  | .lt => decide (x < y)
  | .ge => decide (y ≤ x)
  | .gt => decide (y < x)
  | .le => decide (x ≤ y)
/-- one instruction, and what the machine then comes to -/
def xins (F : xK) (k pc : Nat) (l : List (Option Value)) (st : List Value) (w : xW) (i : Instr) (len : Nat) : xA := match i with
  | .iconst n => if len = 1 then F k (pc + 1) l (.int (Int32.ofInt n) :: st) w else none
  | .bipush n => if len = 2 then F k (pc + 2) l (.int (Int8.ofInt n).toInt32 :: st) w else none
  | .sipush n => if len = 3 then F k (pc + 3) l (.int (Int16.ofInt n).toInt32 :: st) w else none
  | .lconst n => if len = 1 then F k (pc + 1) l (.long (Int64.ofNat (n : Nat)) :: st) w else none
  | .ldc ix => if len = 2 then match xsite k ix with
      | some (9, _, _, v) => F k (pc + 2) l (.int (Int32.ofInt v) :: st) w
      | _ => none
    else none
  | .ldc_w ix => if len = 3 then match xsite k ix with
      | some (9, _, _, v) => F k (pc + 3) l (.int (Int32.ofInt v) :: st) w
      | _ => none
    else none
  | .ldc2_w ix => if len = 3 then match xsite k ix with
      | some (10, _, _, v) => F k (pc + 3) l (.long (Int64.ofInt v) :: st) w
      | _ => none
    else none
  | .iload_n n => if len = 1 then xild F k pc n 1 l st w else none
  | .iload n => if len = 2 then xild F k pc n 2 l st w else none
  | .lload_n n => if len = 1 then xlld F k pc n 1 l st w else none
  | .lload n => if len = 2 then xlld F k pc n 2 l st w else none
  | .aload_n n => if len = 1 then xaldr F k pc n 1 l st w else none
  | .aload n => if len = 2 then xaldr F k pc n 2 l st w else none
  | .istore_n n => if len = 1 then xis F k pc n 1 l st w else none
  | .istore n => if len = 2 then xis F k pc n 2 l st w else none
  | .lstore_n n => if len = 1 then xls F k pc n 1 l st w else none
  | .lstore n => if len = 2 then xls F k pc n 2 l st w else none
  | .astore_n n => if len = 1 then xas F k pc n 1 l st w else none
  | .astore n => if len = 2 then xas F k pc n 2 l st w else none
  | .iinc n d => if len = 3 then xinc F k pc n d l st w else none
  | .iadd => if len = 1 then xi2 F (fun x y => x + y) k pc l st w else none
  | .isub => if len = 1 then xi2 F (fun x y => x - y) k pc l st w else none
  | .imul => if len = 1 then xi2 F (fun x y => x * y) k pc l st w else none
  | .iand => if len = 1 then xi2 F (fun x y => x &&& y) k pc l st w else none
  | .ior => if len = 1 then xi2 F (fun x y => x ||| y) k pc l st w else none
  | .ishr => if len = 1 then xi2 F (fun x y => x >>> (y &&& 31)) k pc l st w else none
  | .idiv => if len = 1 then xid F (fun x y => x / y) k pc l st w else none
  | .irem => if len = 1 then xid F (fun x y => x - x / y * y) k pc l st w else none
  | .ladd => if len = 1 then xl2 F (fun x y => x + y) k pc l st w else none
  | .lsub => if len = 1 then xl2 F (fun x y => x - y) k pc l st w else none
  | .lmul => if len = 1 then xl2 F (fun x y => x * y) k pc l st w else none
  | .land => if len = 1 then xl2 F (fun x y => x &&& y) k pc l st w else none
  | .lor => if len = 1 then xl2 F (fun x y => x ||| y) k pc l st w else none
  | .lxor => if len = 1 then xl2 F (fun x y => x ^^^ y) k pc l st w else none
  | .ldiv => if len = 1 then xld F (fun x y => x / y) k pc l st w else none
  | .lrem => if len = 1 then xld F (fun x y => x - x / y * y) k pc l st w else none
  | .lshl => if len = 1 then xlsh F (fun x y => x <<< y) k pc l st w else none
  | .lshr => if len = 1 then xlsh F (fun x y => x >>> y) k pc l st w else none
  | .ineg => if len = 1 then match st with
      | .int x :: rest => F k (pc + 1) l (.int (-x) :: rest) w
      | _ => none
    else none
  | .lneg => if len = 1 then match st with
      | .long x :: rest => F k (pc + 1) l (.long (-x) :: rest) w
      | _ => none
    else none
  | .i2l => if len = 1 then match st with
      | .int x :: rest => F k (pc + 1) l (.long x.toInt64 :: rest) w
      | _ => none
    else none
  | .l2i => if len = 1 then match st with
      | .long x :: rest => F k (pc + 1) l (.int x.toInt32 :: rest) w
      | _ => none
    else none
  | .lcmp => if len = 1 then match st with
      | .long y :: .long x :: rest => F k (pc + 1) l (.int (lg_cmp x y) :: rest) w
      | _ => none
    else none
  | .ifCond c off => if len = 3 then match st with
      | .int x :: rest => xbr F (xcmp1 c x) k pc off l rest w
      | _ => none
    else none
  | .if_icmp c off => if len = 3 then match st with
      | .int y :: .int x :: rest => xbr F (xcmp2 c x y) k pc off l rest w
      | _ => none
    else none
  | .goto off => if len = 3 then xjump F k pc off l st w else none
  | .tableswitch d lo hi offs => match st with
    | .int x :: rest => if x.toInt < lo ∨ hi < x.toInt then xjump F k pc d l rest w else match offs[(x.toInt - lo).toNat]? with
        | some off => xjump F k pc off l rest w
        | none => none
    | _ => none
  | .dup => if len = 1 then match st with
      | v :: rest => if v.category = 1 then F k (pc + 1) l (v :: v :: rest) w else none
      | _ => none
    else none
  | .dup2 => if len = 1 then match st with
      | v :: u :: rest => if v.category = 1 ∧ u.category = 1 then F k (pc + 1) l (v :: u :: v :: u :: rest) w else none
      | _ => none
    else none
  | .pop => if len = 1 then match st with
      | v :: rest => if v.category = 1 then F k (pc + 1) l rest w else none
      | _ => none
    else none
  | .getfield ix => if len = 3 then xgetf F k pc ix l st w else none
  | .putfield ix => if len = 3 then xputf F k pc ix l st w else none
  | .getstatic ix => if len = 3 then xgets F k pc ix l st w else none
  | .iaload => if len = 1 then xald F k pc l st w else none
  | .laload => if len = 1 then xlald F k pc l st w else none
  | .iastore => if len = 1 then xiast F k pc l st w else none
  | .lastore => if len = 1 then xlast F k pc l st w else none
  | .arraylength => if len = 1 then xalen F k pc l st w else none
  | .newarray t => if len = 2 then xnewa F k pc t l st w else none
  | .new ix => if len = 3 then xnew F k pc ix l st w else none
  | .invokevirtual ix => if len = 3 then xinvV F k pc ix l st w else none
  | .invokestatic ix => if len = 3 then xinvS F k pc ix l st w else none
  | .invokespecial ix => if len = 3 then xinvI F k pc ix l st w else none
  | .ireturn => if len = 1 then match st with
      | [.int v] => if xret k = some .int ∨ (xret k = some .boolean ∧ (v = 0 ∨ v = 1)) then some (some (.int v), w) else none
      | _ => none
    else none
  | .lreturn => if len = 1 then match st with
      | [.long v] => if xret k = some .long then some (some (.long v), w) else none
      | _ => none
    else none
  | .return_ => if len = 1 then match st with
      | [] => if xret k = none then some (none, w) else none
      | _ => none
    else none
  | _ => none
def xrun : Nat → xK
  | 0 => fun _ _ _ _ _ => none
  | n + 1 => fun k pc l st w => match xcode k pc with
    | some (i, len) => xins (xrun n) k pc l st w i len
    | none => none
/-- from this place the machine comes to this answer and this heap -/
def xGo (k pc : Nat) (l : List (Option Value)) (st : List Value) (w : xW) (r : Option Value × xW) : Prop := ∃ n, ∀ m, n ≤ m → xrun m k pc l st w = some r
/-- a call -/
def xCall (k : Nat) (as : List Value) (w : xW) (r : Option Value × xW) : Prop := xGo k 0 (xent (xml k) as) [] w r
end
section
/-! WHAT THE STATEMENT'S WORDS SAY OF THE TABLES -/
def xwords (own : String) (ix : Nat) (q : Nat × Nat × Nat × Int) : List Cond := match q with
  | (0, a, 0, _) => [.methodLink own ix (xy a), .instanceMethod (xy a), .selects (xy a).cls (xy a) (xy a), .initialized (xy a).cls]
  | (0, a, 1, _) => [.methodLink own ix (xy a), .static (xy a), .initialized (xy a).cls]
  | (0, a, 2, _) => [.methodLink own ix (xy a), .instanceMethod (xy a), .initialized (xy a).cls]
  | (1, a, 1, _) => [.methodLinkNest own ix (xy a) "BernoulliWays", .static (xy a), .initialized (xy a).cls]
  | (1, a, 2, _) => [.methodLinkNest own ix (xy a) "BernoulliWays", .instanceMethod (xy a), .initialized (xy a).cls]
  | (2, _, _, _) => [.methodLink own ix objectInit, .instanceMethod objectInit, .code objectInit ⟨#[0xb1]⟩ 1 none]
  | (3, _, _, _) => [.methodLink own ix arraycopyName, .native arraycopyName, .static arraycopyName, .initialized "java/lang/System"]
  | (4, a, b, _) => let f := (xfs.getD a []).getD b ("", "", "", false); [.fieldLink own ix f.1 f.2.1 f.2.2.1]
  | (6, _, _, _) => [.fieldLink own ix "BernoulliWays" "PRIMES" "[I"]
  | (7, _, _, _) => [.fieldLinkNest own ix "BernoulliWays" "PRIMES" "[I" "BernoulliWays"]
  | (8, a, _, _) => let C := xcn.getD a ""; [.classLink own ix C, .instantiable C (xfs.getD a []).length, .initialized C]
  | (9, _, _, v) => [.constant own ix (Int32.ofInt v)]
  | (10, _, _, v) => [.constantLong own ix (Int64.ofInt v)]
  | _ => []
def xchkS (c : Nat) : Bool := (xss.getD c []).length == (xps.getD c []).length && ((xss.getD c []).zip (xps.getD c [])).all fun q => decide (q.2.map (fun j => lw_tbl[j]?) = (xwords (xcn.getD c "") q.1.1 q.1.2).map some)
theorem x_s0 : xchkS 0 = true := by decide +kernel
theorem x_s1 : xchkS 1 = true := by decide +kernel
theorem x_s2 : xchkS 2 = true := by decide +kernel
theorem x_s3 : xchkS 3 = true := by decide +kernel
theorem x_s4 : xchkS 4 = true := by decide +kernel
theorem x_s5 : xchkS 5 = true := by decide +kernel
theorem x_s6 : xchkS 6 = true := by decide +kernel
theorem x_s7 : xchkS 7 = true := by decide +kernel
theorem x_s8 : xchkS 8 = true := by decide +kernel
theorem x_s9 : xchkS 9 = true := by decide +kernel
theorem x_s10 : xchkS 10 = true := by decide +kernel
theorem x_s11 : xchkS 11 = true := by decide +kernel
theorem x_s12 : xchkS 12 = true := by decide +kernel
theorem x_s13 : xchkS 13 = true := by decide +kernel
theorem x_s14 : xchkS 14 = true := by decide +kernel
/-- the words that a callee may take over from its caller -/
def xtbl : List Cond := lw_tbl.filter goodWord
theorem xtbl_of {w : Cond} {j : Nat} (h : lw_tbl[j]? = some w) (hg : goodWord w = true) : w ∈ xtbl := List.mem_filter.mpr ⟨List.mem_of_getElem? h, hg⟩
/-- of each method: its code is among the words; its own class; its parameters -/
def xcodeW (y : MethodName) (m : Nat) (r : Option FieldType) (w : Option Cond) : Bool := match w with
  | some (.code y' _ m' r') => decide (y' = y) && decide (m' = m) && decide (r' = r)
  | _ => false
def xcodeB (w : Option Cond) : ByteArray := match w with
  | some (.code _ b _ _) => b
  | _ => ⟨#[]⟩
def xchkM (k : Nat) : Bool := xcodeW (xy k) (xml k) (xret k) lw_tbl[xws.getD k 0]? && decide ((xy k).cls = xcn.getD (xown k) "") && plainFor (xy k) && decide ((xy k).cls ≠ "java/lang/invoke/MethodHandle") && decide ((xy k).cls ≠ "java/lang/invoke/VarHandle") && decide ((parseMethodDescriptor (xy k).desc).map (fun d => d.parameters.length) = some (xna k))
theorem x_m0 : (List.range 100).all xchkM = true := by decide +kernel
theorem x_m1 : ((List.range 100).map (· + 100)).all xchkM = true := by decide +kernel
theorem x_m2 : ((List.range 107).map (· + 200)).all xchkM = true := by decide +kernel
theorem x_mlen : xms.length = 307 := by decide +kernel
set_option maxRecDepth 100000 in
theorem x_b0 : xb_0 = xw_0.map (fun j => xcodeB lw_tbl[j]?) := by rfl
set_option maxRecDepth 100000 in
theorem x_b1 : xb_1 = xw_1.map (fun j => xcodeB lw_tbl[j]?) := by rfl
set_option maxRecDepth 100000 in
theorem x_b2 : xb_2 = xw_2.map (fun j => xcodeB lw_tbl[j]?) := by rfl
set_option maxRecDepth 100000 in
theorem x_b3 : xb_3 = xw_3.map (fun j => xcodeB lw_tbl[j]?) := by rfl
set_option maxRecDepth 100000 in
theorem x_b4 : xb_4 = xw_4.map (fun j => xcodeB lw_tbl[j]?) := by rfl
set_option maxRecDepth 100000 in
theorem x_b5 : xb_5 = xw_5.map (fun j => xcodeB lw_tbl[j]?) := by rfl
set_option maxRecDepth 100000 in
theorem x_b6 : xb_6 = xw_6.map (fun j => xcodeB lw_tbl[j]?) := by rfl
set_option maxRecDepth 100000 in
theorem x_b7 : xb_7 = xw_7.map (fun j => xcodeB lw_tbl[j]?) := by rfl
/-- of each class that has objects: what its fields are -/
def xchkC (c : Nat) : Bool := decide (((xlp.getD c []).map fun j => lw_tbl[j]?) = (u_ws (xcn.getD c "") (fun k => (xfs.getD c []).getD k ("", "", "", false)) (xfs.getD c []).length).map some) && decide ((xfs.getD c []).map (fun f => parseFieldDescriptor f.2.2.1) = (xts.getD c []).map some) && decide ((xts.getD c []).map defaultValue = xvs.getD c []) && ((List.range (xfs.getD c []).length).all fun a => (List.range (xfs.getD c []).length).all fun b => a == b || decide (((xfs.getD c []).getD a ("", "", "", false)).2.1 ≠ ((xfs.getD c []).getD b ("", "", "", false)).2.1)) && ((xts.getD c []).all fun t => match t with | .int => true | .long => true | .array _ => true | .object _ => true | _ => false)
theorem x_c : (List.range 15).all xchkC = true := by decide +kernel
end
section
/-! OUT OF THE TABLE FACTS -/
theorem x_lookup {α : Type} {ix : Nat} {q : α} : ∀ {L : List (Nat × α)}, L.lookup ix = some q → (ix, q) ∈ L
  | [], h => by simp at h
  | (a, b) :: L, h => by
    by_cases e : ix = a
    · subst e
      simp at h
      subst h
      exact List.mem_cons_self
    · rw [List.lookup_cons, show (ix == a) = false from by simpa using e] at h
      exact List.mem_cons_of_mem _ (x_lookup h)
theorem x_sAll : ∀ c, c < 15 → xchkS c = true := by
  intro c hc
  match c, hc with
  | 0, _ => exact x_s0
  | 1, _ => exact x_s1
  | 2, _ => exact x_s2
  | 3, _ => exact x_s3
  | 4, _ => exact x_s4
  | 5, _ => exact x_s5
  | 6, _ => exact x_s6
  | 7, _ => exact x_s7
  | 8, _ => exact x_s8
  | 9, _ => exact x_s9
  | 10, _ => exact x_s10
  | 11, _ => exact x_s11
  | 12, _ => exact x_s12
  | 13, _ => exact x_s13
  | 14, _ => exact x_s14
  | c + 15, h => omega
theorem x_siteW {k ix : Nat} {q : Nat × Nat × Nat × Int} (hk : xown k < 15) (h : xsite k ix = some q) : ∀ w ∈ xwords (xcn.getD (xown k) "") ix q, w ∈ lw_tbl := by
  have hc := x_sAll _ hk
  unfold xchkS at hc
  rw [Bool.and_eq_true] at hc
  have hm := x_lookup h
  obtain ⟨i, hi⟩ := List.getElem?_of_mem hm
  have hl : i < (xss.getD (xown k) []).length := (List.getElem?_eq_some_iff.mp hi).1
  have hl2 : i < (xps.getD (xown k) []).length := by
    have := hc.1
    rw [beq_iff_eq] at this
    omega
  have hz : ((xss.getD (xown k) []).zip (xps.getD (xown k) []))[i]? = some ((ix, q), (xps.getD (xown k) [])[i]) := by
    rw [List.getElem?_zip_eq_some]
    exact ⟨hi, List.getElem?_eq_getElem hl2⟩
  have hd := List.all_eq_true.mp hc.2 _ (List.mem_of_getElem? hz)
  have hd := of_decide_eq_true hd
  intro w hw
  have h1 : some w ∈ (xwords (xcn.getD (xown k) "") ix q).map some := List.mem_map.mpr ⟨w, hw, rfl⟩
  rw [← hd] at h1
  obtain ⟨j, -, hj⟩ := List.mem_map.mp h1
  exact List.mem_of_getElem? hj
theorem x_mAll : ∀ k, k < 307 → xchkM k = true := by
  intro k hk
  by_cases h0 : k < 100
  · exact List.all_eq_true.mp x_m0 k (List.mem_range.mpr h0)
  · by_cases h1 : k < 200
    · exact List.all_eq_true.mp x_m1 k (List.mem_map.mpr ⟨k - 100, List.mem_range.mpr (by omega), by omega⟩)
    · exact List.all_eq_true.mp x_m2 k (List.mem_map.mpr ⟨k - 200, List.mem_range.mpr (by omega), by omega⟩)
theorem x_bAll : xbs = xws.map (fun j => xcodeB lw_tbl[j]?) := by
  unfold xbs xws
  simp only [List.map_append]
  rw [← x_b0, ← x_b1, ← x_b2, ← x_b3, ← x_b4, ← x_b5, ← x_b6, ← x_b7]
theorem x_wlen : xws.length = 307 := by decide +kernel
theorem x_code {k : Nat} (hk : k < 307) : Cond.code (xy k) (xb k) (xml k) (xret k) ∈ lw_tbl := by
  have h := x_mAll k hk
  unfold xchkM at h
  simp only [Bool.and_eq_true] at h
  have h1 := h.1.1.1.1.1
  have hb : xb k = xcodeB lw_tbl[xws.getD k 0]? := by
    unfold xb
    rw [x_bAll]
    simp [List.getD_eq_getElem?_getD, List.getElem?_map, x_wlen, hk]
  unfold xcodeW at h1
  split at h1
  · rename_i w y' b' m' r' e
    simp only [Bool.and_eq_true, decide_eq_true_eq] at h1
    obtain ⟨⟨rfl, rfl⟩, rfl⟩ := h1
    rw [e] at hb
    rw [show xb k = b' from hb]
    exact List.mem_of_getElem? e
  · cases h1
theorem x_name {k : Nat} (hk : k < 307) : (xy k).cls = xcn.getD (xown k) "" ∧ plainFor (xy k) = true ∧ ((xy k).cls ≠ "java/lang/invoke/MethodHandle" ∧ (xy k).cls ≠ "java/lang/invoke/VarHandle" ∧ (parseMethodDescriptor (xy k).desc).map (fun d => d.parameters.length) = some (xna k)) := by
  have h := x_mAll k hk
  unfold xchkM at h
  simp only [Bool.and_eq_true, decide_eq_true_eq] at h
  exact ⟨h.1.1.1.1.2, h.1.1.1.2, h.1.1.2, h.1.2, h.2⟩
theorem x_ownLt : ∀ k, k < 307 → xown k < 15 := by
  intro k hk
  have h : (List.range 307).all (fun k => decide (xown k < 15)) = true := by decide +kernel
  simpa using List.all_eq_true.mp h k (List.mem_range.mpr hk)
def xFc (ci : Nat) : u_T := fun k => (xfs.getD ci []).getD k ("", "", "", false)
def xNc (ci : Nat) : Nat := (xfs.getD ci []).length
theorem x_cl : ∀ ci, ci < 15 → xcl[ci]? = some (xcn.getD ci "", xFc ci, xNc ci) := by
  intro c hc
  match c, hc with
  | 0, _ => rfl
  | 1, _ => rfl
  | 2, _ => rfl
  | 3, _ => rfl
  | 4, _ => rfl
  | 5, _ => rfl
  | 6, _ => rfl
  | 7, _ => rfl
  | 8, _ => rfl
  | 9, _ => rfl
  | 10, _ => rfl
  | 11, _ => rfl
  | 12, _ => rfl
  | 13, _ => rfl
  | 14, _ => rfl
  | c + 15, h => omega
theorem x_clOf {ci : Nat} {r : vw_C} (h : xcl[ci]? = some r) : ci < 15 := by
  have := (List.getElem?_eq_some_iff.mp h).1
  exact this
/-- what a class's check says: the words of its fields, their types, that their names differ, what they are at first -/
theorem x_cls {ci : Nat} (h : ci < 15) : (∀ w ∈ u_ws (xcn.getD ci "") (xFc ci) (xNc ci), w ∈ lw_tbl) ∧ (xfs.getD ci []).map (fun f => parseFieldDescriptor f.2.2.1) = (xts.getD ci []).map some ∧ (xts.getD ci []).map defaultValue = xvs.getD ci [] ∧ (∀ a, a < xNc ci → ∀ b, b < xNc ci → a ≠ b → (xFc ci a).2.1 ≠ (xFc ci b).2.1) := by
  have h := List.all_eq_true.mp x_c ci (List.mem_range.mpr h)
  unfold xchkC at h
  simp only [Bool.and_eq_true, decide_eq_true_eq] at h
  obtain ⟨⟨⟨⟨h1, h2⟩, h3⟩, h4⟩, -⟩ := h
  refine ⟨fun w hw => ?_, h2, h3, fun a ha b hb hab => ?_⟩
  · have q : some w ∈ (u_ws (xcn.getD ci "") (fun k => (xfs.getD ci []).getD k ("", "", "", false)) (xfs.getD ci []).length).map some := List.mem_map.mpr ⟨w, hw, rfl⟩
    rw [← h1] at q
    obtain ⟨j, -, hj⟩ := List.mem_map.mp q
    exact List.mem_of_getElem? hj
  · have q := List.all_eq_true.mp (List.all_eq_true.mp h4 a (List.mem_range.mpr ha)) b (List.mem_range.mpr hb)
    simp only [Bool.or_eq_true, beq_iff_eq, decide_eq_true_eq] at q
    exact q.resolve_left hab
theorem x_good_lays {C : String} {T : u_T} {N : Nat} : ∀ w ∈ u_ws C T N, goodWord w = true := by
  intro w hw
  obtain ⟨j, -, rfl⟩ := List.mem_map.mp hw
  unfold u_lay
  split <;> rfl
theorem xtbl_in {w : Cond} (h : w ∈ lw_tbl) (hg : goodWord w = true) : w ∈ xtbl := List.mem_filter.mpr ⟨h, hg⟩
theorem x_typ {ci : Nat} (h : ci < 15) {k : Nat} {ty : FieldType} (ht : (xts.getD ci [])[k]? = some ty) : parseFieldDescriptor (xFc ci k).2.2.1 = some ty := by
  have h2 := (x_cls h).2.1
  have e : ((xfs.getD ci []).map (fun f => parseFieldDescriptor f.2.2.1))[k]? = some (some ty) := by rw [h2, List.getElem?_map, ht]; rfl
  rw [List.getElem?_map] at e
  unfold xFc
  cases hf : (xfs.getD ci [])[k]? with
  | none => rw [hf] at e; cases e
  | some f =>
    rw [hf] at e
    rw [List.getD_eq_getElem?_getD, hf]
    exact Option.some.inj e
theorem x_tlen {ci : Nat} (h : ci < 15) : (xts.getD ci []).length = xNc ci := by
  have h2 := congrArg List.length (x_cls h).2.1
  simp only [List.length_map] at h2
  exact h2.symm
theorem x_vlen {ci : Nat} (h : ci < 15) : (xvs.getD ci []).length = xNc ci := by
  have h2 := congrArg List.length (x_cls h).2.2.1
  simp only [List.length_map] at h2
  exact h2.symm.trans (x_tlen h)
/-- the type of a field -/
def xTy (ci k : Nat) : FieldType := (xts.getD ci []).getD k .int
theorem x_tyOk {ci : Nat} (h : ci < 15) : ∀ k, k < xNc ci → parseFieldDescriptor (xFc ci k).2.2.1 = some (xTy ci k) := by
  intro k hk
  have hl : k < (xts.getD ci []).length := by rw [x_tlen h]; exact hk
  refine x_typ h ?_
  unfold xTy
  generalize xts.getD ci [] = L at hl ⊢
  simp [List.getD_eq_getElem?_getD, hl]
end
section
/-! THE PURE HEAP IN THE MACHINE'S: pure references by ad -/
def xtv (ad : Nat → Nat) (v : Value) : Value := match v with
  | .ref i => .ref (ad i)
  | v => v
def xte (cI cL : ClassId) (ad : Nat → Nat) (c : xC) : va_E := match c with
  | .inl (.inl a) => .inl (cI, a.1, .inl a.2)
  | .inl (.inr a) => .inl (cL, a.1, .inr (.inl a.2))
  | .inr o => .inr (o.1, o.2.map (xtv ad))
def xtw (cI cL : ClassId) (ad : Nat → Nat) (w : xW) : va_W := w.mapIdx (fun i c => (ad i, xte cI cL ad c))
theorem xtw_get {cI cL : ClassId} {ad : Nat → Nat} {w : xW} {i : Nat} {c : xC} (h : w[i]? = some c) : (xtw cI cL ad w)[i]? = some (ad i, xte cI cL ad c) := by
  unfold xtw
  rw [List.getElem?_mapIdx, h]
  rfl
theorem xtw_set {cI cL : ClassId} {ad : Nat → Nat} {w : xW} {i : Nat} {c : xC} : xtw cI cL ad (w.set i c) = (xtw cI cL ad w).set i (ad i, xte cI cL ad c) := by
  apply List.ext_getElem?
  intro j
  unfold xtw
  rw [List.getElem?_mapIdx, List.getElem?_set, List.getElem?_set, List.getElem?_mapIdx]
  by_cases h : i = j
  · subst h
    rw [if_pos rfl, if_pos rfl]
    by_cases hl : i < w.length
    · rw [if_pos hl, if_pos (by simpa using hl)]
      rfl
    · rw [if_neg hl, if_neg (by simpa using hl)]
      rfl
  · rw [if_neg h, if_neg h]
theorem xtw_app {cI cL : ClassId} {ad : Nat → Nat} {w : xW} {c : xC} : xtw cI cL ad (w ++ [c]) = xtw cI cL ad w ++ [(ad w.length, xte cI cL ad c)] := by
  unfold xtw
  rw [List.mapIdx_append]
  simp
theorem xtv_cat {ad : Nat → Nat} (v : Value) : (xtv ad v).category = v.category := by cases v <;> rfl
theorem xtv_cats {ad : Nat → Nat} (vs : List Value) : ((vs.map (xtv ad)).map fun v => v.category) = vs.map fun v => v.category := by
  rw [List.map_map]
  exact List.map_congr_left fun v _ => xtv_cat v
theorem xsl_set {w : xW} {i : Nat} {c c' : xC} (h : w[i]? = some c) (hs : xsz c' = xsz c) : xsl (w.set i c') = xsl w := by
  unfold xsl
  induction w generalizing i with
  | nil => simp at h
  | cons a w ih =>
    cases i with
    | zero =>
      simp at h
      subst h
      simp [hs]
    | succ i =>
      simp at h
      simp only [List.set_cons_succ, List.map_cons, List.sum_cons]
      rw [ih h]
theorem xsl_app {w : xW} {c : xC} : xsl (w ++ [c]) = xsl w + xsz c := by simp [xsl]
/-- locals -/
def xLoc (ad : Nat → Nat) (ls : Array Slot) (n : Nat) (ll : List (Option Value)) : Prop := ls.size = n ∧ lv_wf ls ∧ ∀ (i : Nat) (v : Value), ll[i]? = some (some v) → ls[i]? = some (.val (xtv ad v))
theorem xLoc.get {ad : Nat → Nat} {ls : Array Slot} {n i : Nat} {ll : List (Option Value)} {v : Value} (h : xLoc ad ls n ll) (hi : ll[i]? = some (some v)) : ls[i]? = some (.val (xtv ad v)) := h.2.2 i v hi
/-- the places that hold something, as a list -/
def xasc (ad : Nat → Nat) (ll : List (Option Value)) : List (Nat × Value) := (List.range ll.length).filterMap fun i => match ll[i]? with
  | some (some v) => some (i, xtv ad v)
  | _ => none
theorem xasc_mem {ad : Nat → Nat} {ll : List (Option Value)} {i : Nat} {v : Value} (h : ll[i]? = some (some v)) : (i, xtv ad v) ∈ xasc ad ll := by
  unfold xasc
  rw [List.mem_filterMap]
  exact ⟨i, List.mem_range.mpr (List.getElem?_eq_some_iff.mp h).1, by rw [h]⟩
theorem xasc_of {ad : Nat → Nat} {ll : List (Option Value)} {q : Nat × Value} (h : q ∈ xasc ad ll) : ∃ v, ll[q.1]? = some (some v) ∧ q.2 = xtv ad v := by
  unfold xasc at h
  obtain ⟨i, -, hi⟩ := List.mem_filterMap.mp h
  split at hi
  · rename_i v e
    cases hi
    exact ⟨v, e, rfl⟩
  · cases hi
theorem xLoc.has {ad : Nat → Nat} {ls : Array Slot} {n : Nat} {ll : List (Option Value)} (h : xLoc ad ls n ll) : lv_has ls n (xasc ad ll) := by
  refine ⟨h.1, h.2.1, fun q hq => ?_⟩
  obtain ⟨v, h1, h2⟩ := xasc_of hq
  rw [h2]
  exact h.2.2 _ _ h1
theorem xclr_get {ll : List (Option Value)} {i j : Nat} {v : Value} (h : (xclr ll i)[j]? = some (some v)) : ll[j]? = some (some v) ∧ ¬ (j + 1 = i ∧ v.category = 2) := by
  unfold xclr at h
  split at h
  · exact ⟨h, by omega⟩
  · rename_i i
    split at h
    · rename_i u e
      split at h
      · rename_i hu
        rw [List.getElem?_set] at h
        split at h
        · split at h <;> cases h
        · rename_i hne
          exact ⟨h, by omega⟩
      · rename_i hu
        refine ⟨h, fun q => hu ?_⟩
        have hj : j = i := by omega
        subst hj
        rw [e] at h
        cases h
        exact q.2
    · rename_i hn
      refine ⟨h, fun q => ?_⟩
      have hj : j = i := by omega
      subst hj
      exact hn v h
theorem xLoc.st1 {ad : Nat → Nat} {ls' : Array Slot} {n i : Nat} {ll : List (Option Value)} {v u : Value} (hu : u = xtv ad v) (h : lv_has ls' n ((i, u) :: (xasc ad ll).filter (fun q => !(q.1 == i) && !(q.1 + 1 == i && q.2.category == 2)))) : xLoc ad ls' n (xst1 ll i v) := by
  refine ⟨h.1, h.2.1, fun j x hj => ?_⟩
  unfold xst1 at hj
  rw [List.getElem?_set] at hj
  split at hj
  · rename_i e
    split at hj
    · cases hj
      rw [← hu, ← e]
      exact h.2.2 (i, u) List.mem_cons_self
    · cases hj
  · rename_i e
    obtain ⟨h1, h2⟩ := xclr_get hj
    refine h.2.2 (j, xtv ad x) (List.mem_cons_of_mem _ (List.mem_filter.mpr ⟨xasc_mem h1, ?_⟩))
    have e1 : (j == i) = false := by simpa using fun q => e q.symm
    simp only [e1, Bool.not_false, Bool.true_and, Bool.not_eq_true', Bool.and_eq_false_iff, beq_eq_false_iff_ne, ne_eq]
    rw [xtv_cat]
    by_cases q : j + 1 = i
    · exact Or.inr fun z => h2 ⟨q, z⟩
    · exact Or.inl q
theorem xLoc.st2 {ad : Nat → Nat} {ls' : Array Slot} {n i : Nat} {ll : List (Option Value)} {v u : Value} (hu : u = xtv ad v) (h : lv_has ls' n ((i, u) :: (xasc ad ll).filter (fun q => !(q.1 == i) && (!(q.1 == i + 1) && !(q.1 + 1 == i && q.2.category == 2))))) : xLoc ad ls' n (xst2 ll i v) := by
  refine ⟨h.1, h.2.1, fun j x hj => ?_⟩
  unfold xst2 at hj
  rw [List.getElem?_set] at hj
  split at hj
  · split at hj <;> cases hj
  · rename_i e2
    rw [List.getElem?_set] at hj
    split at hj
    · rename_i e
      split at hj
      · cases hj
        rw [← hu, ← e]
        exact h.2.2 (i, u) List.mem_cons_self
      · cases hj
    · rename_i e
      obtain ⟨h1, h2⟩ := xclr_get hj
      refine h.2.2 (j, xtv ad x) (List.mem_cons_of_mem _ (List.mem_filter.mpr ⟨xasc_mem h1, ?_⟩))
      have e1 : (j == i) = false := by simpa using fun q => e q.symm
      have e3 : (j == i + 1) = false := by simpa using fun q => e2 q.symm
      simp only [e1, e3, Bool.not_false, Bool.true_and, Bool.not_eq_true', Bool.and_eq_false_iff, beq_eq_false_iff_ne, ne_eq]
      rw [xtv_cat]
      by_cases q : j + 1 = i
      · exact Or.inr fun z => h2 ⟨q, z⟩
      · exact Or.inl q
theorem xent1_args {ad : Nat → Nat} : ∀ (vs : List Value) (o i : Nat) (v : Value), (xent1 vs)[i]? = some (some v) → (o + i, xtv ad v) ∈ lv_args o (vs.map (xtv ad))
  | [], _, _, _, h => by simp [xent1] at h
  | u :: vs, o, i, v, h => by
    unfold xent1 at h
    rw [List.map_cons]
    unfold lv_args
    rw [xtv_cat]
    split at h
    · rename_i hc
      rw [if_pos hc]
      match i, h with
      | 0, h =>
        simp at h
        subst h
        exact List.mem_cons_self
      | 1, h => simp at h
      | i + 2, h =>
        simp at h
        have := xent1_args (ad := ad) vs (o + 2) i v h
        rw [show o + 2 + i = o + (i + 2) by omega] at this
        exact List.mem_cons_of_mem _ this
    · rename_i hc
      rw [if_neg hc]
      match i, h with
      | 0, h =>
        simp at h
        subst h
        exact List.mem_cons_self
      | i + 1, h =>
        simp at h
        have := xent1_args (ad := ad) vs (o + 1) i v h
        rw [show o + 1 + i = o + (i + 1) by omega] at this
        exact List.mem_cons_of_mem _ this
theorem xent1_len {ad : Nat → Nat} : ∀ (vs : List Value), (lg_sl (vs.map (xtv ad))).length = (xent1 vs).length
  | [] => rfl
  | v :: vs => by
    have ih := xent1_len (ad := ad) vs
    unfold lg_sl at ih ⊢
    rw [List.map_cons, List.flatMap_cons, List.length_append, ih, xtv_cat]
    show _ = (if v.category = 2 then some v :: none :: xent1 vs else some v :: xent1 vs).length
    by_cases hc : v.category = 2
    · rw [if_pos hc, if_pos hc]
      simp
      omega
    · rw [if_neg hc, if_neg hc]
      simp
      omega
/-- at a method's entry -/
theorem xLoc.entry {ad : Nat → Nat} {vs : List Value} {n : Nat} (h : (xent1 vs).length ≤ n) : xLoc ad (lg_sl (vs.map (xtv ad)) ++ List.replicate (n - (lg_sl (vs.map (xtv ad))).length) Slot.unset).toArray n (xent n vs) := by
  have hl := lv_entry (vs.map (xtv ad)) (n := n) (by rw [xent1_len]; exact h)
  refine ⟨hl.1, hl.2.1, fun i v hi => ?_⟩
  unfold xent at hi
  rw [List.getElem?_append] at hi
  split at hi
  · have := xent1_args (ad := ad) vs 0 i v hi
    rw [Nat.zero_add] at this
    exact hl.2.2 _ this
  · rw [List.getElem?_replicate] at hi
    split at hi <;> cases hi
/-- the pure heap w stands in the machine's heap H -/
def xOK (D : va_G) (cI cL : ClassId) (ad : Nat → Nat) (A : Nat → Prop) (H0 : Heap) (w : xW) (H : Heap) (locs : List Loc) (cells : Nat) : Prop :=
  va_P D xcl (xtw cI cL ad w) H ∧ va_D A (xtw cI cL ad w) ∧ va_S A H0 H locs ∧ w.length < xP ∧ (∀ j, w.length + j < xP → ad (w.length + j) = H.size + j) ∧ H.size = H0.size + cells
abbrev xTys (cI cL : ClassId) : List (ClassId × FieldType) := [(cI, .int), (cL, .long)]
def xisNest : Cond → Bool
  | .methodLinkNest .. => true
  | .fieldLinkNest .. => true
  | _ => false
/-- the row of primes, the words of nest mates -/
def xSt (t : Nat) (A : Nat → Prop) (U : State) (H : Heap) : Prop := va_Z "BernoulliWays" "PRIMES" "[I" (.ref t) A U H ∧ va_T .int t 46 (fun j => .int (xpr j)) A U H ∧ ∀ w ∈ lw_tbl, xisNest w = true → va_Nw w U
def xTs (k : Nat) : List Cond := Cond.code (xy k) (xb k) (xml k) (xret k) :: xtbl
/-- what holds all through a method's run -/
def xCx (p : Program) (s : State) (m : MethodId) (args : Array Value) (meth : Method) (c : Code) (k : Nat) (D : va_G) (cI cL : ClassId) (ad : Nat → Nat) (A : Nat → Prop) : Prop :=
  p.tables.exec = Jvm.exec ∧ c.code = xb k ∧ meth.sig.returnType = xret k ∧ c.maxLocals = xml k ∧ meth.locks = false ∧ s.vm.findClass (xcn.getD (xown k) "") = some m.cls ∧ (∀ w ∈ xTs k, w.before args s = true) ∧ meth.name = (xy k).name ∧ k < 307 ∧ va_K D xcl (xTys cI cL) s ∧ (∀ q, s.heap.size ≤ q → A q) ∧ xSt (ad xP) A s s.heap
/-- behind a method -/
def xB (D : va_G) (cI cL : ClassId) (ad : Nat → Nat) (A : Nat → Prop) (w' : xW) (t : State) : Prop := va_P D xcl (xtw cI cL ad w') t.heap ∧ va_K D xcl (xTys cI cL) t ∧ va_D A (xtw cI cL ad w') ∧ w'.length < xP ∧ ∀ j, w'.length + j < xP → ad (w'.length + j) = t.heap.size + j
def xPost (D : va_G) (cI cL : ClassId) (ad : Nat → Nat) (A : Nat → Prop) (v : Option Value) (w' : xW) : Array Value → State → Outcome → State → Prop := fun _ st oc t => oc = .returned (v.map (xtv ad)) ∧ xB D cI cL ad A w' t ∧ va_F A st t
def xPre (D : va_G) (cI cL : ClassId) (ad : Nat → Nat) (as : List Value) (w : xW) (sz : Nat) : Array Value → State → Prop := va_Pc (as.map (xtv ad)) (fun U => U.heap.size = sz ∧ va_P D xcl (xtw cI cL ad w) U.heap ∧ va_K D xcl (xTys cI cL) U ∧ va_D (fun _ => True) (xtw cI cL ad w) ∧ w.length < xP ∧ (∀ j, w.length + j < xP → ad (w.length + j) = sz + j) ∧ xSt (ad xP) (va_A (xtw cI cL ad w) sz) U U.heap)
abbrev xRm (k mc ms : Nat) : Room := { frames := xfr k, cells := mc, slots := ms, locals := xlo k }
/-- from here the machine comes to this answer and this heap -/
def xSnd (l : Launch) (D : va_G) (cI cL : ClassId) (k pc : Nat) (ll : List (Option Value)) (st : List Value) (w : xW) (v : Option Value) (w' : xW) : Prop :=
  (w.length ≤ w'.length ∧ xsl w ≤ xsl w') ∧ ∀ {p : Program} {e : Env} {s : State} {m : MethodId} {args : Array Value} {below : List Frame} {meth : Method} {c : Code} {A : Nat → Prop} {ad : Nat → Nat} {mc ms cells slots N0 S0 : Nat} {H : Heap} {locs : List Loc} {ls : Array Slot},
    xCx p s m args meth c k D cI cL ad A → xOK D cI cL ad A s.heap w H locs cells → xLoc ad ls (xml k) ll → cells + N0 = w.length → mc + N0 = w'.length → slots + S0 = xsl w → ms + S0 = xsl w' →
    W p l e (xRm k mc ms) s m args below meth c H locs cells slots (MQ below (xPost D cI cL ad A v w') args s mc ms A) (F0 m pc ls (st.map (xtv ad)))
end
section
/-! ROWS OVER THE PURE HEAP -/
section XR
variable {p : Program} {l : Launch} {e : Env} {R : Room} {s : State} {m : MethodId} {args : Array Value} {below : List Frame} {meth : Method} {c : Code} {H : Heap} {locs : List Loc} {cells slots : Nat} {Q : State → Prop}
variable {D : va_G} {cI cL : ClassId} {ad : Nat → Nat} {A : Nat → Prop} {H0 : Heap} {w : xW}
/-- the machine's own count of new cells bounds the heap -/
theorem x_sz {H1 : Heap} {locs1 : List Loc} {g : JFrame} (hlow : s.heap.size + cells ≤ H1.size) (kk : H1.size = s.heap.size + cells → W p l e R s m args below meth c H1 locs1 cells slots Q g) : W p l e R s m args below meth c H1 locs1 cells slots Q g := by
  intro T hT X
  refine kk (Nat.le_antisymm ?_ hlow) T hT X
  have h := X.same.2.2.1
  have h2 : T.heap.size ≤ s.heap.size + cells := h
  rw [hT] at h2
  exact h2
theorem xOK.here (O : xOK D cI cL ad A H0 w H locs cells) : va_S A H H locs := ⟨Nat.le_refl _, fun _ _ _ => rfl, O.2.2.1.2.2⟩
theorem xOK.trans {H1 : Heap} {locs1 : List Loc} (O : xOK D cI cL ad A H0 w H locs cells) (hS : va_S A H H1 locs1) : va_S A H0 H1 locs1 := by
  obtain ⟨h1, h2, h3⟩ := O.2.2.1
  exact ⟨Nat.le_trans h1 hS.1, fun q hq hA => (hS.2.1 q (Nat.lt_of_lt_of_le hq h1) hA).trans (h2 q hq hA), hS.2.2⟩
/-- a cell is written -/
theorem xOK.store {a : Nat} {c' : xC} {H1 : Heap} {locs1 : List Loc} (O : xOK D cI cL ad A H0 w H locs cells) (hP : va_P D xcl ((xtw cI cL ad w).set a (ad a, xte cI cL ad c')) H1) (hD : va_D A ((xtw cI cL ad w).set a (ad a, xte cI cL ad c'))) (hS : va_S A H H1 locs1) (hz : H1.size = H0.size + cells) : xOK D cI cL ad A H0 (w.set a c') H1 locs1 cells := by
  refine ⟨by rw [xtw_set]; exact hP, by rw [xtw_set]; exact hD, O.trans hS, by rw [List.length_set]; exact O.2.2.2.1, fun j hj => ?_, hz⟩
  rw [List.length_set] at hj ⊢
  rw [O.2.2.2.2.1 j hj, hz, O.2.2.2.2.2]
/-- a cell is made -/
theorem xOK.push {c' : xC} {H1 : Heap} (O : xOK D cI cL ad A H0 w H locs cells) (hA : ∀ q, H0.size ≤ q → A q) (hlt : w.length + 1 < xP) (hc : va_at D xcl (H.size, xte cI cL ad c') H1) (hz : H1.size = H.size + 1) (oq : ∀ q, q < H.size → H1[q]? = H[q]?) : ad w.length = H.size ∧ xOK D cI cL ad A H0 (w ++ [c']) H1 locs (cells + 1) := by
  obtain ⟨hP, hD, hS, hle, had, hsz⟩ := O
  have e0 : ad w.length = H.size := by
    have := had 0 (by omega)
    simpa using this
  have hk : ∀ (k : Nat) (x : Nat × va_E), (xtw cI cL ad w)[k]? = some x → H1[x.1]? = H[x.1]? := fun k x hx => oq x.1 ((hP k x hx).lt)
  refine ⟨e0, ?_, ?_, ⟨Nat.le_trans hS.1 (by omega), fun x h1 h2 => (oq x (Nat.lt_of_lt_of_le h1 hS.1)).trans (hS.2.1 x h1 h2), hS.2.2⟩, by rw [List.length_append]; simp; omega, fun j hj => ?_, by omega⟩
  · rw [xtw_app, e0]
    refine (hP.kept hk).app fun k x hx => ?_
    have hz : k < 1 := (List.getElem?_eq_some_iff.mp hx).1
    rw [show k = 0 by omega] at hx
    cases hx
    exact hc
  · rw [xtw_app, e0]
    exact hD.push hP rfl (hA _ hS.1)
  · rw [List.length_append] at hj ⊢
    simp only [List.length_singleton] at hj ⊢
    rw [show w.length + 1 + j = w.length + (1 + j) by omega, had (1 + j) (by omega), hz]
    omega
theorem xOK.sub (O : xOK D cI cL ad A H0 w H locs cells) (hA : ∀ q, H0.size ≤ q → A q) : ∀ q, va_A (xtw cI cL ad w) H.size q → A q := by
  intro q h
  rcases h with ⟨k, e, h⟩ | h
  · exact O.2.1.2 k (q, e) h
  · exact hA q (Nat.le_trans O.2.2.1.1 h)
theorem xNw.warm {U : State} {w : Cond} (hn : xisNest w = true) (hW : s.WarmedH U.vm) (h : va_Nw w s) : va_Nw w U := by
  cases w with
  | methodLinkNest a i x h0 => exact va_Nw.warmM hW h
  | fieldLinkNest a i b n d h0 => exact va_Nw.warmF hW h
  | _ => cases hn
theorem xNw.tab {w : Cond} (hn : xisNest w = true) : w.onTables = true := by
  cases w with
  | methodLinkNest a i x h0 => rfl
  | fieldLinkNest a i b n d h0 => rfl
  | _ => cases hn
theorem xSt.to {t : Nat} {B : Nat → Prop} {U : State} (h : xSt t A s H0) (hW : s.WarmedH U.vm) (hk : ∀ a : Nat, a < H0.size → ¬ A a → H[a]? = H0[a]?) (hs : ∀ q, B q → A q) : xSt t B U H :=
  ⟨(va_Z.moved hW.alike (h.1.kept hk)).narrow hs, (va_T.moved hW.alike (h.2.1.kept hk)).narrow hs, fun w hw hn => xNw.warm hn hW (h.2.2 w hw hn)⟩
theorem xPre.blind {as : List Value} {sz : Nat} : FrameBlind (xPre D cI cL ad as w sz) := by
  intro a U g mk q
  obtain ⟨q0, q1, qP, qK, qD, ql, qa, qZ, qT, qN⟩ := q
  exact ⟨q0, q1, qP, va_K.moved (u := U) (U := U.calling g mk a) (Vm.Alike.refl U.vm) qK, qD, ql, qa, va_Z.moved (u := U) (U := U.calling g mk a) (Vm.Alike.refl U.vm) qZ, va_T.moved (u := U) (U := U.calling g mk a) (Vm.Alike.refl U.vm) qT, fun w hw hn => va_Nw.same (u := U) (U := U.calling g mk a) (xNw.tab hn) rfl (qN w hw hn)⟩
/-- behind a call, whatever it answers -/
theorem x_call {pc : Nat} {ls : Array Slot} {rest st0 : List Value} {a : Array Value} {A0 A1 : Nat → Prop} {mc ms : Nat} {v : Option Value} {w' : xW} {free : Addr → Prop}
    (hr : va_Run p l e R s m args below meth c H locs cells slots mc ms (F0 m pc ls st0) rest (xPost D cI cL ad A1 v w' a) free) (hS : va_S A0 H0 H locs) (hA : ∀ q, q < H.size → A1 q → A0 q) (hf : ∀ q, free q → A0 q)
    (kk : ∀ (t : State) (H1 : Heap) (locs1 : List Loc), t.heap = H1 → xB D cI cL ad A1 w' t → va_S A0 H0 H1 locs1 → W p l e R s m args below meth c H1 locs1 (cells + mc) (slots + ms) Q (F0 m (pc + 3) ls ((v.map (xtv ad)).toList ++ rest))) : W p l e R s m args below meth c H locs cells slots Q (F0 m pc ls st0) := by
  intro T hT X
  obtain ⟨v', st₀, t, T', L, h0, X', hL, e1, e2, ⟨hv, hB, hz, hk⟩, st⟩ := hr T hT X
  cases hv
  rw [h0] at hz hk
  have hS1 : va_S A0 H0 T'.heap (locs ++ L) := by
    refine ⟨Nat.le_trans hS.1 (by rw [e1]; exact hz), fun q h1 h2 => ?_, fun q hq => ?_⟩
    · rw [e1, hk q (Nat.lt_of_lt_of_le h1 hS.1) (fun z => h2 (hA q (Nat.lt_of_lt_of_le h1 hS.1) z))]
      exact hS.2.1 q h1 h2
    · rcases List.mem_append.mp hq with h | h
      · exact hS.2.2 q h
      · exact hf _ (hL q h)
  obtain ⟨t2, a1, b1⟩ := kk t T'.heap (locs ++ L) e1.symm hB hS1 T' rfl X'
  exact ⟨t2, st t2 a1, b1⟩
end XR
/-- a run of the pure machine is a contract of the method -/
theorem x_met {l : Launch} {D : va_G} {cI cL : ClassId} {z : Nat} {as : List Value} {w w1 : xW} {v1 : Option Value} (hS : xSnd l D cI cL z 0 (xent (xml z) as) [] w v1 w1) (hz : z < 307) (hent : (xent1 as).length ≤ xml z) (ad : Nat → Nat) (sz : Nat) {mc ms : Nat} (h1 : mc + w.length = w1.length) (h2 : ms + xsl w = xsl w1) :
    Met l (xy z) (xTs z) (xRm z mc ms) (xPre D cI cL ad as w sz) (xPost D cI cL ad (va_A (xtw cI cL ad w) sz) v1 w1) mc ms (va_A (xtw cI cL ad w) sz) := by
  refine va_MetF (cc := xb z) (maxL := xml z) (ret := xret z) (x_name hz).2.1 rfl ?_
  intro p e s m args below meth c s₁ B hml hv
  obtain ⟨rfl, hsz, hP, hK, hD0, hle, had, hSt⟩ := hv
  subst hsz
  have hts := atoms_spec (ws := xTs z) B.pre
  have hown : s.vm.findClass (xy z).cls = some m.cls := findClass_of_methodNamed B.named
  rw [lg_entry_eq]
  exact hS.2 (cells := 0) (slots := 0) (N0 := w.length) (S0 := xsl w) ⟨B.exec, B.bytes, B.returns, hml, B.notSynchronized, by rw [← (x_name hz).1]; exact hown, hts, (name_of_methodNamed B.named B.method).1, hz, hK, fun q h => Or.inr h, hSt⟩ ⟨hP, hD0.self, va_S.rf, hle, had, rfl⟩ (xLoc.entry hent) (Nat.zero_add _) h1 (Nat.zero_add _) h2
theorem x_goodIn (k : Nat) {z : Nat} (hz : z < 307) : GoodIn (xTs k) (xTs z) := by
  have good : ∀ w ∈ xtbl, (w.onTables && w.keeps) = true ∨ ∃ ty, w = .arrayClass ty := fun w hw => good_of_word (List.mem_filter.mp hw).2
  intro w hw
  rcases List.mem_cons.mp hw with rfl | hw
  · have h : Cond.code (xy z) (xb z) (xml z) (xret z) ∈ xtbl := xtbl_in (x_code hz) rfl
    exact ⟨List.mem_cons_of_mem _ h, good _ h⟩
  · exact ⟨List.mem_cons_of_mem _ hw, good _ hw⟩
end
section
/-! CALLS -/
def xOkF (l : Launch) (D : va_G) (cI cL : ClassId) (F : xK) : Prop := ∀ k pc ll st w v w', F k pc ll st w = some (v, w') → xSnd l D cI cL k pc ll st w v w'
theorem x_dec {k pc : Nat} {i : Instr} {len : Nat} (h : xcode k pc = some (i, len)) : decode (xb k) pc = .ok (i, len) := by
  unfold xcode at h
  split at h
  · rename_i r e
    cases h
    exact e
  · cases h
section XK
variable {l : Launch} {D : va_G} {cI cL : ClassId} {F : xK} {k pc : Nat} {ll : List (Option Value)} {w w' : xW} {v : Option Value}
theorem xs_go (hF : xOkF l D cI cL F) {z : Nat} {as rest : List Value} (h : xgo F k pc ll w z as rest = some (v, w')) : ∃ v1 w1, (xfr z + 1 ≤ xfr k ∧ 8 + (xml z + 11) + xlo z ≤ xlo k ∧ (rest.map fun v => v.category).sum ≤ 8 ∧ (xent1 as).length ≤ xml z ∧ z < 307) ∧ xSnd l D cI cL z 0 (xent (xml z) as) [] w v1 w1 ∧ xSnd l D cI cL k (pc + 3) ll (v1.toList ++ rest) w1 v w' := by
  unfold xgo at h
  split at h
  · rename_i hc
    rw [x_mlen] at hc
    unfold xaft at h
    split at h
    · rename_i v1 w1 e
      exact ⟨v1, w1, hc, hF _ _ _ _ _ _ _ e, hF _ _ _ _ _ _ _ h⟩
    · cases h
  · cases h
variable {p : Program} {e : Env} {s : State} {m : MethodId} {args : Array Value} {below : List Frame} {meth : Method} {c : Code} {A : Nat → Prop} {ad : Nat → Nat} {mc ms cells slots N0 S0 : Nat} {H : Heap} {locs : List Loc} {ls : Array Slot}
theorem x_pre (C : xCx p s m args meth c k D cI cL ad A) (O : xOK D cI cL ad A s.heap w H locs cells) (as : List Value) (U : State) (hU : U.heap = H) (hW : s.WarmedH U.vm) : xPre D cI cL ad as w H.size (as.map (xtv ad)).toArray U := by
  obtain ⟨-, -, -, -, -, -, -, -, -, hK, hA, hSt⟩ := C
  refine ⟨rfl, by rw [hU], by rw [hU]; exact O.1, va_K.moved hW.alike hK, O.2.1.weaken (fun _ _ _ _ => trivial), O.2.2.2.1, O.2.2.2.2.1, ?_⟩
  rw [hU]
  exact hSt.to hW O.2.2.1.2.1 (O.sub hA)
theorem xs_aft {z : Nat} {as rest : List Value} {v1 : Option Value} {w1 : xW} {st0 : List Value} {a : Array Value} (q1 : xSnd l D cI cL z 0 (xent (xml z) as) [] w v1 w1) (q2 : xSnd l D cI cL k (pc + 3) ll (v1.toList ++ rest) w1 v w')
    (C : xCx p s m args meth c k D cI cL ad A) (O : xOK D cI cL ad A s.heap w H locs cells) (L : xLoc ad ls (xml k) ll) (a1 : cells + N0 = w.length) (a2 : mc + N0 = w'.length) (a3 : slots + S0 = xsl w) (a4 : ms + S0 = xsl w')
    (hr : va_Run p l e (xRm k mc ms) s m args below meth c H locs cells slots (w1.length - w.length) (xsl w1 - xsl w) (F0 m pc ls st0) (rest.map (xtv ad)) (xPost D cI cL ad (va_A (xtw cI cL ad w) H.size) v1 w1 a) (va_A (xtw cI cL ad w) H.size)) :
    W p l e (xRm k mc ms) s m args below meth c H locs cells slots (MQ below (xPost D cI cL ad A v w') args s mc ms A) (F0 m pc ls st0) := by
  have hA := C.2.2.2.2.2.2.2.2.2.2.1
  refine x_call hr O.2.2.1 (fun q _ h => O.sub hA q h) (O.sub hA) (fun t H1 locs1 ht hB hS1 => ?_)
  obtain ⟨hP1, hK1, hD1, hl1, had1⟩ := hB
  rw [ht] at hP1 had1
  have hm := q1.1
  have hz : H1.size = s.heap.size + (cells + (w1.length - w.length)) := by
    have e1 := had1 0 (by omega)
    have e2 := O.2.2.2.2.1 (w1.length - w.length) (by omega)
    rw [show w.length + (w1.length - w.length) = w1.length + 0 by omega, e1] at e2
    have e3 := O.2.2.2.2.2
    omega
  have hst : (v1.map (xtv ad)).toList ++ rest.map (xtv ad) = (v1.toList ++ rest).map (xtv ad) := by
    rw [List.map_append]
    cases v1 <;> rfl
  rw [hst]
  exact q2.2 (N0 := N0) (S0 := S0) C ⟨hP1, hD1.weaken (fun k q _ h => O.sub hA q.1 h), hS1, hl1, had1, hz⟩ L (by omega) a2 (by omega) a4
/-- a word of a site holds -/
theorem x_word {ix : Nat} {q : Nat × Nat × Nat × Int} (C : xCx p s m args meth c k D cI cL ad A) (h : xsite k ix = some q) {u : Cond} (hu : u ∈ xwords (xcn.getD (xown k) "") ix q) (hg : goodWord u = true) : u.before args s = true :=
  C.2.2.2.2.2.2.1 u (List.mem_cons_of_mem _ (xtbl_in (x_siteW (x_ownLt _ C.2.2.2.2.2.2.2.2.1) h u hu) hg))
theorem x_nest {ix : Nat} {q : Nat × Nat × Nat × Int} (C : xCx p s m args meth c k D cI cL ad A) (h : xsite k ix = some q) {u : Cond} (hu : u ∈ xwords (xcn.getD (xown k) "") ix q) (hg : xisNest u = true) : va_Nw u s :=
  C.2.2.2.2.2.2.2.2.2.2.2.2.2 u (x_siteW (x_ownLt _ C.2.2.2.2.2.2.2.2.1) h u hu) hg
end XK
section XI
variable {l : Launch} {D : va_G} {cI cL : ClassId} {F : xK} {k pc : Nat} {ll : List (Option Value)} {st : List Value} {w w' : xW} {v : Option Value}
theorem x_split {ad : Nat → Nat} (st : List Value) (n : Nat) : st.map (xtv ad) = ((st.take n).reverse.map (xtv ad)).reverse ++ (st.drop n).map (xtv ad) := by
  rw [← List.map_reverse, List.reverse_reverse, ← List.map_append, List.take_append_drop]
theorem xs_invV (hF : xOkF l D cI cL F) {ix : Nat} (hd : decode (xb k) pc = .ok (.invokevirtual ix, 3)) (h : xinvV F k pc ix ll st w = some (v, w')) : xSnd l D cI cL k pc ll st w v w' := by
  unfold xinvV at h
  split at h
  · rename_i z _ hs
    split at h
    · rename_i hlen
      split at h
      · rename_i b rest hdrop
        split at h
        · rename_i ci fs hb
          split at h
          · rename_i hci
            subst hci
            obtain ⟨v1, w1, ⟨c1, c2, c3, c4, c5⟩, q1, q2⟩ := xs_go hF h
            refine ⟨⟨Nat.le_trans q1.1.1 q2.1.1, Nat.le_trans q1.1.2 q2.1.2⟩, fun {p e s m args below meth c A ad mc ms cells slots N0 S0 H locs ls} C O L a1 a2 a3 a4 => ?_⟩
            have e1 : (w1.length - w.length) + w.length = w1.length := by have := q1.1.1; omega
            have e2 : (xsl w1 - xsl w) + xsl w = xsl w1 := by have := q1.1.2; omega
            have nm := x_name c5
            have hst : st.map (xtv ad) = (((st.take (xna z)).reverse.map (xtv ad))).reverse ++ .ref (ad b) :: rest.map (xtv ad) := by
              rw [x_split st (xna z), hdrop]
              rfl
            refine xs_aft (as := .ref b :: (st.take (xna z)).reverse) (a := (Value.ref (ad b) :: (st.take (xna z)).reverse.map (xtv ad)).toArray) q1 q2 C O L a1 a2 a3 a4 ?_
            refine va_runV (C := (xy z).cls) (b := ad b) (bytes := xb z) (maxL := xml z) (ret := xret z) (n := xna z) (As := (st.take (xna z)).reverse.map (xtv ad)) ⟨C.1, C.2.1, C.2.2.2.1, C.2.2.2.2.2.1, C.2.2.2.2.2.2.1⟩ (x_met q1 c5 c4 ad H.size e1 e2) ⟨callB_of (xna z) C.2.2.2.2.2.2.1 (x_goodIn k c5) rfl rfl rfl (x_word C hs (u := .initialized (xy z).cls) (by simp [xwords]) rfl) (x_word C hs (u := .methodLink _ ix (xy z)) (by simp [xwords]) rfl) nm.2.2 ⟨c1, c2⟩, x_word C hs (u := .instanceMethod (xy z)) (by simp [xwords]) rfl, x_word C hs (u := .selects (xy z).cls (xy z) (xy z)) (by simp [xwords]) rfl⟩ ⟨xPre.blind, ?_, fun U hU hW => x_pre C O (.ref b :: (st.take (xna z)).reverse) U hU hW⟩ rfl ?_ L.1 hst ?_ hd ?_
            · have hr := va_recv C.2.2.2.2.2.2.2.2.2.1 O.1 (x_cl _ (x_ownLt _ c5)) (xtw_get hb)
              rw [nm.1]
              exact hr
            · simp; omega
            · rw [xtv_cats]
              show 2 * 0 + _ ≤ 8
              omega
            · have := q2.1
              exact ⟨by show _ ≤ mc; omega, by show _ ≤ ms; omega⟩
          · cases h
        · cases h
      · cases h
    · cases h
  · cases h
theorem xs_S (hF : xOkF l D cI cL F) {ix z : Nat} {x : Int} (hs : xsite k ix = some (0, z, 1, x)) (hd : decode (xb k) pc = .ok (.invokestatic ix, 3)) (hlen : xna z ≤ st.length) (h : xgo F k pc ll w z (st.take (xna z)).reverse (st.drop (xna z)) = some (v, w')) : xSnd l D cI cL k pc ll st w v w' := by
  obtain ⟨v1, w1, ⟨c1, c2, c3, c4, c5⟩, q1, q2⟩ := xs_go hF h
  refine ⟨⟨Nat.le_trans q1.1.1 q2.1.1, Nat.le_trans q1.1.2 q2.1.2⟩, fun {p e s m args below meth c A ad mc ms cells slots N0 S0 H locs ls} C O L a1 a2 a3 a4 => ?_⟩
  have e1 : (w1.length - w.length) + w.length = w1.length := by have := q1.1.1; omega
  have e2 : (xsl w1 - xsl w) + xsl w = xsl w1 := by have := q1.1.2; omega
  have nm := x_name c5
  have hst := x_split (ad := ad) st (xna z)
  refine xs_aft (as := (st.take (xna z)).reverse) (a := ((st.take (xna z)).reverse.map (xtv ad)).toArray) q1 q2 C O L a1 a2 a3 a4 ?_
  refine va_runS (bytes := xb z) (maxL := xml z) (ret := xret z) (n := xna z) (As := (st.take (xna z)).reverse.map (xtv ad)) ⟨C.1, C.2.1, C.2.2.2.1, C.2.2.2.2.2.1, C.2.2.2.2.2.2.1⟩ (x_met q1 c5 c4 ad H.size e1 e2) ⟨callB_of (xna z) C.2.2.2.2.2.2.1 (x_goodIn k c5) rfl rfl rfl (x_word C hs (u := .initialized (xy z).cls) (by simp [xwords]) rfl) (x_word C hs (u := .methodLink _ ix (xy z)) (by simp [xwords]) rfl) nm.2.2 ⟨c1, c2⟩, x_word C hs (u := .static (xy z)) (by simp [xwords]) rfl⟩ ⟨xPre.blind, fun U hU hW => x_pre C O (st.take (xna z)).reverse U hU hW⟩ rfl ?_ L.1 hst ?_ hd ?_
  · simp; omega
  · rw [xtv_cats]
    show 2 * 0 + _ ≤ 8
    omega
  · have := q2.1
    exact ⟨by show _ ≤ mc; omega, by show _ ≤ ms; omega⟩
theorem xs_SN (hF : xOkF l D cI cL F) {ix z : Nat} {x : Int} (hs : xsite k ix = some (1, z, 1, x)) (hd : decode (xb k) pc = .ok (.invokestatic ix, 3)) (hlen : xna z ≤ st.length) (h : xgo F k pc ll w z (st.take (xna z)).reverse (st.drop (xna z)) = some (v, w')) : xSnd l D cI cL k pc ll st w v w' := by
  obtain ⟨v1, w1, ⟨c1, c2, c3, c4, c5⟩, q1, q2⟩ := xs_go hF h
  refine ⟨⟨Nat.le_trans q1.1.1 q2.1.1, Nat.le_trans q1.1.2 q2.1.2⟩, fun {p e s m args below meth c A ad mc ms cells slots N0 S0 H locs ls} C O L a1 a2 a3 a4 => ?_⟩
  have e1 : (w1.length - w.length) + w.length = w1.length := by have := q1.1.1; omega
  have e2 : (xsl w1 - xsl w) + xsl w = xsl w1 := by have := q1.1.2; omega
  have nm := x_name c5
  have hst := x_split (ad := ad) st (xna z)
  refine xs_aft (as := (st.take (xna z)).reverse) (a := ((st.take (xna z)).reverse.map (xtv ad)).toArray) q1 q2 C O L a1 a2 a3 a4 ?_
  refine va_runSN (bytes := xb z) (maxL := xml z) (ret := xret z) (n := xna z) (As := (st.take (xna z)).reverse.map (xtv ad)) ⟨C.1, C.2.1, C.2.2.2.1, C.2.2.2.2.2.1, C.2.2.2.2.2.2.1⟩ (x_met q1 c5 c4 ad H.size e1 e2) ⟨va_cnB (host := "BernoulliWays") (xna z) C.2.2.2.2.2.2.1 (x_goodIn k c5) rfl rfl rfl (x_nest C hs (u := .methodLinkNest _ ix (xy z) "BernoulliWays") (by simp [xwords]) rfl) (x_word C hs (u := .initialized (xy z).cls) (by simp [xwords]) rfl) nm.2.2 ⟨c1, c2⟩, x_word C hs (u := .static (xy z)) (by simp [xwords]) rfl, trivial⟩ ⟨xPre.blind, fun U hU hW => x_pre C O (st.take (xna z)).reverse U hU hW⟩ rfl ?_ L.1 hst ?_ hd ?_
  · simp; omega
  · rw [xtv_cats]
    show 2 * 0 + _ ≤ 8
    omega
  · have := q2.1
    exact ⟨by show _ ≤ mc; omega, by show _ ≤ ms; omega⟩
theorem xs_I (hF : xOkF l D cI cL F) {ix z b : Nat} {rest : List Value} {x : Int} (hs : xsite k ix = some (0, z, 2, x)) (hnm : (xy z).name = "<init>") (hret : xret z = none) (hd : decode (xb k) pc = .ok (.invokespecial ix, 3)) (hlen : xna z + 1 ≤ st.length) (hdrop : st.drop (xna z) = .ref b :: rest) (h : xgo F k pc ll w z (.ref b :: (st.take (xna z)).reverse) rest = some (v, w')) : xSnd l D cI cL k pc ll st w v w' := by
  obtain ⟨v1, w1, ⟨c1, c2, c3, c4, c5⟩, q1, q2⟩ := xs_go hF h
  refine ⟨⟨Nat.le_trans q1.1.1 q2.1.1, Nat.le_trans q1.1.2 q2.1.2⟩, fun {p e s m args below meth c A ad mc ms cells slots N0 S0 H locs ls} C O L a1 a2 a3 a4 => ?_⟩
  have e1 : (w1.length - w.length) + w.length = w1.length := by have := q1.1.1; omega
  have e2 : (xsl w1 - xsl w) + xsl w = xsl w1 := by have := q1.1.2; omega
  have nm := x_name c5
  have hst : st.map (xtv ad) = (((st.take (xna z)).reverse.map (xtv ad))).reverse ++ .ref (ad b) :: rest.map (xtv ad) := by
    rw [x_split st (xna z), hdrop]
    rfl
  refine xs_aft (as := .ref b :: (st.take (xna z)).reverse) (a := (Value.ref (ad b) :: (st.take (xna z)).reverse.map (xtv ad)).toArray) q1 q2 C O L a1 a2 a3 a4 ?_
  refine va_runI (b := ad b) (bytes := xb z) (maxL := xml z) (n := xna z) (As := (st.take (xna z)).reverse.map (xtv ad)) ⟨C.1, C.2.1, C.2.2.2.1, C.2.2.2.2.2.1, C.2.2.2.2.2.2.1⟩ (x_met q1 c5 c4 ad H.size e1 e2) ⟨callB_of (xna z) C.2.2.2.2.2.2.1 (x_goodIn k c5) (by unfold xTs; rw [hret]) rfl rfl (x_word C hs (u := .initialized (xy z).cls) (by simp [xwords]) rfl) (x_word C hs (u := .methodLink _ ix (xy z)) (by simp [xwords]) rfl) nm.2.2 ⟨c1, c2⟩, hnm, x_word C hs (u := .instanceMethod (xy z)) (by simp [xwords]) rfl⟩ ⟨xPre.blind, fun U hU hW => x_pre C O (.ref b :: (st.take (xna z)).reverse) U hU hW⟩ rfl ?_ L.1 hst ?_ hd ?_
  · simp; omega
  · rw [xtv_cats]
    show 2 * 0 + _ ≤ 8
    omega
  · have := q2.1
    exact ⟨by show _ ≤ mc; omega, by show _ ≤ ms; omega⟩
theorem xs_IN (hF : xOkF l D cI cL F) {ix z b : Nat} {rest : List Value} {x : Int} (hs : xsite k ix = some (1, z, 2, x)) (hnm : (xy z).name = "<init>") (hret : xret z = none) (hd : decode (xb k) pc = .ok (.invokespecial ix, 3)) (hlen : xna z + 1 ≤ st.length) (hdrop : st.drop (xna z) = .ref b :: rest) (h : xgo F k pc ll w z (.ref b :: (st.take (xna z)).reverse) rest = some (v, w')) : xSnd l D cI cL k pc ll st w v w' := by
  obtain ⟨v1, w1, ⟨c1, c2, c3, c4, c5⟩, q1, q2⟩ := xs_go hF h
  refine ⟨⟨Nat.le_trans q1.1.1 q2.1.1, Nat.le_trans q1.1.2 q2.1.2⟩, fun {p e s m args below meth c A ad mc ms cells slots N0 S0 H locs ls} C O L a1 a2 a3 a4 => ?_⟩
  have e1 : (w1.length - w.length) + w.length = w1.length := by have := q1.1.1; omega
  have e2 : (xsl w1 - xsl w) + xsl w = xsl w1 := by have := q1.1.2; omega
  have nm := x_name c5
  have hst : st.map (xtv ad) = (((st.take (xna z)).reverse.map (xtv ad))).reverse ++ .ref (ad b) :: rest.map (xtv ad) := by
    rw [x_split st (xna z), hdrop]
    rfl
  refine xs_aft (as := .ref b :: (st.take (xna z)).reverse) (a := (Value.ref (ad b) :: (st.take (xna z)).reverse.map (xtv ad)).toArray) q1 q2 C O L a1 a2 a3 a4 ?_
  refine va_runIN (b := ad b) (bytes := xb z) (maxL := xml z) (n := xna z) (As := (st.take (xna z)).reverse.map (xtv ad)) ⟨C.1, C.2.1, C.2.2.2.1, C.2.2.2.2.2.1, C.2.2.2.2.2.2.1⟩ (x_met q1 c5 c4 ad H.size e1 e2) ⟨va_cnB (host := "BernoulliWays") (xna z) C.2.2.2.2.2.2.1 (x_goodIn k c5) (by unfold xTs; rw [hret]) rfl rfl (x_nest C hs (u := .methodLinkNest _ ix (xy z) "BernoulliWays") (by simp [xwords]) rfl) (x_word C hs (u := .initialized (xy z).cls) (by simp [xwords]) rfl) nm.2.2 ⟨c1, c2⟩, hnm, x_word C hs (u := .instanceMethod (xy z)) (by simp [xwords]) rfl⟩ ⟨xPre.blind, fun U hU hW => x_pre C O (.ref b :: (st.take (xna z)).reverse) U hU hW⟩ rfl ?_ L.1 hst ?_ hd ?_
  · simp; omega
  · rw [xtv_cats]
    show 2 * 0 + _ ≤ 8
    omega
  · have := q2.1
    exact ⟨by show _ ≤ mc; omega, by show _ ≤ ms; omega⟩
end XI
end
section
/-! FIELDS, ROWS, NEW CELLS -/
def xchkI (c : Nat) : Bool := (xss.getD c []).all fun q => !(q.2.2.2.1 == 2 && Nat.ble q.2.1 1) || (decide ((xy q.2.2.1).name = "<init>") && decide (xret q.2.2.1 = none))
theorem x_i : (List.range 15).all xchkI = true := by decide +kernel
theorem x_isInit {k ix t z : Nat} {x : Int} (hk : xown k < 15) (ht : t ≤ 1) (h : xsite k ix = some (t, z, 2, x)) : (xy z).name = "<init>" ∧ xret z = none := by
  have h1 := List.all_eq_true.mp x_i _ (List.mem_range.mpr hk)
  have h2 := List.all_eq_true.mp h1 _ (x_lookup h)
  simp only [beq_self_eq_true, Bool.true_and, Bool.or_eq_true, Bool.not_eq_true', Bool.and_eq_true, decide_eq_true_eq] at h2
  rcases h2 with h2 | h2
  · rw [Nat.ble_eq_true_of_le ht] at h2
    cases h2
  · exact h2
theorem x_ciLt : ∀ c, c < 15 → (xss.getD c []).all (fun q => !(q.2.1 == 4 || q.2.1 == 8) || Nat.blt q.2.2.1 15) = true := by
  have h : (List.range 15).all (fun c => (xss.getD c []).all (fun q => !(q.2.1 == 4 || q.2.1 == 8) || Nat.blt q.2.2.1 15)) = true := by decide +kernel
  exact fun c hc => List.all_eq_true.mp h c (List.mem_range.mpr hc)
theorem x_ci4 {k ix ci j : Nat} {x : Int} (hk : xown k < 15) (h : xsite k ix = some (4, ci, j, x)) : ci < 15 := by
  have h2 := List.all_eq_true.mp (x_ciLt _ hk) _ (x_lookup h)
  simp [Nat.blt] at h2
  omega
theorem x_ci8 {k ix ci j : Nat} {x : Int} (hk : xown k < 15) (h : xsite k ix = some (8, ci, j, x)) : ci < 15 := by
  have h2 := List.all_eq_true.mp (x_ciLt _ hk) _ (x_lookup h)
  simp [Nat.blt] at h2
  omega
/-- each field that a site names is there -/
theorem x_fjAll : ∀ c, c < 15 → (xss.getD c []).all (fun q => !(q.2.1 == 4) || Nat.blt q.2.2.2.1 (xNc q.2.2.1)) = true := by
  have h : (List.range 15).all (fun c => (xss.getD c []).all (fun q => !(q.2.1 == 4) || Nat.blt q.2.2.2.1 (xNc q.2.2.1))) = true := by decide +kernel
  exact fun c hc => List.all_eq_true.mp h c (List.mem_range.mpr hc)
theorem x_fj {k ix ci j : Nat} {x : Int} (hk : xown k < 15) (h : xsite k ix = some (4, ci, j, x)) : j < xNc ci := by
  have h2 := List.all_eq_true.mp (x_fjAll _ hk) _ (x_lookup h)
  simp [Nat.blt] at h2
  omega
theorem x_fits {ty : FieldType} {v : Value} {ad : Nat → Nat} (h : xfits ty v = true) : narrow ty (xtv ad v) = xtv ad v ∧ fits ty (xtv ad v) = true := by
  cases ty <;> cases v <;> first | exact ⟨rfl, rfl⟩ | (simp [xfits] at h)
section XM
variable {l : Launch} {D : va_G} {cI cL : ClassId} {F : xK} {k pc : Nat} {ll : List (Option Value)} {st : List Value} {w w' : xW} {v : Option Value}
theorem xs_getf (hF : xOkF l D cI cL F) {ix : Nat} (hd : decode (xb k) pc = .ok (.getfield ix, 3)) (h : xgetf F k pc ix ll st w = some (v, w')) : xSnd l D cI cL k pc ll st w v w' := by
  unfold xgetf at h
  split at h
  · rename_i ci j _ a rest hs
    split at h
    · rename_i c2 fs hw
      split at h
      · rename_i hci
        subst hci
        split at h
        · rename_i x hx
          have q := hF _ _ _ _ _ _ _ h
          refine ⟨q.1, fun {p e s m args below meth c A ad mc ms cells slots N0 S0 H locs ls} C O L a1 a2 a3 a4 => ?_⟩
          have ho := x_ownLt _ C.2.2.2.2.2.2.2.2.1
          have hc := x_ci4 ho hs
          refine va_get (v := xtv ad x) (T := xFc c2) (N := xNc c2) (C := xcn.getD c2 "") (ref := (xFc c2 j).1) C.1 C.2.1 C.2.2.2.2.2.2.1 (fun u hu => List.mem_cons_of_mem _ (xtbl_in ((x_cls hc).1 u hu) (x_good_lays u hu))) C.2.2.2.2.2.1 C.2.2.2.2.2.2.2.2.2.1 O.1 a (xtw_get hw) (x_cl _ hc) j (x_fj ho hs) (x_word C hs (by simp [xwords, xFc]) rfl) (fun _ h9 => h9) ?_ hd (q.2 C O L a1 a2 a3 a4)
          rw [List.getElem?_map, hx]
          rfl
        · cases h
      · cases h
    · cases h
  · cases h
theorem xs_putf (hF : xOkF l D cI cL F) {ix : Nat} (hd : decode (xb k) pc = .ok (.putfield ix, 3)) (h : xputf F k pc ix ll st w = some (v, w')) : xSnd l D cI cL k pc ll st w v w' := by
  unfold xputf at h
  split at h
  · rename_i ci j _ x a rest hs
    split at h
    · rename_i c2 fs hw
      split at h
      · rename_i hci
        obtain ⟨rfl, hj⟩ := hci
        split at h
        · rename_i ty fd hty hfd
          split at h
          · rename_i hok
            have q := hF _ _ _ _ _ _ _ h
            have hm : xsl (w.set a (.inr (c2, fs.set j x))) = xsl w := xsl_set hw (by simp [xsz])
            refine ⟨⟨by have := q.1.1; rw [List.length_set] at this; exact this, by have := q.1.2; rw [hm] at this; exact this⟩, fun {p e s m args below meth c A ad mc ms cells slots N0 S0 H locs ls} C O L a1 a2 a3 a4 => ?_⟩
            have ho := x_ownLt _ C.2.2.2.2.2.2.2.2.1
            have hc := x_ci4 ho hs
            have hft := x_fits (ad := ad) hok.1
            have hin : ∀ u ∈ u_ws (xcn.getD c2 "") (xFc c2) (xNc c2), u ∈ xTs k := fun u hu => List.mem_cons_of_mem _ (xtbl_in ((x_cls hc).1 u hu) (x_good_lays u hu))
            have hfe : xFc c2 j = fd := by unfold xFc; rw [List.getD_eq_getElem?_getD, hfd]; rfl
            have hfs : (fs.map (xtv ad)).set j (xtv ad x) = (fs.set j x).map (xtv ad) := by rw [List.map_set]
            have fin : ∀ (H1 : Heap) (locs1 : List Loc), va_P D xcl ((xtw cI cL ad w).set a (ad a, .inr (c2, (fs.map (xtv ad)).set j (xtv ad x)))) H1 → va_D A ((xtw cI cL ad w).set a (ad a, .inr (c2, (fs.map (xtv ad)).set j (xtv ad x)))) → va_S A H H1 locs1 → W p l e (xRm k mc ms) s m args below meth c H1 locs1 cells slots (MQ below (xPost D cI cL ad A v w') args s mc ms A) (F0 m (pc + 3) ls (rest.map (xtv ad))) := by
              intro H1 locs1 hP hD hS
              rw [hfs] at hP hD
              refine x_sz (by have := hS.1; have := O.2.2.2.2.2; omega) (fun hz => ?_)
              exact q.2 (N0 := N0) (S0 := S0) C (O.store hP hD hS hz) L (by rw [List.length_set]; exact a1) a2 (by rw [hm]; exact a3) a4
            by_cases hf : fd.2.2.2 = false
            · exact va_put (v := xtv ad x) (ty := ty) (T := xFc c2) (N := xNc c2) (C := xcn.getD c2 "") (ref := (xFc c2 j).1) C.1 C.2.1 C.2.2.2.2.2.2.1 hin (xTy c2) (x_tyOk hc) (x_cls hc).2.2.2 C.2.2.2.2.2.1 C.2.2.2.2.2.2.2.2.2.1 O.1 O.2.1 O.here a (xtw_get hw) (x_cl _ hc) j (x_fj ho hs) (x_word C hs (by simp [xwords, xFc]) rfl) (fun _ h9 => h9) (by rw [hfe]; exact hf) (x_typ hc hty) hft.1 hft.2 (by rw [List.length_map]; exact hj) hd fin
            · have hok2 := hok.2.resolve_left hf
              exact va_putF (v := xtv ad x) (ty := ty) (T := xFc c2) (N := xNc c2) (C := xcn.getD c2 "") (ref := (xFc c2 j).1) C.1 C.2.1 C.2.2.2.2.2.2.1 hin (xTy c2) (x_tyOk hc) (x_cls hc).2.2.2 C.2.2.2.2.2.1 C.2.2.2.2.2.2.2.2.2.1 O.1 O.2.1 O.here a (xtw_get hw) (x_cl _ hc) j (x_fj ho hs) (x_word C hs (by simp [xwords, xFc]) rfl) (fun _ h9 => h9) (by rw [hfe]; simpa using hf) (by rw [C.2.2.2.2.2.2.2.1]; exact hok2.1) (by rw [hfe, hok2.2]; exact (x_name C.2.2.2.2.2.2.2.2.1).1) (x_typ hc hty) hft.1 hft.2 (by rw [List.length_map]; exact hj) hd fin
          · cases h
        · cases h
      · cases h
    · cases h
  · cases h
theorem xs_ald (hF : xOkF l D cI cL F) (hd : decode (xb k) pc = .ok (.iaload, 1)) (h : xald F k pc ll st w = some (v, w')) : xSnd l D cI cL k pc ll st w v w' := by
  unfold xald at h
  split at h
  · rename_i i a rest
    split at h
    · rename_i n f hw
      split at h
      · cases h
      · rename_i hin
        have q := hF _ _ _ _ _ _ _ h
        exact ⟨q.1, fun C O L a1 a2 a3 a4 => va_iald C.1 C.2.1 C.2.2.2.2.2.2.2.2.2.1 O.1 a 0 (xtw_get hw) rfl hin hd (q.2 C O L a1 a2 a3 a4)⟩
    · cases h
    · split at h
      · rename_i ha
        subst ha
        split at h
        · cases h
        · rename_i hin
          have q := hF _ _ _ _ _ _ _ h
          exact ⟨q.1, fun C O L a1 a2 a3 a4 => va_ti C.1 C.2.1 C.2.2.2.2.2.2.2.2.2.2.2.2.1 O.2.2.1 hin rfl hd (q.2 C O L a1 a2 a3 a4)⟩
      · cases h
  · cases h
theorem xs_alen (hF : xOkF l D cI cL F) (hd : decode (xb k) pc = .ok (.arraylength, 1)) (h : xalen F k pc ll st w = some (v, w')) : xSnd l D cI cL k pc ll st w v w' := by
  unfold xalen at h
  split at h
  · rename_i a rest
    split at h
    · rename_i n f hw
      have q := hF _ _ _ _ _ _ _ h
      exact ⟨q.1, fun C O L a1 a2 a3 a4 => va_alen C.1 C.2.1 C.2.2.2.2.2.2.2.2.2.1 O.1 a 0 (xtw_get hw) rfl rfl hd (q.2 C O L a1 a2 a3 a4)⟩
    · rename_i n f hw
      have q := hF _ _ _ _ _ _ _ h
      exact ⟨q.1, fun C O L a1 a2 a3 a4 => va_alen C.1 C.2.1 C.2.2.2.2.2.2.2.2.2.1 O.1 a 1 (xtw_get hw) rfl rfl hd (q.2 C O L a1 a2 a3 a4)⟩
    · cases h
    · split at h
      · rename_i ha
        subst ha
        have q := hF _ _ _ _ _ _ _ h
        exact ⟨q.1, fun C O L a1 a2 a3 a4 => va_tlen C.1 C.2.1 C.2.2.2.2.2.2.2.2.2.2.2.2.1 O.2.2.1 rfl hd (q.2 C O L a1 a2 a3 a4)⟩
      · cases h
  · cases h
theorem xs_lald (hF : xOkF l D cI cL F) (hd : decode (xb k) pc = .ok (.laload, 1)) (h : xlald F k pc ll st w = some (v, w')) : xSnd l D cI cL k pc ll st w v w' := by
  unfold xlald at h
  split at h
  · rename_i i a rest
    split at h
    · rename_i n f hw
      split at h
      · cases h
      · rename_i hin
        have q := hF _ _ _ _ _ _ _ h
        exact ⟨q.1, fun C O L a1 a2 a3 a4 => va_lald C.1 C.2.1 C.2.2.2.2.2.2.2.2.2.1 O.1 a 1 (xtw_get hw) rfl hin hd (q.2 C O L a1 a2 a3 a4)⟩
    · cases h
  · cases h
theorem xs_iast (hF : xOkF l D cI cL F) (hd : decode (xb k) pc = .ok (.iastore, 1)) (h : xiast F k pc ll st w = some (v, w')) : xSnd l D cI cL k pc ll st w v w' := by
  unfold xiast at h
  split at h
  · rename_i x i a rest
    split at h
    · rename_i n f hw
      split at h
      · cases h
      · rename_i hin
        have q := hF _ _ _ _ _ _ _ h
        have hm : xsl (w.set a (.inl (.inl (n, upd f i.toNatClampNeg x)))) = xsl w := xsl_set hw rfl
        refine ⟨⟨by have := q.1.1; rw [List.length_set] at this; exact this, by have := q.1.2; rw [hm] at this; exact this⟩, fun {p e s m args below meth c A ad mc ms cells slots N0 S0 H locs ls} C O L a1 a2 a3 a4 => ?_⟩
        refine va_iast C.1 C.2.1 C.2.2.2.2.2.2.2.2.2.1 O.1 O.2.1 O.here a 0 (xtw_get hw) rfl hin hd (fun H1 locs1 hP hD hS => ?_)
        refine x_sz (by have := hS.1; have := O.2.2.2.2.2; omega) (fun hz => ?_)
        exact q.2 (N0 := N0) (S0 := S0) C (O.store (c' := .inl (.inl (n, upd f i.toNatClampNeg x))) hP hD hS hz) L (by rw [List.length_set]; exact a1) a2 (by rw [hm]; exact a3) a4
    · cases h
  · cases h
theorem xs_last (hF : xOkF l D cI cL F) (hd : decode (xb k) pc = .ok (.lastore, 1)) (h : xlast F k pc ll st w = some (v, w')) : xSnd l D cI cL k pc ll st w v w' := by
  unfold xlast at h
  split at h
  · rename_i x i a rest
    split at h
    · rename_i n f hw
      split at h
      · cases h
      · rename_i hin
        have q := hF _ _ _ _ _ _ _ h
        have hm : xsl (w.set a (.inl (.inr (n, vp_updL f i.toNatClampNeg x)))) = xsl w := xsl_set hw rfl
        refine ⟨⟨by have := q.1.1; rw [List.length_set] at this; exact this, by have := q.1.2; rw [hm] at this; exact this⟩, fun {p e s m args below meth c A ad mc ms cells slots N0 S0 H locs ls} C O L a1 a2 a3 a4 => ?_⟩
        refine va_last C.1 C.2.1 C.2.2.2.2.2.2.2.2.2.1 O.1 O.2.1 O.here a 1 (xtw_get hw) rfl hin hd (fun H1 locs1 hP hD hS => ?_)
        refine x_sz (by have := hS.1; have := O.2.2.2.2.2; omega) (fun hz => ?_)
        exact q.2 (N0 := N0) (S0 := S0) C (O.store (c' := .inl (.inr (n, vp_updL f i.toNatClampNeg x))) hP hD hS hz) L (by rw [List.length_set]; exact a1) a2 (by rw [hm]; exact a3) a4
    · cases h
  · cases h
end XM
end
section
/-! NEW CELLS, COPIES, STATICS -/
theorem x_arrI : lw_tbl[221]? = some (.arrayClass .int) := by decide +kernel
theorem x_arrL : lw_tbl[127]? = some (.arrayClass .long) := by decide +kernel
theorem x_vref : ∀ c, c < 15 → (xvs.getD c []).all (fun v => match v with | .ref _ => false | _ => true) = true := by
  have h : (List.range 15).all (fun c => (xvs.getD c []).all (fun v => match v with | .ref _ => false | _ => true)) = true := by decide +kernel
  exact fun c hc => List.all_eq_true.mp h c (List.mem_range.mpr hc)
theorem x_vmap {ci : Nat} (hc : ci < 15) (ad : Nat → Nat) : (xvs.getD ci []).map (xtv ad) = xvs.getD ci [] := by
  have h := x_vref ci hc
  generalize xvs.getD ci [] = L at h ⊢
  induction L with
  | nil => rfl
  | cons v L ih =>
    rw [List.all_cons, Bool.and_eq_true] at h
    rw [List.map_cons, ih h.2]
    congr 1
    cases v <;> first | rfl | cases h.1
theorem x_vdef {ci : Nat} (hc : ci < 15) {j : Nat} (hj : j < xNc ci) : defaultValue (xTy ci j) = vp_V (xvs.getD ci []) j := by
  have hl : j < (xts.getD ci []).length := by rw [x_tlen hc]; exact hj
  rw [← (x_cls hc).2.2.1]
  unfold xTy vp_V
  generalize xts.getD ci [] = L at hl ⊢
  simp [List.getD_eq_getElem?_getD, hl]
section XN
variable {l : Launch} {D : va_G} {cI cL : ClassId} {F : xK} {k pc : Nat} {ll : List (Option Value)} {st : List Value} {w w' : xW} {v : Option Value}
theorem xs_new (hF : xOkF l D cI cL F) {ix : Nat} (hd : decode (xb k) pc = .ok (.new ix, 3)) (h : xnew F k pc ix ll st w = some (v, w')) : xSnd l D cI cL k pc ll st w v w' := by
  unfold xnew at h
  split at h
  · rename_i ci _ _ hs
    split at h
    · cases h
    · rename_i hlt
      have q := hF _ _ _ _ _ _ _ h
      have hm := q.1
      rw [List.length_append, xsl_app] at hm
      simp only [List.length_singleton] at hm
      refine ⟨⟨by omega, by omega⟩, fun {p e s m args below meth c A ad mc ms cells slots N0 S0 H locs ls} C O L a1 a2 a3 a4 => ?_⟩
      have ho := x_ownLt _ C.2.2.2.2.2.2.2.2.1
      have hc := x_ci8 ho hs
      have hv := x_vlen hc
      have hs2 : xsz (.inr (ci, xvs.getD ci [])) = xNc ci := hv
      rw [hs2] at hm
      have hKn := C.2.2.2.2.2.2.2.2.2.1.1 ci _ (x_cl _ hc)
      have hin : ∀ u ∈ u_ws (xcn.getD ci "") (xFc ci) (xNc ci), u ∈ xTs k := fun u hu => List.mem_cons_of_mem _ (xtbl_in ((x_cls hc).1 u hu) (x_good_lays u hu))
      refine W.newcK (C := xcn.getD ci "") (n := xNc ci) C.1 C.2.1 C.2.2.2.2.2.1 (x_word C hs (u := .classLink _ ix _) (by simp [xwords]) rfl) (x_word C hs (u := .instantiable _ _) (by simp [xwords, xNc]) rfl) (x_word C hs (u := .initialized _) (by simp [xwords]) rfl) rfl hd (by show cells + 1 ≤ mc; omega) (by show slots + _ ≤ ms; omega) hKn.2.1 rfl fun H1 kC hkC e1 z1 o1 => ?_
      have hat : va_at D xcl (H.size, xte cI cL ad (.inr (ci, xvs.getD ci []))) H1 := by
        show va_at D xcl (H.size, .inr (ci, (xvs.getD ci []).map (xtv ad))) H1
        rw [x_vmap hc]
        exact ⟨_, x_cl _ hc, (u_born (xTy ci) C.2.2.2.2.2.2.1 hin hKn hkC e1 (x_tyOk hc)).to (fun j hj => x_vdef hc hj)⟩
      obtain ⟨ea, O1⟩ := O.push C.2.2.2.2.2.2.2.2.2.2.1 (by omega) hat z1 o1
      have q2 := q.2 (p := p) (e := e) (below := below) (mc := mc) (ms := ms) (N0 := N0) (S0 := S0) (slots := slots + xNc ci) C O1 L (by rw [List.length_append]; simp; omega) a2 (by rw [xsl_app, hs2]; omega) a4
      rw [List.map_cons, show xtv ad (.ref w.length) = .ref H.size from by rw [← ea]; rfl] at q2
      exact q2
  · cases h
theorem xs_newa (hF : xOkF l D cI cL F) {t : ArrayType} (hd : decode (xb k) pc = .ok (.newarray t, 2)) (h : xnewa F k pc t ll st w = some (v, w')) : xSnd l D cI cL k pc ll st w v w' := by
  unfold xnewa at h
  split at h
  · rename_i n rest
    split at h
    · cases h
    · rename_i hcond
      have hn : ¬ n < 0 := fun z => hcond (Or.inl z)
      have hb : n.toNatClampNeg ≤ 1000000 := Nat.not_lt.mp fun z => hcond (Or.inr (Or.inl z))
      have hlt : w.length + 1 < xP := Nat.not_le.mp fun z => hcond (Or.inr (Or.inr z))
      split at h
      · have q := hF _ _ _ _ _ _ _ h
        have hm := q.1
        rw [List.length_append, xsl_app] at hm
        simp only [List.length_singleton] at hm
        have hs2 : xsz (.inl (.inl (n.toNatClampNeg, fun _ => 0))) = n.toNatClampNeg := rfl
        rw [hs2] at hm
        refine ⟨⟨by omega, by omega⟩, fun {p e s m args below meth c A ad mc ms cells slots N0 S0 H locs ls} C O L a1 a2 a3 a4 => ?_⟩
        have hw1 : (Cond.arrayClass .int).before args s = true := C.2.2.2.2.2.2.1 _ (List.mem_cons_of_mem _ (xtbl_of x_arrI rfl))
        refine va_newaK (atype := .int) (N := n.toNatClampNeg) C.1 C.2.1 hw1 rfl hd rfl hn rfl (by show n.toNatClampNeg * 4 ≤ 536870912; omega) (by show cells + 1 ≤ mc; omega) (by show slots + _ ≤ ms; omega) rfl fun H1 cA e1 z1 o1 hAr hNm => ?_
        have hc1 : s.vm.findClass ("[" ++ FieldType.int.toString) = some cI := (C.2.2.2.2.2.2.2.2.2.1.2 0 _ rfl).2
        have hcc : cA = cI := Option.some.inj (hNm.symm.trans hc1)
        subst hcc
        obtain ⟨ea, O1⟩ := O.push (c' := .inl (.inl (n.toNatClampNeg, fun _ => 0))) C.2.2.2.2.2.2.2.2.2.2.1 hlt e1 z1 o1
        have q2 := q.2 (p := p) (e := e) (below := below) (mc := mc) (ms := ms) (N0 := N0) (S0 := S0) (slots := slots + n.toNatClampNeg) C O1 L (by rw [List.length_append]; simp; omega) a2 (by rw [xsl_app, hs2]; omega) a4
        rw [List.map_cons, show xtv ad (.ref w.length) = .ref H.size from by rw [← ea]; rfl] at q2
        exact q2
      · have q := hF _ _ _ _ _ _ _ h
        have hm := q.1
        rw [List.length_append, xsl_app] at hm
        simp only [List.length_singleton] at hm
        have hs2 : xsz (.inl (.inr (n.toNatClampNeg, fun _ => 0))) = n.toNatClampNeg := rfl
        rw [hs2] at hm
        refine ⟨⟨by omega, by omega⟩, fun {p e s m args below meth c A ad mc ms cells slots N0 S0 H locs ls} C O L a1 a2 a3 a4 => ?_⟩
        have hw1 : (Cond.arrayClass .long).before args s = true := C.2.2.2.2.2.2.1 _ (List.mem_cons_of_mem _ (xtbl_of x_arrL rfl))
        refine va_newaK (atype := .long) (N := n.toNatClampNeg) C.1 C.2.1 hw1 rfl hd rfl hn rfl (by show n.toNatClampNeg * 8 ≤ 536870912; omega) (by show cells + 1 ≤ mc; omega) (by show slots + _ ≤ ms; omega) rfl fun H1 cA e1 z1 o1 hAr hNm => ?_
        have hc1 : s.vm.findClass ("[" ++ FieldType.long.toString) = some cL := (C.2.2.2.2.2.2.2.2.2.1.2 1 _ rfl).2
        have hcc : cA = cL := Option.some.inj (hNm.symm.trans hc1)
        subst hcc
        obtain ⟨ea, O1⟩ := O.push (c' := .inl (.inr (n.toNatClampNeg, fun _ => 0))) C.2.2.2.2.2.2.2.2.2.2.1 hlt e1 z1 o1
        have q2 := q.2 (p := p) (e := e) (below := below) (mc := mc) (ms := ms) (N0 := N0) (S0 := S0) (slots := slots + n.toNatClampNeg) C O1 L (by rw [List.length_append]; simp; omega) a2 (by rw [xsl_app, hs2]; omega) a4
        rw [List.map_cons, show xtv ad (.ref w.length) = .ref H.size from by rw [← ea]; rfl] at q2
        exact q2
      · cases h
  · cases h
theorem xs_gets (hF : xOkF l D cI cL F) {ix : Nat} (hd : decode (xb k) pc = .ok (.getstatic ix, 3)) (h : xgets F k pc ix ll st w = some (v, w')) : xSnd l D cI cL k pc ll st w v w' := by
  unfold xgets at h
  split at h
  · rename_i hs
    have q := hF _ _ _ _ _ _ _ h
    exact ⟨q.1, fun C O L a1 a2 a3 a4 => va_gets (ref := "BernoulliWays") C.1 C.2.1 C.2.2.2.2.2.2.2.2.2.2.2.1 O.2.2.1 C.2.2.2.2.2.1 (x_word C hs (by simp [xwords]) rfl) (fun _ h9 => h9) hd (q.2 C O L a1 a2 a3 a4)⟩
  · rename_i hs
    have q := hF _ _ _ _ _ _ _ h
    exact ⟨q.1, fun C O L a1 a2 a3 a4 => va_getsN (ref := "BernoulliWays") (host := "BernoulliWays") C.1 C.2.1 C.2.2.2.2.2.2.2.2.2.2.2.1 O.2.2.1 C.2.2.2.2.2.1 (va_Nw.use rfl (x_nest C hs (by simp [xwords]) rfl)) (fun _ h9 => h9) hd (q.2 C O L a1 a2 a3 a4)⟩
  · cases h
theorem xs_invI (hF : xOkF l D cI cL F) {ix : Nat} (hk : xown k < 15) (hd : decode (xb k) pc = .ok (.invokespecial ix, 3)) (h : xinvI F k pc ix ll st w = some (v, w')) : xSnd l D cI cL k pc ll st w v w' := by
  unfold xinvI at h
  split at h
  · rename_i z _ hs
    split at h
    · rename_i hlen
      split at h
      · rename_i b rest hdrop
        have hi := x_isInit hk (by omega) hs
        exact xs_I hF hs hi.1 hi.2 hd hlen hdrop h
      · cases h
    · cases h
  · rename_i z _ hs
    split at h
    · rename_i hlen
      split at h
      · rename_i b rest hdrop
        have hi := x_isInit hk (by omega) hs
        exact xs_IN hF hs hi.1 hi.2 hd hlen hdrop h
      · cases h
    · cases h
  · rename_i hs
    split at h
    · rename_i a rest
      split at h
      · rename_i hr
        have q := hF _ _ _ _ _ _ _ h
        refine ⟨q.1, fun {p e s m args below meth c A ad mc ms cells slots N0 S0 H locs ls} C O L a1 a2 a3 a4 => ?_⟩
        refine W.objInit (a := ad a) (rest := rest.map (xtv ad)) C.1 C.2.1 C.2.2.2.2.2.1 (x_word C hs (u := .methodLink _ ix objectInit) (by simp [xwords]) rfl) (x_word C hs (u := .instanceMethod objectInit) (by simp [xwords]) rfl) (x_word C hs (u := .code objectInit ⟨#[0xb1]⟩ 1 none) (by simp [xwords]) rfl) rfl (by rw [C.2.2.2.1]; exact L.1) rfl hd hr.1 (by rw [xtv_cats]; show 2 * 0 + _ + 12 ≤ _; have := hr.2; show _ ≤ xlo k; omega) (q.2 C O L a1 a2 a3 a4)
      · cases h
    · cases h
  · cases h
end XN
end
section
/-! THE PURE MACHINE IS SOUND -/
section XC
variable {l : Launch} {D : va_G} {cI cL : ClassId} {F : xK} {k pc : Nat} {ll : List (Option Value)} {st : List Value} {w w' : xW} {v : Option Value}
theorem xs_invS (hF : xOkF l D cI cL F) {ix : Nat} (hd : decode (xb k) pc = .ok (.invokestatic ix, 3)) (h : xinvS F k pc ix ll st w = some (v, w')) : xSnd l D cI cL k pc ll st w v w' := by
  unfold xinvS at h
  split at h
  · rename_i z _ hs
    split at h
    · rename_i hlen
      exact xs_S hF hs hd hlen h
    · cases h
  · rename_i z _ hs
    split at h
    · rename_i hlen
      exact xs_SN hF hs hd hlen h
    · cases h
  · rename_i hs
    split at h
    · rename_i n dp d sp a rest
      split at h
      · cases h
      · rename_i hcond
        have g1 : ¬ n < 0 := fun z => hcond (Or.inl z)
        have g2 : ¬ dp < 0 := fun z => hcond (Or.inr (Or.inl z))
        have g3 : ¬ sp < 0 := fun z => hcond (Or.inr (Or.inr (Or.inl z)))
        have g4 : 1 ≤ xfr k := Nat.not_lt.mp fun z => hcond (Or.inr (Or.inr (Or.inr (Or.inl z))))
        have g5 : (rest.map fun v => v.category).sum + 18 ≤ xlo k := Nat.not_lt.mp fun z => hcond (Or.inr (Or.inr (Or.inr (Or.inr z))))
        split at h
        · rename_i n0 f n1 g hwa hwd
          split at h
          · rename_i hin
            have q := hF _ _ _ _ _ _ _ h
            have hm : xsl (w.set d (.inl (.inl (n1, va_cpy f g sp.toNatClampNeg dp.toNatClampNeg n.toNatClampNeg)))) = xsl w := xsl_set hwd rfl
            refine ⟨⟨by have := q.1.1; rw [List.length_set] at this; exact this, by have := q.1.2; rw [hm] at this; exact this⟩, fun {p e s m args below meth c A ad mc ms cells slots N0 S0 H locs ls} C O L a1 a2 a3 a4 => ?_⟩
            refine va_copyi (ty := .int) (rest := rest.map (xtv ad)) C.1 C.2.1 (by rw [C.2.2.2.1]; exact L.1.symm) C.2.2.2.2.2.1 (x_word C hs (u := .methodLink _ ix arraycopyName) (by simp [xwords]) rfl) (x_word C hs (u := .native arraycopyName) (by simp [xwords]) rfl) (x_word C hs (u := .static arraycopyName) (by simp [xwords]) rfl) (x_word C hs (u := .initialized "java/lang/System") (by simp [xwords]) rfl) C.2.2.2.2.2.2.2.2.2.1 O.1 O.2.1 O.here a d 0 0 (xtw_get hwa) (xtw_get hwd) rfl rfl rfl g3 g2 g1 hin.1 hin.2 (fun i _ => rfl) g4 ?_ hd (fun H1 locs1 hP hD hS => ?_)
            · rw [xtv_cats]
              show _ + (7 + 11) ≤ xlo k
              omega
            · refine x_sz (by have := hS.1; have := O.2.2.2.2.2; omega) (fun hz => ?_)
              exact q.2 (N0 := N0) (S0 := S0) C (O.store (c' := .inl (.inl (n1, va_cpy f g sp.toNatClampNeg dp.toNatClampNeg n.toNatClampNeg))) hP hD hS hz) L (by rw [List.length_set]; exact a1) a2 (by rw [hm]; exact a3) a4
          · cases h
        · rename_i n0 f n1 g hwa hwd
          split at h
          · rename_i hin
            have q := hF _ _ _ _ _ _ _ h
            have hm : xsl (w.set d (.inl (.inr (n1, va_cpy f g sp.toNatClampNeg dp.toNatClampNeg n.toNatClampNeg)))) = xsl w := xsl_set hwd rfl
            refine ⟨⟨by have := q.1.1; rw [List.length_set] at this; exact this, by have := q.1.2; rw [hm] at this; exact this⟩, fun {p e s m args below meth c A ad mc ms cells slots N0 S0 H locs ls} C O L a1 a2 a3 a4 => ?_⟩
            refine va_copyl (ty := .long) (rest := rest.map (xtv ad)) C.1 C.2.1 (by rw [C.2.2.2.1]; exact L.1.symm) C.2.2.2.2.2.1 (x_word C hs (u := .methodLink _ ix arraycopyName) (by simp [xwords]) rfl) (x_word C hs (u := .native arraycopyName) (by simp [xwords]) rfl) (x_word C hs (u := .static arraycopyName) (by simp [xwords]) rfl) (x_word C hs (u := .initialized "java/lang/System") (by simp [xwords]) rfl) C.2.2.2.2.2.2.2.2.2.1 O.1 O.2.1 O.here a d 1 1 (xtw_get hwa) (xtw_get hwd) rfl rfl rfl g3 g2 g1 hin.1 hin.2 (fun i _ => rfl) g4 ?_ hd (fun H1 locs1 hP hD hS => ?_)
            · rw [xtv_cats]
              show _ + (7 + 11) ≤ xlo k
              omega
            · refine x_sz (by have := hS.1; have := O.2.2.2.2.2; omega) (fun hz => ?_)
              exact q.2 (N0 := N0) (S0 := S0) C (O.store (c' := .inl (.inr (n1, va_cpy f g sp.toNatClampNeg dp.toNatClampNeg n.toNatClampNeg))) hP hD hS hz) L (by rw [List.length_set]; exact a1) a2 (by rw [hm]; exact a3) a4
          · cases h
        · cases h
    · cases h
  · cases h
theorem xs_jump (hF : xOkF l D cI cL F) {off : Int} (h : xjump F k pc off ll st w = some (v, w')) : (pc : Int) + off = (xtgt pc off : Int) ∧ xSnd l D cI cL k (xtgt pc off) ll st w v w' := by
  unfold xjump at h
  split at h
  · rename_i hz
    exact ⟨(Int.toNat_of_nonneg hz).symm, hF _ _ _ _ _ _ _ h⟩
  · cases h
theorem xs_br (hF : xOkF l D cI cL F) {off : Int} {cnd : Prop} [Decidable cnd] (h : xbr F (decide cnd) k pc off ll st w = some (v, w')) : (pc : Int) + off = (xtgt pc off : Int) ∧ (cnd ∧ xSnd l D cI cL k (xtgt pc off) ll st w v w' ∨ ¬ cnd ∧ xSnd l D cI cL k (pc + 3) ll st w v w') := by
  unfold xbr at h
  by_cases hz : 0 ≤ (pc : Int) + off
  · rw [if_pos hz] at h
    refine ⟨(Int.toNat_of_nonneg hz).symm, ?_⟩
    by_cases hc : cnd
    · rw [if_pos (decide_eq_true hc)] at h
      exact Or.inl ⟨hc, hF _ _ _ _ _ _ _ h⟩
    · rw [if_neg (by simpa using hc)] at h
      exact Or.inr ⟨hc, hF _ _ _ _ _ _ _ h⟩
  · rw [if_neg hz] at h
    cases h
theorem x_ins (hF : xOkF l D cI cL F) {i : Instr} {len : Nat} (hk : xown k < 15) (hd : decode (xb k) pc = .ok (i, len)) (h : xins F k pc ll st w i len = some (v, w')) : xSnd l D cI cL k pc ll st w v w' := by
  cases i with
  | iconst n =>
    unfold xins at h
    dsimp only at h
    by_cases hl : len = 1
    · subst hl
      rw [if_pos rfl] at h
      have q := hF _ _ _ _ _ _ _ h
      exact ⟨q.1, fun C O L a1 a2 a3 a4 => lv_iconst C.1 C.2.1 hd rfl (q.2 C O L a1 a2 a3 a4)⟩
    · rw [if_neg hl] at h
      cases h
  | bipush n =>
    unfold xins at h
    dsimp only at h
    by_cases hl : len = 2
    · subst hl
      rw [if_pos rfl] at h
      have q := hF _ _ _ _ _ _ _ h
      exact ⟨q.1, fun C O L a1 a2 a3 a4 => lv_bipush C.1 C.2.1 hd rfl (q.2 C O L a1 a2 a3 a4)⟩
    · rw [if_neg hl] at h
      cases h
  | sipush n =>
    unfold xins at h
    dsimp only at h
    by_cases hl : len = 3
    · subst hl
      rw [if_pos rfl] at h
      have q := hF _ _ _ _ _ _ _ h
      exact ⟨q.1, fun C O L a1 a2 a3 a4 => lv_sipush C.1 C.2.1 hd rfl (q.2 C O L a1 a2 a3 a4)⟩
    · rw [if_neg hl] at h
      cases h
  | lconst n =>
    unfold xins at h
    dsimp only at h
    by_cases hl : len = 1
    · subst hl
      rw [if_pos rfl] at h
      have q := hF _ _ _ _ _ _ _ h
      exact ⟨q.1, fun C O L a1 a2 a3 a4 => lv_lconst C.1 C.2.1 hd rfl (q.2 C O L a1 a2 a3 a4)⟩
    · rw [if_neg hl] at h
      cases h
  | ldc ix =>
    unfold xins at h
    dsimp only at h
    by_cases hl : len = 2
    · subst hl
      rw [if_pos rfl] at h
      split at h
      · rename_i x hs
        have q := hF _ _ _ _ _ _ _ h
        exact ⟨q.1, fun C O L a1 a2 a3 a4 => lv_ldc C.1 C.2.1 C.2.2.2.2.2.1 (x_word C hs (by simp [xwords]) rfl) hd (q.2 C O L a1 a2 a3 a4)⟩
      · cases h
    · rw [if_neg hl] at h
      cases h
  | ldc_w ix =>
    unfold xins at h
    dsimp only at h
    by_cases hl : len = 3
    · subst hl
      rw [if_pos rfl] at h
      split at h
      · rename_i x hs
        have q := hF _ _ _ _ _ _ _ h
        exact ⟨q.1, fun C O L a1 a2 a3 a4 => lv_ldcw C.1 C.2.1 C.2.2.2.2.2.1 (x_word C hs (by simp [xwords]) rfl) hd (q.2 C O L a1 a2 a3 a4)⟩
      · cases h
    · rw [if_neg hl] at h
      cases h
  | ldc2_w ix =>
    unfold xins at h
    dsimp only at h
    by_cases hl : len = 3
    · subst hl
      rw [if_pos rfl] at h
      split at h
      · rename_i x hs
        have q := hF _ _ _ _ _ _ _ h
        exact ⟨q.1, fun C O L a1 a2 a3 a4 => lv_ldc2 C.1 C.2.1 C.2.2.2.2.2.1 (x_word C hs (by simp [xwords]) rfl) hd (q.2 C O L a1 a2 a3 a4)⟩
      · cases h
    · rw [if_neg hl] at h
      cases h
  | iload_n n =>
    unfold xins at h
    dsimp only at h
    by_cases hl : len = 1
    · subst hl
      rw [if_pos rfl] at h
      unfold xild at h
      split at h
      · rename_i x hx
        have q := hF _ _ _ _ _ _ _ h
        exact ⟨q.1, fun C O L a1 a2 a3 a4 => lv_iload_n C.1 C.2.1 hd rfl (L.get hx) (q.2 C O L a1 a2 a3 a4)⟩
      · cases h
    · rw [if_neg hl] at h
      cases h
  | iload n =>
    unfold xins at h
    dsimp only at h
    by_cases hl : len = 2
    · subst hl
      rw [if_pos rfl] at h
      unfold xild at h
      split at h
      · rename_i x hx
        have q := hF _ _ _ _ _ _ _ h
        exact ⟨q.1, fun C O L a1 a2 a3 a4 => lv_iload C.1 C.2.1 hd (L.get hx) (q.2 C O L a1 a2 a3 a4)⟩
      · cases h
    · rw [if_neg hl] at h
      cases h
  | lload_n n =>
    unfold xins at h
    dsimp only at h
    by_cases hl : len = 1
    · subst hl
      rw [if_pos rfl] at h
      unfold xlld at h
      split at h
      · rename_i x hx
        have q := hF _ _ _ _ _ _ _ h
        exact ⟨q.1, fun C O L a1 a2 a3 a4 => lv_lload_n C.1 C.2.1 hd rfl (L.get hx) (q.2 C O L a1 a2 a3 a4)⟩
      · cases h
    · rw [if_neg hl] at h
      cases h
  | lload n =>
    unfold xins at h
    dsimp only at h
    by_cases hl : len = 2
    · subst hl
      rw [if_pos rfl] at h
      unfold xlld at h
      split at h
      · rename_i x hx
        have q := hF _ _ _ _ _ _ _ h
        exact ⟨q.1, fun C O L a1 a2 a3 a4 => lv_lload C.1 C.2.1 hd (L.get hx) (q.2 C O L a1 a2 a3 a4)⟩
      · cases h
    · rw [if_neg hl] at h
      cases h
  | aload_n n =>
    unfold xins at h
    dsimp only at h
    by_cases hl : len = 1
    · subst hl
      rw [if_pos rfl] at h
      unfold xaldr at h
      split at h
      · rename_i x hx
        have q := hF _ _ _ _ _ _ _ h
        exact ⟨q.1, fun C O L a1 a2 a3 a4 => lv_aload_n C.1 C.2.1 hd rfl (L.get hx) (q.2 C O L a1 a2 a3 a4)⟩
      · cases h
    · rw [if_neg hl] at h
      cases h
  | aload n =>
    unfold xins at h
    dsimp only at h
    by_cases hl : len = 2
    · subst hl
      rw [if_pos rfl] at h
      unfold xaldr at h
      split at h
      · rename_i x hx
        have q := hF _ _ _ _ _ _ _ h
        exact ⟨q.1, fun C O L a1 a2 a3 a4 => lv_aload C.1 C.2.1 hd (L.get hx) (q.2 C O L a1 a2 a3 a4)⟩
      · cases h
    · rw [if_neg hl] at h
      cases h
  | istore_n n =>
    unfold xins at h
    dsimp only at h
    by_cases hl : len = 1
    · subst hl
      rw [if_pos rfl] at h
      unfold xis at h
      split at h
      · rename_i x rest
        split at h
        · rename_i hn
          have q := hF _ _ _ _ _ _ _ h
          exact ⟨q.1, fun C O L a1 a2 a3 a4 => lv_istore_n C.1 C.2.1 hd rfl L.has hn rfl (fun ls1 hl1 => q.2 C O (xLoc.st1 (v := .int x) rfl hl1) a1 a2 a3 a4)⟩
        · cases h
      · cases h
    · rw [if_neg hl] at h
      cases h
  | istore n =>
    unfold xins at h
    dsimp only at h
    by_cases hl : len = 2
    · subst hl
      rw [if_pos rfl] at h
      unfold xis at h
      split at h
      · rename_i x rest
        split at h
        · rename_i hn
          have q := hF _ _ _ _ _ _ _ h
          exact ⟨q.1, fun C O L a1 a2 a3 a4 => lv_istore C.1 C.2.1 hd L.has hn rfl (fun ls1 hl1 => q.2 C O (xLoc.st1 (v := .int x) rfl hl1) a1 a2 a3 a4)⟩
        · cases h
      · cases h
    · rw [if_neg hl] at h
      cases h
  | astore_n n =>
    unfold xins at h
    dsimp only at h
    by_cases hl : len = 1
    · subst hl
      rw [if_pos rfl] at h
      unfold xas at h
      split at h
      · rename_i x rest
        split at h
        · rename_i hn
          have q := hF _ _ _ _ _ _ _ h
          exact ⟨q.1, fun C O L a1 a2 a3 a4 => lv_astore_n C.1 C.2.1 hd rfl L.has hn rfl (fun ls1 hl1 => q.2 C O (xLoc.st1 (v := .ref x) rfl hl1) a1 a2 a3 a4)⟩
        · cases h
      · cases h
    · rw [if_neg hl] at h
      cases h
  | astore n =>
    unfold xins at h
    dsimp only at h
    by_cases hl : len = 2
    · subst hl
      rw [if_pos rfl] at h
      unfold xas at h
      split at h
      · rename_i x rest
        split at h
        · rename_i hn
          have q := hF _ _ _ _ _ _ _ h
          exact ⟨q.1, fun C O L a1 a2 a3 a4 => lv_astore C.1 C.2.1 hd L.has hn rfl (fun ls1 hl1 => q.2 C O (xLoc.st1 (v := .ref x) rfl hl1) a1 a2 a3 a4)⟩
        · cases h
      · cases h
    · rw [if_neg hl] at h
      cases h
  | lstore_n n =>
    unfold xins at h
    dsimp only at h
    by_cases hl : len = 1
    · subst hl
      rw [if_pos rfl] at h
      unfold xls at h
      split at h
      · rename_i x rest
        split at h
        · rename_i hn
          have q := hF _ _ _ _ _ _ _ h
          exact ⟨q.1, fun C O L a1 a2 a3 a4 => lv_lstore_n C.1 C.2.1 hd rfl L.has hn rfl (fun ls1 hl1 => q.2 C O (xLoc.st2 (v := .long x) rfl hl1) a1 a2 a3 a4)⟩
        · cases h
      · cases h
    · rw [if_neg hl] at h
      cases h
  | lstore n =>
    unfold xins at h
    dsimp only at h
    by_cases hl : len = 2
    · subst hl
      rw [if_pos rfl] at h
      unfold xls at h
      split at h
      · rename_i x rest
        split at h
        · rename_i hn
          have q := hF _ _ _ _ _ _ _ h
          exact ⟨q.1, fun C O L a1 a2 a3 a4 => lv_lstore C.1 C.2.1 hd L.has hn rfl (fun ls1 hl1 => q.2 C O (xLoc.st2 (v := .long x) rfl hl1) a1 a2 a3 a4)⟩
        · cases h
      · cases h
    · rw [if_neg hl] at h
      cases h
  | iinc n d =>
    unfold xins at h
    dsimp only at h
    by_cases hl : len = 3
    · subst hl
      rw [if_pos rfl] at h
      unfold xinc at h
      split at h
      · rename_i x hx
        split at h
        · rename_i hn
          have q := hF _ _ _ _ _ _ _ h
          refine ⟨q.1, fun {p e s m args below meth c A ad mc ms cells slots N0 S0 H locs ls} C O L a1 a2 a3 a4 => ?_⟩
          obtain ⟨j, hj⟩ := List.getElem?_of_mem (xasc_mem (ad := ad) hx)
          exact lv_iinc C.1 C.2.1 hd L.has hj rfl hn rfl (fun ls1 hl1 => q.2 C O (xLoc.st1 (v := .int (x + Int32.ofInt d)) rfl hl1) a1 a2 a3 a4)
        · cases h
      · cases h
    · rw [if_neg hl] at h
      cases h
  | iadd =>
    unfold xins at h
    dsimp only at h
    by_cases hl : len = 1
    · subst hl
      rw [if_pos rfl] at h
      unfold xi2 at h
      split at h
      · rename_i y x rest
        have q := hF _ _ _ _ _ _ _ h
        exact ⟨q.1, fun C O L a1 a2 a3 a4 => lv_iadd C.1 C.2.1 hd (q.2 C O L a1 a2 a3 a4)⟩
      · cases h
    · rw [if_neg hl] at h
      cases h
  | isub =>
    unfold xins at h
    dsimp only at h
    by_cases hl : len = 1
    · subst hl
      rw [if_pos rfl] at h
      unfold xi2 at h
      split at h
      · rename_i y x rest
        have q := hF _ _ _ _ _ _ _ h
        exact ⟨q.1, fun C O L a1 a2 a3 a4 => lv_isub C.1 C.2.1 hd (q.2 C O L a1 a2 a3 a4)⟩
      · cases h
    · rw [if_neg hl] at h
      cases h
  | imul =>
    unfold xins at h
    dsimp only at h
    by_cases hl : len = 1
    · subst hl
      rw [if_pos rfl] at h
      unfold xi2 at h
      split at h
      · rename_i y x rest
        have q := hF _ _ _ _ _ _ _ h
        exact ⟨q.1, fun C O L a1 a2 a3 a4 => lv_imul C.1 C.2.1 hd (q.2 C O L a1 a2 a3 a4)⟩
      · cases h
    · rw [if_neg hl] at h
      cases h
  | iand =>
    unfold xins at h
    dsimp only at h
    by_cases hl : len = 1
    · subst hl
      rw [if_pos rfl] at h
      unfold xi2 at h
      split at h
      · rename_i y x rest
        have q := hF _ _ _ _ _ _ _ h
        exact ⟨q.1, fun C O L a1 a2 a3 a4 => lv_iand C.1 C.2.1 hd (q.2 C O L a1 a2 a3 a4)⟩
      · cases h
    · rw [if_neg hl] at h
      cases h
  | ior =>
    unfold xins at h
    dsimp only at h
    by_cases hl : len = 1
    · subst hl
      rw [if_pos rfl] at h
      unfold xi2 at h
      split at h
      · rename_i y x rest
        have q := hF _ _ _ _ _ _ _ h
        exact ⟨q.1, fun C O L a1 a2 a3 a4 => lv_ior C.1 C.2.1 hd (q.2 C O L a1 a2 a3 a4)⟩
      · cases h
    · rw [if_neg hl] at h
      cases h
  | ishr =>
    unfold xins at h
    dsimp only at h
    by_cases hl : len = 1
    · subst hl
      rw [if_pos rfl] at h
      unfold xi2 at h
      split at h
      · rename_i y x rest
        have q := hF _ _ _ _ _ _ _ h
        exact ⟨q.1, fun C O L a1 a2 a3 a4 => lv_ishr C.1 C.2.1 hd (q.2 C O L a1 a2 a3 a4)⟩
      · cases h
    · rw [if_neg hl] at h
      cases h
  | ladd =>
    unfold xins at h
    dsimp only at h
    by_cases hl : len = 1
    · subst hl
      rw [if_pos rfl] at h
      unfold xl2 at h
      split at h
      · rename_i y x rest
        have q := hF _ _ _ _ _ _ _ h
        exact ⟨q.1, fun C O L a1 a2 a3 a4 => lv_ladd C.1 C.2.1 hd (q.2 C O L a1 a2 a3 a4)⟩
      · cases h
    · rw [if_neg hl] at h
      cases h
  | lsub =>
    unfold xins at h
    dsimp only at h
    by_cases hl : len = 1
    · subst hl
      rw [if_pos rfl] at h
      unfold xl2 at h
      split at h
      · rename_i y x rest
        have q := hF _ _ _ _ _ _ _ h
        exact ⟨q.1, fun C O L a1 a2 a3 a4 => lv_lsub C.1 C.2.1 hd (q.2 C O L a1 a2 a3 a4)⟩
      · cases h
    · rw [if_neg hl] at h
      cases h
  | lmul =>
    unfold xins at h
    dsimp only at h
    by_cases hl : len = 1
    · subst hl
      rw [if_pos rfl] at h
      unfold xl2 at h
      split at h
      · rename_i y x rest
        have q := hF _ _ _ _ _ _ _ h
        exact ⟨q.1, fun C O L a1 a2 a3 a4 => lv_lmul C.1 C.2.1 hd (q.2 C O L a1 a2 a3 a4)⟩
      · cases h
    · rw [if_neg hl] at h
      cases h
  | land =>
    unfold xins at h
    dsimp only at h
    by_cases hl : len = 1
    · subst hl
      rw [if_pos rfl] at h
      unfold xl2 at h
      split at h
      · rename_i y x rest
        have q := hF _ _ _ _ _ _ _ h
        exact ⟨q.1, fun C O L a1 a2 a3 a4 => lv_land C.1 C.2.1 hd (q.2 C O L a1 a2 a3 a4)⟩
      · cases h
    · rw [if_neg hl] at h
      cases h
  | lor =>
    unfold xins at h
    dsimp only at h
    by_cases hl : len = 1
    · subst hl
      rw [if_pos rfl] at h
      unfold xl2 at h
      split at h
      · rename_i y x rest
        have q := hF _ _ _ _ _ _ _ h
        exact ⟨q.1, fun C O L a1 a2 a3 a4 => lv_lor C.1 C.2.1 hd (q.2 C O L a1 a2 a3 a4)⟩
      · cases h
    · rw [if_neg hl] at h
      cases h
  | lxor =>
    unfold xins at h
    dsimp only at h
    by_cases hl : len = 1
    · subst hl
      rw [if_pos rfl] at h
      unfold xl2 at h
      split at h
      · rename_i y x rest
        have q := hF _ _ _ _ _ _ _ h
        exact ⟨q.1, fun C O L a1 a2 a3 a4 => lv_lxor C.1 C.2.1 hd (q.2 C O L a1 a2 a3 a4)⟩
      · cases h
    · rw [if_neg hl] at h
      cases h
  | idiv =>
    unfold xins at h
    dsimp only at h
    by_cases hl : len = 1
    · subst hl
      rw [if_pos rfl] at h
      unfold xid at h
      split at h
      · rename_i y x rest
        split at h
        · cases h
        · rename_i hy
          have q := hF _ _ _ _ _ _ _ h
          exact ⟨q.1, fun C O L a1 a2 a3 a4 => lv_idiv C.1 C.2.1 hd hy (q.2 C O L a1 a2 a3 a4)⟩
      · cases h
    · rw [if_neg hl] at h
      cases h
  | irem =>
    unfold xins at h
    dsimp only at h
    by_cases hl : len = 1
    · subst hl
      rw [if_pos rfl] at h
      unfold xid at h
      split at h
      · rename_i y x rest
        split at h
        · cases h
        · rename_i hy
          have q := hF _ _ _ _ _ _ _ h
          exact ⟨q.1, fun C O L a1 a2 a3 a4 => lv_irem C.1 C.2.1 hd hy (q.2 C O L a1 a2 a3 a4)⟩
      · cases h
    · rw [if_neg hl] at h
      cases h
  | ldiv =>
    unfold xins at h
    dsimp only at h
    by_cases hl : len = 1
    · subst hl
      rw [if_pos rfl] at h
      unfold xld at h
      split at h
      · rename_i y x rest
        split at h
        · cases h
        · rename_i hy
          have q := hF _ _ _ _ _ _ _ h
          exact ⟨q.1, fun C O L a1 a2 a3 a4 => lv_ldiv C.1 C.2.1 hd hy (q.2 C O L a1 a2 a3 a4)⟩
      · cases h
    · rw [if_neg hl] at h
      cases h
  | lrem =>
    unfold xins at h
    dsimp only at h
    by_cases hl : len = 1
    · subst hl
      rw [if_pos rfl] at h
      unfold xld at h
      split at h
      · rename_i y x rest
        split at h
        · cases h
        · rename_i hy
          have q := hF _ _ _ _ _ _ _ h
          exact ⟨q.1, fun C O L a1 a2 a3 a4 => lv_lrem C.1 C.2.1 hd hy (q.2 C O L a1 a2 a3 a4)⟩
      · cases h
    · rw [if_neg hl] at h
      cases h
  | lshl =>
    unfold xins at h
    dsimp only at h
    by_cases hl : len = 1
    · subst hl
      rw [if_pos rfl] at h
      unfold xlsh at h
      split at h
      · rename_i y x rest
        have q := hF _ _ _ _ _ _ _ h
        exact ⟨q.1, fun C O L a1 a2 a3 a4 => lv_lshl C.1 C.2.1 hd rfl (q.2 C O L a1 a2 a3 a4)⟩
      · cases h
    · rw [if_neg hl] at h
      cases h
  | lshr =>
    unfold xins at h
    dsimp only at h
    by_cases hl : len = 1
    · subst hl
      rw [if_pos rfl] at h
      unfold xlsh at h
      split at h
      · rename_i y x rest
        have q := hF _ _ _ _ _ _ _ h
        exact ⟨q.1, fun C O L a1 a2 a3 a4 => lv_lshr C.1 C.2.1 hd rfl (q.2 C O L a1 a2 a3 a4)⟩
      · cases h
    · rw [if_neg hl] at h
      cases h
  | ineg =>
    unfold xins at h
    dsimp only at h
    by_cases hl : len = 1
    · subst hl
      rw [if_pos rfl] at h
      split at h
      · rename_i x rest
        have q := hF _ _ _ _ _ _ _ h
        exact ⟨q.1, fun C O L a1 a2 a3 a4 => lv_ineg C.1 C.2.1 hd (q.2 C O L a1 a2 a3 a4)⟩
      · cases h
    · rw [if_neg hl] at h
      cases h
  | lneg =>
    unfold xins at h
    dsimp only at h
    by_cases hl : len = 1
    · subst hl
      rw [if_pos rfl] at h
      split at h
      · rename_i x rest
        have q := hF _ _ _ _ _ _ _ h
        exact ⟨q.1, fun C O L a1 a2 a3 a4 => lv_lneg C.1 C.2.1 hd (q.2 C O L a1 a2 a3 a4)⟩
      · cases h
    · rw [if_neg hl] at h
      cases h
  | i2l =>
    unfold xins at h
    dsimp only at h
    by_cases hl : len = 1
    · subst hl
      rw [if_pos rfl] at h
      split at h
      · rename_i x rest
        have q := hF _ _ _ _ _ _ _ h
        exact ⟨q.1, fun C O L a1 a2 a3 a4 => lv_i2l C.1 C.2.1 hd rfl (q.2 C O L a1 a2 a3 a4)⟩
      · cases h
    · rw [if_neg hl] at h
      cases h
  | l2i =>
    unfold xins at h
    dsimp only at h
    by_cases hl : len = 1
    · subst hl
      rw [if_pos rfl] at h
      split at h
      · rename_i x rest
        have q := hF _ _ _ _ _ _ _ h
        exact ⟨q.1, fun C O L a1 a2 a3 a4 => lv_l2i C.1 C.2.1 hd rfl (q.2 C O L a1 a2 a3 a4)⟩
      · cases h
    · rw [if_neg hl] at h
      cases h
  | lcmp =>
    unfold xins at h
    dsimp only at h
    by_cases hl : len = 1
    · subst hl
      rw [if_pos rfl] at h
      split at h
      · rename_i y x rest
        have q := hF _ _ _ _ _ _ _ h
        exact ⟨q.1, fun C O L a1 a2 a3 a4 => W.lcmp C.1 C.2.1 hd (q.2 C O L a1 a2 a3 a4)⟩
      · cases h
    · rw [if_neg hl] at h
      cases h
  | ifCond cn off =>
    unfold xins at h
    dsimp only at h
    by_cases hl : len = 3
    · subst hl
      rw [if_pos rfl] at h
      split at h
      · rename_i x rest
        cases cn with
        | eq =>
          obtain ⟨ht, ⟨hc, q⟩ | ⟨hc, q⟩⟩ := xs_br hF h
          · exact ⟨q.1, fun C O L a1 a2 a3 a4 => lv_if_eq C.1 C.2.1 hd ht (fun _ => q.2 C O L a1 a2 a3 a4) (fun z => absurd hc z)⟩
          · exact ⟨q.1, fun C O L a1 a2 a3 a4 => lv_if_eq C.1 C.2.1 hd ht (fun z => absurd z hc) (fun _ => q.2 C O L a1 a2 a3 a4)⟩
        | ne =>
          obtain ⟨ht, ⟨hc, q⟩ | ⟨hc, q⟩⟩ := xs_br hF h
          · exact ⟨q.1, fun C O L a1 a2 a3 a4 => lv_if_ne C.1 C.2.1 hd ht (fun _ => q.2 C O L a1 a2 a3 a4) (fun z => absurd z hc)⟩
          · exact ⟨q.1, fun C O L a1 a2 a3 a4 => lv_if_ne C.1 C.2.1 hd ht (fun z => absurd z hc) (fun _ => q.2 C O L a1 a2 a3 a4)⟩
        | lt =>
          obtain ⟨ht, ⟨hc, q⟩ | ⟨hc, q⟩⟩ := xs_br hF h
          · exact ⟨q.1, fun C O L a1 a2 a3 a4 => lv_if_lt C.1 C.2.1 hd ht (fun _ => q.2 C O L a1 a2 a3 a4) (fun z => absurd hc z)⟩
          · exact ⟨q.1, fun C O L a1 a2 a3 a4 => lv_if_lt C.1 C.2.1 hd ht (fun z => absurd z hc) (fun _ => q.2 C O L a1 a2 a3 a4)⟩
        | ge =>
          obtain ⟨ht, ⟨hc, q⟩ | ⟨hc, q⟩⟩ := xs_br hF h
          · exact ⟨q.1, fun C O L a1 a2 a3 a4 => lv_if_ge C.1 C.2.1 hd ht (fun _ => q.2 C O L a1 a2 a3 a4) (fun z => absurd hc z)⟩
          · exact ⟨q.1, fun C O L a1 a2 a3 a4 => lv_if_ge C.1 C.2.1 hd ht (fun z => absurd z hc) (fun _ => q.2 C O L a1 a2 a3 a4)⟩
        | gt =>
          obtain ⟨ht, ⟨hc, q⟩ | ⟨hc, q⟩⟩ := xs_br hF h
          · exact ⟨q.1, fun C O L a1 a2 a3 a4 => lv_if_gt C.1 C.2.1 hd ht (fun _ => q.2 C O L a1 a2 a3 a4) (fun z => absurd hc z)⟩
          · exact ⟨q.1, fun C O L a1 a2 a3 a4 => lv_if_gt C.1 C.2.1 hd ht (fun z => absurd z hc) (fun _ => q.2 C O L a1 a2 a3 a4)⟩
        | le =>
          obtain ⟨ht, ⟨hc, q⟩ | ⟨hc, q⟩⟩ := xs_br hF h
          · exact ⟨q.1, fun C O L a1 a2 a3 a4 => lv_if_le C.1 C.2.1 hd ht (fun _ => q.2 C O L a1 a2 a3 a4) (fun z => absurd hc z)⟩
          · exact ⟨q.1, fun C O L a1 a2 a3 a4 => lv_if_le C.1 C.2.1 hd ht (fun z => absurd z hc) (fun _ => q.2 C O L a1 a2 a3 a4)⟩
      · cases h
    · rw [if_neg hl] at h
      cases h
  | if_icmp cn off =>
    unfold xins at h
    dsimp only at h
    by_cases hl : len = 3
    · subst hl
      rw [if_pos rfl] at h
      split at h
      · rename_i y x rest
        cases cn with
        | eq =>
          obtain ⟨ht, ⟨hc, q⟩ | ⟨hc, q⟩⟩ := xs_br hF h
          · exact ⟨q.1, fun C O L a1 a2 a3 a4 => lv_icmp_eq C.1 C.2.1 hd ht (fun _ => q.2 C O L a1 a2 a3 a4) (fun z => absurd hc z)⟩
          · exact ⟨q.1, fun C O L a1 a2 a3 a4 => lv_icmp_eq C.1 C.2.1 hd ht (fun z => absurd z hc) (fun _ => q.2 C O L a1 a2 a3 a4)⟩
        | ne =>
          obtain ⟨ht, ⟨hc, q⟩ | ⟨hc, q⟩⟩ := xs_br hF h
          · exact ⟨q.1, fun C O L a1 a2 a3 a4 => lv_icmp_ne C.1 C.2.1 hd ht (fun _ => q.2 C O L a1 a2 a3 a4) (fun z => absurd z hc)⟩
          · exact ⟨q.1, fun C O L a1 a2 a3 a4 => lv_icmp_ne C.1 C.2.1 hd ht (fun z => absurd z hc) (fun _ => q.2 C O L a1 a2 a3 a4)⟩
        | lt =>
          obtain ⟨ht, ⟨hc, q⟩ | ⟨hc, q⟩⟩ := xs_br hF h
          · exact ⟨q.1, fun C O L a1 a2 a3 a4 => lv_icmp_lt C.1 C.2.1 hd ht (fun _ => q.2 C O L a1 a2 a3 a4) (fun z => absurd hc z)⟩
          · exact ⟨q.1, fun C O L a1 a2 a3 a4 => lv_icmp_lt C.1 C.2.1 hd ht (fun z => absurd z hc) (fun _ => q.2 C O L a1 a2 a3 a4)⟩
        | ge =>
          obtain ⟨ht, ⟨hc, q⟩ | ⟨hc, q⟩⟩ := xs_br hF h
          · exact ⟨q.1, fun C O L a1 a2 a3 a4 => lv_icmp_ge C.1 C.2.1 hd ht (fun _ => q.2 C O L a1 a2 a3 a4) (fun z => absurd hc z)⟩
          · exact ⟨q.1, fun C O L a1 a2 a3 a4 => lv_icmp_ge C.1 C.2.1 hd ht (fun z => absurd z hc) (fun _ => q.2 C O L a1 a2 a3 a4)⟩
        | gt =>
          obtain ⟨ht, ⟨hc, q⟩ | ⟨hc, q⟩⟩ := xs_br hF h
          · exact ⟨q.1, fun C O L a1 a2 a3 a4 => lv_icmp_gt C.1 C.2.1 hd ht (fun _ => q.2 C O L a1 a2 a3 a4) (fun z => absurd hc z)⟩
          · exact ⟨q.1, fun C O L a1 a2 a3 a4 => lv_icmp_gt C.1 C.2.1 hd ht (fun z => absurd z hc) (fun _ => q.2 C O L a1 a2 a3 a4)⟩
        | le =>
          obtain ⟨ht, ⟨hc, q⟩ | ⟨hc, q⟩⟩ := xs_br hF h
          · exact ⟨q.1, fun C O L a1 a2 a3 a4 => lv_icmp_le C.1 C.2.1 hd ht (fun _ => q.2 C O L a1 a2 a3 a4) (fun z => absurd hc z)⟩
          · exact ⟨q.1, fun C O L a1 a2 a3 a4 => lv_icmp_le C.1 C.2.1 hd ht (fun z => absurd z hc) (fun _ => q.2 C O L a1 a2 a3 a4)⟩
      · cases h
    · rw [if_neg hl] at h
      cases h
  | goto off =>
    unfold xins at h
    dsimp only at h
    by_cases hl : len = 3
    · subst hl
      rw [if_pos rfl] at h
      obtain ⟨ht, q⟩ := xs_jump hF h
      exact ⟨q.1, fun C O L a1 a2 a3 a4 => lv_goto C.1 C.2.1 hd ht (q.2 C O L a1 a2 a3 a4)⟩
    · rw [if_neg hl] at h
      cases h
  | tableswitch d lo hi offs =>
    unfold xins at h
    dsimp only at h
    split at h
    · rename_i x rest
      split at h
      · rename_i hc
        obtain ⟨ht, q⟩ := xs_jump hF h
        exact ⟨q.1, fun C O L a1 a2 a3 a4 => lv_tableOut C.1 C.2.1 hd hc ht (q.2 C O L a1 a2 a3 a4)⟩
      · rename_i hc
        split at h
        · rename_i off ho
          obtain ⟨ht, q⟩ := xs_jump hF h
          exact ⟨q.1, fun C O L a1 a2 a3 a4 => lv_tableIn C.1 C.2.1 hd (fun z => hc (Or.inl z)) (fun z => hc (Or.inr z)) ho ht (q.2 C O L a1 a2 a3 a4)⟩
        · cases h
    · cases h
  | dup =>
    unfold xins at h
    dsimp only at h
    by_cases hl : len = 1
    · subst hl
      rw [if_pos rfl] at h
      split at h
      · rename_i x rest
        split at h
        · rename_i hc
          have q := hF _ _ _ _ _ _ _ h
          exact ⟨q.1, fun C O L a1 a2 a3 a4 => lv_dup C.1 C.2.1 hd ((xtv_cat x).trans hc) (q.2 C O L a1 a2 a3 a4)⟩
        · cases h
      · cases h
    · rw [if_neg hl] at h
      cases h
  | dup2 =>
    unfold xins at h
    dsimp only at h
    by_cases hl : len = 1
    · subst hl
      rw [if_pos rfl] at h
      split at h
      · rename_i x y rest
        split at h
        · rename_i hc
          have q := hF _ _ _ _ _ _ _ h
          exact ⟨q.1, fun C O L a1 a2 a3 a4 => lv_dup2_11 C.1 C.2.1 hd ((xtv_cat x).trans hc.1) ((xtv_cat y).trans hc.2) (q.2 C O L a1 a2 a3 a4)⟩
        · cases h
      · cases h
    · rw [if_neg hl] at h
      cases h
  | pop =>
    unfold xins at h
    dsimp only at h
    by_cases hl : len = 1
    · subst hl
      rw [if_pos rfl] at h
      split at h
      · rename_i x rest
        split at h
        · rename_i hc
          have q := hF _ _ _ _ _ _ _ h
          exact ⟨q.1, fun C O L a1 a2 a3 a4 => lv_pop C.1 C.2.1 hd ((xtv_cat x).trans hc) (q.2 C O L a1 a2 a3 a4)⟩
        · cases h
      · cases h
    · rw [if_neg hl] at h
      cases h
  | getfield ix =>
    unfold xins at h
    dsimp only at h
    by_cases hl : len = 3
    · subst hl
      rw [if_pos rfl] at h
      exact xs_getf hF hd h
    · rw [if_neg hl] at h
      cases h
  | putfield ix =>
    unfold xins at h
    dsimp only at h
    by_cases hl : len = 3
    · subst hl
      rw [if_pos rfl] at h
      exact xs_putf hF hd h
    · rw [if_neg hl] at h
      cases h
  | getstatic ix =>
    unfold xins at h
    dsimp only at h
    by_cases hl : len = 3
    · subst hl
      rw [if_pos rfl] at h
      exact xs_gets hF hd h
    · rw [if_neg hl] at h
      cases h
  | iaload =>
    unfold xins at h
    dsimp only at h
    by_cases hl : len = 1
    · subst hl
      rw [if_pos rfl] at h
      exact xs_ald hF hd h
    · rw [if_neg hl] at h
      cases h
  | laload =>
    unfold xins at h
    dsimp only at h
    by_cases hl : len = 1
    · subst hl
      rw [if_pos rfl] at h
      exact xs_lald hF hd h
    · rw [if_neg hl] at h
      cases h
  | iastore =>
    unfold xins at h
    dsimp only at h
    by_cases hl : len = 1
    · subst hl
      rw [if_pos rfl] at h
      exact xs_iast hF hd h
    · rw [if_neg hl] at h
      cases h
  | lastore =>
    unfold xins at h
    dsimp only at h
    by_cases hl : len = 1
    · subst hl
      rw [if_pos rfl] at h
      exact xs_last hF hd h
    · rw [if_neg hl] at h
      cases h
  | arraylength =>
    unfold xins at h
    dsimp only at h
    by_cases hl : len = 1
    · subst hl
      rw [if_pos rfl] at h
      exact xs_alen hF hd h
    · rw [if_neg hl] at h
      cases h
  | newarray t =>
    unfold xins at h
    dsimp only at h
    by_cases hl : len = 2
    · subst hl
      rw [if_pos rfl] at h
      exact xs_newa hF hd h
    · rw [if_neg hl] at h
      cases h
  | new ix =>
    unfold xins at h
    dsimp only at h
    by_cases hl : len = 3
    · subst hl
      rw [if_pos rfl] at h
      exact xs_new hF hd h
    · rw [if_neg hl] at h
      cases h
  | invokevirtual ix =>
    unfold xins at h
    dsimp only at h
    by_cases hl : len = 3
    · subst hl
      rw [if_pos rfl] at h
      exact xs_invV hF hd h
    · rw [if_neg hl] at h
      cases h
  | invokestatic ix =>
    unfold xins at h
    dsimp only at h
    by_cases hl : len = 3
    · subst hl
      rw [if_pos rfl] at h
      exact xs_invS hF hd h
    · rw [if_neg hl] at h
      cases h
  | invokespecial ix =>
    unfold xins at h
    dsimp only at h
    by_cases hl : len = 3
    · subst hl
      rw [if_pos rfl] at h
      exact xs_invI hF hk hd h
    · rw [if_neg hl] at h
      cases h
  | ireturn =>
    unfold xins at h
    dsimp only at h
    by_cases hl : len = 1
    · subst hl
      rw [if_pos rfl] at h
      split at h
      · rename_i x
        split at h
        · rename_i hr
          cases h
          refine ⟨⟨Nat.le_refl _, Nat.le_refl _⟩, fun {p e s m args below meth c A ad mc ms cells slots N0 S0 H locs ls} C O L a1 a2 a3 a4 => ?_⟩
          have e1 : mc = cells := by omega
          have e2 : ms = slots := by omega
          subst e1
          subst e2
          have hn : ∃ ty, xret k = some ty ∧ narrow ty (.int x) = .int x := by
            rcases hr with hr | ⟨hr, hx⟩
            · exact ⟨_, hr, rfl⟩
            · exact ⟨_, hr, by rcases hx with rfl | rfl <;> rfl⟩
          obtain ⟨ty, hr, hn⟩ := hn
          exact W.zret C.1 C.2.1 (C.2.2.1.trans hr) hn (fun t ht hW => ⟨rfl, ⟨by rw [ht]; exact O.1, va_K.moved hW.alike C.2.2.2.2.2.2.2.2.2.1, O.2.1, O.2.2.2.1, by rw [ht]; exact O.2.2.2.2.1⟩, O.2.2.1.F ht⟩) O.2.2.1.2.2 hd C.2.2.2.2.1
        · cases h
      · cases h
    · rw [if_neg hl] at h
      cases h
  | lreturn =>
    unfold xins at h
    dsimp only at h
    by_cases hl : len = 1
    · subst hl
      rw [if_pos rfl] at h
      split at h
      · rename_i x
        split at h
        · rename_i hr
          cases h
          refine ⟨⟨Nat.le_refl _, Nat.le_refl _⟩, fun {p e s m args below meth c A ad mc ms cells slots N0 S0 H locs ls} C O L a1 a2 a3 a4 => ?_⟩
          have e1 : mc = cells := by omega
          have e2 : ms = slots := by omega
          subst e1
          subst e2
          exact W.lret C.1 C.2.1 (C.2.2.1.trans hr) (fun t ht hW => ⟨rfl, ⟨by rw [ht]; exact O.1, va_K.moved hW.alike C.2.2.2.2.2.2.2.2.2.1, O.2.1, O.2.2.2.1, by rw [ht]; exact O.2.2.2.2.1⟩, O.2.2.1.F ht⟩) O.2.2.1.2.2 hd C.2.2.2.2.1
        · cases h
      · cases h
    · rw [if_neg hl] at h
      cases h
  | return_ =>
    unfold xins at h
    dsimp only at h
    by_cases hl : len = 1
    · subst hl
      rw [if_pos rfl] at h
      split at h
      · skip
        split at h
        · rename_i hr
          cases h
          refine ⟨⟨Nat.le_refl _, Nat.le_refl _⟩, fun {p e s m args below meth c A ad mc ms cells slots N0 S0 H locs ls} C O L a1 a2 a3 a4 => ?_⟩
          have e1 : mc = cells := by omega
          have e2 : ms = slots := by omega
          subst e1
          subst e2
          exact W.vret C.1 C.2.1 (C.2.2.1.trans hr) (fun t ht hW => ⟨rfl, ⟨by rw [ht]; exact O.1, va_K.moved hW.alike C.2.2.2.2.2.2.2.2.2.1, O.2.1, O.2.2.2.1, by rw [ht]; exact O.2.2.2.2.1⟩, O.2.2.1.F ht⟩) O.2.2.1.2.2 hd C.2.2.2.2.1
        · cases h
      · cases h
    · rw [if_neg hl] at h
      cases h
  | _ =>
    unfold xins at h
    cases h
end XC
theorem x_ownAll (k : Nat) : xown k < 15 := by
  by_cases hk : k < 307
  · exact x_ownLt k hk
  · unfold xown xmi
    rw [List.getD_eq_getElem?_getD, List.getElem?_eq_none (by rw [x_mlen]; omega)]
    show 0 < 15
    omega
/-- what the pure machine comes to, the machine comes to -/
theorem x_sound (l : Launch) (D : va_G) (cI cL : ClassId) : ∀ n, xOkF l D cI cL (xrun n) := by
  intro n
  induction n with
  | zero =>
    intro k pc ll st w v w' h
    cases h
  | succ n ih =>
    intro k pc ll st w v w' h
    unfold xrun at h
    split at h
    · rename_i i len e
      exact x_ins ih (x_ownAll k) (x_dec e) h
    · cases h
/-- a call of the pure machine is a contract of the method -/
theorem xCall.met {l : Launch} {z : Nat} {as : List Value} {w w1 : xW} {v1 : Option Value} (h : xCall z as w (v1, w1)) (hz : z < 307) (hent : (xent1 as).length ≤ xml z) (D : va_G) (cI cL : ClassId) (ad : Nat → Nat) (sz : Nat) {mc ms : Nat} (h1 : mc + w.length = w1.length) (h2 : ms + xsl w = xsl w1) :
    Met l (xy z) (xTs z) (xRm z mc ms) (xPre D cI cL ad as w sz) (xPost D cI cL ad (va_A (xtw cI cL ad w) sz) v1 w1) mc ms (va_A (xtw cI cL ad w) sz) := by
  obtain ⟨n, hn⟩ := h
  exact x_met (x_sound l D cI cL n _ _ _ _ _ _ _ (hn n (Nat.le_refl n))) hz hent ad sz h1 h2
end
section
/-! RULES: from a place of the pure machine to the next -/
def irem (x y : Int32) : Int32 := x - x / y * y
def lrem (x y : Int64) : Int64 := x - x / y * y
def xroom (k z : Nat) : Bool := Nat.ble (xfr z + 1) (xfr k) && Nat.ble (8 + (xml z + 11) + xlo z) (xlo k) && Nat.blt z 307
section GO
variable {k pc pc' : Nat} {l l' : List (Option Value)} {st : List Value} {w : xW} {r : Option Value × xW}
theorem g_of {i : Instr} {len : Nat} (hd : xcode k pc = some (i, len)) (h : ∃ n, ∀ m, n ≤ m → xins (xrun m) k pc l st w i len = some r) : xGo k pc l st w r := by
  obtain ⟨n, hn⟩ := h
  refine ⟨n + 1, fun m hm => ?_⟩
  match m, hm with
  | m + 1, hm =>
    show (match xcode k pc with | some (i, len) => xins (xrun m) k pc l st w i len | none => none) = some r
    rw [hd]
    exact hn m (by omega)
theorem g_iconst {n : Int} {v : Int32} (hd : xcode k pc = some (.iconst n, 1)) (hp : pc + 1 = pc') (hv : Int32.ofInt n = v) (h : xGo k pc' l (.int v :: st) w r) : xGo k pc l st w r := by subst hp; subst hv; exact g_of hd h
theorem g_bipush {n : Int} {v : Int32} (hd : xcode k pc = some (.bipush n, 2)) (hp : pc + 2 = pc') (hv : (Int8.ofInt n).toInt32 = v) (h : xGo k pc' l (.int v :: st) w r) : xGo k pc l st w r := by subst hp; subst hv; exact g_of hd h
theorem g_sipush {n : Int} {v : Int32} (hd : xcode k pc = some (.sipush n, 3)) (hp : pc + 3 = pc') (hv : (Int16.ofInt n).toInt32 = v) (h : xGo k pc' l (.int v :: st) w r) : xGo k pc l st w r := by subst hp; subst hv; exact g_of hd h
theorem g_lconst {n : Fin 2} {v : Int64} (hd : xcode k pc = some (.lconst n, 1)) (hp : pc + 1 = pc') (hv : Int64.ofNat (n : Nat) = v) (h : xGo k pc' l (.long v :: st) w r) : xGo k pc l st w r := by subst hp; subst hv; exact g_of hd h
theorem g_ldc {ix a b : Nat} {c : Int} {v : Int32} (hd : xcode k pc = some (.ldc ix, 2)) (hp : pc + 2 = pc') (hs : xsite k ix = some (9, a, b, c)) (hv : Int32.ofInt c = v) (h : xGo k pc' l (.int v :: st) w r) : xGo k pc l st w r := by
  subst hp; subst hv
  refine g_of hd ?_
  simp only [xins, hs, if_true]
  exact h
theorem g_ldcw {ix a b : Nat} {c : Int} {v : Int32} (hd : xcode k pc = some (.ldc_w ix, 3)) (hp : pc + 3 = pc') (hs : xsite k ix = some (9, a, b, c)) (hv : Int32.ofInt c = v) (h : xGo k pc' l (.int v :: st) w r) : xGo k pc l st w r := by
  subst hp; subst hv
  refine g_of hd ?_
  simp only [xins, hs, if_true]
  exact h
theorem g_ldc2 {ix a b : Nat} {c : Int} {v : Int64} (hd : xcode k pc = some (.ldc2_w ix, 3)) (hp : pc + 3 = pc') (hs : xsite k ix = some (10, a, b, c)) (hv : Int64.ofInt c = v) (h : xGo k pc' l (.long v :: st) w r) : xGo k pc l st w r := by
  subst hp; subst hv
  refine g_of hd ?_
  simp only [xins, hs, if_true]
  exact h
theorem g_iloadn {n : Fin 4} {x : Int32} (hd : xcode k pc = some (.iload_n n, 1)) (hp : pc + 1 = pc') (hx : l[(n : Nat)]? = some (some (.int x))) (h : xGo k pc' l (.int x :: st) w r) : xGo k pc l st w r := by
  subst hp
  refine g_of hd ?_
  simp only [xins, xild, hx, if_true]
  exact h
theorem g_iload {n : Nat} {x : Int32} (hd : xcode k pc = some (.iload n, 2)) (hp : pc + 2 = pc') (hx : l[n]? = some (some (.int x))) (h : xGo k pc' l (.int x :: st) w r) : xGo k pc l st w r := by
  subst hp
  refine g_of hd ?_
  simp only [xins, xild, hx, if_true]
  exact h
theorem g_lloadn {n : Fin 4} {x : Int64} (hd : xcode k pc = some (.lload_n n, 1)) (hp : pc + 1 = pc') (hx : l[(n : Nat)]? = some (some (.long x))) (h : xGo k pc' l (.long x :: st) w r) : xGo k pc l st w r := by
  subst hp
  refine g_of hd ?_
  simp only [xins, xlld, hx, if_true]
  exact h
theorem g_lload {n : Nat} {x : Int64} (hd : xcode k pc = some (.lload n, 2)) (hp : pc + 2 = pc') (hx : l[n]? = some (some (.long x))) (h : xGo k pc' l (.long x :: st) w r) : xGo k pc l st w r := by
  subst hp
  refine g_of hd ?_
  simp only [xins, xlld, hx, if_true]
  exact h
theorem g_aloadn {n : Fin 4} {x : Nat} (hd : xcode k pc = some (.aload_n n, 1)) (hp : pc + 1 = pc') (hx : l[(n : Nat)]? = some (some (.ref x))) (h : xGo k pc' l (.ref x :: st) w r) : xGo k pc l st w r := by
  subst hp
  refine g_of hd ?_
  simp only [xins, xaldr, hx, if_true]
  exact h
theorem g_aload {n : Nat} {x : Nat} (hd : xcode k pc = some (.aload n, 2)) (hp : pc + 2 = pc') (hx : l[n]? = some (some (.ref x))) (h : xGo k pc' l (.ref x :: st) w r) : xGo k pc l st w r := by
  subst hp
  refine g_of hd ?_
  simp only [xins, xaldr, hx, if_true]
  exact h
theorem g_istoren {n : Fin 4} {x : Int32} (hd : xcode k pc = some (.istore_n n, 1)) (hp : pc + 1 = pc') (hn : Nat.blt (n : Nat) (xml k) = true) (hl : xst1 l (n : Nat) (.int x) = l') (h : xGo k pc' l' st w r) : xGo k pc l (.int x :: st) w r := by
  subst hp; subst hl
  have hn : (n : Nat) < xml k := Nat.le_of_ble_eq_true hn
  refine g_of hd ?_
  simp only [xins, xis, if_true, if_pos hn]
  exact h
theorem g_istore {n : Nat} {x : Int32} (hd : xcode k pc = some (.istore n, 2)) (hp : pc + 2 = pc') (hn : Nat.blt n (xml k) = true) (hl : xst1 l n (.int x) = l') (h : xGo k pc' l' st w r) : xGo k pc l (.int x :: st) w r := by
  subst hp; subst hl
  have hn : n < xml k := Nat.le_of_ble_eq_true hn
  refine g_of hd ?_
  simp only [xins, xis, if_true, if_pos hn]
  exact h
theorem g_astoren {n : Fin 4} {x : Nat} (hd : xcode k pc = some (.astore_n n, 1)) (hp : pc + 1 = pc') (hn : Nat.blt (n : Nat) (xml k) = true) (hl : xst1 l (n : Nat) (.ref x) = l') (h : xGo k pc' l' st w r) : xGo k pc l (.ref x :: st) w r := by
  subst hp; subst hl
  have hn : (n : Nat) < xml k := Nat.le_of_ble_eq_true hn
  refine g_of hd ?_
  simp only [xins, xas, if_true, if_pos hn]
  exact h
theorem g_astore {n : Nat} {x : Nat} (hd : xcode k pc = some (.astore n, 2)) (hp : pc + 2 = pc') (hn : Nat.blt n (xml k) = true) (hl : xst1 l n (.ref x) = l') (h : xGo k pc' l' st w r) : xGo k pc l (.ref x :: st) w r := by
  subst hp; subst hl
  have hn : n < xml k := Nat.le_of_ble_eq_true hn
  refine g_of hd ?_
  simp only [xins, xas, if_true, if_pos hn]
  exact h
theorem g_lstoren {n : Fin 4} {x : Int64} (hd : xcode k pc = some (.lstore_n n, 1)) (hp : pc + 1 = pc') (hn : Nat.blt ((n : Nat) + 1) (xml k) = true) (hl : xst2 l (n : Nat) (.long x) = l') (h : xGo k pc' l' st w r) : xGo k pc l (.long x :: st) w r := by
  subst hp; subst hl
  have hn : (n : Nat) + 1 < xml k := Nat.le_of_ble_eq_true hn
  refine g_of hd ?_
  simp only [xins, xls, if_true, if_pos hn]
  exact h
theorem g_lstore {n : Nat} {x : Int64} (hd : xcode k pc = some (.lstore n, 2)) (hp : pc + 2 = pc') (hn : Nat.blt (n + 1) (xml k) = true) (hl : xst2 l n (.long x) = l') (h : xGo k pc' l' st w r) : xGo k pc l (.long x :: st) w r := by
  subst hp; subst hl
  have hn : n + 1 < xml k := Nat.le_of_ble_eq_true hn
  refine g_of hd ?_
  simp only [xins, xls, if_true, if_pos hn]
  exact h
theorem g_iinc {n : Nat} {d : Int} {x v : Int32} (hd : xcode k pc = some (.iinc n d, 3)) (hp : pc + 3 = pc') (hx : l[n]? = some (some (.int x))) (hv : Int32.ofInt d = v) (hn : Nat.blt n (xml k) = true) (hl : xst1 l n (.int (x + v)) = l') (h : xGo k pc' l' st w r) : xGo k pc l st w r := by
  subst hp; subst hl; subst hv
  have hn : n < xml k := Nat.le_of_ble_eq_true hn
  refine g_of hd ?_
  simp only [xins, xinc, hx, if_true, if_pos hn]
  exact h
theorem g_iadd {x y : Int32} (hd : xcode k pc = some (.iadd, 1)) (hp : pc + 1 = pc') (h : xGo k pc' l (.int (x + y) :: st) w r) : xGo k pc l (.int y :: .int x :: st) w r := by subst hp; exact g_of hd h
theorem g_isub {x y : Int32} (hd : xcode k pc = some (.isub, 1)) (hp : pc + 1 = pc') (h : xGo k pc' l (.int (x - y) :: st) w r) : xGo k pc l (.int y :: .int x :: st) w r := by subst hp; exact g_of hd h
theorem g_imul {x y : Int32} (hd : xcode k pc = some (.imul, 1)) (hp : pc + 1 = pc') (h : xGo k pc' l (.int (x * y) :: st) w r) : xGo k pc l (.int y :: .int x :: st) w r := by subst hp; exact g_of hd h
theorem g_iand {x y : Int32} (hd : xcode k pc = some (.iand, 1)) (hp : pc + 1 = pc') (h : xGo k pc' l (.int (x &&& y) :: st) w r) : xGo k pc l (.int y :: .int x :: st) w r := by subst hp; exact g_of hd h
theorem g_ior {x y : Int32} (hd : xcode k pc = some (.ior, 1)) (hp : pc + 1 = pc') (h : xGo k pc' l (.int (x ||| y) :: st) w r) : xGo k pc l (.int y :: .int x :: st) w r := by subst hp; exact g_of hd h
theorem g_ishr {x y : Int32} (hd : xcode k pc = some (.ishr, 1)) (hp : pc + 1 = pc') (h : xGo k pc' l (.int (x >>> (y &&& 31)) :: st) w r) : xGo k pc l (.int y :: .int x :: st) w r := by subst hp; exact g_of hd h
theorem g_ladd {x y : Int64} (hd : xcode k pc = some (.ladd, 1)) (hp : pc + 1 = pc') (h : xGo k pc' l (.long (x + y) :: st) w r) : xGo k pc l (.long y :: .long x :: st) w r := by subst hp; exact g_of hd h
theorem g_lsub {x y : Int64} (hd : xcode k pc = some (.lsub, 1)) (hp : pc + 1 = pc') (h : xGo k pc' l (.long (x - y) :: st) w r) : xGo k pc l (.long y :: .long x :: st) w r := by subst hp; exact g_of hd h
theorem g_lmul {x y : Int64} (hd : xcode k pc = some (.lmul, 1)) (hp : pc + 1 = pc') (h : xGo k pc' l (.long (x * y) :: st) w r) : xGo k pc l (.long y :: .long x :: st) w r := by subst hp; exact g_of hd h
theorem g_land {x y : Int64} (hd : xcode k pc = some (.land, 1)) (hp : pc + 1 = pc') (h : xGo k pc' l (.long (x &&& y) :: st) w r) : xGo k pc l (.long y :: .long x :: st) w r := by subst hp; exact g_of hd h
theorem g_lor {x y : Int64} (hd : xcode k pc = some (.lor, 1)) (hp : pc + 1 = pc') (h : xGo k pc' l (.long (x ||| y) :: st) w r) : xGo k pc l (.long y :: .long x :: st) w r := by subst hp; exact g_of hd h
theorem g_lxor {x y : Int64} (hd : xcode k pc = some (.lxor, 1)) (hp : pc + 1 = pc') (h : xGo k pc' l (.long (x ^^^ y) :: st) w r) : xGo k pc l (.long y :: .long x :: st) w r := by subst hp; exact g_of hd h
theorem g_idiv {x y : Int32} (hd : xcode k pc = some (.idiv, 1)) (hp : pc + 1 = pc') (hy : ¬ y = 0) (h : xGo k pc' l (.int (x / y) :: st) w r) : xGo k pc l (.int y :: .int x :: st) w r := by
  subst hp
  refine g_of hd ?_
  simp only [xins, xid, if_true, if_neg hy]
  exact h
theorem g_irem {x y : Int32} (hd : xcode k pc = some (.irem, 1)) (hp : pc + 1 = pc') (hy : ¬ y = 0) (h : xGo k pc' l (.int (irem x y) :: st) w r) : xGo k pc l (.int y :: .int x :: st) w r := by
  subst hp
  refine g_of hd ?_
  simp only [xins, xid, if_true, if_neg hy]
  exact h
theorem g_ldiv {x y : Int64} (hd : xcode k pc = some (.ldiv, 1)) (hp : pc + 1 = pc') (hy : ¬ y = 0) (h : xGo k pc' l (.long (x / y) :: st) w r) : xGo k pc l (.long y :: .long x :: st) w r := by
  subst hp
  refine g_of hd ?_
  simp only [xins, xld, if_true, if_neg hy]
  exact h
theorem g_lrem {x y : Int64} (hd : xcode k pc = some (.lrem, 1)) (hp : pc + 1 = pc') (hy : ¬ y = 0) (h : xGo k pc' l (.long (lrem x y) :: st) w r) : xGo k pc l (.long y :: .long x :: st) w r := by
  subst hp
  refine g_of hd ?_
  simp only [xins, xld, if_true, if_neg hy]
  exact h
theorem g_lshl {x : Int64} {y : Int32} (hd : xcode k pc = some (.lshl, 1)) (hp : pc + 1 = pc') (h : xGo k pc' l (.long (x <<< (y.toInt64 &&& 63)) :: st) w r) : xGo k pc l (.int y :: .long x :: st) w r := by subst hp; exact g_of hd h
theorem g_lshr {x : Int64} {y : Int32} (hd : xcode k pc = some (.lshr, 1)) (hp : pc + 1 = pc') (h : xGo k pc' l (.long (x >>> (y.toInt64 &&& 63)) :: st) w r) : xGo k pc l (.int y :: .long x :: st) w r := by subst hp; exact g_of hd h
theorem g_ineg {x : Int32} (hd : xcode k pc = some (.ineg, 1)) (hp : pc + 1 = pc') (h : xGo k pc' l (.int (-x) :: st) w r) : xGo k pc l (.int x :: st) w r := by subst hp; exact g_of hd h
theorem g_lneg {x : Int64} (hd : xcode k pc = some (.lneg, 1)) (hp : pc + 1 = pc') (h : xGo k pc' l (.long (-x) :: st) w r) : xGo k pc l (.long x :: st) w r := by subst hp; exact g_of hd h
theorem g_i2l {x : Int32} (hd : xcode k pc = some (.i2l, 1)) (hp : pc + 1 = pc') (h : xGo k pc' l (.long (x.toInt64) :: st) w r) : xGo k pc l (.int x :: st) w r := by subst hp; exact g_of hd h
theorem g_l2i {x : Int64} (hd : xcode k pc = some (.l2i, 1)) (hp : pc + 1 = pc') (h : xGo k pc' l (.int (x.toInt32) :: st) w r) : xGo k pc l (.long x :: st) w r := by subst hp; exact g_of hd h
theorem g_lcmp {x y : Int64} (hd : xcode k pc = some (.lcmp, 1)) (hp : pc + 1 = pc') (h : xGo k pc' l (.int (lg_cmp x y) :: st) w r) : xGo k pc l (.long y :: .long x :: st) w r := by subst hp; exact g_of hd h
theorem g_br {F : xK} {b : Bool} {off : Int} {res : Option Value × xW} {pt : Nat} (hz : (pc : Int) + off = (pt : Int)) (ht : b = true → F k pt l st w = some res) (hf : b = false → F k (pc + 3) l st w = some res) : xbr F b k pc off l st w = some res := by
  unfold xbr
  have h0 : 0 ≤ (pc : Int) + off := by omega
  have e : xtgt pc off = pt := by unfold xtgt; omega
  rw [if_pos h0, e]
  cases b with
  | true => rw [if_pos rfl]; exact ht rfl
  | false => rw [if_neg (by decide)]; exact hf rfl
theorem g_both {c : Prop} [Decidable c] {off : Int} {pt : Nat} (hz : (pc : Int) + off = (pt : Int)) (hp : pc + 3 = pc') (ht : c → xGo k pt l st w r) (hf : ¬ c → xGo k pc' l st w r) : ∃ n, ∀ m, n ≤ m → xbr (xrun m) (decide c) k pc off l st w = some r := by
  subst hp
  by_cases hc : c
  · obtain ⟨n, hn⟩ := ht hc
    exact ⟨n, fun m hm => g_br hz (fun _ => hn m hm) (fun q => absurd hc (of_decide_eq_false q))⟩
  · obtain ⟨n, hn⟩ := hf hc
    exact ⟨n, fun m hm => g_br hz (fun q => absurd (of_decide_eq_true q) hc) (fun _ => hn m hm)⟩
theorem g_if_eq {x : Int32} {off : Int} {pt : Nat} (hd : xcode k pc = some (.ifCond .eq off, 3)) (hz : (pc : Int) + off = (pt : Int)) (hp : pc + 3 = pc') (ht : x = 0 → xGo k pt l st w r) (hf : ¬ (x = 0) → xGo k pc' l st w r) : xGo k pc l (.int x :: st) w r := g_of hd (g_both hz hp ht hf)
theorem g_ic_eq {x y : Int32} {off : Int} {pt : Nat} (hd : xcode k pc = some (.if_icmp .eq off, 3)) (hz : (pc : Int) + off = (pt : Int)) (hp : pc + 3 = pc') (ht : x = y → xGo k pt l st w r) (hf : ¬ (x = y) → xGo k pc' l st w r) : xGo k pc l (.int y :: .int x :: st) w r := g_of hd (g_both hz hp ht hf)
theorem g_if_ne {x : Int32} {off : Int} {pt : Nat} (hd : xcode k pc = some (.ifCond .ne off, 3)) (hz : (pc : Int) + off = (pt : Int)) (hp : pc + 3 = pc') (ht : ¬ x = 0 → xGo k pt l st w r) (hf : ¬ (¬ x = 0) → xGo k pc' l st w r) : xGo k pc l (.int x :: st) w r := g_of hd (g_both hz hp ht hf)
theorem g_ic_ne {x y : Int32} {off : Int} {pt : Nat} (hd : xcode k pc = some (.if_icmp .ne off, 3)) (hz : (pc : Int) + off = (pt : Int)) (hp : pc + 3 = pc') (ht : ¬ x = y → xGo k pt l st w r) (hf : ¬ (¬ x = y) → xGo k pc' l st w r) : xGo k pc l (.int y :: .int x :: st) w r := g_of hd (g_both hz hp ht hf)
theorem g_if_lt {x : Int32} {off : Int} {pt : Nat} (hd : xcode k pc = some (.ifCond .lt off, 3)) (hz : (pc : Int) + off = (pt : Int)) (hp : pc + 3 = pc') (ht : x < 0 → xGo k pt l st w r) (hf : ¬ (x < 0) → xGo k pc' l st w r) : xGo k pc l (.int x :: st) w r := g_of hd (g_both hz hp ht hf)
theorem g_ic_lt {x y : Int32} {off : Int} {pt : Nat} (hd : xcode k pc = some (.if_icmp .lt off, 3)) (hz : (pc : Int) + off = (pt : Int)) (hp : pc + 3 = pc') (ht : x < y → xGo k pt l st w r) (hf : ¬ (x < y) → xGo k pc' l st w r) : xGo k pc l (.int y :: .int x :: st) w r := g_of hd (g_both hz hp ht hf)
theorem g_if_ge {x : Int32} {off : Int} {pt : Nat} (hd : xcode k pc = some (.ifCond .ge off, 3)) (hz : (pc : Int) + off = (pt : Int)) (hp : pc + 3 = pc') (ht : 0 ≤ x → xGo k pt l st w r) (hf : ¬ (0 ≤ x) → xGo k pc' l st w r) : xGo k pc l (.int x :: st) w r := g_of hd (g_both hz hp ht hf)
theorem g_ic_ge {x y : Int32} {off : Int} {pt : Nat} (hd : xcode k pc = some (.if_icmp .ge off, 3)) (hz : (pc : Int) + off = (pt : Int)) (hp : pc + 3 = pc') (ht : y ≤ x → xGo k pt l st w r) (hf : ¬ (y ≤ x) → xGo k pc' l st w r) : xGo k pc l (.int y :: .int x :: st) w r := g_of hd (g_both hz hp ht hf)
theorem g_if_gt {x : Int32} {off : Int} {pt : Nat} (hd : xcode k pc = some (.ifCond .gt off, 3)) (hz : (pc : Int) + off = (pt : Int)) (hp : pc + 3 = pc') (ht : 0 < x → xGo k pt l st w r) (hf : ¬ (0 < x) → xGo k pc' l st w r) : xGo k pc l (.int x :: st) w r := g_of hd (g_both hz hp ht hf)
theorem g_ic_gt {x y : Int32} {off : Int} {pt : Nat} (hd : xcode k pc = some (.if_icmp .gt off, 3)) (hz : (pc : Int) + off = (pt : Int)) (hp : pc + 3 = pc') (ht : y < x → xGo k pt l st w r) (hf : ¬ (y < x) → xGo k pc' l st w r) : xGo k pc l (.int y :: .int x :: st) w r := g_of hd (g_both hz hp ht hf)
theorem g_if_le {x : Int32} {off : Int} {pt : Nat} (hd : xcode k pc = some (.ifCond .le off, 3)) (hz : (pc : Int) + off = (pt : Int)) (hp : pc + 3 = pc') (ht : x ≤ 0 → xGo k pt l st w r) (hf : ¬ (x ≤ 0) → xGo k pc' l st w r) : xGo k pc l (.int x :: st) w r := g_of hd (g_both hz hp ht hf)
theorem g_ic_le {x y : Int32} {off : Int} {pt : Nat} (hd : xcode k pc = some (.if_icmp .le off, 3)) (hz : (pc : Int) + off = (pt : Int)) (hp : pc + 3 = pc') (ht : x ≤ y → xGo k pt l st w r) (hf : ¬ (x ≤ y) → xGo k pc' l st w r) : xGo k pc l (.int y :: .int x :: st) w r := g_of hd (g_both hz hp ht hf)
theorem lg_cmp_cases (x y : Int64) : (x < y ∧ lg_cmp x y = -1) ∨ (x = y ∧ lg_cmp x y = 0) ∨ (y < x ∧ lg_cmp x y = 1) := by
  by_cases h1 : y < x
  · exact Or.inr (Or.inr ⟨h1, by simp [lg_cmp, h1]⟩)
  · by_cases h2 : x = y
    · subst h2
      exact Or.inr (Or.inl ⟨rfl, by simp [lg_cmp]⟩)
    · have h3 : x < y := Int64.lt_of_le_of_ne (Int64.not_lt.mp h1) h2
      exact Or.inl ⟨h3, by simp [lg_cmp, h1, h2]⟩
theorem lg_eq (x y : Int64) : ((lg_cmp x y) = 0) ↔ (x = y) := by
  have i1 : ∀ z : Int64, ¬ z < z := fun _ => Int64.lt_irrefl
  rcases lg_cmp_cases x y with ⟨h, e⟩ | ⟨h, e⟩ | ⟨h, e⟩
  · rw [e]
    have n1 : ¬ x = y := fun q => i1 _ (q ▸ h)
    have n2 : ¬ y < x := fun q => i1 _ (Int64.lt_trans h q)
    have n3 : x ≤ y := Int64.le_of_lt h
    have n4 : ¬ y ≤ x := Int64.not_le.mpr h
    simp [h, n1, n2, n3, n4]
    try decide
  · subst h
    rw [e]
    simp [i1, Int64.le_refl]
  · rw [e]
    have n1 : ¬ x = y := fun q => i1 _ (q ▸ h)
    have n2 : ¬ x < y := fun q => i1 _ (Int64.lt_trans h q)
    have n3 : y ≤ x := Int64.le_of_lt h
    have n4 : ¬ x ≤ y := Int64.not_le.mpr h
    simp [h, n1, n2, n3, n4]
    try decide
theorem g_lc_eq {x y : Int64} {off : Int} {pm pt : Nat} (hd : xcode k pc = some (.lcmp, 1)) (hq : pc + 1 = pm) (hd2 : xcode k pm = some (.ifCond .eq off, 3)) (hz : (pm : Int) + off = (pt : Int)) (hp : pm + 3 = pc') (ht : x = y → xGo k pt l st w r) (hf : ¬ (x = y) → xGo k pc' l st w r) : xGo k pc l (.long y :: .long x :: st) w r :=
  g_lcmp hd hq (g_if_eq hd2 hz hp (fun q => ht ((lg_eq x y).mp q)) (fun q => hf (fun z => q ((lg_eq x y).mpr z))))
theorem lg_ne (x y : Int64) : (¬ (lg_cmp x y) = 0) ↔ (¬ x = y) := by
  have i1 : ∀ z : Int64, ¬ z < z := fun _ => Int64.lt_irrefl
  rcases lg_cmp_cases x y with ⟨h, e⟩ | ⟨h, e⟩ | ⟨h, e⟩
  · rw [e]
    have n1 : ¬ x = y := fun q => i1 _ (q ▸ h)
    have n2 : ¬ y < x := fun q => i1 _ (Int64.lt_trans h q)
    have n3 : x ≤ y := Int64.le_of_lt h
    have n4 : ¬ y ≤ x := Int64.not_le.mpr h
    simp [h, n1, n2, n3, n4]
    try decide
  · subst h
    rw [e]
    simp [i1, Int64.le_refl]
  · rw [e]
    have n1 : ¬ x = y := fun q => i1 _ (q ▸ h)
    have n2 : ¬ x < y := fun q => i1 _ (Int64.lt_trans h q)
    have n3 : y ≤ x := Int64.le_of_lt h
    have n4 : ¬ x ≤ y := Int64.not_le.mpr h
    simp [h, n1, n2, n3, n4]
    try decide
theorem g_lc_ne {x y : Int64} {off : Int} {pm pt : Nat} (hd : xcode k pc = some (.lcmp, 1)) (hq : pc + 1 = pm) (hd2 : xcode k pm = some (.ifCond .ne off, 3)) (hz : (pm : Int) + off = (pt : Int)) (hp : pm + 3 = pc') (ht : ¬ x = y → xGo k pt l st w r) (hf : ¬ (¬ x = y) → xGo k pc' l st w r) : xGo k pc l (.long y :: .long x :: st) w r :=
  g_lcmp hd hq (g_if_ne hd2 hz hp (fun q => ht ((lg_ne x y).mp q)) (fun q => hf (fun z => q ((lg_ne x y).mpr z))))
theorem lg_lt (x y : Int64) : ((lg_cmp x y) < 0) ↔ (x < y) := by
  have i1 : ∀ z : Int64, ¬ z < z := fun _ => Int64.lt_irrefl
  rcases lg_cmp_cases x y with ⟨h, e⟩ | ⟨h, e⟩ | ⟨h, e⟩
  · rw [e]
    have n1 : ¬ x = y := fun q => i1 _ (q ▸ h)
    have n2 : ¬ y < x := fun q => i1 _ (Int64.lt_trans h q)
    have n3 : x ≤ y := Int64.le_of_lt h
    have n4 : ¬ y ≤ x := Int64.not_le.mpr h
    simp [h, n1, n2, n3, n4]
    try decide
  · subst h
    rw [e]
    simp [i1, Int64.le_refl]
  · rw [e]
    have n1 : ¬ x = y := fun q => i1 _ (q ▸ h)
    have n2 : ¬ x < y := fun q => i1 _ (Int64.lt_trans h q)
    have n3 : y ≤ x := Int64.le_of_lt h
    have n4 : ¬ x ≤ y := Int64.not_le.mpr h
    simp [h, n1, n2, n3, n4]
    try decide
theorem g_lc_lt {x y : Int64} {off : Int} {pm pt : Nat} (hd : xcode k pc = some (.lcmp, 1)) (hq : pc + 1 = pm) (hd2 : xcode k pm = some (.ifCond .lt off, 3)) (hz : (pm : Int) + off = (pt : Int)) (hp : pm + 3 = pc') (ht : x < y → xGo k pt l st w r) (hf : ¬ (x < y) → xGo k pc' l st w r) : xGo k pc l (.long y :: .long x :: st) w r :=
  g_lcmp hd hq (g_if_lt hd2 hz hp (fun q => ht ((lg_lt x y).mp q)) (fun q => hf (fun z => q ((lg_lt x y).mpr z))))
theorem lg_ge (x y : Int64) : (0 ≤ (lg_cmp x y)) ↔ (y ≤ x) := by
  have i1 : ∀ z : Int64, ¬ z < z := fun _ => Int64.lt_irrefl
  rcases lg_cmp_cases x y with ⟨h, e⟩ | ⟨h, e⟩ | ⟨h, e⟩
  · rw [e]
    have n1 : ¬ x = y := fun q => i1 _ (q ▸ h)
    have n2 : ¬ y < x := fun q => i1 _ (Int64.lt_trans h q)
    have n3 : x ≤ y := Int64.le_of_lt h
    have n4 : ¬ y ≤ x := Int64.not_le.mpr h
    simp [h, n1, n2, n3, n4]
    try decide
  · subst h
    rw [e]
    simp [i1, Int64.le_refl]
  · rw [e]
    have n1 : ¬ x = y := fun q => i1 _ (q ▸ h)
    have n2 : ¬ x < y := fun q => i1 _ (Int64.lt_trans h q)
    have n3 : y ≤ x := Int64.le_of_lt h
    have n4 : ¬ x ≤ y := Int64.not_le.mpr h
    simp [h, n1, n2, n3, n4]
    try decide
theorem g_lc_ge {x y : Int64} {off : Int} {pm pt : Nat} (hd : xcode k pc = some (.lcmp, 1)) (hq : pc + 1 = pm) (hd2 : xcode k pm = some (.ifCond .ge off, 3)) (hz : (pm : Int) + off = (pt : Int)) (hp : pm + 3 = pc') (ht : y ≤ x → xGo k pt l st w r) (hf : ¬ (y ≤ x) → xGo k pc' l st w r) : xGo k pc l (.long y :: .long x :: st) w r :=
  g_lcmp hd hq (g_if_ge hd2 hz hp (fun q => ht ((lg_ge x y).mp q)) (fun q => hf (fun z => q ((lg_ge x y).mpr z))))
theorem lg_gt (x y : Int64) : (0 < (lg_cmp x y)) ↔ (y < x) := by
  have i1 : ∀ z : Int64, ¬ z < z := fun _ => Int64.lt_irrefl
  rcases lg_cmp_cases x y with ⟨h, e⟩ | ⟨h, e⟩ | ⟨h, e⟩
  · rw [e]
    have n1 : ¬ x = y := fun q => i1 _ (q ▸ h)
    have n2 : ¬ y < x := fun q => i1 _ (Int64.lt_trans h q)
    have n3 : x ≤ y := Int64.le_of_lt h
    have n4 : ¬ y ≤ x := Int64.not_le.mpr h
    simp [h, n1, n2, n3, n4]
    try decide
  · subst h
    rw [e]
    simp [i1, Int64.le_refl]
  · rw [e]
    have n1 : ¬ x = y := fun q => i1 _ (q ▸ h)
    have n2 : ¬ x < y := fun q => i1 _ (Int64.lt_trans h q)
    have n3 : y ≤ x := Int64.le_of_lt h
    have n4 : ¬ x ≤ y := Int64.not_le.mpr h
    simp [h, n1, n2, n3, n4]
    try decide
theorem g_lc_gt {x y : Int64} {off : Int} {pm pt : Nat} (hd : xcode k pc = some (.lcmp, 1)) (hq : pc + 1 = pm) (hd2 : xcode k pm = some (.ifCond .gt off, 3)) (hz : (pm : Int) + off = (pt : Int)) (hp : pm + 3 = pc') (ht : y < x → xGo k pt l st w r) (hf : ¬ (y < x) → xGo k pc' l st w r) : xGo k pc l (.long y :: .long x :: st) w r :=
  g_lcmp hd hq (g_if_gt hd2 hz hp (fun q => ht ((lg_gt x y).mp q)) (fun q => hf (fun z => q ((lg_gt x y).mpr z))))
theorem lg_le (x y : Int64) : ((lg_cmp x y) ≤ 0) ↔ (x ≤ y) := by
  have i1 : ∀ z : Int64, ¬ z < z := fun _ => Int64.lt_irrefl
  rcases lg_cmp_cases x y with ⟨h, e⟩ | ⟨h, e⟩ | ⟨h, e⟩
  · rw [e]
    have n1 : ¬ x = y := fun q => i1 _ (q ▸ h)
    have n2 : ¬ y < x := fun q => i1 _ (Int64.lt_trans h q)
    have n3 : x ≤ y := Int64.le_of_lt h
    have n4 : ¬ y ≤ x := Int64.not_le.mpr h
    simp [h, n1, n2, n3, n4]
    try decide
  · subst h
    rw [e]
    simp [i1, Int64.le_refl]
  · rw [e]
    have n1 : ¬ x = y := fun q => i1 _ (q ▸ h)
    have n2 : ¬ x < y := fun q => i1 _ (Int64.lt_trans h q)
    have n3 : y ≤ x := Int64.le_of_lt h
    have n4 : ¬ x ≤ y := Int64.not_le.mpr h
    simp [h, n1, n2, n3, n4]
    try decide
theorem g_lc_le {x y : Int64} {off : Int} {pm pt : Nat} (hd : xcode k pc = some (.lcmp, 1)) (hq : pc + 1 = pm) (hd2 : xcode k pm = some (.ifCond .le off, 3)) (hz : (pm : Int) + off = (pt : Int)) (hp : pm + 3 = pc') (ht : x ≤ y → xGo k pt l st w r) (hf : ¬ (x ≤ y) → xGo k pc' l st w r) : xGo k pc l (.long y :: .long x :: st) w r :=
  g_lcmp hd hq (g_if_le hd2 hz hp (fun q => ht ((lg_le x y).mp q)) (fun q => hf (fun z => q ((lg_le x y).mpr z))))
theorem g_jump {F : xK} {off : Int} {res : Option Value × xW} {pt : Nat} (hz : (pc : Int) + off = (pt : Int)) (ht : F k pt l st w = some res) : xjump F k pc off l st w = some res := by
  unfold xjump
  have h0 : 0 ≤ (pc : Int) + off := by omega
  have e : xtgt pc off = pt := by unfold xtgt; omega
  rw [if_pos h0, e]
  exact ht
theorem g_goto {off : Int} {pt : Nat} (hd : xcode k pc = some (.goto off, 3)) (hz : (pc : Int) + off = (pt : Int)) (h : xGo k pt l st w r) : xGo k pc l st w r := by
  obtain ⟨n, hn⟩ := h
  exact g_of hd ⟨n, fun m hm => g_jump hz (hn m hm)⟩
theorem g_dup {v : Value} (hd : xcode k pc = some (.dup, 1)) (hp : pc + 1 = pc') (hc : v.category = 1) (h : xGo k pc' l (v :: v :: st) w r) : xGo k pc l (v :: st) w r := by
  subst hp
  refine g_of hd ?_
  simp only [xins, if_true, if_pos hc]
  exact h
theorem g_dup2 {v u : Value} (hd : xcode k pc = some (.dup2, 1)) (hp : pc + 1 = pc') (hc : v.category = 1 ∧ u.category = 1) (h : xGo k pc' l (v :: u :: v :: u :: st) w r) : xGo k pc l (v :: u :: st) w r := by
  subst hp
  refine g_of hd ?_
  simp only [xins, if_true, if_pos hc]
  exact h
theorem g_pop {v : Value} (hd : xcode k pc = some (.pop, 1)) (hp : pc + 1 = pc') (hc : v.category = 1) (h : xGo k pc' l st w r) : xGo k pc l (v :: st) w r := by
  subst hp
  refine g_of hd ?_
  simp only [xins, if_true, if_pos hc]
  exact h
theorem g_getf {ix ci j a : Nat} {c : Int} {fs : List Value} {v : Value} (hd : xcode k pc = some (.getfield ix, 3)) (hp : pc + 3 = pc') (hs : xsite k ix = some (4, ci, j, c)) (hw : w[a]? = some (.inr (ci, fs))) (hv : fs[j]? = some v) (h : xGo k pc' l (v :: st) w r) : xGo k pc l (.ref a :: st) w r := by
  subst hp
  refine g_of hd ?_
  simp only [xins, xgetf, hs, hw, hv, if_true]
  exact h
theorem g_putf {ix ci j a : Nat} {c : Int} {fs : List Value} {v : Value} {ty : FieldType} {fd : String × String × String × Bool} (hd : xcode k pc = some (.putfield ix, 3)) (hp : pc + 3 = pc') (hs : xsite k ix = some (4, ci, j, c)) (ht : (xts.getD ci [])[j]? = some ty) (hf : (xfs.getD ci [])[j]? = some fd) (hfit : xfits ty v = true) (hfin : fd.2.2.2 = false ∨ (xy k).name = "<init>" ∧ fd.1 = (xy k).cls) (hw : w[a]? = some (.inr (ci, fs))) (hj : j < fs.length) (h : xGo k pc' l st (w.set a (.inr (ci, fs.set j v))) r) : xGo k pc l (v :: .ref a :: st) w r := by
  subst hp
  refine g_of hd ?_
  simp only [xins, xputf, hs, hw, if_true, true_and, if_pos hj, ht, hf, hfit, if_pos hfin]
  exact h
theorem g_gets {ix t a b : Nat} {c : Int} (hd : xcode k pc = some (.getstatic ix, 3)) (hp : pc + 3 = pc') (hs : xsite k ix = some (t, a, b, c)) (ht : t = 6 ∨ t = 7) (h : xGo k pc' l (.ref xP :: st) w r) : xGo k pc l st w r := by
  subst hp
  refine g_of hd ?_
  rcases ht with rfl | rfl
  · simp only [xins, xgets, hs, if_true]
    exact h
  · simp only [xins, xgets, hs, if_true]
    exact h
theorem g_iald {a n : Nat} {f : Nat → Int32} {i : Int32} (hd : xcode k pc = some (.iaload, 1)) (hp : pc + 1 = pc') (hw : w[a]? = some (.inl (.inl (n, f)))) (hi : ¬ (i < 0 ∨ n ≤ i.toNatClampNeg)) (h : xGo k pc' l (.int (f i.toNatClampNeg) :: st) w r) : xGo k pc l (.int i :: .ref a :: st) w r := by
  subst hp
  refine g_of hd ?_
  simp only [xins, xald, hw, if_true, if_neg hi]
  exact h
theorem g_pald {i : Int32} (hd : xcode k pc = some (.iaload, 1)) (hp : pc + 1 = pc') (hw : w[xP]? = none) (hi : ¬ (i < 0 ∨ 46 ≤ i.toNatClampNeg)) (h : xGo k pc' l (.int (xpr i.toNatClampNeg) :: st) w r) : xGo k pc l (.int i :: .ref xP :: st) w r := by
  subst hp
  refine g_of hd ?_
  simp only [xins, xald, hw, if_true, if_neg hi]
  exact h
theorem g_lald {a n : Nat} {f : Nat → Int64} {i : Int32} (hd : xcode k pc = some (.laload, 1)) (hp : pc + 1 = pc') (hw : w[a]? = some (.inl (.inr (n, f)))) (hi : ¬ (i < 0 ∨ n ≤ i.toNatClampNeg)) (h : xGo k pc' l (.long (f i.toNatClampNeg) :: st) w r) : xGo k pc l (.int i :: .ref a :: st) w r := by
  subst hp
  refine g_of hd ?_
  simp only [xins, xlald, hw, if_true, if_neg hi]
  exact h
theorem g_iast {a n : Nat} {f : Nat → Int32} {i x : Int32} (hd : xcode k pc = some (.iastore, 1)) (hp : pc + 1 = pc') (hw : w[a]? = some (.inl (.inl (n, f)))) (hi : ¬ (i < 0 ∨ n ≤ i.toNatClampNeg)) (h : xGo k pc' l st (w.set a (.inl (.inl (n, upd f i.toNatClampNeg x)))) r) : xGo k pc l (.int x :: .int i :: .ref a :: st) w r := by
  subst hp
  refine g_of hd ?_
  simp only [xins, xiast, hw, if_true, if_neg hi]
  exact h
theorem g_last {a n : Nat} {f : Nat → Int64} {i : Int32} {x : Int64} (hd : xcode k pc = some (.lastore, 1)) (hp : pc + 1 = pc') (hw : w[a]? = some (.inl (.inr (n, f)))) (hi : ¬ (i < 0 ∨ n ≤ i.toNatClampNeg)) (h : xGo k pc' l st (w.set a (.inl (.inr (n, vp_updL f i.toNatClampNeg x)))) r) : xGo k pc l (.long x :: .int i :: .ref a :: st) w r := by
  subst hp
  refine g_of hd ?_
  simp only [xins, xlast, hw, if_true, if_neg hi]
  exact h
theorem g_leni {a n : Nat} {f : Nat → Int32} (hd : xcode k pc = some (.arraylength, 1)) (hp : pc + 1 = pc') (hw : w[a]? = some (.inl (.inl (n, f)))) (h : xGo k pc' l (.int (Int32.ofNat n) :: st) w r) : xGo k pc l (.ref a :: st) w r := by
  subst hp
  refine g_of hd ?_
  simp only [xins, xalen, hw, if_true]
  exact h
theorem g_lenl {a n : Nat} {f : Nat → Int64} (hd : xcode k pc = some (.arraylength, 1)) (hp : pc + 1 = pc') (hw : w[a]? = some (.inl (.inr (n, f)))) (h : xGo k pc' l (.int (Int32.ofNat n) :: st) w r) : xGo k pc l (.ref a :: st) w r := by
  subst hp
  refine g_of hd ?_
  simp only [xins, xalen, hw, if_true]
  exact h
theorem g_lenp (hd : xcode k pc = some (.arraylength, 1)) (hp : pc + 1 = pc') (hw : w[xP]? = none) (h : xGo k pc' l (.int 46 :: st) w r) : xGo k pc l (.ref xP :: st) w r := by
  subst hp
  refine g_of hd ?_
  simp only [xins, xalen, hw, if_true]
  exact h
theorem g_newi {n : Int32} (hd : xcode k pc = some (.newarray .int, 2)) (hp : pc + 2 = pc') (hn : ¬ (n < 0 ∨ 1000000 < n.toNatClampNeg ∨ xP ≤ w.length + 1)) (h : xGo k pc' l (.ref w.length :: st) (w ++ [.inl (.inl (n.toNatClampNeg, fun _ => 0))]) r) : xGo k pc l (.int n :: st) w r := by
  subst hp
  refine g_of hd ?_
  simp only [xins, xnewa, if_true, if_neg hn]
  exact h
theorem g_newl {n : Int32} (hd : xcode k pc = some (.newarray .long, 2)) (hp : pc + 2 = pc') (hn : ¬ (n < 0 ∨ 1000000 < n.toNatClampNeg ∨ xP ≤ w.length + 1)) (h : xGo k pc' l (.ref w.length :: st) (w ++ [.inl (.inr (n.toNatClampNeg, fun _ => 0))]) r) : xGo k pc l (.int n :: st) w r := by
  subst hp
  refine g_of hd ?_
  simp only [xins, xnewa, if_true, if_neg hn]
  exact h
theorem g_new {ix ci b : Nat} {c : Int} (hd : xcode k pc = some (.new ix, 3)) (hp : pc + 3 = pc') (hs : xsite k ix = some (8, ci, b, c)) (hn : ¬ xP ≤ w.length + 1) (h : xGo k pc' l (.ref w.length :: st) (w ++ [.inr (ci, xvs.getD ci [])]) r) : xGo k pc l st w r := by
  subst hp
  refine g_of hd ?_
  simp only [xins, xnew, hs, if_true, if_neg hn]
  exact h
theorem g_iret {v : Int32} (hd : xcode k pc = some (.ireturn, 1)) (hr : xret k = some .int) (h : r = (some (.int v), w)) : xGo k pc l [.int v] w r := by
  subst h
  refine g_of hd ⟨0, fun m _ => ?_⟩
  simp only [xins, if_true, hr, true_or]
theorem g_zret {v : Int32} (hd : xcode k pc = some (.ireturn, 1)) (hr : xret k = some .boolean) (hv : v = 0 ∨ v = 1) (h : r = (some (.int v), w)) : xGo k pc l [.int v] w r := by
  subst h
  refine g_of hd ⟨0, fun m _ => ?_⟩
  simp only [xins, if_true, hr, hv, true_and, or_true]
theorem g_lret {v : Int64} (hd : xcode k pc = some (.lreturn, 1)) (hr : xret k = some .long) (h : r = (some (.long v), w)) : xGo k pc l [.long v] w r := by
  subst h
  refine g_of hd ⟨0, fun m _ => ?_⟩
  simp only [xins, if_true, hr]
theorem g_vret (hd : xcode k pc = some (.return_, 1)) (hr : xret k = none) (h : r = (none, w)) : xGo k pc l [] w r := by
  subst h
  refine g_of hd ⟨0, fun m _ => ?_⟩
  simp only [xins, if_true, hr]
/-- a call: what the callee comes to, then the rest -/
theorem g_call {z : Nat} {as rest : List Value} {v : Option Value} {w1 : xW} (hp : pc + 3 = pc') (hr : xroom k z = true) (hc : Nat.ble (rest.map fun v => v.category).sum 8 = true) (he : Nat.ble (xent1 as).length (xml z) = true) (h1 : xCall z as w (v, w1)) (h2 : xGo k pc' l (v.toList ++ rest) w1 r) : ∃ n, ∀ m, n ≤ m → xgo (xrun m) k pc l w z as rest = some r := by
  subst hp
  obtain ⟨n1, q1⟩ := h1
  obtain ⟨n2, q2⟩ := h2
  refine ⟨max n1 n2, fun m hm => ?_⟩
  unfold xroom at hr
  simp only [Bool.and_eq_true, Nat.ble_eq, Nat.blt] at hr
  unfold xgo
  rw [if_pos ⟨hr.1.1, hr.1.2, Nat.le_of_ble_eq_true hc, Nat.le_of_ble_eq_true he, by rw [x_mlen]; have := hr.2; omega⟩, q1 m (by omega)]
  exact q2 m (by omega)
theorem g_callS {ix z t : Nat} {c : Int} {as rest : List Value} {v : Option Value} {w1 : xW} (hd : xcode k pc = some (.invokestatic ix, 3)) (hp : pc + 3 = pc') (hs : xsite k ix = some (t, z, 1, c)) (ht : t = 0 ∨ t = 1) (hst : st.drop (xna z) = rest) (has : (st.take (xna z)).reverse = as) (hl : Nat.ble (xna z) st.length = true) (hr : xroom k z = true) (hc : Nat.ble (rest.map fun v => v.category).sum 8 = true) (he : Nat.ble (xent1 as).length (xml z) = true) (h1 : xCall z as w (v, w1)) (h2 : xGo k pc' l (v.toList ++ rest) w1 r) : xGo k pc l st w r := by
  subst hst; subst has
  refine g_of hd ?_
  have hl := Nat.le_of_ble_eq_true hl
  rcases ht with rfl | rfl
  · simp only [xins, xinvS, hs, if_true, if_pos hl]
    exact g_call hp hr hc he h1 h2
  · simp only [xins, xinvS, hs, if_true, if_pos hl]
    exact g_call hp hr hc he h1 h2
theorem g_callV {ix z b : Nat} {c : Int} {as rest : List Value} {v : Option Value} {w1 : xW} {fs : List Value} (hd : xcode k pc = some (.invokevirtual ix, 3)) (hp : pc + 3 = pc') (hs : xsite k ix = some (0, z, 0, c)) (hst : st.drop (xna z) = .ref b :: rest) (has : .ref b :: (st.take (xna z)).reverse = as) (hl : Nat.ble (xna z + 1) st.length = true) (hr : xroom k z = true) (hc : Nat.ble (rest.map fun v => v.category).sum 8 = true) (he : Nat.ble (xent1 as).length (xml z) = true) (hw : w[b]? = some (.inr (xown z, fs))) (h1 : xCall z as w (v, w1)) (h2 : xGo k pc' l (v.toList ++ rest) w1 r) : xGo k pc l st w r := by
  subst has
  refine g_of hd ?_
  have hl := Nat.le_of_ble_eq_true hl
  simp only [xins, xinvV, hs, if_true, if_pos hl, hst, hw]
  exact g_call hp hr hc he h1 h2
theorem g_callI {ix z t b : Nat} {c : Int} {as rest : List Value} {v : Option Value} {w1 : xW} (hd : xcode k pc = some (.invokespecial ix, 3)) (hp : pc + 3 = pc') (hs : xsite k ix = some (t, z, 2, c)) (ht : t = 0 ∨ t = 1) (hst : st.drop (xna z) = .ref b :: rest) (has : .ref b :: (st.take (xna z)).reverse = as) (hl : Nat.ble (xna z + 1) st.length = true) (hr : xroom k z = true) (hc : Nat.ble (rest.map fun v => v.category).sum 8 = true) (he : Nat.ble (xent1 as).length (xml z) = true) (h1 : xCall z as w (v, w1)) (h2 : xGo k pc' l (v.toList ++ rest) w1 r) : xGo k pc l st w r := by
  subst has
  refine g_of hd ?_
  have hl := Nat.le_of_ble_eq_true hl
  rcases ht with rfl | rfl
  · simp only [xins, xinvI, hs, if_true, if_pos hl, hst]
    exact g_call hp hr hc he h1 h2
  · simp only [xins, xinvI, hs, if_true, if_pos hl, hst]
    exact g_call hp hr hc he h1 h2
theorem g_obj {ix a b a' : Nat} {c : Int} (hd : xcode k pc = some (.invokespecial ix, 3)) (hp : pc + 3 = pc') (hs : xsite k ix = some (2, a, b, c)) (hr : Nat.ble 1 (xfr k) = true) (hc : Nat.ble ((st.map fun v => v.category).sum + 12) (xlo k) = true) (h : xGo k pc' l st w r) : xGo k pc l (.ref a' :: st) w r := by
  subst hp
  refine g_of hd ?_
  simp only [xins, xinvI, hs, if_true, if_pos (And.intro (Nat.le_of_ble_eq_true hr) (Nat.le_of_ble_eq_true hc))]
  exact h
theorem g_cpyi {ix a0 b0 d a n0 n1 : Nat} {c : Int} {f g : Nat → Int32} {n dp sp : Int32} (hd : xcode k pc = some (.invokestatic ix, 3)) (hp : pc + 3 = pc') (hs : xsite k ix = some (3, a0, b0, c)) (hr : Nat.ble 1 (xfr k) = true) (hc : Nat.ble ((st.map fun v => v.category).sum + 18) (xlo k) = true) (hn : ¬ n < 0 ∧ ¬ dp < 0 ∧ ¬ sp < 0) (ha : w[a]? = some (.inl (.inl (n0, f)))) (hb : w[d]? = some (.inl (.inl (n1, g)))) (hi : sp.toNatClampNeg + n.toNatClampNeg ≤ n0 ∧ dp.toNatClampNeg + n.toNatClampNeg ≤ n1) (h : xGo k pc' l st (w.set d (.inl (.inl (n1, va_cpy f g sp.toNatClampNeg dp.toNatClampNeg n.toNatClampNeg)))) r) : xGo k pc l (.int n :: .int dp :: .ref d :: .int sp :: .ref a :: st) w r := by
  subst hp
  have hr := Nat.le_of_ble_eq_true hr
  have hc := Nat.le_of_ble_eq_true hc
  refine g_of hd ?_
  have hneg : ¬ (n < 0 ∨ dp < 0 ∨ sp < 0 ∨ xfr k < 1 ∨ xlo k < (st.map fun v => v.category).sum + 18) := by
    rintro (q | q | q | q | q)
    · exact hn.1 q
    · exact hn.2.1 q
    · exact hn.2.2 q
    · omega
    · omega
  simp only [xins, xinvS, hs, if_true, if_neg hneg, ha, hb, if_pos hi]
  exact h
theorem g_cpyl {ix a0 b0 d a n0 n1 : Nat} {c : Int} {f g : Nat → Int64} {n dp sp : Int32} (hd : xcode k pc = some (.invokestatic ix, 3)) (hp : pc + 3 = pc') (hs : xsite k ix = some (3, a0, b0, c)) (hr : Nat.ble 1 (xfr k) = true) (hc : Nat.ble ((st.map fun v => v.category).sum + 18) (xlo k) = true) (hn : ¬ n < 0 ∧ ¬ dp < 0 ∧ ¬ sp < 0) (ha : w[a]? = some (.inl (.inr (n0, f)))) (hb : w[d]? = some (.inl (.inr (n1, g)))) (hi : sp.toNatClampNeg + n.toNatClampNeg ≤ n0 ∧ dp.toNatClampNeg + n.toNatClampNeg ≤ n1) (h : xGo k pc' l st (w.set d (.inl (.inr (n1, va_cpy f g sp.toNatClampNeg dp.toNatClampNeg n.toNatClampNeg)))) r) : xGo k pc l (.int n :: .int dp :: .ref d :: .int sp :: .ref a :: st) w r := by
  subst hp
  have hr := Nat.le_of_ble_eq_true hr
  have hc := Nat.le_of_ble_eq_true hc
  refine g_of hd ?_
  have hneg : ¬ (n < 0 ∨ dp < 0 ∨ sp < 0 ∨ xfr k < 1 ∨ xlo k < (st.map fun v => v.category).sum + 18) := by
    rintro (q | q | q | q | q)
    · exact hn.1 q
    · exact hn.2.1 q
    · exact hn.2.2 q
    · omega
    · omega
  simp only [xins, xinvS, hs, if_true, if_neg hneg, ha, hb, if_pos hi]
  exact h
/-- a switch: of a number in the table -/
theorem g_tswIn {d lo hi off : Int} {offs : Array Int} {len pt : Nat} {x : Int32} (hd : xcode k pc = some (.tableswitch d lo hi offs, len)) (h1 : ¬ (x.toInt < lo ∨ hi < x.toInt)) (ho : offs[(x.toInt - lo).toNat]? = some off) (hz : (pc : Int) + off = (pt : Int)) (h : xGo k pt l st w r) : xGo k pc l (.int x :: st) w r := by
  obtain ⟨n, hn⟩ := h
  refine g_of hd ⟨n, fun m hm => ?_⟩
  simp only [xins, if_neg h1, ho]
  exact g_jump hz (hn m hm)
theorem g_tswOut {d lo hi : Int} {offs : Array Int} {len pt : Nat} {x : Int32} (hd : xcode k pc = some (.tableswitch d lo hi offs, len)) (h1 : x.toInt < lo ∨ hi < x.toInt) (hz : (pc : Int) + d = (pt : Int)) (h : xGo k pt l st w r) : xGo k pc l (.int x :: st) w r := by
  obtain ⟨n, hn⟩ := h
  refine g_of hd ⟨n, fun m hm => ?_⟩
  simp only [xins, if_pos h1]
  exact g_jump hz (hn m hm)
end GO
end
