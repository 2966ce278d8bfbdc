/-! number: what throws -/
abbrev nse : String := "java/util/NoSuchElementException"
abbrev nsn : List String := ["java/lang/RuntimeException", "java/lang/Exception"]
/-- the exception's own constructor hands its text on by entry 13 of its pool -/
def sixN : ByteArray := ⟨#[0x2a, 0x2b, 0xb7, 0x00, 0x0d, 0xb1]⟩
theorem sixN_0 : decode sixN 0 = .ok (.aload_n 0, 1) := by decide +kernel
theorem sixN_1 : decode sixN 1 = .ok (.aload_n 1, 1) := by decide +kernel
theorem sixN_2 : decode sixN 2 = .ok (.invokespecial 13, 3) := by decide +kernel
theorem sixN_5 : decode sixN 5 = .ok (.return_, 1) := by decide +kernel
def nTail : List Cond :=
  [.methodLink "BernoulliWays" 160 (Bundle.initS nse), .instantiable nse 6, .castable nse nse, .selects nse Bundle.tFill0 Bundle.tFill0, .selects nse Bundle.tFill Bundle.tFill,
   .lays nse Bundle.tN "cause" "Ljava/lang/Throwable;", .lays nse Bundle.tN "stackTrace" Bundle.steD, .lays nse Bundle.tN "suppressedExceptions" Bundle.listD, .lays nse Bundle.tN "detailMessage" "Ljava/lang/String;",
   .isRef (.static Bundle.tN "UNASSIGNED_STACK" Bundle.steD), .isRef (.static Bundle.tN "SUPPRESSED_SENTINEL" Bundle.listD),
   .fieldLink Bundle.tN 198 Bundle.tN "backtrace" "Ljava/lang/Object;", .lays Bundle.tN Bundle.tN "backtrace" "Ljava/lang/Object;", .lays nse Bundle.tN "backtrace" "Ljava/lang/Object;"]
def nAtoms : List Cond := Bundle.throwableAtoms ++ Bundle.throwableSAtoms ++ Bundle.passSAtoms nse "java/lang/RuntimeException" 13 sixN ++ Bundle.chainSAtoms "java/lang/RuntimeException" ["java/lang/Exception"] ++ nTail
/-- the words that a callee can't take over as they are -/
def nOdd : List Cond := [.castable nse nse, .declares (Bundle.initS "java/lang/RuntimeException"), .declares (Bundle.initS "java/lang/Exception"), .declares (Bundle.initS Bundle.tN)]
theorem n_bad : ∀ w ∈ (nAtoms.filter vx_no).filter (fun w => !goodWord w), w ∈ nOdd := by decide +kernel
theorem n_good : ∀ w ∈ (nAtoms.filter vx_no).filter goodWord, w ∈ lw_tbl := by decide +kernel
theorem n_odd : ∀ w ∈ nOdd, w ∈ lw_tbl := by decide +kernel
theorem n_ot : ∀ w ∈ Cond.classLink "BernoulliWays" 156 nse :: Cond.initialized nse :: nAtoms.filter vx_no, vx_ot w = true := by decide +kernel
theorem n_w1 : Cond.classLink "BernoulliWays" 156 nse ∈ lw_tbl ∧ Cond.initialized nse ∈ lw_tbl ∧ Cond.castable nse nse ∈ lw_tbl ∧ Cond.stringRef "BernoulliWays" 158 "what is 0, 1 or 2" ∈ lw_tbl := by decide +kernel
theorem n_w2 : Cond.laysStatic Bundle.tN "UNASSIGNED_STACK" Bundle.steD ∈ lw_tbl ∧ Cond.laysStatic Bundle.tN "SUPPRESSED_SENTINEL" Bundle.listD ∈ lw_tbl ∧ Cond.initialized Bundle.tN ∈ lw_tbl := by decide +kernel
theorem n_w3 : Cond.codeWith ⟨"BernoulliWaysLaw", "number", "(LBernoulliWays;II[J)I"⟩ method_3_code 5 (some .int) [(0, 9, 12, 13)] ∈ lw_tbl ∧ Cond.classLink "BernoulliWaysLaw" 13 nse ∈ lw_tbl := by decide +kernel
theorem n_g1 : goodWord (Cond.codeWith ⟨"BernoulliWaysLaw", "number", "(LBernoulliWays;II[J)I"⟩ method_3_code 5 (some .int) [(0, 9, 12, 13)]) = true ∧ goodWord (Cond.classLink "BernoulliWaysLaw" 13 nse) = true ∧ goodWord (Cond.classLink "BernoulliWays" 156 nse) = true ∧ goodWord (Cond.initialized nse) = true := by decide +kernel
theorem n_d7 : decode (xb 187) 7 = .ok (.new 156, 3) := by decide +kernel
theorem n_d10 : decode (xb 187) 10 = .ok (.dup, 1) := by decide +kernel
theorem n_d11 : decode (xb 187) 11 = .ok (.ldc 158, 2) := by decide +kernel
theorem n_d13 : decode (xb 187) 13 = .ok (.invokespecial 160, 3) := by decide +kernel
theorem n_d16 : decode (xb 187) 16 = .ok (.athrow, 1) := by decide +kernel
theorem n_site : xsite 187 153 = some (0, 116, 1, 0) := by decide +kernel
theorem n_tab : xml 187 = 3 ∧ xret 187 = some .long ∧ xown 187 = 0 ∧ xna 187 = 2 ∧ xfr 116 = 0 ∧ xlo 116 = 0 ∧ xml 116 = 1 ∧ xna 116 = 1 := by decide +kernel
theorem nd_0 : decode method_3_code 0 = .ok (.aload_n 3, 1) := by decide +kernel
theorem nd_1 : decode method_3_code 1 = .ok (.iconst 0, 1) := by decide +kernel
theorem nd_2 : decode method_3_code 2 = .ok (.aload_n 0, 1) := by decide +kernel
theorem nd_3 : decode method_3_code 3 = .ok (.iload_n 1, 1) := by decide +kernel
theorem nd_4 : decode method_3_code 4 = .ok (.iload_n 2, 1) := by decide +kernel
theorem nd_5 : decode method_3_code 5 = .ok (.invokevirtual 7, 3) := by decide +kernel
theorem nd_8 : decode method_3_code 8 = .ok (.lastore, 1) := by decide +kernel
theorem nd_9 : decode method_3_code 9 = .ok (.goto 7, 3) := by decide +kernel
theorem nd_12 : decode method_3_code 12 = .ok (.astore 4, 2) := by decide +kernel
theorem nd_14 : decode method_3_code 14 = .ok (.iconst 1, 1) := by decide +kernel
theorem nd_15 : decode method_3_code 15 = .ok (.ireturn, 1) := by decide +kernel
theorem nd_16 : decode method_3_code 16 = .ok (.iconst 0, 1) := by decide +kernel
theorem nd_17 : decode method_3_code 17 = .ok (.ireturn, 1) := by decide +kernel
theorem n_w4 : ∀ w ∈ [Cond.methodLink "BernoulliWaysLaw" 7 (xy 187), Cond.instanceMethod (xy 187), Cond.selects (xy 187).cls (xy 187) (xy 187), Cond.initialized (xy 187).cls, Cond.methodLink "BernoulliWaysLaw" 37 ⟨"BernoulliWaysLaw", "number", "(LBernoulliWays;II[J)I"⟩, Cond.static ⟨"BernoulliWaysLaw", "number", "(LBernoulliWays;II[J)I"⟩, Cond.initialized "BernoulliWaysLaw"], w ∈ lw_tbl ∧ goodWord w = true := by decide +kernel
