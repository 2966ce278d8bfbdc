/-! rows of the tables that the segments use, laid by wip/whole/wp.py -/
theorem x_out3 {x : Int32} (h0 : ¬ x = 0) (h1 : ¬ x = 1) (h2 : ¬ x = 2) : x.toInt < 0 ∨ 2 < x.toInt := by
  have e0 : ¬ x.toInt = 0 := fun q => h0 (Int32.toInt_inj.mp q)
  have e1 : ¬ x.toInt = 1 := fun q => h1 (Int32.toInt_inj.mp q)
  have e2 : ¬ x.toInt = 2 := fun q => h2 (Int32.toInt_inj.mp q)
  omega
theorem x_out4 {x : Int32} (h0 : ¬ x = 0) (h1 : ¬ x = 1) (h2 : ¬ x = 2) (h3 : ¬ x = 3) : x.toInt < 0 ∨ 3 < x.toInt := by
  have e0 : ¬ x.toInt = 0 := fun q => h0 (Int32.toInt_inj.mp q)
  have e1 : ¬ x.toInt = 1 := fun q => h1 (Int32.toInt_inj.mp q)
  have e2 : ¬ x.toInt = 2 := fun q => h2 (Int32.toInt_inj.mp q)
  have e3 : ¬ x.toInt = 3 := fun q => h3 (Int32.toInt_inj.mp q)
  omega
theorem cL_10 : Int64.ofInt (10) = 10 := by decide
theorem cL_1000000000 : Int64.ofInt (1000000000) = 1000000000 := by decide
theorem cL_1000000005 : Int64.ofInt (1000000005) = 1000000005 := by decide
theorem cL_1000000007 : Int64.ofInt (1000000007) = 1000000007 := by decide
theorem cL_1103515245 : Int64.ofInt (1103515245) = 1103515245 := by decide
theorem cL_12345 : Int64.ofInt (12345) = 12345 := by decide
theorem cL_2 : Int64.ofInt (2) = 2 := by decide
theorem cL_2147483647 : Int64.ofInt (2147483647) = 2147483647 := by decide
theorem cL_223092870 : Int64.ofInt (223092870) = 223092870 := by decide
theorem cL_2310 : Int64.ofInt (2310) = 2310 := by decide
theorem cL_232792560 : Int64.ofInt (232792560) = 232792560 := by decide
theorem cL_3 : Int64.ofInt (3) = 3 := by decide
theorem cL_30 : Int64.ofInt (30) = 30 := by decide
theorem cL_30030 : Int64.ofInt (30030) = 30030 := by decide
theorem cL_5342931457063200 : Int64.ofInt (5342931457063200) = 5342931457063200 := by decide
theorem cL_6 : Int64.ofInt (6) = 6 := by decide
theorem cL_65536 : Int64.ofInt (65536) = 65536 := by decide
theorem cL_7420738134810 : Int64.ofInt (7420738134810) = 7420738134810 := by decide
theorem cL_9 : Int64.ofInt (9) = 9 := by decide
theorem cL_9223372036854775807 : Int64.ofInt (9223372036854775807) = 9223372036854775807 := by decide
theorem cL_m1 : Int64.ofInt (-1) = -1 := by decide
theorem cL_m2 : Int64.ofInt (-2) = -2 := by decide
theorem cL_m3 : Int64.ofInt (-3) = -3 := by decide
theorem cL_m9223372036854775808 : Int64.ofInt (-9223372036854775808) = -9223372036854775808 := by decide
theorem cb_10 : (Int8.ofInt (10)).toInt32 = 10 := by decide
theorem cb_100 : (Int8.ofInt (100)).toInt32 = 100 := by decide
theorem cb_11 : (Int8.ofInt (11)).toInt32 = 11 := by decide
theorem cb_117 : (Int8.ofInt (117)).toInt32 = 117 := by decide
theorem cb_12 : (Int8.ofInt (12)).toInt32 = 12 := by decide
theorem cb_15 : (Int8.ofInt (15)).toInt32 = 15 := by decide
theorem cb_16 : (Int8.ofInt (16)).toInt32 = 16 := by decide
theorem cb_19 : (Int8.ofInt (19)).toInt32 = 19 := by decide
theorem cb_20 : (Int8.ofInt (20)).toInt32 = 20 := by decide
theorem cb_21 : (Int8.ofInt (21)).toInt32 = 21 := by decide
theorem cb_22 : (Int8.ofInt (22)).toInt32 = 22 := by decide
theorem cb_23 : (Int8.ofInt (23)).toInt32 = 23 := by decide
theorem cb_24 : (Int8.ofInt (24)).toInt32 = 24 := by decide
theorem cb_26 : (Int8.ofInt (26)).toInt32 = 26 := by decide
theorem cb_27 : (Int8.ofInt (27)).toInt32 = 27 := by decide
theorem cb_28 : (Int8.ofInt (28)).toInt32 = 28 := by decide
theorem cb_30 : (Int8.ofInt (30)).toInt32 = 30 := by decide
theorem cb_31 : (Int8.ofInt (31)).toInt32 = 31 := by decide
theorem cb_32 : (Int8.ofInt (32)).toInt32 = 32 := by decide
theorem cb_37 : (Int8.ofInt (37)).toInt32 = 37 := by decide
theorem cb_38 : (Int8.ofInt (38)).toInt32 = 38 := by decide
theorem cb_39 : (Int8.ofInt (39)).toInt32 = 39 := by decide
theorem cb_40 : (Int8.ofInt (40)).toInt32 = 40 := by decide
theorem cb_42 : (Int8.ofInt (42)).toInt32 = 42 := by decide
theorem cb_46 : (Int8.ofInt (46)).toInt32 = 46 := by decide
theorem cb_6 : (Int8.ofInt (6)).toInt32 = 6 := by decide
theorem cb_60 : (Int8.ofInt (60)).toInt32 = 60 := by decide
theorem cb_63 : (Int8.ofInt (63)).toInt32 = 63 := by decide
theorem cb_64 : (Int8.ofInt (64)).toInt32 = 64 := by decide
theorem cb_7 : (Int8.ofInt (7)).toInt32 = 7 := by decide
theorem cb_8 : (Int8.ofInt (8)).toInt32 = 8 := by decide
theorem cb_9 : (Int8.ofInt (9)).toInt32 = 9 := by decide
theorem cb_m100 : (Int8.ofInt (-100)).toInt32 = -100 := by decide
theorem cb_m15 : (Int8.ofInt (-15)).toInt32 = -15 := by decide
theorem cb_m2 : (Int8.ofInt (-2)).toInt32 = -2 := by decide
theorem cb_m3 : (Int8.ofInt (-3)).toInt32 = -3 := by decide
theorem cb_m9 : (Int8.ofInt (-9)).toInt32 = -9 := by decide
theorem ci_0 : Int32.ofInt (0) = 0 := by decide
theorem ci_1 : Int32.ofInt (1) = 1 := by decide
theorem ci_1000000 : Int32.ofInt (1000000) = 1000000 := by decide
theorem ci_1000000000 : Int32.ofInt (1000000000) = 1000000000 := by decide
theorem ci_2 : Int32.ofInt (2) = 2 := by decide
theorem ci_3 : Int32.ofInt (3) = 3 := by decide
theorem ci_4 : Int32.ofInt (4) = 4 := by decide
theorem ci_5 : Int32.ofInt (5) = 5 := by decide
theorem ci_m1 : Int32.ofInt (-1) = -1 := by decide
theorem ci_m6 : Int32.ofInt (-6) = -6 := by decide
theorem cl_0 : Int64.ofNat ((0 : Fin 2) : Nat) = 0 := by decide
theorem cl_1 : Int64.ofNat ((1 : Fin 2) : Nat) = 1 := by decide
theorem cs_1000 : (Int16.ofInt (1000)).toInt32 = 1000 := by decide
theorem cs_1680 : (Int16.ofInt (1680)).toInt32 = 1680 := by decide
theorem cs_1764 : (Int16.ofInt (1764)).toInt32 = 1764 := by decide
theorem cs_199 : (Int16.ofInt (199)).toInt32 = 199 := by decide
theorem cs_200 : (Int16.ofInt (200)).toInt32 = 200 := by decide
theorem cs_252 : (Int16.ofInt (252)).toInt32 = 252 := by decide
theorem ff_0_0 : (xfs.getD 0 [])[0]? = some ("BernoulliWays", "choose", "LBernoulliWays$Choose;", true) := by rfl
theorem ff_0_1 : (xfs.getD 0 [])[1]? = some ("BernoulliWays", "total", "LBernoulliWays$Total;", true) := by rfl
theorem ff_0_10 : (xfs.getD 0 [])[10]? = some ("BernoulliWays", "alone", "LBernoulliWays$ByWays;", true) := by rfl
theorem ff_0_11 : (xfs.getD 0 [])[11]? = some ("BernoulliWays", "pairs", "LBernoulliWays$Pairs;", true) := by rfl
theorem ff_0_12 : (xfs.getD 0 [])[12]? = some ("BernoulliWays", "decimal", "LBernoulliWays$Decimal;", true) := by rfl
theorem ff_0_13 : (xfs.getD 0 [])[13]? = some ("BernoulliWays", "worked", "LBernoulliWays$Fraction;", true) := by rfl
theorem ff_0_14 : (xfs.getD 0 [])[14]? = some ("BernoulliWays", "row", "[J", true) := by rfl
theorem ff_0_15 : (xfs.getD 0 [])[15]? = some ("BernoulliWays", "otherRow", "[J", true) := by rfl
theorem ff_0_2 : (xfs.getD 0 [])[2]? = some ("BernoulliWays", "triangle", "LBernoulliWays$Triangle;", true) := by rfl
theorem ff_0_3 : (xfs.getD 0 [])[3]? = some ("BernoulliWays", "rightOnes", "LBernoulliWays$Entries;", true) := by rfl
theorem ff_0_4 : (xfs.getD 0 [])[4]? = some ("BernoulliWays", "now", "LBernoulliWays$Entries;", true) := by rfl
theorem ff_0_5 : (xfs.getD 0 [])[5]? = some ("BernoulliWays", "kept", "LBernoulliWays$Entries;", true) := by rfl
theorem ff_0_6 : (xfs.getD 0 [])[6]? = some ("BernoulliWays", "ways", "[I", true) := by rfl
theorem ff_0_7 : (xfs.getD 0 [])[7]? = some ("BernoulliWays", "top", "I", false) := by rfl
theorem ff_0_8 : (xfs.getD 0 [])[8]? = some ("BernoulliWays", "checks", "LBernoulliWays$Checks;", true) := by rfl
theorem ff_0_9 : (xfs.getD 0 [])[9]? = some ("BernoulliWays", "memory", "LBernoulliWays$Memo;", true) := by rfl
theorem ff_10_0 : (xfs.getD 10 [])[0]? = some ("BernoulliWays$Decimal", "limbs", "[J", true) := by rfl
theorem ff_10_1 : (xfs.getD 10 [])[1]? = some ("BernoulliWays$Decimal", "size", "I", false) := by rfl
theorem ff_12_0 : (xfs.getD 12 [])[0]? = some ("BernoulliWaysModel", "thrown", "I", false) := by rfl
theorem ff_12_1 : (xfs.getD 12 [])[1]? = some ("BernoulliWaysModel", "right", "[J", true) := by rfl
theorem ff_12_10 : (xfs.getD 12 [])[10]? = some ("BernoulliWaysModel", "rowWhole", "[J", true) := by rfl
theorem ff_12_11 : (xfs.getD 12 [])[11]? = some ("BernoulliWaysModel", "rowRest", "[J", true) := by rfl
theorem ff_12_12 : (xfs.getD 12 [])[12]? = some ("BernoulliWaysModel", "memo", "[I", true) := by rfl
theorem ff_12_13 : (xfs.getD 12 [])[13]? = some ("BernoulliWaysModel", "memoMany", "I", false) := by rfl
theorem ff_12_14 : (xfs.getD 12 [])[14]? = some ("BernoulliWaysModel", "drawn", "J", false) := by rfl
theorem ff_12_15 : (xfs.getD 12 [])[15]? = some ("BernoulliWaysModel", "aside", "[J", true) := by rfl
theorem ff_12_16 : (xfs.getD 12 [])[16]? = some ("BernoulliWaysModel", "rests", "[I", true) := by rfl
theorem ff_12_17 : (xfs.getD 12 [])[17]? = some ("BernoulliWaysModel", "chooseRests", "[I", true) := by rfl
theorem ff_12_18 : (xfs.getD 12 [])[18]? = some ("BernoulliWaysModel", "byWay", "[I", true) := by rfl
theorem ff_12_19 : (xfs.getD 12 [])[19]? = some ("BernoulliWaysModel", "rowOf", "[I", true) := by rfl
theorem ff_12_2 : (xfs.getD 12 [])[2]? = some ("BernoulliWaysModel", "table", "[J", true) := by rfl
theorem ff_12_20 : (xfs.getD 12 [])[20]? = some ("BernoulliWaysModel", "thirty", "[I", true) := by rfl
theorem ff_12_21 : (xfs.getD 12 [])[21]? = some ("BernoulliWaysModel", "above", "[J", true) := by rfl
theorem ff_12_22 : (xfs.getD 12 [])[22]? = some ("BernoulliWaysModel", "below", "[J", true) := by rfl
theorem ff_12_23 : (xfs.getD 12 [])[23]? = some ("BernoulliWaysModel", "full", "[J", true) := by rfl
theorem ff_12_24 : (xfs.getD 12 [])[24]? = some ("BernoulliWaysModel", "row1", "[J", true) := by rfl
theorem ff_12_25 : (xfs.getD 12 [])[25]? = some ("BernoulliWaysModel", "kinds", "[J", true) := by rfl
theorem ff_12_26 : (xfs.getD 12 [])[26]? = some ("BernoulliWaysModel", "quote", "[J", true) := by rfl
theorem ff_12_27 : (xfs.getD 12 [])[27]? = some ("BernoulliWaysModel", "inAbove", "[J", true) := by rfl
theorem ff_12_28 : (xfs.getD 12 [])[28]? = some ("BernoulliWaysModel", "inBelow", "[J", true) := by rfl
theorem ff_12_29 : (xfs.getD 12 [])[29]? = some ("BernoulliWaysModel", "spare", "[J", true) := by rfl
theorem ff_12_3 : (xfs.getD 12 [])[3]? = some ("BernoulliWaysModel", "ways", "[I", true) := by rfl
theorem ff_12_30 : (xfs.getD 12 [])[30]? = some ("BernoulliWaysModel", "polyRests", "[I", true) := by rfl
theorem ff_12_31 : (xfs.getD 12 [])[31]? = some ("BernoulliWaysModel", "boxes", "[J", true) := by rfl
theorem ff_12_32 : (xfs.getD 12 [])[32]? = some ("BernoulliWaysModel", "zig", "[J", true) := by rfl
theorem ff_12_33 : (xfs.getD 12 [])[33]? = some ("BernoulliWaysModel", "zag", "[J", true) := by rfl
theorem ff_12_4 : (xfs.getD 12 [])[4]? = some ("BernoulliWaysModel", "top", "I", false) := by rfl
theorem ff_12_5 : (xfs.getD 12 [])[5]? = some ("BernoulliWaysModel", "choose", "[J", true) := by rfl
theorem ff_12_6 : (xfs.getD 12 [])[6]? = some ("BernoulliWaysModel", "primes", "[I", true) := by rfl
theorem ff_12_7 : (xfs.getD 12 [])[7]? = some ("BernoulliWaysModel", "primeMany", "I", false) := by rfl
theorem ff_12_8 : (xfs.getD 12 [])[8]? = some ("BernoulliWaysModel", "sumWhole", "J", false) := by rfl
theorem ff_12_9 : (xfs.getD 12 [])[9]? = some ("BernoulliWaysModel", "sumRest", "J", false) := by rfl
theorem ff_1_0 : (xfs.getD 1 [])[0]? = some ("BernoulliWays$Choose", "cells", "[J", true) := by rfl
theorem ff_2_0 : (xfs.getD 2 [])[0]? = some ("BernoulliWays$Total", "under", "J", false) := by rfl
theorem ff_2_1 : (xfs.getD 2 [])[1]? = some ("BernoulliWays$Total", "whole", "J", false) := by rfl
theorem ff_2_2 : (xfs.getD 2 [])[2]? = some ("BernoulliWays$Total", "part", "J", false) := by rfl
theorem ff_3_0 : (xfs.getD 3 [])[0]? = some ("BernoulliWays$Triangle", "wholes", "[J", true) := by rfl
theorem ff_3_1 : (xfs.getD 3 [])[1]? = some ("BernoulliWays$Triangle", "parts", "[J", true) := by rfl
theorem ff_3_2 : (xfs.getD 3 [])[2]? = some ("BernoulliWays$Triangle", "last", "I", false) := by rfl
theorem ff_4_0 : (xfs.getD 4 [])[0]? = some ("BernoulliWays$Entries", "wholes", "[J", true) := by rfl
theorem ff_4_1 : (xfs.getD 4 [])[1]? = some ("BernoulliWays$Entries", "aboves", "[J", true) := by rfl
theorem ff_4_2 : (xfs.getD 4 [])[2]? = some ("BernoulliWays$Entries", "belows", "[J", true) := by rfl
theorem ff_4_3 : (xfs.getD 4 [])[3]? = some ("BernoulliWays$Entries", "spare", "LBernoulliWays$Fraction;", true) := by rfl
theorem ff_5_0 : (xfs.getD 5 [])[0]? = some ("BernoulliWays$Fraction", "whole", "J", false) := by rfl
theorem ff_5_1 : (xfs.getD 5 [])[1]? = some ("BernoulliWays$Fraction", "above", "J", false) := by rfl
theorem ff_5_2 : (xfs.getD 5 [])[2]? = some ("BernoulliWays$Fraction", "below", "J", false) := by rfl
theorem ff_6_0 : (xfs.getD 6 [])[0]? = some ("BernoulliWays$Checks", "entries", "LBernoulliWays$Entries;", true) := by rfl
theorem ff_6_1 : (xfs.getD 6 [])[1]? = some ("BernoulliWays$Checks", "choose", "LBernoulliWays$Choose;", true) := by rfl
theorem ff_6_2 : (xfs.getD 6 [])[2]? = some ("BernoulliWays$Checks", "total", "LBernoulliWays$Total;", true) := by rfl
theorem ff_7_0 : (xfs.getD 7 [])[0]? = some ("BernoulliWays$Memo", "numbers", "[I", true) := by rfl
theorem ff_7_1 : (xfs.getD 7 [])[1]? = some ("BernoulliWays$Memo", "primes", "[I", true) := by rfl
theorem ff_7_2 : (xfs.getD 7 [])[2]? = some ("BernoulliWays$Memo", "answers", "[I", true) := by rfl
theorem ff_7_3 : (xfs.getD 7 [])[3]? = some ("BernoulliWays$Memo", "size", "I", false) := by rfl
theorem ff_8_0 : (xfs.getD 8 [])[0]? = some ("BernoulliWays$ByWays", "found", "[J", true) := by rfl
theorem ff_8_1 : (xfs.getD 8 [])[1]? = some ("BernoulliWays$ByWays", "cells", "[J", true) := by rfl
theorem ff_8_2 : (xfs.getD 8 [])[2]? = some ("BernoulliWays$ByWays", "filledPrime", "I", false) := by rfl
theorem ff_8_3 : (xfs.getD 8 [])[3]? = some ("BernoulliWays$ByWays", "filledWay", "I", false) := by rfl
theorem ff_9_0 : (xfs.getD 9 [])[0]? = some ("BernoulliWays$Pairs", "byWays", "LBernoulliWays$ByWays;", true) := by rfl
theorem ff_9_1 : (xfs.getD 9 [])[1]? = some ("BernoulliWays$Pairs", "primes", "[I", true) := by rfl
theorem ff_9_2 : (xfs.getD 9 [])[2]? = some ("BernoulliWays$Pairs", "evens", "[I", true) := by rfl
theorem ff_9_3 : (xfs.getD 9 [])[3]? = some ("BernoulliWays$Pairs", "size", "I", false) := by rfl
theorem ff_9_4 : (xfs.getD 9 [])[4]? = some ("BernoulliWays$Pairs", "searched", "I", false) := by rfl
theorem fr_0 : Nat.ble 1 (xfr 0) = true := by decide +kernel
theorem fr_1 : Nat.ble 1 (xfr 1) = true := by decide +kernel
theorem fr_10 : Nat.ble 1 (xfr 10) = true := by decide +kernel
theorem fr_11 : Nat.ble 1 (xfr 11) = true := by decide +kernel
theorem fr_111 : Nat.ble 1 (xfr 111) = true := by decide +kernel
theorem fr_180 : Nat.ble 1 (xfr 180) = true := by decide +kernel
theorem fr_188 : Nat.ble 1 (xfr 188) = true := by decide +kernel
theorem fr_2 : Nat.ble 1 (xfr 2) = true := by decide +kernel
theorem fr_3 : Nat.ble 1 (xfr 3) = true := by decide +kernel
theorem fr_4 : Nat.ble 1 (xfr 4) = true := by decide +kernel
theorem fr_5 : Nat.ble 1 (xfr 5) = true := by decide +kernel
theorem fr_7 : Nat.ble 1 (xfr 7) = true := by decide +kernel
theorem fr_8 : Nat.ble 1 (xfr 8) = true := by decide +kernel
theorem fr_88 : Nat.ble 1 (xfr 88) = true := by decide +kernel
theorem fr_9 : Nat.ble 1 (xfr 9) = true := by decide +kernel
theorem ft_0_0 : (xts.getD 0 [])[0]? = some (.object "BernoulliWays$Choose") := by rfl
theorem ft_0_1 : (xts.getD 0 [])[1]? = some (.object "BernoulliWays$Total") := by rfl
theorem ft_0_10 : (xts.getD 0 [])[10]? = some (.object "BernoulliWays$ByWays") := by rfl
theorem ft_0_11 : (xts.getD 0 [])[11]? = some (.object "BernoulliWays$Pairs") := by rfl
theorem ft_0_12 : (xts.getD 0 [])[12]? = some (.object "BernoulliWays$Decimal") := by rfl
theorem ft_0_13 : (xts.getD 0 [])[13]? = some (.object "BernoulliWays$Fraction") := by rfl
theorem ft_0_14 : (xts.getD 0 [])[14]? = some (.array .long) := by rfl
theorem ft_0_15 : (xts.getD 0 [])[15]? = some (.array .long) := by rfl
theorem ft_0_2 : (xts.getD 0 [])[2]? = some (.object "BernoulliWays$Triangle") := by rfl
theorem ft_0_3 : (xts.getD 0 [])[3]? = some (.object "BernoulliWays$Entries") := by rfl
theorem ft_0_4 : (xts.getD 0 [])[4]? = some (.object "BernoulliWays$Entries") := by rfl
theorem ft_0_5 : (xts.getD 0 [])[5]? = some (.object "BernoulliWays$Entries") := by rfl
theorem ft_0_6 : (xts.getD 0 [])[6]? = some (.array .int) := by rfl
theorem ft_0_7 : (xts.getD 0 [])[7]? = some (.int) := by rfl
theorem ft_0_8 : (xts.getD 0 [])[8]? = some (.object "BernoulliWays$Checks") := by rfl
theorem ft_0_9 : (xts.getD 0 [])[9]? = some (.object "BernoulliWays$Memo") := by rfl
theorem ft_10_0 : (xts.getD 10 [])[0]? = some (.array .long) := by rfl
theorem ft_10_1 : (xts.getD 10 [])[1]? = some (.int) := by rfl
theorem ft_12_0 : (xts.getD 12 [])[0]? = some (.int) := by rfl
theorem ft_12_1 : (xts.getD 12 [])[1]? = some (.array .long) := by rfl
theorem ft_12_10 : (xts.getD 12 [])[10]? = some (.array .long) := by rfl
theorem ft_12_11 : (xts.getD 12 [])[11]? = some (.array .long) := by rfl
theorem ft_12_12 : (xts.getD 12 [])[12]? = some (.array .int) := by rfl
theorem ft_12_13 : (xts.getD 12 [])[13]? = some (.int) := by rfl
theorem ft_12_14 : (xts.getD 12 [])[14]? = some (.long) := by rfl
theorem ft_12_15 : (xts.getD 12 [])[15]? = some (.array .long) := by rfl
theorem ft_12_16 : (xts.getD 12 [])[16]? = some (.array .int) := by rfl
theorem ft_12_17 : (xts.getD 12 [])[17]? = some (.array .int) := by rfl
theorem ft_12_18 : (xts.getD 12 [])[18]? = some (.array .int) := by rfl
theorem ft_12_19 : (xts.getD 12 [])[19]? = some (.array .int) := by rfl
theorem ft_12_2 : (xts.getD 12 [])[2]? = some (.array .long) := by rfl
theorem ft_12_20 : (xts.getD 12 [])[20]? = some (.array .int) := by rfl
theorem ft_12_21 : (xts.getD 12 [])[21]? = some (.array .long) := by rfl
theorem ft_12_22 : (xts.getD 12 [])[22]? = some (.array .long) := by rfl
theorem ft_12_23 : (xts.getD 12 [])[23]? = some (.array .long) := by rfl
theorem ft_12_24 : (xts.getD 12 [])[24]? = some (.array .long) := by rfl
theorem ft_12_25 : (xts.getD 12 [])[25]? = some (.array .long) := by rfl
theorem ft_12_26 : (xts.getD 12 [])[26]? = some (.array .long) := by rfl
theorem ft_12_27 : (xts.getD 12 [])[27]? = some (.array .long) := by rfl
theorem ft_12_28 : (xts.getD 12 [])[28]? = some (.array .long) := by rfl
theorem ft_12_29 : (xts.getD 12 [])[29]? = some (.array .long) := by rfl
theorem ft_12_3 : (xts.getD 12 [])[3]? = some (.array .int) := by rfl
theorem ft_12_30 : (xts.getD 12 [])[30]? = some (.array .int) := by rfl
theorem ft_12_31 : (xts.getD 12 [])[31]? = some (.array .long) := by rfl
theorem ft_12_32 : (xts.getD 12 [])[32]? = some (.array .long) := by rfl
theorem ft_12_33 : (xts.getD 12 [])[33]? = some (.array .long) := by rfl
theorem ft_12_4 : (xts.getD 12 [])[4]? = some (.int) := by rfl
theorem ft_12_5 : (xts.getD 12 [])[5]? = some (.array .long) := by rfl
theorem ft_12_6 : (xts.getD 12 [])[6]? = some (.array .int) := by rfl
theorem ft_12_7 : (xts.getD 12 [])[7]? = some (.int) := by rfl
theorem ft_12_8 : (xts.getD 12 [])[8]? = some (.long) := by rfl
theorem ft_12_9 : (xts.getD 12 [])[9]? = some (.long) := by rfl
theorem ft_1_0 : (xts.getD 1 [])[0]? = some (.array .long) := by rfl
theorem ft_2_0 : (xts.getD 2 [])[0]? = some (.long) := by rfl
theorem ft_2_1 : (xts.getD 2 [])[1]? = some (.long) := by rfl
theorem ft_2_2 : (xts.getD 2 [])[2]? = some (.long) := by rfl
theorem ft_3_0 : (xts.getD 3 [])[0]? = some (.array .long) := by rfl
theorem ft_3_1 : (xts.getD 3 [])[1]? = some (.array .long) := by rfl
theorem ft_3_2 : (xts.getD 3 [])[2]? = some (.int) := by rfl
theorem ft_4_0 : (xts.getD 4 [])[0]? = some (.array .long) := by rfl
theorem ft_4_1 : (xts.getD 4 [])[1]? = some (.array .long) := by rfl
theorem ft_4_2 : (xts.getD 4 [])[2]? = some (.array .long) := by rfl
theorem ft_4_3 : (xts.getD 4 [])[3]? = some (.object "BernoulliWays$Fraction") := by rfl
theorem ft_5_0 : (xts.getD 5 [])[0]? = some (.long) := by rfl
theorem ft_5_1 : (xts.getD 5 [])[1]? = some (.long) := by rfl
theorem ft_5_2 : (xts.getD 5 [])[2]? = some (.long) := by rfl
theorem ft_6_0 : (xts.getD 6 [])[0]? = some (.object "BernoulliWays$Entries") := by rfl
theorem ft_6_1 : (xts.getD 6 [])[1]? = some (.object "BernoulliWays$Choose") := by rfl
theorem ft_6_2 : (xts.getD 6 [])[2]? = some (.object "BernoulliWays$Total") := by rfl
theorem ft_7_0 : (xts.getD 7 [])[0]? = some (.array .int) := by rfl
theorem ft_7_1 : (xts.getD 7 [])[1]? = some (.array .int) := by rfl
theorem ft_7_2 : (xts.getD 7 [])[2]? = some (.array .int) := by rfl
theorem ft_7_3 : (xts.getD 7 [])[3]? = some (.int) := by rfl
theorem ft_8_0 : (xts.getD 8 [])[0]? = some (.array .long) := by rfl
theorem ft_8_1 : (xts.getD 8 [])[1]? = some (.array .long) := by rfl
theorem ft_8_2 : (xts.getD 8 [])[2]? = some (.int) := by rfl
theorem ft_8_3 : (xts.getD 8 [])[3]? = some (.int) := by rfl
theorem ft_9_0 : (xts.getD 9 [])[0]? = some (.object "BernoulliWays$ByWays") := by rfl
theorem ft_9_1 : (xts.getD 9 [])[1]? = some (.array .int) := by rfl
theorem ft_9_2 : (xts.getD 9 [])[2]? = some (.array .int) := by rfl
theorem ft_9_3 : (xts.getD 9 [])[3]? = some (.int) := by rfl
theorem ft_9_4 : (xts.getD 9 [])[4]? = some (.int) := by rfl
theorem lo_0 : xlo 0 = 104 := by decide +kernel
theorem lo_1 : xlo 1 = 20 := by decide +kernel
theorem lo_10 : xlo 10 = 20 := by decide +kernel
theorem lo_11 : xlo 11 = 20 := by decide +kernel
theorem lo_111 : xlo 111 = 59 := by decide +kernel
theorem lo_180 : xlo 180 = 59 := by decide +kernel
theorem lo_188 : xlo 188 = 92 := by decide +kernel
theorem lo_2 : xlo 2 = 20 := by decide +kernel
theorem lo_3 : xlo 3 = 20 := by decide +kernel
theorem lo_4 : xlo 4 = 40 := by decide +kernel
theorem lo_5 : xlo 5 = 20 := by decide +kernel
theorem lo_7 : xlo 7 = 20 := by decide +kernel
theorem lo_8 : xlo 8 = 20 := by decide +kernel
theorem lo_88 : xlo 88 = 59 := by decide +kernel
theorem lo_9 : xlo 9 = 20 := by decide +kernel
theorem ml_0 : xml 0 = 2 := by decide +kernel
theorem ml_1 : xml 1 = 4 := by decide +kernel
theorem ml_10 : xml 10 = 2 := by decide +kernel
theorem ml_100 : xml 100 = 3 := by decide +kernel
theorem ml_101 : xml 101 = 9 := by decide +kernel
theorem ml_102 : xml 102 = 5 := by decide +kernel
theorem ml_105 : xml 105 = 10 := by decide +kernel
theorem ml_108 : xml 108 = 5 := by decide +kernel
theorem ml_109 : xml 109 = 6 := by decide +kernel
theorem ml_11 : xml 11 = 1 := by decide +kernel
theorem ml_110 : xml 110 = 3 := by decide +kernel
theorem ml_111 : xml 111 = 2 := by decide +kernel
theorem ml_112 : xml 112 = 6 := by decide +kernel
theorem ml_113 : xml 113 = 10 := by decide +kernel
theorem ml_114 : xml 114 = 2 := by decide +kernel
theorem ml_116 : xml 116 = 1 := by decide +kernel
theorem ml_117 : xml 117 = 2 := by decide +kernel
theorem ml_118 : xml 118 = 5 := by decide +kernel
theorem ml_119 : xml 119 = 3 := by decide +kernel
theorem ml_12 : xml 12 = 3 := by decide +kernel
theorem ml_121 : xml 121 = 2 := by decide +kernel
theorem ml_122 : xml 122 = 3 := by decide +kernel
theorem ml_123 : xml 123 = 3 := by decide +kernel
theorem ml_124 : xml 124 = 6 := by decide +kernel
theorem ml_125 : xml 125 = 4 := by decide +kernel
theorem ml_126 : xml 126 = 8 := by decide +kernel
theorem ml_127 : xml 127 = 2 := by decide +kernel
theorem ml_128 : xml 128 = 4 := by decide +kernel
theorem ml_13 : xml 13 = 2 := by decide +kernel
theorem ml_130 : xml 130 = 1 := by decide +kernel
theorem ml_131 : xml 131 = 2 := by decide +kernel
theorem ml_132 : xml 132 = 2 := by decide +kernel
theorem ml_134 : xml 134 = 9 := by decide +kernel
theorem ml_135 : xml 135 = 6 := by decide +kernel
theorem ml_137 : xml 137 = 8 := by decide +kernel
theorem ml_139 : xml 139 = 5 := by decide +kernel
theorem ml_14 : xml 14 = 3 := by decide +kernel
theorem ml_140 : xml 140 = 9 := by decide +kernel
theorem ml_141 : xml 141 = 7 := by decide +kernel
theorem ml_142 : xml 142 = 4 := by decide +kernel
theorem ml_143 : xml 143 = 4 := by decide +kernel
theorem ml_144 : xml 144 = 7 := by decide +kernel
theorem ml_145 : xml 145 = 14 := by decide +kernel
theorem ml_146 : xml 146 = 6 := by decide +kernel
theorem ml_147 : xml 147 = 7 := by decide +kernel
theorem ml_148 : xml 148 = 5 := by decide +kernel
theorem ml_149 : xml 149 = 1 := by decide +kernel
theorem ml_15 : xml 15 = 3 := by decide +kernel
theorem ml_150 : xml 150 = 1 := by decide +kernel
theorem ml_152 : xml 152 = 2 := by decide +kernel
theorem ml_153 : xml 153 = 3 := by decide +kernel
theorem ml_154 : xml 154 = 9 := by decide +kernel
theorem ml_156 : xml 156 = 7 := by decide +kernel
theorem ml_157 : xml 157 = 1 := by decide +kernel
theorem ml_158 : xml 158 = 10 := by decide +kernel
theorem ml_159 : xml 159 = 8 := by decide +kernel
theorem ml_16 : xml 16 = 11 := by decide +kernel
theorem ml_160 : xml 160 = 1 := by decide +kernel
theorem ml_161 : xml 161 = 5 := by decide +kernel
theorem ml_162 : xml 162 = 1 := by decide +kernel
theorem ml_164 : xml 164 = 2 := by decide +kernel
theorem ml_165 : xml 165 = 10 := by decide +kernel
theorem ml_167 : xml 167 = 6 := by decide +kernel
theorem ml_169 : xml 169 = 8 := by decide +kernel
theorem ml_17 : xml 17 = 6 := by decide +kernel
theorem ml_171 : xml 171 = 4 := by decide +kernel
theorem ml_172 : xml 172 = 8 := by decide +kernel
theorem ml_173 : xml 173 = 5 := by decide +kernel
theorem ml_177 : xml 177 = 4 := by decide +kernel
theorem ml_178 : xml 178 = 5 := by decide +kernel
theorem ml_179 : xml 179 = 5 := by decide +kernel
theorem ml_18 : xml 18 = 11 := by decide +kernel
theorem ml_180 : xml 180 = 4 := by decide +kernel
theorem ml_181 : xml 181 = 4 := by decide +kernel
theorem ml_182 : xml 182 = 4 := by decide +kernel
theorem ml_183 : xml 183 = 2 := by decide +kernel
theorem ml_185 : xml 185 = 3 := by decide +kernel
theorem ml_186 : xml 186 = 3 := by decide +kernel
theorem ml_188 : xml 188 = 4 := by decide +kernel
theorem ml_189 : xml 189 = 8 := by decide +kernel
theorem ml_19 : xml 19 = 6 := by decide +kernel
theorem ml_190 : xml 190 = 5 := by decide +kernel
theorem ml_191 : xml 191 = 7 := by decide +kernel
theorem ml_192 : xml 192 = 14 := by decide +kernel
theorem ml_193 : xml 193 = 6 := by decide +kernel
theorem ml_194 : xml 194 = 11 := by decide +kernel
theorem ml_195 : xml 195 = 10 := by decide +kernel
theorem ml_197 : xml 197 = 4 := by decide +kernel
theorem ml_198 : xml 198 = 2 := by decide +kernel
theorem ml_199 : xml 199 = 3 := by decide +kernel
theorem ml_2 : xml 2 = 1 := by decide +kernel
theorem ml_20 : xml 20 = 3 := by decide +kernel
theorem ml_200 : xml 200 = 3 := by decide +kernel
theorem ml_201 : xml 201 = 2 := by decide +kernel
theorem ml_202 : xml 202 = 3 := by decide +kernel
theorem ml_203 : xml 203 = 4 := by decide +kernel
theorem ml_205 : xml 205 = 9 := by decide +kernel
theorem ml_206 : xml 206 = 2 := by decide +kernel
theorem ml_207 : xml 207 = 7 := by decide +kernel
theorem ml_208 : xml 208 = 5 := by decide +kernel
theorem ml_209 : xml 209 = 2 := by decide +kernel
theorem ml_21 : xml 21 = 1 := by decide +kernel
theorem ml_210 : xml 210 = 1 := by decide +kernel
theorem ml_211 : xml 211 = 2 := by decide +kernel
theorem ml_212 : xml 212 = 4 := by decide +kernel
theorem ml_213 : xml 213 = 6 := by decide +kernel
theorem ml_214 : xml 214 = 5 := by decide +kernel
theorem ml_215 : xml 215 = 5 := by decide +kernel
theorem ml_216 : xml 216 = 6 := by decide +kernel
theorem ml_217 : xml 217 = 3 := by decide +kernel
theorem ml_219 : xml 219 = 1 := by decide +kernel
theorem ml_22 : xml 22 = 4 := by decide +kernel
theorem ml_223 : xml 223 = 5 := by decide +kernel
theorem ml_224 : xml 224 = 7 := by decide +kernel
theorem ml_225 : xml 225 = 10 := by decide +kernel
theorem ml_226 : xml 226 = 3 := by decide +kernel
theorem ml_227 : xml 227 = 4 := by decide +kernel
theorem ml_228 : xml 228 = 3 := by decide +kernel
theorem ml_229 : xml 229 = 6 := by decide +kernel
theorem ml_23 : xml 23 = 5 := by decide +kernel
theorem ml_230 : xml 230 = 4 := by decide +kernel
theorem ml_231 : xml 231 = 5 := by decide +kernel
theorem ml_233 : xml 233 = 2 := by decide +kernel
theorem ml_234 : xml 234 = 5 := by decide +kernel
theorem ml_235 : xml 235 = 6 := by decide +kernel
theorem ml_236 : xml 236 = 16 := by decide +kernel
theorem ml_238 : xml 238 = 10 := by decide +kernel
theorem ml_239 : xml 239 = 9 := by decide +kernel
theorem ml_24 : xml 24 = 1 := by decide +kernel
theorem ml_240 : xml 240 = 10 := by decide +kernel
theorem ml_242 : xml 242 = 5 := by decide +kernel
theorem ml_243 : xml 243 = 6 := by decide +kernel
theorem ml_244 : xml 244 = 10 := by decide +kernel
theorem ml_245 : xml 245 = 3 := by decide +kernel
theorem ml_246 : xml 246 = 7 := by decide +kernel
theorem ml_247 : xml 247 = 2 := by decide +kernel
theorem ml_249 : xml 249 = 5 := by decide +kernel
theorem ml_25 : xml 25 = 1 := by decide +kernel
theorem ml_251 : xml 251 = 4 := by decide +kernel
theorem ml_252 : xml 252 = 3 := by decide +kernel
theorem ml_253 : xml 253 = 5 := by decide +kernel
theorem ml_254 : xml 254 = 4 := by decide +kernel
theorem ml_255 : xml 255 = 7 := by decide +kernel
theorem ml_256 : xml 256 = 5 := by decide +kernel
theorem ml_258 : xml 258 = 4 := by decide +kernel
theorem ml_259 : xml 259 = 6 := by decide +kernel
theorem ml_26 : xml 26 = 3 := by decide +kernel
theorem ml_260 : xml 260 = 5 := by decide +kernel
theorem ml_261 : xml 261 = 4 := by decide +kernel
theorem ml_263 : xml 263 = 7 := by decide +kernel
theorem ml_264 : xml 264 = 5 := by decide +kernel
theorem ml_265 : xml 265 = 4 := by decide +kernel
theorem ml_266 : xml 266 = 3 := by decide +kernel
theorem ml_267 : xml 267 = 10 := by decide +kernel
theorem ml_268 : xml 268 = 6 := by decide +kernel
theorem ml_269 : xml 269 = 7 := by decide +kernel
theorem ml_27 : xml 27 = 2 := by decide +kernel
theorem ml_270 : xml 270 = 4 := by decide +kernel
theorem ml_272 : xml 272 = 16 := by decide +kernel
theorem ml_273 : xml 273 = 8 := by decide +kernel
theorem ml_275 : xml 275 = 6 := by decide +kernel
theorem ml_276 : xml 276 = 4 := by decide +kernel
theorem ml_277 : xml 277 = 8 := by decide +kernel
theorem ml_278 : xml 278 = 8 := by decide +kernel
theorem ml_28 : xml 28 = 3 := by decide +kernel
theorem ml_280 : xml 280 = 2 := by decide +kernel
theorem ml_281 : xml 281 = 4 := by decide +kernel
theorem ml_282 : xml 282 = 4 := by decide +kernel
theorem ml_283 : xml 283 = 8 := by decide +kernel
theorem ml_284 : xml 284 = 12 := by decide +kernel
theorem ml_285 : xml 285 = 5 := by decide +kernel
theorem ml_286 : xml 286 = 8 := by decide +kernel
theorem ml_288 : xml 288 = 16 := by decide +kernel
theorem ml_289 : xml 289 = 8 := by decide +kernel
theorem ml_29 : xml 29 = 2 := by decide +kernel
theorem ml_290 : xml 290 = 9 := by decide +kernel
theorem ml_291 : xml 291 = 11 := by decide +kernel
theorem ml_292 : xml 292 = 5 := by decide +kernel
theorem ml_293 : xml 293 = 5 := by decide +kernel
theorem ml_294 : xml 294 = 6 := by decide +kernel
theorem ml_295 : xml 295 = 6 := by decide +kernel
theorem ml_296 : xml 296 = 12 := by decide +kernel
theorem ml_297 : xml 297 = 6 := by decide +kernel
theorem ml_299 : xml 299 = 4 := by decide +kernel
theorem ml_3 : xml 3 = 1 := by decide +kernel
theorem ml_30 : xml 30 = 2 := by decide +kernel
theorem ml_300 : xml 300 = 5 := by decide +kernel
theorem ml_301 : xml 301 = 12 := by decide +kernel
theorem ml_302 : xml 302 = 4 := by decide +kernel
theorem ml_303 : xml 303 = 10 := by decide +kernel
theorem ml_304 : xml 304 = 2 := by decide +kernel
theorem ml_305 : xml 305 = 4 := by decide +kernel
theorem ml_306 : xml 306 = 4 := by decide +kernel
theorem ml_31 : xml 31 = 2 := by decide +kernel
theorem ml_32 : xml 32 = 4 := by decide +kernel
theorem ml_33 : xml 33 = 3 := by decide +kernel
theorem ml_34 : xml 34 = 2 := by decide +kernel
theorem ml_35 : xml 35 = 2 := by decide +kernel
theorem ml_36 : xml 36 = 4 := by decide +kernel
theorem ml_37 : xml 37 = 3 := by decide +kernel
theorem ml_38 : xml 38 = 4 := by decide +kernel
theorem ml_39 : xml 39 = 3 := by decide +kernel
theorem ml_4 : xml 4 = 1 := by decide +kernel
theorem ml_40 : xml 40 = 4 := by decide +kernel
theorem ml_41 : xml 41 = 11 := by decide +kernel
theorem ml_42 : xml 42 = 2 := by decide +kernel
theorem ml_43 : xml 43 = 3 := by decide +kernel
theorem ml_44 : xml 44 = 5 := by decide +kernel
theorem ml_45 : xml 45 = 3 := by decide +kernel
theorem ml_46 : xml 46 = 2 := by decide +kernel
theorem ml_47 : xml 47 = 1 := by decide +kernel
theorem ml_48 : xml 48 = 12 := by decide +kernel
theorem ml_49 : xml 49 = 7 := by decide +kernel
theorem ml_5 : xml 5 = 1 := by decide +kernel
theorem ml_50 : xml 50 = 10 := by decide +kernel
theorem ml_51 : xml 51 = 8 := by decide +kernel
theorem ml_52 : xml 52 = 2 := by decide +kernel
theorem ml_53 : xml 53 = 19 := by decide +kernel
theorem ml_54 : xml 54 = 4 := by decide +kernel
theorem ml_55 : xml 55 = 7 := by decide +kernel
theorem ml_56 : xml 56 = 3 := by decide +kernel
theorem ml_57 : xml 57 = 3 := by decide +kernel
theorem ml_6 : xml 6 = 5 := by decide +kernel
theorem ml_60 : xml 60 = 4 := by decide +kernel
theorem ml_61 : xml 61 = 4 := by decide +kernel
theorem ml_62 : xml 62 = 8 := by decide +kernel
theorem ml_63 : xml 63 = 2 := by decide +kernel
theorem ml_64 : xml 64 = 1 := by decide +kernel
theorem ml_65 : xml 65 = 2 := by decide +kernel
theorem ml_66 : xml 66 = 1 := by decide +kernel
theorem ml_67 : xml 67 = 5 := by decide +kernel
theorem ml_68 : xml 68 = 4 := by decide +kernel
theorem ml_69 : xml 69 = 3 := by decide +kernel
theorem ml_7 : xml 7 = 4 := by decide +kernel
theorem ml_70 : xml 70 = 8 := by decide +kernel
theorem ml_71 : xml 71 = 2 := by decide +kernel
theorem ml_72 : xml 72 = 4 := by decide +kernel
theorem ml_73 : xml 73 = 4 := by decide +kernel
theorem ml_74 : xml 74 = 3 := by decide +kernel
theorem ml_75 : xml 75 = 6 := by decide +kernel
theorem ml_76 : xml 76 = 1 := by decide +kernel
theorem ml_77 : xml 77 = 5 := by decide +kernel
theorem ml_8 : xml 8 = 1 := by decide +kernel
theorem ml_80 : xml 80 = 4 := by decide +kernel
theorem ml_81 : xml 81 = 8 := by decide +kernel
theorem ml_83 : xml 83 = 4 := by decide +kernel
theorem ml_84 : xml 84 = 5 := by decide +kernel
theorem ml_85 : xml 85 = 3 := by decide +kernel
theorem ml_86 : xml 86 = 5 := by decide +kernel
theorem ml_87 : xml 87 = 4 := by decide +kernel
theorem ml_88 : xml 88 = 1 := by decide +kernel
theorem ml_89 : xml 89 = 2 := by decide +kernel
theorem ml_9 : xml 9 = 1 := by decide +kernel
theorem ml_91 : xml 91 = 2 := by decide +kernel
theorem ml_93 : xml 93 = 1 := by decide +kernel
theorem ml_94 : xml 94 = 2 := by decide +kernel
theorem ml_95 : xml 95 = 2 := by decide +kernel
theorem ml_96 : xml 96 = 2 := by decide +kernel
theorem ml_97 : xml 97 = 2 := by decide +kernel
theorem ml_99 : xml 99 = 2 := by decide +kernel
theorem na_1 : xna 1 = 0 := by decide +kernel
theorem na_10 : xna 10 = 1 := by decide +kernel
theorem na_100 : xna 100 = 2 := by decide +kernel
theorem na_101 : xna 101 = 1 := by decide +kernel
theorem na_102 : xna 102 = 1 := by decide +kernel
theorem na_105 : xna 105 = 3 := by decide +kernel
theorem na_11 : xna 11 = 0 := by decide +kernel
theorem na_110 : xna 110 = 1 := by decide +kernel
theorem na_111 : xna 111 = 1 := by decide +kernel
theorem na_113 : xna 113 = 2 := by decide +kernel
theorem na_114 : xna 114 = 1 := by decide +kernel
theorem na_116 : xna 116 = 1 := by decide +kernel
theorem na_117 : xna 117 = 1 := by decide +kernel
theorem na_12 : xna 12 = 1 := by decide +kernel
theorem na_121 : xna 121 = 1 := by decide +kernel
theorem na_122 : xna 122 = 1 := by decide +kernel
theorem na_123 : xna 123 = 2 := by decide +kernel
theorem na_124 : xna 124 = 1 := by decide +kernel
theorem na_125 : xna 125 = 1 := by decide +kernel
theorem na_126 : xna 126 = 1 := by decide +kernel
theorem na_127 : xna 127 = 1 := by decide +kernel
theorem na_128 : xna 128 = 1 := by decide +kernel
theorem na_13 : xna 13 = 2 := by decide +kernel
theorem na_130 : xna 130 = 0 := by decide +kernel
theorem na_131 : xna 131 = 1 := by decide +kernel
theorem na_132 : xna 132 = 1 := by decide +kernel
theorem na_134 : xna 134 = 2 := by decide +kernel
theorem na_135 : xna 135 = 2 := by decide +kernel
theorem na_14 : xna 14 = 2 := by decide +kernel
theorem na_143 : xna 143 = 2 := by decide +kernel
theorem na_145 : xna 145 = 5 := by decide +kernel
theorem na_146 : xna 146 = 2 := by decide +kernel
theorem na_149 : xna 149 = 1 := by decide +kernel
theorem na_15 : xna 15 = 2 := by decide +kernel
theorem na_150 : xna 150 = 0 := by decide +kernel
theorem na_152 : xna 152 = 2 := by decide +kernel
theorem na_153 : xna 153 = 1 := by decide +kernel
theorem na_154 : xna 154 = 2 := by decide +kernel
theorem na_156 : xna 156 = 2 := by decide +kernel
theorem na_157 : xna 157 = 0 := by decide +kernel
theorem na_158 : xna 158 = 2 := by decide +kernel
theorem na_159 : xna 159 = 1 := by decide +kernel
theorem na_16 : xna 16 = 3 := by decide +kernel
theorem na_160 : xna 160 = 0 := by decide +kernel
theorem na_161 : xna 161 = 1 := by decide +kernel
theorem na_162 : xna 162 = 0 := by decide +kernel
theorem na_164 : xna 164 = 1 := by decide +kernel
theorem na_167 : xna 167 = 1 := by decide +kernel
theorem na_17 : xna 17 = 2 := by decide +kernel
theorem na_171 : xna 171 = 2 := by decide +kernel
theorem na_172 : xna 172 = 3 := by decide +kernel
theorem na_177 : xna 177 = 1 := by decide +kernel
theorem na_178 : xna 178 = 3 := by decide +kernel
theorem na_18 : xna 18 = 2 := by decide +kernel
theorem na_183 : xna 183 = 1 := by decide +kernel
theorem na_185 : xna 185 = 0 := by decide +kernel
theorem na_186 : xna 186 = 0 := by decide +kernel
theorem na_189 : xna 189 = 5 := by decide +kernel
theorem na_19 : xna 19 = 2 := by decide +kernel
theorem na_190 : xna 190 = 3 := by decide +kernel
theorem na_191 : xna 191 = 3 := by decide +kernel
theorem na_192 : xna 192 = 5 := by decide +kernel
theorem na_193 : xna 193 = 2 := by decide +kernel
theorem na_194 : xna 194 = 5 := by decide +kernel
theorem na_195 : xna 195 = 2 := by decide +kernel
theorem na_198 : xna 198 = 1 := by decide +kernel
theorem na_199 : xna 199 = 3 := by decide +kernel
theorem na_2 : xna 2 = 0 := by decide +kernel
theorem na_20 : xna 20 = 2 := by decide +kernel
theorem na_200 : xna 200 = 1 := by decide +kernel
theorem na_201 : xna 201 = 1 := by decide +kernel
theorem na_202 : xna 202 = 2 := by decide +kernel
theorem na_205 : xna 205 = 2 := by decide +kernel
theorem na_206 : xna 206 = 1 := by decide +kernel
theorem na_207 : xna 207 = 1 := by decide +kernel
theorem na_208 : xna 208 = 1 := by decide +kernel
theorem na_209 : xna 209 = 1 := by decide +kernel
theorem na_21 : xna 21 = 1 := by decide +kernel
theorem na_210 : xna 210 = 1 := by decide +kernel
theorem na_211 : xna 211 = 1 := by decide +kernel
theorem na_212 : xna 212 = 1 := by decide +kernel
theorem na_213 : xna 213 = 3 := by decide +kernel
theorem na_214 : xna 214 = 3 := by decide +kernel
theorem na_215 : xna 215 = 2 := by decide +kernel
theorem na_216 : xna 216 = 3 := by decide +kernel
theorem na_217 : xna 217 = 1 := by decide +kernel
theorem na_219 : xna 219 = 0 := by decide +kernel
theorem na_22 : xna 22 = 0 := by decide +kernel
theorem na_228 : xna 228 = 1 := by decide +kernel
theorem na_229 : xna 229 = 3 := by decide +kernel
theorem na_230 : xna 230 = 2 := by decide +kernel
theorem na_233 : xna 233 = 1 := by decide +kernel
theorem na_235 : xna 235 = 2 := by decide +kernel
theorem na_236 : xna 236 = 2 := by decide +kernel
theorem na_239 : xna 239 = 3 := by decide +kernel
theorem na_24 : xna 24 = 1 := by decide +kernel
theorem na_240 : xna 240 = 3 := by decide +kernel
theorem na_245 : xna 245 = 1 := by decide +kernel
theorem na_247 : xna 247 = 1 := by decide +kernel
theorem na_25 : xna 25 = 1 := by decide +kernel
theorem na_251 : xna 251 = 2 := by decide +kernel
theorem na_252 : xna 252 = 1 := by decide +kernel
theorem na_253 : xna 253 = 1 := by decide +kernel
theorem na_254 : xna 254 = 1 := by decide +kernel
theorem na_255 : xna 255 = 3 := by decide +kernel
theorem na_258 : xna 258 = 1 := by decide +kernel
theorem na_259 : xna 259 = 2 := by decide +kernel
theorem na_26 : xna 26 = 1 := by decide +kernel
theorem na_261 : xna 261 = 2 := by decide +kernel
theorem na_266 : xna 266 = 2 := by decide +kernel
theorem na_268 : xna 268 = 2 := by decide +kernel
theorem na_27 : xna 27 = 1 := by decide +kernel
theorem na_272 : xna 272 = 1 := by decide +kernel
theorem na_273 : xna 273 = 3 := by decide +kernel
theorem na_275 : xna 275 = 2 := by decide +kernel
theorem na_276 : xna 276 = 1 := by decide +kernel
theorem na_277 : xna 277 = 1 := by decide +kernel
theorem na_28 : xna 28 = 2 := by decide +kernel
theorem na_280 : xna 280 = 2 := by decide +kernel
theorem na_281 : xna 281 = 2 := by decide +kernel
theorem na_282 : xna 282 = 1 := by decide +kernel
theorem na_283 : xna 283 = 1 := by decide +kernel
theorem na_284 : xna 284 = 3 := by decide +kernel
theorem na_285 : xna 285 = 0 := by decide +kernel
theorem na_288 : xna 288 = 1 := by decide +kernel
theorem na_289 : xna 289 = 3 := by decide +kernel
theorem na_29 : xna 29 = 1 := by decide +kernel
theorem na_293 : xna 293 = 2 := by decide +kernel
theorem na_294 : xna 294 = 3 := by decide +kernel
theorem na_299 : xna 299 = 1 := by decide +kernel
theorem na_3 : xna 3 = 0 := by decide +kernel
theorem na_30 : xna 30 = 1 := by decide +kernel
theorem na_300 : xna 300 = 3 := by decide +kernel
theorem na_304 : xna 304 = 1 := by decide +kernel
theorem na_31 : xna 31 = 1 := by decide +kernel
theorem na_32 : xna 32 = 2 := by decide +kernel
theorem na_33 : xna 33 = 2 := by decide +kernel
theorem na_34 : xna 34 = 1 := by decide +kernel
theorem na_35 : xna 35 = 1 := by decide +kernel
theorem na_36 : xna 36 = 2 := by decide +kernel
theorem na_37 : xna 37 = 1 := by decide +kernel
theorem na_38 : xna 38 = 2 := by decide +kernel
theorem na_39 : xna 39 = 2 := by decide +kernel
theorem na_4 : xna 4 = 0 := by decide +kernel
theorem na_40 : xna 40 = 2 := by decide +kernel
theorem na_41 : xna 41 = 4 := by decide +kernel
theorem na_42 : xna 42 = 1 := by decide +kernel
theorem na_43 : xna 43 = 1 := by decide +kernel
theorem na_44 : xna 44 = 1 := by decide +kernel
theorem na_45 : xna 45 = 1 := by decide +kernel
theorem na_46 : xna 46 = 1 := by decide +kernel
theorem na_47 : xna 47 = 1 := by decide +kernel
theorem na_48 : xna 48 = 1 := by decide +kernel
theorem na_49 : xna 49 = 3 := by decide +kernel
theorem na_5 : xna 5 = 0 := by decide +kernel
theorem na_50 : xna 50 = 3 := by decide +kernel
theorem na_51 : xna 51 = 2 := by decide +kernel
theorem na_52 : xna 52 = 2 := by decide +kernel
theorem na_53 : xna 53 = 2 := by decide +kernel
theorem na_54 : xna 54 = 2 := by decide +kernel
theorem na_55 : xna 55 = 2 := by decide +kernel
theorem na_56 : xna 56 = 2 := by decide +kernel
theorem na_57 : xna 57 = 2 := by decide +kernel
theorem na_6 : xna 6 = 2 := by decide +kernel
theorem na_60 : xna 60 = 2 := by decide +kernel
theorem na_61 : xna 61 = 2 := by decide +kernel
theorem na_62 : xna 62 = 1 := by decide +kernel
theorem na_63 : xna 63 = 1 := by decide +kernel
theorem na_64 : xna 64 = 1 := by decide +kernel
theorem na_65 : xna 65 = 1 := by decide +kernel
theorem na_66 : xna 66 = 0 := by decide +kernel
theorem na_67 : xna 67 = 1 := by decide +kernel
theorem na_68 : xna 68 = 3 := by decide +kernel
theorem na_69 : xna 69 = 2 := by decide +kernel
theorem na_7 : xna 7 = 3 := by decide +kernel
theorem na_70 : xna 70 = 2 := by decide +kernel
theorem na_71 : xna 71 = 2 := by decide +kernel
theorem na_72 : xna 72 = 1 := by decide +kernel
theorem na_73 : xna 73 = 2 := by decide +kernel
theorem na_74 : xna 74 = 1 := by decide +kernel
theorem na_76 : xna 76 = 1 := by decide +kernel
theorem na_77 : xna 77 = 1 := by decide +kernel
theorem na_8 : xna 8 = 0 := by decide +kernel
theorem na_84 : xna 84 = 1 := by decide +kernel
theorem na_85 : xna 85 = 2 := by decide +kernel
theorem na_86 : xna 86 = 3 := by decide +kernel
theorem na_87 : xna 87 = 2 := by decide +kernel
theorem na_88 : xna 88 = 0 := by decide +kernel
theorem na_89 : xna 89 = 1 := by decide +kernel
theorem na_9 : xna 9 = 0 := by decide +kernel
theorem na_91 : xna 91 = 2 := by decide +kernel
theorem na_93 : xna 93 = 0 := by decide +kernel
theorem na_94 : xna 94 = 1 := by decide +kernel
theorem na_95 : xna 95 = 1 := by decide +kernel
theorem na_96 : xna 96 = 1 := by decide +kernel
theorem na_97 : xna 97 = 1 := by decide +kernel
theorem na_99 : xna 99 = 1 := by decide +kernel
theorem ow_100 : xown 100 = 4 := by decide +kernel
theorem ow_101 : xown 101 = 5 := by decide +kernel
theorem ow_102 : xown 102 = 5 := by decide +kernel
theorem ow_105 : xown 105 = 6 := by decide +kernel
theorem ow_110 : xown 110 = 0 := by decide +kernel
theorem ow_111 : xown 111 = 4 := by decide +kernel
theorem ow_113 : xown 113 = 0 := by decide +kernel
theorem ow_117 : xown 117 = 5 := by decide +kernel
theorem ow_12 : xown 12 = 3 := by decide +kernel
theorem ow_121 : xown 121 = 9 := by decide +kernel
theorem ow_122 : xown 122 = 9 := by decide +kernel
theorem ow_123 : xown 123 = 8 := by decide +kernel
theorem ow_124 : xown 124 = 8 := by decide +kernel
theorem ow_125 : xown 125 = 8 := by decide +kernel
theorem ow_126 : xown 126 = 8 := by decide +kernel
theorem ow_127 : xown 127 = 8 := by decide +kernel
theorem ow_128 : xown 128 = 9 := by decide +kernel
theorem ow_130 : xown 130 = 9 := by decide +kernel
theorem ow_131 : xown 131 = 9 := by decide +kernel
theorem ow_132 : xown 132 = 9 := by decide +kernel
theorem ow_14 : xown 14 = 3 := by decide +kernel
theorem ow_145 : xown 145 = 0 := by decide +kernel
theorem ow_146 : xown 146 = 4 := by decide +kernel
theorem ow_15 : xown 15 = 3 := by decide +kernel
theorem ow_150 : xown 150 = 5 := by decide +kernel
theorem ow_153 : xown 153 = 0 := by decide +kernel
theorem ow_154 : xown 154 = 0 := by decide +kernel
theorem ow_156 : xown 156 = 0 := by decide +kernel
theorem ow_157 : xown 157 = 10 := by decide +kernel
theorem ow_158 : xown 158 = 10 := by decide +kernel
theorem ow_159 : xown 159 = 10 := by decide +kernel
theorem ow_16 : xown 16 = 5 := by decide +kernel
theorem ow_160 : xown 160 = 10 := by decide +kernel
theorem ow_161 : xown 161 = 10 := by decide +kernel
theorem ow_162 : xown 162 = 10 := by decide +kernel
theorem ow_164 : xown 164 = 10 := by decide +kernel
theorem ow_167 : xown 167 = 0 := by decide +kernel
theorem ow_171 : xown 171 = 0 := by decide +kernel
theorem ow_172 : xown 172 = 0 := by decide +kernel
theorem ow_177 : xown 177 = 0 := by decide +kernel
theorem ow_185 : xown 185 = 0 := by decide +kernel
theorem ow_186 : xown 186 = 0 := by decide +kernel
theorem ow_190 : xown 190 = 12 := by decide +kernel
theorem ow_191 : xown 191 = 12 := by decide +kernel
theorem ow_192 : xown 192 = 12 := by decide +kernel
theorem ow_194 : xown 194 = 12 := by decide +kernel
theorem ow_198 : xown 198 = 12 := by decide +kernel
theorem ow_20 : xown 20 = 4 := by decide +kernel
theorem ow_200 : xown 200 = 12 := by decide +kernel
theorem ow_201 : xown 201 = 12 := by decide +kernel
theorem ow_202 : xown 202 = 12 := by decide +kernel
theorem ow_205 : xown 205 = 12 := by decide +kernel
theorem ow_206 : xown 206 = 12 := by decide +kernel
theorem ow_207 : xown 207 = 12 := by decide +kernel
theorem ow_208 : xown 208 = 12 := by decide +kernel
theorem ow_209 : xown 209 = 12 := by decide +kernel
theorem ow_211 : xown 211 = 12 := by decide +kernel
theorem ow_212 : xown 212 = 12 := by decide +kernel
theorem ow_213 : xown 213 = 12 := by decide +kernel
theorem ow_214 : xown 214 = 12 := by decide +kernel
theorem ow_217 : xown 217 = 12 := by decide +kernel
theorem ow_219 : xown 219 = 12 := by decide +kernel
theorem ow_22 : xown 22 = 3 := by decide +kernel
theorem ow_228 : xown 228 = 12 := by decide +kernel
theorem ow_229 : xown 229 = 12 := by decide +kernel
theorem ow_230 : xown 230 = 12 := by decide +kernel
theorem ow_233 : xown 233 = 12 := by decide +kernel
theorem ow_236 : xown 236 = 12 := by decide +kernel
theorem ow_245 : xown 245 = 12 := by decide +kernel
theorem ow_247 : xown 247 = 12 := by decide +kernel
theorem ow_251 : xown 251 = 12 := by decide +kernel
theorem ow_252 : xown 252 = 12 := by decide +kernel
theorem ow_253 : xown 253 = 12 := by decide +kernel
theorem ow_254 : xown 254 = 12 := by decide +kernel
theorem ow_258 : xown 258 = 12 := by decide +kernel
theorem ow_259 : xown 259 = 12 := by decide +kernel
theorem ow_26 : xown 26 = 0 := by decide +kernel
theorem ow_27 : xown 27 = 0 := by decide +kernel
theorem ow_272 : xown 272 = 12 := by decide +kernel
theorem ow_273 : xown 273 = 12 := by decide +kernel
theorem ow_275 : xown 275 = 12 := by decide +kernel
theorem ow_28 : xown 28 = 4 := by decide +kernel
theorem ow_281 : xown 281 = 12 := by decide +kernel
theorem ow_282 : xown 282 = 12 := by decide +kernel
theorem ow_283 : xown 283 = 12 := by decide +kernel
theorem ow_284 : xown 284 = 12 := by decide +kernel
theorem ow_285 : xown 285 = 12 := by decide +kernel
theorem ow_288 : xown 288 = 12 := by decide +kernel
theorem ow_289 : xown 289 = 12 := by decide +kernel
theorem ow_29 : xown 29 = 4 := by decide +kernel
theorem ow_293 : xown 293 = 12 := by decide +kernel
theorem ow_294 : xown 294 = 12 := by decide +kernel
theorem ow_299 : xown 299 = 12 := by decide +kernel
theorem ow_30 : xown 30 = 4 := by decide +kernel
theorem ow_31 : xown 31 = 4 := by decide +kernel
theorem ow_32 : xown 32 = 0 := by decide +kernel
theorem ow_33 : xown 33 = 0 := by decide +kernel
theorem ow_34 : xown 34 = 0 := by decide +kernel
theorem ow_35 : xown 35 = 0 := by decide +kernel
theorem ow_36 : xown 36 = 6 := by decide +kernel
theorem ow_37 : xown 37 = 2 := by decide +kernel
theorem ow_39 : xown 39 = 1 := by decide +kernel
theorem ow_40 : xown 40 = 6 := by decide +kernel
theorem ow_41 : xown 41 = 2 := by decide +kernel
theorem ow_42 : xown 42 = 2 := by decide +kernel
theorem ow_43 : xown 43 = 5 := by decide +kernel
theorem ow_44 : xown 44 = 5 := by decide +kernel
theorem ow_45 : xown 45 = 0 := by decide +kernel
theorem ow_46 : xown 46 = 0 := by decide +kernel
theorem ow_48 : xown 48 = 0 := by decide +kernel
theorem ow_55 : xown 55 = 0 := by decide +kernel
theorem ow_56 : xown 56 = 4 := by decide +kernel
theorem ow_57 : xown 57 = 0 := by decide +kernel
theorem ow_60 : xown 60 = 4 := by decide +kernel
theorem ow_61 : xown 61 = 6 := by decide +kernel
theorem ow_62 : xown 62 = 6 := by decide +kernel
theorem ow_63 : xown 63 = 4 := by decide +kernel
theorem ow_65 : xown 65 = 6 := by decide +kernel
theorem ow_66 : xown 66 = 2 := by decide +kernel
theorem ow_67 : xown 67 = 6 := by decide +kernel
theorem ow_68 : xown 68 = 6 := by decide +kernel
theorem ow_69 : xown 69 = 6 := by decide +kernel
theorem ow_70 : xown 70 = 6 := by decide +kernel
theorem ow_72 : xown 72 = 6 := by decide +kernel
theorem ow_73 : xown 73 = 4 := by decide +kernel
theorem ow_74 : xown 74 = 6 := by decide +kernel
theorem ow_77 : xown 77 = 0 := by decide +kernel
theorem ow_85 : xown 85 = 0 := by decide +kernel
theorem ow_86 : xown 86 = 7 := by decide +kernel
theorem ow_87 : xown 87 = 7 := by decide +kernel
theorem ow_88 : xown 88 = 7 := by decide +kernel
theorem ow_89 : xown 89 = 7 := by decide +kernel
theorem ow_93 : xown 93 = 7 := by decide +kernel
theorem ow_94 : xown 94 = 7 := by decide +kernel
theorem ow_95 : xown 95 = 7 := by decide +kernel
theorem ow_96 : xown 96 = 7 := by decide +kernel
theorem ow_97 : xown 97 = 0 := by decide +kernel
theorem ow_99 : xown 99 = 0 := by decide +kernel
theorem rm_0_1 : xroom 0 1 = true := by decide +kernel
theorem rm_0_10 : xroom 0 10 = true := by decide +kernel
theorem rm_0_11 : xroom 0 11 = true := by decide +kernel
theorem rm_0_12 : xroom 0 12 = true := by decide +kernel
theorem rm_0_14 : xroom 0 14 = true := by decide +kernel
theorem rm_0_2 : xroom 0 2 = true := by decide +kernel
theorem rm_0_20 : xroom 0 20 = true := by decide +kernel
theorem rm_0_22 : xroom 0 22 = true := by decide +kernel
theorem rm_0_3 : xroom 0 3 = true := by decide +kernel
theorem rm_0_4 : xroom 0 4 = true := by decide +kernel
theorem rm_0_5 : xroom 0 5 = true := by decide +kernel
theorem rm_0_7 : xroom 0 7 = true := by decide +kernel
theorem rm_0_8 : xroom 0 8 = true := by decide +kernel
theorem rm_0_9 : xroom 0 9 = true := by decide +kernel
theorem rm_100_16 : xroom 100 16 = true := by decide +kernel
theorem rm_100_29 : xroom 100 29 = true := by decide +kernel
theorem rm_100_30 : xroom 100 30 = true := by decide +kernel
theorem rm_100_31 : xroom 100 31 = true := by decide +kernel
theorem rm_101_17 : xroom 101 17 = true := by decide +kernel
theorem rm_101_19 : xroom 101 19 = true := by decide +kernel
theorem rm_103_24 : xroom 103 24 = true := by decide +kernel
theorem rm_103_68 : xroom 103 68 = true := by decide +kernel
theorem rm_103_84 : xroom 103 84 = true := by decide +kernel
theorem rm_104_105 : xroom 104 105 = true := by decide +kernel
theorem rm_104_24 : xroom 104 24 = true := by decide +kernel
theorem rm_104_84 : xroom 104 84 = true := by decide +kernel
theorem rm_105_50 : xroom 105 50 = true := by decide +kernel
theorem rm_105_54 : xroom 105 54 = true := by decide +kernel
theorem rm_105_69 : xroom 105 69 = true := by decide +kernel
theorem rm_105_70 : xroom 105 70 = true := by decide +kernel
theorem rm_106_24 : xroom 106 24 = true := by decide +kernel
theorem rm_106_61 : xroom 106 61 = true := by decide +kernel
theorem rm_107_76 : xroom 107 76 = true := by decide +kernel
theorem rm_107_77 : xroom 107 77 = true := by decide +kernel
theorem rm_108_61 : xroom 108 61 = true := by decide +kernel
theorem rm_109_100 : xroom 109 100 = true := by decide +kernel
theorem rm_109_110 : xroom 109 110 = true := by decide +kernel
theorem rm_109_111 : xroom 109 111 = true := by decide +kernel
theorem rm_109_20 : xroom 109 20 = true := by decide +kernel
theorem rm_109_27 : xroom 109 27 = true := by decide +kernel
theorem rm_109_76 : xroom 109 76 = true := by decide +kernel
theorem rm_110_61 : xroom 110 61 = true := by decide +kernel
theorem rm_112_111 : xroom 112 111 = true := by decide +kernel
theorem rm_112_113 : xroom 112 113 = true := by decide +kernel
theorem rm_112_27 : xroom 112 27 = true := by decide +kernel
theorem rm_112_61 : xroom 112 61 = true := by decide +kernel
theorem rm_112_76 : xroom 112 76 = true := by decide +kernel
theorem rm_113_114 : xroom 113 114 = true := by decide +kernel
theorem rm_113_60 : xroom 113 60 = true := by decide +kernel
theorem rm_115_116 : xroom 115 116 = true := by decide +kernel
theorem rm_115_117 : xroom 115 117 = true := by decide +kernel
theorem rm_115_36 : xroom 115 36 = true := by decide +kernel
theorem rm_115_42 : xroom 115 42 = true := by decide +kernel
theorem rm_115_99 : xroom 115 99 = true := by decide +kernel
theorem rm_118_116 : xroom 118 116 = true := by decide +kernel
theorem rm_118_117 : xroom 118 117 = true := by decide +kernel
theorem rm_118_12 : xroom 118 12 = true := by decide +kernel
theorem rm_118_15 : xroom 118 15 = true := by decide +kernel
theorem rm_118_22 : xroom 118 22 = true := by decide +kernel
theorem rm_119_31 : xroom 119 31 = true := by decide +kernel
theorem rm_120_121 : xroom 120 121 = true := by decide +kernel
theorem rm_120_128 : xroom 120 128 = true := by decide +kernel
theorem rm_120_84 : xroom 120 84 = true := by decide +kernel
theorem rm_121_122 : xroom 121 122 = true := by decide +kernel
theorem rm_122_123 : xroom 122 123 = true := by decide +kernel
theorem rm_122_127 : xroom 122 127 = true := by decide +kernel
theorem rm_123_124 : xroom 123 124 = true := by decide +kernel
theorem rm_123_125 : xroom 123 125 = true := by decide +kernel
theorem rm_123_126 : xroom 123 126 = true := by decide +kernel
theorem rm_124_53 : xroom 124 53 = true := by decide +kernel
theorem rm_124_6 : xroom 124 6 = true := by decide +kernel
theorem rm_125_53 : xroom 125 53 = true := by decide +kernel
theorem rm_126_53 : xroom 126 53 = true := by decide +kernel
theorem rm_126_6 : xroom 126 6 = true := by decide +kernel
theorem rm_129_121 : xroom 129 121 = true := by decide +kernel
theorem rm_129_130 : xroom 129 130 = true := by decide +kernel
theorem rm_129_131 : xroom 129 131 = true := by decide +kernel
theorem rm_129_132 : xroom 129 132 = true := by decide +kernel
theorem rm_12_13 : xroom 12 13 = true := by decide +kernel
theorem rm_133_121 : xroom 133 121 = true := by decide +kernel
theorem rm_133_130 : xroom 133 130 = true := by decide +kernel
theorem rm_133_131 : xroom 133 131 = true := by decide +kernel
theorem rm_133_132 : xroom 133 132 = true := by decide +kernel
theorem rm_133_134 : xroom 133 134 = true := by decide +kernel
theorem rm_134_135 : xroom 134 135 = true := by decide +kernel
theorem rm_134_54 : xroom 134 54 = true := by decide +kernel
theorem rm_135_49 : xroom 135 49 = true := by decide +kernel
theorem rm_135_53 : xroom 135 53 = true := by decide +kernel
theorem rm_136_84 : xroom 136 84 = true := by decide +kernel
theorem rm_136_91 : xroom 136 91 = true := by decide +kernel
theorem rm_137_24 : xroom 137 24 = true := by decide +kernel
theorem rm_137_47 : xroom 137 47 = true := by decide +kernel
theorem rm_137_50 : xroom 137 50 = true := by decide +kernel
theorem rm_137_54 : xroom 137 54 = true := by decide +kernel
theorem rm_137_84 : xroom 137 84 = true := by decide +kernel
theorem rm_138_123 : xroom 138 123 = true := by decide +kernel
theorem rm_138_127 : xroom 138 127 = true := by decide +kernel
theorem rm_138_25 : xroom 138 25 = true := by decide +kernel
theorem rm_138_84 : xroom 138 84 = true := by decide +kernel
theorem rm_139_123 : xroom 139 123 = true := by decide +kernel
theorem rm_139_127 : xroom 139 127 = true := by decide +kernel
theorem rm_139_25 : xroom 139 25 = true := by decide +kernel
theorem rm_139_84 : xroom 139 84 = true := by decide +kernel
theorem rm_140_53 : xroom 140 53 = true := by decide +kernel
theorem rm_140_84 : xroom 140 84 = true := by decide +kernel
theorem rm_141_84 : xroom 141 84 = true := by decide +kernel
theorem rm_142_143 : xroom 142 143 = true := by decide +kernel
theorem rm_142_84 : xroom 142 84 = true := by decide +kernel
theorem rm_143_50 : xroom 143 50 = true := by decide +kernel
theorem rm_144_116 : xroom 144 116 = true := by decide +kernel
theorem rm_144_117 : xroom 144 117 = true := by decide +kernel
theorem rm_144_143 : xroom 144 143 = true := by decide +kernel
theorem rm_144_145 : xroom 144 145 = true := by decide +kernel
theorem rm_144_16 : xroom 144 16 = true := by decide +kernel
theorem rm_144_84 : xroom 144 84 = true := by decide +kernel
theorem rm_145_146 : xroom 145 146 = true := by decide +kernel
theorem rm_145_39 : xroom 145 39 = true := by decide +kernel
theorem rm_146_29 : xroom 146 29 = true := by decide +kernel
theorem rm_146_30 : xroom 146 30 = true := by decide +kernel
theorem rm_146_31 : xroom 146 31 = true := by decide +kernel
theorem rm_147_121 : xroom 147 121 = true := by decide +kernel
theorem rm_147_128 : xroom 147 128 = true := by decide +kernel
theorem rm_148_100 : xroom 148 100 = true := by decide +kernel
theorem rm_148_149 : xroom 148 149 = true := by decide +kernel
theorem rm_148_150 : xroom 148 150 = true := by decide +kernel
theorem rm_148_16 : xroom 148 16 = true := by decide +kernel
theorem rm_148_39 : xroom 148 39 = true := by decide +kernel
theorem rm_148_43 : xroom 148 43 = true := by decide +kernel
theorem rm_148_44 : xroom 148 44 = true := by decide +kernel
theorem rm_14_15 : xroom 14 15 = true := by decide +kernel
theorem rm_151_152 : xroom 151 152 = true := by decide +kernel
theorem rm_151_153 : xroom 151 153 = true := by decide +kernel
theorem rm_151_154 : xroom 151 154 = true := by decide +kernel
theorem rm_153_149 : xroom 153 149 = true := by decide +kernel
theorem rm_153_73 : xroom 153 73 = true := by decide +kernel
theorem rm_154_39 : xroom 154 39 = true := by decide +kernel
theorem rm_154_53 : xroom 154 53 = true := by decide +kernel
theorem rm_155_152 : xroom 155 152 = true := by decide +kernel
theorem rm_155_156 : xroom 155 156 = true := by decide +kernel
theorem rm_155_162 : xroom 155 162 = true := by decide +kernel
theorem rm_156_146 : xroom 156 146 = true := by decide +kernel
theorem rm_156_149 : xroom 156 149 = true := by decide +kernel
theorem rm_156_157 : xroom 156 157 = true := by decide +kernel
theorem rm_156_158 : xroom 156 158 = true := by decide +kernel
theorem rm_156_159 : xroom 156 159 = true := by decide +kernel
theorem rm_156_160 : xroom 156 160 = true := by decide +kernel
theorem rm_156_39 : xroom 156 39 = true := by decide +kernel
theorem rm_157_6 : xroom 157 6 = true := by decide +kernel
theorem rm_158_17 : xroom 158 17 = true := by decide +kernel
theorem rm_158_19 : xroom 158 19 = true := by decide +kernel
theorem rm_15_16 : xroom 15 16 = true := by decide +kernel
theorem rm_160_161 : xroom 160 161 = true := by decide +kernel
theorem rm_163_152 : xroom 163 152 = true := by decide +kernel
theorem rm_163_156 : xroom 163 156 = true := by decide +kernel
theorem rm_163_162 : xroom 163 162 = true := by decide +kernel
theorem rm_163_164 : xroom 163 164 = true := by decide +kernel
theorem rm_164_161 : xroom 164 161 = true := by decide +kernel
theorem rm_165_152 : xroom 165 152 = true := by decide +kernel
theorem rm_165_153 : xroom 165 153 = true := by decide +kernel
theorem rm_165_154 : xroom 165 154 = true := by decide +kernel
theorem rm_165_39 : xroom 165 39 = true := by decide +kernel
theorem rm_165_50 : xroom 165 50 = true := by decide +kernel
theorem rm_166_150 : xroom 166 150 = true := by decide +kernel
theorem rm_166_16 : xroom 166 16 = true := by decide +kernel
theorem rm_166_167 : xroom 166 167 = true := by decide +kernel
theorem rm_167_146 : xroom 167 146 = true := by decide +kernel
theorem rm_167_149 : xroom 167 149 = true := by decide +kernel
theorem rm_167_39 : xroom 167 39 = true := by decide +kernel
theorem rm_168_100 : xroom 168 100 = true := by decide +kernel
theorem rm_168_116 : xroom 168 116 = true := by decide +kernel
theorem rm_168_117 : xroom 168 117 = true := by decide +kernel
theorem rm_168_24 : xroom 168 24 = true := by decide +kernel
theorem rm_168_39 : xroom 168 39 = true := by decide +kernel
theorem rm_168_43 : xroom 168 43 = true := by decide +kernel
theorem rm_169_116 : xroom 169 116 = true := by decide +kernel
theorem rm_169_117 : xroom 169 117 = true := by decide +kernel
theorem rm_169_145 : xroom 169 145 = true := by decide +kernel
theorem rm_169_16 : xroom 169 16 = true := by decide +kernel
theorem rm_16_17 : xroom 16 17 = true := by decide +kernel
theorem rm_16_18 : xroom 16 18 = true := by decide +kernel
theorem rm_16_19 : xroom 16 19 = true := by decide +kernel
theorem rm_170_171 : xroom 170 171 = true := by decide +kernel
theorem rm_170_172 : xroom 170 172 = true := by decide +kernel
theorem rm_170_24 : xroom 170 24 = true := by decide +kernel
theorem rm_170_84 : xroom 170 84 = true := by decide +kernel
theorem rm_171_31 : xroom 171 31 = true := by decide +kernel
theorem rm_171_39 : xroom 171 39 = true := by decide +kernel
theorem rm_171_73 : xroom 171 73 = true := by decide +kernel
theorem rm_173_171 : xroom 173 171 = true := by decide +kernel
theorem rm_173_172 : xroom 173 172 = true := by decide +kernel
theorem rm_173_24 : xroom 173 24 = true := by decide +kernel
theorem rm_173_84 : xroom 173 84 = true := by decide +kernel
theorem rm_174_100 : xroom 174 100 = true := by decide +kernel
theorem rm_174_116 : xroom 174 116 = true := by decide +kernel
theorem rm_174_117 : xroom 174 117 = true := by decide +kernel
theorem rm_174_43 : xroom 174 43 = true := by decide +kernel
theorem rm_174_44 : xroom 174 44 = true := by decide +kernel
theorem rm_175_100 : xroom 175 100 = true := by decide +kernel
theorem rm_175_43 : xroom 175 43 = true := by decide +kernel
theorem rm_176_177 : xroom 176 177 = true := by decide +kernel
theorem rm_177_13 : xroom 177 13 = true := by decide +kernel
theorem rm_177_178 : xroom 177 178 = true := by decide +kernel
theorem rm_177_6 : xroom 177 6 = true := by decide +kernel
theorem rm_179_116 : xroom 179 116 = true := by decide +kernel
theorem rm_179_117 : xroom 179 117 = true := by decide +kernel
theorem rm_179_177 : xroom 179 177 = true := by decide +kernel
theorem rm_179_37 : xroom 179 37 = true := by decide +kernel
theorem rm_179_41 : xroom 179 41 = true := by decide +kernel
theorem rm_179_42 : xroom 179 42 = true := by decide +kernel
theorem rm_181_100 : xroom 181 100 = true := by decide +kernel
theorem rm_181_43 : xroom 181 43 = true := by decide +kernel
theorem rm_181_44 : xroom 181 44 = true := by decide +kernel
theorem rm_181_47 : xroom 181 47 = true := by decide +kernel
theorem rm_181_63 : xroom 181 63 = true := by decide +kernel
theorem rm_182_183 : xroom 182 183 = true := by decide +kernel
theorem rm_182_29 : xroom 182 29 = true := by decide +kernel
theorem rm_184_185 : xroom 184 185 = true := by decide +kernel
theorem rm_184_186 : xroom 184 186 = true := by decide +kernel
theorem rm_184_93 : xroom 184 93 = true := by decide +kernel
theorem rm_185_27 : xroom 185 27 = true := by decide +kernel
theorem rm_186_93 : xroom 186 93 = true := by decide +kernel
theorem rm_186_97 : xroom 186 97 = true := by decide +kernel
theorem rm_187_100 : xroom 187 100 = true := by decide +kernel
theorem rm_187_116 : xroom 187 116 = true := by decide +kernel
theorem rm_187_117 : xroom 187 117 = true := by decide +kernel
theorem rm_187_99 : xroom 187 99 = true := by decide +kernel
theorem rm_188_189 : xroom 188 189 = true := by decide +kernel
theorem rm_188_190 : xroom 188 190 = true := by decide +kernel
theorem rm_188_192 : xroom 188 192 = true := by decide +kernel
theorem rm_190_191 : xroom 190 191 = true := by decide +kernel
theorem rm_192_193 : xroom 192 193 = true := by decide +kernel
theorem rm_192_194 : xroom 192 194 = true := by decide +kernel
theorem rm_194_189 : xroom 194 189 = true := by decide +kernel
theorem rm_194_195 : xroom 194 195 = true := by decide +kernel
theorem rm_197_198 : xroom 197 198 = true := by decide +kernel
theorem rm_197_199 : xroom 197 199 = true := by decide +kernel
theorem rm_197_200 : xroom 197 200 = true := by decide +kernel
theorem rm_197_202 : xroom 197 202 = true := by decide +kernel
theorem rm_198_199 : xroom 198 199 = true := by decide +kernel
theorem rm_200_201 : xroom 200 201 = true := by decide +kernel
theorem rm_202_189 : xroom 202 189 = true := by decide +kernel
theorem rm_203_198 : xroom 203 198 = true := by decide +kernel
theorem rm_203_199 : xroom 203 199 = true := by decide +kernel
theorem rm_203_200 : xroom 203 200 = true := by decide +kernel
theorem rm_203_201 : xroom 203 201 = true := by decide +kernel
theorem rm_203_202 : xroom 203 202 = true := by decide +kernel
theorem rm_204_198 : xroom 204 198 = true := by decide +kernel
theorem rm_204_199 : xroom 204 199 = true := by decide +kernel
theorem rm_204_205 : xroom 204 205 = true := by decide +kernel
theorem rm_204_206 : xroom 204 206 = true := by decide +kernel
theorem rm_205_193 : xroom 205 193 = true := by decide +kernel
theorem rm_205_194 : xroom 205 194 = true := by decide +kernel
theorem rm_206_207 : xroom 206 207 = true := by decide +kernel
theorem rm_206_208 : xroom 206 208 = true := by decide +kernel
theorem rm_206_209 : xroom 206 209 = true := by decide +kernel
theorem rm_206_210 : xroom 206 210 = true := by decide +kernel
theorem rm_206_211 : xroom 206 211 = true := by decide +kernel
theorem rm_206_212 : xroom 206 212 = true := by decide +kernel
theorem rm_206_217 : xroom 206 217 = true := by decide +kernel
theorem rm_207_191 : xroom 207 191 = true := by decide +kernel
theorem rm_207_193 : xroom 207 193 = true := by decide +kernel
theorem rm_20_21 : xroom 20 21 = true := by decide +kernel
theorem rm_211_190 : xroom 211 190 = true := by decide +kernel
theorem rm_212_213 : xroom 212 213 = true := by decide +kernel
theorem rm_213_214 : xroom 213 214 = true := by decide +kernel
theorem rm_213_215 : xroom 213 215 = true := by decide +kernel
theorem rm_213_216 : xroom 213 216 = true := by decide +kernel
theorem rm_214_215 : xroom 214 215 = true := by decide +kernel
theorem rm_214_216 : xroom 214 216 = true := by decide +kernel
theorem rm_217_214 : xroom 217 214 = true := by decide +kernel
theorem rm_218_199 : xroom 218 199 = true := by decide +kernel
theorem rm_218_219 : xroom 218 219 = true := by decide +kernel
theorem rm_220_198 : xroom 220 198 = true := by decide +kernel
theorem rm_221_198 : xroom 221 198 = true := by decide +kernel
theorem rm_221_201 : xroom 221 201 = true := by decide +kernel
theorem rm_222_198 : xroom 222 198 = true := by decide +kernel
theorem rm_222_200 : xroom 222 200 = true := by decide +kernel
theorem rm_222_201 : xroom 222 201 = true := by decide +kernel
theorem rm_223_198 : xroom 223 198 = true := by decide +kernel
theorem rm_224_199 : xroom 224 199 = true := by decide +kernel
theorem rm_225_193 : xroom 225 193 = true := by decide +kernel
theorem rm_225_194 : xroom 225 194 = true := by decide +kernel
theorem rm_225_199 : xroom 225 199 = true := by decide +kernel
theorem rm_227_198 : xroom 227 198 = true := by decide +kernel
theorem rm_227_214 : xroom 227 214 = true := by decide +kernel
theorem rm_227_228 : xroom 227 228 = true := by decide +kernel
theorem rm_227_229 : xroom 227 229 = true := by decide +kernel
theorem rm_229_230 : xroom 229 230 = true := by decide +kernel
theorem rm_22_17 : xroom 22 17 = true := by decide +kernel
theorem rm_22_19 : xroom 22 19 = true := by decide +kernel
theorem rm_231_198 : xroom 231 198 = true := by decide +kernel
theorem rm_231_216 : xroom 231 216 = true := by decide +kernel
theorem rm_231_228 : xroom 231 228 = true := by decide +kernel
theorem rm_232_199 : xroom 232 199 = true := by decide +kernel
theorem rm_232_233 : xroom 232 233 = true := by decide +kernel
theorem rm_233_214 : xroom 233 214 = true := by decide +kernel
theorem rm_234_198 : xroom 234 198 = true := by decide +kernel
theorem rm_234_228 : xroom 234 228 = true := by decide +kernel
theorem rm_234_235 : xroom 234 235 = true := by decide +kernel
theorem rm_234_236 : xroom 234 236 = true := by decide +kernel
theorem rm_237_198 : xroom 237 198 = true := by decide +kernel
theorem rm_237_213 : xroom 237 213 = true := by decide +kernel
theorem rm_237_228 : xroom 237 228 = true := by decide +kernel
theorem rm_238_198 : xroom 238 198 = true := by decide +kernel
theorem rm_238_213 : xroom 238 213 = true := by decide +kernel
theorem rm_238_228 : xroom 238 228 = true := by decide +kernel
theorem rm_238_239 : xroom 238 239 = true := by decide +kernel
theorem rm_239_240 : xroom 239 240 = true := by decide +kernel
theorem rm_23_24 : xroom 23 24 = true := by decide +kernel
theorem rm_23_25 : xroom 23 25 = true := by decide +kernel
theorem rm_23_26 : xroom 23 26 = true := by decide +kernel
theorem rm_23_32 : xroom 23 32 = true := by decide +kernel
theorem rm_241_198 : xroom 241 198 = true := by decide +kernel
theorem rm_241_206 : xroom 241 206 = true := by decide +kernel
theorem rm_242_199 : xroom 242 199 = true := by decide +kernel
theorem rm_242_206 : xroom 242 206 = true := by decide +kernel
theorem rm_243_199 : xroom 243 199 = true := by decide +kernel
theorem rm_243_201 : xroom 243 201 = true := by decide +kernel
theorem rm_243_202 : xroom 243 202 = true := by decide +kernel
theorem rm_243_206 : xroom 243 206 = true := by decide +kernel
theorem rm_244_189 : xroom 244 189 = true := by decide +kernel
theorem rm_244_199 : xroom 244 199 = true := by decide +kernel
theorem rm_244_245 : xroom 244 245 = true := by decide +kernel
theorem rm_245_206 : xroom 245 206 = true := by decide +kernel
theorem rm_246_199 : xroom 246 199 = true := by decide +kernel
theorem rm_246_201 : xroom 246 201 = true := by decide +kernel
theorem rm_246_205 : xroom 246 205 = true := by decide +kernel
theorem rm_246_206 : xroom 246 206 = true := by decide +kernel
theorem rm_246_247 : xroom 246 247 = true := by decide +kernel
theorem rm_248_190 : xroom 248 190 = true := by decide +kernel
theorem rm_248_194 : xroom 248 194 = true := by decide +kernel
theorem rm_248_199 : xroom 248 199 = true := by decide +kernel
theorem rm_249_199 : xroom 249 199 = true := by decide +kernel
theorem rm_249_211 : xroom 249 211 = true := by decide +kernel
theorem rm_250_199 : xroom 250 199 = true := by decide +kernel
theorem rm_250_228 : xroom 250 228 = true := by decide +kernel
theorem rm_250_251 : xroom 250 251 = true := by decide +kernel
theorem rm_251_252 : xroom 251 252 = true := by decide +kernel
theorem rm_251_254 : xroom 251 254 = true := by decide +kernel
theorem rm_251_255 : xroom 251 255 = true := by decide +kernel
theorem rm_252_253 : xroom 252 253 = true := by decide +kernel
theorem rm_253_215 : xroom 253 215 = true := by decide +kernel
theorem rm_253_216 : xroom 253 216 = true := by decide +kernel
theorem rm_254_215 : xroom 254 215 = true := by decide +kernel
theorem rm_254_216 : xroom 254 216 = true := by decide +kernel
theorem rm_255_240 : xroom 255 240 = true := by decide +kernel
theorem rm_256_199 : xroom 256 199 = true := by decide +kernel
theorem rm_256_228 : xroom 256 228 = true := by decide +kernel
theorem rm_256_251 : xroom 256 251 = true := by decide +kernel
theorem rm_257_228 : xroom 257 228 = true := by decide +kernel
theorem rm_257_258 : xroom 257 258 = true := by decide +kernel
theorem rm_258_253 : xroom 258 253 = true := by decide +kernel
theorem rm_259_199 : xroom 259 199 = true := by decide +kernel
theorem rm_259_253 : xroom 259 253 = true := by decide +kernel
theorem rm_260_259 : xroom 260 259 = true := by decide +kernel
theorem rm_260_261 : xroom 260 261 = true := by decide +kernel
theorem rm_261_255 : xroom 261 255 = true := by decide +kernel
theorem rm_262_199 : xroom 262 199 = true := by decide +kernel
theorem rm_262_228 : xroom 262 228 = true := by decide +kernel
theorem rm_262_255 : xroom 262 255 = true := by decide +kernel
theorem rm_263_228 : xroom 263 228 = true := by decide +kernel
theorem rm_263_240 : xroom 263 240 = true := by decide +kernel
theorem rm_264_228 : xroom 264 228 = true := by decide +kernel
theorem rm_265_228 : xroom 265 228 = true := by decide +kernel
theorem rm_265_266 : xroom 265 266 = true := by decide +kernel
theorem rm_266_216 : xroom 266 216 = true := by decide +kernel
theorem rm_267_193 : xroom 267 193 = true := by decide +kernel
theorem rm_267_194 : xroom 267 194 = true := by decide +kernel
theorem rm_267_199 : xroom 267 199 = true := by decide +kernel
theorem rm_267_228 : xroom 267 228 = true := by decide +kernel
theorem rm_267_266 : xroom 267 266 = true := by decide +kernel
theorem rm_267_268 : xroom 267 268 = true := by decide +kernel
theorem rm_269_199 : xroom 269 199 = true := by decide +kernel
theorem rm_269_215 : xroom 269 215 = true := by decide +kernel
theorem rm_269_216 : xroom 269 216 = true := by decide +kernel
theorem rm_269_228 : xroom 269 228 = true := by decide +kernel
theorem rm_26_27 : xroom 26 27 = true := by decide +kernel
theorem rm_270_199 : xroom 270 199 = true := by decide +kernel
theorem rm_270_258 : xroom 270 258 = true := by decide +kernel
theorem rm_271_199 : xroom 271 199 = true := by decide +kernel
theorem rm_271_272 : xroom 271 272 = true := by decide +kernel
theorem rm_272_195 : xroom 272 195 = true := by decide +kernel
theorem rm_272_273 : xroom 272 273 = true := by decide +kernel
theorem rm_273_195 : xroom 273 195 = true := by decide +kernel
theorem rm_274_199 : xroom 274 199 = true := by decide +kernel
theorem rm_274_275 : xroom 274 275 = true := by decide +kernel
theorem rm_275_272 : xroom 275 272 = true := by decide +kernel
theorem rm_275_276 : xroom 275 276 = true := by decide +kernel
theorem rm_275_277 : xroom 275 277 = true := by decide +kernel
theorem rm_277_276 : xroom 277 276 = true := by decide +kernel
theorem rm_278_199 : xroom 278 199 = true := by decide +kernel
theorem rm_278_240 : xroom 278 240 = true := by decide +kernel
theorem rm_278_275 : xroom 278 275 = true := by decide +kernel
theorem rm_279_280 : xroom 279 280 = true := by decide +kernel
theorem rm_279_281 : xroom 279 281 = true := by decide +kernel
theorem rm_279_285 : xroom 279 285 = true := by decide +kernel
theorem rm_27_28 : xroom 27 28 = true := by decide +kernel
theorem rm_280_199 : xroom 280 199 = true := by decide +kernel
theorem rm_281_282 : xroom 281 282 = true := by decide +kernel
theorem rm_281_283 : xroom 281 283 = true := by decide +kernel
theorem rm_281_284 : xroom 281 284 = true := by decide +kernel
theorem rm_286_280 : xroom 286 280 = true := by decide +kernel
theorem rm_286_281 : xroom 286 281 = true := by decide +kernel
theorem rm_286_285 : xroom 286 285 = true := by decide +kernel
theorem rm_287_199 : xroom 287 199 = true := by decide +kernel
theorem rm_287_288 : xroom 287 288 = true := by decide +kernel
theorem rm_288_195 : xroom 288 195 = true := by decide +kernel
theorem rm_288_272 : xroom 288 272 = true := by decide +kernel
theorem rm_288_289 : xroom 288 289 = true := by decide +kernel
theorem rm_289_195 : xroom 289 195 = true := by decide +kernel
theorem rm_289_273 : xroom 289 273 = true := by decide +kernel
theorem rm_28_29 : xroom 28 29 = true := by decide +kernel
theorem rm_28_30 : xroom 28 30 = true := by decide +kernel
theorem rm_28_31 : xroom 28 31 = true := by decide +kernel
theorem rm_290_194 : xroom 290 194 = true := by decide +kernel
theorem rm_290_198 : xroom 290 198 = true := by decide +kernel
theorem rm_290_199 : xroom 290 199 = true := by decide +kernel
theorem rm_291_193 : xroom 291 193 = true := by decide +kernel
theorem rm_291_194 : xroom 291 194 = true := by decide +kernel
theorem rm_291_199 : xroom 291 199 = true := by decide +kernel
theorem rm_291_268 : xroom 291 268 = true := by decide +kernel
theorem rm_292_198 : xroom 292 198 = true := by decide +kernel
theorem rm_292_199 : xroom 292 199 = true := by decide +kernel
theorem rm_292_228 : xroom 292 228 = true := by decide +kernel
theorem rm_292_293 : xroom 292 293 = true := by decide +kernel
theorem rm_292_294 : xroom 292 294 = true := by decide +kernel
theorem rm_293_214 : xroom 293 214 = true := by decide +kernel
theorem rm_293_215 : xroom 293 215 = true := by decide +kernel
theorem rm_295_198 : xroom 295 198 = true := by decide +kernel
theorem rm_295_228 : xroom 295 228 = true := by decide +kernel
theorem rm_295_293 : xroom 295 293 = true := by decide +kernel
theorem rm_295_294 : xroom 295 294 = true := by decide +kernel
theorem rm_296_193 : xroom 296 193 = true := by decide +kernel
theorem rm_296_194 : xroom 296 194 = true := by decide +kernel
theorem rm_296_199 : xroom 296 199 = true := by decide +kernel
theorem rm_297_199 : xroom 297 199 = true := by decide +kernel
theorem rm_298_199 : xroom 298 199 = true := by decide +kernel
theorem rm_298_299 : xroom 298 299 = true := by decide +kernel
theorem rm_299_300 : xroom 299 300 = true := by decide +kernel
theorem rm_29_21 : xroom 29 21 = true := by decide +kernel
theorem rm_301_193 : xroom 301 193 = true := by decide +kernel
theorem rm_301_194 : xroom 301 194 = true := by decide +kernel
theorem rm_301_199 : xroom 301 199 = true := by decide +kernel
theorem rm_301_299 : xroom 301 299 = true := by decide +kernel
theorem rm_302_199 : xroom 302 199 = true := by decide +kernel
theorem rm_303_195 : xroom 303 195 = true := by decide +kernel
theorem rm_303_199 : xroom 303 199 = true := by decide +kernel
theorem rm_303_304 : xroom 303 304 = true := by decide +kernel
theorem rm_305_199 : xroom 305 199 = true := by decide +kernel
theorem rm_305_304 : xroom 305 304 = true := by decide +kernel
theorem rm_306_201 : xroom 306 201 = true := by decide +kernel
theorem rm_306_233 : xroom 306 233 = true := by decide +kernel
theorem rm_30_21 : xroom 30 21 = true := by decide +kernel
theorem rm_31_21 : xroom 31 21 = true := by decide +kernel
theorem rm_32_20 : xroom 32 20 = true := by decide +kernel
theorem rm_32_33 : xroom 32 33 = true := by decide +kernel
theorem rm_32_56 : xroom 32 56 = true := by decide +kernel
theorem rm_32_57 : xroom 32 57 = true := by decide +kernel
theorem rm_33_34 : xroom 33 34 = true := by decide +kernel
theorem rm_33_45 : xroom 33 45 = true := by decide +kernel
theorem rm_33_46 : xroom 33 46 = true := by decide +kernel
theorem rm_34_35 : xroom 34 35 = true := by decide +kernel
theorem rm_34_36 : xroom 34 36 = true := by decide +kernel
theorem rm_34_42 : xroom 34 42 = true := by decide +kernel
theorem rm_34_43 : xroom 34 43 = true := by decide +kernel
theorem rm_34_44 : xroom 34 44 = true := by decide +kernel
theorem rm_35_16 : xroom 35 16 = true := by decide +kernel
theorem rm_36_37 : xroom 36 37 = true := by decide +kernel
theorem rm_36_39 : xroom 36 39 = true := by decide +kernel
theorem rm_36_40 : xroom 36 40 = true := by decide +kernel
theorem rm_37_38 : xroom 37 38 = true := by decide +kernel
theorem rm_40_29 : xroom 40 29 = true := by decide +kernel
theorem rm_40_30 : xroom 40 30 = true := by decide +kernel
theorem rm_40_31 : xroom 40 31 = true := by decide +kernel
theorem rm_40_41 : xroom 40 41 = true := by decide +kernel
theorem rm_41_17 : xroom 41 17 = true := by decide +kernel
theorem rm_41_19 : xroom 41 19 = true := by decide +kernel
theorem rm_42_16 : xroom 42 16 = true := by decide +kernel
theorem rm_43_16 : xroom 43 16 = true := by decide +kernel
theorem rm_44_16 : xroom 44 16 = true := by decide +kernel
theorem rm_44_17 : xroom 44 17 = true := by decide +kernel
theorem rm_44_19 : xroom 44 19 = true := by decide +kernel
theorem rm_45_12 : xroom 45 12 = true := by decide +kernel
theorem rm_45_14 : xroom 45 14 = true := by decide +kernel
theorem rm_45_22 : xroom 45 22 = true := by decide +kernel
theorem rm_46_35 : xroom 46 35 = true := by decide +kernel
theorem rm_46_37 : xroom 46 37 = true := by decide +kernel
theorem rm_46_41 : xroom 46 41 = true := by decide +kernel
theorem rm_46_42 : xroom 46 42 = true := by decide +kernel
theorem rm_46_47 : xroom 46 47 = true := by decide +kernel
theorem rm_46_48 : xroom 46 48 = true := by decide +kernel
theorem rm_46_55 : xroom 46 55 = true := by decide +kernel
theorem rm_48_49 : xroom 48 49 = true := by decide +kernel
theorem rm_48_51 : xroom 48 51 = true := by decide +kernel
theorem rm_48_53 : xroom 48 53 = true := by decide +kernel
theorem rm_48_54 : xroom 48 54 = true := by decide +kernel
theorem rm_49_50 : xroom 49 50 = true := by decide +kernel
theorem rm_4_5 : xroom 4 5 = true := by decide +kernel
theorem rm_4_6 : xroom 4 6 = true := by decide +kernel
theorem rm_50_17 : xroom 50 17 = true := by decide +kernel
theorem rm_51_52 : xroom 51 52 = true := by decide +kernel
theorem rm_51_53 : xroom 51 53 = true := by decide +kernel
theorem rm_52_47 : xroom 52 47 = true := by decide +kernel
theorem rm_53_17 : xroom 53 17 = true := by decide +kernel
theorem rm_54_17 : xroom 54 17 = true := by decide +kernel
theorem rm_55_41 : xroom 55 41 = true := by decide +kernel
theorem rm_55_52 : xroom 55 52 = true := by decide +kernel
theorem rm_56_29 : xroom 56 29 = true := by decide +kernel
theorem rm_56_30 : xroom 56 30 = true := by decide +kernel
theorem rm_56_31 : xroom 56 31 = true := by decide +kernel
theorem rm_58_24 : xroom 58 24 = true := by decide +kernel
theorem rm_58_25 : xroom 58 25 = true := by decide +kernel
theorem rm_58_26 : xroom 58 26 = true := by decide +kernel
theorem rm_58_32 : xroom 58 32 = true := by decide +kernel
theorem rm_59_24 : xroom 59 24 = true := by decide +kernel
theorem rm_59_57 : xroom 59 57 = true := by decide +kernel
theorem rm_59_60 : xroom 59 60 = true := by decide +kernel
theorem rm_59_61 : xroom 59 61 = true := by decide +kernel
theorem rm_60_16 : xroom 60 16 = true := by decide +kernel
theorem rm_60_20 : xroom 60 20 = true := by decide +kernel
theorem rm_60_29 : xroom 60 29 = true := by decide +kernel
theorem rm_60_30 : xroom 60 30 = true := by decide +kernel
theorem rm_60_31 : xroom 60 31 = true := by decide +kernel
theorem rm_61_62 : xroom 61 62 = true := by decide +kernel
theorem rm_61_63 : xroom 61 63 = true := by decide +kernel
theorem rm_61_64 : xroom 61 64 = true := by decide +kernel
theorem rm_61_65 : xroom 61 65 = true := by decide +kernel
theorem rm_61_67 : xroom 61 67 = true := by decide +kernel
theorem rm_61_72 : xroom 61 72 = true := by decide +kernel
theorem rm_61_74 : xroom 61 74 = true := by decide +kernel
theorem rm_62_31 : xroom 62 31 = true := by decide +kernel
theorem rm_62_52 : xroom 62 52 = true := by decide +kernel
theorem rm_63_29 : xroom 63 29 = true := by decide +kernel
theorem rm_63_30 : xroom 63 30 = true := by decide +kernel
theorem rm_65_36 : xroom 65 36 = true := by decide +kernel
theorem rm_65_66 : xroom 65 66 = true := by decide +kernel
theorem rm_67_68 : xroom 67 68 = true := by decide +kernel
theorem rm_67_71 : xroom 67 71 = true := by decide +kernel
theorem rm_68_54 : xroom 68 54 = true := by decide +kernel
theorem rm_68_69 : xroom 68 69 = true := by decide +kernel
theorem rm_68_70 : xroom 68 70 = true := by decide +kernel
theorem rm_69_31 : xroom 69 31 = true := by decide +kernel
theorem rm_69_47 : xroom 69 47 = true := by decide +kernel
theorem rm_70_29 : xroom 70 29 = true := by decide +kernel
theorem rm_70_30 : xroom 70 30 = true := by decide +kernel
theorem rm_70_31 : xroom 70 31 = true := by decide +kernel
theorem rm_70_53 : xroom 70 53 = true := by decide +kernel
theorem rm_72_31 : xroom 72 31 = true := by decide +kernel
theorem rm_72_47 : xroom 72 47 = true := by decide +kernel
theorem rm_72_73 : xroom 72 73 = true := by decide +kernel
theorem rm_73_29 : xroom 73 29 = true := by decide +kernel
theorem rm_73_30 : xroom 73 30 = true := by decide +kernel
theorem rm_73_31 : xroom 73 31 = true := by decide +kernel
theorem rm_73_53 : xroom 73 53 = true := by decide +kernel
theorem rm_73_54 : xroom 73 54 = true := by decide +kernel
theorem rm_74_37 : xroom 74 37 = true := by decide +kernel
theorem rm_74_39 : xroom 74 39 = true := by decide +kernel
theorem rm_74_40 : xroom 74 40 = true := by decide +kernel
theorem rm_74_41 : xroom 74 41 = true := by decide +kernel
theorem rm_74_66 : xroom 74 66 = true := by decide +kernel
theorem rm_75_32 : xroom 75 32 = true := by decide +kernel
theorem rm_75_76 : xroom 75 76 = true := by decide +kernel
theorem rm_75_77 : xroom 75 77 = true := by decide +kernel
theorem rm_77_61 : xroom 77 61 = true := by decide +kernel
theorem rm_78_24 : xroom 78 24 = true := by decide +kernel
theorem rm_79_24 : xroom 79 24 = true := by decide +kernel
theorem rm_79_27 : xroom 79 27 = true := by decide +kernel
theorem rm_80_24 : xroom 80 24 = true := by decide +kernel
theorem rm_80_26 : xroom 80 26 = true := by decide +kernel
theorem rm_80_33 : xroom 80 33 = true := by decide +kernel
theorem rm_80_56 : xroom 80 56 = true := by decide +kernel
theorem rm_81_24 : xroom 81 24 = true := by decide +kernel
theorem rm_81_52 : xroom 81 52 = true := by decide +kernel
theorem rm_82_24 : xroom 82 24 = true := by decide +kernel
theorem rm_82_29 : xroom 82 29 = true := by decide +kernel
theorem rm_82_30 : xroom 82 30 = true := by decide +kernel
theorem rm_82_31 : xroom 82 31 = true := by decide +kernel
theorem rm_82_37 : xroom 82 37 = true := by decide +kernel
theorem rm_82_41 : xroom 82 41 = true := by decide +kernel
theorem rm_82_42 : xroom 82 42 = true := by decide +kernel
theorem rm_82_47 : xroom 82 47 = true := by decide +kernel
theorem rm_82_55 : xroom 82 55 = true := by decide +kernel
theorem rm_83_24 : xroom 83 24 = true := by decide +kernel
theorem rm_83_84 : xroom 83 84 = true := by decide +kernel
theorem rm_83_85 : xroom 83 85 = true := by decide +kernel
theorem rm_83_86 : xroom 83 86 = true := by decide +kernel
theorem rm_85_31 : xroom 85 31 = true := by decide +kernel
theorem rm_85_73 : xroom 85 73 = true := by decide +kernel
theorem rm_86_87 : xroom 86 87 = true := by decide +kernel
theorem rm_86_88 : xroom 86 88 = true := by decide +kernel
theorem rm_86_89 : xroom 86 89 = true := by decide +kernel
theorem rm_90_24 : xroom 90 24 = true := by decide +kernel
theorem rm_90_47 : xroom 90 47 = true := by decide +kernel
theorem rm_90_84 : xroom 90 84 = true := by decide +kernel
theorem rm_90_91 : xroom 90 91 = true := by decide +kernel
theorem rm_91_49 : xroom 91 49 = true := by decide +kernel
theorem rm_92_93 : xroom 92 93 = true := by decide +kernel
theorem rm_92_94 : xroom 92 94 = true := by decide +kernel
theorem rm_92_95 : xroom 92 95 = true := by decide +kernel
theorem rm_92_96 : xroom 92 96 = true := by decide +kernel
theorem rm_92_97 : xroom 92 97 = true := by decide +kernel
theorem rm_94_89 : xroom 94 89 = true := by decide +kernel
theorem rm_95_89 : xroom 95 89 = true := by decide +kernel
theorem rm_96_89 : xroom 96 89 = true := by decide +kernel
theorem rm_97_85 : xroom 97 85 = true := by decide +kernel
theorem rm_97_94 : xroom 97 94 = true := by decide +kernel
theorem rm_97_95 : xroom 97 95 = true := by decide +kernel
theorem rm_97_96 : xroom 97 96 = true := by decide +kernel
theorem rm_98_100 : xroom 98 100 = true := by decide +kernel
theorem rm_98_101 : xroom 98 101 = true := by decide +kernel
theorem rm_98_102 : xroom 98 102 = true := by decide +kernel
theorem rm_98_63 : xroom 98 63 = true := by decide +kernel
theorem rm_98_84 : xroom 98 84 = true := by decide +kernel
theorem rm_98_99 : xroom 98 99 = true := by decide +kernel
theorem rt_0 : xret 0 = none := by decide +kernel
theorem rt_1 : xret 1 = none := by decide +kernel
theorem rt_10 : xret 10 = none := by decide +kernel
theorem rt_100 : xret 100 = none := by decide +kernel
theorem rt_101 : xret 101 = some .int := by decide +kernel
theorem rt_102 : xret 102 = some .int := by decide +kernel
theorem rt_103 : xret 103 = some .int := by decide +kernel
theorem rt_104 : xret 104 = some .int := by decide +kernel
theorem rt_105 : xret 105 = some .int := by decide +kernel
theorem rt_106 : xret 106 = some .int := by decide +kernel
theorem rt_107 : xret 107 = some .long := by decide +kernel
theorem rt_108 : xret 108 = some .int := by decide +kernel
theorem rt_109 : xret 109 = some .int := by decide +kernel
theorem rt_11 : xret 11 = none := by decide +kernel
theorem rt_110 : xret 110 = some .boolean := by decide +kernel
theorem rt_111 : xret 111 = none := by decide +kernel
theorem rt_112 : xret 112 = some .int := by decide +kernel
theorem rt_113 : xret 113 = none := by decide +kernel
theorem rt_114 : xret 114 = some .long := by decide +kernel
theorem rt_115 : xret 115 = some .long := by decide +kernel
theorem rt_116 : xret 116 = some .boolean := by decide +kernel
theorem rt_117 : xret 117 = some .long := by decide +kernel
theorem rt_118 : xret 118 = some .long := by decide +kernel
theorem rt_119 : xret 119 = some .int := by decide +kernel
theorem rt_12 : xret 12 = none := by decide +kernel
theorem rt_120 : xret 120 = some .int := by decide +kernel
theorem rt_121 : xret 121 = none := by decide +kernel
theorem rt_122 : xret 122 = none := by decide +kernel
theorem rt_123 : xret 123 = none := by decide +kernel
theorem rt_124 : xret 124 = none := by decide +kernel
theorem rt_125 : xret 125 = none := by decide +kernel
theorem rt_126 : xret 126 = none := by decide +kernel
theorem rt_127 : xret 127 = some .long := by decide +kernel
theorem rt_128 : xret 128 = some .int := by decide +kernel
theorem rt_129 : xret 129 = some .int := by decide +kernel
theorem rt_13 : xret 13 = some .int := by decide +kernel
theorem rt_130 : xret 130 = some .int := by decide +kernel
theorem rt_131 : xret 131 = some .int := by decide +kernel
theorem rt_132 : xret 132 = some .int := by decide +kernel
theorem rt_133 : xret 133 = some .int := by decide +kernel
theorem rt_134 : xret 134 = some .int := by decide +kernel
theorem rt_135 : xret 135 = some .long := by decide +kernel
theorem rt_136 : xret 136 = some .int := by decide +kernel
theorem rt_137 : xret 137 = some .int := by decide +kernel
theorem rt_138 : xret 138 = some .int := by decide +kernel
theorem rt_139 : xret 139 = some .int := by decide +kernel
theorem rt_14 : xret 14 = none := by decide +kernel
theorem rt_140 : xret 140 = some .int := by decide +kernel
theorem rt_141 : xret 141 = some .int := by decide +kernel
theorem rt_142 : xret 142 = some .int := by decide +kernel
theorem rt_143 : xret 143 = some .int := by decide +kernel
theorem rt_144 : xret 144 = some .long := by decide +kernel
theorem rt_145 : xret 145 = some .long := by decide +kernel
theorem rt_146 : xret 146 = some .long := by decide +kernel
theorem rt_147 : xret 147 = some .int := by decide +kernel
theorem rt_148 : xret 148 = some .long := by decide +kernel
theorem rt_149 : xret 149 = some .int := by decide +kernel
theorem rt_15 : xret 15 = none := by decide +kernel
theorem rt_150 : xret 150 = some .long := by decide +kernel
theorem rt_151 : xret 151 = some .int := by decide +kernel
theorem rt_152 : xret 152 = some .boolean := by decide +kernel
theorem rt_153 : xret 153 = none := by decide +kernel
theorem rt_154 : xret 154 = some .long := by decide +kernel
theorem rt_155 : xret 155 = some .int := by decide +kernel
theorem rt_156 : xret 156 = none := by decide +kernel
theorem rt_157 : xret 157 = none := by decide +kernel
theorem rt_158 : xret 158 = none := by decide +kernel
theorem rt_159 : xret 159 = none := by decide +kernel
theorem rt_16 : xret 16 = none := by decide +kernel
theorem rt_160 : xret 160 = none := by decide +kernel
theorem rt_161 : xret 161 = some .int := by decide +kernel
theorem rt_162 : xret 162 = some .int := by decide +kernel
theorem rt_163 : xret 163 = some .int := by decide +kernel
theorem rt_164 : xret 164 = some .int := by decide +kernel
theorem rt_165 : xret 165 = some .int := by decide +kernel
theorem rt_166 : xret 166 = some .long := by decide +kernel
theorem rt_167 : xret 167 = some .boolean := by decide +kernel
theorem rt_168 : xret 168 = some .long := by decide +kernel
theorem rt_169 : xret 169 = some .long := by decide +kernel
theorem rt_17 : xret 17 = some .long := by decide +kernel
theorem rt_170 : xret 170 = some .int := by decide +kernel
theorem rt_171 : xret 171 = some .boolean := by decide +kernel
theorem rt_172 : xret 172 = some .long := by decide +kernel
theorem rt_173 : xret 173 = some .int := by decide +kernel
theorem rt_174 : xret 174 = some .long := by decide +kernel
theorem rt_175 : xret 175 = some .long := by decide +kernel
theorem rt_176 : xret 176 = some .long := by decide +kernel
theorem rt_177 : xret 177 = none := by decide +kernel
theorem rt_178 : xret 178 = some .long := by decide +kernel
theorem rt_179 : xret 179 = some .long := by decide +kernel
theorem rt_18 : xret 18 = some .long := by decide +kernel
theorem rt_180 : xret 180 = some .long := by decide +kernel
theorem rt_181 : xret 181 = some .long := by decide +kernel
theorem rt_182 : xret 182 = some .int := by decide +kernel
theorem rt_183 : xret 183 = some .long := by decide +kernel
theorem rt_184 : xret 184 = some .int := by decide +kernel
theorem rt_185 : xret 185 = some .int := by decide +kernel
theorem rt_186 : xret 186 = some .int := by decide +kernel
theorem rt_187 : xret 187 = some .long := by decide +kernel
theorem rt_188 : xret 188 = none := by decide +kernel
theorem rt_189 : xret 189 = none := by decide +kernel
theorem rt_19 : xret 19 = some .long := by decide +kernel
theorem rt_190 : xret 190 = none := by decide +kernel
theorem rt_191 : xret 191 = none := by decide +kernel
theorem rt_192 : xret 192 = none := by decide +kernel
theorem rt_193 : xret 193 = some .long := by decide +kernel
theorem rt_194 : xret 194 = none := by decide +kernel
theorem rt_195 : xret 195 = some .long := by decide +kernel
theorem rt_196 : xret 196 = some .int := by decide +kernel
theorem rt_197 : xret 197 = some .int := by decide +kernel
theorem rt_198 : xret 198 = some .boolean := by decide +kernel
theorem rt_199 : xret 199 = some .boolean := by decide +kernel
theorem rt_2 : xret 2 = none := by decide +kernel
theorem rt_20 : xret 20 = none := by decide +kernel
theorem rt_200 : xret 200 = some .boolean := by decide +kernel
theorem rt_201 : xret 201 = some .boolean := by decide +kernel
theorem rt_202 : xret 202 = none := by decide +kernel
theorem rt_203 : xret 203 = some .int := by decide +kernel
theorem rt_204 : xret 204 = some .int := by decide +kernel
theorem rt_205 : xret 205 = none := by decide +kernel
theorem rt_206 : xret 206 = some .int := by decide +kernel
theorem rt_207 : xret 207 = some .boolean := by decide +kernel
theorem rt_208 : xret 208 = some .long := by decide +kernel
theorem rt_209 : xret 209 = some .int := by decide +kernel
theorem rt_21 : xret 21 = some .boolean := by decide +kernel
theorem rt_210 : xret 210 = some .int := by decide +kernel
theorem rt_211 : xret 211 = some .boolean := by decide +kernel
theorem rt_212 : xret 212 = some .boolean := by decide +kernel
theorem rt_213 : xret 213 = some .int := by decide +kernel
theorem rt_214 : xret 214 = some .int := by decide +kernel
theorem rt_215 : xret 215 = some .int := by decide +kernel
theorem rt_216 : xret 216 = some .int := by decide +kernel
theorem rt_217 : xret 217 = some .boolean := by decide +kernel
theorem rt_218 : xret 218 = some .long := by decide +kernel
theorem rt_219 : xret 219 = some .long := by decide +kernel
theorem rt_22 : xret 22 = none := by decide +kernel
theorem rt_220 : xret 220 = some .int := by decide +kernel
theorem rt_221 : xret 221 = some .int := by decide +kernel
theorem rt_222 : xret 222 = some .int := by decide +kernel
theorem rt_223 : xret 223 = some .int := by decide +kernel
theorem rt_224 : xret 224 = some .long := by decide +kernel
theorem rt_225 : xret 225 = some .long := by decide +kernel
theorem rt_226 : xret 226 = some .int := by decide +kernel
theorem rt_227 : xret 227 = some .int := by decide +kernel
theorem rt_228 : xret 228 = some .boolean := by decide +kernel
theorem rt_229 : xret 229 = none := by decide +kernel
theorem rt_23 : xret 23 = some .int := by decide +kernel
theorem rt_230 : xret 230 = some .int := by decide +kernel
theorem rt_231 : xret 231 = some .int := by decide +kernel
theorem rt_232 : xret 232 = some .int := by decide +kernel
theorem rt_233 : xret 233 = some .boolean := by decide +kernel
theorem rt_234 : xret 234 = some .int := by decide +kernel
theorem rt_235 : xret 235 = some .int := by decide +kernel
theorem rt_236 : xret 236 = some .int := by decide +kernel
theorem rt_237 : xret 237 = some .int := by decide +kernel
theorem rt_238 : xret 238 = some .int := by decide +kernel
theorem rt_239 : xret 239 = some .long := by decide +kernel
theorem rt_24 : xret 24 = some .boolean := by decide +kernel
theorem rt_240 : xret 240 = some .long := by decide +kernel
theorem rt_241 : xret 241 = some .int := by decide +kernel
theorem rt_242 : xret 242 = some .long := by decide +kernel
theorem rt_243 : xret 243 = some .int := by decide +kernel
theorem rt_244 : xret 244 = some .int := by decide +kernel
theorem rt_245 : xret 245 = some .boolean := by decide +kernel
theorem rt_246 : xret 246 = some .int := by decide +kernel
theorem rt_247 : xret 247 = some .int := by decide +kernel
theorem rt_248 : xret 248 = some .long := by decide +kernel
theorem rt_249 : xret 249 = some .int := by decide +kernel
theorem rt_25 : xret 25 = some .boolean := by decide +kernel
theorem rt_250 : xret 250 = some .int := by decide +kernel
theorem rt_251 : xret 251 = none := by decide +kernel
theorem rt_252 : xret 252 = none := by decide +kernel
theorem rt_253 : xret 253 = none := by decide +kernel
theorem rt_254 : xret 254 = none := by decide +kernel
theorem rt_255 : xret 255 = some .long := by decide +kernel
theorem rt_256 : xret 256 = some .int := by decide +kernel
theorem rt_257 : xret 257 = some .int := by decide +kernel
theorem rt_258 : xret 258 = some .int := by decide +kernel
theorem rt_259 : xret 259 = some .int := by decide +kernel
theorem rt_26 : xret 26 = some .boolean := by decide +kernel
theorem rt_260 : xret 260 = some .int := by decide +kernel
theorem rt_261 : xret 261 = some .boolean := by decide +kernel
theorem rt_262 : xret 262 = some .int := by decide +kernel
theorem rt_263 : xret 263 = some .int := by decide +kernel
theorem rt_264 : xret 264 = some .int := by decide +kernel
theorem rt_265 : xret 265 = some .int := by decide +kernel
theorem rt_266 : xret 266 = some .int := by decide +kernel
theorem rt_267 : xret 267 = some .long := by decide +kernel
theorem rt_268 : xret 268 = some .long := by decide +kernel
theorem rt_269 : xret 269 = some .int := by decide +kernel
theorem rt_27 : xret 27 = some .boolean := by decide +kernel
theorem rt_270 : xret 270 = some .int := by decide +kernel
theorem rt_271 : xret 271 = some .long := by decide +kernel
theorem rt_272 : xret 272 = none := by decide +kernel
theorem rt_273 : xret 273 = none := by decide +kernel
theorem rt_274 : xret 274 = some .int := by decide +kernel
theorem rt_275 : xret 275 = some .long := by decide +kernel
theorem rt_276 : xret 276 = some .long := by decide +kernel
theorem rt_277 : xret 277 = some .long := by decide +kernel
theorem rt_278 : xret 278 = some .int := by decide +kernel
theorem rt_279 : xret 279 = some .int := by decide +kernel
theorem rt_28 : xret 28 = some .boolean := by decide +kernel
theorem rt_280 : xret 280 = some .boolean := by decide +kernel
theorem rt_281 : xret 281 = none := by decide +kernel
theorem rt_282 : xret 282 = none := by decide +kernel
theorem rt_283 : xret 283 = none := by decide +kernel
theorem rt_284 : xret 284 = none := by decide +kernel
theorem rt_285 : xret 285 = some .int := by decide +kernel
theorem rt_286 : xret 286 = some .int := by decide +kernel
theorem rt_287 : xret 287 = some .long := by decide +kernel
theorem rt_288 : xret 288 = some .boolean := by decide +kernel
theorem rt_289 : xret 289 = none := by decide +kernel
theorem rt_29 : xret 29 = some .long := by decide +kernel
theorem rt_290 : xret 290 = some .long := by decide +kernel
theorem rt_291 : xret 291 = some .long := by decide +kernel
theorem rt_292 : xret 292 = some .int := by decide +kernel
theorem rt_293 : xret 293 = some .int := by decide +kernel
theorem rt_294 : xret 294 = some .int := by decide +kernel
theorem rt_295 : xret 295 = some .int := by decide +kernel
theorem rt_296 : xret 296 = some .long := by decide +kernel
theorem rt_297 : xret 297 = some .long := by decide +kernel
theorem rt_298 : xret 298 = some .long := by decide +kernel
theorem rt_299 : xret 299 = none := by decide +kernel
theorem rt_3 : xret 3 = none := by decide +kernel
theorem rt_30 : xret 30 = some .long := by decide +kernel
theorem rt_300 : xret 300 = some .long := by decide +kernel
theorem rt_301 : xret 301 = some .long := by decide +kernel
theorem rt_302 : xret 302 = some .long := by decide +kernel
theorem rt_303 : xret 303 = some .long := by decide +kernel
theorem rt_304 : xret 304 = some .long := by decide +kernel
theorem rt_305 : xret 305 = some .int := by decide +kernel
theorem rt_306 : xret 306 = some .int := by decide +kernel
theorem rt_31 : xret 31 = some .long := by decide +kernel
theorem rt_32 : xret 32 = some .boolean := by decide +kernel
theorem rt_33 : xret 33 = none := by decide +kernel
theorem rt_34 : xret 34 = none := by decide +kernel
theorem rt_35 : xret 35 = none := by decide +kernel
theorem rt_36 : xret 36 = none := by decide +kernel
theorem rt_37 : xret 37 = none := by decide +kernel
theorem rt_38 : xret 38 = some .long := by decide +kernel
theorem rt_39 : xret 39 = some .long := by decide +kernel
theorem rt_4 : xret 4 = none := by decide +kernel
theorem rt_40 : xret 40 = none := by decide +kernel
theorem rt_41 : xret 41 = none := by decide +kernel
theorem rt_42 : xret 42 = none := by decide +kernel
theorem rt_43 : xret 43 = none := by decide +kernel
theorem rt_44 : xret 44 = none := by decide +kernel
theorem rt_45 : xret 45 = none := by decide +kernel
theorem rt_46 : xret 46 = none := by decide +kernel
theorem rt_47 : xret 47 = some .boolean := by decide +kernel
theorem rt_48 : xret 48 = some .long := by decide +kernel
theorem rt_49 : xret 49 = some .long := by decide +kernel
theorem rt_5 : xret 5 = none := by decide +kernel
theorem rt_50 : xret 50 = some .long := by decide +kernel
theorem rt_51 : xret 51 = some .long := by decide +kernel
theorem rt_52 : xret 52 = some .boolean := by decide +kernel
theorem rt_53 : xret 53 = some .long := by decide +kernel
theorem rt_54 : xret 54 = some .long := by decide +kernel
theorem rt_55 : xret 55 = none := by decide +kernel
theorem rt_56 : xret 56 = some .boolean := by decide +kernel
theorem rt_57 : xret 57 = none := by decide +kernel
theorem rt_58 : xret 58 = some .int := by decide +kernel
theorem rt_59 : xret 59 = some .int := by decide +kernel
theorem rt_6 : xret 6 = none := by decide +kernel
theorem rt_60 : xret 60 = none := by decide +kernel
theorem rt_61 : xret 61 = some .int := by decide +kernel
theorem rt_62 : xret 62 = some .boolean := by decide +kernel
theorem rt_63 : xret 63 = some .int := by decide +kernel
theorem rt_64 : xret 64 = some .int := by decide +kernel
theorem rt_65 : xret 65 = some .boolean := by decide +kernel
theorem rt_66 : xret 66 = some .boolean := by decide +kernel
theorem rt_67 : xret 67 = some .boolean := by decide +kernel
theorem rt_68 : xret 68 = some .int := by decide +kernel
theorem rt_69 : xret 69 = some .boolean := by decide +kernel
theorem rt_7 : xret 7 = none := by decide +kernel
theorem rt_70 : xret 70 = some .long := by decide +kernel
theorem rt_71 : xret 71 = some .int := by decide +kernel
theorem rt_72 : xret 72 = some .boolean := by decide +kernel
theorem rt_73 : xret 73 = some .long := by decide +kernel
theorem rt_74 : xret 74 = some .boolean := by decide +kernel
theorem rt_75 : xret 75 = some .int := by decide +kernel
theorem rt_76 : xret 76 = some .boolean := by decide +kernel
theorem rt_77 : xret 77 = some .long := by decide +kernel
theorem rt_78 : xret 78 = some .int := by decide +kernel
theorem rt_79 : xret 79 = some .int := by decide +kernel
theorem rt_8 : xret 8 = none := by decide +kernel
theorem rt_80 : xret 80 = some .int := by decide +kernel
theorem rt_81 : xret 81 = some .int := by decide +kernel
theorem rt_82 : xret 82 = some .long := by decide +kernel
theorem rt_83 : xret 83 = some .int := by decide +kernel
theorem rt_84 : xret 84 = some .boolean := by decide +kernel
theorem rt_85 : xret 85 = some .int := by decide +kernel
theorem rt_86 : xret 86 = none := by decide +kernel
theorem rt_87 : xret 87 = some .int := by decide +kernel
theorem rt_88 : xret 88 = none := by decide +kernel
theorem rt_89 : xret 89 = some .boolean := by decide +kernel
theorem rt_9 : xret 9 = none := by decide +kernel
theorem rt_90 : xret 90 = some .int := by decide +kernel
theorem rt_91 : xret 91 = some .long := by decide +kernel
theorem rt_92 : xret 92 = some .int := by decide +kernel
theorem rt_93 : xret 93 = some .int := by decide +kernel
theorem rt_94 : xret 94 = some .int := by decide +kernel
theorem rt_95 : xret 95 = some .int := by decide +kernel
theorem rt_96 : xret 96 = some .int := by decide +kernel
theorem rt_97 : xret 97 = some .boolean := by decide +kernel
theorem rt_98 : xret 98 = some .int := by decide +kernel
theorem rt_99 : xret 99 = some .boolean := by decide +kernel
theorem st_0_103 : xsite 0 103 = some (4, 0, 15, 0) := by decide +kernel
theorem st_0_106 : xsite 0 106 = some (0, 12, 0, 0) := by decide +kernel
theorem st_0_11 : xsite 0 11 = some (8, 1, 0, 0) := by decide +kernel
theorem st_0_110 : xsite 0 110 = some (0, 14, 0, 0) := by decide +kernel
theorem st_0_114 : xsite 0 114 = some (0, 20, 0, 0) := by decide +kernel
theorem st_0_117 : xsite 0 117 = some (0, 22, 0, 0) := by decide +kernel
theorem st_0_13 : xsite 0 13 = some (0, 1, 2, 0) := by decide +kernel
theorem st_0_14 : xsite 0 14 = some (4, 0, 0, 0) := by decide +kernel
theorem st_0_18 : xsite 0 18 = some (8, 2, 0, 0) := by decide +kernel
theorem st_0_20 : xsite 0 20 = some (1, 2, 2, 0) := by decide +kernel
theorem st_0_21 : xsite 0 21 = some (4, 0, 1, 0) := by decide +kernel
theorem st_0_25 : xsite 0 25 = some (8, 3, 0, 0) := by decide +kernel
theorem st_0_27 : xsite 0 27 = some (1, 3, 2, 0) := by decide +kernel
theorem st_0_28 : xsite 0 28 = some (4, 0, 2, 0) := by decide +kernel
theorem st_0_32 : xsite 0 32 = some (8, 4, 0, 0) := by decide +kernel
theorem st_0_34 : xsite 0 34 = some (0, 4, 2, 0) := by decide +kernel
theorem st_0_35 : xsite 0 35 = some (4, 0, 3, 0) := by decide +kernel
theorem st_0_39 : xsite 0 39 = some (4, 0, 4, 0) := by decide +kernel
theorem st_0_42 : xsite 0 42 = some (4, 0, 5, 0) := by decide +kernel
theorem st_0_45 : xsite 0 45 = some (4, 0, 6, 0) := by decide +kernel
theorem st_0_49 : xsite 0 49 = some (4, 0, 7, 0) := by decide +kernel
theorem st_0_5 : xsite 0 5 = some (2, 0, 0, 0) := by decide +kernel
theorem st_0_53 : xsite 0 53 = some (8, 6, 0, 0) := by decide +kernel
theorem st_0_55 : xsite 0 55 = some (0, 7, 2, 0) := by decide +kernel
theorem st_0_58 : xsite 0 58 = some (4, 0, 8, 0) := by decide +kernel
theorem st_0_62 : xsite 0 62 = some (8, 7, 0, 0) := by decide +kernel
theorem st_0_64 : xsite 0 64 = some (1, 8, 2, 0) := by decide +kernel
theorem st_0_65 : xsite 0 65 = some (4, 0, 9, 0) := by decide +kernel
theorem st_0_69 : xsite 0 69 = some (8, 8, 0, 0) := by decide +kernel
theorem st_0_71 : xsite 0 71 = some (1, 9, 2, 0) := by decide +kernel
theorem st_0_72 : xsite 0 72 = some (4, 0, 10, 0) := by decide +kernel
theorem st_0_76 : xsite 0 76 = some (8, 9, 0, 0) := by decide +kernel
theorem st_0_78 : xsite 0 78 = some (0, 10, 2, 0) := by decide +kernel
theorem st_0_81 : xsite 0 81 = some (4, 0, 11, 0) := by decide +kernel
theorem st_0_85 : xsite 0 85 = some (8, 10, 0, 0) := by decide +kernel
theorem st_0_87 : xsite 0 87 = some (1, 11, 2, 0) := by decide +kernel
theorem st_0_88 : xsite 0 88 = some (4, 0, 12, 0) := by decide +kernel
theorem st_0_92 : xsite 0 92 = some (8, 5, 0, 0) := by decide +kernel
theorem st_0_94 : xsite 0 94 = some (1, 5, 2, 0) := by decide +kernel
theorem st_0_95 : xsite 0 95 = some (4, 0, 13, 0) := by decide +kernel
theorem st_0_99 : xsite 0 99 = some (4, 0, 14, 0) := by decide +kernel
theorem st_100_38 : xsite 100 38 = some (0, 29, 0, 0) := by decide +kernel
theorem st_100_42 : xsite 100 42 = some (0, 30, 0, 0) := by decide +kernel
theorem st_100_55 : xsite 100 55 = some (0, 31, 0, 0) := by decide +kernel
theorem st_100_58 : xsite 100 58 = some (0, 16, 0, 0) := by decide +kernel
theorem st_101_13 : xsite 101 13 = some (0, 17, 1, 0) := by decide +kernel
theorem st_101_22 : xsite 101 22 = some (0, 19, 1, 0) := by decide +kernel
theorem st_101_25 : xsite 101 25 = some (4, 5, 0, 0) := by decide +kernel
theorem st_101_28 : xsite 101 28 = some (4, 5, 1, 0) := by decide +kernel
theorem st_101_7 : xsite 101 7 = some (4, 5, 2, 0) := by decide +kernel
theorem st_102_7 : xsite 102 7 = some (4, 5, 2, 0) := by decide +kernel
theorem st_103_120 : xsite 103 120 = some (0, 24, 1, 0) := by decide +kernel
theorem st_103_222 : xsite 103 222 = some (0, 84, 1, 0) := by decide +kernel
theorem st_103_264 : xsite 103 264 = some (0, 68, 0, 0) := by decide +kernel
theorem st_103_49 : xsite 103 49 = some (4, 0, 7, 0) := by decide +kernel
theorem st_103_58 : xsite 103 58 = some (4, 0, 8, 0) := by decide +kernel
theorem st_104_120 : xsite 104 120 = some (0, 24, 1, 0) := by decide +kernel
theorem st_104_222 : xsite 104 222 = some (0, 84, 1, 0) := by decide +kernel
theorem st_104_268 : xsite 104 268 = some (0, 105, 0, 0) := by decide +kernel
theorem st_104_49 : xsite 104 49 = some (4, 0, 7, 0) := by decide +kernel
theorem st_104_58 : xsite 104 58 = some (4, 0, 8, 0) := by decide +kernel
theorem st_105_66 : xsite 105 66 = some (0, 69, 0, 0) := by decide +kernel
theorem st_105_70 : xsite 105 70 = some (0, 70, 0, 0) := by decide +kernel
theorem st_105_74 : xsite 105 74 = some (0, 54, 1, 0) := by decide +kernel
theorem st_105_80 : xsite 105 80 = some (0, 50, 1, 0) := by decide +kernel
theorem st_106_120 : xsite 106 120 = some (0, 24, 1, 0) := by decide +kernel
theorem st_106_142 : xsite 106 142 = some (0, 61, 0, 0) := by decide +kernel
theorem st_106_49 : xsite 106 49 = some (4, 0, 7, 0) := by decide +kernel
theorem st_106_58 : xsite 106 58 = some (4, 0, 8, 0) := by decide +kernel
theorem st_107_146 : xsite 107 146 = some (0, 76, 1, 0) := by decide +kernel
theorem st_107_149 : xsite 107 149 = some (0, 77, 0, 0) := by decide +kernel
theorem st_107_166 : xsite 107 166 = some (10, 0, 0, -9223372036854775808) := by decide +kernel
theorem st_108_142 : xsite 108 142 = some (0, 61, 0, 0) := by decide +kernel
theorem st_108_49 : xsite 108 49 = some (4, 0, 7, 0) := by decide +kernel
theorem st_108_58 : xsite 108 58 = some (4, 0, 8, 0) := by decide +kernel
theorem st_109_114 : xsite 109 114 = some (0, 20, 0, 0) := by decide +kernel
theorem st_109_146 : xsite 109 146 = some (0, 76, 1, 0) := by decide +kernel
theorem st_109_168 : xsite 109 168 = some (0, 100, 0, 0) := by decide +kernel
theorem st_109_174 : xsite 109 174 = some (0, 27, 0, 0) := by decide +kernel
theorem st_109_271 : xsite 109 271 = some (0, 110, 0, 0) := by decide +kernel
theorem st_109_274 : xsite 109 274 = some (0, 111, 0, 0) := by decide +kernel
theorem st_109_35 : xsite 109 35 = some (4, 0, 3, 0) := by decide +kernel
theorem st_109_39 : xsite 109 39 = some (4, 0, 4, 0) := by decide +kernel
theorem st_109_42 : xsite 109 42 = some (4, 0, 5, 0) := by decide +kernel
theorem st_109_49 : xsite 109 49 = some (4, 0, 7, 0) := by decide +kernel
theorem st_109_95 : xsite 109 95 = some (4, 0, 13, 0) := by decide +kernel
theorem st_10_11 : xsite 10 11 = some (4, 9, 1, 0) := by decide +kernel
theorem st_10_15 : xsite 10 15 = some (4, 9, 2, 0) := by decide +kernel
theorem st_10_18 : xsite 10 18 = some (4, 9, 4, 0) := by decide +kernel
theorem st_10_22 : xsite 10 22 = some (4, 9, 0, 0) := by decide +kernel
theorem st_10_3 : xsite 10 3 = some (2, 0, 0, 0) := by decide +kernel
theorem st_110_142 : xsite 110 142 = some (0, 61, 0, 0) := by decide +kernel
theorem st_110_49 : xsite 110 49 = some (4, 0, 7, 0) := by decide +kernel
theorem st_110_58 : xsite 110 58 = some (4, 0, 8, 0) := by decide +kernel
theorem st_111_15 : xsite 111 15 = some (4, 4, 1, 0) := by decide +kernel
theorem st_111_18 : xsite 111 18 = some (4, 4, 2, 0) := by decide +kernel
theorem st_111_62 : xsite 111 62 = some (3, 0, 0, 0) := by decide +kernel
theorem st_111_9 : xsite 111 9 = some (4, 4, 0, 0) := by decide +kernel
theorem st_112_142 : xsite 112 142 = some (0, 61, 0, 0) := by decide +kernel
theorem st_112_146 : xsite 112 146 = some (0, 76, 1, 0) := by decide +kernel
theorem st_112_174 : xsite 112 174 = some (0, 27, 0, 0) := by decide +kernel
theorem st_112_274 : xsite 112 274 = some (0, 111, 0, 0) := by decide +kernel
theorem st_112_278 : xsite 112 278 = some (0, 113, 0, 0) := by decide +kernel
theorem st_112_39 : xsite 112 39 = some (4, 0, 4, 0) := by decide +kernel
theorem st_112_42 : xsite 112 42 = some (4, 0, 5, 0) := by decide +kernel
theorem st_112_49 : xsite 112 49 = some (4, 0, 7, 0) := by decide +kernel
theorem st_112_58 : xsite 112 58 = some (4, 0, 8, 0) := by decide +kernel
theorem st_113_134 : xsite 113 134 = some (0, 60, 0, 0) := by decide +kernel
theorem st_113_389 : xsite 113 389 = some (10, 0, 0, 2) := by decide +kernel
theorem st_113_39 : xsite 113 39 = some (4, 0, 4, 0) := by decide +kernel
theorem st_113_447 : xsite 113 447 = some (0, 114, 1, 0) := by decide +kernel
theorem st_113_450 : xsite 113 450 = some (10, 0, 0, 9) := by decide +kernel
theorem st_113_49 : xsite 113 49 = some (4, 0, 7, 0) := by decide +kernel
theorem st_114_452 : xsite 114 452 = some (10, 0, 0, 1103515245) := by decide +kernel
theorem st_114_454 : xsite 114 454 = some (10, 0, 0, 12345) := by decide +kernel
theorem st_114_456 : xsite 114 456 = some (10, 0, 0, 2147483647) := by decide +kernel
theorem st_115_153 : xsite 115 153 = some (0, 116, 1, 0) := by decide +kernel
theorem st_115_163 : xsite 115 163 = some (0, 99, 0, 0) := by decide +kernel
theorem st_115_166 : xsite 115 166 = some (10, 0, 0, -9223372036854775808) := by decide +kernel
theorem st_115_171 : xsite 115 171 = some (0, 117, 0, 0) := by decide +kernel
theorem st_115_21 : xsite 115 21 = some (4, 0, 1, 0) := by decide +kernel
theorem st_115_214 : xsite 115 214 = some (0, 42, 0, 0) := by decide +kernel
theorem st_115_281 : xsite 115 281 = some (0, 36, 0, 0) := by decide +kernel
theorem st_115_58 : xsite 115 58 = some (4, 0, 8, 0) := by decide +kernel
theorem st_115_95 : xsite 115 95 = some (4, 0, 13, 0) := by decide +kernel
theorem st_117_25 : xsite 117 25 = some (4, 5, 0, 0) := by decide +kernel
theorem st_117_28 : xsite 117 28 = some (4, 5, 1, 0) := by decide +kernel
theorem st_117_7 : xsite 117 7 = some (4, 5, 2, 0) := by decide +kernel
theorem st_118_106 : xsite 118 106 = some (0, 12, 0, 0) := by decide +kernel
theorem st_118_117 : xsite 118 117 = some (0, 22, 0, 0) := by decide +kernel
theorem st_118_153 : xsite 118 153 = some (0, 116, 1, 0) := by decide +kernel
theorem st_118_166 : xsite 118 166 = some (10, 0, 0, -9223372036854775808) := by decide +kernel
theorem st_118_171 : xsite 118 171 = some (0, 117, 0, 0) := by decide +kernel
theorem st_118_28 : xsite 118 28 = some (4, 0, 2, 0) := by decide +kernel
theorem st_118_284 : xsite 118 284 = some (0, 15, 0, 0) := by decide +kernel
theorem st_118_95 : xsite 118 95 = some (4, 0, 13, 0) := by decide +kernel
theorem st_119_204 : xsite 119 204 = some (0, 31, 0, 0) := by decide +kernel
theorem st_119_35 : xsite 119 35 = some (4, 0, 3, 0) := by decide +kernel
theorem st_11_1 : xsite 11 1 = some (2, 0, 0, 0) := by decide +kernel
theorem st_11_13 : xsite 11 13 = some (4, 10, 1, 0) := by decide +kernel
theorem st_11_9 : xsite 11 9 = some (4, 10, 0, 0) := by decide +kernel
theorem st_120_222 : xsite 120 222 = some (0, 84, 1, 0) := by decide +kernel
theorem st_120_287 : xsite 120 287 = some (0, 121, 0, 0) := by decide +kernel
theorem st_120_290 : xsite 120 290 = some (0, 128, 0, 0) := by decide +kernel
theorem st_120_81 : xsite 120 81 = some (4, 0, 11, 0) := by decide +kernel
theorem st_121_18 : xsite 121 18 = some (4, 9, 4, 0) := by decide +kernel
theorem st_121_29 : xsite 121 29 = some (7, 0, 0, 0) := by decide +kernel
theorem st_121_32 : xsite 121 32 = some (0, 122, 0, 0) := by decide +kernel
theorem st_122_11 : xsite 122 11 = some (4, 9, 1, 0) := by decide +kernel
theorem st_122_15 : xsite 122 15 = some (4, 9, 2, 0) := by decide +kernel
theorem st_122_22 : xsite 122 22 = some (4, 9, 0, 0) := by decide +kernel
theorem st_122_26 : xsite 122 26 = some (4, 9, 3, 0) := by decide +kernel
theorem st_122_36 : xsite 122 36 = some (0, 123, 0, 0) := by decide +kernel
theorem st_122_42 : xsite 122 42 = some (0, 127, 0, 0) := by decide +kernel
theorem st_123_18 : xsite 123 18 = some (4, 8, 2, 0) := by decide +kernel
theorem st_123_22 : xsite 123 22 = some (4, 8, 3, 0) := by decide +kernel
theorem st_123_25 : xsite 123 25 = some (0, 124, 0, 0) := by decide +kernel
theorem st_123_29 : xsite 123 29 = some (0, 125, 0, 0) := by decide +kernel
theorem st_123_32 : xsite 123 32 = some (0, 126, 0, 0) := by decide +kernel
theorem st_124_15 : xsite 124 15 = some (4, 8, 1, 0) := by decide +kernel
theorem st_124_35 : xsite 124 35 = some (0, 6, 1, 0) := by decide +kernel
theorem st_124_41 : xsite 124 41 = some (0, 53, 1, 0) := by decide +kernel
theorem st_124_9 : xsite 124 9 = some (4, 8, 0, 0) := by decide +kernel
theorem st_125_15 : xsite 125 15 = some (4, 8, 1, 0) := by decide +kernel
theorem st_125_41 : xsite 125 41 = some (0, 53, 1, 0) := by decide +kernel
theorem st_125_9 : xsite 125 9 = some (4, 8, 0, 0) := by decide +kernel
theorem st_126_15 : xsite 126 15 = some (4, 8, 1, 0) := by decide +kernel
theorem st_126_35 : xsite 126 35 = some (0, 6, 1, 0) := by decide +kernel
theorem st_126_41 : xsite 126 41 = some (0, 53, 1, 0) := by decide +kernel
theorem st_126_47 : xsite 126 47 = some (10, 0, 0, 2) := by decide +kernel
theorem st_126_9 : xsite 126 9 = some (4, 8, 0, 0) := by decide +kernel
theorem st_127_9 : xsite 127 9 = some (4, 8, 0, 0) := by decide +kernel
theorem st_128_11 : xsite 128 11 = some (4, 9, 1, 0) := by decide +kernel
theorem st_128_26 : xsite 128 26 = some (4, 9, 3, 0) := by decide +kernel
theorem st_129_287 : xsite 129 287 = some (0, 121, 0, 0) := by decide +kernel
theorem st_129_293 : xsite 129 293 = some (0, 130, 0, 0) := by decide +kernel
theorem st_129_294 : xsite 129 294 = some (0, 131, 0, 0) := by decide +kernel
theorem st_129_295 : xsite 129 295 = some (0, 132, 0, 0) := by decide +kernel
theorem st_129_81 : xsite 129 81 = some (4, 0, 11, 0) := by decide +kernel
theorem st_12_15 : xsite 12 15 = some (4, 3, 1, 0) := by decide +kernel
theorem st_12_18 : xsite 12 18 = some (0, 13, 1, 0) := by decide +kernel
theorem st_12_24 : xsite 12 24 = some (4, 3, 2, 0) := by decide +kernel
theorem st_12_28 : xsite 12 28 = some (10, 0, 0, 5342931457063200) := by decide +kernel
theorem st_12_9 : xsite 12 9 = some (4, 3, 0, 0) := by decide +kernel
theorem st_130_26 : xsite 130 26 = some (4, 9, 3, 0) := by decide +kernel
theorem st_131_11 : xsite 131 11 = some (4, 9, 1, 0) := by decide +kernel
theorem st_131_26 : xsite 131 26 = some (4, 9, 3, 0) := by decide +kernel
theorem st_132_15 : xsite 132 15 = some (4, 9, 2, 0) := by decide +kernel
theorem st_132_26 : xsite 132 26 = some (4, 9, 3, 0) := by decide +kernel
theorem st_133_287 : xsite 133 287 = some (0, 121, 0, 0) := by decide +kernel
theorem st_133_293 : xsite 133 293 = some (0, 130, 0, 0) := by decide +kernel
theorem st_133_294 : xsite 133 294 = some (0, 131, 0, 0) := by decide +kernel
theorem st_133_295 : xsite 133 295 = some (0, 132, 0, 0) := by decide +kernel
theorem st_133_298 : xsite 133 298 = some (0, 134, 1, 0) := by decide +kernel
theorem st_133_81 : xsite 133 81 = some (4, 0, 11, 0) := by decide +kernel
theorem st_134_306 : xsite 134 306 = some (0, 54, 1, 0) := by decide +kernel
theorem st_134_458 : xsite 134 458 = some (0, 135, 1, 0) := by decide +kernel
theorem st_135_316 : xsite 135 316 = some (0, 53, 1, 0) := by decide +kernel
theorem st_135_437 : xsite 135 437 = some (0, 49, 1, 0) := by decide +kernel
theorem st_136_222 : xsite 136 222 = some (0, 84, 1, 0) := by decide +kernel
theorem st_136_232 : xsite 136 232 = some (0, 91, 1, 0) := by decide +kernel
theorem st_136_301 : xsite 136 301 = some (9, 0, 0, 1000000) := by decide +kernel
theorem st_137_120 : xsite 137 120 = some (0, 24, 1, 0) := by decide +kernel
theorem st_137_190 : xsite 137 190 = some (0, 47, 1, 0) := by decide +kernel
theorem st_137_222 : xsite 137 222 = some (0, 84, 1, 0) := by decide +kernel
theorem st_137_302 : xsite 137 302 = some (0, 50, 1, 0) := by decide +kernel
theorem st_137_306 : xsite 137 306 = some (0, 54, 1, 0) := by decide +kernel
theorem st_138_124 : xsite 138 124 = some (0, 25, 1, 0) := by decide +kernel
theorem st_138_222 : xsite 138 222 = some (0, 84, 1, 0) := by decide +kernel
theorem st_138_310 : xsite 138 310 = some (0, 123, 0, 0) := by decide +kernel
theorem st_138_313 : xsite 138 313 = some (0, 127, 0, 0) := by decide +kernel
theorem st_138_72 : xsite 138 72 = some (4, 0, 10, 0) := by decide +kernel
theorem st_139_124 : xsite 139 124 = some (0, 25, 1, 0) := by decide +kernel
theorem st_139_222 : xsite 139 222 = some (0, 84, 1, 0) := by decide +kernel
theorem st_139_310 : xsite 139 310 = some (0, 123, 0, 0) := by decide +kernel
theorem st_139_313 : xsite 139 313 = some (0, 127, 0, 0) := by decide +kernel
theorem st_139_72 : xsite 139 72 = some (4, 0, 10, 0) := by decide +kernel
theorem st_140_222 : xsite 140 222 = some (0, 84, 1, 0) := by decide +kernel
theorem st_140_316 : xsite 140 316 = some (0, 53, 1, 0) := by decide +kernel
theorem st_141_222 : xsite 141 222 = some (0, 84, 1, 0) := by decide +kernel
theorem st_142_222 : xsite 142 222 = some (0, 84, 1, 0) := by decide +kernel
theorem st_142_319 : xsite 142 319 = some (0, 143, 1, 0) := by decide +kernel
theorem st_143_13 : xsite 143 13 = some (0, 50, 1, 0) := by decide +kernel
theorem st_144_153 : xsite 144 153 = some (0, 116, 1, 0) := by decide +kernel
theorem st_144_166 : xsite 144 166 = some (10, 0, 0, -9223372036854775808) := by decide +kernel
theorem st_144_171 : xsite 144 171 = some (0, 117, 0, 0) := by decide +kernel
theorem st_144_222 : xsite 144 222 = some (0, 84, 1, 0) := by decide +kernel
theorem st_144_319 : xsite 144 319 = some (0, 143, 1, 0) := by decide +kernel
theorem st_144_321 : xsite 144 321 = some (10, 0, 0, 30) := by decide +kernel
theorem st_144_323 : xsite 144 323 = some (0, 145, 0, 0) := by decide +kernel
theorem st_144_327 : xsite 144 327 = some (0, 16, 0, 0) := by decide +kernel
theorem st_144_35 : xsite 144 35 = some (4, 0, 3, 0) := by decide +kernel
theorem st_144_95 : xsite 144 95 = some (4, 0, 13, 0) := by decide +kernel
theorem st_145_14 : xsite 145 14 = some (4, 0, 0, 0) := by decide +kernel
theorem st_145_336 : xsite 145 336 = some (0, 39, 0, 0) := by decide +kernel
theorem st_145_461 : xsite 145 461 = some (0, 146, 0, 0) := by decide +kernel
theorem st_146_38 : xsite 146 38 = some (0, 29, 0, 0) := by decide +kernel
theorem st_146_42 : xsite 146 42 = some (0, 30, 0, 0) := by decide +kernel
theorem st_146_55 : xsite 146 55 = some (0, 31, 0, 0) := by decide +kernel
theorem st_147_184 : xsite 147 184 = some (6, 0, 0, 0) := by decide +kernel
theorem st_147_287 : xsite 147 287 = some (0, 121, 0, 0) := by decide +kernel
theorem st_147_290 : xsite 147 290 = some (0, 128, 0, 0) := by decide +kernel
theorem st_147_81 : xsite 147 81 = some (4, 0, 11, 0) := by decide +kernel
theorem st_148_14 : xsite 148 14 = some (4, 0, 0, 0) := by decide +kernel
theorem st_148_166 : xsite 148 166 = some (10, 0, 0, -9223372036854775808) := by decide +kernel
theorem st_148_168 : xsite 148 168 = some (0, 100, 0, 0) := by decide +kernel
theorem st_148_218 : xsite 148 218 = some (4, 5, 0, 0) := by decide +kernel
theorem st_148_327 : xsite 148 327 = some (0, 16, 0, 0) := by decide +kernel
theorem st_148_331 : xsite 148 331 = some (10, 0, 0, -2) := by decide +kernel
theorem st_148_333 : xsite 148 333 = some (0, 149, 1, 0) := by decide +kernel
theorem st_148_336 : xsite 148 336 = some (0, 39, 0, 0) := by decide +kernel
theorem st_148_339 : xsite 148 339 = some (0, 43, 0, 0) := by decide +kernel
theorem st_148_342 : xsite 148 342 = some (0, 44, 0, 0) := by decide +kernel
theorem st_148_345 : xsite 148 345 = some (0, 150, 0, 0) := by decide +kernel
theorem st_148_349 : xsite 148 349 = some (4, 5, 2, 0) := by decide +kernel
theorem st_148_39 : xsite 148 39 = some (4, 0, 4, 0) := by decide +kernel
theorem st_148_49 : xsite 148 49 = some (4, 0, 7, 0) := by decide +kernel
theorem st_148_95 : xsite 148 95 = some (4, 0, 13, 0) := by decide +kernel
theorem st_14_43 : xsite 14 43 = some (0, 15, 0, 0) := by decide +kernel
theorem st_14_47 : xsite 14 47 = some (4, 5, 0, 0) := by decide +kernel
theorem st_150_25 : xsite 150 25 = some (4, 5, 0, 0) := by decide +kernel
theorem st_150_28 : xsite 150 28 = some (4, 5, 1, 0) := by decide +kernel
theorem st_150_7 : xsite 150 7 = some (4, 5, 2, 0) := by decide +kernel
theorem st_151_352 : xsite 151 352 = some (0, 152, 1, 0) := by decide +kernel
theorem st_151_355 : xsite 151 355 = some (0, 153, 0, 0) := by decide +kernel
theorem st_151_358 : xsite 151 358 = some (0, 154, 0, 0) := by decide +kernel
theorem st_151_49 : xsite 151 49 = some (4, 0, 7, 0) := by decide +kernel
theorem st_152_417 : xsite 152 417 = some (9, 0, 0, 1000000000) := by decide +kernel
theorem st_153_333 : xsite 153 333 = some (0, 149, 1, 0) := by decide +kernel
theorem st_153_369 : xsite 153 369 = some (10, 0, 0, 1000000007) := by decide +kernel
theorem st_153_39 : xsite 153 39 = some (4, 0, 4, 0) := by decide +kernel
theorem st_153_444 : xsite 153 444 = some (0, 73, 0, 0) := by decide +kernel
theorem st_153_99 : xsite 153 99 = some (4, 0, 14, 0) := by decide +kernel
theorem st_154_14 : xsite 154 14 = some (4, 0, 0, 0) := by decide +kernel
theorem st_154_316 : xsite 154 316 = some (0, 53, 1, 0) := by decide +kernel
theorem st_154_336 : xsite 154 336 = some (0, 39, 0, 0) := by decide +kernel
theorem st_154_369 : xsite 154 369 = some (10, 0, 0, 1000000007) := by decide +kernel
theorem st_154_99 : xsite 154 99 = some (4, 0, 14, 0) := by decide +kernel
theorem st_155_352 : xsite 155 352 = some (0, 152, 1, 0) := by decide +kernel
theorem st_155_362 : xsite 155 362 = some (0, 156, 0, 0) := by decide +kernel
theorem st_155_365 : xsite 155 365 = some (0, 162, 0, 0) := by decide +kernel
theorem st_155_88 : xsite 155 88 = some (4, 0, 12, 0) := by decide +kernel
theorem st_156_14 : xsite 156 14 = some (4, 0, 0, 0) := by decide +kernel
theorem st_156_333 : xsite 156 333 = some (0, 149, 1, 0) := by decide +kernel
theorem st_156_336 : xsite 156 336 = some (0, 39, 0, 0) := by decide +kernel
theorem st_156_35 : xsite 156 35 = some (4, 0, 3, 0) := by decide +kernel
theorem st_156_461 : xsite 156 461 = some (0, 146, 0, 0) := by decide +kernel
theorem st_156_464 : xsite 156 464 = some (0, 157, 0, 0) := by decide +kernel
theorem st_156_467 : xsite 156 467 = some (10, 0, 0, 223092870) := by decide +kernel
theorem st_156_469 : xsite 156 469 = some (0, 158, 0, 0) := by decide +kernel
theorem st_156_473 : xsite 156 473 = some (0, 159, 0, 0) := by decide +kernel
theorem st_156_474 : xsite 156 474 = some (0, 160, 0, 0) := by decide +kernel
theorem st_156_88 : xsite 156 88 = some (4, 0, 12, 0) := by decide +kernel
theorem st_157_17 : xsite 157 17 = some (0, 6, 1, 0) := by decide +kernel
theorem st_157_9 : xsite 157 9 = some (4, 10, 0, 0) := by decide +kernel
theorem st_158_23 : xsite 158 23 = some (10, 0, 0, 1000000000) := by decide +kernel
theorem st_158_25 : xsite 158 25 = some (0, 17, 1, 0) := by decide +kernel
theorem st_158_31 : xsite 158 31 = some (0, 19, 1, 0) := by decide +kernel
theorem st_158_9 : xsite 158 9 = some (4, 10, 0, 0) := by decide +kernel
theorem st_159_23 : xsite 159 23 = some (10, 0, 0, 1000000000) := by decide +kernel
theorem st_159_9 : xsite 159 9 = some (4, 10, 0, 0) := by decide +kernel
theorem st_15_15 : xsite 15 15 = some (4, 3, 1, 0) := by decide +kernel
theorem st_15_28 : xsite 15 28 = some (10, 0, 0, 5342931457063200) := by decide +kernel
theorem st_15_37 : xsite 15 37 = some (0, 16, 0, 0) := by decide +kernel
theorem st_15_9 : xsite 15 9 = some (4, 3, 0, 0) := by decide +kernel
theorem st_160_13 : xsite 160 13 = some (4, 10, 1, 0) := by decide +kernel
theorem st_160_34 : xsite 160 34 = some (0, 161, 0, 0) := by decide +kernel
theorem st_161_38 : xsite 161 38 = some (10, 0, 0, 10) := by decide +kernel
theorem st_161_9 : xsite 161 9 = some (4, 10, 0, 0) := by decide +kernel
theorem st_162_13 : xsite 162 13 = some (4, 10, 1, 0) := by decide +kernel
theorem st_163_352 : xsite 163 352 = some (0, 152, 1, 0) := by decide +kernel
theorem st_163_362 : xsite 163 362 = some (0, 156, 0, 0) := by decide +kernel
theorem st_163_365 : xsite 163 365 = some (0, 162, 0, 0) := by decide +kernel
theorem st_163_366 : xsite 163 366 = some (0, 164, 0, 0) := by decide +kernel
theorem st_163_88 : xsite 163 88 = some (4, 0, 12, 0) := by decide +kernel
theorem st_164_13 : xsite 164 13 = some (4, 10, 1, 0) := by decide +kernel
theorem st_164_34 : xsite 164 34 = some (0, 161, 0, 0) := by decide +kernel
theorem st_165_14 : xsite 165 14 = some (4, 0, 0, 0) := by decide +kernel
theorem st_165_302 : xsite 165 302 = some (0, 50, 1, 0) := by decide +kernel
theorem st_165_336 : xsite 165 336 = some (0, 39, 0, 0) := by decide +kernel
theorem st_165_352 : xsite 165 352 = some (0, 152, 1, 0) := by decide +kernel
theorem st_165_355 : xsite 165 355 = some (0, 153, 0, 0) := by decide +kernel
theorem st_165_358 : xsite 165 358 = some (0, 154, 0, 0) := by decide +kernel
theorem st_165_369 : xsite 165 369 = some (10, 0, 0, 1000000007) := by decide +kernel
theorem st_165_49 : xsite 165 49 = some (4, 0, 7, 0) := by decide +kernel
theorem st_166_103 : xsite 166 103 = some (4, 0, 15, 0) := by decide +kernel
theorem st_166_166 : xsite 166 166 = some (10, 0, 0, -9223372036854775808) := by decide +kernel
theorem st_166_327 : xsite 166 327 = some (0, 16, 0, 0) := by decide +kernel
theorem st_166_331 : xsite 166 331 = some (10, 0, 0, -2) := by decide +kernel
theorem st_166_345 : xsite 166 345 = some (0, 150, 0, 0) := by decide +kernel
theorem st_166_349 : xsite 166 349 = some (4, 5, 2, 0) := by decide +kernel
theorem st_166_371 : xsite 166 371 = some (0, 167, 0, 0) := by decide +kernel
theorem st_166_374 : xsite 166 374 = some (10, 0, 0, -3) := by decide +kernel
theorem st_166_376 : xsite 166 376 = some (10, 0, 0, 30030) := by decide +kernel
theorem st_166_49 : xsite 166 49 = some (4, 0, 7, 0) := by decide +kernel
theorem st_166_95 : xsite 166 95 = some (4, 0, 13, 0) := by decide +kernel
theorem st_167_103 : xsite 167 103 = some (4, 0, 15, 0) := by decide +kernel
theorem st_167_14 : xsite 167 14 = some (4, 0, 0, 0) := by decide +kernel
theorem st_167_333 : xsite 167 333 = some (0, 149, 1, 0) := by decide +kernel
theorem st_167_336 : xsite 167 336 = some (0, 39, 0, 0) := by decide +kernel
theorem st_167_376 : xsite 167 376 = some (10, 0, 0, 30030) := by decide +kernel
theorem st_167_39 : xsite 167 39 = some (4, 0, 4, 0) := by decide +kernel
theorem st_167_461 : xsite 167 461 = some (0, 146, 0, 0) := by decide +kernel
theorem st_167_99 : xsite 167 99 = some (4, 0, 14, 0) := by decide +kernel
theorem st_168_120 : xsite 168 120 = some (0, 24, 1, 0) := by decide +kernel
theorem st_168_14 : xsite 168 14 = some (4, 0, 0, 0) := by decide +kernel
theorem st_168_153 : xsite 168 153 = some (0, 116, 1, 0) := by decide +kernel
theorem st_168_166 : xsite 168 166 = some (10, 0, 0, -9223372036854775808) := by decide +kernel
theorem st_168_168 : xsite 168 168 = some (0, 100, 0, 0) := by decide +kernel
theorem st_168_171 : xsite 168 171 = some (0, 117, 0, 0) := by decide +kernel
theorem st_168_336 : xsite 168 336 = some (0, 39, 0, 0) := by decide +kernel
theorem st_168_339 : xsite 168 339 = some (0, 43, 0, 0) := by decide +kernel
theorem st_168_39 : xsite 168 39 = some (4, 0, 4, 0) := by decide +kernel
theorem st_168_49 : xsite 168 49 = some (4, 0, 7, 0) := by decide +kernel
theorem st_168_95 : xsite 168 95 = some (4, 0, 13, 0) := by decide +kernel
theorem st_169_153 : xsite 169 153 = some (0, 116, 1, 0) := by decide +kernel
theorem st_169_166 : xsite 169 166 = some (10, 0, 0, -9223372036854775808) := by decide +kernel
theorem st_169_171 : xsite 169 171 = some (0, 117, 0, 0) := by decide +kernel
theorem st_169_323 : xsite 169 323 = some (0, 145, 0, 0) := by decide +kernel
theorem st_169_327 : xsite 169 327 = some (0, 16, 0, 0) := by decide +kernel
theorem st_169_378 : xsite 169 378 = some (10, 0, 0, 2310) := by decide +kernel
theorem st_169_39 : xsite 169 39 = some (4, 0, 4, 0) := by decide +kernel
theorem st_169_49 : xsite 169 49 = some (4, 0, 7, 0) := by decide +kernel
theorem st_169_95 : xsite 169 95 = some (4, 0, 13, 0) := by decide +kernel
theorem st_16_13 : xsite 16 13 = some (0, 17, 1, 0) := by decide +kernel
theorem st_16_19 : xsite 16 19 = some (0, 18, 1, 0) := by decide +kernel
theorem st_16_22 : xsite 16 22 = some (0, 19, 1, 0) := by decide +kernel
theorem st_16_25 : xsite 16 25 = some (4, 5, 0, 0) := by decide +kernel
theorem st_16_28 : xsite 16 28 = some (4, 5, 1, 0) := by decide +kernel
theorem st_16_7 : xsite 16 7 = some (4, 5, 2, 0) := by decide +kernel
theorem st_170_120 : xsite 170 120 = some (0, 24, 1, 0) := by decide +kernel
theorem st_170_222 : xsite 170 222 = some (0, 84, 1, 0) := by decide +kernel
theorem st_170_380 : xsite 170 380 = some (0, 171, 0, 0) := by decide +kernel
theorem st_170_383 : xsite 170 383 = some (0, 172, 0, 0) := by decide +kernel
theorem st_170_49 : xsite 170 49 = some (4, 0, 7, 0) := by decide +kernel
theorem st_171_14 : xsite 171 14 = some (4, 0, 0, 0) := by decide +kernel
theorem st_171_204 : xsite 171 204 = some (0, 31, 0, 0) := by decide +kernel
theorem st_171_336 : xsite 171 336 = some (0, 39, 0, 0) := by decide +kernel
theorem st_171_39 : xsite 171 39 = some (4, 0, 4, 0) := by decide +kernel
theorem st_171_444 : xsite 171 444 = some (0, 73, 0, 0) := by decide +kernel
theorem st_171_99 : xsite 171 99 = some (4, 0, 14, 0) := by decide +kernel
theorem st_172_99 : xsite 172 99 = some (4, 0, 14, 0) := by decide +kernel
theorem st_173_120 : xsite 173 120 = some (0, 24, 1, 0) := by decide +kernel
theorem st_173_222 : xsite 173 222 = some (0, 84, 1, 0) := by decide +kernel
theorem st_173_380 : xsite 173 380 = some (0, 171, 0, 0) := by decide +kernel
theorem st_173_383 : xsite 173 383 = some (0, 172, 0, 0) := by decide +kernel
theorem st_173_49 : xsite 173 49 = some (4, 0, 7, 0) := by decide +kernel
theorem st_174_153 : xsite 174 153 = some (0, 116, 1, 0) := by decide +kernel
theorem st_174_166 : xsite 174 166 = some (10, 0, 0, -9223372036854775808) := by decide +kernel
theorem st_174_168 : xsite 174 168 = some (0, 100, 0, 0) := by decide +kernel
theorem st_174_171 : xsite 174 171 = some (0, 117, 0, 0) := by decide +kernel
theorem st_174_339 : xsite 174 339 = some (0, 43, 0, 0) := by decide +kernel
theorem st_174_342 : xsite 174 342 = some (0, 44, 0, 0) := by decide +kernel
theorem st_174_387 : xsite 174 387 = some (10, 0, 0, -1) := by decide +kernel
theorem st_174_39 : xsite 174 39 = some (4, 0, 4, 0) := by decide +kernel
theorem st_174_49 : xsite 174 49 = some (4, 0, 7, 0) := by decide +kernel
theorem st_174_95 : xsite 174 95 = some (4, 0, 13, 0) := by decide +kernel
theorem st_175_166 : xsite 175 166 = some (10, 0, 0, -9223372036854775808) := by decide +kernel
theorem st_175_168 : xsite 175 168 = some (0, 100, 0, 0) := by decide +kernel
theorem st_175_218 : xsite 175 218 = some (4, 5, 0, 0) := by decide +kernel
theorem st_175_339 : xsite 175 339 = some (0, 43, 0, 0) := by decide +kernel
theorem st_175_389 : xsite 175 389 = some (10, 0, 0, 2) := by decide +kernel
theorem st_175_39 : xsite 175 39 = some (4, 0, 4, 0) := by decide +kernel
theorem st_175_391 : xsite 175 391 = some (4, 5, 1, 0) := by decide +kernel
theorem st_175_49 : xsite 175 49 = some (4, 0, 7, 0) := by decide +kernel
theorem st_175_95 : xsite 175 95 = some (4, 0, 13, 0) := by decide +kernel
theorem st_176_166 : xsite 176 166 = some (10, 0, 0, -9223372036854775808) := by decide +kernel
theorem st_176_394 : xsite 176 394 = some (0, 177, 0, 0) := by decide +kernel
theorem st_176_99 : xsite 176 99 = some (4, 0, 14, 0) := by decide +kernel
theorem st_177_477 : xsite 177 477 = some (0, 6, 1, 0) := by decide +kernel
theorem st_177_482 : xsite 177 482 = some (0, 13, 1, 0) := by decide +kernel
theorem st_177_485 : xsite 177 485 = some (0, 178, 1, 0) := by decide +kernel
theorem st_177_99 : xsite 177 99 = some (4, 0, 14, 0) := by decide +kernel
theorem st_178_387 : xsite 178 387 = some (10, 0, 0, -1) := by decide +kernel
theorem st_178_489 : xsite 178 489 = some (10, 0, 0, 9223372036854775807) := by decide +kernel
theorem st_179_153 : xsite 179 153 = some (0, 116, 1, 0) := by decide +kernel
theorem st_179_166 : xsite 179 166 = some (10, 0, 0, -9223372036854775808) := by decide +kernel
theorem st_179_171 : xsite 179 171 = some (0, 117, 0, 0) := by decide +kernel
theorem st_179_195 : xsite 179 195 = some (0, 37, 0, 0) := by decide +kernel
theorem st_179_207 : xsite 179 207 = some (0, 41, 0, 0) := by decide +kernel
theorem st_179_21 : xsite 179 21 = some (4, 0, 1, 0) := by decide +kernel
theorem st_179_214 : xsite 179 214 = some (0, 42, 0, 0) := by decide +kernel
theorem st_179_387 : xsite 179 387 = some (10, 0, 0, -1) := by decide +kernel
theorem st_179_394 : xsite 179 394 = some (0, 177, 0, 0) := by decide +kernel
theorem st_179_397 : xsite 179 397 = some (10, 0, 0, 232792560) := by decide +kernel
theorem st_179_95 : xsite 179 95 = some (4, 0, 13, 0) := by decide +kernel
theorem st_179_99 : xsite 179 99 = some (4, 0, 14, 0) := by decide +kernel
theorem st_180_103 : xsite 180 103 = some (4, 0, 15, 0) := by decide +kernel
theorem st_180_166 : xsite 180 166 = some (10, 0, 0, -9223372036854775808) := by decide +kernel
theorem st_180_399 : xsite 180 399 = some (3, 0, 0, 0) := by decide +kernel
theorem st_180_99 : xsite 180 99 = some (4, 0, 14, 0) := by decide +kernel
theorem st_181_166 : xsite 181 166 = some (10, 0, 0, -9223372036854775808) := by decide +kernel
theorem st_181_168 : xsite 181 168 = some (0, 100, 0, 0) := by decide +kernel
theorem st_181_190 : xsite 181 190 = some (0, 47, 1, 0) := by decide +kernel
theorem st_181_218 : xsite 181 218 = some (4, 5, 0, 0) := by decide +kernel
theorem st_181_255 : xsite 181 255 = some (0, 63, 0, 0) := by decide +kernel
theorem st_181_339 : xsite 181 339 = some (0, 43, 0, 0) := by decide +kernel
theorem st_181_342 : xsite 181 342 = some (0, 44, 0, 0) := by decide +kernel
theorem st_181_39 : xsite 181 39 = some (4, 0, 4, 0) := by decide +kernel
theorem st_181_391 : xsite 181 391 = some (4, 5, 1, 0) := by decide +kernel
theorem st_181_49 : xsite 181 49 = some (4, 0, 7, 0) := by decide +kernel
theorem st_181_95 : xsite 181 95 = some (4, 0, 13, 0) := by decide +kernel
theorem st_182_198 : xsite 182 198 = some (0, 29, 0, 0) := by decide +kernel
theorem st_182_39 : xsite 182 39 = some (4, 0, 4, 0) := by decide +kernel
theorem st_182_405 : xsite 182 405 = some (0, 183, 1, 0) := by decide +kernel
theorem st_182_49 : xsite 182 49 = some (4, 0, 7, 0) := by decide +kernel
theorem st_184_238 : xsite 184 238 = some (0, 93, 0, 0) := by decide +kernel
theorem st_184_411 : xsite 184 411 = some (0, 185, 0, 0) := by decide +kernel
theorem st_184_414 : xsite 184 414 = some (0, 186, 0, 0) := by decide +kernel
theorem st_184_49 : xsite 184 49 = some (4, 0, 7, 0) := by decide +kernel
theorem st_184_65 : xsite 184 65 = some (4, 0, 9, 0) := by decide +kernel
theorem st_185_174 : xsite 185 174 = some (0, 27, 0, 0) := by decide +kernel
theorem st_185_49 : xsite 185 49 = some (4, 0, 7, 0) := by decide +kernel
theorem st_186_238 : xsite 186 238 = some (0, 93, 0, 0) := by decide +kernel
theorem st_186_252 : xsite 186 252 = some (0, 97, 0, 0) := by decide +kernel
theorem st_186_65 : xsite 186 65 = some (4, 0, 9, 0) := by decide +kernel
theorem st_187_153 : xsite 187 153 = some (0, 116, 1, 0) := by decide +kernel
theorem st_187_163 : xsite 187 163 = some (0, 99, 0, 0) := by decide +kernel
theorem st_187_166 : xsite 187 166 = some (10, 0, 0, -9223372036854775808) := by decide +kernel
theorem st_187_168 : xsite 187 168 = some (0, 100, 0, 0) := by decide +kernel
theorem st_187_171 : xsite 187 171 = some (0, 117, 0, 0) := by decide +kernel
theorem st_187_39 : xsite 187 39 = some (4, 0, 4, 0) := by decide +kernel
theorem st_187_95 : xsite 187 95 = some (4, 0, 13, 0) := by decide +kernel
theorem st_188_1 : xsite 188 1 = some (2, 0, 0, 0) := by decide +kernel
theorem st_188_103 : xsite 188 103 = some (0, 190, 0, 0) := by decide +kernel
theorem st_188_107 : xsite 188 107 = some (4, 12, 8, 0) := by decide +kernel
theorem st_188_111 : xsite 188 111 = some (4, 12, 9, 0) := by decide +kernel
theorem st_188_114 : xsite 188 114 = some (0, 192, 0, 0) := by decide +kernel
theorem st_188_13 : xsite 188 13 = some (4, 12, 2, 0) := by decide +kernel
theorem st_188_16 : xsite 188 16 = some (4, 12, 3, 0) := by decide +kernel
theorem st_188_20 : xsite 188 20 = some (4, 12, 4, 0) := by decide +kernel
theorem st_188_24 : xsite 188 24 = some (4, 12, 5, 0) := by decide +kernel
theorem st_188_27 : xsite 188 27 = some (4, 12, 6, 0) := by decide +kernel
theorem st_188_30 : xsite 188 30 = some (4, 12, 10, 0) := by decide +kernel
theorem st_188_33 : xsite 188 33 = some (4, 12, 11, 0) := by decide +kernel
theorem st_188_36 : xsite 188 36 = some (4, 12, 12, 0) := by decide +kernel
theorem st_188_39 : xsite 188 39 = some (4, 12, 15, 0) := by decide +kernel
theorem st_188_42 : xsite 188 42 = some (4, 12, 16, 0) := by decide +kernel
theorem st_188_45 : xsite 188 45 = some (4, 12, 17, 0) := by decide +kernel
theorem st_188_48 : xsite 188 48 = some (4, 12, 18, 0) := by decide +kernel
theorem st_188_51 : xsite 188 51 = some (4, 12, 19, 0) := by decide +kernel
theorem st_188_54 : xsite 188 54 = some (4, 12, 20, 0) := by decide +kernel
theorem st_188_57 : xsite 188 57 = some (4, 12, 21, 0) := by decide +kernel
theorem st_188_60 : xsite 188 60 = some (4, 12, 22, 0) := by decide +kernel
theorem st_188_63 : xsite 188 63 = some (4, 12, 23, 0) := by decide +kernel
theorem st_188_66 : xsite 188 66 = some (4, 12, 24, 0) := by decide +kernel
theorem st_188_69 : xsite 188 69 = some (4, 12, 25, 0) := by decide +kernel
theorem st_188_7 : xsite 188 7 = some (4, 12, 1, 0) := by decide +kernel
theorem st_188_72 : xsite 188 72 = some (4, 12, 26, 0) := by decide +kernel
theorem st_188_75 : xsite 188 75 = some (4, 12, 27, 0) := by decide +kernel
theorem st_188_78 : xsite 188 78 = some (4, 12, 28, 0) := by decide +kernel
theorem st_188_81 : xsite 188 81 = some (4, 12, 29, 0) := by decide +kernel
theorem st_188_84 : xsite 188 84 = some (4, 12, 30, 0) := by decide +kernel
theorem st_188_87 : xsite 188 87 = some (4, 12, 31, 0) := by decide +kernel
theorem st_188_90 : xsite 188 90 = some (4, 12, 32, 0) := by decide +kernel
theorem st_188_93 : xsite 188 93 = some (4, 12, 33, 0) := by decide +kernel
theorem st_188_96 : xsite 188 96 = some (4, 12, 7, 0) := by decide +kernel
theorem st_188_99 : xsite 188 99 = some (0, 189, 1, 0) := by decide +kernel
theorem st_190_107 : xsite 190 107 = some (4, 12, 8, 0) := by decide +kernel
theorem st_190_111 : xsite 190 111 = some (4, 12, 9, 0) := by decide +kernel
theorem st_190_125 : xsite 190 125 = some (10, 0, 0, 7420738134810) := by decide +kernel
theorem st_190_127 : xsite 190 127 = some (0, 191, 0, 0) := by decide +kernel
theorem st_190_24 : xsite 190 24 = some (4, 12, 5, 0) := by decide +kernel
theorem st_191_107 : xsite 191 107 = some (4, 12, 8, 0) := by decide +kernel
theorem st_191_111 : xsite 191 111 = some (4, 12, 9, 0) := by decide +kernel
theorem st_191_125 : xsite 191 125 = some (10, 0, 0, 7420738134810) := by decide +kernel
theorem st_192_125 : xsite 192 125 = some (10, 0, 0, 7420738134810) := by decide +kernel
theorem st_192_131 : xsite 192 131 = some (0, 193, 1, 0) := by decide +kernel
theorem st_192_134 : xsite 192 134 = some (0, 194, 0, 0) := by decide +kernel
theorem st_194_121 : xsite 194 121 = some (0, 195, 1, 0) := by decide +kernel
theorem st_194_99 : xsite 194 99 = some (0, 189, 1, 0) := by decide +kernel
theorem st_196_118 : xsite 196 118 = some (4, 12, 0, 0) := by decide +kernel
theorem st_197_118 : xsite 197 118 = some (4, 12, 0, 0) := by decide +kernel
theorem st_197_137 : xsite 197 137 = some (0, 199, 1, 0) := by decide +kernel
theorem st_197_145 : xsite 197 145 = some (0, 198, 0, 0) := by decide +kernel
theorem st_197_148 : xsite 197 148 = some (0, 200, 0, 0) := by decide +kernel
theorem st_197_151 : xsite 197 151 = some (0, 202, 0, 0) := by decide +kernel
theorem st_197_20 : xsite 197 20 = some (4, 12, 4, 0) := by decide +kernel
theorem st_198_137 : xsite 198 137 = some (0, 199, 1, 0) := by decide +kernel
theorem st_1_11 : xsite 1 11 = some (4, 1, 0, 0) := by decide +kernel
theorem st_1_3 : xsite 1 3 = some (2, 0, 0, 0) := by decide +kernel
theorem st_200_141 : xsite 200 141 = some (0, 201, 0, 0) := by decide +kernel
theorem st_201_13 : xsite 201 13 = some (4, 12, 2, 0) := by decide +kernel
theorem st_201_7 : xsite 201 7 = some (4, 12, 1, 0) := by decide +kernel
theorem st_202_13 : xsite 202 13 = some (4, 12, 2, 0) := by decide +kernel
theorem st_202_16 : xsite 202 16 = some (4, 12, 3, 0) := by decide +kernel
theorem st_202_7 : xsite 202 7 = some (4, 12, 1, 0) := by decide +kernel
theorem st_202_99 : xsite 202 99 = some (0, 189, 1, 0) := by decide +kernel
theorem st_203_118 : xsite 203 118 = some (4, 12, 0, 0) := by decide +kernel
theorem st_203_137 : xsite 203 137 = some (0, 199, 1, 0) := by decide +kernel
theorem st_203_141 : xsite 203 141 = some (0, 201, 0, 0) := by decide +kernel
theorem st_203_145 : xsite 203 145 = some (0, 198, 0, 0) := by decide +kernel
theorem st_203_148 : xsite 203 148 = some (0, 200, 0, 0) := by decide +kernel
theorem st_203_151 : xsite 203 151 = some (0, 202, 0, 0) := by decide +kernel
theorem st_203_20 : xsite 203 20 = some (4, 12, 4, 0) := by decide +kernel
theorem st_204_118 : xsite 204 118 = some (4, 12, 0, 0) := by decide +kernel
theorem st_204_137 : xsite 204 137 = some (0, 199, 1, 0) := by decide +kernel
theorem st_204_145 : xsite 204 145 = some (0, 198, 0, 0) := by decide +kernel
theorem st_204_155 : xsite 204 155 = some (0, 205, 0, 0) := by decide +kernel
theorem st_204_158 : xsite 204 158 = some (0, 206, 0, 0) := by decide +kernel
theorem st_204_16 : xsite 204 16 = some (4, 12, 3, 0) := by decide +kernel
theorem st_204_20 : xsite 204 20 = some (4, 12, 4, 0) := by decide +kernel
theorem st_205_13 : xsite 205 13 = some (4, 12, 2, 0) := by decide +kernel
theorem st_205_131 : xsite 205 131 = some (0, 193, 1, 0) := by decide +kernel
theorem st_205_134 : xsite 205 134 = some (0, 194, 0, 0) := by decide +kernel
theorem st_206_13 : xsite 206 13 = some (4, 12, 2, 0) := by decide +kernel
theorem st_206_218 : xsite 206 218 = some (0, 207, 0, 0) := by decide +kernel
theorem st_206_221 : xsite 206 221 = some (0, 208, 0, 0) := by decide +kernel
theorem st_206_225 : xsite 206 225 = some (0, 209, 0, 0) := by decide +kernel
theorem st_206_228 : xsite 206 228 = some (0, 210, 1, 0) := by decide +kernel
theorem st_206_231 : xsite 206 231 = some (0, 211, 0, 0) := by decide +kernel
theorem st_206_234 : xsite 206 234 = some (0, 212, 0, 0) := by decide +kernel
theorem st_206_237 : xsite 206 237 = some (0, 217, 0, 0) := by decide +kernel
theorem st_207_107 : xsite 207 107 = some (4, 12, 8, 0) := by decide +kernel
theorem st_207_111 : xsite 207 111 = some (4, 12, 9, 0) := by decide +kernel
theorem st_207_125 : xsite 207 125 = some (10, 0, 0, 7420738134810) := by decide +kernel
theorem st_207_127 : xsite 207 127 = some (0, 191, 0, 0) := by decide +kernel
theorem st_207_13 : xsite 207 13 = some (4, 12, 2, 0) := by decide +kernel
theorem st_207_131 : xsite 207 131 = some (0, 193, 1, 0) := by decide +kernel
theorem st_207_24 : xsite 207 24 = some (4, 12, 5, 0) := by decide +kernel
theorem st_208_216 : xsite 208 216 = some (10, 0, 0, 2) := by decide +kernel
theorem st_208_27 : xsite 208 27 = some (4, 12, 6, 0) := by decide +kernel
theorem st_209_13 : xsite 209 13 = some (4, 12, 2, 0) := by decide +kernel
theorem st_20_15 : xsite 20 15 = some (4, 4, 1, 0) := by decide +kernel
theorem st_20_18 : xsite 20 18 = some (4, 4, 2, 0) := by decide +kernel
theorem st_20_34 : xsite 20 34 = some (0, 21, 1, 0) := by decide +kernel
theorem st_20_45 : xsite 20 45 = some (4, 5, 0, 0) := by decide +kernel
theorem st_20_49 : xsite 20 49 = some (4, 5, 1, 0) := by decide +kernel
theorem st_20_52 : xsite 20 52 = some (4, 5, 2, 0) := by decide +kernel
theorem st_20_9 : xsite 20 9 = some (4, 4, 0, 0) := by decide +kernel
theorem st_211_103 : xsite 211 103 = some (0, 190, 0, 0) := by decide +kernel
theorem st_211_107 : xsite 211 107 = some (4, 12, 8, 0) := by decide +kernel
theorem st_211_111 : xsite 211 111 = some (4, 12, 9, 0) := by decide +kernel
theorem st_211_13 : xsite 211 13 = some (4, 12, 2, 0) := by decide +kernel
theorem st_212_205 : xsite 212 205 = some (0, 213, 0, 0) := by decide +kernel
theorem st_212_27 : xsite 212 27 = some (4, 12, 6, 0) := by decide +kernel
theorem st_213_13 : xsite 213 13 = some (4, 12, 2, 0) := by decide +kernel
theorem st_213_170 : xsite 213 170 = some (0, 215, 1, 0) := by decide +kernel
theorem st_213_174 : xsite 213 174 = some (0, 216, 1, 0) := by decide +kernel
theorem st_213_188 : xsite 213 188 = some (0, 214, 0, 0) := by decide +kernel
theorem st_214_170 : xsite 214 170 = some (0, 215, 1, 0) := by decide +kernel
theorem st_214_174 : xsite 214 174 = some (0, 216, 1, 0) := by decide +kernel
theorem st_217_13 : xsite 217 13 = some (4, 12, 2, 0) := by decide +kernel
theorem st_217_188 : xsite 217 188 = some (0, 214, 0, 0) := by decide +kernel
theorem st_217_27 : xsite 217 27 = some (4, 12, 6, 0) := by decide +kernel
theorem st_218_118 : xsite 218 118 = some (4, 12, 0, 0) := by decide +kernel
theorem st_218_13 : xsite 218 13 = some (4, 12, 2, 0) := by decide +kernel
theorem st_218_137 : xsite 218 137 = some (0, 199, 1, 0) := by decide +kernel
theorem st_218_162 : xsite 218 162 = some (0, 219, 0, 0) := by decide +kernel
theorem st_218_166 : xsite 218 166 = some (10, 0, 0, -9223372036854775808) := by decide +kernel
theorem st_218_20 : xsite 218 20 = some (4, 12, 4, 0) := by decide +kernel
theorem st_219_118 : xsite 219 118 = some (4, 12, 0, 0) := by decide +kernel
theorem st_220_118 : xsite 220 118 = some (4, 12, 0, 0) := by decide +kernel
theorem st_220_145 : xsite 220 145 = some (0, 198, 0, 0) := by decide +kernel
theorem st_220_16 : xsite 220 16 = some (4, 12, 3, 0) := by decide +kernel
theorem st_220_20 : xsite 220 20 = some (4, 12, 4, 0) := by decide +kernel
theorem st_221_118 : xsite 221 118 = some (4, 12, 0, 0) := by decide +kernel
theorem st_221_141 : xsite 221 141 = some (0, 201, 0, 0) := by decide +kernel
theorem st_221_145 : xsite 221 145 = some (0, 198, 0, 0) := by decide +kernel
theorem st_221_20 : xsite 221 20 = some (4, 12, 4, 0) := by decide +kernel
theorem st_222_118 : xsite 222 118 = some (4, 12, 0, 0) := by decide +kernel
theorem st_222_141 : xsite 222 141 = some (0, 201, 0, 0) := by decide +kernel
theorem st_222_145 : xsite 222 145 = some (0, 198, 0, 0) := by decide +kernel
theorem st_222_148 : xsite 222 148 = some (0, 200, 0, 0) := by decide +kernel
theorem st_222_20 : xsite 222 20 = some (4, 12, 4, 0) := by decide +kernel
theorem st_223_118 : xsite 223 118 = some (4, 12, 0, 0) := by decide +kernel
theorem st_223_145 : xsite 223 145 = some (0, 198, 0, 0) := by decide +kernel
theorem st_223_27 : xsite 223 27 = some (4, 12, 6, 0) := by decide +kernel
theorem st_223_7 : xsite 223 7 = some (4, 12, 1, 0) := by decide +kernel
theorem st_223_96 : xsite 223 96 = some (4, 12, 7, 0) := by decide +kernel
theorem st_224_118 : xsite 224 118 = some (4, 12, 0, 0) := by decide +kernel
theorem st_224_137 : xsite 224 137 = some (0, 199, 1, 0) := by decide +kernel
theorem st_224_166 : xsite 224 166 = some (10, 0, 0, -9223372036854775808) := by decide +kernel
theorem st_224_27 : xsite 224 27 = some (4, 12, 6, 0) := by decide +kernel
theorem st_224_7 : xsite 224 7 = some (4, 12, 1, 0) := by decide +kernel
theorem st_224_96 : xsite 224 96 = some (4, 12, 7, 0) := by decide +kernel
theorem st_225_118 : xsite 225 118 = some (4, 12, 0, 0) := by decide +kernel
theorem st_225_131 : xsite 225 131 = some (0, 193, 1, 0) := by decide +kernel
theorem st_225_134 : xsite 225 134 = some (0, 194, 0, 0) := by decide +kernel
theorem st_225_137 : xsite 225 137 = some (0, 199, 1, 0) := by decide +kernel
theorem st_225_166 : xsite 225 166 = some (10, 0, 0, -9223372036854775808) := by decide +kernel
theorem st_225_168 : xsite 225 168 = some (10, 0, 0, 5342931457063200) := by decide +kernel
theorem st_225_30 : xsite 225 30 = some (4, 12, 10, 0) := by decide +kernel
theorem st_225_33 : xsite 225 33 = some (4, 12, 11, 0) := by decide +kernel
theorem st_225_81 : xsite 225 81 = some (4, 12, 29, 0) := by decide +kernel
theorem st_226_118 : xsite 226 118 = some (4, 12, 0, 0) := by decide +kernel
theorem st_226_7 : xsite 226 7 = some (4, 12, 1, 0) := by decide +kernel
theorem st_227_118 : xsite 227 118 = some (4, 12, 0, 0) := by decide +kernel
theorem st_227_13 : xsite 227 13 = some (4, 12, 2, 0) := by decide +kernel
theorem st_227_145 : xsite 227 145 = some (0, 198, 0, 0) := by decide +kernel
theorem st_227_185 : xsite 227 185 = some (0, 228, 0, 0) := by decide +kernel
theorem st_227_188 : xsite 227 188 = some (0, 214, 0, 0) := by decide +kernel
theorem st_227_192 : xsite 227 192 = some (0, 229, 0, 0) := by decide +kernel
theorem st_227_20 : xsite 227 20 = some (4, 12, 4, 0) := by decide +kernel
theorem st_228_27 : xsite 228 27 = some (4, 12, 6, 0) := by decide +kernel
theorem st_228_96 : xsite 228 96 = some (4, 12, 7, 0) := by decide +kernel
theorem st_229_178 : xsite 229 178 = some (4, 12, 13, 0) := by decide +kernel
theorem st_229_181 : xsite 229 181 = some (0, 230, 0, 0) := by decide +kernel
theorem st_229_36 : xsite 229 36 = some (4, 12, 12, 0) := by decide +kernel
theorem st_22_15 : xsite 22 15 = some (4, 3, 1, 0) := by decide +kernel
theorem st_22_24 : xsite 22 24 = some (4, 3, 2, 0) := by decide +kernel
theorem st_22_28 : xsite 22 28 = some (10, 0, 0, 5342931457063200) := by decide +kernel
theorem st_22_30 : xsite 22 30 = some (0, 19, 1, 0) := by decide +kernel
theorem st_22_34 : xsite 22 34 = some (0, 17, 1, 0) := by decide +kernel
theorem st_22_9 : xsite 22 9 = some (4, 3, 0, 0) := by decide +kernel
theorem st_230_178 : xsite 230 178 = some (4, 12, 13, 0) := by decide +kernel
theorem st_230_36 : xsite 230 36 = some (4, 12, 12, 0) := by decide +kernel
theorem st_231_118 : xsite 231 118 = some (4, 12, 0, 0) := by decide +kernel
theorem st_231_145 : xsite 231 145 = some (0, 198, 0, 0) := by decide +kernel
theorem st_231_174 : xsite 231 174 = some (0, 216, 1, 0) := by decide +kernel
theorem st_231_185 : xsite 231 185 = some (0, 228, 0, 0) := by decide +kernel
theorem st_232_118 : xsite 232 118 = some (4, 12, 0, 0) := by decide +kernel
theorem st_232_137 : xsite 232 137 = some (0, 199, 1, 0) := by decide +kernel
theorem st_232_178 : xsite 232 178 = some (4, 12, 13, 0) := by decide +kernel
theorem st_232_196 : xsite 232 196 = some (0, 233, 0, 0) := by decide +kernel
theorem st_232_36 : xsite 232 36 = some (4, 12, 12, 0) := by decide +kernel
theorem st_233_13 : xsite 233 13 = some (4, 12, 2, 0) := by decide +kernel
theorem st_233_188 : xsite 233 188 = some (0, 214, 0, 0) := by decide +kernel
theorem st_233_36 : xsite 233 36 = some (4, 12, 12, 0) := by decide +kernel
theorem st_234_118 : xsite 234 118 = some (4, 12, 0, 0) := by decide +kernel
theorem st_234_13 : xsite 234 13 = some (4, 12, 2, 0) := by decide +kernel
theorem st_234_145 : xsite 234 145 = some (0, 198, 0, 0) := by decide +kernel
theorem st_234_185 : xsite 234 185 = some (0, 228, 0, 0) := by decide +kernel
theorem st_234_199 : xsite 234 199 = some (0, 235, 1, 0) := by decide +kernel
theorem st_234_20 : xsite 234 20 = some (4, 12, 4, 0) := by decide +kernel
theorem st_234_202 : xsite 234 202 = some (0, 236, 0, 0) := by decide +kernel
theorem st_236_13 : xsite 236 13 = some (4, 12, 2, 0) := by decide +kernel
theorem st_237_118 : xsite 237 118 = some (4, 12, 0, 0) := by decide +kernel
theorem st_237_145 : xsite 237 145 = some (0, 198, 0, 0) := by decide +kernel
theorem st_237_185 : xsite 237 185 = some (0, 228, 0, 0) := by decide +kernel
theorem st_237_20 : xsite 237 20 = some (4, 12, 4, 0) := by decide +kernel
theorem st_237_205 : xsite 237 205 = some (0, 213, 0, 0) := by decide +kernel
theorem st_238_118 : xsite 238 118 = some (4, 12, 0, 0) := by decide +kernel
theorem st_238_13 : xsite 238 13 = some (4, 12, 2, 0) := by decide +kernel
theorem st_238_145 : xsite 238 145 = some (0, 198, 0, 0) := by decide +kernel
theorem st_238_185 : xsite 238 185 = some (0, 228, 0, 0) := by decide +kernel
theorem st_238_20 : xsite 238 20 = some (4, 12, 4, 0) := by decide +kernel
theorem st_238_205 : xsite 238 205 = some (0, 213, 0, 0) := by decide +kernel
theorem st_238_212 : xsite 238 212 = some (0, 239, 1, 0) := by decide +kernel
theorem st_239_208 : xsite 239 208 = some (0, 240, 1, 0) := by decide +kernel
theorem st_23_120 : xsite 23 120 = some (0, 24, 1, 0) := by decide +kernel
theorem st_23_124 : xsite 23 124 = some (0, 25, 1, 0) := by decide +kernel
theorem st_23_127 : xsite 23 127 = some (0, 26, 0, 0) := by decide +kernel
theorem st_23_130 : xsite 23 130 = some (0, 32, 0, 0) := by decide +kernel
theorem st_23_49 : xsite 23 49 = some (4, 0, 7, 0) := by decide +kernel
theorem st_241_118 : xsite 241 118 = some (4, 12, 0, 0) := by decide +kernel
theorem st_241_145 : xsite 241 145 = some (0, 198, 0, 0) := by decide +kernel
theorem st_241_158 : xsite 241 158 = some (0, 206, 0, 0) := by decide +kernel
theorem st_241_20 : xsite 241 20 = some (4, 12, 4, 0) := by decide +kernel
theorem st_242_118 : xsite 242 118 = some (4, 12, 0, 0) := by decide +kernel
theorem st_242_137 : xsite 242 137 = some (0, 199, 1, 0) := by decide +kernel
theorem st_242_158 : xsite 242 158 = some (0, 206, 0, 0) := by decide +kernel
theorem st_242_166 : xsite 242 166 = some (10, 0, 0, -9223372036854775808) := by decide +kernel
theorem st_242_20 : xsite 242 20 = some (4, 12, 4, 0) := by decide +kernel
theorem st_243_118 : xsite 243 118 = some (4, 12, 0, 0) := by decide +kernel
theorem st_243_137 : xsite 243 137 = some (0, 199, 1, 0) := by decide +kernel
theorem st_243_141 : xsite 243 141 = some (0, 201, 0, 0) := by decide +kernel
theorem st_243_151 : xsite 243 151 = some (0, 202, 0, 0) := by decide +kernel
theorem st_243_158 : xsite 243 158 = some (0, 206, 0, 0) := by decide +kernel
theorem st_243_20 : xsite 243 20 = some (4, 12, 4, 0) := by decide +kernel
theorem st_244_118 : xsite 244 118 = some (4, 12, 0, 0) := by decide +kernel
theorem st_244_13 : xsite 244 13 = some (4, 12, 2, 0) := by decide +kernel
theorem st_244_137 : xsite 244 137 = some (0, 199, 1, 0) := by decide +kernel
theorem st_244_20 : xsite 244 20 = some (4, 12, 4, 0) := by decide +kernel
theorem st_244_240 : xsite 244 240 = some (0, 245, 0, 0) := by decide +kernel
theorem st_244_7 : xsite 244 7 = some (4, 12, 1, 0) := by decide +kernel
theorem st_244_99 : xsite 244 99 = some (0, 189, 1, 0) := by decide +kernel
theorem st_245_158 : xsite 245 158 = some (0, 206, 0, 0) := by decide +kernel
theorem st_245_20 : xsite 245 20 = some (4, 12, 4, 0) := by decide +kernel
theorem st_246_118 : xsite 246 118 = some (4, 12, 0, 0) := by decide +kernel
theorem st_246_13 : xsite 246 13 = some (4, 12, 2, 0) := by decide +kernel
theorem st_246_137 : xsite 246 137 = some (0, 199, 1, 0) := by decide +kernel
theorem st_246_141 : xsite 246 141 = some (0, 201, 0, 0) := by decide +kernel
theorem st_246_155 : xsite 246 155 = some (0, 205, 0, 0) := by decide +kernel
theorem st_246_158 : xsite 246 158 = some (0, 206, 0, 0) := by decide +kernel
theorem st_246_20 : xsite 246 20 = some (4, 12, 4, 0) := by decide +kernel
theorem st_246_243 : xsite 246 243 = some (4, 12, 14, 0) := by decide +kernel
theorem st_246_254 : xsite 246 254 = some (0, 247, 0, 0) := by decide +kernel
theorem st_246_39 : xsite 246 39 = some (4, 12, 15, 0) := by decide +kernel
theorem st_247_243 : xsite 247 243 = some (4, 12, 14, 0) := by decide +kernel
theorem st_247_246 : xsite 247 246 = some (10, 0, 0, 1103515245) := by decide +kernel
theorem st_247_248 : xsite 247 248 = some (10, 0, 0, 12345) := by decide +kernel
theorem st_247_250 : xsite 247 250 = some (10, 0, 0, 2147483647) := by decide +kernel
theorem st_247_252 : xsite 247 252 = some (10, 0, 0, 65536) := by decide +kernel
theorem st_248_103 : xsite 248 103 = some (0, 190, 0, 0) := by decide +kernel
theorem st_248_107 : xsite 248 107 = some (4, 12, 8, 0) := by decide +kernel
theorem st_248_111 : xsite 248 111 = some (4, 12, 9, 0) := by decide +kernel
theorem st_248_118 : xsite 248 118 = some (4, 12, 0, 0) := by decide +kernel
theorem st_248_125 : xsite 248 125 = some (10, 0, 0, 7420738134810) := by decide +kernel
theorem st_248_13 : xsite 248 13 = some (4, 12, 2, 0) := by decide +kernel
theorem st_248_134 : xsite 248 134 = some (0, 194, 0, 0) := by decide +kernel
theorem st_248_137 : xsite 248 137 = some (0, 199, 1, 0) := by decide +kernel
theorem st_248_166 : xsite 248 166 = some (10, 0, 0, -9223372036854775808) := by decide +kernel
theorem st_248_20 : xsite 248 20 = some (4, 12, 4, 0) := by decide +kernel
theorem st_248_81 : xsite 248 81 = some (4, 12, 29, 0) := by decide +kernel
theorem st_249_118 : xsite 249 118 = some (4, 12, 0, 0) := by decide +kernel
theorem st_249_137 : xsite 249 137 = some (0, 199, 1, 0) := by decide +kernel
theorem st_249_20 : xsite 249 20 = some (4, 12, 4, 0) := by decide +kernel
theorem st_249_231 : xsite 249 231 = some (0, 211, 0, 0) := by decide +kernel
theorem st_250_118 : xsite 250 118 = some (4, 12, 0, 0) := by decide +kernel
theorem st_250_137 : xsite 250 137 = some (0, 199, 1, 0) := by decide +kernel
theorem st_250_185 : xsite 250 185 = some (0, 228, 0, 0) := by decide +kernel
theorem st_250_271 : xsite 250 271 = some (0, 251, 0, 0) := by decide +kernel
theorem st_250_48 : xsite 250 48 = some (4, 12, 18, 0) := by decide +kernel
theorem st_251_257 : xsite 251 257 = some (0, 252, 0, 0) := by decide +kernel
theorem st_251_261 : xsite 251 261 = some (0, 254, 0, 0) := by decide +kernel
theorem st_251_264 : xsite 251 264 = some (0, 255, 1, 0) := by decide +kernel
theorem st_251_48 : xsite 251 48 = some (4, 12, 18, 0) := by decide +kernel
theorem st_252_268 : xsite 252 268 = some (0, 253, 0, 0) := by decide +kernel
theorem st_252_42 : xsite 252 42 = some (4, 12, 16, 0) := by decide +kernel
theorem st_252_48 : xsite 252 48 = some (4, 12, 18, 0) := by decide +kernel
theorem st_253_170 : xsite 253 170 = some (0, 215, 1, 0) := by decide +kernel
theorem st_253_174 : xsite 253 174 = some (0, 216, 1, 0) := by decide +kernel
theorem st_253_42 : xsite 253 42 = some (4, 12, 16, 0) := by decide +kernel
theorem st_253_45 : xsite 253 45 = some (4, 12, 17, 0) := by decide +kernel
theorem st_254_170 : xsite 254 170 = some (0, 215, 1, 0) := by decide +kernel
theorem st_254_174 : xsite 254 174 = some (0, 216, 1, 0) := by decide +kernel
theorem st_254_48 : xsite 254 48 = some (4, 12, 18, 0) := by decide +kernel
theorem st_254_51 : xsite 254 51 = some (4, 12, 19, 0) := by decide +kernel
theorem st_255_208 : xsite 255 208 = some (0, 240, 1, 0) := by decide +kernel
theorem st_256_118 : xsite 256 118 = some (4, 12, 0, 0) := by decide +kernel
theorem st_256_137 : xsite 256 137 = some (0, 199, 1, 0) := by decide +kernel
theorem st_256_185 : xsite 256 185 = some (0, 228, 0, 0) := by decide +kernel
theorem st_256_271 : xsite 256 271 = some (0, 251, 0, 0) := by decide +kernel
theorem st_256_48 : xsite 256 48 = some (4, 12, 18, 0) := by decide +kernel
theorem st_257_118 : xsite 257 118 = some (4, 12, 0, 0) := by decide +kernel
theorem st_257_185 : xsite 257 185 = some (0, 228, 0, 0) := by decide +kernel
theorem st_257_274 : xsite 257 274 = some (0, 258, 0, 0) := by decide +kernel
theorem st_258_268 : xsite 258 268 = some (0, 253, 0, 0) := by decide +kernel
theorem st_258_42 : xsite 258 42 = some (4, 12, 16, 0) := by decide +kernel
theorem st_259_118 : xsite 259 118 = some (4, 12, 0, 0) := by decide +kernel
theorem st_259_137 : xsite 259 137 = some (0, 199, 1, 0) := by decide +kernel
theorem st_259_268 : xsite 259 268 = some (0, 253, 0, 0) := by decide +kernel
theorem st_259_27 : xsite 259 27 = some (4, 12, 6, 0) := by decide +kernel
theorem st_259_42 : xsite 259 42 = some (4, 12, 16, 0) := by decide +kernel
theorem st_259_96 : xsite 259 96 = some (4, 12, 7, 0) := by decide +kernel
theorem st_260_118 : xsite 260 118 = some (4, 12, 0, 0) := by decide +kernel
theorem st_260_277 : xsite 260 277 = some (0, 259, 0, 0) := by decide +kernel
theorem st_260_280 : xsite 260 280 = some (0, 261, 1, 0) := by decide +kernel
theorem st_261_264 : xsite 261 264 = some (0, 255, 1, 0) := by decide +kernel
theorem st_262_118 : xsite 262 118 = some (4, 12, 0, 0) := by decide +kernel
theorem st_262_137 : xsite 262 137 = some (0, 199, 1, 0) := by decide +kernel
theorem st_262_185 : xsite 262 185 = some (0, 228, 0, 0) := by decide +kernel
theorem st_262_264 : xsite 262 264 = some (0, 255, 1, 0) := by decide +kernel
theorem st_262_284 : xsite 262 284 = some (9, 0, 0, 1000000) := by decide +kernel
theorem st_263_118 : xsite 263 118 = some (4, 12, 0, 0) := by decide +kernel
theorem st_263_185 : xsite 263 185 = some (0, 228, 0, 0) := by decide +kernel
theorem st_263_208 : xsite 263 208 = some (0, 240, 1, 0) := by decide +kernel
theorem st_264_118 : xsite 264 118 = some (4, 12, 0, 0) := by decide +kernel
theorem st_264_185 : xsite 264 185 = some (0, 228, 0, 0) := by decide +kernel
theorem st_265_118 : xsite 265 118 = some (4, 12, 0, 0) := by decide +kernel
theorem st_265_185 : xsite 265 185 = some (0, 228, 0, 0) := by decide +kernel
theorem st_265_285 : xsite 265 285 = some (0, 266, 1, 0) := by decide +kernel
theorem st_266_174 : xsite 266 174 = some (0, 216, 1, 0) := by decide +kernel
theorem st_267_118 : xsite 267 118 = some (4, 12, 0, 0) := by decide +kernel
theorem st_267_131 : xsite 267 131 = some (0, 193, 1, 0) := by decide +kernel
theorem st_267_134 : xsite 267 134 = some (0, 194, 0, 0) := by decide +kernel
theorem st_267_137 : xsite 267 137 = some (0, 199, 1, 0) := by decide +kernel
theorem st_267_166 : xsite 267 166 = some (10, 0, 0, -9223372036854775808) := by decide +kernel
theorem st_267_185 : xsite 267 185 = some (0, 228, 0, 0) := by decide +kernel
theorem st_267_24 : xsite 267 24 = some (4, 12, 5, 0) := by decide +kernel
theorem st_267_285 : xsite 267 285 = some (0, 266, 1, 0) := by decide +kernel
theorem st_267_287 : xsite 267 287 = some (0, 268, 1, 0) := by decide +kernel
theorem st_267_291 : xsite 267 291 = some (10, 0, 0, 30) := by decide +kernel
theorem st_267_54 : xsite 267 54 = some (4, 12, 20, 0) := by decide +kernel
theorem st_267_81 : xsite 267 81 = some (4, 12, 29, 0) := by decide +kernel
theorem st_269_118 : xsite 269 118 = some (4, 12, 0, 0) := by decide +kernel
theorem st_269_137 : xsite 269 137 = some (0, 199, 1, 0) := by decide +kernel
theorem st_269_170 : xsite 269 170 = some (0, 215, 1, 0) := by decide +kernel
theorem st_269_174 : xsite 269 174 = some (0, 216, 1, 0) := by decide +kernel
theorem st_269_185 : xsite 269 185 = some (0, 228, 0, 0) := by decide +kernel
theorem st_26_174 : xsite 26 174 = some (0, 27, 0, 0) := by decide +kernel
theorem st_270_118 : xsite 270 118 = some (4, 12, 0, 0) := by decide +kernel
theorem st_270_137 : xsite 270 137 = some (0, 199, 1, 0) := by decide +kernel
theorem st_270_27 : xsite 270 27 = some (4, 12, 6, 0) := by decide +kernel
theorem st_270_274 : xsite 270 274 = some (0, 258, 0, 0) := by decide +kernel
theorem st_270_96 : xsite 270 96 = some (4, 12, 7, 0) := by decide +kernel
theorem st_271_118 : xsite 271 118 = some (4, 12, 0, 0) := by decide +kernel
theorem st_271_137 : xsite 271 137 = some (0, 199, 1, 0) := by decide +kernel
theorem st_271_166 : xsite 271 166 = some (10, 0, 0, -9223372036854775808) := by decide +kernel
theorem st_271_20 : xsite 271 20 = some (4, 12, 4, 0) := by decide +kernel
theorem st_271_297 : xsite 271 297 = some (10, 0, 0, -2) := by decide +kernel
theorem st_271_299 : xsite 271 299 = some (0, 272, 0, 0) := by decide +kernel
theorem st_271_57 : xsite 271 57 = some (4, 12, 21, 0) := by decide +kernel
theorem st_271_60 : xsite 271 60 = some (4, 12, 22, 0) := by decide +kernel
theorem st_272_121 : xsite 272 121 = some (0, 195, 1, 0) := by decide +kernel
theorem st_272_13 : xsite 272 13 = some (4, 12, 2, 0) := by decide +kernel
theorem st_272_24 : xsite 272 24 = some (4, 12, 5, 0) := by decide +kernel
theorem st_272_293 : xsite 272 293 = some (0, 273, 0, 0) := by decide +kernel
theorem st_273_121 : xsite 273 121 = some (0, 195, 1, 0) := by decide +kernel
theorem st_273_57 : xsite 273 57 = some (4, 12, 21, 0) := by decide +kernel
theorem st_273_60 : xsite 273 60 = some (4, 12, 22, 0) := by decide +kernel
theorem st_274_118 : xsite 274 118 = some (4, 12, 0, 0) := by decide +kernel
theorem st_274_137 : xsite 274 137 = some (0, 199, 1, 0) := by decide +kernel
theorem st_274_20 : xsite 274 20 = some (4, 12, 4, 0) := by decide +kernel
theorem st_274_310 : xsite 274 310 = some (9, 0, 0, 1000000000) := by decide +kernel
theorem st_274_311 : xsite 274 311 = some (0, 275, 0, 0) := by decide +kernel
theorem st_275_299 : xsite 275 299 = some (0, 272, 0, 0) := by decide +kernel
theorem st_275_302 : xsite 275 302 = some (10, 0, 0, 1000000007) := by decide +kernel
theorem st_275_304 : xsite 275 304 = some (0, 276, 1, 0) := by decide +kernel
theorem st_275_315 : xsite 275 315 = some (0, 277, 1, 0) := by decide +kernel
theorem st_275_57 : xsite 275 57 = some (4, 12, 21, 0) := by decide +kernel
theorem st_275_60 : xsite 275 60 = some (4, 12, 22, 0) := by decide +kernel
theorem st_276_302 : xsite 276 302 = some (10, 0, 0, 1000000007) := by decide +kernel
theorem st_277_216 : xsite 277 216 = some (10, 0, 0, 2) := by decide +kernel
theorem st_277_302 : xsite 277 302 = some (10, 0, 0, 1000000007) := by decide +kernel
theorem st_277_304 : xsite 277 304 = some (0, 276, 1, 0) := by decide +kernel
theorem st_277_308 : xsite 277 308 = some (10, 0, 0, 1000000005) := by decide +kernel
theorem st_278_118 : xsite 278 118 = some (4, 12, 0, 0) := by decide +kernel
theorem st_278_137 : xsite 278 137 = some (0, 199, 1, 0) := by decide +kernel
theorem st_278_20 : xsite 278 20 = some (4, 12, 4, 0) := by decide +kernel
theorem st_278_208 : xsite 278 208 = some (0, 240, 1, 0) := by decide +kernel
theorem st_278_24 : xsite 278 24 = some (4, 12, 5, 0) := by decide +kernel
theorem st_278_302 : xsite 278 302 = some (10, 0, 0, 1000000007) := by decide +kernel
theorem st_278_310 : xsite 278 310 = some (9, 0, 0, 1000000000) := by decide +kernel
theorem st_278_311 : xsite 278 311 = some (0, 275, 0, 0) := by decide +kernel
theorem st_279_118 : xsite 279 118 = some (4, 12, 0, 0) := by decide +kernel
theorem st_279_333 : xsite 279 333 = some (0, 280, 1, 0) := by decide +kernel
theorem st_279_336 : xsite 279 336 = some (0, 281, 0, 0) := by decide +kernel
theorem st_279_339 : xsite 279 339 = some (0, 285, 0, 0) := by decide +kernel
theorem st_27_35 : xsite 27 35 = some (4, 0, 3, 0) := by decide +kernel
theorem st_27_39 : xsite 27 39 = some (4, 0, 4, 0) := by decide +kernel
theorem st_27_418 : xsite 27 418 = some (0, 28, 0, 0) := by decide +kernel
theorem st_280_137 : xsite 280 137 = some (0, 199, 1, 0) := by decide +kernel
theorem st_280_310 : xsite 280 310 = some (9, 0, 0, 1000000000) := by decide +kernel
theorem st_281_318 : xsite 281 318 = some (10, 0, 0, 1000000000) := by decide +kernel
theorem st_281_320 : xsite 281 320 = some (0, 282, 0, 0) := by decide +kernel
theorem st_281_323 : xsite 281 323 = some (0, 283, 0, 0) := by decide +kernel
theorem st_281_327 : xsite 281 327 = some (0, 284, 0, 0) := by decide +kernel
theorem st_281_63 : xsite 281 63 = some (4, 12, 23, 0) := by decide +kernel
theorem st_281_66 : xsite 281 66 = some (4, 12, 24, 0) := by decide +kernel
theorem st_281_69 : xsite 281 69 = some (4, 12, 25, 0) := by decide +kernel
theorem st_282_69 : xsite 282 69 = some (4, 12, 25, 0) := by decide +kernel
theorem st_283_318 : xsite 283 318 = some (10, 0, 0, 1000000000) := by decide +kernel
theorem st_283_66 : xsite 283 66 = some (4, 12, 24, 0) := by decide +kernel
theorem st_284_318 : xsite 284 318 = some (10, 0, 0, 1000000000) := by decide +kernel
theorem st_284_63 : xsite 284 63 = some (4, 12, 23, 0) := by decide +kernel
theorem st_284_66 : xsite 284 66 = some (4, 12, 24, 0) := by decide +kernel
theorem st_284_72 : xsite 284 72 = some (4, 12, 26, 0) := by decide +kernel
theorem st_285_331 : xsite 285 331 = some (10, 0, 0, 10) := by decide +kernel
theorem st_285_63 : xsite 285 63 = some (4, 12, 23, 0) := by decide +kernel
theorem st_286_118 : xsite 286 118 = some (4, 12, 0, 0) := by decide +kernel
theorem st_286_331 : xsite 286 331 = some (10, 0, 0, 10) := by decide +kernel
theorem st_286_333 : xsite 286 333 = some (0, 280, 1, 0) := by decide +kernel
theorem st_286_336 : xsite 286 336 = some (0, 281, 0, 0) := by decide +kernel
theorem st_286_339 : xsite 286 339 = some (0, 285, 0, 0) := by decide +kernel
theorem st_286_63 : xsite 286 63 = some (4, 12, 23, 0) := by decide +kernel
theorem st_287_118 : xsite 287 118 = some (4, 12, 0, 0) := by decide +kernel
theorem st_287_137 : xsite 287 137 = some (0, 199, 1, 0) := by decide +kernel
theorem st_287_166 : xsite 287 166 = some (10, 0, 0, -9223372036854775808) := by decide +kernel
theorem st_287_20 : xsite 287 20 = some (4, 12, 4, 0) := by decide +kernel
theorem st_287_297 : xsite 287 297 = some (10, 0, 0, -2) := by decide +kernel
theorem st_287_346 : xsite 287 346 = some (0, 288, 0, 0) := by decide +kernel
theorem st_287_349 : xsite 287 349 = some (10, 0, 0, -3) := by decide +kernel
theorem st_287_75 : xsite 287 75 = some (4, 12, 27, 0) := by decide +kernel
theorem st_287_78 : xsite 287 78 = some (4, 12, 28, 0) := by decide +kernel
theorem st_288_121 : xsite 288 121 = some (0, 195, 1, 0) := by decide +kernel
theorem st_288_24 : xsite 288 24 = some (4, 12, 5, 0) := by decide +kernel
theorem st_288_299 : xsite 288 299 = some (0, 272, 0, 0) := by decide +kernel
theorem st_288_343 : xsite 288 343 = some (0, 289, 0, 0) := by decide +kernel
theorem st_288_57 : xsite 288 57 = some (4, 12, 21, 0) := by decide +kernel
theorem st_288_60 : xsite 288 60 = some (4, 12, 22, 0) := by decide +kernel
theorem st_288_75 : xsite 288 75 = some (4, 12, 27, 0) := by decide +kernel
theorem st_288_78 : xsite 288 78 = some (4, 12, 28, 0) := by decide +kernel
theorem st_289_121 : xsite 289 121 = some (0, 195, 1, 0) := by decide +kernel
theorem st_289_293 : xsite 289 293 = some (0, 273, 0, 0) := by decide +kernel
theorem st_289_57 : xsite 289 57 = some (4, 12, 21, 0) := by decide +kernel
theorem st_289_60 : xsite 289 60 = some (4, 12, 22, 0) := by decide +kernel
theorem st_28_38 : xsite 28 38 = some (0, 29, 0, 0) := by decide +kernel
theorem st_28_42 : xsite 28 42 = some (0, 30, 0, 0) := by decide +kernel
theorem st_28_55 : xsite 28 55 = some (0, 31, 0, 0) := by decide +kernel
theorem st_290_118 : xsite 290 118 = some (4, 12, 0, 0) := by decide +kernel
theorem st_290_13 : xsite 290 13 = some (4, 12, 2, 0) := by decide +kernel
theorem st_290_134 : xsite 290 134 = some (0, 194, 0, 0) := by decide +kernel
theorem st_290_137 : xsite 290 137 = some (0, 199, 1, 0) := by decide +kernel
theorem st_290_145 : xsite 290 145 = some (0, 198, 0, 0) := by decide +kernel
theorem st_290_166 : xsite 290 166 = some (10, 0, 0, -9223372036854775808) := by decide +kernel
theorem st_290_20 : xsite 290 20 = some (4, 12, 4, 0) := by decide +kernel
theorem st_290_24 : xsite 290 24 = some (4, 12, 5, 0) := by decide +kernel
theorem st_290_81 : xsite 290 81 = some (4, 12, 29, 0) := by decide +kernel
theorem st_291_118 : xsite 291 118 = some (4, 12, 0, 0) := by decide +kernel
theorem st_291_13 : xsite 291 13 = some (4, 12, 2, 0) := by decide +kernel
theorem st_291_131 : xsite 291 131 = some (0, 193, 1, 0) := by decide +kernel
theorem st_291_134 : xsite 291 134 = some (0, 194, 0, 0) := by decide +kernel
theorem st_291_137 : xsite 291 137 = some (0, 199, 1, 0) := by decide +kernel
theorem st_291_166 : xsite 291 166 = some (10, 0, 0, -9223372036854775808) := by decide +kernel
theorem st_291_20 : xsite 291 20 = some (4, 12, 4, 0) := by decide +kernel
theorem st_291_24 : xsite 291 24 = some (4, 12, 5, 0) := by decide +kernel
theorem st_291_287 : xsite 291 287 = some (0, 268, 1, 0) := by decide +kernel
theorem st_291_351 : xsite 291 351 = some (10, 0, 0, 2310) := by decide +kernel
theorem st_291_81 : xsite 291 81 = some (4, 12, 29, 0) := by decide +kernel
theorem st_292_118 : xsite 292 118 = some (4, 12, 0, 0) := by decide +kernel
theorem st_292_137 : xsite 292 137 = some (0, 199, 1, 0) := by decide +kernel
theorem st_292_145 : xsite 292 145 = some (0, 198, 0, 0) := by decide +kernel
theorem st_292_185 : xsite 292 185 = some (0, 228, 0, 0) := by decide +kernel
theorem st_292_353 : xsite 292 353 = some (0, 293, 0, 0) := by decide +kernel
theorem st_292_356 : xsite 292 356 = some (0, 294, 0, 0) := by decide +kernel
theorem st_293_13 : xsite 293 13 = some (4, 12, 2, 0) := by decide +kernel
theorem st_293_170 : xsite 293 170 = some (0, 215, 1, 0) := by decide +kernel
theorem st_293_188 : xsite 293 188 = some (0, 214, 0, 0) := by decide +kernel
theorem st_293_20 : xsite 293 20 = some (4, 12, 4, 0) := by decide +kernel
theorem st_293_24 : xsite 293 24 = some (4, 12, 5, 0) := by decide +kernel
theorem st_293_84 : xsite 293 84 = some (4, 12, 30, 0) := by decide +kernel
theorem st_294_84 : xsite 294 84 = some (4, 12, 30, 0) := by decide +kernel
theorem st_295_118 : xsite 295 118 = some (4, 12, 0, 0) := by decide +kernel
theorem st_295_145 : xsite 295 145 = some (0, 198, 0, 0) := by decide +kernel
theorem st_295_185 : xsite 295 185 = some (0, 228, 0, 0) := by decide +kernel
theorem st_295_353 : xsite 295 353 = some (0, 293, 0, 0) := by decide +kernel
theorem st_295_356 : xsite 295 356 = some (0, 294, 0, 0) := by decide +kernel
theorem st_296_118 : xsite 296 118 = some (4, 12, 0, 0) := by decide +kernel
theorem st_296_13 : xsite 296 13 = some (4, 12, 2, 0) := by decide +kernel
theorem st_296_131 : xsite 296 131 = some (0, 193, 1, 0) := by decide +kernel
theorem st_296_134 : xsite 296 134 = some (0, 194, 0, 0) := by decide +kernel
theorem st_296_137 : xsite 296 137 = some (0, 199, 1, 0) := by decide +kernel
theorem st_296_166 : xsite 296 166 = some (10, 0, 0, -9223372036854775808) := by decide +kernel
theorem st_296_20 : xsite 296 20 = some (4, 12, 4, 0) := by decide +kernel
theorem st_296_81 : xsite 296 81 = some (4, 12, 29, 0) := by decide +kernel
theorem st_297_118 : xsite 297 118 = some (4, 12, 0, 0) := by decide +kernel
theorem st_297_13 : xsite 297 13 = some (4, 12, 2, 0) := by decide +kernel
theorem st_297_137 : xsite 297 137 = some (0, 199, 1, 0) := by decide +kernel
theorem st_297_166 : xsite 297 166 = some (10, 0, 0, -9223372036854775808) := by decide +kernel
theorem st_297_20 : xsite 297 20 = some (4, 12, 4, 0) := by decide +kernel
theorem st_297_216 : xsite 297 216 = some (10, 0, 0, 2) := by decide +kernel
theorem st_298_118 : xsite 298 118 = some (4, 12, 0, 0) := by decide +kernel
theorem st_298_137 : xsite 298 137 = some (0, 199, 1, 0) := by decide +kernel
theorem st_298_166 : xsite 298 166 = some (10, 0, 0, -9223372036854775808) := by decide +kernel
theorem st_298_365 : xsite 298 365 = some (0, 299, 0, 0) := by decide +kernel
theorem st_298_87 : xsite 298 87 = some (4, 12, 31, 0) := by decide +kernel
theorem st_299_361 : xsite 299 361 = some (0, 300, 1, 0) := by decide +kernel
theorem st_299_87 : xsite 299 87 = some (4, 12, 31, 0) := by decide +kernel
theorem st_29_34 : xsite 29 34 = some (0, 21, 1, 0) := by decide +kernel
theorem st_29_9 : xsite 29 9 = some (4, 4, 0, 0) := by decide +kernel
theorem st_2_1 : xsite 2 1 = some (2, 0, 0, 0) := by decide +kernel
theorem st_2_7 : xsite 2 7 = some (4, 2, 0, 0) := by decide +kernel
theorem st_300_166 : xsite 300 166 = some (10, 0, 0, -9223372036854775808) := by decide +kernel
theorem st_300_359 : xsite 300 359 = some (10, 0, 0, 9223372036854775807) := by decide +kernel
theorem st_301_118 : xsite 301 118 = some (4, 12, 0, 0) := by decide +kernel
theorem st_301_131 : xsite 301 131 = some (0, 193, 1, 0) := by decide +kernel
theorem st_301_134 : xsite 301 134 = some (0, 194, 0, 0) := by decide +kernel
theorem st_301_137 : xsite 301 137 = some (0, 199, 1, 0) := by decide +kernel
theorem st_301_166 : xsite 301 166 = some (10, 0, 0, -9223372036854775808) := by decide +kernel
theorem st_301_365 : xsite 301 365 = some (0, 299, 0, 0) := by decide +kernel
theorem st_301_368 : xsite 301 368 = some (10, 0, 0, 232792560) := by decide +kernel
theorem st_301_81 : xsite 301 81 = some (4, 12, 29, 0) := by decide +kernel
theorem st_301_87 : xsite 301 87 = some (4, 12, 31, 0) := by decide +kernel
theorem st_302_118 : xsite 302 118 = some (4, 12, 0, 0) := by decide +kernel
theorem st_302_137 : xsite 302 137 = some (0, 199, 1, 0) := by decide +kernel
theorem st_302_166 : xsite 302 166 = some (10, 0, 0, -9223372036854775808) := by decide +kernel
theorem st_302_90 : xsite 302 90 = some (4, 12, 32, 0) := by decide +kernel
theorem st_302_93 : xsite 302 93 = some (4, 12, 33, 0) := by decide +kernel
theorem st_303_118 : xsite 303 118 = some (4, 12, 0, 0) := by decide +kernel
theorem st_303_121 : xsite 303 121 = some (0, 195, 1, 0) := by decide +kernel
theorem st_303_13 : xsite 303 13 = some (4, 12, 2, 0) := by decide +kernel
theorem st_303_137 : xsite 303 137 = some (0, 199, 1, 0) := by decide +kernel
theorem st_303_166 : xsite 303 166 = some (10, 0, 0, -9223372036854775808) := by decide +kernel
theorem st_303_20 : xsite 303 20 = some (4, 12, 4, 0) := by decide +kernel
theorem st_303_370 : xsite 303 370 = some (0, 304, 1, 0) := by decide +kernel
theorem st_305_118 : xsite 305 118 = some (4, 12, 0, 0) := by decide +kernel
theorem st_305_13 : xsite 305 13 = some (4, 12, 2, 0) := by decide +kernel
theorem st_305_137 : xsite 305 137 = some (0, 199, 1, 0) := by decide +kernel
theorem st_305_20 : xsite 305 20 = some (4, 12, 4, 0) := by decide +kernel
theorem st_305_370 : xsite 305 370 = some (0, 304, 1, 0) := by decide +kernel
theorem st_306_118 : xsite 306 118 = some (4, 12, 0, 0) := by decide +kernel
theorem st_306_141 : xsite 306 141 = some (0, 201, 0, 0) := by decide +kernel
theorem st_306_178 : xsite 306 178 = some (4, 12, 13, 0) := by decide +kernel
theorem st_306_196 : xsite 306 196 = some (0, 233, 0, 0) := by decide +kernel
theorem st_306_20 : xsite 306 20 = some (4, 12, 4, 0) := by decide +kernel
theorem st_30_15 : xsite 30 15 = some (4, 4, 1, 0) := by decide +kernel
theorem st_30_34 : xsite 30 34 = some (0, 21, 1, 0) := by decide +kernel
theorem st_31_18 : xsite 31 18 = some (4, 4, 2, 0) := by decide +kernel
theorem st_31_34 : xsite 31 34 = some (0, 21, 1, 0) := by decide +kernel
theorem st_32_114 : xsite 32 114 = some (0, 20, 0, 0) := by decide +kernel
theorem st_32_138 : xsite 32 138 = some (0, 57, 0, 0) := by decide +kernel
theorem st_32_177 : xsite 32 177 = some (0, 33, 0, 0) := by decide +kernel
theorem st_32_180 : xsite 32 180 = some (0, 56, 0, 0) := by decide +kernel
theorem st_32_39 : xsite 32 39 = some (4, 0, 4, 0) := by decide +kernel
theorem st_32_95 : xsite 32 95 = some (4, 0, 13, 0) := by decide +kernel
theorem st_33_422 : xsite 33 422 = some (0, 34, 0, 0) := by decide +kernel
theorem st_33_425 : xsite 33 425 = some (0, 45, 0, 0) := by decide +kernel
theorem st_33_428 : xsite 33 428 = some (0, 46, 0, 0) := by decide +kernel
theorem st_34_21 : xsite 34 21 = some (4, 0, 1, 0) := by decide +kernel
theorem st_34_214 : xsite 34 214 = some (0, 42, 0, 0) := by decide +kernel
theorem st_34_281 : xsite 34 281 = some (0, 36, 0, 0) := by decide +kernel
theorem st_34_339 : xsite 34 339 = some (0, 43, 0, 0) := by decide +kernel
theorem st_34_342 : xsite 34 342 = some (0, 44, 0, 0) := by decide +kernel
theorem st_34_387 : xsite 34 387 = some (10, 0, 0, -1) := by decide +kernel
theorem st_34_431 : xsite 34 431 = some (0, 35, 0, 0) := by decide +kernel
theorem st_34_58 : xsite 34 58 = some (4, 0, 8, 0) := by decide +kernel
theorem st_34_95 : xsite 34 95 = some (4, 0, 13, 0) := by decide +kernel
theorem st_35_327 : xsite 35 327 = some (0, 16, 0, 0) := by decide +kernel
theorem st_35_387 : xsite 35 387 = some (10, 0, 0, -1) := by decide +kernel
theorem st_35_389 : xsite 35 389 = some (10, 0, 0, 2) := by decide +kernel
theorem st_35_95 : xsite 35 95 = some (4, 0, 13, 0) := by decide +kernel
theorem st_36_15 : xsite 36 15 = some (4, 6, 1, 0) := by decide +kernel
theorem st_36_19 : xsite 36 19 = some (4, 6, 2, 0) := by decide +kernel
theorem st_36_48 : xsite 36 48 = some (10, 0, 0, 7420738134810) := by decide +kernel
theorem st_36_50 : xsite 36 50 = some (0, 37, 0, 0) := by decide +kernel
theorem st_36_56 : xsite 36 56 = some (0, 39, 0, 0) := by decide +kernel
theorem st_36_62 : xsite 36 62 = some (0, 40, 0, 0) := by decide +kernel
theorem st_37_13 : xsite 37 13 = some (0, 38, 1, 0) := by decide +kernel
theorem st_37_19 : xsite 37 19 = some (4, 2, 1, 0) := by decide +kernel
theorem st_37_22 : xsite 37 22 = some (4, 2, 2, 0) := by decide +kernel
theorem st_37_7 : xsite 37 7 = some (4, 2, 0, 0) := by decide +kernel
theorem st_39_11 : xsite 39 11 = some (4, 1, 0, 0) := by decide +kernel
theorem st_3_15 : xsite 3 15 = some (4, 3, 1, 0) := by decide +kernel
theorem st_3_3 : xsite 3 3 = some (2, 0, 0, 0) := by decide +kernel
theorem st_3_9 : xsite 3 9 = some (4, 3, 0, 0) := by decide +kernel
theorem st_40_100 : xsite 40 100 = some (0, 41, 0, 0) := by decide +kernel
theorem st_40_19 : xsite 40 19 = some (4, 6, 2, 0) := by decide +kernel
theorem st_40_87 : xsite 40 87 = some (0, 31, 0, 0) := by decide +kernel
theorem st_40_9 : xsite 40 9 = some (4, 6, 0, 0) := by decide +kernel
theorem st_40_91 : xsite 40 91 = some (0, 29, 0, 0) := by decide +kernel
theorem st_40_94 : xsite 40 94 = some (0, 30, 0, 0) := by decide +kernel
theorem st_41_19 : xsite 41 19 = some (4, 2, 1, 0) := by decide +kernel
theorem st_41_22 : xsite 41 22 = some (4, 2, 2, 0) := by decide +kernel
theorem st_41_25 : xsite 41 25 = some (0, 19, 1, 0) := by decide +kernel
theorem st_41_28 : xsite 41 28 = some (0, 17, 1, 0) := by decide +kernel
theorem st_41_7 : xsite 41 7 = some (4, 2, 0, 0) := by decide +kernel
theorem st_42_19 : xsite 42 19 = some (4, 2, 1, 0) := by decide +kernel
theorem st_42_22 : xsite 42 22 = some (4, 2, 2, 0) := by decide +kernel
theorem st_42_31 : xsite 42 31 = some (0, 16, 0, 0) := by decide +kernel
theorem st_42_7 : xsite 42 7 = some (4, 2, 0, 0) := by decide +kernel
theorem st_43_25 : xsite 43 25 = some (4, 5, 0, 0) := by decide +kernel
theorem st_43_28 : xsite 43 28 = some (4, 5, 1, 0) := by decide +kernel
theorem st_43_31 : xsite 43 31 = some (0, 16, 0, 0) := by decide +kernel
theorem st_43_7 : xsite 43 7 = some (4, 5, 2, 0) := by decide +kernel
theorem st_44_13 : xsite 44 13 = some (0, 17, 1, 0) := by decide +kernel
theorem st_44_22 : xsite 44 22 = some (0, 19, 1, 0) := by decide +kernel
theorem st_44_25 : xsite 44 25 = some (4, 5, 0, 0) := by decide +kernel
theorem st_44_28 : xsite 44 28 = some (4, 5, 1, 0) := by decide +kernel
theorem st_44_31 : xsite 44 31 = some (0, 16, 0, 0) := by decide +kernel
theorem st_44_7 : xsite 44 7 = some (4, 5, 2, 0) := by decide +kernel
theorem st_45_106 : xsite 45 106 = some (0, 12, 0, 0) := by decide +kernel
theorem st_45_110 : xsite 45 110 = some (0, 14, 0, 0) := by decide +kernel
theorem st_45_117 : xsite 45 117 = some (0, 22, 0, 0) := by decide +kernel
theorem st_45_28 : xsite 45 28 = some (4, 0, 2, 0) := by decide +kernel
theorem st_45_95 : xsite 45 95 = some (4, 0, 13, 0) := by decide +kernel
theorem st_46_190 : xsite 46 190 = some (0, 47, 1, 0) := by decide +kernel
theorem st_46_193 : xsite 46 193 = some (10, 0, 0, 7420738134810) := by decide +kernel
theorem st_46_195 : xsite 46 195 = some (0, 37, 0, 0) := by decide +kernel
theorem st_46_207 : xsite 46 207 = some (0, 41, 0, 0) := by decide +kernel
theorem st_46_21 : xsite 46 21 = some (4, 0, 1, 0) := by decide +kernel
theorem st_46_211 : xsite 46 211 = some (0, 55, 0, 0) := by decide +kernel
theorem st_46_214 : xsite 46 214 = some (0, 42, 0, 0) := by decide +kernel
theorem st_46_431 : xsite 46 431 = some (0, 35, 0, 0) := by decide +kernel
theorem st_46_434 : xsite 46 434 = some (0, 48, 0, 0) := by decide +kernel
theorem st_46_95 : xsite 46 95 = some (4, 0, 13, 0) := by decide +kernel
theorem st_48_184 : xsite 48 184 = some (6, 0, 0, 0) := by decide +kernel
theorem st_48_306 : xsite 48 306 = some (0, 54, 1, 0) := by decide +kernel
theorem st_48_316 : xsite 48 316 = some (0, 53, 1, 0) := by decide +kernel
theorem st_48_389 : xsite 48 389 = some (10, 0, 0, 2) := by decide +kernel
theorem st_48_437 : xsite 48 437 = some (0, 49, 1, 0) := by decide +kernel
theorem st_48_441 : xsite 48 441 = some (0, 51, 1, 0) := by decide +kernel
theorem st_49_13 : xsite 49 13 = some (0, 50, 1, 0) := by decide +kernel
theorem st_4_15 : xsite 4 15 = some (4, 4, 1, 0) := by decide +kernel
theorem st_4_18 : xsite 4 18 = some (4, 4, 2, 0) := by decide +kernel
theorem st_4_21 : xsite 4 21 = some (8, 5, 0, 0) := by decide +kernel
theorem st_4_23 : xsite 4 23 = some (1, 5, 2, 0) := by decide +kernel
theorem st_4_24 : xsite 4 24 = some (4, 4, 3, 0) := by decide +kernel
theorem st_4_28 : xsite 4 28 = some (0, 6, 1, 0) := by decide +kernel
theorem st_4_3 : xsite 4 3 = some (2, 0, 0, 0) := by decide +kernel
theorem st_4_9 : xsite 4 9 = some (4, 4, 0, 0) := by decide +kernel
theorem st_50_7 : xsite 50 7 = some (0, 17, 1, 0) := by decide +kernel
theorem st_51_184 : xsite 51 184 = some (6, 0, 0, 0) := by decide +kernel
theorem st_51_187 : xsite 51 187 = some (0, 52, 1, 0) := by decide +kernel
theorem st_51_316 : xsite 51 316 = some (0, 53, 1, 0) := by decide +kernel
theorem st_52_190 : xsite 52 190 = some (0, 47, 1, 0) := by decide +kernel
theorem st_53_7 : xsite 53 7 = some (0, 17, 1, 0) := by decide +kernel
theorem st_54_7 : xsite 54 7 = some (0, 17, 1, 0) := by decide +kernel
theorem st_55_184 : xsite 55 184 = some (6, 0, 0, 0) := by decide +kernel
theorem st_55_187 : xsite 55 187 = some (0, 52, 1, 0) := by decide +kernel
theorem st_55_207 : xsite 55 207 = some (0, 41, 0, 0) := by decide +kernel
theorem st_55_21 : xsite 55 21 = some (4, 0, 1, 0) := by decide +kernel
theorem st_56_38 : xsite 56 38 = some (0, 29, 0, 0) := by decide +kernel
theorem st_56_42 : xsite 56 42 = some (0, 30, 0, 0) := by decide +kernel
theorem st_56_45 : xsite 56 45 = some (4, 5, 0, 0) := by decide +kernel
theorem st_56_49 : xsite 56 49 = some (4, 5, 1, 0) := by decide +kernel
theorem st_56_52 : xsite 56 52 = some (4, 5, 2, 0) := by decide +kernel
theorem st_56_55 : xsite 56 55 = some (0, 31, 0, 0) := by decide +kernel
theorem st_57_45 : xsite 57 45 = some (4, 0, 6, 0) := by decide +kernel
theorem st_58_120 : xsite 58 120 = some (0, 24, 1, 0) := by decide +kernel
theorem st_58_124 : xsite 58 124 = some (0, 25, 1, 0) := by decide +kernel
theorem st_58_127 : xsite 58 127 = some (0, 26, 0, 0) := by decide +kernel
theorem st_58_130 : xsite 58 130 = some (0, 32, 0, 0) := by decide +kernel
theorem st_58_49 : xsite 58 49 = some (4, 0, 7, 0) := by decide +kernel
theorem st_59_120 : xsite 59 120 = some (0, 24, 1, 0) := by decide +kernel
theorem st_59_134 : xsite 59 134 = some (0, 60, 0, 0) := by decide +kernel
theorem st_59_138 : xsite 59 138 = some (0, 57, 0, 0) := by decide +kernel
theorem st_59_142 : xsite 59 142 = some (0, 61, 0, 0) := by decide +kernel
theorem st_59_39 : xsite 59 39 = some (4, 0, 4, 0) := by decide +kernel
theorem st_59_49 : xsite 59 49 = some (4, 0, 7, 0) := by decide +kernel
theorem st_59_58 : xsite 59 58 = some (4, 0, 8, 0) := by decide +kernel
theorem st_5_1 : xsite 5 1 = some (2, 0, 0, 0) := by decide +kernel
theorem st_5_7 : xsite 5 7 = some (4, 5, 2, 0) := by decide +kernel
theorem st_60_24 : xsite 60 24 = some (4, 4, 3, 0) := by decide +kernel
theorem st_60_38 : xsite 60 38 = some (0, 29, 0, 0) := by decide +kernel
theorem st_60_42 : xsite 60 42 = some (0, 30, 0, 0) := by decide +kernel
theorem st_60_55 : xsite 60 55 = some (0, 31, 0, 0) := by decide +kernel
theorem st_60_58 : xsite 60 58 = some (0, 16, 0, 0) := by decide +kernel
theorem st_60_68 : xsite 60 68 = some (0, 20, 0, 0) := by decide +kernel
theorem st_61_23 : xsite 61 23 = some (0, 62, 0, 0) := by decide +kernel
theorem st_61_27 : xsite 61 27 = some (0, 63, 0, 0) := by decide +kernel
theorem st_61_33 : xsite 61 33 = some (0, 64, 1, 0) := by decide +kernel
theorem st_61_36 : xsite 61 36 = some (0, 65, 0, 0) := by decide +kernel
theorem st_61_39 : xsite 61 39 = some (0, 67, 0, 0) := by decide +kernel
theorem st_61_42 : xsite 61 42 = some (0, 72, 0, 0) := by decide +kernel
theorem st_61_45 : xsite 61 45 = some (0, 74, 0, 0) := by decide +kernel
theorem st_61_9 : xsite 61 9 = some (4, 6, 0, 0) := by decide +kernel
theorem st_62_104 : xsite 62 104 = some (7, 0, 0, 0) := by decide +kernel
theorem st_62_108 : xsite 62 108 = some (1, 52, 1, 0) := by decide +kernel
theorem st_62_87 : xsite 62 87 = some (0, 31, 0, 0) := by decide +kernel
theorem st_62_9 : xsite 62 9 = some (4, 6, 0, 0) := by decide +kernel
theorem st_63_38 : xsite 63 38 = some (0, 29, 0, 0) := by decide +kernel
theorem st_63_42 : xsite 63 42 = some (0, 30, 0, 0) := by decide +kernel
theorem st_65_111 : xsite 65 111 = some (0, 36, 0, 0) := by decide +kernel
theorem st_65_115 : xsite 65 115 = some (0, 66, 0, 0) := by decide +kernel
theorem st_65_19 : xsite 65 19 = some (4, 6, 2, 0) := by decide +kernel
theorem st_66_19 : xsite 66 19 = some (4, 2, 1, 0) := by decide +kernel
theorem st_66_22 : xsite 66 22 = some (4, 2, 2, 0) := by decide +kernel
theorem st_67_104 : xsite 67 104 = some (7, 0, 0, 0) := by decide +kernel
theorem st_67_119 : xsite 67 119 = some (0, 68, 0, 0) := by decide +kernel
theorem st_67_123 : xsite 67 123 = some (0, 71, 1, 0) := by decide +kernel
theorem st_68_66 : xsite 68 66 = some (0, 69, 0, 0) := by decide +kernel
theorem st_68_70 : xsite 68 70 = some (0, 70, 0, 0) := by decide +kernel
theorem st_68_74 : xsite 68 74 = some (0, 54, 1, 0) := by decide +kernel
theorem st_69_84 : xsite 69 84 = some (1, 47, 1, 0) := by decide +kernel
theorem st_69_87 : xsite 69 87 = some (0, 31, 0, 0) := by decide +kernel
theorem st_69_9 : xsite 69 9 = some (4, 6, 0, 0) := by decide +kernel
theorem st_70_87 : xsite 70 87 = some (0, 31, 0, 0) := by decide +kernel
theorem st_70_9 : xsite 70 9 = some (4, 6, 0, 0) := by decide +kernel
theorem st_70_91 : xsite 70 91 = some (0, 29, 0, 0) := by decide +kernel
theorem st_70_94 : xsite 70 94 = some (0, 30, 0, 0) := by decide +kernel
theorem st_70_97 : xsite 70 97 = some (0, 53, 1, 0) := by decide +kernel
theorem st_72_104 : xsite 72 104 = some (7, 0, 0, 0) := by decide +kernel
theorem st_72_129 : xsite 72 129 = some (0, 73, 0, 0) := by decide +kernel
theorem st_72_84 : xsite 72 84 = some (1, 47, 1, 0) := by decide +kernel
theorem st_72_87 : xsite 72 87 = some (0, 31, 0, 0) := by decide +kernel
theorem st_72_9 : xsite 72 9 = some (4, 6, 0, 0) := by decide +kernel
theorem st_73_38 : xsite 73 38 = some (0, 29, 0, 0) := by decide +kernel
theorem st_73_42 : xsite 73 42 = some (0, 30, 0, 0) := by decide +kernel
theorem st_73_55 : xsite 73 55 = some (0, 31, 0, 0) := by decide +kernel
theorem st_73_72 : xsite 73 72 = some (0, 53, 1, 0) := by decide +kernel
theorem st_73_78 : xsite 73 78 = some (0, 54, 1, 0) := by decide +kernel
theorem st_74_100 : xsite 74 100 = some (0, 41, 0, 0) := by decide +kernel
theorem st_74_115 : xsite 74 115 = some (0, 66, 0, 0) := by decide +kernel
theorem st_74_132 : xsite 74 132 = some (10, 0, 0, 6) := by decide +kernel
theorem st_74_134 : xsite 74 134 = some (10, 0, 0, 3) := by decide +kernel
theorem st_74_15 : xsite 74 15 = some (4, 6, 1, 0) := by decide +kernel
theorem st_74_19 : xsite 74 19 = some (4, 6, 2, 0) := by decide +kernel
theorem st_74_48 : xsite 74 48 = some (10, 0, 0, 7420738134810) := by decide +kernel
theorem st_74_50 : xsite 74 50 = some (0, 37, 0, 0) := by decide +kernel
theorem st_74_56 : xsite 74 56 = some (0, 39, 0, 0) := by decide +kernel
theorem st_74_62 : xsite 74 62 = some (0, 40, 0, 0) := by decide +kernel
theorem st_75_130 : xsite 75 130 = some (0, 32, 0, 0) := by decide +kernel
theorem st_75_146 : xsite 75 146 = some (0, 76, 1, 0) := by decide +kernel
theorem st_75_149 : xsite 75 149 = some (0, 77, 0, 0) := by decide +kernel
theorem st_75_49 : xsite 75 49 = some (4, 0, 7, 0) := by decide +kernel
theorem st_77_142 : xsite 77 142 = some (0, 61, 0, 0) := by decide +kernel
theorem st_77_49 : xsite 77 49 = some (4, 0, 7, 0) := by decide +kernel
theorem st_77_58 : xsite 77 58 = some (4, 0, 8, 0) := by decide +kernel
theorem st_78_120 : xsite 78 120 = some (0, 24, 1, 0) := by decide +kernel
theorem st_78_45 : xsite 78 45 = some (4, 0, 6, 0) := by decide +kernel
theorem st_78_49 : xsite 78 49 = some (4, 0, 7, 0) := by decide +kernel
theorem st_79_120 : xsite 79 120 = some (0, 24, 1, 0) := by decide +kernel
theorem st_79_174 : xsite 79 174 = some (0, 27, 0, 0) := by decide +kernel
theorem st_79_49 : xsite 79 49 = some (4, 0, 7, 0) := by decide +kernel
theorem st_7_15 : xsite 7 15 = some (4, 6, 1, 0) := by decide +kernel
theorem st_7_19 : xsite 7 19 = some (4, 6, 2, 0) := by decide +kernel
theorem st_7_3 : xsite 7 3 = some (2, 0, 0, 0) := by decide +kernel
theorem st_7_9 : xsite 7 9 = some (4, 6, 0, 0) := by decide +kernel
theorem st_80_120 : xsite 80 120 = some (0, 24, 1, 0) := by decide +kernel
theorem st_80_127 : xsite 80 127 = some (0, 26, 0, 0) := by decide +kernel
theorem st_80_177 : xsite 80 177 = some (0, 33, 0, 0) := by decide +kernel
theorem st_80_180 : xsite 80 180 = some (0, 56, 0, 0) := by decide +kernel
theorem st_80_39 : xsite 80 39 = some (4, 0, 4, 0) := by decide +kernel
theorem st_80_49 : xsite 80 49 = some (4, 0, 7, 0) := by decide +kernel
theorem st_80_95 : xsite 80 95 = some (4, 0, 13, 0) := by decide +kernel
theorem st_81_120 : xsite 81 120 = some (0, 24, 1, 0) := by decide +kernel
theorem st_81_184 : xsite 81 184 = some (6, 0, 0, 0) := by decide +kernel
theorem st_81_187 : xsite 81 187 = some (0, 52, 1, 0) := by decide +kernel
theorem st_82_120 : xsite 82 120 = some (0, 24, 1, 0) := by decide +kernel
theorem st_82_166 : xsite 82 166 = some (10, 0, 0, -9223372036854775808) := by decide +kernel
theorem st_82_190 : xsite 82 190 = some (0, 47, 1, 0) := by decide +kernel
theorem st_82_193 : xsite 82 193 = some (10, 0, 0, 7420738134810) := by decide +kernel
theorem st_82_195 : xsite 82 195 = some (0, 37, 0, 0) := by decide +kernel
theorem st_82_198 : xsite 82 198 = some (0, 29, 0, 0) := by decide +kernel
theorem st_82_201 : xsite 82 201 = some (0, 30, 0, 0) := by decide +kernel
theorem st_82_204 : xsite 82 204 = some (0, 31, 0, 0) := by decide +kernel
theorem st_82_207 : xsite 82 207 = some (0, 41, 0, 0) := by decide +kernel
theorem st_82_21 : xsite 82 21 = some (4, 0, 1, 0) := by decide +kernel
theorem st_82_211 : xsite 82 211 = some (0, 55, 0, 0) := by decide +kernel
theorem st_82_214 : xsite 82 214 = some (0, 42, 0, 0) := by decide +kernel
theorem st_82_218 : xsite 82 218 = some (4, 5, 0, 0) := by decide +kernel
theorem st_82_35 : xsite 82 35 = some (4, 0, 3, 0) := by decide +kernel
theorem st_82_95 : xsite 82 95 = some (4, 0, 13, 0) := by decide +kernel
theorem st_83_120 : xsite 83 120 = some (0, 24, 1, 0) := by decide +kernel
theorem st_83_222 : xsite 83 222 = some (0, 84, 1, 0) := by decide +kernel
theorem st_83_225 : xsite 83 225 = some (0, 85, 0, 0) := by decide +kernel
theorem st_83_228 : xsite 83 228 = some (0, 86, 0, 0) := by decide +kernel
theorem st_83_49 : xsite 83 49 = some (4, 0, 7, 0) := by decide +kernel
theorem st_83_65 : xsite 83 65 = some (4, 0, 9, 0) := by decide +kernel
theorem st_84_184 : xsite 84 184 = some (6, 0, 0, 0) := by decide +kernel
theorem st_85_204 : xsite 85 204 = some (0, 31, 0, 0) := by decide +kernel
theorem st_85_39 : xsite 85 39 = some (4, 0, 4, 0) := by decide +kernel
theorem st_85_444 : xsite 85 444 = some (0, 73, 0, 0) := by decide +kernel
theorem st_86_11 : xsite 86 11 = some (4, 7, 0, 0) := by decide +kernel
theorem st_86_15 : xsite 86 15 = some (4, 7, 1, 0) := by decide +kernel
theorem st_86_18 : xsite 86 18 = some (4, 7, 2, 0) := by decide +kernel
theorem st_86_21 : xsite 86 21 = some (4, 7, 3, 0) := by decide +kernel
theorem st_86_25 : xsite 86 25 = some (0, 89, 0, 0) := by decide +kernel
theorem st_86_29 : xsite 86 29 = some (0, 87, 0, 0) := by decide +kernel
theorem st_86_33 : xsite 86 33 = some (0, 88, 0, 0) := by decide +kernel
theorem st_87_11 : xsite 87 11 = some (4, 7, 0, 0) := by decide +kernel
theorem st_87_15 : xsite 87 15 = some (4, 7, 1, 0) := by decide +kernel
theorem st_87_21 : xsite 87 21 = some (4, 7, 3, 0) := by decide +kernel
theorem st_88_11 : xsite 88 11 = some (4, 7, 0, 0) := by decide +kernel
theorem st_88_15 : xsite 88 15 = some (4, 7, 1, 0) := by decide +kernel
theorem st_88_18 : xsite 88 18 = some (4, 7, 2, 0) := by decide +kernel
theorem st_88_21 : xsite 88 21 = some (4, 7, 3, 0) := by decide +kernel
theorem st_88_36 : xsite 88 36 = some (3, 0, 0, 0) := by decide +kernel
theorem st_89_21 : xsite 89 21 = some (4, 7, 3, 0) := by decide +kernel
theorem st_8_11 : xsite 8 11 = some (4, 7, 0, 0) := by decide +kernel
theorem st_8_15 : xsite 8 15 = some (4, 7, 1, 0) := by decide +kernel
theorem st_8_18 : xsite 8 18 = some (4, 7, 2, 0) := by decide +kernel
theorem st_8_3 : xsite 8 3 = some (2, 0, 0, 0) := by decide +kernel
theorem st_90_120 : xsite 90 120 = some (0, 24, 1, 0) := by decide +kernel
theorem st_90_190 : xsite 90 190 = some (0, 47, 1, 0) := by decide +kernel
theorem st_90_222 : xsite 90 222 = some (0, 84, 1, 0) := by decide +kernel
theorem st_90_232 : xsite 90 232 = some (0, 91, 1, 0) := by decide +kernel
theorem st_91_19 : xsite 91 19 = some (0, 49, 1, 0) := by decide +kernel
theorem st_92_238 : xsite 92 238 = some (0, 93, 0, 0) := by decide +kernel
theorem st_92_242 : xsite 92 242 = some (0, 94, 0, 0) := by decide +kernel
theorem st_92_246 : xsite 92 246 = some (0, 95, 0, 0) := by decide +kernel
theorem st_92_249 : xsite 92 249 = some (0, 96, 0, 0) := by decide +kernel
theorem st_92_252 : xsite 92 252 = some (0, 97, 0, 0) := by decide +kernel
theorem st_92_65 : xsite 92 65 = some (4, 0, 9, 0) := by decide +kernel
theorem st_93_21 : xsite 93 21 = some (4, 7, 3, 0) := by decide +kernel
theorem st_94_11 : xsite 94 11 = some (4, 7, 0, 0) := by decide +kernel
theorem st_94_25 : xsite 94 25 = some (0, 89, 0, 0) := by decide +kernel
theorem st_95_15 : xsite 95 15 = some (4, 7, 1, 0) := by decide +kernel
theorem st_95_25 : xsite 95 25 = some (0, 89, 0, 0) := by decide +kernel
theorem st_96_18 : xsite 96 18 = some (4, 7, 2, 0) := by decide +kernel
theorem st_96_25 : xsite 96 25 = some (0, 89, 0, 0) := by decide +kernel
theorem st_97_225 : xsite 97 225 = some (0, 85, 0, 0) := by decide +kernel
theorem st_97_242 : xsite 97 242 = some (0, 94, 0, 0) := by decide +kernel
theorem st_97_246 : xsite 97 246 = some (0, 95, 0, 0) := by decide +kernel
theorem st_97_249 : xsite 97 249 = some (0, 96, 0, 0) := by decide +kernel
theorem st_97_65 : xsite 97 65 = some (4, 0, 9, 0) := by decide +kernel
theorem st_98_163 : xsite 98 163 = some (0, 99, 0, 0) := by decide +kernel
theorem st_98_168 : xsite 98 168 = some (0, 100, 0, 0) := by decide +kernel
theorem st_98_222 : xsite 98 222 = some (0, 84, 1, 0) := by decide +kernel
theorem st_98_255 : xsite 98 255 = some (0, 63, 0, 0) := by decide +kernel
theorem st_98_258 : xsite 98 258 = some (0, 101, 0, 0) := by decide +kernel
theorem st_98_261 : xsite 98 261 = some (0, 102, 0, 0) := by decide +kernel
theorem st_98_39 : xsite 98 39 = some (4, 0, 4, 0) := by decide +kernel
theorem st_98_95 : xsite 98 95 = some (4, 0, 13, 0) := by decide +kernel
theorem st_99_49 : xsite 99 49 = some (4, 0, 7, 0) := by decide +kernel
theorem st_9_15 : xsite 9 15 = some (4, 8, 1, 0) := by decide +kernel
theorem st_9_3 : xsite 9 3 = some (2, 0, 0, 0) := by decide +kernel
theorem st_9_9 : xsite 9 9 = some (4, 8, 0, 0) := by decide +kernel
