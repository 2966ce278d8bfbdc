/-! a call of a method, from its entry; laid by wip/whole/ent.py -/
theorem E_0 {a0 : Nat} {w : xW} {r : Option Value × xW} (h : xGo 0 0 [some (.ref a0), none] [] w r) : xCall 0 [.ref a0] w r := by
  unfold xCall
  rw [ml_0]
  exact h
theorem E_1 {a0 : Nat} {w : xW} {r : Option Value × xW} (h : xGo 1 0 [some (.ref a0), none, none, none] [] w r) : xCall 1 [.ref a0] w r := by
  unfold xCall
  rw [ml_1]
  exact h
theorem E_2 {a0 : Nat} {w : xW} {r : Option Value × xW} (h : xGo 2 0 [some (.ref a0)] [] w r) : xCall 2 [.ref a0] w r := by
  unfold xCall
  rw [ml_2]
  exact h
theorem E_3 {a0 : Nat} {w : xW} {r : Option Value × xW} (h : xGo 3 0 [some (.ref a0)] [] w r) : xCall 3 [.ref a0] w r := by
  unfold xCall
  rw [ml_3]
  exact h
theorem E_4 {a0 : Nat} {w : xW} {r : Option Value × xW} (h : xGo 4 0 [some (.ref a0)] [] w r) : xCall 4 [.ref a0] w r := by
  unfold xCall
  rw [ml_4]
  exact h
theorem E_5 {a0 : Nat} {w : xW} {r : Option Value × xW} (h : xGo 5 0 [some (.ref a0)] [] w r) : xCall 5 [.ref a0] w r := by
  unfold xCall
  rw [ml_5]
  exact h
theorem E_6 {a0 : Nat} {l1 : Int64} {w : xW} {r : Option Value × xW} (h : xGo 6 0 [some (.ref a0), some (.long l1), none, none, none] [] w r) : xCall 6 [.ref a0, .long l1] w r := by
  unfold xCall
  rw [ml_6]
  exact h
theorem E_7 {a0 : Nat} {a1 : Nat} {a2 : Nat} {a3 : Nat} {w : xW} {r : Option Value × xW} (h : xGo 7 0 [some (.ref a0), some (.ref a1), some (.ref a2), some (.ref a3)] [] w r) : xCall 7 [.ref a0, .ref a1, .ref a2, .ref a3] w r := by
  unfold xCall
  rw [ml_7]
  exact h
theorem E_8 {a0 : Nat} {w : xW} {r : Option Value × xW} (h : xGo 8 0 [some (.ref a0)] [] w r) : xCall 8 [.ref a0] w r := by
  unfold xCall
  rw [ml_8]
  exact h
theorem E_9 {a0 : Nat} {w : xW} {r : Option Value × xW} (h : xGo 9 0 [some (.ref a0)] [] w r) : xCall 9 [.ref a0] w r := by
  unfold xCall
  rw [ml_9]
  exact h
theorem E_10 {a0 : Nat} {a1 : Nat} {w : xW} {r : Option Value × xW} (h : xGo 10 0 [some (.ref a0), some (.ref a1)] [] w r) : xCall 10 [.ref a0, .ref a1] w r := by
  unfold xCall
  rw [ml_10]
  exact h
theorem E_11 {a0 : Nat} {w : xW} {r : Option Value × xW} (h : xGo 11 0 [some (.ref a0)] [] w r) : xCall 11 [.ref a0] w r := by
  unfold xCall
  rw [ml_11]
  exact h
theorem E_12 {a0 : Nat} {i1 : Int32} {w : xW} {r : Option Value × xW} (h : xGo 12 0 [some (.ref a0), some (.int i1), none] [] w r) : xCall 12 [.ref a0, .int i1] w r := by
  unfold xCall
  rw [ml_12]
  exact h
theorem E_13 {i0 : Int32} {i1 : Int32} {w : xW} {r : Option Value × xW} (h : xGo 13 0 [some (.int i0), some (.int i1)] [] w r) : xCall 13 [.int i0, .int i1] w r := by
  unfold xCall
  rw [ml_13]
  exact h
theorem E_14 {a0 : Nat} {i1 : Int32} {a2 : Nat} {w : xW} {r : Option Value × xW} (h : xGo 14 0 [some (.ref a0), some (.int i1), some (.ref a2)] [] w r) : xCall 14 [.ref a0, .int i1, .ref a2] w r := by
  unfold xCall
  rw [ml_14]
  exact h
theorem E_15 {a0 : Nat} {i1 : Int32} {a2 : Nat} {w : xW} {r : Option Value × xW} (h : xGo 15 0 [some (.ref a0), some (.int i1), some (.ref a2)] [] w r) : xCall 15 [.ref a0, .int i1, .ref a2] w r := by
  unfold xCall
  rw [ml_15]
  exact h
theorem E_16 {a0 : Nat} {l1 : Int64} {l3 : Int64} {l5 : Int64} {w : xW} {r : Option Value × xW} (h : xGo 16 0 [some (.ref a0), some (.long l1), none, some (.long l3), none, some (.long l5), none, none, none, none, none] [] w r) : xCall 16 [.ref a0, .long l1, .long l3, .long l5] w r := by
  unfold xCall
  rw [ml_16]
  exact h
theorem E_17 {l0 : Int64} {l2 : Int64} {w : xW} {r : Option Value × xW} (h : xGo 17 0 [some (.long l0), none, some (.long l2), none, none, none] [] w r) : xCall 17 [.long l0, .long l2] w r := by
  unfold xCall
  rw [ml_17]
  exact h
theorem E_18 {l0 : Int64} {l2 : Int64} {w : xW} {r : Option Value × xW} (h : xGo 18 0 [some (.long l0), none, some (.long l2), none, none, none, none, none, none, none, none] [] w r) : xCall 18 [.long l0, .long l2] w r := by
  unfold xCall
  rw [ml_18]
  exact h
theorem E_19 {l0 : Int64} {l2 : Int64} {w : xW} {r : Option Value × xW} (h : xGo 19 0 [some (.long l0), none, some (.long l2), none, none, none] [] w r) : xCall 19 [.long l0, .long l2] w r := by
  unfold xCall
  rw [ml_19]
  exact h
theorem E_20 {a0 : Nat} {i1 : Int32} {a2 : Nat} {w : xW} {r : Option Value × xW} (h : xGo 20 0 [some (.ref a0), some (.int i1), some (.ref a2)] [] w r) : xCall 20 [.ref a0, .int i1, .ref a2] w r := by
  unfold xCall
  rw [ml_20]
  exact h
theorem E_21 {i0 : Int32} {w : xW} {r : Option Value × xW} (h : xGo 21 0 [some (.int i0)] [] w r) : xCall 21 [.int i0] w r := by
  unfold xCall
  rw [ml_21]
  exact h
theorem E_22 {a0 : Nat} {w : xW} {r : Option Value × xW} (h : xGo 22 0 [some (.ref a0), none, none, none] [] w r) : xCall 22 [.ref a0] w r := by
  unfold xCall
  rw [ml_22]
  exact h
theorem E_23 {a0 : Nat} {i1 : Int32} {i2 : Int32} {w : xW} {r : Option Value × xW} (h : xGo 23 0 [some (.ref a0), some (.int i1), some (.int i2), none, none] [] w r) : xCall 23 [.ref a0, .int i1, .int i2] w r := by
  unfold xCall
  rw [ml_23]
  exact h
theorem E_24 {i0 : Int32} {w : xW} {r : Option Value × xW} (h : xGo 24 0 [some (.int i0)] [] w r) : xCall 24 [.int i0] w r := by
  unfold xCall
  rw [ml_24]
  exact h
theorem E_25 {i0 : Int32} {w : xW} {r : Option Value × xW} (h : xGo 25 0 [some (.int i0)] [] w r) : xCall 25 [.int i0] w r := by
  unfold xCall
  rw [ml_25]
  exact h
theorem E_26 {a0 : Nat} {i1 : Int32} {w : xW} {r : Option Value × xW} (h : xGo 26 0 [some (.ref a0), some (.int i1), none] [] w r) : xCall 26 [.ref a0, .int i1] w r := by
  unfold xCall
  rw [ml_26]
  exact h
theorem E_27 {a0 : Nat} {i1 : Int32} {w : xW} {r : Option Value × xW} (h : xGo 27 0 [some (.ref a0), some (.int i1)] [] w r) : xCall 27 [.ref a0, .int i1] w r := by
  unfold xCall
  rw [ml_27]
  exact h
theorem E_28 {a0 : Nat} {i1 : Int32} {a2 : Nat} {w : xW} {r : Option Value × xW} (h : xGo 28 0 [some (.ref a0), some (.int i1), some (.ref a2)] [] w r) : xCall 28 [.ref a0, .int i1, .ref a2] w r := by
  unfold xCall
  rw [ml_28]
  exact h
theorem E_29 {a0 : Nat} {i1 : Int32} {w : xW} {r : Option Value × xW} (h : xGo 29 0 [some (.ref a0), some (.int i1)] [] w r) : xCall 29 [.ref a0, .int i1] w r := by
  unfold xCall
  rw [ml_29]
  exact h
theorem E_30 {a0 : Nat} {i1 : Int32} {w : xW} {r : Option Value × xW} (h : xGo 30 0 [some (.ref a0), some (.int i1)] [] w r) : xCall 30 [.ref a0, .int i1] w r := by
  unfold xCall
  rw [ml_30]
  exact h
theorem E_31 {a0 : Nat} {i1 : Int32} {w : xW} {r : Option Value × xW} (h : xGo 31 0 [some (.ref a0), some (.int i1)] [] w r) : xCall 31 [.ref a0, .int i1] w r := by
  unfold xCall
  rw [ml_31]
  exact h
theorem E_32 {a0 : Nat} {i1 : Int32} {i2 : Int32} {w : xW} {r : Option Value × xW} (h : xGo 32 0 [some (.ref a0), some (.int i1), some (.int i2), none] [] w r) : xCall 32 [.ref a0, .int i1, .int i2] w r := by
  unfold xCall
  rw [ml_32]
  exact h
theorem E_33 {a0 : Nat} {i1 : Int32} {i2 : Int32} {w : xW} {r : Option Value × xW} (h : xGo 33 0 [some (.ref a0), some (.int i1), some (.int i2)] [] w r) : xCall 33 [.ref a0, .int i1, .int i2] w r := by
  unfold xCall
  rw [ml_33]
  exact h
theorem E_34 {a0 : Nat} {i1 : Int32} {w : xW} {r : Option Value × xW} (h : xGo 34 0 [some (.ref a0), some (.int i1)] [] w r) : xCall 34 [.ref a0, .int i1] w r := by
  unfold xCall
  rw [ml_34]
  exact h
theorem E_35 {a0 : Nat} {i1 : Int32} {w : xW} {r : Option Value × xW} (h : xGo 35 0 [some (.ref a0), some (.int i1)] [] w r) : xCall 35 [.ref a0, .int i1] w r := by
  unfold xCall
  rw [ml_35]
  exact h
theorem E_36 {a0 : Nat} {i1 : Int32} {i2 : Int32} {w : xW} {r : Option Value × xW} (h : xGo 36 0 [some (.ref a0), some (.int i1), some (.int i2), none] [] w r) : xCall 36 [.ref a0, .int i1, .int i2] w r := by
  unfold xCall
  rw [ml_36]
  exact h
theorem E_37 {a0 : Nat} {l1 : Int64} {w : xW} {r : Option Value × xW} (h : xGo 37 0 [some (.ref a0), some (.long l1), none] [] w r) : xCall 37 [.ref a0, .long l1] w r := by
  unfold xCall
  rw [ml_37]
  exact h
theorem E_38 {l0 : Int64} {l2 : Int64} {w : xW} {r : Option Value × xW} (h : xGo 38 0 [some (.long l0), none, some (.long l2), none] [] w r) : xCall 38 [.long l0, .long l2] w r := by
  unfold xCall
  rw [ml_38]
  exact h
theorem E_39 {a0 : Nat} {i1 : Int32} {i2 : Int32} {w : xW} {r : Option Value × xW} (h : xGo 39 0 [some (.ref a0), some (.int i1), some (.int i2)] [] w r) : xCall 39 [.ref a0, .int i1, .int i2] w r := by
  unfold xCall
  rw [ml_39]
  exact h
theorem E_40 {a0 : Nat} {l1 : Int64} {i3 : Int32} {w : xW} {r : Option Value × xW} (h : xGo 40 0 [some (.ref a0), some (.long l1), none, some (.int i3)] [] w r) : xCall 40 [.ref a0, .long l1, .int i3] w r := by
  unfold xCall
  rw [ml_40]
  exact h
theorem E_41 {a0 : Nat} {l1 : Int64} {l3 : Int64} {l5 : Int64} {l7 : Int64} {w : xW} {r : Option Value × xW} (h : xGo 41 0 [some (.ref a0), some (.long l1), none, some (.long l3), none, some (.long l5), none, some (.long l7), none, none, none] [] w r) : xCall 41 [.ref a0, .long l1, .long l3, .long l5, .long l7] w r := by
  unfold xCall
  rw [ml_41]
  exact h
theorem E_42 {a0 : Nat} {a1 : Nat} {w : xW} {r : Option Value × xW} (h : xGo 42 0 [some (.ref a0), some (.ref a1)] [] w r) : xCall 42 [.ref a0, .ref a1] w r := by
  unfold xCall
  rw [ml_42]
  exact h
theorem E_43 {a0 : Nat} {l1 : Int64} {w : xW} {r : Option Value × xW} (h : xGo 43 0 [some (.ref a0), some (.long l1), none] [] w r) : xCall 43 [.ref a0, .long l1] w r := by
  unfold xCall
  rw [ml_43]
  exact h
theorem E_44 {a0 : Nat} {l1 : Int64} {w : xW} {r : Option Value × xW} (h : xGo 44 0 [some (.ref a0), some (.long l1), none, none, none] [] w r) : xCall 44 [.ref a0, .long l1] w r := by
  unfold xCall
  rw [ml_44]
  exact h
theorem E_45 {a0 : Nat} {i1 : Int32} {w : xW} {r : Option Value × xW} (h : xGo 45 0 [some (.ref a0), some (.int i1), none] [] w r) : xCall 45 [.ref a0, .int i1] w r := by
  unfold xCall
  rw [ml_45]
  exact h
theorem E_46 {a0 : Nat} {i1 : Int32} {w : xW} {r : Option Value × xW} (h : xGo 46 0 [some (.ref a0), some (.int i1)] [] w r) : xCall 46 [.ref a0, .int i1] w r := by
  unfold xCall
  rw [ml_46]
  exact h
theorem E_47 {i0 : Int32} {w : xW} {r : Option Value × xW} (h : xGo 47 0 [some (.int i0)] [] w r) : xCall 47 [.int i0] w r := by
  unfold xCall
  rw [ml_47]
  exact h
theorem E_48 {a0 : Nat} {i1 : Int32} {w : xW} {r : Option Value × xW} (h : xGo 48 0 [some (.ref a0), some (.int i1), none, none, none, none, none, none, none, none, none, none] [] w r) : xCall 48 [.ref a0, .int i1] w r := by
  unfold xCall
  rw [ml_48]
  exact h
theorem E_49 {i0 : Int32} {i1 : Int32} {l2 : Int64} {w : xW} {r : Option Value × xW} (h : xGo 49 0 [some (.int i0), some (.int i1), some (.long l2), none, none, none, none] [] w r) : xCall 49 [.int i0, .int i1, .long l2] w r := by
  unfold xCall
  rw [ml_49]
  exact h
theorem E_50 {l0 : Int64} {i2 : Int32} {l3 : Int64} {w : xW} {r : Option Value × xW} (h : xGo 50 0 [some (.long l0), none, some (.int i2), some (.long l3), none, none, none, none, none, none] [] w r) : xCall 50 [.long l0, .int i2, .long l3] w r := by
  unfold xCall
  rw [ml_50]
  exact h
theorem E_51 {i0 : Int32} {i1 : Int32} {w : xW} {r : Option Value × xW} (h : xGo 51 0 [some (.int i0), some (.int i1), none, none, none, none, none, none] [] w r) : xCall 51 [.int i0, .int i1] w r := by
  unfold xCall
  rw [ml_51]
  exact h
theorem E_52 {i0 : Int32} {i1 : Int32} {w : xW} {r : Option Value × xW} (h : xGo 52 0 [some (.int i0), some (.int i1)] [] w r) : xCall 52 [.int i0, .int i1] w r := by
  unfold xCall
  rw [ml_52]
  exact h
theorem E_53 {l0 : Int64} {l2 : Int64} {w : xW} {r : Option Value × xW} (h : xGo 53 0 [some (.long l0), none, some (.long l2), none, none, none, none, none, none, none, none, none, none, none, none, none, none, none, none] [] w r) : xCall 53 [.long l0, .long l2] w r := by
  unfold xCall
  rw [ml_53]
  exact h
theorem E_54 {l0 : Int64} {l2 : Int64} {w : xW} {r : Option Value × xW} (h : xGo 54 0 [some (.long l0), none, some (.long l2), none] [] w r) : xCall 54 [.long l0, .long l2] w r := by
  unfold xCall
  rw [ml_54]
  exact h
theorem E_55 {a0 : Nat} {i1 : Int32} {i2 : Int32} {w : xW} {r : Option Value × xW} (h : xGo 55 0 [some (.ref a0), some (.int i1), some (.int i2), none, none, none, none] [] w r) : xCall 55 [.ref a0, .int i1, .int i2] w r := by
  unfold xCall
  rw [ml_55]
  exact h
theorem E_56 {a0 : Nat} {i1 : Int32} {a2 : Nat} {w : xW} {r : Option Value × xW} (h : xGo 56 0 [some (.ref a0), some (.int i1), some (.ref a2)] [] w r) : xCall 56 [.ref a0, .int i1, .ref a2] w r := by
  unfold xCall
  rw [ml_56]
  exact h
theorem E_57 {a0 : Nat} {i1 : Int32} {i2 : Int32} {w : xW} {r : Option Value × xW} (h : xGo 57 0 [some (.ref a0), some (.int i1), some (.int i2)] [] w r) : xCall 57 [.ref a0, .int i1, .int i2] w r := by
  unfold xCall
  rw [ml_57]
  exact h
theorem ml_58 : xml 58 = 3 := by decide +kernel
theorem E_58 {a0 : Nat} {i1 : Int32} {i2 : Int32} {w : xW} {r : Option Value × xW} (h : xGo 58 0 [some (.ref a0), some (.int i1), some (.int i2)] [] w r) : xCall 58 [.ref a0, .int i1, .int i2] w r := by
  unfold xCall
  rw [ml_58]
  exact h
theorem ml_59 : xml 59 = 3 := by decide +kernel
theorem E_59 {a0 : Nat} {i1 : Int32} {i2 : Int32} {w : xW} {r : Option Value × xW} (h : xGo 59 0 [some (.ref a0), some (.int i1), some (.int i2)] [] w r) : xCall 59 [.ref a0, .int i1, .int i2] w r := by
  unfold xCall
  rw [ml_59]
  exact h
theorem E_60 {a0 : Nat} {i1 : Int32} {l2 : Int64} {w : xW} {r : Option Value × xW} (h : xGo 60 0 [some (.ref a0), some (.int i1), some (.long l2), none] [] w r) : xCall 60 [.ref a0, .int i1, .long l2] w r := by
  unfold xCall
  rw [ml_60]
  exact h
theorem E_61 {a0 : Nat} {i1 : Int32} {i2 : Int32} {w : xW} {r : Option Value × xW} (h : xGo 61 0 [some (.ref a0), some (.int i1), some (.int i2), none] [] w r) : xCall 61 [.ref a0, .int i1, .int i2] w r := by
  unfold xCall
  rw [ml_61]
  exact h
theorem E_62 {a0 : Nat} {i1 : Int32} {w : xW} {r : Option Value × xW} (h : xGo 62 0 [some (.ref a0), some (.int i1), none, none, none, none, none, none] [] w r) : xCall 62 [.ref a0, .int i1] w r := by
  unfold xCall
  rw [ml_62]
  exact h
theorem E_63 {a0 : Nat} {i1 : Int32} {w : xW} {r : Option Value × xW} (h : xGo 63 0 [some (.ref a0), some (.int i1)] [] w r) : xCall 63 [.ref a0, .int i1] w r := by
  unfold xCall
  rw [ml_63]
  exact h
theorem E_64 {i0 : Int32} {w : xW} {r : Option Value × xW} (h : xGo 64 0 [some (.int i0)] [] w r) : xCall 64 [.int i0] w r := by
  unfold xCall
  rw [ml_64]
  exact h
theorem E_65 {a0 : Nat} {i1 : Int32} {w : xW} {r : Option Value × xW} (h : xGo 65 0 [some (.ref a0), some (.int i1)] [] w r) : xCall 65 [.ref a0, .int i1] w r := by
  unfold xCall
  rw [ml_65]
  exact h
theorem E_66 {a0 : Nat} {w : xW} {r : Option Value × xW} (h : xGo 66 0 [some (.ref a0)] [] w r) : xCall 66 [.ref a0] w r := by
  unfold xCall
  rw [ml_66]
  exact h
theorem E_67 {a0 : Nat} {i1 : Int32} {w : xW} {r : Option Value × xW} (h : xGo 67 0 [some (.ref a0), some (.int i1), none, none, none] [] w r) : xCall 67 [.ref a0, .int i1] w r := by
  unfold xCall
  rw [ml_67]
  exact h
theorem E_68 {a0 : Nat} {i1 : Int32} {i2 : Int32} {i3 : Int32} {w : xW} {r : Option Value × xW} (h : xGo 68 0 [some (.ref a0), some (.int i1), some (.int i2), some (.int i3)] [] w r) : xCall 68 [.ref a0, .int i1, .int i2, .int i3] w r := by
  unfold xCall
  rw [ml_68]
  exact h
theorem E_69 {a0 : Nat} {i1 : Int32} {i2 : Int32} {w : xW} {r : Option Value × xW} (h : xGo 69 0 [some (.ref a0), some (.int i1), some (.int i2)] [] w r) : xCall 69 [.ref a0, .int i1, .int i2] w r := by
  unfold xCall
  rw [ml_69]
  exact h
theorem E_70 {a0 : Nat} {i1 : Int32} {l2 : Int64} {w : xW} {r : Option Value × xW} (h : xGo 70 0 [some (.ref a0), some (.int i1), some (.long l2), none, none, none, none, none] [] w r) : xCall 70 [.ref a0, .int i1, .long l2] w r := by
  unfold xCall
  rw [ml_70]
  exact h
theorem E_71 {i0 : Int32} {i1 : Int32} {w : xW} {r : Option Value × xW} (h : xGo 71 0 [some (.int i0), some (.int i1)] [] w r) : xCall 71 [.int i0, .int i1] w r := by
  unfold xCall
  rw [ml_71]
  exact h
theorem E_72 {a0 : Nat} {i1 : Int32} {w : xW} {r : Option Value × xW} (h : xGo 72 0 [some (.ref a0), some (.int i1), none, none] [] w r) : xCall 72 [.ref a0, .int i1] w r := by
  unfold xCall
  rw [ml_72]
  exact h
theorem E_73 {a0 : Nat} {i1 : Int32} {l2 : Int64} {w : xW} {r : Option Value × xW} (h : xGo 73 0 [some (.ref a0), some (.int i1), some (.long l2), none] [] w r) : xCall 73 [.ref a0, .int i1, .long l2] w r := by
  unfold xCall
  rw [ml_73]
  exact h
theorem E_74 {a0 : Nat} {i1 : Int32} {w : xW} {r : Option Value × xW} (h : xGo 74 0 [some (.ref a0), some (.int i1), none] [] w r) : xCall 74 [.ref a0, .int i1] w r := by
  unfold xCall
  rw [ml_74]
  exact h
theorem E_75 {a0 : Nat} {i1 : Int32} {w : xW} {r : Option Value × xW} (h : xGo 75 0 [some (.ref a0), some (.int i1), none, none, none, none] [] w r) : xCall 75 [.ref a0, .int i1] w r := by
  unfold xCall
  rw [ml_75]
  exact h
theorem E_76 {i0 : Int32} {w : xW} {r : Option Value × xW} (h : xGo 76 0 [some (.int i0)] [] w r) : xCall 76 [.int i0] w r := by
  unfold xCall
  rw [ml_76]
  exact h
theorem E_77 {a0 : Nat} {i1 : Int32} {w : xW} {r : Option Value × xW} (h : xGo 77 0 [some (.ref a0), some (.int i1), none, none, none] [] w r) : xCall 77 [.ref a0, .int i1] w r := by
  unfold xCall
  rw [ml_77]
  exact h
theorem ml_78 : xml 78 = 2 := by decide +kernel
theorem E_78 {a0 : Nat} {i1 : Int32} {w : xW} {r : Option Value × xW} (h : xGo 78 0 [some (.ref a0), some (.int i1)] [] w r) : xCall 78 [.ref a0, .int i1] w r := by
  unfold xCall
  rw [ml_78]
  exact h
theorem ml_79 : xml 79 = 2 := by decide +kernel
theorem E_79 {a0 : Nat} {i1 : Int32} {w : xW} {r : Option Value × xW} (h : xGo 79 0 [some (.ref a0), some (.int i1)] [] w r) : xCall 79 [.ref a0, .int i1] w r := by
  unfold xCall
  rw [ml_79]
  exact h
theorem E_80 {a0 : Nat} {i1 : Int32} {w : xW} {r : Option Value × xW} (h : xGo 80 0 [some (.ref a0), some (.int i1), none, none] [] w r) : xCall 80 [.ref a0, .int i1] w r := by
  unfold xCall
  rw [ml_80]
  exact h
theorem E_81 {a0 : Nat} {i1 : Int32} {i2 : Int32} {w : xW} {r : Option Value × xW} (h : xGo 81 0 [some (.ref a0), some (.int i1), some (.int i2), none, none, none, none, none] [] w r) : xCall 81 [.ref a0, .int i1, .int i2] w r := by
  unfold xCall
  rw [ml_81]
  exact h
theorem ml_82 : xml 82 = 2 := by decide +kernel
theorem E_82 {a0 : Nat} {i1 : Int32} {w : xW} {r : Option Value × xW} (h : xGo 82 0 [some (.ref a0), some (.int i1)] [] w r) : xCall 82 [.ref a0, .int i1] w r := by
  unfold xCall
  rw [ml_82]
  exact h
theorem E_83 {a0 : Nat} {i1 : Int32} {i2 : Int32} {w : xW} {r : Option Value × xW} (h : xGo 83 0 [some (.ref a0), some (.int i1), some (.int i2), none] [] w r) : xCall 83 [.ref a0, .int i1, .int i2] w r := by
  unfold xCall
  rw [ml_83]
  exact h
theorem E_84 {i0 : Int32} {w : xW} {r : Option Value × xW} (h : xGo 84 0 [some (.int i0), none, none, none, none] [] w r) : xCall 84 [.int i0] w r := by
  unfold xCall
  rw [ml_84]
  exact h
theorem E_85 {a0 : Nat} {i1 : Int32} {i2 : Int32} {w : xW} {r : Option Value × xW} (h : xGo 85 0 [some (.ref a0), some (.int i1), some (.int i2)] [] w r) : xCall 85 [.ref a0, .int i1, .int i2] w r := by
  unfold xCall
  rw [ml_85]
  exact h
theorem E_86 {a0 : Nat} {i1 : Int32} {i2 : Int32} {i3 : Int32} {w : xW} {r : Option Value × xW} (h : xGo 86 0 [some (.ref a0), some (.int i1), some (.int i2), some (.int i3), none] [] w r) : xCall 86 [.ref a0, .int i1, .int i2, .int i3] w r := by
  unfold xCall
  rw [ml_86]
  exact h
theorem E_87 {a0 : Nat} {i1 : Int32} {i2 : Int32} {w : xW} {r : Option Value × xW} (h : xGo 87 0 [some (.ref a0), some (.int i1), some (.int i2), none] [] w r) : xCall 87 [.ref a0, .int i1, .int i2] w r := by
  unfold xCall
  rw [ml_87]
  exact h
theorem E_88 {a0 : Nat} {w : xW} {r : Option Value × xW} (h : xGo 88 0 [some (.ref a0)] [] w r) : xCall 88 [.ref a0] w r := by
  unfold xCall
  rw [ml_88]
  exact h
theorem E_89 {a0 : Nat} {i1 : Int32} {w : xW} {r : Option Value × xW} (h : xGo 89 0 [some (.ref a0), some (.int i1)] [] w r) : xCall 89 [.ref a0, .int i1] w r := by
  unfold xCall
  rw [ml_89]
  exact h
theorem ml_90 : xml 90 = 3 := by decide +kernel
theorem E_90 {a0 : Nat} {i1 : Int32} {i2 : Int32} {w : xW} {r : Option Value × xW} (h : xGo 90 0 [some (.ref a0), some (.int i1), some (.int i2)] [] w r) : xCall 90 [.ref a0, .int i1, .int i2] w r := by
  unfold xCall
  rw [ml_90]
  exact h
theorem E_91 {i0 : Int32} {i1 : Int32} {w : xW} {r : Option Value × xW} (h : xGo 91 0 [some (.int i0), some (.int i1)] [] w r) : xCall 91 [.int i0, .int i1] w r := by
  unfold xCall
  rw [ml_91]
  exact h
theorem ml_92 : xml 92 = 3 := by decide +kernel
theorem E_92 {a0 : Nat} {i1 : Int32} {i2 : Int32} {w : xW} {r : Option Value × xW} (h : xGo 92 0 [some (.ref a0), some (.int i1), some (.int i2)] [] w r) : xCall 92 [.ref a0, .int i1, .int i2] w r := by
  unfold xCall
  rw [ml_92]
  exact h
theorem E_93 {a0 : Nat} {w : xW} {r : Option Value × xW} (h : xGo 93 0 [some (.ref a0)] [] w r) : xCall 93 [.ref a0] w r := by
  unfold xCall
  rw [ml_93]
  exact h
theorem E_94 {a0 : Nat} {i1 : Int32} {w : xW} {r : Option Value × xW} (h : xGo 94 0 [some (.ref a0), some (.int i1)] [] w r) : xCall 94 [.ref a0, .int i1] w r := by
  unfold xCall
  rw [ml_94]
  exact h
theorem E_95 {a0 : Nat} {i1 : Int32} {w : xW} {r : Option Value × xW} (h : xGo 95 0 [some (.ref a0), some (.int i1)] [] w r) : xCall 95 [.ref a0, .int i1] w r := by
  unfold xCall
  rw [ml_95]
  exact h
theorem E_96 {a0 : Nat} {i1 : Int32} {w : xW} {r : Option Value × xW} (h : xGo 96 0 [some (.ref a0), some (.int i1)] [] w r) : xCall 96 [.ref a0, .int i1] w r := by
  unfold xCall
  rw [ml_96]
  exact h
theorem E_97 {a0 : Nat} {i1 : Int32} {w : xW} {r : Option Value × xW} (h : xGo 97 0 [some (.ref a0), some (.int i1)] [] w r) : xCall 97 [.ref a0, .int i1] w r := by
  unfold xCall
  rw [ml_97]
  exact h
theorem ml_98 : xml 98 = 3 := by decide +kernel
theorem E_98 {a0 : Nat} {i1 : Int32} {i2 : Int32} {w : xW} {r : Option Value × xW} (h : xGo 98 0 [some (.ref a0), some (.int i1), some (.int i2)] [] w r) : xCall 98 [.ref a0, .int i1, .int i2] w r := by
  unfold xCall
  rw [ml_98]
  exact h
theorem E_99 {a0 : Nat} {i1 : Int32} {w : xW} {r : Option Value × xW} (h : xGo 99 0 [some (.ref a0), some (.int i1)] [] w r) : xCall 99 [.ref a0, .int i1] w r := by
  unfold xCall
  rw [ml_99]
  exact h
theorem E_100 {a0 : Nat} {i1 : Int32} {a2 : Nat} {w : xW} {r : Option Value × xW} (h : xGo 100 0 [some (.ref a0), some (.int i1), some (.ref a2)] [] w r) : xCall 100 [.ref a0, .int i1, .ref a2] w r := by
  unfold xCall
  rw [ml_100]
  exact h
theorem E_101 {a0 : Nat} {i1 : Int32} {w : xW} {r : Option Value × xW} (h : xGo 101 0 [some (.ref a0), some (.int i1), none, none, none, none, none, none, none] [] w r) : xCall 101 [.ref a0, .int i1] w r := by
  unfold xCall
  rw [ml_101]
  exact h
theorem E_102 {a0 : Nat} {i1 : Int32} {w : xW} {r : Option Value × xW} (h : xGo 102 0 [some (.ref a0), some (.int i1), none, none, none] [] w r) : xCall 102 [.ref a0, .int i1] w r := by
  unfold xCall
  rw [ml_102]
  exact h
theorem ml_103 : xml 103 = 4 := by decide +kernel
theorem E_103 {a0 : Nat} {i1 : Int32} {i2 : Int32} {i3 : Int32} {w : xW} {r : Option Value × xW} (h : xGo 103 0 [some (.ref a0), some (.int i1), some (.int i2), some (.int i3)] [] w r) : xCall 103 [.ref a0, .int i1, .int i2, .int i3] w r := by
  unfold xCall
  rw [ml_103]
  exact h
theorem ml_104 : xml 104 = 4 := by decide +kernel
theorem E_104 {a0 : Nat} {i1 : Int32} {i2 : Int32} {i3 : Int32} {w : xW} {r : Option Value × xW} (h : xGo 104 0 [some (.ref a0), some (.int i1), some (.int i2), some (.int i3)] [] w r) : xCall 104 [.ref a0, .int i1, .int i2, .int i3] w r := by
  unfold xCall
  rw [ml_104]
  exact h
theorem E_105 {a0 : Nat} {i1 : Int32} {i2 : Int32} {i3 : Int32} {w : xW} {r : Option Value × xW} (h : xGo 105 0 [some (.ref a0), some (.int i1), some (.int i2), some (.int i3), none, none, none, none, none, none] [] w r) : xCall 105 [.ref a0, .int i1, .int i2, .int i3] w r := by
  unfold xCall
  rw [ml_105]
  exact h
theorem ml_106 : xml 106 = 2 := by decide +kernel
theorem E_106 {a0 : Nat} {i1 : Int32} {w : xW} {r : Option Value × xW} (h : xGo 106 0 [some (.ref a0), some (.int i1)] [] w r) : xCall 106 [.ref a0, .int i1] w r := by
  unfold xCall
  rw [ml_106]
  exact h
theorem ml_107 : xml 107 = 2 := by decide +kernel
theorem E_107 {a0 : Nat} {i1 : Int32} {w : xW} {r : Option Value × xW} (h : xGo 107 0 [some (.ref a0), some (.int i1)] [] w r) : xCall 107 [.ref a0, .int i1] w r := by
  unfold xCall
  rw [ml_107]
  exact h
theorem E_108 {a0 : Nat} {i1 : Int32} {w : xW} {r : Option Value × xW} (h : xGo 108 0 [some (.ref a0), some (.int i1), none, none, none] [] w r) : xCall 108 [.ref a0, .int i1] w r := by
  unfold xCall
  rw [ml_108]
  exact h
theorem E_109 {a0 : Nat} {i1 : Int32} {w : xW} {r : Option Value × xW} (h : xGo 109 0 [some (.ref a0), some (.int i1), none, none, none, none] [] w r) : xCall 109 [.ref a0, .int i1] w r := by
  unfold xCall
  rw [ml_109]
  exact h
theorem E_110 {a0 : Nat} {i1 : Int32} {w : xW} {r : Option Value × xW} (h : xGo 110 0 [some (.ref a0), some (.int i1), none] [] w r) : xCall 110 [.ref a0, .int i1] w r := by
  unfold xCall
  rw [ml_110]
  exact h
theorem E_111 {a0 : Nat} {a1 : Nat} {w : xW} {r : Option Value × xW} (h : xGo 111 0 [some (.ref a0), some (.ref a1)] [] w r) : xCall 111 [.ref a0, .ref a1] w r := by
  unfold xCall
  rw [ml_111]
  exact h
theorem E_112 {a0 : Nat} {i1 : Int32} {i2 : Int32} {i3 : Int32} {w : xW} {r : Option Value × xW} (h : xGo 112 0 [some (.ref a0), some (.int i1), some (.int i2), some (.int i3), none, none] [] w r) : xCall 112 [.ref a0, .int i1, .int i2, .int i3] w r := by
  unfold xCall
  rw [ml_112]
  exact h
theorem E_113 {a0 : Nat} {i1 : Int32} {i2 : Int32} {w : xW} {r : Option Value × xW} (h : xGo 113 0 [some (.ref a0), some (.int i1), some (.int i2), none, none, none, none, none, none, none] [] w r) : xCall 113 [.ref a0, .int i1, .int i2] w r := by
  unfold xCall
  rw [ml_113]
  exact h
theorem E_114 {l0 : Int64} {w : xW} {r : Option Value × xW} (h : xGo 114 0 [some (.long l0), none] [] w r) : xCall 114 [.long l0] w r := by
  unfold xCall
  rw [ml_114]
  exact h
theorem ml_115 : xml 115 = 3 := by decide +kernel
theorem E_115 {a0 : Nat} {i1 : Int32} {i2 : Int32} {w : xW} {r : Option Value × xW} (h : xGo 115 0 [some (.ref a0), some (.int i1), some (.int i2)] [] w r) : xCall 115 [.ref a0, .int i1, .int i2] w r := by
  unfold xCall
  rw [ml_115]
  exact h
theorem E_116 {i0 : Int32} {w : xW} {r : Option Value × xW} (h : xGo 116 0 [some (.int i0)] [] w r) : xCall 116 [.int i0] w r := by
  unfold xCall
  rw [ml_116]
  exact h
theorem E_117 {a0 : Nat} {i1 : Int32} {w : xW} {r : Option Value × xW} (h : xGo 117 0 [some (.ref a0), some (.int i1)] [] w r) : xCall 117 [.ref a0, .int i1] w r := by
  unfold xCall
  rw [ml_117]
  exact h
theorem E_118 {a0 : Nat} {i1 : Int32} {i2 : Int32} {i3 : Int32} {w : xW} {r : Option Value × xW} (h : xGo 118 0 [some (.ref a0), some (.int i1), some (.int i2), some (.int i3), none] [] w r) : xCall 118 [.ref a0, .int i1, .int i2, .int i3] w r := by
  unfold xCall
  rw [ml_118]
  exact h
theorem E_119 {a0 : Nat} {i1 : Int32} {w : xW} {r : Option Value × xW} (h : xGo 119 0 [some (.ref a0), some (.int i1), none] [] w r) : xCall 119 [.ref a0, .int i1] w r := by
  unfold xCall
  rw [ml_119]
  exact h
theorem ml_120 : xml 120 = 2 := by decide +kernel
theorem E_120 {a0 : Nat} {i1 : Int32} {w : xW} {r : Option Value × xW} (h : xGo 120 0 [some (.ref a0), some (.int i1)] [] w r) : xCall 120 [.ref a0, .int i1] w r := by
  unfold xCall
  rw [ml_120]
  exact h
theorem E_121 {a0 : Nat} {i1 : Int32} {w : xW} {r : Option Value × xW} (h : xGo 121 0 [some (.ref a0), some (.int i1)] [] w r) : xCall 121 [.ref a0, .int i1] w r := by
  unfold xCall
  rw [ml_121]
  exact h
theorem E_122 {a0 : Nat} {i1 : Int32} {w : xW} {r : Option Value × xW} (h : xGo 122 0 [some (.ref a0), some (.int i1), none] [] w r) : xCall 122 [.ref a0, .int i1] w r := by
  unfold xCall
  rw [ml_122]
  exact h
theorem E_123 {a0 : Nat} {i1 : Int32} {i2 : Int32} {w : xW} {r : Option Value × xW} (h : xGo 123 0 [some (.ref a0), some (.int i1), some (.int i2)] [] w r) : xCall 123 [.ref a0, .int i1, .int i2] w r := by
  unfold xCall
  rw [ml_123]
  exact h
theorem E_124 {a0 : Nat} {i1 : Int32} {w : xW} {r : Option Value × xW} (h : xGo 124 0 [some (.ref a0), some (.int i1), none, none, none, none] [] w r) : xCall 124 [.ref a0, .int i1] w r := by
  unfold xCall
  rw [ml_124]
  exact h
theorem E_125 {a0 : Nat} {i1 : Int32} {w : xW} {r : Option Value × xW} (h : xGo 125 0 [some (.ref a0), some (.int i1), none, none] [] w r) : xCall 125 [.ref a0, .int i1] w r := by
  unfold xCall
  rw [ml_125]
  exact h
theorem E_126 {a0 : Nat} {i1 : Int32} {w : xW} {r : Option Value × xW} (h : xGo 126 0 [some (.ref a0), some (.int i1), none, none, none, none, none, none] [] w r) : xCall 126 [.ref a0, .int i1] w r := by
  unfold xCall
  rw [ml_126]
  exact h
theorem E_127 {a0 : Nat} {i1 : Int32} {w : xW} {r : Option Value × xW} (h : xGo 127 0 [some (.ref a0), some (.int i1)] [] w r) : xCall 127 [.ref a0, .int i1] w r := by
  unfold xCall
  rw [ml_127]
  exact h
theorem E_128 {a0 : Nat} {i1 : Int32} {w : xW} {r : Option Value × xW} (h : xGo 128 0 [some (.ref a0), some (.int i1), none, none] [] w r) : xCall 128 [.ref a0, .int i1] w r := by
  unfold xCall
  rw [ml_128]
  exact h
theorem ml_129 : xml 129 = 3 := by decide +kernel
theorem E_129 {a0 : Nat} {i1 : Int32} {i2 : Int32} {w : xW} {r : Option Value × xW} (h : xGo 129 0 [some (.ref a0), some (.int i1), some (.int i2)] [] w r) : xCall 129 [.ref a0, .int i1, .int i2] w r := by
  unfold xCall
  rw [ml_129]
  exact h
theorem E_130 {a0 : Nat} {w : xW} {r : Option Value × xW} (h : xGo 130 0 [some (.ref a0)] [] w r) : xCall 130 [.ref a0] w r := by
  unfold xCall
  rw [ml_130]
  exact h
theorem E_131 {a0 : Nat} {i1 : Int32} {w : xW} {r : Option Value × xW} (h : xGo 131 0 [some (.ref a0), some (.int i1)] [] w r) : xCall 131 [.ref a0, .int i1] w r := by
  unfold xCall
  rw [ml_131]
  exact h
theorem E_132 {a0 : Nat} {i1 : Int32} {w : xW} {r : Option Value × xW} (h : xGo 132 0 [some (.ref a0), some (.int i1)] [] w r) : xCall 132 [.ref a0, .int i1] w r := by
  unfold xCall
  rw [ml_132]
  exact h
theorem ml_133 : xml 133 = 2 := by decide +kernel
theorem E_133 {a0 : Nat} {i1 : Int32} {w : xW} {r : Option Value × xW} (h : xGo 133 0 [some (.ref a0), some (.int i1)] [] w r) : xCall 133 [.ref a0, .int i1] w r := by
  unfold xCall
  rw [ml_133]
  exact h
theorem E_134 {i0 : Int32} {i1 : Int32} {w : xW} {r : Option Value × xW} (h : xGo 134 0 [some (.int i0), some (.int i1), none, none, none, none, none, none, none] [] w r) : xCall 134 [.int i0, .int i1] w r := by
  unfold xCall
  rw [ml_134]
  exact h
theorem E_135 {i0 : Int32} {i1 : Int32} {w : xW} {r : Option Value × xW} (h : xGo 135 0 [some (.int i0), some (.int i1), none, none, none, none] [] w r) : xCall 135 [.int i0, .int i1] w r := by
  unfold xCall
  rw [ml_135]
  exact h
theorem ml_136 : xml 136 = 3 := by decide +kernel
theorem E_136 {a0 : Nat} {i1 : Int32} {i2 : Int32} {w : xW} {r : Option Value × xW} (h : xGo 136 0 [some (.ref a0), some (.int i1), some (.int i2)] [] w r) : xCall 136 [.ref a0, .int i1, .int i2] w r := by
  unfold xCall
  rw [ml_136]
  exact h
theorem E_137 {a0 : Nat} {i1 : Int32} {i2 : Int32} {i3 : Int32} {w : xW} {r : Option Value × xW} (h : xGo 137 0 [some (.ref a0), some (.int i1), some (.int i2), some (.int i3), none, none, none, none] [] w r) : xCall 137 [.ref a0, .int i1, .int i2, .int i3] w r := by
  unfold xCall
  rw [ml_137]
  exact h
theorem ml_138 : xml 138 = 4 := by decide +kernel
theorem E_138 {a0 : Nat} {i1 : Int32} {i2 : Int32} {i3 : Int32} {w : xW} {r : Option Value × xW} (h : xGo 138 0 [some (.ref a0), some (.int i1), some (.int i2), some (.int i3)] [] w r) : xCall 138 [.ref a0, .int i1, .int i2, .int i3] w r := by
  unfold xCall
  rw [ml_138]
  exact h
theorem E_139 {a0 : Nat} {i1 : Int32} {i2 : Int32} {w : xW} {r : Option Value × xW} (h : xGo 139 0 [some (.ref a0), some (.int i1), some (.int i2), none, none] [] w r) : xCall 139 [.ref a0, .int i1, .int i2] w r := by
  unfold xCall
  rw [ml_139]
  exact h
theorem E_140 {a0 : Nat} {i1 : Int32} {w : xW} {r : Option Value × xW} (h : xGo 140 0 [some (.ref a0), some (.int i1), none, none, none, none, none, none, none] [] w r) : xCall 140 [.ref a0, .int i1] w r := by
  unfold xCall
  rw [ml_140]
  exact h
theorem E_141 {a0 : Nat} {i1 : Int32} {w : xW} {r : Option Value × xW} (h : xGo 141 0 [some (.ref a0), some (.int i1), none, none, none, none, none] [] w r) : xCall 141 [.ref a0, .int i1] w r := by
  unfold xCall
  rw [ml_141]
  exact h
theorem E_142 {a0 : Nat} {i1 : Int32} {w : xW} {r : Option Value × xW} (h : xGo 142 0 [some (.ref a0), some (.int i1), none, none] [] w r) : xCall 142 [.ref a0, .int i1] w r := by
  unfold xCall
  rw [ml_142]
  exact h
theorem E_143 {i0 : Int32} {i1 : Int32} {w : xW} {r : Option Value × xW} (h : xGo 143 0 [some (.int i0), some (.int i1), none, none] [] w r) : xCall 143 [.int i0, .int i1] w r := by
  unfold xCall
  rw [ml_143]
  exact h
theorem E_144 {a0 : Nat} {i1 : Int32} {i2 : Int32} {i3 : Int32} {w : xW} {r : Option Value × xW} (h : xGo 144 0 [some (.ref a0), some (.int i1), some (.int i2), some (.int i3), none, none, none] [] w r) : xCall 144 [.ref a0, .int i1, .int i2, .int i3] w r := by
  unfold xCall
  rw [ml_144]
  exact h
theorem E_145 {a0 : Nat} {a1 : Nat} {i2 : Int32} {l3 : Int64} {l5 : Int64} {l7 : Int64} {w : xW} {r : Option Value × xW} (h : xGo 145 0 [some (.ref a0), some (.ref a1), some (.int i2), some (.long l3), none, some (.long l5), none, some (.long l7), none, none, none, none, none, none] [] w r) : xCall 145 [.ref a0, .ref a1, .int i2, .long l3, .long l5, .long l7] w r := by
  unfold xCall
  rw [ml_145]
  exact h
theorem E_146 {a0 : Nat} {i1 : Int32} {l2 : Int64} {w : xW} {r : Option Value × xW} (h : xGo 146 0 [some (.ref a0), some (.int i1), some (.long l2), none, none, none] [] w r) : xCall 146 [.ref a0, .int i1, .long l2] w r := by
  unfold xCall
  rw [ml_146]
  exact h
theorem E_147 {a0 : Nat} {i1 : Int32} {w : xW} {r : Option Value × xW} (h : xGo 147 0 [some (.ref a0), some (.int i1), none, none, none, none, none] [] w r) : xCall 147 [.ref a0, .int i1] w r := by
  unfold xCall
  rw [ml_147]
  exact h
theorem E_148 {a0 : Nat} {i1 : Int32} {i2 : Int32} {i3 : Int32} {w : xW} {r : Option Value × xW} (h : xGo 148 0 [some (.ref a0), some (.int i1), some (.int i2), some (.int i3), none] [] w r) : xCall 148 [.ref a0, .int i1, .int i2, .int i3] w r := by
  unfold xCall
  rw [ml_148]
  exact h
theorem E_149 {i0 : Int32} {w : xW} {r : Option Value × xW} (h : xGo 149 0 [some (.int i0)] [] w r) : xCall 149 [.int i0] w r := by
  unfold xCall
  rw [ml_149]
  exact h
theorem E_150 {a0 : Nat} {w : xW} {r : Option Value × xW} (h : xGo 150 0 [some (.ref a0)] [] w r) : xCall 150 [.ref a0] w r := by
  unfold xCall
  rw [ml_150]
  exact h
theorem ml_151 : xml 151 = 3 := by decide +kernel
theorem E_151 {a0 : Nat} {i1 : Int32} {i2 : Int32} {w : xW} {r : Option Value × xW} (h : xGo 151 0 [some (.ref a0), some (.int i1), some (.int i2)] [] w r) : xCall 151 [.ref a0, .int i1, .int i2] w r := by
  unfold xCall
  rw [ml_151]
  exact h
theorem E_152 {i0 : Int32} {i1 : Int32} {w : xW} {r : Option Value × xW} (h : xGo 152 0 [some (.int i0), some (.int i1)] [] w r) : xCall 152 [.int i0, .int i1] w r := by
  unfold xCall
  rw [ml_152]
  exact h
theorem E_153 {a0 : Nat} {i1 : Int32} {w : xW} {r : Option Value × xW} (h : xGo 153 0 [some (.ref a0), some (.int i1), none] [] w r) : xCall 153 [.ref a0, .int i1] w r := by
  unfold xCall
  rw [ml_153]
  exact h
theorem E_154 {a0 : Nat} {i1 : Int32} {l2 : Int64} {w : xW} {r : Option Value × xW} (h : xGo 154 0 [some (.ref a0), some (.int i1), some (.long l2), none, none, none, none, none, none] [] w r) : xCall 154 [.ref a0, .int i1, .long l2] w r := by
  unfold xCall
  rw [ml_154]
  exact h
theorem ml_155 : xml 155 = 3 := by decide +kernel
theorem E_155 {a0 : Nat} {i1 : Int32} {i2 : Int32} {w : xW} {r : Option Value × xW} (h : xGo 155 0 [some (.ref a0), some (.int i1), some (.int i2)] [] w r) : xCall 155 [.ref a0, .int i1, .int i2] w r := by
  unfold xCall
  rw [ml_155]
  exact h
theorem E_156 {a0 : Nat} {i1 : Int32} {i2 : Int32} {w : xW} {r : Option Value × xW} (h : xGo 156 0 [some (.ref a0), some (.int i1), some (.int i2), none, none, none, none] [] w r) : xCall 156 [.ref a0, .int i1, .int i2] w r := by
  unfold xCall
  rw [ml_156]
  exact h
theorem E_157 {a0 : Nat} {w : xW} {r : Option Value × xW} (h : xGo 157 0 [some (.ref a0)] [] w r) : xCall 157 [.ref a0] w r := by
  unfold xCall
  rw [ml_157]
  exact h
theorem E_158 {a0 : Nat} {l1 : Int64} {l3 : Int64} {w : xW} {r : Option Value × xW} (h : xGo 158 0 [some (.ref a0), some (.long l1), none, some (.long l3), none, none, none, none, none, none] [] w r) : xCall 158 [.ref a0, .long l1, .long l3] w r := by
  unfold xCall
  rw [ml_158]
  exact h
theorem E_159 {a0 : Nat} {l1 : Int64} {w : xW} {r : Option Value × xW} (h : xGo 159 0 [some (.ref a0), some (.long l1), none, none, none, none, none, none] [] w r) : xCall 159 [.ref a0, .long l1] w r := by
  unfold xCall
  rw [ml_159]
  exact h
theorem E_160 {a0 : Nat} {w : xW} {r : Option Value × xW} (h : xGo 160 0 [some (.ref a0)] [] w r) : xCall 160 [.ref a0] w r := by
  unfold xCall
  rw [ml_160]
  exact h
theorem E_161 {a0 : Nat} {i1 : Int32} {w : xW} {r : Option Value × xW} (h : xGo 161 0 [some (.ref a0), some (.int i1), none, none, none] [] w r) : xCall 161 [.ref a0, .int i1] w r := by
  unfold xCall
  rw [ml_161]
  exact h
theorem E_162 {a0 : Nat} {w : xW} {r : Option Value × xW} (h : xGo 162 0 [some (.ref a0)] [] w r) : xCall 162 [.ref a0] w r := by
  unfold xCall
  rw [ml_162]
  exact h
theorem ml_163 : xml 163 = 4 := by decide +kernel
theorem E_163 {a0 : Nat} {i1 : Int32} {i2 : Int32} {i3 : Int32} {w : xW} {r : Option Value × xW} (h : xGo 163 0 [some (.ref a0), some (.int i1), some (.int i2), some (.int i3)] [] w r) : xCall 163 [.ref a0, .int i1, .int i2, .int i3] w r := by
  unfold xCall
  rw [ml_163]
  exact h
theorem E_164 {a0 : Nat} {i1 : Int32} {w : xW} {r : Option Value × xW} (h : xGo 164 0 [some (.ref a0), some (.int i1)] [] w r) : xCall 164 [.ref a0, .int i1] w r := by
  unfold xCall
  rw [ml_164]
  exact h
theorem E_165 {a0 : Nat} {i1 : Int32} {i2 : Int32} {i3 : Int32} {i4 : Int32} {w : xW} {r : Option Value × xW} (h : xGo 165 0 [some (.ref a0), some (.int i1), some (.int i2), some (.int i3), some (.int i4), none, none, none, none, none] [] w r) : xCall 165 [.ref a0, .int i1, .int i2, .int i3, .int i4] w r := by
  unfold xCall
  rw [ml_165]
  exact h
theorem ml_166 : xml 166 = 4 := by decide +kernel
theorem E_166 {a0 : Nat} {i1 : Int32} {i2 : Int32} {i3 : Int32} {w : xW} {r : Option Value × xW} (h : xGo 166 0 [some (.ref a0), some (.int i1), some (.int i2), some (.int i3)] [] w r) : xCall 166 [.ref a0, .int i1, .int i2, .int i3] w r := by
  unfold xCall
  rw [ml_166]
  exact h
theorem E_167 {a0 : Nat} {i1 : Int32} {w : xW} {r : Option Value × xW} (h : xGo 167 0 [some (.ref a0), some (.int i1), none, none, none, none] [] w r) : xCall 167 [.ref a0, .int i1] w r := by
  unfold xCall
  rw [ml_167]
  exact h
theorem ml_168 : xml 168 = 4 := by decide +kernel
theorem E_168 {a0 : Nat} {i1 : Int32} {i2 : Int32} {i3 : Int32} {w : xW} {r : Option Value × xW} (h : xGo 168 0 [some (.ref a0), some (.int i1), some (.int i2), some (.int i3)] [] w r) : xCall 168 [.ref a0, .int i1, .int i2, .int i3] w r := by
  unfold xCall
  rw [ml_168]
  exact h
theorem E_169 {a0 : Nat} {i1 : Int32} {i2 : Int32} {i3 : Int32} {i4 : Int32} {w : xW} {r : Option Value × xW} (h : xGo 169 0 [some (.ref a0), some (.int i1), some (.int i2), some (.int i3), some (.int i4), none, none, none] [] w r) : xCall 169 [.ref a0, .int i1, .int i2, .int i3, .int i4] w r := by
  unfold xCall
  rw [ml_169]
  exact h
theorem ml_170 : xml 170 = 4 := by decide +kernel
theorem E_170 {a0 : Nat} {i1 : Int32} {i2 : Int32} {i3 : Int32} {w : xW} {r : Option Value × xW} (h : xGo 170 0 [some (.ref a0), some (.int i1), some (.int i2), some (.int i3)] [] w r) : xCall 170 [.ref a0, .int i1, .int i2, .int i3] w r := by
  unfold xCall
  rw [ml_170]
  exact h
theorem E_171 {a0 : Nat} {i1 : Int32} {i2 : Int32} {w : xW} {r : Option Value × xW} (h : xGo 171 0 [some (.ref a0), some (.int i1), some (.int i2), none] [] w r) : xCall 171 [.ref a0, .int i1, .int i2] w r := by
  unfold xCall
  rw [ml_171]
  exact h
theorem E_172 {a0 : Nat} {i1 : Int32} {l2 : Int64} {i4 : Int32} {w : xW} {r : Option Value × xW} (h : xGo 172 0 [some (.ref a0), some (.int i1), some (.long l2), none, some (.int i4), none, none, none] [] w r) : xCall 172 [.ref a0, .int i1, .long l2, .int i4] w r := by
  unfold xCall
  rw [ml_172]
  exact h
theorem E_173 {a0 : Nat} {i1 : Int32} {i2 : Int32} {w : xW} {r : Option Value × xW} (h : xGo 173 0 [some (.ref a0), some (.int i1), some (.int i2), none, none] [] w r) : xCall 173 [.ref a0, .int i1, .int i2] w r := by
  unfold xCall
  rw [ml_173]
  exact h
theorem ml_174 : xml 174 = 3 := by decide +kernel
theorem E_174 {a0 : Nat} {i1 : Int32} {i2 : Int32} {w : xW} {r : Option Value × xW} (h : xGo 174 0 [some (.ref a0), some (.int i1), some (.int i2)] [] w r) : xCall 174 [.ref a0, .int i1, .int i2] w r := by
  unfold xCall
  rw [ml_174]
  exact h
theorem ml_175 : xml 175 = 2 := by decide +kernel
theorem E_175 {a0 : Nat} {i1 : Int32} {w : xW} {r : Option Value × xW} (h : xGo 175 0 [some (.ref a0), some (.int i1)] [] w r) : xCall 175 [.ref a0, .int i1] w r := by
  unfold xCall
  rw [ml_175]
  exact h
theorem ml_176 : xml 176 = 3 := by decide +kernel
theorem E_176 {a0 : Nat} {i1 : Int32} {i2 : Int32} {w : xW} {r : Option Value × xW} (h : xGo 176 0 [some (.ref a0), some (.int i1), some (.int i2)] [] w r) : xCall 176 [.ref a0, .int i1, .int i2] w r := by
  unfold xCall
  rw [ml_176]
  exact h
theorem E_177 {a0 : Nat} {i1 : Int32} {w : xW} {r : Option Value × xW} (h : xGo 177 0 [some (.ref a0), some (.int i1), none, none] [] w r) : xCall 177 [.ref a0, .int i1] w r := by
  unfold xCall
  rw [ml_177]
  exact h
theorem E_178 {i0 : Int32} {l1 : Int64} {l3 : Int64} {w : xW} {r : Option Value × xW} (h : xGo 178 0 [some (.int i0), some (.long l1), none, some (.long l3), none] [] w r) : xCall 178 [.int i0, .long l1, .long l3] w r := by
  unfold xCall
  rw [ml_178]
  exact h
theorem E_179 {a0 : Nat} {i1 : Int32} {i2 : Int32} {w : xW} {r : Option Value × xW} (h : xGo 179 0 [some (.ref a0), some (.int i1), some (.int i2), none, none] [] w r) : xCall 179 [.ref a0, .int i1, .int i2] w r := by
  unfold xCall
  rw [ml_179]
  exact h
theorem E_180 {a0 : Nat} {i1 : Int32} {w : xW} {r : Option Value × xW} (h : xGo 180 0 [some (.ref a0), some (.int i1), none, none] [] w r) : xCall 180 [.ref a0, .int i1] w r := by
  unfold xCall
  rw [ml_180]
  exact h
theorem E_181 {a0 : Nat} {i1 : Int32} {w : xW} {r : Option Value × xW} (h : xGo 181 0 [some (.ref a0), some (.int i1), none, none] [] w r) : xCall 181 [.ref a0, .int i1] w r := by
  unfold xCall
  rw [ml_181]
  exact h
theorem E_182 {a0 : Nat} {i1 : Int32} {w : xW} {r : Option Value × xW} (h : xGo 182 0 [some (.ref a0), some (.int i1), none, none] [] w r) : xCall 182 [.ref a0, .int i1] w r := by
  unfold xCall
  rw [ml_182]
  exact h
theorem E_183 {l0 : Int64} {w : xW} {r : Option Value × xW} (h : xGo 183 0 [some (.long l0), none] [] w r) : xCall 183 [.long l0] w r := by
  unfold xCall
  rw [ml_183]
  exact h
theorem ml_184 : xml 184 = 2 := by decide +kernel
theorem E_184 {a0 : Nat} {i1 : Int32} {w : xW} {r : Option Value × xW} (h : xGo 184 0 [some (.ref a0), some (.int i1)] [] w r) : xCall 184 [.ref a0, .int i1] w r := by
  unfold xCall
  rw [ml_184]
  exact h
theorem E_185 {a0 : Nat} {w : xW} {r : Option Value × xW} (h : xGo 185 0 [some (.ref a0), none, none] [] w r) : xCall 185 [.ref a0] w r := by
  unfold xCall
  rw [ml_185]
  exact h
theorem E_186 {a0 : Nat} {w : xW} {r : Option Value × xW} (h : xGo 186 0 [some (.ref a0), none, none] [] w r) : xCall 186 [.ref a0] w r := by
  unfold xCall
  rw [ml_186]
  exact h
theorem ml_187 : xml 187 = 3 := by decide +kernel
theorem E_187 {a0 : Nat} {i1 : Int32} {i2 : Int32} {w : xW} {r : Option Value × xW} (h : xGo 187 0 [some (.ref a0), some (.int i1), some (.int i2)] [] w r) : xCall 187 [.ref a0, .int i1, .int i2] w r := by
  unfold xCall
  rw [ml_187]
  exact h
theorem E_188 {a0 : Nat} {w : xW} {r : Option Value × xW} (h : xGo 188 0 [some (.ref a0), none, none, none] [] w r) : xCall 188 [.ref a0] w r := by
  unfold xCall
  rw [ml_188]
  exact h
theorem E_189 {a0 : Nat} {i1 : Int32} {l2 : Int64} {l4 : Int64} {l6 : Int64} {w : xW} {r : Option Value × xW} (h : xGo 189 0 [some (.ref a0), some (.int i1), some (.long l2), none, some (.long l4), none, some (.long l6), none] [] w r) : xCall 189 [.ref a0, .int i1, .long l2, .long l4, .long l6] w r := by
  unfold xCall
  rw [ml_189]
  exact h
theorem E_190 {a0 : Nat} {a1 : Nat} {i2 : Int32} {i3 : Int32} {w : xW} {r : Option Value × xW} (h : xGo 190 0 [some (.ref a0), some (.ref a1), some (.int i2), some (.int i3), none] [] w r) : xCall 190 [.ref a0, .ref a1, .int i2, .int i3] w r := by
  unfold xCall
  rw [ml_190]
  exact h
theorem E_191 {a0 : Nat} {a1 : Nat} {l2 : Int64} {i4 : Int32} {w : xW} {r : Option Value × xW} (h : xGo 191 0 [some (.ref a0), some (.ref a1), some (.long l2), none, some (.int i4), none, none] [] w r) : xCall 191 [.ref a0, .ref a1, .long l2, .int i4] w r := by
  unfold xCall
  rw [ml_191]
  exact h
theorem E_192 {a0 : Nat} {a1 : Nat} {i2 : Int32} {l3 : Int64} {l5 : Int64} {i7 : Int32} {w : xW} {r : Option Value × xW} (h : xGo 192 0 [some (.ref a0), some (.ref a1), some (.int i2), some (.long l3), none, some (.long l5), none, some (.int i7), none, none, none, none, none, none] [] w r) : xCall 192 [.ref a0, .ref a1, .int i2, .long l3, .long l5, .int i7] w r := by
  unfold xCall
  rw [ml_192]
  exact h
theorem E_193 {l0 : Int64} {l2 : Int64} {w : xW} {r : Option Value × xW} (h : xGo 193 0 [some (.long l0), none, some (.long l2), none, none, none] [] w r) : xCall 193 [.long l0, .long l2] w r := by
  unfold xCall
  rw [ml_193]
  exact h
theorem E_194 {a0 : Nat} {a1 : Nat} {i2 : Int32} {l3 : Int64} {l5 : Int64} {l7 : Int64} {w : xW} {r : Option Value × xW} (h : xGo 194 0 [some (.ref a0), some (.ref a1), some (.int i2), some (.long l3), none, some (.long l5), none, some (.long l7), none, none, none] [] w r) : xCall 194 [.ref a0, .ref a1, .int i2, .long l3, .long l5, .long l7] w r := by
  unfold xCall
  rw [ml_194]
  exact h
theorem E_195 {l0 : Int64} {l2 : Int64} {w : xW} {r : Option Value × xW} (h : xGo 195 0 [some (.long l0), none, some (.long l2), none, none, none, none, none, none, none] [] w r) : xCall 195 [.long l0, .long l2] w r := by
  unfold xCall
  rw [ml_195]
  exact h
theorem ml_196 : xml 196 = 1 := by decide +kernel
theorem E_196 {a0 : Nat} {w : xW} {r : Option Value × xW} (h : xGo 196 0 [some (.ref a0)] [] w r) : xCall 196 [.ref a0] w r := by
  unfold xCall
  rw [ml_196]
  exact h
theorem E_197 {a0 : Nat} {i1 : Int32} {i2 : Int32} {w : xW} {r : Option Value × xW} (h : xGo 197 0 [some (.ref a0), some (.int i1), some (.int i2), none] [] w r) : xCall 197 [.ref a0, .int i1, .int i2] w r := by
  unfold xCall
  rw [ml_197]
  exact h
theorem E_198 {a0 : Nat} {i1 : Int32} {w : xW} {r : Option Value × xW} (h : xGo 198 0 [some (.ref a0), some (.int i1)] [] w r) : xCall 198 [.ref a0, .int i1] w r := by
  unfold xCall
  rw [ml_198]
  exact h
theorem E_199 {i0 : Int32} {i1 : Int32} {i2 : Int32} {w : xW} {r : Option Value × xW} (h : xGo 199 0 [some (.int i0), some (.int i1), some (.int i2)] [] w r) : xCall 199 [.int i0, .int i1, .int i2] w r := by
  unfold xCall
  rw [ml_199]
  exact h
theorem E_200 {a0 : Nat} {i1 : Int32} {w : xW} {r : Option Value × xW} (h : xGo 200 0 [some (.ref a0), some (.int i1), none] [] w r) : xCall 200 [.ref a0, .int i1] w r := by
  unfold xCall
  rw [ml_200]
  exact h
theorem E_201 {a0 : Nat} {i1 : Int32} {w : xW} {r : Option Value × xW} (h : xGo 201 0 [some (.ref a0), some (.int i1)] [] w r) : xCall 201 [.ref a0, .int i1] w r := by
  unfold xCall
  rw [ml_201]
  exact h
theorem E_202 {a0 : Nat} {i1 : Int32} {i2 : Int32} {w : xW} {r : Option Value × xW} (h : xGo 202 0 [some (.ref a0), some (.int i1), some (.int i2)] [] w r) : xCall 202 [.ref a0, .int i1, .int i2] w r := by
  unfold xCall
  rw [ml_202]
  exact h
theorem E_203 {a0 : Nat} {i1 : Int32} {i2 : Int32} {w : xW} {r : Option Value × xW} (h : xGo 203 0 [some (.ref a0), some (.int i1), some (.int i2), none] [] w r) : xCall 203 [.ref a0, .int i1, .int i2] w r := by
  unfold xCall
  rw [ml_203]
  exact h
theorem ml_204 : xml 204 = 3 := by decide +kernel
theorem E_204 {a0 : Nat} {i1 : Int32} {i2 : Int32} {w : xW} {r : Option Value × xW} (h : xGo 204 0 [some (.ref a0), some (.int i1), some (.int i2)] [] w r) : xCall 204 [.ref a0, .int i1, .int i2] w r := by
  unfold xCall
  rw [ml_204]
  exact h
theorem E_205 {a0 : Nat} {i1 : Int32} {i2 : Int32} {w : xW} {r : Option Value × xW} (h : xGo 205 0 [some (.ref a0), some (.int i1), some (.int i2), none, none, none, none, none, none] [] w r) : xCall 205 [.ref a0, .int i1, .int i2] w r := by
  unfold xCall
  rw [ml_205]
  exact h
theorem E_206 {a0 : Nat} {i1 : Int32} {w : xW} {r : Option Value × xW} (h : xGo 206 0 [some (.ref a0), some (.int i1)] [] w r) : xCall 206 [.ref a0, .int i1] w r := by
  unfold xCall
  rw [ml_206]
  exact h
theorem E_207 {a0 : Nat} {i1 : Int32} {w : xW} {r : Option Value × xW} (h : xGo 207 0 [some (.ref a0), some (.int i1), none, none, none, none, none] [] w r) : xCall 207 [.ref a0, .int i1] w r := by
  unfold xCall
  rw [ml_207]
  exact h
theorem E_208 {a0 : Nat} {i1 : Int32} {w : xW} {r : Option Value × xW} (h : xGo 208 0 [some (.ref a0), some (.int i1), none, none, none] [] w r) : xCall 208 [.ref a0, .int i1] w r := by
  unfold xCall
  rw [ml_208]
  exact h
theorem E_209 {a0 : Nat} {i1 : Int32} {w : xW} {r : Option Value × xW} (h : xGo 209 0 [some (.ref a0), some (.int i1)] [] w r) : xCall 209 [.ref a0, .int i1] w r := by
  unfold xCall
  rw [ml_209]
  exact h
theorem E_210 {i0 : Int32} {w : xW} {r : Option Value × xW} (h : xGo 210 0 [some (.int i0)] [] w r) : xCall 210 [.int i0] w r := by
  unfold xCall
  rw [ml_210]
  exact h
theorem E_211 {a0 : Nat} {i1 : Int32} {w : xW} {r : Option Value × xW} (h : xGo 211 0 [some (.ref a0), some (.int i1)] [] w r) : xCall 211 [.ref a0, .int i1] w r := by
  unfold xCall
  rw [ml_211]
  exact h
theorem E_212 {a0 : Nat} {i1 : Int32} {w : xW} {r : Option Value × xW} (h : xGo 212 0 [some (.ref a0), some (.int i1), none, none] [] w r) : xCall 212 [.ref a0, .int i1] w r := by
  unfold xCall
  rw [ml_212]
  exact h
theorem E_213 {a0 : Nat} {i1 : Int32} {i2 : Int32} {i3 : Int32} {w : xW} {r : Option Value × xW} (h : xGo 213 0 [some (.ref a0), some (.int i1), some (.int i2), some (.int i3), none, none] [] w r) : xCall 213 [.ref a0, .int i1, .int i2, .int i3] w r := by
  unfold xCall
  rw [ml_213]
  exact h
theorem E_214 {a0 : Nat} {a1 : Nat} {i2 : Int32} {i3 : Int32} {w : xW} {r : Option Value × xW} (h : xGo 214 0 [some (.ref a0), some (.ref a1), some (.int i2), some (.int i3), none] [] w r) : xCall 214 [.ref a0, .ref a1, .int i2, .int i3] w r := by
  unfold xCall
  rw [ml_214]
  exact h
theorem E_215 {l0 : Int64} {i2 : Int32} {w : xW} {r : Option Value × xW} (h : xGo 215 0 [some (.long l0), none, some (.int i2), none, none] [] w r) : xCall 215 [.long l0, .int i2] w r := by
  unfold xCall
  rw [ml_215]
  exact h
theorem E_216 {i0 : Int32} {i1 : Int32} {i2 : Int32} {w : xW} {r : Option Value × xW} (h : xGo 216 0 [some (.int i0), some (.int i1), some (.int i2), none, none, none] [] w r) : xCall 216 [.int i0, .int i1, .int i2] w r := by
  unfold xCall
  rw [ml_216]
  exact h
theorem E_217 {a0 : Nat} {i1 : Int32} {w : xW} {r : Option Value × xW} (h : xGo 217 0 [some (.ref a0), some (.int i1), none] [] w r) : xCall 217 [.ref a0, .int i1] w r := by
  unfold xCall
  rw [ml_217]
  exact h
theorem ml_218 : xml 218 = 3 := by decide +kernel
theorem E_218 {a0 : Nat} {i1 : Int32} {i2 : Int32} {w : xW} {r : Option Value × xW} (h : xGo 218 0 [some (.ref a0), some (.int i1), some (.int i2)] [] w r) : xCall 218 [.ref a0, .int i1, .int i2] w r := by
  unfold xCall
  rw [ml_218]
  exact h
theorem E_219 {a0 : Nat} {w : xW} {r : Option Value × xW} (h : xGo 219 0 [some (.ref a0)] [] w r) : xCall 219 [.ref a0] w r := by
  unfold xCall
  rw [ml_219]
  exact h
theorem ml_220 : xml 220 = 2 := by decide +kernel
theorem E_220 {a0 : Nat} {i1 : Int32} {w : xW} {r : Option Value × xW} (h : xGo 220 0 [some (.ref a0), some (.int i1)] [] w r) : xCall 220 [.ref a0, .int i1] w r := by
  unfold xCall
  rw [ml_220]
  exact h
theorem ml_221 : xml 221 = 2 := by decide +kernel
theorem E_221 {a0 : Nat} {i1 : Int32} {w : xW} {r : Option Value × xW} (h : xGo 221 0 [some (.ref a0), some (.int i1)] [] w r) : xCall 221 [.ref a0, .int i1] w r := by
  unfold xCall
  rw [ml_221]
  exact h
theorem ml_222 : xml 222 = 2 := by decide +kernel
theorem E_222 {a0 : Nat} {i1 : Int32} {w : xW} {r : Option Value × xW} (h : xGo 222 0 [some (.ref a0), some (.int i1)] [] w r) : xCall 222 [.ref a0, .int i1] w r := by
  unfold xCall
  rw [ml_222]
  exact h
theorem E_223 {a0 : Nat} {i1 : Int32} {i2 : Int32} {w : xW} {r : Option Value × xW} (h : xGo 223 0 [some (.ref a0), some (.int i1), some (.int i2), none, none] [] w r) : xCall 223 [.ref a0, .int i1, .int i2] w r := by
  unfold xCall
  rw [ml_223]
  exact h
theorem E_224 {a0 : Nat} {i1 : Int32} {w : xW} {r : Option Value × xW} (h : xGo 224 0 [some (.ref a0), some (.int i1), none, none, none, none, none] [] w r) : xCall 224 [.ref a0, .int i1] w r := by
  unfold xCall
  rw [ml_224]
  exact h
theorem E_225 {a0 : Nat} {i1 : Int32} {i2 : Int32} {i3 : Int32} {w : xW} {r : Option Value × xW} (h : xGo 225 0 [some (.ref a0), some (.int i1), some (.int i2), some (.int i3), none, none, none, none, none, none] [] w r) : xCall 225 [.ref a0, .int i1, .int i2, .int i3] w r := by
  unfold xCall
  rw [ml_225]
  exact h
theorem E_226 {a0 : Nat} {i1 : Int32} {w : xW} {r : Option Value × xW} (h : xGo 226 0 [some (.ref a0), some (.int i1), none] [] w r) : xCall 226 [.ref a0, .int i1] w r := by
  unfold xCall
  rw [ml_226]
  exact h
theorem E_227 {a0 : Nat} {i1 : Int32} {i2 : Int32} {w : xW} {r : Option Value × xW} (h : xGo 227 0 [some (.ref a0), some (.int i1), some (.int i2), none] [] w r) : xCall 227 [.ref a0, .int i1, .int i2] w r := by
  unfold xCall
  rw [ml_227]
  exact h
theorem E_228 {a0 : Nat} {i1 : Int32} {w : xW} {r : Option Value × xW} (h : xGo 228 0 [some (.ref a0), some (.int i1), none] [] w r) : xCall 228 [.ref a0, .int i1] w r := by
  unfold xCall
  rw [ml_228]
  exact h
theorem E_229 {a0 : Nat} {i1 : Int32} {i2 : Int32} {i3 : Int32} {w : xW} {r : Option Value × xW} (h : xGo 229 0 [some (.ref a0), some (.int i1), some (.int i2), some (.int i3), none, none] [] w r) : xCall 229 [.ref a0, .int i1, .int i2, .int i3] w r := by
  unfold xCall
  rw [ml_229]
  exact h
theorem E_230 {a0 : Nat} {i1 : Int32} {i2 : Int32} {w : xW} {r : Option Value × xW} (h : xGo 230 0 [some (.ref a0), some (.int i1), some (.int i2), none] [] w r) : xCall 230 [.ref a0, .int i1, .int i2] w r := by
  unfold xCall
  rw [ml_230]
  exact h
theorem E_231 {a0 : Nat} {i1 : Int32} {i2 : Int32} {w : xW} {r : Option Value × xW} (h : xGo 231 0 [some (.ref a0), some (.int i1), some (.int i2), none, none] [] w r) : xCall 231 [.ref a0, .int i1, .int i2] w r := by
  unfold xCall
  rw [ml_231]
  exact h
theorem ml_232 : xml 232 = 3 := by decide +kernel
theorem E_232 {a0 : Nat} {i1 : Int32} {i2 : Int32} {w : xW} {r : Option Value × xW} (h : xGo 232 0 [some (.ref a0), some (.int i1), some (.int i2)] [] w r) : xCall 232 [.ref a0, .int i1, .int i2] w r := by
  unfold xCall
  rw [ml_232]
  exact h
theorem E_233 {a0 : Nat} {i1 : Int32} {w : xW} {r : Option Value × xW} (h : xGo 233 0 [some (.ref a0), some (.int i1)] [] w r) : xCall 233 [.ref a0, .int i1] w r := by
  unfold xCall
  rw [ml_233]
  exact h
theorem E_234 {a0 : Nat} {i1 : Int32} {i2 : Int32} {w : xW} {r : Option Value × xW} (h : xGo 234 0 [some (.ref a0), some (.int i1), some (.int i2), none, none] [] w r) : xCall 234 [.ref a0, .int i1, .int i2] w r := by
  unfold xCall
  rw [ml_234]
  exact h
theorem E_235 {l0 : Int64} {i2 : Int32} {w : xW} {r : Option Value × xW} (h : xGo 235 0 [some (.long l0), none, some (.int i2), none, none, none] [] w r) : xCall 235 [.long l0, .int i2] w r := by
  unfold xCall
  rw [ml_235]
  exact h
theorem E_236 {a0 : Nat} {i1 : Int32} {i2 : Int32} {w : xW} {r : Option Value × xW} (h : xGo 236 0 [some (.ref a0), some (.int i1), some (.int i2), none, none, none, none, none, none, none, none, none, none, none, none, none] [] w r) : xCall 236 [.ref a0, .int i1, .int i2] w r := by
  unfold xCall
  rw [ml_236]
  exact h
theorem ml_237 : xml 237 = 4 := by decide +kernel
theorem E_237 {a0 : Nat} {i1 : Int32} {i2 : Int32} {i3 : Int32} {w : xW} {r : Option Value × xW} (h : xGo 237 0 [some (.ref a0), some (.int i1), some (.int i2), some (.int i3)] [] w r) : xCall 237 [.ref a0, .int i1, .int i2, .int i3] w r := by
  unfold xCall
  rw [ml_237]
  exact h
theorem E_238 {a0 : Nat} {i1 : Int32} {i2 : Int32} {i3 : Int32} {w : xW} {r : Option Value × xW} (h : xGo 238 0 [some (.ref a0), some (.int i1), some (.int i2), some (.int i3), none, none, none, none, none, none] [] w r) : xCall 238 [.ref a0, .int i1, .int i2, .int i3] w r := by
  unfold xCall
  rw [ml_238]
  exact h
theorem E_239 {a0 : Nat} {i1 : Int32} {i2 : Int32} {w : xW} {r : Option Value × xW} (h : xGo 239 0 [some (.ref a0), some (.int i1), some (.int i2), none, none, none, none, none, none] [] w r) : xCall 239 [.ref a0, .int i1, .int i2] w r := by
  unfold xCall
  rw [ml_239]
  exact h
theorem E_240 {l0 : Int64} {i2 : Int32} {l3 : Int64} {w : xW} {r : Option Value × xW} (h : xGo 240 0 [some (.long l0), none, some (.int i2), some (.long l3), none, none, none, none, none, none] [] w r) : xCall 240 [.long l0, .int i2, .long l3] w r := by
  unfold xCall
  rw [ml_240]
  exact h
theorem ml_241 : xml 241 = 2 := by decide +kernel
theorem E_241 {a0 : Nat} {i1 : Int32} {w : xW} {r : Option Value × xW} (h : xGo 241 0 [some (.ref a0), some (.int i1)] [] w r) : xCall 241 [.ref a0, .int i1] w r := by
  unfold xCall
  rw [ml_241]
  exact h
theorem E_242 {a0 : Nat} {i1 : Int32} {w : xW} {r : Option Value × xW} (h : xGo 242 0 [some (.ref a0), some (.int i1), none, none, none] [] w r) : xCall 242 [.ref a0, .int i1] w r := by
  unfold xCall
  rw [ml_242]
  exact h
theorem E_243 {a0 : Nat} {i1 : Int32} {w : xW} {r : Option Value × xW} (h : xGo 243 0 [some (.ref a0), some (.int i1), none, none, none, none] [] w r) : xCall 243 [.ref a0, .int i1] w r := by
  unfold xCall
  rw [ml_243]
  exact h
theorem E_244 {a0 : Nat} {i1 : Int32} {w : xW} {r : Option Value × xW} (h : xGo 244 0 [some (.ref a0), some (.int i1), none, none, none, none, none, none, none, none] [] w r) : xCall 244 [.ref a0, .int i1] w r := by
  unfold xCall
  rw [ml_244]
  exact h
theorem E_245 {a0 : Nat} {i1 : Int32} {w : xW} {r : Option Value × xW} (h : xGo 245 0 [some (.ref a0), some (.int i1), none] [] w r) : xCall 245 [.ref a0, .int i1] w r := by
  unfold xCall
  rw [ml_245]
  exact h
theorem E_246 {a0 : Nat} {i1 : Int32} {i2 : Int32} {i3 : Int32} {w : xW} {r : Option Value × xW} (h : xGo 246 0 [some (.ref a0), some (.int i1), some (.int i2), some (.int i3), none, none, none] [] w r) : xCall 246 [.ref a0, .int i1, .int i2, .int i3] w r := by
  unfold xCall
  rw [ml_246]
  exact h
theorem E_247 {a0 : Nat} {i1 : Int32} {w : xW} {r : Option Value × xW} (h : xGo 247 0 [some (.ref a0), some (.int i1)] [] w r) : xCall 247 [.ref a0, .int i1] w r := by
  unfold xCall
  rw [ml_247]
  exact h
theorem ml_248 : xml 248 = 3 := by decide +kernel
theorem E_248 {a0 : Nat} {i1 : Int32} {i2 : Int32} {w : xW} {r : Option Value × xW} (h : xGo 248 0 [some (.ref a0), some (.int i1), some (.int i2)] [] w r) : xCall 248 [.ref a0, .int i1, .int i2] w r := by
  unfold xCall
  rw [ml_248]
  exact h
theorem E_249 {a0 : Nat} {i1 : Int32} {w : xW} {r : Option Value × xW} (h : xGo 249 0 [some (.ref a0), some (.int i1), none, none, none] [] w r) : xCall 249 [.ref a0, .int i1] w r := by
  unfold xCall
  rw [ml_249]
  exact h
theorem ml_250 : xml 250 = 4 := by decide +kernel
theorem E_250 {a0 : Nat} {i1 : Int32} {i2 : Int32} {i3 : Int32} {w : xW} {r : Option Value × xW} (h : xGo 250 0 [some (.ref a0), some (.int i1), some (.int i2), some (.int i3)] [] w r) : xCall 250 [.ref a0, .int i1, .int i2, .int i3] w r := by
  unfold xCall
  rw [ml_250]
  exact h
theorem E_251 {a0 : Nat} {i1 : Int32} {i2 : Int32} {w : xW} {r : Option Value × xW} (h : xGo 251 0 [some (.ref a0), some (.int i1), some (.int i2), none] [] w r) : xCall 251 [.ref a0, .int i1, .int i2] w r := by
  unfold xCall
  rw [ml_251]
  exact h
theorem E_252 {a0 : Nat} {i1 : Int32} {w : xW} {r : Option Value × xW} (h : xGo 252 0 [some (.ref a0), some (.int i1), none] [] w r) : xCall 252 [.ref a0, .int i1] w r := by
  unfold xCall
  rw [ml_252]
  exact h
theorem E_253 {a0 : Nat} {i1 : Int32} {w : xW} {r : Option Value × xW} (h : xGo 253 0 [some (.ref a0), some (.int i1), none, none, none] [] w r) : xCall 253 [.ref a0, .int i1] w r := by
  unfold xCall
  rw [ml_253]
  exact h
theorem E_254 {a0 : Nat} {i1 : Int32} {w : xW} {r : Option Value × xW} (h : xGo 254 0 [some (.ref a0), some (.int i1), none, none] [] w r) : xCall 254 [.ref a0, .int i1] w r := by
  unfold xCall
  rw [ml_254]
  exact h
theorem E_255 {i0 : Int32} {i1 : Int32} {l2 : Int64} {w : xW} {r : Option Value × xW} (h : xGo 255 0 [some (.int i0), some (.int i1), some (.long l2), none, none, none, none] [] w r) : xCall 255 [.int i0, .int i1, .long l2] w r := by
  unfold xCall
  rw [ml_255]
  exact h
theorem E_256 {a0 : Nat} {i1 : Int32} {i2 : Int32} {w : xW} {r : Option Value × xW} (h : xGo 256 0 [some (.ref a0), some (.int i1), some (.int i2), none, none] [] w r) : xCall 256 [.ref a0, .int i1, .int i2] w r := by
  unfold xCall
  rw [ml_256]
  exact h
theorem ml_257 : xml 257 = 2 := by decide +kernel
theorem E_257 {a0 : Nat} {i1 : Int32} {w : xW} {r : Option Value × xW} (h : xGo 257 0 [some (.ref a0), some (.int i1)] [] w r) : xCall 257 [.ref a0, .int i1] w r := by
  unfold xCall
  rw [ml_257]
  exact h
theorem E_258 {a0 : Nat} {i1 : Int32} {w : xW} {r : Option Value × xW} (h : xGo 258 0 [some (.ref a0), some (.int i1), none, none] [] w r) : xCall 258 [.ref a0, .int i1] w r := by
  unfold xCall
  rw [ml_258]
  exact h
theorem E_259 {a0 : Nat} {i1 : Int32} {i2 : Int32} {w : xW} {r : Option Value × xW} (h : xGo 259 0 [some (.ref a0), some (.int i1), some (.int i2), none, none, none] [] w r) : xCall 259 [.ref a0, .int i1, .int i2] w r := by
  unfold xCall
  rw [ml_259]
  exact h
theorem E_260 {a0 : Nat} {i1 : Int32} {w : xW} {r : Option Value × xW} (h : xGo 260 0 [some (.ref a0), some (.int i1), none, none, none] [] w r) : xCall 260 [.ref a0, .int i1] w r := by
  unfold xCall
  rw [ml_260]
  exact h
theorem E_261 {i0 : Int32} {i1 : Int32} {w : xW} {r : Option Value × xW} (h : xGo 261 0 [some (.int i0), some (.int i1), none, none] [] w r) : xCall 261 [.int i0, .int i1] w r := by
  unfold xCall
  rw [ml_261]
  exact h
theorem ml_262 : xml 262 = 3 := by decide +kernel
theorem E_262 {a0 : Nat} {i1 : Int32} {i2 : Int32} {w : xW} {r : Option Value × xW} (h : xGo 262 0 [some (.ref a0), some (.int i1), some (.int i2)] [] w r) : xCall 262 [.ref a0, .int i1, .int i2] w r := by
  unfold xCall
  rw [ml_262]
  exact h
theorem E_263 {a0 : Nat} {i1 : Int32} {w : xW} {r : Option Value × xW} (h : xGo 263 0 [some (.ref a0), some (.int i1), none, none, none, none, none] [] w r) : xCall 263 [.ref a0, .int i1] w r := by
  unfold xCall
  rw [ml_263]
  exact h
theorem E_264 {a0 : Nat} {i1 : Int32} {w : xW} {r : Option Value × xW} (h : xGo 264 0 [some (.ref a0), some (.int i1), none, none, none] [] w r) : xCall 264 [.ref a0, .int i1] w r := by
  unfold xCall
  rw [ml_264]
  exact h
theorem E_265 {a0 : Nat} {i1 : Int32} {w : xW} {r : Option Value × xW} (h : xGo 265 0 [some (.ref a0), some (.int i1), none, none] [] w r) : xCall 265 [.ref a0, .int i1] w r := by
  unfold xCall
  rw [ml_265]
  exact h
theorem E_266 {i0 : Int32} {i1 : Int32} {w : xW} {r : Option Value × xW} (h : xGo 266 0 [some (.int i0), some (.int i1), none] [] w r) : xCall 266 [.int i0, .int i1] w r := by
  unfold xCall
  rw [ml_266]
  exact h
theorem E_267 {a0 : Nat} {i1 : Int32} {i2 : Int32} {i3 : Int32} {w : xW} {r : Option Value × xW} (h : xGo 267 0 [some (.ref a0), some (.int i1), some (.int i2), some (.int i3), none, none, none, none, none, none] [] w r) : xCall 267 [.ref a0, .int i1, .int i2, .int i3] w r := by
  unfold xCall
  rw [ml_267]
  exact h
theorem E_268 {l0 : Int64} {i2 : Int32} {w : xW} {r : Option Value × xW} (h : xGo 268 0 [some (.long l0), none, some (.int i2), none, none, none] [] w r) : xCall 268 [.long l0, .int i2] w r := by
  unfold xCall
  rw [ml_268]
  exact h
theorem E_269 {a0 : Nat} {i1 : Int32} {i2 : Int32} {i3 : Int32} {w : xW} {r : Option Value × xW} (h : xGo 269 0 [some (.ref a0), some (.int i1), some (.int i2), some (.int i3), none, none, none] [] w r) : xCall 269 [.ref a0, .int i1, .int i2, .int i3] w r := by
  unfold xCall
  rw [ml_269]
  exact h
theorem E_270 {a0 : Nat} {i1 : Int32} {w : xW} {r : Option Value × xW} (h : xGo 270 0 [some (.ref a0), some (.int i1), none, none] [] w r) : xCall 270 [.ref a0, .int i1] w r := by
  unfold xCall
  rw [ml_270]
  exact h
theorem ml_271 : xml 271 = 4 := by decide +kernel
theorem E_271 {a0 : Nat} {i1 : Int32} {i2 : Int32} {i3 : Int32} {w : xW} {r : Option Value × xW} (h : xGo 271 0 [some (.ref a0), some (.int i1), some (.int i2), some (.int i3)] [] w r) : xCall 271 [.ref a0, .int i1, .int i2, .int i3] w r := by
  unfold xCall
  rw [ml_271]
  exact h
theorem E_272 {a0 : Nat} {i1 : Int32} {w : xW} {r : Option Value × xW} (h : xGo 272 0 [some (.ref a0), some (.int i1), none, none, none, none, none, none, none, none, none, none, none, none, none, none] [] w r) : xCall 272 [.ref a0, .int i1] w r := by
  unfold xCall
  rw [ml_272]
  exact h
theorem E_273 {a0 : Nat} {i1 : Int32} {l2 : Int64} {l4 : Int64} {w : xW} {r : Option Value × xW} (h : xGo 273 0 [some (.ref a0), some (.int i1), some (.long l2), none, some (.long l4), none, none, none] [] w r) : xCall 273 [.ref a0, .int i1, .long l2, .long l4] w r := by
  unfold xCall
  rw [ml_273]
  exact h
theorem ml_274 : xml 274 = 3 := by decide +kernel
theorem E_274 {a0 : Nat} {i1 : Int32} {i2 : Int32} {w : xW} {r : Option Value × xW} (h : xGo 274 0 [some (.ref a0), some (.int i1), some (.int i2)] [] w r) : xCall 274 [.ref a0, .int i1, .int i2] w r := by
  unfold xCall
  rw [ml_274]
  exact h
theorem E_275 {a0 : Nat} {i1 : Int32} {i2 : Int32} {w : xW} {r : Option Value × xW} (h : xGo 275 0 [some (.ref a0), some (.int i1), some (.int i2), none, none, none] [] w r) : xCall 275 [.ref a0, .int i1, .int i2] w r := by
  unfold xCall
  rw [ml_275]
  exact h
theorem E_276 {l0 : Int64} {w : xW} {r : Option Value × xW} (h : xGo 276 0 [some (.long l0), none, none, none] [] w r) : xCall 276 [.long l0] w r := by
  unfold xCall
  rw [ml_276]
  exact h
theorem E_277 {l0 : Int64} {w : xW} {r : Option Value × xW} (h : xGo 277 0 [some (.long l0), none, none, none, none, none, none, none] [] w r) : xCall 277 [.long l0] w r := by
  unfold xCall
  rw [ml_277]
  exact h
theorem E_278 {a0 : Nat} {i1 : Int32} {i2 : Int32} {i3 : Int32} {i4 : Int32} {w : xW} {r : Option Value × xW} (h : xGo 278 0 [some (.ref a0), some (.int i1), some (.int i2), some (.int i3), some (.int i4), none, none, none] [] w r) : xCall 278 [.ref a0, .int i1, .int i2, .int i3, .int i4] w r := by
  unfold xCall
  rw [ml_278]
  exact h
theorem ml_279 : xml 279 = 3 := by decide +kernel
theorem E_279 {a0 : Nat} {i1 : Int32} {i2 : Int32} {w : xW} {r : Option Value × xW} (h : xGo 279 0 [some (.ref a0), some (.int i1), some (.int i2)] [] w r) : xCall 279 [.ref a0, .int i1, .int i2] w r := by
  unfold xCall
  rw [ml_279]
  exact h
theorem E_280 {i0 : Int32} {i1 : Int32} {w : xW} {r : Option Value × xW} (h : xGo 280 0 [some (.int i0), some (.int i1)] [] w r) : xCall 280 [.int i0, .int i1] w r := by
  unfold xCall
  rw [ml_280]
  exact h
theorem E_281 {a0 : Nat} {i1 : Int32} {i2 : Int32} {w : xW} {r : Option Value × xW} (h : xGo 281 0 [some (.ref a0), some (.int i1), some (.int i2), none] [] w r) : xCall 281 [.ref a0, .int i1, .int i2] w r := by
  unfold xCall
  rw [ml_281]
  exact h
theorem E_282 {a0 : Nat} {i1 : Int32} {w : xW} {r : Option Value × xW} (h : xGo 282 0 [some (.ref a0), some (.int i1), none, none] [] w r) : xCall 282 [.ref a0, .int i1] w r := by
  unfold xCall
  rw [ml_282]
  exact h
theorem E_283 {a0 : Nat} {l1 : Int64} {w : xW} {r : Option Value × xW} (h : xGo 283 0 [some (.ref a0), some (.long l1), none, none, none, none, none, none] [] w r) : xCall 283 [.ref a0, .long l1] w r := by
  unfold xCall
  rw [ml_283]
  exact h
theorem E_284 {a0 : Nat} {i1 : Int32} {l2 : Int64} {i4 : Int32} {w : xW} {r : Option Value × xW} (h : xGo 284 0 [some (.ref a0), some (.int i1), some (.long l2), none, some (.int i4), none, none, none, none, none, none, none] [] w r) : xCall 284 [.ref a0, .int i1, .long l2, .int i4] w r := by
  unfold xCall
  rw [ml_284]
  exact h
theorem E_285 {a0 : Nat} {w : xW} {r : Option Value × xW} (h : xGo 285 0 [some (.ref a0), none, none, none, none] [] w r) : xCall 285 [.ref a0] w r := by
  unfold xCall
  rw [ml_285]
  exact h
theorem E_286 {a0 : Nat} {i1 : Int32} {i2 : Int32} {i3 : Int32} {w : xW} {r : Option Value × xW} (h : xGo 286 0 [some (.ref a0), some (.int i1), some (.int i2), some (.int i3), none, none, none, none] [] w r) : xCall 286 [.ref a0, .int i1, .int i2, .int i3] w r := by
  unfold xCall
  rw [ml_286]
  exact h
theorem ml_287 : xml 287 = 4 := by decide +kernel
theorem E_287 {a0 : Nat} {i1 : Int32} {i2 : Int32} {i3 : Int32} {w : xW} {r : Option Value × xW} (h : xGo 287 0 [some (.ref a0), some (.int i1), some (.int i2), some (.int i3)] [] w r) : xCall 287 [.ref a0, .int i1, .int i2, .int i3] w r := by
  unfold xCall
  rw [ml_287]
  exact h
theorem E_288 {a0 : Nat} {i1 : Int32} {w : xW} {r : Option Value × xW} (h : xGo 288 0 [some (.ref a0), some (.int i1), none, none, none, none, none, none, none, none, none, none, none, none, none, none] [] w r) : xCall 288 [.ref a0, .int i1] w r := by
  unfold xCall
  rw [ml_288]
  exact h
theorem E_289 {a0 : Nat} {i1 : Int32} {l2 : Int64} {l4 : Int64} {w : xW} {r : Option Value × xW} (h : xGo 289 0 [some (.ref a0), some (.int i1), some (.long l2), none, some (.long l4), none, none, none] [] w r) : xCall 289 [.ref a0, .int i1, .long l2, .long l4] w r := by
  unfold xCall
  rw [ml_289]
  exact h
theorem E_290 {a0 : Nat} {i1 : Int32} {i2 : Int32} {i3 : Int32} {w : xW} {r : Option Value × xW} (h : xGo 290 0 [some (.ref a0), some (.int i1), some (.int i2), some (.int i3), none, none, none, none, none] [] w r) : xCall 290 [.ref a0, .int i1, .int i2, .int i3] w r := by
  unfold xCall
  rw [ml_290]
  exact h
theorem E_291 {a0 : Nat} {i1 : Int32} {i2 : Int32} {i3 : Int32} {i4 : Int32} {w : xW} {r : Option Value × xW} (h : xGo 291 0 [some (.ref a0), some (.int i1), some (.int i2), some (.int i3), some (.int i4), none, none, none, none, none, none] [] w r) : xCall 291 [.ref a0, .int i1, .int i2, .int i3, .int i4] w r := by
  unfold xCall
  rw [ml_291]
  exact h
theorem E_292 {a0 : Nat} {i1 : Int32} {i2 : Int32} {i3 : Int32} {w : xW} {r : Option Value × xW} (h : xGo 292 0 [some (.ref a0), some (.int i1), some (.int i2), some (.int i3), none] [] w r) : xCall 292 [.ref a0, .int i1, .int i2, .int i3] w r := by
  unfold xCall
  rw [ml_292]
  exact h
theorem E_293 {a0 : Nat} {i1 : Int32} {i2 : Int32} {w : xW} {r : Option Value × xW} (h : xGo 293 0 [some (.ref a0), some (.int i1), some (.int i2), none, none] [] w r) : xCall 293 [.ref a0, .int i1, .int i2] w r := by
  unfold xCall
  rw [ml_293]
  exact h
theorem E_294 {a0 : Nat} {i1 : Int32} {i2 : Int32} {i3 : Int32} {w : xW} {r : Option Value × xW} (h : xGo 294 0 [some (.ref a0), some (.int i1), some (.int i2), some (.int i3), none, none] [] w r) : xCall 294 [.ref a0, .int i1, .int i2, .int i3] w r := by
  unfold xCall
  rw [ml_294]
  exact h
theorem E_295 {a0 : Nat} {i1 : Int32} {i2 : Int32} {w : xW} {r : Option Value × xW} (h : xGo 295 0 [some (.ref a0), some (.int i1), some (.int i2), none, none, none] [] w r) : xCall 295 [.ref a0, .int i1, .int i2] w r := by
  unfold xCall
  rw [ml_295]
  exact h
theorem E_296 {a0 : Nat} {i1 : Int32} {i2 : Int32} {w : xW} {r : Option Value × xW} (h : xGo 296 0 [some (.ref a0), some (.int i1), some (.int i2), none, none, none, none, none, none, none, none, none] [] w r) : xCall 296 [.ref a0, .int i1, .int i2] w r := by
  unfold xCall
  rw [ml_296]
  exact h
theorem E_297 {a0 : Nat} {i1 : Int32} {w : xW} {r : Option Value × xW} (h : xGo 297 0 [some (.ref a0), some (.int i1), none, none, none, none] [] w r) : xCall 297 [.ref a0, .int i1] w r := by
  unfold xCall
  rw [ml_297]
  exact h
theorem ml_298 : xml 298 = 3 := by decide +kernel
theorem E_298 {a0 : Nat} {i1 : Int32} {i2 : Int32} {w : xW} {r : Option Value × xW} (h : xGo 298 0 [some (.ref a0), some (.int i1), some (.int i2)] [] w r) : xCall 298 [.ref a0, .int i1, .int i2] w r := by
  unfold xCall
  rw [ml_298]
  exact h
theorem E_299 {a0 : Nat} {i1 : Int32} {w : xW} {r : Option Value × xW} (h : xGo 299 0 [some (.ref a0), some (.int i1), none, none] [] w r) : xCall 299 [.ref a0, .int i1] w r := by
  unfold xCall
  rw [ml_299]
  exact h
theorem E_300 {i0 : Int32} {l1 : Int64} {l3 : Int64} {w : xW} {r : Option Value × xW} (h : xGo 300 0 [some (.int i0), some (.long l1), none, some (.long l3), none] [] w r) : xCall 300 [.int i0, .long l1, .long l3] w r := by
  unfold xCall
  rw [ml_300]
  exact h
theorem E_301 {a0 : Nat} {i1 : Int32} {i2 : Int32} {w : xW} {r : Option Value × xW} (h : xGo 301 0 [some (.ref a0), some (.int i1), some (.int i2), none, none, none, none, none, none, none, none, none] [] w r) : xCall 301 [.ref a0, .int i1, .int i2] w r := by
  unfold xCall
  rw [ml_301]
  exact h
theorem E_302 {a0 : Nat} {i1 : Int32} {w : xW} {r : Option Value × xW} (h : xGo 302 0 [some (.ref a0), some (.int i1), none, none] [] w r) : xCall 302 [.ref a0, .int i1] w r := by
  unfold xCall
  rw [ml_302]
  exact h
theorem E_303 {a0 : Nat} {i1 : Int32} {w : xW} {r : Option Value × xW} (h : xGo 303 0 [some (.ref a0), some (.int i1), none, none, none, none, none, none, none, none] [] w r) : xCall 303 [.ref a0, .int i1] w r := by
  unfold xCall
  rw [ml_303]
  exact h
theorem E_304 {l0 : Int64} {w : xW} {r : Option Value × xW} (h : xGo 304 0 [some (.long l0), none] [] w r) : xCall 304 [.long l0] w r := by
  unfold xCall
  rw [ml_304]
  exact h
theorem E_305 {a0 : Nat} {i1 : Int32} {w : xW} {r : Option Value × xW} (h : xGo 305 0 [some (.ref a0), some (.int i1), none, none] [] w r) : xCall 305 [.ref a0, .int i1] w r := by
  unfold xCall
  rw [ml_305]
  exact h
theorem E_306 {a0 : Nat} {i1 : Int32} {w : xW} {r : Option Value × xW} (h : xGo 306 0 [some (.ref a0), some (.int i1), none, none] [] w r) : xCall 306 [.ref a0, .int i1] w r := by
  unfold xCall
  rw [ml_306]
  exact h
