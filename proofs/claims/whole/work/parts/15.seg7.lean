/-! segments of methods, laid by wip/whole/wp.py -/
-- 303 BernoulliWaysModel.tangent(I)J
theorem S_303_0 {a0 : Nat} {i1 : Int32} {w : xW} {r : Option Value × xW} (h : ∃ fs1, w[a0]? = some (.inr (12, fs1)) ∧ (0 < fs1.length) ∧ ∀ w4, w4 = w.set a0 (.inr (12, fs1.set 0 (.int (0 : Int32)))) → ∃ r7 w5, xCall 199 [.int i1, .int (2 : Int32), .int (22 : Int32)] w4 (some (.int r7), w5) ∧ (r7 = 0 → r = (some (.long (-9223372036854775808 : Int64)), w5)) ∧ (¬ (r7 = 0) → ((irem i1 (2 : Int32)) = (1 : Int32) → r = (some (.long (-9223372036854775808 : Int64)), w5)) ∧ (¬ ((irem i1 (2 : Int32)) = (1 : Int32)) → ∃ fs8, w5[a0]? = some (.inr (12, fs8)) ∧ ∃ x10, fs8[4]? = some (.int x10) ∧ (i1 ≤ x10 → ∀ v12 : Int64, v12 = (((1 : Int64) <<< (i1.toInt64 &&& 63)) * (((1 : Int64) <<< (i1.toInt64 &&& 63)) - (1 : Int64))) → ∃ b13, fs8[2]? = some (.ref b13) ∧ ∃ n15 f16, w5[b13]? = some (.inl (.inr (n15, f16))) ∧ (¬ ((((3 : Int32) * i1) + (2 : Int32)) < 0 ∨ n15 ≤ (((3 : Int32) * i1) + (2 : Int32)).toNatClampNeg)) ∧ ∀ v19 : Int64, v19 = ((f16 (((3 : Int32) * i1) + (2 : Int32)).toNatClampNeg) * (i1.toInt64)) → ∃ r22 w20, xCall 195 [.long v12, .long v19] w5 (some (.long r22), w20) ∧ ∃ fs23, w20[a0]? = some (.inr (12, fs23)) ∧ ∃ b25, fs23[2]? = some (.ref b25) ∧ ∃ n27 f28, w20[b25]? = some (.inl (.inr (n27, f28))) ∧ (¬ (((3 : Int32) * i1) < 0 ∨ n27 ≤ ((3 : Int32) * i1).toNatClampNeg)) ∧ (¬ ((((3 : Int32) * i1) + (2 : Int32)) < 0 ∨ n27 ≤ (((3 : Int32) * i1) + (2 : Int32)).toNatClampNeg)) ∧ (¬ ((((3 : Int32) * i1) + (1 : Int32)) < 0 ∨ n27 ≤ (((3 : Int32) * i1) + (1 : Int32)).toNatClampNeg)) ∧ ∃ r35 w33, xCall 304 [.long (((f28 ((3 : Int32) * i1).toNatClampNeg) * (f28 (((3 : Int32) * i1) + (2 : Int32)).toNatClampNeg)) + (f28 (((3 : Int32) * i1) + (1 : Int32)).toNatClampNeg))] w20 (some (.long r35), w33) ∧ (¬ r22 = 0) ∧ (¬ (v19 / r22) = 0) ∧ (¬ (lrem r35 (v19 / r22)) = (0 : Int64) → r = (some (.long (-9223372036854775808 : Int64)), w33)) ∧ (¬ (¬ (lrem r35 (v19 / r22)) = (0 : Int64)) → (¬ r22 = 0) ∧ (¬ r22 = 0) ∧ (¬ (v19 / r22) = 0) ∧ r = (some (.long ((v12 / r22) * (r35 / (v19 / r22)))), w33))) ∧ (¬ (i1 ≤ x10) → r = (some (.long (-9223372036854775808 : Int64)), w5))))) : xGo 303 0 [some (.ref a0), some (.int i1), none, none, none, none, none, none, none, none] [] w r := by
  refine g_aloadn (pc' := 1) d_303_0 rfl rfl ?_
  refine g_iconst (pc' := 2) d_303_1 rfl ci_0 ?_
  obtain ⟨fs1, hw2, h⟩ := h
  obtain ⟨hc3, h⟩ := h
  have h := h _ rfl
  refine g_putf (pc' := 5) d_303_2 rfl st_303_118 ft_12_0 ff_12_0 rfl (Or.inl rfl) hw2 hc3 ?_
  refine g_iloadn (pc' := 6) d_303_5 rfl rfl ?_
  refine g_iconst (pc' := 7) d_303_6 rfl ci_2 ?_
  refine g_bipush (pc' := 9) d_303_7 rfl cb_22 ?_
  obtain ⟨r7, w5, hk6, h⟩ := h
  refine g_callS (pc' := 12) d_303_9 rfl st_303_137 (Or.inl rfl) na_199 ml_199 rfl rfl rfl rm_303_199 rfl rfl hk6 ?_
  refine g_if_eq (pc' := 15) (pt := 30) d_303_12 (by decide) rfl (fun c => ?_) (fun c => ?_)
  · replace h := h.1 c
    refine g_ldc2 (pc' := 33) d_303_30 rfl st_303_166 cL_m9223372036854775808 ?_
    exact g_lret d_303_33 rt_303 h
  · replace h := h.2 c
    refine g_iloadn (pc' := 16) d_303_15 rfl rfl ?_
    refine g_iconst (pc' := 17) d_303_16 rfl ci_2 ?_
    refine g_irem (pc' := 18) d_303_17 rfl (by decide) ?_
    refine g_iconst (pc' := 19) d_303_18 rfl ci_1 ?_
    refine g_ic_eq (pc' := 22) (pt := 30) d_303_19 (by decide) rfl (fun c => ?_) (fun c => ?_)
    · replace h := h.1 c
      refine g_ldc2 (pc' := 33) d_303_30 rfl st_303_166 cL_m9223372036854775808 ?_
      exact g_lret d_303_33 rt_303 h
    · replace h := h.2 c
      refine g_iloadn (pc' := 23) d_303_22 rfl rfl ?_
      refine g_aloadn (pc' := 24) d_303_23 rfl rfl ?_
      obtain ⟨fs8, hw9, h⟩ := h
      obtain ⟨x10, hv11, h⟩ := h
      refine g_getf (pc' := 27) d_303_24 rfl st_303_20 hw9 hv11 ?_
      refine g_ic_le (pc' := 30) (pt := 34) d_303_27 (by decide) rfl (fun c => ?_) (fun c => ?_)
      · replace h := h.1 c
        refine g_lconst (pc' := 35) d_303_34 rfl cl_1 ?_
        refine g_iloadn (pc' := 36) d_303_35 rfl rfl ?_
        refine g_lshl (pc' := 37) d_303_36 rfl ?_
        refine g_lconst (pc' := 38) d_303_37 rfl cl_1 ?_
        refine g_iloadn (pc' := 39) d_303_38 rfl rfl ?_
        refine g_lshl (pc' := 40) d_303_39 rfl ?_
        refine g_lconst (pc' := 41) d_303_40 rfl cl_1 ?_
        refine g_lsub (pc' := 42) d_303_41 rfl ?_
        refine g_lmul (pc' := 43) d_303_42 rfl ?_
        have h := h _ rfl
        refine g_lstoren (pc' := 44) (l' := [some (.ref a0), some (.int i1), some (.long ((((1 : Int64) <<< (i1.toInt64 &&& 63)) * (((1 : Int64) <<< (i1.toInt64 &&& 63)) - (1 : Int64))))), none, none, none, none, none, none, none]) d_303_43 rfl ml_303 rfl rfl ?_
        refine g_aloadn (pc' := 45) d_303_44 rfl rfl ?_
        obtain ⟨b13, hv14, h⟩ := h
        refine g_getf (pc' := 48) d_303_45 rfl st_303_13 hw9 hv14 ?_
        refine g_iconst (pc' := 49) d_303_48 rfl ci_3 ?_
        refine g_iloadn (pc' := 50) d_303_49 rfl rfl ?_
        refine g_imul (pc' := 51) d_303_50 rfl ?_
        refine g_iconst (pc' := 52) d_303_51 rfl ci_2 ?_
        refine g_iadd (pc' := 53) d_303_52 rfl ?_
        obtain ⟨n15, f16, hw17, h⟩ := h
        obtain ⟨hc18, h⟩ := h
        refine g_lald (pc' := 54) d_303_53 rfl hw17 hc18 ?_
        refine g_iloadn (pc' := 55) d_303_54 rfl rfl ?_
        refine g_i2l (pc' := 56) d_303_55 rfl ?_
        refine g_lmul (pc' := 57) d_303_56 rfl ?_
        have h := h _ rfl
        refine g_lstore (pc' := 59) (l' := [some (.ref a0), some (.int i1), some (.long ((((1 : Int64) <<< (i1.toInt64 &&& 63)) * (((1 : Int64) <<< (i1.toInt64 &&& 63)) - (1 : Int64))))), none, some (.long (((f16 (((3 : Int32) * i1) + (2 : Int32)).toNatClampNeg) * (i1.toInt64)))), none, none, none, none, none]) d_303_57 rfl ml_303 rfl rfl ?_
        refine g_lloadn (pc' := 60) d_303_59 rfl rfl ?_
        refine g_lload (pc' := 62) d_303_60 rfl rfl ?_
        obtain ⟨r22, w20, hk21, h⟩ := h
        refine g_callS (pc' := 65) d_303_62 rfl st_303_121 (Or.inl rfl) na_195 ml_195 rfl rfl rfl rm_303_195 rfl rfl hk21 ?_
        refine g_lstore (pc' := 67) (l' := [some (.ref a0), some (.int i1), some (.long ((((1 : Int64) <<< (i1.toInt64 &&& 63)) * (((1 : Int64) <<< (i1.toInt64 &&& 63)) - (1 : Int64))))), none, some (.long (((f16 (((3 : Int32) * i1) + (2 : Int32)).toNatClampNeg) * (i1.toInt64)))), none, some (.long r22), none, none, none]) d_303_65 rfl ml_303 rfl rfl ?_
        refine g_aloadn (pc' := 68) d_303_67 rfl rfl ?_
        obtain ⟨fs23, hw24, h⟩ := h
        obtain ⟨b25, hv26, h⟩ := h
        refine g_getf (pc' := 71) d_303_68 rfl st_303_13 hw24 hv26 ?_
        refine g_iconst (pc' := 72) d_303_71 rfl ci_3 ?_
        refine g_iloadn (pc' := 73) d_303_72 rfl rfl ?_
        refine g_imul (pc' := 74) d_303_73 rfl ?_
        obtain ⟨n27, f28, hw29, h⟩ := h
        obtain ⟨hc30, h⟩ := h
        refine g_lald (pc' := 75) d_303_74 rfl hw29 hc30 ?_
        refine g_aloadn (pc' := 76) d_303_75 rfl rfl ?_
        refine g_getf (pc' := 79) d_303_76 rfl st_303_13 hw24 hv26 ?_
        refine g_iconst (pc' := 80) d_303_79 rfl ci_3 ?_
        refine g_iloadn (pc' := 81) d_303_80 rfl rfl ?_
        refine g_imul (pc' := 82) d_303_81 rfl ?_
        refine g_iconst (pc' := 83) d_303_82 rfl ci_2 ?_
        refine g_iadd (pc' := 84) d_303_83 rfl ?_
        obtain ⟨hc31, h⟩ := h
        refine g_lald (pc' := 85) d_303_84 rfl hw29 hc31 ?_
        refine g_lmul (pc' := 86) d_303_85 rfl ?_
        refine g_aloadn (pc' := 87) d_303_86 rfl rfl ?_
        refine g_getf (pc' := 90) d_303_87 rfl st_303_13 hw24 hv26 ?_
        refine g_iconst (pc' := 91) d_303_90 rfl ci_3 ?_
        refine g_iloadn (pc' := 92) d_303_91 rfl rfl ?_
        refine g_imul (pc' := 93) d_303_92 rfl ?_
        refine g_iconst (pc' := 94) d_303_93 rfl ci_1 ?_
        refine g_iadd (pc' := 95) d_303_94 rfl ?_
        obtain ⟨hc32, h⟩ := h
        refine g_lald (pc' := 96) d_303_95 rfl hw29 hc32 ?_
        refine g_ladd (pc' := 97) d_303_96 rfl ?_
        obtain ⟨r35, w33, hk34, h⟩ := h
        refine g_callS (pc' := 100) d_303_97 rfl st_303_370 (Or.inl rfl) na_304 ml_304 rfl rfl rfl rm_303_304 rfl rfl hk34 ?_
        refine g_lstore (pc' := 102) (l' := [some (.ref a0), some (.int i1), some (.long ((((1 : Int64) <<< (i1.toInt64 &&& 63)) * (((1 : Int64) <<< (i1.toInt64 &&& 63)) - (1 : Int64))))), none, some (.long (((f16 (((3 : Int32) * i1) + (2 : Int32)).toNatClampNeg) * (i1.toInt64)))), none, some (.long r22), none, some (.long r35), none]) d_303_100 rfl ml_303 rfl rfl ?_
        refine g_lload (pc' := 104) d_303_102 rfl rfl ?_
        refine g_lload (pc' := 106) d_303_104 rfl rfl ?_
        refine g_lload (pc' := 108) d_303_106 rfl rfl ?_
        obtain ⟨hc36, h⟩ := h
        refine g_ldiv (pc' := 109) d_303_108 rfl hc36 ?_
        obtain ⟨hc37, h⟩ := h
        refine g_lrem (pc' := 110) d_303_109 rfl hc37 ?_
        refine g_lconst (pc' := 111) d_303_110 rfl cl_0 ?_
        refine g_lc_ne (pc' := 115) (pm := 112) (pt := 131) d_303_111 rfl d_303_112 (by decide) rfl (fun c => ?_) (fun c => ?_)
        · replace h := h.1 c
          refine g_ldc2 (pc' := 134) d_303_131 rfl st_303_166 cL_m9223372036854775808 ?_
          exact g_lret d_303_134 rt_303 h
        · replace h := h.2 c
          refine g_lloadn (pc' := 116) d_303_115 rfl rfl ?_
          refine g_lload (pc' := 118) d_303_116 rfl rfl ?_
          obtain ⟨hc38, h⟩ := h
          refine g_ldiv (pc' := 119) d_303_118 rfl hc38 ?_
          refine g_lload (pc' := 121) d_303_119 rfl rfl ?_
          refine g_lload (pc' := 123) d_303_121 rfl rfl ?_
          refine g_lload (pc' := 125) d_303_123 rfl rfl ?_
          obtain ⟨hc39, h⟩ := h
          refine g_ldiv (pc' := 126) d_303_125 rfl hc39 ?_
          obtain ⟨hc40, h⟩ := h
          refine g_ldiv (pc' := 127) d_303_126 rfl hc40 ?_
          refine g_lmul (pc' := 128) d_303_127 rfl ?_
          refine g_goto (pt := 134) d_303_128 (by decide) ?_
          exact g_lret d_303_134 rt_303 h
      · replace h := h.2 c
        refine g_ldc2 (pc' := 33) d_303_30 rfl st_303_166 cL_m9223372036854775808 ?_
        exact g_lret d_303_33 rt_303 h
-- 304 BernoulliWaysModel.size(J)J
theorem S_304_0 {l0 : Int64} {w : xW} {r : Option Value × xW} (h : ((0 : Int64) ≤ l0 → r = (some (.long l0), w)) ∧ (¬ ((0 : Int64) ≤ l0) → r = (some (.long (-l0)), w))) : xGo 304 0 [some (.long l0), none] [] w r := by
  refine g_lloadn (pc' := 1) d_304_0 rfl rfl ?_
  refine g_lconst (pc' := 2) d_304_1 rfl cl_0 ?_
  refine g_lc_ge (pc' := 6) (pm := 3) (pt := 11) d_304_2 rfl d_304_3 (by decide) rfl (fun c => ?_) (fun c => ?_)
  · replace h := h.1 c
    refine g_lloadn (pc' := 12) d_304_11 rfl rfl ?_
    exact g_lret d_304_12 rt_304 h
  · replace h := h.2 c
    refine g_lloadn (pc' := 7) d_304_6 rfl rfl ?_
    refine g_lneg (pc' := 8) d_304_7 rfl ?_
    refine g_goto (pt := 12) d_304_8 (by decide) ?_
    exact g_lret d_304_12 rt_304 h
-- 305 BernoulliWaysModel.growth(I)I
theorem S_305_0 {a0 : Nat} {i1 : Int32} {w : xW} {r : Option Value × xW} (h : ∃ fs1, w[a0]? = some (.inr (12, fs1)) ∧ (0 < fs1.length) ∧ ∀ w4, w4 = w.set a0 (.inr (12, fs1.set 0 (.int (0 : Int32)))) → ∃ r7 w5, xCall 199 [.int i1, .int (4 : Int32), .int (38 : Int32)] w4 (some (.int r7), w5) ∧ (r7 = 0 → r = (some (.int (-1 : Int32)), w5)) ∧ (¬ (r7 = 0) → (¬ (irem i1 (2 : Int32)) = (1 : Int32) → ∃ fs8, w5[a0]? = some (.inr (12, fs8)) ∧ ∃ x10, fs8[4]? = some (.int x10) ∧ (i1 ≤ x10 → ∃ b12, fs8[2]? = some (.ref b12) ∧ ∃ n14 f15, w5[b12]? = some (.inl (.inr (n14, f15))) ∧ (¬ ((((3 : Int32) * i1) - (6 : Int32)) < 0 ∨ n14 ≤ (((3 : Int32) * i1) - (6 : Int32)).toNatClampNeg)) ∧ ∃ r20 w18, xCall 304 [.long (f15 (((3 : Int32) * i1) - (6 : Int32)).toNatClampNeg)] w5 (some (.long r20), w18) ∧ (¬ r20 = (0 : Int64) → ∃ fs21, w18[a0]? = some (.inr (12, fs21)) ∧ ∃ b23, fs21[2]? = some (.ref b23) ∧ ∃ n25 f26, w18[b23]? = some (.inl (.inr (n25, f26))) ∧ (¬ (((3 : Int32) * i1) < 0 ∨ n25 ≤ ((3 : Int32) * i1).toNatClampNeg)) ∧ ∃ r31 w29, xCall 304 [.long (f26 ((3 : Int32) * i1).toNatClampNeg)] w18 (some (.long r31), w29) ∧ (¬ r20 = 0) ∧ r = (some (.int ((r31 / r20).toInt32)), w29)) ∧ (¬ (¬ r20 = (0 : Int64)) → r = (some (.int (0 : Int32)), w18))) ∧ (¬ (i1 ≤ x10) → r = (some (.int (-2 : Int32)), w5))) ∧ (¬ (¬ (irem i1 (2 : Int32)) = (1 : Int32)) → r = (some (.int (-1 : Int32)), w5)))) : xGo 305 0 [some (.ref a0), some (.int i1), none, none] [] w r := by
  refine g_aloadn (pc' := 1) d_305_0 rfl rfl ?_
  refine g_iconst (pc' := 2) d_305_1 rfl ci_0 ?_
  obtain ⟨fs1, hw2, h⟩ := h
  obtain ⟨hc3, h⟩ := h
  have h := h _ rfl
  refine g_putf (pc' := 5) d_305_2 rfl st_305_118 ft_12_0 ff_12_0 rfl (Or.inl rfl) hw2 hc3 ?_
  refine g_iloadn (pc' := 6) d_305_5 rfl rfl ?_
  refine g_iconst (pc' := 7) d_305_6 rfl ci_4 ?_
  refine g_bipush (pc' := 9) d_305_7 rfl cb_38 ?_
  obtain ⟨r7, w5, hk6, h⟩ := h
  refine g_callS (pc' := 12) d_305_9 rfl st_305_137 (Or.inl rfl) na_199 ml_199 rfl rfl rfl rm_305_199 rfl rfl hk6 ?_
  refine g_if_eq (pc' := 15) (pt := 22) d_305_12 (by decide) rfl (fun c => ?_) (fun c => ?_)
  · replace h := h.1 c
    refine g_iconst (pc' := 23) d_305_22 rfl ci_m1 ?_
    exact g_iret d_305_23 rt_305 h
  · replace h := h.2 c
    refine g_iloadn (pc' := 16) d_305_15 rfl rfl ?_
    refine g_iconst (pc' := 17) d_305_16 rfl ci_2 ?_
    refine g_irem (pc' := 18) d_305_17 rfl (by decide) ?_
    refine g_iconst (pc' := 19) d_305_18 rfl ci_1 ?_
    refine g_ic_ne (pc' := 22) (pt := 24) d_305_19 (by decide) rfl (fun c => ?_) (fun c => ?_)
    · replace h := h.1 c
      refine g_iloadn (pc' := 25) d_305_24 rfl rfl ?_
      refine g_aloadn (pc' := 26) d_305_25 rfl rfl ?_
      obtain ⟨fs8, hw9, h⟩ := h
      obtain ⟨x10, hv11, h⟩ := h
      refine g_getf (pc' := 29) d_305_26 rfl st_305_20 hw9 hv11 ?_
      refine g_ic_le (pc' := 32) (pt := 35) d_305_29 (by decide) rfl (fun c => ?_) (fun c => ?_)
      · replace h := h.1 c
        refine g_aloadn (pc' := 36) d_305_35 rfl rfl ?_
        obtain ⟨b12, hv13, h⟩ := h
        refine g_getf (pc' := 39) d_305_36 rfl st_305_13 hw9 hv13 ?_
        refine g_iconst (pc' := 40) d_305_39 rfl ci_3 ?_
        refine g_iloadn (pc' := 41) d_305_40 rfl rfl ?_
        refine g_imul (pc' := 42) d_305_41 rfl ?_
        refine g_bipush (pc' := 44) d_305_42 rfl cb_6 ?_
        refine g_isub (pc' := 45) d_305_44 rfl ?_
        obtain ⟨n14, f15, hw16, h⟩ := h
        obtain ⟨hc17, h⟩ := h
        refine g_lald (pc' := 46) d_305_45 rfl hw16 hc17 ?_
        obtain ⟨r20, w18, hk19, h⟩ := h
        refine g_callS (pc' := 49) d_305_46 rfl st_305_370 (Or.inl rfl) na_304 ml_304 rfl rfl rfl rm_305_304 rfl rfl hk19 ?_
        refine g_lstoren (pc' := 50) (l' := [some (.ref a0), some (.int i1), some (.long r20), none]) d_305_49 rfl ml_305 rfl rfl ?_
        refine g_lloadn (pc' := 51) d_305_50 rfl rfl ?_
        refine g_lconst (pc' := 52) d_305_51 rfl cl_0 ?_
        refine g_lc_ne (pc' := 56) (pm := 53) (pt := 60) d_305_52 rfl d_305_53 (by decide) rfl (fun c => ?_) (fun c => ?_)
        · replace h := h.1 c
          refine g_aloadn (pc' := 61) d_305_60 rfl rfl ?_
          obtain ⟨fs21, hw22, h⟩ := h
          obtain ⟨b23, hv24, h⟩ := h
          refine g_getf (pc' := 64) d_305_61 rfl st_305_13 hw22 hv24 ?_
          refine g_iconst (pc' := 65) d_305_64 rfl ci_3 ?_
          refine g_iloadn (pc' := 66) d_305_65 rfl rfl ?_
          refine g_imul (pc' := 67) d_305_66 rfl ?_
          obtain ⟨n25, f26, hw27, h⟩ := h
          obtain ⟨hc28, h⟩ := h
          refine g_lald (pc' := 68) d_305_67 rfl hw27 hc28 ?_
          obtain ⟨r31, w29, hk30, h⟩ := h
          refine g_callS (pc' := 71) d_305_68 rfl st_305_370 (Or.inl rfl) na_304 ml_304 rfl rfl rfl rm_305_304 rfl rfl hk30 ?_
          refine g_lloadn (pc' := 72) d_305_71 rfl rfl ?_
          obtain ⟨hc32, h⟩ := h
          refine g_ldiv (pc' := 73) d_305_72 rfl hc32 ?_
          refine g_l2i (pc' := 74) d_305_73 rfl ?_
          exact g_iret d_305_74 rt_305 h
        · replace h := h.2 c
          refine g_iconst (pc' := 57) d_305_56 rfl ci_0 ?_
          refine g_goto (pt := 74) d_305_57 (by decide) ?_
          exact g_iret d_305_74 rt_305 h
      · replace h := h.2 c
        refine g_bipush (pc' := 34) d_305_32 rfl cb_m2 ?_
        exact g_iret d_305_34 rt_305 h
    · replace h := h.2 c
      refine g_iconst (pc' := 23) d_305_22 rfl ci_m1 ?_
      exact g_iret d_305_23 rt_305 h
-- 306 BernoulliWaysModel.count(I)I
theorem S_306_0 {a0 : Nat} {i1 : Int32} {w : xW} {r : Option Value × xW} (h : ∃ fs1, w[a0]? = some (.inr (12, fs1)) ∧ (0 < fs1.length) ∧ ∀ w4, w4 = w.set a0 (.inr (12, fs1.set 0 (.int (0 : Int32)))) → (i1 = (0 : Int32) → ∃ x5, (fs1.set 0 (.int (0 : Int32)))[4]? = some (.int x5) ∧ r = (some (.int x5), w4)) ∧ (i1 = (1 : Int32) → xGo 306 47 [some (.ref a0), some (.int i1), some (.int (0 : Int32)), some (.int (0 : Int32))] [] w4 r) ∧ (i1 = (2 : Int32) → ∃ x7, (fs1.set 0 (.int (0 : Int32)))[13]? = some (.int x7) ∧ r = (some (.int x7), w4)) ∧ (i1 = (3 : Int32) → xGo 306 86 [some (.ref a0), some (.int i1), some (.int (0 : Int32)), some (.int (0 : Int32))] [] w4 r) ∧ (i1.toInt < 0 ∨ 3 < i1.toInt → r = (some (.int (-1 : Int32)), w4))) : xGo 306 0 [some (.ref a0), some (.int i1), none, none] [] w r := by
  refine g_aloadn (pc' := 1) d_306_0 rfl rfl ?_
  refine g_iconst (pc' := 2) d_306_1 rfl ci_0 ?_
  obtain ⟨fs1, hw2, h⟩ := h
  obtain ⟨hc3, h⟩ := h
  have h := h _ rfl
  refine g_putf (pc' := 5) d_306_2 rfl st_306_118 ft_12_0 ff_12_0 rfl (Or.inl rfl) hw2 hc3 ?_
  refine g_iconst (pc' := 6) d_306_5 rfl ci_0 ?_
  refine g_istoren (pc' := 7) (l' := [some (.ref a0), some (.int i1), some (.int (0 : Int32)), none]) d_306_6 rfl ml_306 rfl rfl ?_
  refine g_iloadn (pc' := 8) d_306_7 rfl rfl ?_
  by_cases hx0 : i1 = (0 : Int32)
  · replace h := h.1 hx0
    refine g_tswIn (pt := 40) d_306_8 (by rw [hx0]; decide) (off := 32) (by rw [hx0]; rfl) (by decide) ?_
    refine g_aloadn (pc' := 41) d_306_40 rfl rfl ?_
    obtain ⟨x5, hv6, h⟩ := h
    refine g_getf (pc' := 44) d_306_41 rfl st_306_20 (x_gss hw2) hv6 ?_
    exact g_iret d_306_44 rt_306 h
  by_cases hx1 : i1 = (1 : Int32)
  · replace h := h.2.1 hx1
    refine g_tswIn (pt := 45) d_306_8 (by rw [hx1]; decide) (off := 37) (by rw [hx1]; rfl) (by decide) ?_
    refine g_iconst (pc' := 46) d_306_45 rfl ci_0 ?_
    refine g_istoren (pc' := 47) (l' := [some (.ref a0), some (.int i1), some (.int (0 : Int32)), some (.int (0 : Int32))]) d_306_46 rfl ml_306 rfl rfl ?_
    exact h
  by_cases hx2 : i1 = (2 : Int32)
  · replace h := h.2.2.1 hx2
    refine g_tswIn (pt := 79) d_306_8 (by rw [hx2]; decide) (off := 71) (by rw [hx2]; rfl) (by decide) ?_
    refine g_aloadn (pc' := 80) d_306_79 rfl rfl ?_
    obtain ⟨x7, hv8, h⟩ := h
    refine g_getf (pc' := 83) d_306_80 rfl st_306_178 (x_gss hw2) hv8 ?_
    exact g_iret d_306_83 rt_306 h
  by_cases hx3 : i1 = (3 : Int32)
  · replace h := h.2.2.2.1 hx3
    refine g_tswIn (pt := 84) d_306_8 (by rw [hx3]; decide) (off := 76) (by rw [hx3]; rfl) (by decide) ?_
    refine g_iconst (pc' := 85) d_306_84 rfl ci_0 ?_
    refine g_istoren (pc' := 86) (l' := [some (.ref a0), some (.int i1), some (.int (0 : Int32)), some (.int (0 : Int32))]) d_306_85 rfl ml_306 rfl rfl ?_
    exact h
  · have hout : (i1).toInt < 0 ∨ 3 < (i1).toInt := x_out4 hx0 hx1 hx2 hx3
    replace h := h.2.2.2.2 hout
    refine g_tswOut (pt := 118) d_306_8 hout (by decide) ?_
    refine g_iconst (pc' := 119) d_306_118 rfl ci_m1 ?_
    exact g_iret d_306_119 rt_306 h
theorem S_306_47 {a0 : Nat} {i1 : Int32} {i2 : Int32} {i3 : Int32} {w : xW} {r : Option Value × xW} (h : ∃ fs1, w[a0]? = some (.inr (12, fs1)) ∧ ∃ x3, fs1[4]? = some (.int x3) ∧ (x3 < i3 → r = (some (.int i2), w)) ∧ (¬ (x3 < i3) → ∃ r7 w5, xCall 201 [.ref a0, .int i3] w (some (.int r7), w5) ∧ (r7 = 0 → ∀ v8 : Int32, v8 = (i2 + (1 : Int32)) → ∀ v9 : Int32, v9 = i3 + (1 : Int32) → xGo 306 47 [some (.ref a0), some (.int i1), some (.int v8), some (.int v9)] [] w5 r) ∧ (¬ (r7 = 0) → ∀ v10 : Int32, v10 = (i2 + (0 : Int32)) → ∀ v11 : Int32, v11 = i3 + (1 : Int32) → xGo 306 47 [some (.ref a0), some (.int i1), some (.int v10), some (.int v11)] [] w5 r))) : xGo 306 47 [some (.ref a0), some (.int i1), some (.int i2), some (.int i3)] [] w r := by
  refine g_iloadn (pc' := 48) d_306_47 rfl rfl ?_
  refine g_aloadn (pc' := 49) d_306_48 rfl rfl ?_
  obtain ⟨fs1, hw2, h⟩ := h
  obtain ⟨x3, hv4, h⟩ := h
  refine g_getf (pc' := 52) d_306_49 rfl st_306_20 hw2 hv4 ?_
  refine g_ic_gt (pc' := 55) (pt := 77) d_306_52 (by decide) rfl (fun c => ?_) (fun c => ?_)
  · replace h := h.1 c
    refine g_iloadn (pc' := 78) d_306_77 rfl rfl ?_
    exact g_iret d_306_78 rt_306 h
  · replace h := h.2 c
    refine g_iloadn (pc' := 56) d_306_55 rfl rfl ?_
    refine g_aloadn (pc' := 57) d_306_56 rfl rfl ?_
    refine g_iloadn (pc' := 58) d_306_57 rfl rfl ?_
    obtain ⟨r7, w5, hk6, h⟩ := h
    refine g_callV (pc' := 61) d_306_58 rfl st_306_141 na_201 ml_201 rfl rfl rfl rm_306_201 rfl rfl ow_201 hw2 hk6 ?_
    refine g_if_eq (pc' := 64) (pt := 68) d_306_61 (by decide) rfl (fun c => ?_) (fun c => ?_)
    · replace h := h.1 c
      refine g_iconst (pc' := 69) d_306_68 rfl ci_1 ?_
      refine g_iadd (pc' := 70) d_306_69 rfl ?_
      have h := h _ rfl
      refine g_istoren (pc' := 71) (l' := [some (.ref a0), some (.int i1), some (.int ((i2 + (1 : Int32)))), some (.int i3)]) d_306_70 rfl ml_306 rfl rfl ?_
      have h := h _ rfl
      refine g_iinc (pc' := 74) (l' := [some (.ref a0), some (.int i1), some (.int ((i2 + (1 : Int32)))), some (.int (i3 + (1 : Int32)))]) d_306_71 rfl rfl ci_1 ml_306 rfl rfl ?_
      refine g_goto (pt := 47) d_306_74 (by decide) ?_
      exact h
    · replace h := h.2 c
      refine g_iconst (pc' := 65) d_306_64 rfl ci_0 ?_
      refine g_goto (pt := 69) d_306_65 (by decide) ?_
      refine g_iadd (pc' := 70) d_306_69 rfl ?_
      have h := h _ rfl
      refine g_istoren (pc' := 71) (l' := [some (.ref a0), some (.int i1), some (.int ((i2 + (0 : Int32)))), some (.int i3)]) d_306_70 rfl ml_306 rfl rfl ?_
      have h := h _ rfl
      refine g_iinc (pc' := 74) (l' := [some (.ref a0), some (.int i1), some (.int ((i2 + (0 : Int32)))), some (.int (i3 + (1 : Int32)))]) d_306_71 rfl rfl ci_1 ml_306 rfl rfl ?_
      refine g_goto (pt := 47) d_306_74 (by decide) ?_
      exact h
theorem S_306_86 {a0 : Nat} {i1 : Int32} {i2 : Int32} {i3 : Int32} {w : xW} {r : Option Value × xW} (h : ∃ fs1, w[a0]? = some (.inr (12, fs1)) ∧ ∃ x3, fs1[13]? = some (.int x3) ∧ (x3 ≤ i3 → r = (some (.int i2), w)) ∧ (¬ (x3 ≤ i3) → ∃ r7 w5, xCall 233 [.ref a0, .int i3] w (some (.int r7), w5) ∧ (r7 = 0 → ∀ v8 : Int32, v8 = (i2 + (1 : Int32)) → ∀ v9 : Int32, v9 = i3 + (1 : Int32) → xGo 306 86 [some (.ref a0), some (.int i1), some (.int v8), some (.int v9)] [] w5 r) ∧ (¬ (r7 = 0) → ∀ v10 : Int32, v10 = (i2 + (0 : Int32)) → ∀ v11 : Int32, v11 = i3 + (1 : Int32) → xGo 306 86 [some (.ref a0), some (.int i1), some (.int v10), some (.int v11)] [] w5 r))) : xGo 306 86 [some (.ref a0), some (.int i1), some (.int i2), some (.int i3)] [] w r := by
  refine g_iloadn (pc' := 87) d_306_86 rfl rfl ?_
  refine g_aloadn (pc' := 88) d_306_87 rfl rfl ?_
  obtain ⟨fs1, hw2, h⟩ := h
  obtain ⟨x3, hv4, h⟩ := h
  refine g_getf (pc' := 91) d_306_88 rfl st_306_178 hw2 hv4 ?_
  refine g_ic_ge (pc' := 94) (pt := 116) d_306_91 (by decide) rfl (fun c => ?_) (fun c => ?_)
  · replace h := h.1 c
    refine g_iloadn (pc' := 117) d_306_116 rfl rfl ?_
    exact g_iret d_306_117 rt_306 h
  · replace h := h.2 c
    refine g_iloadn (pc' := 95) d_306_94 rfl rfl ?_
    refine g_aloadn (pc' := 96) d_306_95 rfl rfl ?_
    refine g_iloadn (pc' := 97) d_306_96 rfl rfl ?_
    obtain ⟨r7, w5, hk6, h⟩ := h
    refine g_callV (pc' := 100) d_306_97 rfl st_306_196 na_233 ml_233 rfl rfl rfl rm_306_233 rfl rfl ow_233 hw2 hk6 ?_
    refine g_if_eq (pc' := 103) (pt := 107) d_306_100 (by decide) rfl (fun c => ?_) (fun c => ?_)
    · replace h := h.1 c
      refine g_iconst (pc' := 108) d_306_107 rfl ci_1 ?_
      refine g_iadd (pc' := 109) d_306_108 rfl ?_
      have h := h _ rfl
      refine g_istoren (pc' := 110) (l' := [some (.ref a0), some (.int i1), some (.int ((i2 + (1 : Int32)))), some (.int i3)]) d_306_109 rfl ml_306 rfl rfl ?_
      have h := h _ rfl
      refine g_iinc (pc' := 113) (l' := [some (.ref a0), some (.int i1), some (.int ((i2 + (1 : Int32)))), some (.int (i3 + (1 : Int32)))]) d_306_110 rfl rfl ci_1 ml_306 rfl rfl ?_
      refine g_goto (pt := 86) d_306_113 (by decide) ?_
      exact h
    · replace h := h.2 c
      refine g_iconst (pc' := 104) d_306_103 rfl ci_0 ?_
      refine g_goto (pt := 108) d_306_104 (by decide) ?_
      refine g_iadd (pc' := 109) d_306_108 rfl ?_
      have h := h _ rfl
      refine g_istoren (pc' := 110) (l' := [some (.ref a0), some (.int i1), some (.int ((i2 + (0 : Int32)))), some (.int i3)]) d_306_109 rfl ml_306 rfl rfl ?_
      have h := h _ rfl
      refine g_iinc (pc' := 113) (l' := [some (.ref a0), some (.int i1), some (.int ((i2 + (0 : Int32)))), some (.int (i3 + (1 : Int32)))]) d_306_110 rfl rfl ci_1 ml_306 rfl rfl ?_
      refine g_goto (pt := 86) d_306_113 (by decide) ?_
      exact h
