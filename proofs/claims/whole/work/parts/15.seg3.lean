/-! segments of methods, laid by wip/whole/wp.py -/
-- 166 BernoulliWays.triangular(III)J
theorem S_166_0 {a0 : Nat} {i1 : Int32} {i2 : Int32} {i3 : Int32} {w : xW} {r : Option Value × xW} (h : (i1 < (1 : Int32) → r = (some (.long (-9223372036854775808 : Int64)), w)) ∧ (¬ (i1 < (1 : Int32)) → ((15 : Int32) < i1 → r = (some (.long (-9223372036854775808 : Int64)), w)) ∧ (¬ ((15 : Int32) < i1) → ((irem i1 (2 : Int32)) = 0 → r = (some (.long (-9223372036854775808 : Int64)), w)) ∧ (¬ ((irem i1 (2 : Int32)) = 0) → (i3 < 0 → r = (some (.long (-9223372036854775808 : Int64)), w)) ∧ (¬ (i3 < 0) → (i3 ≤ (1 : Int32) → (i2 < (1 : Int32) → r = (some (.long (-9223372036854775808 : Int64)), w)) ∧ (¬ (i2 < (1 : Int32)) → (i2 ≤ ((i1 + (1 : Int32)) / (2 : Int32)) → ∃ fs1, w[a0]? = some (.inr (0, fs1)) ∧ ∃ x3, fs1[7]? = some (.int x3) ∧ (i1 ≤ x3 → ∃ r7 w5, xCall 167 [.ref a0, .int i1] w (some (.int r7), w5) ∧ (¬ r7 = 0 → ∃ fs8, w5[a0]? = some (.inr (0, fs8)) ∧ ∃ b10, fs8[13]? = some (.ref b10) ∧ ∃ b12, fs8[15]? = some (.ref b12) ∧ ∃ n14 f15, w5[b12]? = some (.inl (.inr (n14, f15))) ∧ (¬ (i2 < 0 ∨ n14 ≤ i2.toNatClampNeg)) ∧ ∃ fs18, w5[b10]? = some (.inr (5, fs18)) ∧ ∃ w20, xCall 16 [.ref b10, .long (0 : Int64), .long ((f15 i2.toNatClampNeg) <<< (i2.toInt64 &&& 63)), .long ((30030 : Int64) * ((i1 + (1 : Int32)).toInt64))] w5 (none, w20) ∧ (¬ i3 = 0 → ∃ fs22, w20[a0]? = some (.inr (0, fs22)) ∧ ∃ b24, fs22[13]? = some (.ref b24) ∧ ∃ fs26, w20[b24]? = some (.inr (5, fs26)) ∧ ∃ x28, fs26[2]? = some (.long x28) ∧ r = (some (.long x28), w20)) ∧ (¬ (¬ i3 = 0) → ∃ fs30, w20[a0]? = some (.inr (0, fs30)) ∧ ∃ b32, fs30[13]? = some (.ref b32) ∧ ∃ fs34, w20[b32]? = some (.inr (5, fs34)) ∧ ∃ r38 w36, xCall 150 [.ref b32] w20 (some (.long r38), w36) ∧ r = (some (.long r38), w36))) ∧ (¬ (¬ r7 = 0) → r = (some (.long (-3 : Int64)), w5))) ∧ (¬ (i1 ≤ x3) → r = (some (.long (-2 : Int64)), w))) ∧ (¬ (i2 ≤ ((i1 + (1 : Int32)) / (2 : Int32))) → r = (some (.long (-9223372036854775808 : Int64)), w)))) ∧ (¬ (i3 ≤ (1 : Int32)) → r = (some (.long (-9223372036854775808 : Int64)), w))))))) : xGo 166 0 [some (.ref a0), some (.int i1), some (.int i2), some (.int i3)] [] w r := by
  refine g_iloadn (pc' := 1) d_166_0 rfl rfl ?_
  refine g_iconst (pc' := 2) d_166_1 rfl ci_1 ?_
  refine g_ic_lt (pc' := 5) (pt := 26) d_166_2 (by decide) rfl (fun c => ?_) (fun c => ?_)
  · replace h := h.1 c
    refine g_ldc2 (pc' := 29) d_166_26 rfl st_166_166 cL_m9223372036854775808 ?_
    exact g_lret d_166_29 rt_166 h
  · replace h := h.2 c
    refine g_iloadn (pc' := 6) d_166_5 rfl rfl ?_
    refine g_bipush (pc' := 8) d_166_6 rfl cb_15 ?_
    refine g_ic_gt (pc' := 11) (pt := 26) d_166_8 (by decide) rfl (fun c => ?_) (fun c => ?_)
    · replace h := h.1 c
      refine g_ldc2 (pc' := 29) d_166_26 rfl st_166_166 cL_m9223372036854775808 ?_
      exact g_lret d_166_29 rt_166 h
    · replace h := h.2 c
      refine g_iloadn (pc' := 12) d_166_11 rfl rfl ?_
      refine g_iconst (pc' := 13) d_166_12 rfl ci_2 ?_
      refine g_irem (pc' := 14) d_166_13 rfl (by decide) ?_
      refine g_if_eq (pc' := 17) (pt := 26) d_166_14 (by decide) rfl (fun c => ?_) (fun c => ?_)
      · replace h := h.1 c
        refine g_ldc2 (pc' := 29) d_166_26 rfl st_166_166 cL_m9223372036854775808 ?_
        exact g_lret d_166_29 rt_166 h
      · replace h := h.2 c
        refine g_iloadn (pc' := 18) d_166_17 rfl rfl ?_
        refine g_if_lt (pc' := 21) (pt := 26) d_166_18 (by decide) rfl (fun c => ?_) (fun c => ?_)
        · replace h := h.1 c
          refine g_ldc2 (pc' := 29) d_166_26 rfl st_166_166 cL_m9223372036854775808 ?_
          exact g_lret d_166_29 rt_166 h
        · replace h := h.2 c
          refine g_iloadn (pc' := 22) d_166_21 rfl rfl ?_
          refine g_iconst (pc' := 23) d_166_22 rfl ci_1 ?_
          refine g_ic_le (pc' := 26) (pt := 30) d_166_23 (by decide) rfl (fun c => ?_) (fun c => ?_)
          · replace h := h.1 c
            refine g_iloadn (pc' := 31) d_166_30 rfl rfl ?_
            refine g_iconst (pc' := 32) d_166_31 rfl ci_1 ?_
            refine g_ic_lt (pc' := 35) (pt := 44) d_166_32 (by decide) rfl (fun c => ?_) (fun c => ?_)
            · replace h := h.1 c
              refine g_ldc2 (pc' := 47) d_166_44 rfl st_166_166 cL_m9223372036854775808 ?_
              exact g_lret d_166_47 rt_166 h
            · replace h := h.2 c
              refine g_iloadn (pc' := 36) d_166_35 rfl rfl ?_
              refine g_iloadn (pc' := 37) d_166_36 rfl rfl ?_
              refine g_iconst (pc' := 38) d_166_37 rfl ci_1 ?_
              refine g_iadd (pc' := 39) d_166_38 rfl ?_
              refine g_iconst (pc' := 40) d_166_39 rfl ci_2 ?_
              refine g_idiv (pc' := 41) d_166_40 rfl (by decide) ?_
              refine g_ic_le (pc' := 44) (pt := 48) d_166_41 (by decide) rfl (fun c => ?_) (fun c => ?_)
              · replace h := h.1 c
                refine g_iloadn (pc' := 49) d_166_48 rfl rfl ?_
                refine g_aloadn (pc' := 50) d_166_49 rfl rfl ?_
                obtain ⟨fs1, hw2, h⟩ := h
                obtain ⟨x3, hv4, h⟩ := h
                refine g_getf (pc' := 53) d_166_50 rfl st_166_49 hw2 hv4 ?_
                refine g_ic_le (pc' := 56) (pt := 60) d_166_53 (by decide) rfl (fun c => ?_) (fun c => ?_)
                · replace h := h.1 c
                  refine g_aloadn (pc' := 61) d_166_60 rfl rfl ?_
                  refine g_iloadn (pc' := 62) d_166_61 rfl rfl ?_
                  obtain ⟨r7, w5, hk6, h⟩ := h
                  refine g_callV (pc' := 65) d_166_62 rfl st_166_371 na_167 ml_167 rfl rfl rfl rm_166_167 rfl rfl ow_167 hw2 hk6 ?_
                  refine g_if_ne (pc' := 68) (pt := 72) d_166_65 (by decide) rfl (fun c => ?_) (fun c => ?_)
                  · replace h := h.1 c
                    refine g_aloadn (pc' := 73) d_166_72 rfl rfl ?_
                    obtain ⟨fs8, hw9, h⟩ := h
                    obtain ⟨b10, hv11, h⟩ := h
                    refine g_getf (pc' := 76) d_166_73 rfl st_166_95 hw9 hv11 ?_
                    refine g_lconst (pc' := 77) d_166_76 rfl cl_0 ?_
                    refine g_aloadn (pc' := 78) d_166_77 rfl rfl ?_
                    obtain ⟨b12, hv13, h⟩ := h
                    refine g_getf (pc' := 81) d_166_78 rfl st_166_103 hw9 hv13 ?_
                    refine g_iloadn (pc' := 82) d_166_81 rfl rfl ?_
                    obtain ⟨n14, f15, hw16, h⟩ := h
                    obtain ⟨hc17, h⟩ := h
                    refine g_lald (pc' := 83) d_166_82 rfl hw16 hc17 ?_
                    refine g_iloadn (pc' := 84) d_166_83 rfl rfl ?_
                    refine g_lshl (pc' := 85) d_166_84 rfl ?_
                    refine g_ldc2 (pc' := 88) d_166_85 rfl st_166_376 cL_30030 ?_
                    refine g_iloadn (pc' := 89) d_166_88 rfl rfl ?_
                    refine g_iconst (pc' := 90) d_166_89 rfl ci_1 ?_
                    refine g_iadd (pc' := 91) d_166_90 rfl ?_
                    refine g_i2l (pc' := 92) d_166_91 rfl ?_
                    refine g_lmul (pc' := 93) d_166_92 rfl ?_
                    obtain ⟨fs18, hw19, h⟩ := h
                    obtain ⟨w20, hk21, h⟩ := h
                    refine g_callV (pc' := 96) d_166_93 rfl st_166_327 na_16 ml_16 rfl rfl rfl rm_166_16 rfl rfl ow_16 hw19 hk21 ?_
                    refine g_iloadn (pc' := 97) d_166_96 rfl rfl ?_
                    refine g_if_ne (pc' := 100) (pt := 110) d_166_97 (by decide) rfl (fun c => ?_) (fun c => ?_)
                    · replace h := h.1 c
                      refine g_aloadn (pc' := 111) d_166_110 rfl rfl ?_
                      obtain ⟨fs22, hw23, h⟩ := h
                      obtain ⟨b24, hv25, h⟩ := h
                      refine g_getf (pc' := 114) d_166_111 rfl st_166_95 hw23 hv25 ?_
                      obtain ⟨fs26, hw27, h⟩ := h
                      obtain ⟨x28, hv29, h⟩ := h
                      refine g_getf (pc' := 117) d_166_114 rfl st_166_349 hw27 hv29 ?_
                      exact g_lret d_166_117 rt_166 h
                    · replace h := h.2 c
                      refine g_aloadn (pc' := 101) d_166_100 rfl rfl ?_
                      obtain ⟨fs30, hw31, h⟩ := h
                      obtain ⟨b32, hv33, h⟩ := h
                      refine g_getf (pc' := 104) d_166_101 rfl st_166_95 hw31 hv33 ?_
                      obtain ⟨fs34, hw35, h⟩ := h
                      obtain ⟨r38, w36, hk37, h⟩ := h
                      refine g_callV (pc' := 107) d_166_104 rfl st_166_345 na_150 ml_150 rfl rfl rfl rm_166_150 rfl rfl ow_150 hw35 hk37 ?_
                      refine g_goto (pt := 117) d_166_107 (by decide) ?_
                      exact g_lret d_166_117 rt_166 h
                  · replace h := h.2 c
                    refine g_ldc2 (pc' := 71) d_166_68 rfl st_166_374 cL_m3 ?_
                    exact g_lret d_166_71 rt_166 h
                · replace h := h.2 c
                  refine g_ldc2 (pc' := 59) d_166_56 rfl st_166_331 cL_m2 ?_
                  exact g_lret d_166_59 rt_166 h
              · replace h := h.2 c
                refine g_ldc2 (pc' := 47) d_166_44 rfl st_166_166 cL_m9223372036854775808 ?_
                exact g_lret d_166_47 rt_166 h
          · replace h := h.2 c
            refine g_ldc2 (pc' := 29) d_166_26 rfl st_166_166 cL_m9223372036854775808 ?_
            exact g_lret d_166_29 rt_166 h
-- 167 BernoulliWays.splitInTriangles(I)Z
theorem S_167_0 {a0 : Nat} {i1 : Int32} {w : xW} {r : Option Value × xW} (h : (i1 < (1 : Int32) → r = (some (.int (0 : Int32)), w)) ∧ (¬ (i1 < (1 : Int32)) → ∃ fs1, w[a0]? = some (.inr (0, fs1)) ∧ ∃ b3, fs1[14]? = some (.ref b3) ∧ ∃ n5 f6, w[b3]? = some (.inl (.inr (n5, f6))) ∧ ((i1 + (1 : Int32)) < (Int32.ofNat n5) → xGo 167 20 [some (.ref a0), some (.int i1), some (.int (1 : Int32)), none, none, none] [] w r) ∧ (¬ ((i1 + (1 : Int32)) < (Int32.ofNat n5)) → r = (some (.int (0 : Int32)), w)))) : xGo 167 0 [some (.ref a0), some (.int i1), none, none, none, none] [] w r := by
  refine g_iloadn (pc' := 1) d_167_0 rfl rfl ?_
  refine g_iconst (pc' := 2) d_167_1 rfl ci_1 ?_
  refine g_ic_lt (pc' := 5) (pt := 16) d_167_2 (by decide) rfl (fun c => ?_) (fun c => ?_)
  · replace h := h.1 c
    refine g_iconst (pc' := 17) d_167_16 rfl ci_0 ?_
    exact g_zret d_167_17 rt_167 (Or.inl rfl) h
  · replace h := h.2 c
    refine g_iloadn (pc' := 6) d_167_5 rfl rfl ?_
    refine g_iconst (pc' := 7) d_167_6 rfl ci_1 ?_
    refine g_iadd (pc' := 8) d_167_7 rfl ?_
    refine g_aloadn (pc' := 9) d_167_8 rfl rfl ?_
    obtain ⟨fs1, hw2, h⟩ := h
    obtain ⟨b3, hv4, h⟩ := h
    refine g_getf (pc' := 12) d_167_9 rfl st_167_99 hw2 hv4 ?_
    obtain ⟨n5, f6, hw7, h⟩ := h
    refine g_lenl (pc' := 13) d_167_12 rfl hw7 ?_
    refine g_ic_lt (pc' := 16) (pt := 18) d_167_13 (by decide) rfl (fun c => ?_) (fun c => ?_)
    · replace h := h.1 c
      refine g_iconst (pc' := 19) d_167_18 rfl ci_1 ?_
      refine g_istoren (pc' := 20) (l' := [some (.ref a0), some (.int i1), some (.int (1 : Int32)), none, none, none]) d_167_19 rfl ml_167 rfl rfl ?_
      exact h
    · replace h := h.2 c
      refine g_iconst (pc' := 17) d_167_16 rfl ci_0 ?_
      exact g_zret d_167_17 rt_167 (Or.inl rfl) h
theorem S_167_20 {a0 : Nat} {i1 : Int32} {i2 : Int32} {w : xW} {r : Option Value × xW} (h : ((i1 + (1 : Int32)) < i2 → ∀ v1 : Int32, v1 = ((i1 + (1 : Int32)) / (2 : Int32)) → xGo 167 88 [some (.ref a0), some (.int i1), some (.int v1), none, none, none] [] w r) ∧ (¬ ((i1 + (1 : Int32)) < i2) → ∀ v2 : Int32, v2 = ((i1 + (1 : Int32)) - i2) → ∃ fs3, w[a0]? = some (.inr (0, fs3)) ∧ ∃ b5, fs3[4]? = some (.ref b5) ∧ ∃ fs7, w[b5]? = some (.inr (4, fs7)) ∧ ∃ r11 w9, xCall 146 [.ref b5, .int v2, .long (30030 : Int64)] w (some (.long r11), w9) ∧ ∃ r14 w12, xCall 149 [.int v2] w9 (some (.int r14), w12) ∧ ∀ v15 : Int64, v15 = (r11 + ((r14.toInt64) * (30030 : Int64))) → ∃ fs16, w12[a0]? = some (.inr (0, fs16)) ∧ ∃ b18, fs16[14]? = some (.ref b18) ∧ ∃ b20, fs16[0]? = some (.ref b20) ∧ ∃ fs22, w12[b20]? = some (.inr (1, fs22)) ∧ ∃ r26 w24, xCall 39 [.ref b20, .int (i1 + (1 : Int32)), .int i2] w12 (some (.long r26), w24) ∧ ∃ n27 f28, w24[b18]? = some (.inl (.inr (n27, f28))) ∧ ∀ v30 : Int64, v30 = (r26 * v15) → (¬ (i2 < 0 ∨ n27 ≤ i2.toNatClampNeg)) ∧ ∀ w32, w32 = w24.set b18 (.inl (.inr (n27, (vp_updL f28 i2.toNatClampNeg v30)))) → ∀ v33 : Int32, v33 = i2 + (1 : Int32) → xGo 167 20 [some (.ref a0), some (.int i1), some (.int v33), none, none, none] [] w32 r)) : xGo 167 20 [some (.ref a0), some (.int i1), some (.int i2), none, none, none] [] w r := by
  refine g_iloadn (pc' := 21) d_167_20 rfl rfl ?_
  refine g_iloadn (pc' := 22) d_167_21 rfl rfl ?_
  refine g_iconst (pc' := 23) d_167_22 rfl ci_1 ?_
  refine g_iadd (pc' := 24) d_167_23 rfl ?_
  refine g_ic_gt (pc' := 27) (pt := 82) d_167_24 (by decide) rfl (fun c => ?_) (fun c => ?_)
  · replace h := h.1 c
    refine g_iloadn (pc' := 83) d_167_82 rfl rfl ?_
    refine g_iconst (pc' := 84) d_167_83 rfl ci_1 ?_
    refine g_iadd (pc' := 85) d_167_84 rfl ?_
    refine g_iconst (pc' := 86) d_167_85 rfl ci_2 ?_
    refine g_idiv (pc' := 87) d_167_86 rfl (by decide) ?_
    have h := h _ rfl
    refine g_istoren (pc' := 88) (l' := [some (.ref a0), some (.int i1), some (.int (((i1 + (1 : Int32)) / (2 : Int32)))), none, none, none]) d_167_87 rfl ml_167 rfl rfl ?_
    exact h
  · replace h := h.2 c
    refine g_iloadn (pc' := 28) d_167_27 rfl rfl ?_
    refine g_iconst (pc' := 29) d_167_28 rfl ci_1 ?_
    refine g_iadd (pc' := 30) d_167_29 rfl ?_
    refine g_iloadn (pc' := 31) d_167_30 rfl rfl ?_
    refine g_isub (pc' := 32) d_167_31 rfl ?_
    have h := h _ rfl
    refine g_istoren (pc' := 33) (l' := [some (.ref a0), some (.int i1), some (.int i2), some (.int (((i1 + (1 : Int32)) - i2))), none, none]) d_167_32 rfl ml_167 rfl rfl ?_
    refine g_aloadn (pc' := 34) d_167_33 rfl rfl ?_
    obtain ⟨fs3, hw4, h⟩ := h
    obtain ⟨b5, hv6, h⟩ := h
    refine g_getf (pc' := 37) d_167_34 rfl st_167_39 hw4 hv6 ?_
    refine g_iloadn (pc' := 38) d_167_37 rfl rfl ?_
    refine g_ldc2 (pc' := 41) d_167_38 rfl st_167_376 cL_30030 ?_
    obtain ⟨fs7, hw8, h⟩ := h
    obtain ⟨r11, w9, hk10, h⟩ := h
    refine g_callV (pc' := 44) d_167_41 rfl st_167_461 na_146 ml_146 rfl rfl rfl rm_167_146 rfl rfl ow_146 hw8 hk10 ?_
    refine g_iloadn (pc' := 45) d_167_44 rfl rfl ?_
    obtain ⟨r14, w12, hk13, h⟩ := h
    refine g_callS (pc' := 48) d_167_45 rfl st_167_333 (Or.inl rfl) na_149 ml_149 rfl rfl rfl rm_167_149 rfl rfl hk13 ?_
    refine g_i2l (pc' := 49) d_167_48 rfl ?_
    refine g_ldc2 (pc' := 52) d_167_49 rfl st_167_376 cL_30030 ?_
    refine g_lmul (pc' := 53) d_167_52 rfl ?_
    refine g_ladd (pc' := 54) d_167_53 rfl ?_
    have h := h _ rfl
    refine g_lstore (pc' := 56) (l' := [some (.ref a0), some (.int i1), some (.int i2), some (.int (((i1 + (1 : Int32)) - i2))), some (.long ((r11 + ((r14.toInt64) * (30030 : Int64))))), none]) d_167_54 rfl ml_167 rfl rfl ?_
    refine g_aloadn (pc' := 57) d_167_56 rfl rfl ?_
    obtain ⟨fs16, hw17, h⟩ := h
    obtain ⟨b18, hv19, h⟩ := h
    refine g_getf (pc' := 60) d_167_57 rfl st_167_99 hw17 hv19 ?_
    refine g_iloadn (pc' := 61) d_167_60 rfl rfl ?_
    refine g_aloadn (pc' := 62) d_167_61 rfl rfl ?_
    obtain ⟨b20, hv21, h⟩ := h
    refine g_getf (pc' := 65) d_167_62 rfl st_167_14 hw17 hv21 ?_
    refine g_iloadn (pc' := 66) d_167_65 rfl rfl ?_
    refine g_iconst (pc' := 67) d_167_66 rfl ci_1 ?_
    refine g_iadd (pc' := 68) d_167_67 rfl ?_
    refine g_iloadn (pc' := 69) d_167_68 rfl rfl ?_
    obtain ⟨fs22, hw23, h⟩ := h
    obtain ⟨r26, w24, hk25, h⟩ := h
    refine g_callV (pc' := 72) d_167_69 rfl st_167_336 na_39 ml_39 rfl rfl rfl rm_167_39 rfl rfl ow_39 hw23 hk25 ?_
    refine g_lload (pc' := 74) d_167_72 rfl rfl ?_
    refine g_lmul (pc' := 75) d_167_74 rfl ?_
    obtain ⟨n27, f28, hw29, h⟩ := h
    have h := h _ rfl
    obtain ⟨hc31, h⟩ := h
    have h := h _ rfl
    refine g_last (pc' := 76) d_167_75 rfl hw29 hc31 ?_
    have h := h _ rfl
    refine g_iinc (pc' := 79) (l' := [some (.ref a0), some (.int i1), some (.int (i2 + (1 : Int32))), some (.int (((i1 + (1 : Int32)) - i2))), some (.long ((r11 + ((r14.toInt64) * (30030 : Int64))))), none]) d_167_76 rfl rfl ci_1 ml_167 rfl rfl ?_
    refine g_goto (pt := 20) d_167_79 (by decide) ?_
    exact xGo.more (xle_s (xle_s (xle_s (xle_n (xle_n (xle_n xle_0)))))) h
theorem S_167_88 {a0 : Nat} {i1 : Int32} {i2 : Int32} {w : xW} {r : Option Value × xW} (h : (i2 < (1 : Int32) → r = (some (.int (1 : Int32)), w)) ∧ (¬ (i2 < (1 : Int32)) → ∃ fs1, w[a0]? = some (.inr (0, fs1)) ∧ ∃ b3, fs1[14]? = some (.ref b3) ∧ ∃ n5 f6, w[b3]? = some (.inl (.inr (n5, f6))) ∧ (¬ (((2 : Int32) * i2) < 0 ∨ n5 ≤ ((2 : Int32) * i2).toNatClampNeg)) ∧ ∀ v9 : Int64, v9 = (f6 ((2 : Int32) * i2).toNatClampNeg) → ∃ b10, fs1[15]? = some (.ref b10) ∧ ∃ n12 f13, w[b10]? = some (.inl (.inr (n12, f13))) ∧ (¬ (i2 < 0 ∨ n12 ≤ i2.toNatClampNeg)) ∧ ∀ w16, w16 = w.set b10 (.inl (.inr (n12, (vp_updL f13 i2.toNatClampNeg v9)))) → xGo 167 112 [some (.ref a0), some (.int i1), some (.int i2), some (.long v9), none, some (.int (0 : Int32))] [] w16 r)) : xGo 167 88 [some (.ref a0), some (.int i1), some (.int i2), none, none, none] [] w r := by
  refine g_iloadn (pc' := 89) d_167_88 rfl rfl ?_
  refine g_iconst (pc' := 90) d_167_89 rfl ci_1 ?_
  refine g_ic_lt (pc' := 93) (pt := 171) d_167_90 (by decide) rfl (fun c => ?_) (fun c => ?_)
  · replace h := h.1 c
    refine g_iconst (pc' := 172) d_167_171 rfl ci_1 ?_
    exact g_zret d_167_172 rt_167 (Or.inr rfl) h
  · replace h := h.2 c
    refine g_aloadn (pc' := 94) d_167_93 rfl rfl ?_
    obtain ⟨fs1, hw2, h⟩ := h
    obtain ⟨b3, hv4, h⟩ := h
    refine g_getf (pc' := 97) d_167_94 rfl st_167_99 hw2 hv4 ?_
    refine g_iconst (pc' := 98) d_167_97 rfl ci_2 ?_
    refine g_iloadn (pc' := 99) d_167_98 rfl rfl ?_
    refine g_imul (pc' := 100) d_167_99 rfl ?_
    obtain ⟨n5, f6, hw7, h⟩ := h
    obtain ⟨hc8, h⟩ := h
    refine g_lald (pc' := 101) d_167_100 rfl hw7 hc8 ?_
    have h := h _ rfl
    refine g_lstoren (pc' := 102) (l' := [some (.ref a0), some (.int i1), some (.int i2), some (.long ((f6 ((2 : Int32) * i2).toNatClampNeg))), none, none]) d_167_101 rfl ml_167 rfl rfl ?_
    refine g_aloadn (pc' := 103) d_167_102 rfl rfl ?_
    obtain ⟨b10, hv11, h⟩ := h
    refine g_getf (pc' := 106) d_167_103 rfl st_167_103 hw2 hv11 ?_
    refine g_iloadn (pc' := 107) d_167_106 rfl rfl ?_
    refine g_lloadn (pc' := 108) d_167_107 rfl rfl ?_
    obtain ⟨n12, f13, hw14, h⟩ := h
    obtain ⟨hc15, h⟩ := h
    have h := h _ rfl
    refine g_last (pc' := 109) d_167_108 rfl hw14 hc15 ?_
    refine g_iconst (pc' := 110) d_167_109 rfl ci_0 ?_
    refine g_istore (pc' := 112) (l' := [some (.ref a0), some (.int i1), some (.int i2), some (.long ((f6 ((2 : Int32) * i2).toNatClampNeg))), none, some (.int (0 : Int32))]) d_167_110 rfl ml_167 rfl rfl ?_
    exact h
theorem S_167_112 {a0 : Nat} {i1 : Int32} {i2 : Int32} {l3 : Int64} {i5 : Int32} {w : xW} {r : Option Value × xW} (h : (i2 < i5 → ∃ fs1, w[a0]? = some (.inr (0, fs1)) ∧ ∃ b3, fs1[14]? = some (.ref b3) ∧ ∃ n5 f6, w[b3]? = some (.inl (.inr (n5, f6))) ∧ (¬ ((((2 : Int32) * i2) - (1 : Int32)) < 0 ∨ n5 ≤ (((2 : Int32) * i2) - (1 : Int32)).toNatClampNeg)) ∧ ((f6 (((2 : Int32) * i2) - (1 : Int32)).toNatClampNeg) = (0 : Int64) → ∀ v9 : Int32, v9 = i2 + (-1 : Int32) → xGo 167 88 [some (.ref a0), some (.int i1), some (.int v9), none, none, none] [] w r) ∧ (¬ ((f6 (((2 : Int32) * i2) - (1 : Int32)).toNatClampNeg) = (0 : Int64)) → r = (some (.int (0 : Int32)), w))) ∧ (¬ (i2 < i5) → ∃ fs10, w[a0]? = some (.inr (0, fs10)) ∧ ∃ b12, fs10[14]? = some (.ref b12) ∧ ∃ n14 f15, w[b12]? = some (.inl (.inr (n14, f15))) ∧ (¬ ((i2 + i5) < 0 ∨ n14 ≤ (i2 + i5).toNatClampNeg)) ∧ ∃ b18, fs10[0]? = some (.ref b18) ∧ ∃ fs20, w[b18]? = some (.inr (1, fs20)) ∧ ∃ r24 w22, xCall 39 [.ref b18, .int i2, .int i5] w (some (.long r24), w22) ∧ ∃ n25 f26, w22[b12]? = some (.inl (.inr (n25, f26))) ∧ ∀ v28 : Int64, v28 = ((f15 (i2 + i5).toNatClampNeg) - (l3 * r24)) → (¬ ((i2 + i5) < 0 ∨ n25 ≤ (i2 + i5).toNatClampNeg)) ∧ ∀ w30, w30 = w22.set b12 (.inl (.inr (n25, (vp_updL f26 (i2 + i5).toNatClampNeg v28)))) → ∀ v31 : Int32, v31 = i5 + (1 : Int32) → xGo 167 112 [some (.ref a0), some (.int i1), some (.int i2), some (.long l3), none, some (.int v31)] [] w30 r)) : xGo 167 112 [some (.ref a0), some (.int i1), some (.int i2), some (.long l3), none, some (.int i5)] [] w r := by
  refine g_iload (pc' := 114) d_167_112 rfl rfl ?_
  refine g_iloadn (pc' := 115) d_167_114 rfl rfl ?_
  refine g_ic_gt (pc' := 118) (pt := 148) d_167_115 (by decide) rfl (fun c => ?_) (fun c => ?_)
  · replace h := h.1 c
    refine g_aloadn (pc' := 149) d_167_148 rfl rfl ?_
    obtain ⟨fs1, hw2, h⟩ := h
    obtain ⟨b3, hv4, h⟩ := h
    refine g_getf (pc' := 152) d_167_149 rfl st_167_99 hw2 hv4 ?_
    refine g_iconst (pc' := 153) d_167_152 rfl ci_2 ?_
    refine g_iloadn (pc' := 154) d_167_153 rfl rfl ?_
    refine g_imul (pc' := 155) d_167_154 rfl ?_
    refine g_iconst (pc' := 156) d_167_155 rfl ci_1 ?_
    refine g_isub (pc' := 157) d_167_156 rfl ?_
    obtain ⟨n5, f6, hw7, h⟩ := h
    obtain ⟨hc8, h⟩ := h
    refine g_lald (pc' := 158) d_167_157 rfl hw7 hc8 ?_
    refine g_lconst (pc' := 159) d_167_158 rfl cl_0 ?_
    refine g_lc_eq (pc' := 163) (pm := 160) (pt := 165) d_167_159 rfl d_167_160 (by decide) rfl (fun c => ?_) (fun c => ?_)
    · replace h := h.1 c
      have h := h _ rfl
      refine g_iinc (pc' := 168) (l' := [some (.ref a0), some (.int i1), some (.int (i2 + (-1 : Int32))), some (.long l3), none, some (.int i5)]) d_167_165 rfl rfl ci_m1 ml_167 rfl rfl ?_
      refine g_goto (pt := 88) d_167_168 (by decide) ?_
      exact xGo.more (xle_s (xle_s (xle_s (xle_n (xle_n (xle_n xle_0)))))) h
    · replace h := h.2 c
      refine g_iconst (pc' := 164) d_167_163 rfl ci_0 ?_
      exact g_zret d_167_164 rt_167 (Or.inl rfl) h
  · replace h := h.2 c
    refine g_aloadn (pc' := 119) d_167_118 rfl rfl ?_
    obtain ⟨fs10, hw11, h⟩ := h
    obtain ⟨b12, hv13, h⟩ := h
    refine g_getf (pc' := 122) d_167_119 rfl st_167_99 hw11 hv13 ?_
    refine g_iloadn (pc' := 123) d_167_122 rfl rfl ?_
    refine g_iload (pc' := 125) d_167_123 rfl rfl ?_
    refine g_iadd (pc' := 126) d_167_125 rfl ?_
    refine g_dup2 (pc' := 127) d_167_126 rfl ⟨rfl, rfl⟩ ?_
    obtain ⟨n14, f15, hw16, h⟩ := h
    obtain ⟨hc17, h⟩ := h
    refine g_lald (pc' := 128) d_167_127 rfl hw16 hc17 ?_
    refine g_lloadn (pc' := 129) d_167_128 rfl rfl ?_
    refine g_aloadn (pc' := 130) d_167_129 rfl rfl ?_
    obtain ⟨b18, hv19, h⟩ := h
    refine g_getf (pc' := 133) d_167_130 rfl st_167_14 hw11 hv19 ?_
    refine g_iloadn (pc' := 134) d_167_133 rfl rfl ?_
    refine g_iload (pc' := 136) d_167_134 rfl rfl ?_
    obtain ⟨fs20, hw21, h⟩ := h
    obtain ⟨r24, w22, hk23, h⟩ := h
    refine g_callV (pc' := 139) d_167_136 rfl st_167_336 na_39 ml_39 rfl rfl rfl rm_167_39 rfl rfl ow_39 hw21 hk23 ?_
    refine g_lmul (pc' := 140) d_167_139 rfl ?_
    refine g_lsub (pc' := 141) d_167_140 rfl ?_
    obtain ⟨n25, f26, hw27, h⟩ := h
    have h := h _ rfl
    obtain ⟨hc29, h⟩ := h
    have h := h _ rfl
    refine g_last (pc' := 142) d_167_141 rfl hw27 hc29 ?_
    have h := h _ rfl
    refine g_iinc (pc' := 145) (l' := [some (.ref a0), some (.int i1), some (.int i2), some (.long l3), none, some (.int (i5 + (1 : Int32)))]) d_167_142 rfl rfl ci_1 ml_167 rfl rfl ?_
    refine g_goto (pt := 112) d_167_145 (by decide) ?_
    exact h
-- 168 BernoulliWays.poly(III)J
theorem S_168_0 {a0 : Nat} {i1 : Int32} {i2 : Int32} {i3 : Int32} {w : xW} {r : Option Value × xW} (h : ∃ r3 w1, xCall 24 [.int i1] w (some (.int r3), w1) ∧ (r3 = 0 → r = (some (.long (-9223372036854775808 : Int64)), w1)) ∧ (¬ (r3 = 0) → (i2 < 0 → r = (some (.long (-9223372036854775808 : Int64)), w1)) ∧ (¬ (i2 < 0) → (i1 < i2 → r = (some (.long (-9223372036854775808 : Int64)), w1)) ∧ (¬ (i1 < i2) → ∃ r6 w4, xCall 116 [.int i3] w1 (some (.int r6), w4) ∧ (r6 = 0 → r = (some (.long (-9223372036854775808 : Int64)), w4)) ∧ (¬ (r6 = 0) → ∃ fs7, w4[a0]? = some (.inr (0, fs7)) ∧ ∃ x9, fs7[7]? = some (.int x9) ∧ ((i1 - i2) ≤ x9 → ∃ b11, fs7[4]? = some (.ref b11) ∧ ∃ b13, fs7[13]? = some (.ref b13) ∧ ∃ fs15, w4[b11]? = some (.inr (4, fs15)) ∧ ∃ w17, xCall 100 [.ref b11, .int (i1 - i2), .ref b13] w4 (none, w17) ∧ ∃ fs19, w17[a0]? = some (.inr (0, fs19)) ∧ ∃ b21, fs19[13]? = some (.ref b21) ∧ ∃ b23, fs19[0]? = some (.ref b23) ∧ ∃ fs25, w17[b23]? = some (.inr (1, fs25)) ∧ ∃ r29 w27, xCall 39 [.ref b23, .int i1, .int i2] w17 (some (.long r29), w27) ∧ ∃ fs30, w27[b21]? = some (.inr (5, fs30)) ∧ ∃ w32, xCall 43 [.ref b21, .long r29] w27 (none, w32) ∧ ∃ fs34, w32[a0]? = some (.inr (0, fs34)) ∧ ∃ b36, fs34[13]? = some (.ref b36) ∧ ∃ fs38, w32[b36]? = some (.inr (5, fs38)) ∧ ∃ r42 w40, xCall 117 [.ref b36, .int i3] w32 (some (.long r42), w40) ∧ r = (some (.long r42), w40)) ∧ (¬ ((i1 - i2) ≤ x9) → r = (some (.long (-9223372036854775808 : Int64)), w4))))))) : xGo 168 0 [some (.ref a0), some (.int i1), some (.int i2), some (.int i3)] [] w r := by
  refine g_iloadn (pc' := 1) d_168_0 rfl rfl ?_
  obtain ⟨r3, w1, hk2, h⟩ := h
  refine g_callS (pc' := 4) d_168_1 rfl st_168_120 (Or.inl rfl) na_24 ml_24 rfl rfl rfl rm_168_24 rfl rfl hk2 ?_
  refine g_if_eq (pc' := 7) (pt := 33) d_168_4 (by decide) rfl (fun c => ?_) (fun c => ?_)
  · replace h := h.1 c
    refine g_ldc2 (pc' := 36) d_168_33 rfl st_168_166 cL_m9223372036854775808 ?_
    exact g_lret d_168_36 rt_168 h
  · replace h := h.2 c
    refine g_iloadn (pc' := 8) d_168_7 rfl rfl ?_
    refine g_if_lt (pc' := 11) (pt := 33) d_168_8 (by decide) rfl (fun c => ?_) (fun c => ?_)
    · replace h := h.1 c
      refine g_ldc2 (pc' := 36) d_168_33 rfl st_168_166 cL_m9223372036854775808 ?_
      exact g_lret d_168_36 rt_168 h
    · replace h := h.2 c
      refine g_iloadn (pc' := 12) d_168_11 rfl rfl ?_
      refine g_iloadn (pc' := 13) d_168_12 rfl rfl ?_
      refine g_ic_gt (pc' := 16) (pt := 33) d_168_13 (by decide) rfl (fun c => ?_) (fun c => ?_)
      · replace h := h.1 c
        refine g_ldc2 (pc' := 36) d_168_33 rfl st_168_166 cL_m9223372036854775808 ?_
        exact g_lret d_168_36 rt_168 h
      · replace h := h.2 c
        refine g_iloadn (pc' := 17) d_168_16 rfl rfl ?_
        obtain ⟨r6, w4, hk5, h⟩ := h
        refine g_callS (pc' := 20) d_168_17 rfl st_168_153 (Or.inl rfl) na_116 ml_116 rfl rfl rfl rm_168_116 rfl rfl hk5 ?_
        refine g_if_eq (pc' := 23) (pt := 33) d_168_20 (by decide) rfl (fun c => ?_) (fun c => ?_)
        · replace h := h.1 c
          refine g_ldc2 (pc' := 36) d_168_33 rfl st_168_166 cL_m9223372036854775808 ?_
          exact g_lret d_168_36 rt_168 h
        · replace h := h.2 c
          refine g_iloadn (pc' := 24) d_168_23 rfl rfl ?_
          refine g_iloadn (pc' := 25) d_168_24 rfl rfl ?_
          refine g_isub (pc' := 26) d_168_25 rfl ?_
          refine g_aloadn (pc' := 27) d_168_26 rfl rfl ?_
          obtain ⟨fs7, hw8, h⟩ := h
          obtain ⟨x9, hv10, h⟩ := h
          refine g_getf (pc' := 30) d_168_27 rfl st_168_49 hw8 hv10 ?_
          refine g_ic_le (pc' := 33) (pt := 37) d_168_30 (by decide) rfl (fun c => ?_) (fun c => ?_)
          · replace h := h.1 c
            refine g_aloadn (pc' := 38) d_168_37 rfl rfl ?_
            obtain ⟨b11, hv12, h⟩ := h
            refine g_getf (pc' := 41) d_168_38 rfl st_168_39 hw8 hv12 ?_
            refine g_iloadn (pc' := 42) d_168_41 rfl rfl ?_
            refine g_iloadn (pc' := 43) d_168_42 rfl rfl ?_
            refine g_isub (pc' := 44) d_168_43 rfl ?_
            refine g_aloadn (pc' := 45) d_168_44 rfl rfl ?_
            obtain ⟨b13, hv14, h⟩ := h
            refine g_getf (pc' := 48) d_168_45 rfl st_168_95 hw8 hv14 ?_
            obtain ⟨fs15, hw16, h⟩ := h
            obtain ⟨w17, hk18, h⟩ := h
            refine g_callV (pc' := 51) d_168_48 rfl st_168_168 na_100 ml_100 rfl rfl rfl rm_168_100 rfl rfl ow_100 hw16 hk18 ?_
            refine g_aloadn (pc' := 52) d_168_51 rfl rfl ?_
            obtain ⟨fs19, hw20, h⟩ := h
            obtain ⟨b21, hv22, h⟩ := h
            refine g_getf (pc' := 55) d_168_52 rfl st_168_95 hw20 hv22 ?_
            refine g_aloadn (pc' := 56) d_168_55 rfl rfl ?_
            obtain ⟨b23, hv24, h⟩ := h
            refine g_getf (pc' := 59) d_168_56 rfl st_168_14 hw20 hv24 ?_
            refine g_iloadn (pc' := 60) d_168_59 rfl rfl ?_
            refine g_iloadn (pc' := 61) d_168_60 rfl rfl ?_
            obtain ⟨fs25, hw26, h⟩ := h
            obtain ⟨r29, w27, hk28, h⟩ := h
            refine g_callV (pc' := 64) d_168_61 rfl st_168_336 na_39 ml_39 rfl rfl rfl rm_168_39 rfl rfl ow_39 hw26 hk28 ?_
            obtain ⟨fs30, hw31, h⟩ := h
            obtain ⟨w32, hk33, h⟩ := h
            refine g_callV (pc' := 67) d_168_64 rfl st_168_339 na_43 ml_43 rfl rfl rfl rm_168_43 rfl rfl ow_43 hw31 hk33 ?_
            refine g_aloadn (pc' := 68) d_168_67 rfl rfl ?_
            obtain ⟨fs34, hw35, h⟩ := h
            obtain ⟨b36, hv37, h⟩ := h
            refine g_getf (pc' := 71) d_168_68 rfl st_168_95 hw35 hv37 ?_
            refine g_iloadn (pc' := 72) d_168_71 rfl rfl ?_
            obtain ⟨fs38, hw39, h⟩ := h
            obtain ⟨r42, w40, hk41, h⟩ := h
            refine g_callV (pc' := 75) d_168_72 rfl st_168_171 na_117 ml_117 rfl rfl rfl rm_168_117 rfl rfl ow_117 hw39 hk41 ?_
            exact g_lret d_168_75 rt_168 h
          · replace h := h.2 c
            refine g_ldc2 (pc' := 36) d_168_33 rfl st_168_166 cL_m9223372036854775808 ?_
            exact g_lret d_168_36 rt_168 h
-- 169 BernoulliWays.value(IIII)J
theorem S_169_0 {a0 : Nat} {i1 : Int32} {i2 : Int32} {i3 : Int32} {i4 : Int32} {w : xW} {r : Option Value × xW} (h : (i1 < 0 → r = (some (.long (-9223372036854775808 : Int64)), w)) ∧ (¬ (i1 < 0) → ((10 : Int32) < i1 → r = (some (.long (-9223372036854775808 : Int64)), w)) ∧ (¬ ((10 : Int32) < i1) → (i2 < (-9 : Int32) → r = (some (.long (-9223372036854775808 : Int64)), w)) ∧ (¬ (i2 < (-9 : Int32)) → ((9 : Int32) < i2 → r = (some (.long (-9223372036854775808 : Int64)), w)) ∧ (¬ ((9 : Int32) < i2) → (i3 < (1 : Int32) → r = (some (.long (-9223372036854775808 : Int64)), w)) ∧ (¬ (i3 < (1 : Int32)) → ((6 : Int32) < i3 → r = (some (.long (-9223372036854775808 : Int64)), w)) ∧ (¬ ((6 : Int32) < i3) → ∃ r3 w1, xCall 116 [.int i4] w (some (.int r3), w1) ∧ (r3 = 0 → r = (some (.long (-9223372036854775808 : Int64)), w1)) ∧ (¬ (r3 = 0) → ∃ fs4, w1[a0]? = some (.inr (0, fs4)) ∧ ∃ x6, fs4[7]? = some (.int x6) ∧ (i1 ≤ x6 → xGo 169 61 [some (.ref a0), some (.int i1), some (.int i2), some (.int i3), some (.int i4), some (.long (2310 : Int64)), none, some (.int (0 : Int32))] [] w1 r) ∧ (¬ (i1 ≤ x6) → r = (some (.long (-9223372036854775808 : Int64)), w1)))))))))) : xGo 169 0 [some (.ref a0), some (.int i1), some (.int i2), some (.int i3), some (.int i4), none, none, none] [] w r := by
  refine g_iloadn (pc' := 1) d_169_0 rfl rfl ?_
  refine g_if_lt (pc' := 4) (pt := 49) d_169_1 (by decide) rfl (fun c => ?_) (fun c => ?_)
  · replace h := h.1 c
    refine g_ldc2 (pc' := 52) d_169_49 rfl st_169_166 cL_m9223372036854775808 ?_
    exact g_lret d_169_52 rt_169 h
  · replace h := h.2 c
    refine g_iloadn (pc' := 5) d_169_4 rfl rfl ?_
    refine g_bipush (pc' := 7) d_169_5 rfl cb_10 ?_
    refine g_ic_gt (pc' := 10) (pt := 49) d_169_7 (by decide) rfl (fun c => ?_) (fun c => ?_)
    · replace h := h.1 c
      refine g_ldc2 (pc' := 52) d_169_49 rfl st_169_166 cL_m9223372036854775808 ?_
      exact g_lret d_169_52 rt_169 h
    · replace h := h.2 c
      refine g_iloadn (pc' := 11) d_169_10 rfl rfl ?_
      refine g_bipush (pc' := 13) d_169_11 rfl cb_m9 ?_
      refine g_ic_lt (pc' := 16) (pt := 49) d_169_13 (by decide) rfl (fun c => ?_) (fun c => ?_)
      · replace h := h.1 c
        refine g_ldc2 (pc' := 52) d_169_49 rfl st_169_166 cL_m9223372036854775808 ?_
        exact g_lret d_169_52 rt_169 h
      · replace h := h.2 c
        refine g_iloadn (pc' := 17) d_169_16 rfl rfl ?_
        refine g_bipush (pc' := 19) d_169_17 rfl cb_9 ?_
        refine g_ic_gt (pc' := 22) (pt := 49) d_169_19 (by decide) rfl (fun c => ?_) (fun c => ?_)
        · replace h := h.1 c
          refine g_ldc2 (pc' := 52) d_169_49 rfl st_169_166 cL_m9223372036854775808 ?_
          exact g_lret d_169_52 rt_169 h
        · replace h := h.2 c
          refine g_iloadn (pc' := 23) d_169_22 rfl rfl ?_
          refine g_iconst (pc' := 24) d_169_23 rfl ci_1 ?_
          refine g_ic_lt (pc' := 27) (pt := 49) d_169_24 (by decide) rfl (fun c => ?_) (fun c => ?_)
          · replace h := h.1 c
            refine g_ldc2 (pc' := 52) d_169_49 rfl st_169_166 cL_m9223372036854775808 ?_
            exact g_lret d_169_52 rt_169 h
          · replace h := h.2 c
            refine g_iloadn (pc' := 28) d_169_27 rfl rfl ?_
            refine g_bipush (pc' := 30) d_169_28 rfl cb_6 ?_
            refine g_ic_gt (pc' := 33) (pt := 49) d_169_30 (by decide) rfl (fun c => ?_) (fun c => ?_)
            · replace h := h.1 c
              refine g_ldc2 (pc' := 52) d_169_49 rfl st_169_166 cL_m9223372036854775808 ?_
              exact g_lret d_169_52 rt_169 h
            · replace h := h.2 c
              refine g_iload (pc' := 35) d_169_33 rfl rfl ?_
              obtain ⟨r3, w1, hk2, h⟩ := h
              refine g_callS (pc' := 38) d_169_35 rfl st_169_153 (Or.inl rfl) na_116 ml_116 rfl rfl rfl rm_169_116 rfl rfl hk2 ?_
              refine g_if_eq (pc' := 41) (pt := 49) d_169_38 (by decide) rfl (fun c => ?_) (fun c => ?_)
              · replace h := h.1 c
                refine g_ldc2 (pc' := 52) d_169_49 rfl st_169_166 cL_m9223372036854775808 ?_
                exact g_lret d_169_52 rt_169 h
              · replace h := h.2 c
                refine g_iloadn (pc' := 42) d_169_41 rfl rfl ?_
                refine g_aloadn (pc' := 43) d_169_42 rfl rfl ?_
                obtain ⟨fs4, hw5, h⟩ := h
                obtain ⟨x6, hv7, h⟩ := h
                refine g_getf (pc' := 46) d_169_43 rfl st_169_49 hw5 hv7 ?_
                refine g_ic_le (pc' := 49) (pt := 53) d_169_46 (by decide) rfl (fun c => ?_) (fun c => ?_)
                · replace h := h.1 c
                  refine g_ldc2 (pc' := 56) d_169_53 rfl st_169_378 cL_2310 ?_
                  refine g_lstore (pc' := 58) (l' := [some (.ref a0), some (.int i1), some (.int i2), some (.int i3), some (.int i4), some (.long (2310 : Int64)), none, none]) d_169_56 rfl ml_169 rfl rfl ?_
                  refine g_iconst (pc' := 59) d_169_58 rfl ci_0 ?_
                  refine g_istore (pc' := 61) (l' := [some (.ref a0), some (.int i1), some (.int i2), some (.int i3), some (.int i4), some (.long (2310 : Int64)), none, some (.int (0 : Int32))]) d_169_59 rfl ml_169 rfl rfl ?_
                  exact h
                · replace h := h.2 c
                  refine g_ldc2 (pc' := 52) d_169_49 rfl st_169_166 cL_m9223372036854775808 ?_
                  exact g_lret d_169_52 rt_169 h
theorem S_169_61 {a0 : Nat} {i1 : Int32} {i2 : Int32} {i3 : Int32} {i4 : Int32} {l5 : Int64} {i7 : Int32} {w : xW} {r : Option Value × xW} (h : (i1 ≤ i7 → ∃ fs1, w[a0]? = some (.inr (0, fs1)) ∧ ∃ b3, fs1[13]? = some (.ref b3) ∧ ∃ b5, fs1[4]? = some (.ref b5) ∧ ∃ r9 w7, xCall 145 [.ref a0, .ref b5, .int i1, .long (i2.toInt64), .long (i3.toInt64), .long (2310 : Int64)] w (some (.long r9), w7) ∧ ∃ fs10, w7[b3]? = some (.inr (5, fs10)) ∧ ∃ w12, xCall 16 [.ref b3, .long (0 : Int64), .long r9, .long l5] w7 (none, w12) ∧ ∃ fs14, w12[a0]? = some (.inr (0, fs14)) ∧ ∃ b16, fs14[13]? = some (.ref b16) ∧ ∃ fs18, w12[b16]? = some (.inr (5, fs18)) ∧ ∃ r22 w20, xCall 117 [.ref b16, .int i4] w12 (some (.long r22), w20) ∧ r = (some (.long r22), w20)) ∧ (¬ (i1 ≤ i7) → ∀ v23 : Int64, v23 = (l5 * (i3.toInt64)) → ∀ v24 : Int32, v24 = i7 + (1 : Int32) → xGo 169 61 [some (.ref a0), some (.int i1), some (.int i2), some (.int i3), some (.int i4), some (.long v23), none, some (.int v24)] [] w r)) : xGo 169 61 [some (.ref a0), some (.int i1), some (.int i2), some (.int i3), some (.int i4), some (.long l5), none, some (.int i7)] [] w r := by
  refine g_iload (pc' := 63) d_169_61 rfl rfl ?_
  refine g_iloadn (pc' := 64) d_169_63 rfl rfl ?_
  refine g_ic_ge (pc' := 67) (pt := 80) d_169_64 (by decide) rfl (fun c => ?_) (fun c => ?_)
  · replace h := h.1 c
    refine g_aloadn (pc' := 81) d_169_80 rfl rfl ?_
    obtain ⟨fs1, hw2, h⟩ := h
    obtain ⟨b3, hv4, h⟩ := h
    refine g_getf (pc' := 84) d_169_81 rfl st_169_95 hw2 hv4 ?_
    refine g_lconst (pc' := 85) d_169_84 rfl cl_0 ?_
    refine g_aloadn (pc' := 86) d_169_85 rfl rfl ?_
    refine g_aloadn (pc' := 87) d_169_86 rfl rfl ?_
    obtain ⟨b5, hv6, h⟩ := h
    refine g_getf (pc' := 90) d_169_87 rfl st_169_39 hw2 hv6 ?_
    refine g_iloadn (pc' := 91) d_169_90 rfl rfl ?_
    refine g_iloadn (pc' := 92) d_169_91 rfl rfl ?_
    refine g_i2l (pc' := 93) d_169_92 rfl ?_
    refine g_iloadn (pc' := 94) d_169_93 rfl rfl ?_
    refine g_i2l (pc' := 95) d_169_94 rfl ?_
    refine g_ldc2 (pc' := 98) d_169_95 rfl st_169_378 cL_2310 ?_
    obtain ⟨r9, w7, hk8, h⟩ := h
    refine g_callV (pc' := 101) d_169_98 rfl st_169_323 na_145 ml_145 rfl rfl rfl rm_169_145 rfl rfl ow_145 hw2 hk8 ?_
    refine g_lload (pc' := 103) d_169_101 rfl rfl ?_
    obtain ⟨fs10, hw11, h⟩ := h
    obtain ⟨w12, hk13, h⟩ := h
    refine g_callV (pc' := 106) d_169_103 rfl st_169_327 na_16 ml_16 rfl rfl rfl rm_169_16 rfl rfl ow_16 hw11 hk13 ?_
    refine g_aloadn (pc' := 107) d_169_106 rfl rfl ?_
    obtain ⟨fs14, hw15, h⟩ := h
    obtain ⟨b16, hv17, h⟩ := h
    refine g_getf (pc' := 110) d_169_107 rfl st_169_95 hw15 hv17 ?_
    refine g_iload (pc' := 112) d_169_110 rfl rfl ?_
    obtain ⟨fs18, hw19, h⟩ := h
    obtain ⟨r22, w20, hk21, h⟩ := h
    refine g_callV (pc' := 115) d_169_112 rfl st_169_171 na_117 ml_117 rfl rfl rfl rm_169_117 rfl rfl ow_117 hw19 hk21 ?_
    exact g_lret d_169_115 rt_169 h
  · replace h := h.2 c
    refine g_lload (pc' := 69) d_169_67 rfl rfl ?_
    refine g_iloadn (pc' := 70) d_169_69 rfl rfl ?_
    refine g_i2l (pc' := 71) d_169_70 rfl ?_
    refine g_lmul (pc' := 72) d_169_71 rfl ?_
    have h := h _ rfl
    refine g_lstore (pc' := 74) (l' := [some (.ref a0), some (.int i1), some (.int i2), some (.int i3), some (.int i4), some (.long ((l5 * (i3.toInt64)))), none, some (.int i7)]) d_169_72 rfl ml_169 rfl rfl ?_
    have h := h _ rfl
    refine g_iinc (pc' := 77) (l' := [some (.ref a0), some (.int i1), some (.int i2), some (.int i3), some (.int i4), some (.long ((l5 * (i3.toInt64)))), none, some (.int (i7 + (1 : Int32)))]) d_169_74 rfl rfl ci_1 ml_169 rfl rfl ?_
    refine g_goto (pt := 61) d_169_77 (by decide) ?_
    exact h
-- 170 BernoulliWays.at(III)I
theorem S_170_0 {a0 : Nat} {i1 : Int32} {i2 : Int32} {i3 : Int32} {w : xW} {r : Option Value × xW} (h : ∃ r3 w1, xCall 24 [.int i1] w (some (.int r3), w1) ∧ (r3 = 0 → r = (some (.int (-1 : Int32)), w1)) ∧ (¬ (r3 = 0) → ∃ r6 w4, xCall 84 [.int i3] w1 (some (.int r6), w4) ∧ (r6 = 0 → r = (some (.int (-1 : Int32)), w4)) ∧ (¬ (r6 = 0) → (i2 < 0 → r = (some (.int (-1 : Int32)), w4)) ∧ (¬ (i2 < 0) → (i2 ≤ (i3 - (1 : Int32)) → ∃ fs7, w4[a0]? = some (.inr (0, fs7)) ∧ ∃ x9, fs7[7]? = some (.int x9) ∧ (i1 ≤ x9 → ∃ r13 w11, xCall 171 [.ref a0, .int i1, .int i3] w4 (some (.int r13), w11) ∧ (r13 = 0 → r = (some (.int (-3 : Int32)), w11)) ∧ (¬ (r13 = 0) → ∃ fs14, w11[a0]? = some (.inr (0, fs14)) ∧ ∃ r18 w16, xCall 172 [.ref a0, .int i1, .long (i2.toInt64), .int i3] w11 (some (.long r18), w16) ∧ r = (some (.int (r18.toInt32)), w16))) ∧ (¬ (i1 ≤ x9) → r = (some (.int (-2 : Int32)), w4))) ∧ (¬ (i2 ≤ (i3 - (1 : Int32))) → r = (some (.int (-1 : Int32)), w4)))))) : xGo 170 0 [some (.ref a0), some (.int i1), some (.int i2), some (.int i3)] [] w r := by
  refine g_iloadn (pc' := 1) d_170_0 rfl rfl ?_
  obtain ⟨r3, w1, hk2, h⟩ := h
  refine g_callS (pc' := 4) d_170_1 rfl st_170_120 (Or.inl rfl) na_24 ml_24 rfl rfl rfl rm_170_24 rfl rfl hk2 ?_
  refine g_if_eq (pc' := 7) (pt := 25) d_170_4 (by decide) rfl (fun c => ?_) (fun c => ?_)
  · replace h := h.1 c
    refine g_iconst (pc' := 26) d_170_25 rfl ci_m1 ?_
    exact g_iret d_170_26 rt_170 h
  · replace h := h.2 c
    refine g_iloadn (pc' := 8) d_170_7 rfl rfl ?_
    obtain ⟨r6, w4, hk5, h⟩ := h
    refine g_callS (pc' := 11) d_170_8 rfl st_170_222 (Or.inl rfl) na_84 ml_84 rfl rfl rfl rm_170_84 rfl rfl hk5 ?_
    refine g_if_eq (pc' := 14) (pt := 25) d_170_11 (by decide) rfl (fun c => ?_) (fun c => ?_)
    · replace h := h.1 c
      refine g_iconst (pc' := 26) d_170_25 rfl ci_m1 ?_
      exact g_iret d_170_26 rt_170 h
    · replace h := h.2 c
      refine g_iloadn (pc' := 15) d_170_14 rfl rfl ?_
      refine g_if_lt (pc' := 18) (pt := 25) d_170_15 (by decide) rfl (fun c => ?_) (fun c => ?_)
      · replace h := h.1 c
        refine g_iconst (pc' := 26) d_170_25 rfl ci_m1 ?_
        exact g_iret d_170_26 rt_170 h
      · replace h := h.2 c
        refine g_iloadn (pc' := 19) d_170_18 rfl rfl ?_
        refine g_iloadn (pc' := 20) d_170_19 rfl rfl ?_
        refine g_iconst (pc' := 21) d_170_20 rfl ci_1 ?_
        refine g_isub (pc' := 22) d_170_21 rfl ?_
        refine g_ic_le (pc' := 25) (pt := 27) d_170_22 (by decide) rfl (fun c => ?_) (fun c => ?_)
        · replace h := h.1 c
          refine g_iloadn (pc' := 28) d_170_27 rfl rfl ?_
          refine g_aloadn (pc' := 29) d_170_28 rfl rfl ?_
          obtain ⟨fs7, hw8, h⟩ := h
          obtain ⟨x9, hv10, h⟩ := h
          refine g_getf (pc' := 32) d_170_29 rfl st_170_49 hw8 hv10 ?_
          refine g_ic_le (pc' := 35) (pt := 38) d_170_32 (by decide) rfl (fun c => ?_) (fun c => ?_)
          · replace h := h.1 c
            refine g_aloadn (pc' := 39) d_170_38 rfl rfl ?_
            refine g_iloadn (pc' := 40) d_170_39 rfl rfl ?_
            refine g_iloadn (pc' := 41) d_170_40 rfl rfl ?_
            obtain ⟨r13, w11, hk12, h⟩ := h
            refine g_callV (pc' := 44) d_170_41 rfl st_170_380 na_171 ml_171 rfl rfl rfl rm_170_171 rfl rfl ow_171 hw8 hk12 ?_
            refine g_if_eq (pc' := 47) (pt := 59) d_170_44 (by decide) rfl (fun c => ?_) (fun c => ?_)
            · replace h := h.1 c
              refine g_bipush (pc' := 61) d_170_59 rfl cb_m3 ?_
              exact g_iret d_170_61 rt_170 h
            · replace h := h.2 c
              refine g_aloadn (pc' := 48) d_170_47 rfl rfl ?_
              refine g_iloadn (pc' := 49) d_170_48 rfl rfl ?_
              refine g_iloadn (pc' := 50) d_170_49 rfl rfl ?_
              refine g_i2l (pc' := 51) d_170_50 rfl ?_
              refine g_iloadn (pc' := 52) d_170_51 rfl rfl ?_
              obtain ⟨fs14, hw15, h⟩ := h
              obtain ⟨r18, w16, hk17, h⟩ := h
              refine g_callV (pc' := 55) d_170_52 rfl st_170_383 na_172 ml_172 rfl rfl rfl rm_170_172 rfl rfl ow_172 hw15 hk17 ?_
              refine g_l2i (pc' := 56) d_170_55 rfl ?_
              refine g_goto (pt := 61) d_170_56 (by decide) ?_
              exact g_iret d_170_61 rt_170 h
          · replace h := h.2 c
            refine g_bipush (pc' := 37) d_170_35 rfl cb_m2 ?_
            exact g_iret d_170_37 rt_170 h
        · replace h := h.2 c
          refine g_iconst (pc' := 26) d_170_25 rfl ci_m1 ?_
          exact g_iret d_170_26 rt_170 h
-- 171 BernoulliWays.fillPolynomial(II)Z
theorem S_171_0 {a0 : Nat} {i1 : Int32} {i2 : Int32} {w : xW} {r : Option Value × xW} (h : ((3 : Int32) ≤ i2 → xGo 171 9 [some (.ref a0), some (.int i1), some (.int i2), some (.int (0 : Int32))] [] w r) ∧ (¬ ((3 : Int32) ≤ i2) → r = (some (.int (0 : Int32)), w))) : xGo 171 0 [some (.ref a0), some (.int i1), some (.int i2), none] [] w r := by
  refine g_iloadn (pc' := 1) d_171_0 rfl rfl ?_
  refine g_iconst (pc' := 2) d_171_1 rfl ci_3 ?_
  refine g_ic_ge (pc' := 5) (pt := 7) d_171_2 (by decide) rfl (fun c => ?_) (fun c => ?_)
  · replace h := h.1 c
    refine g_iconst (pc' := 8) d_171_7 rfl ci_0 ?_
    refine g_istoren (pc' := 9) (l' := [some (.ref a0), some (.int i1), some (.int i2), some (.int (0 : Int32))]) d_171_8 rfl ml_171 rfl rfl ?_
    exact h
  · replace h := h.2 c
    refine g_iconst (pc' := 6) d_171_5 rfl ci_0 ?_
    exact g_zret d_171_6 rt_171 (Or.inl rfl) h
theorem S_171_9 {a0 : Nat} {i1 : Int32} {i2 : Int32} {i3 : Int32} {w : xW} {r : Option Value × xW} (h : (i1 < i3 → r = (some (.int (1 : Int32)), w)) ∧ (¬ (i1 < i3) → ∃ fs1, w[a0]? = some (.inr (0, fs1)) ∧ ∃ b3, fs1[14]? = some (.ref b3) ∧ ∃ n5 f6, w[b3]? = some (.inl (.inr (n5, f6))) ∧ ((Int32.ofNat n5) ≤ i3 → r = (some (.int (1 : Int32)), w)) ∧ (¬ ((Int32.ofNat n5) ≤ i3) → ∃ b8, fs1[4]? = some (.ref b8) ∧ ∃ fs10, w[b8]? = some (.inr (4, fs10)) ∧ ∃ r14 w12, xCall 31 [.ref b8, .int i3] w (some (.long r14), w12) ∧ (¬ (i2.toInt64) = 0) ∧ (¬ (lrem r14 (i2.toInt64)) = (0 : Int64) → ∃ fs16, w12[a0]? = some (.inr (0, fs16)) ∧ ∃ b18, fs16[14]? = some (.ref b18) ∧ ∃ b20, fs16[0]? = some (.ref b20) ∧ ∃ fs22, w12[b20]? = some (.inr (1, fs22)) ∧ ∃ r26 w24, xCall 39 [.ref b20, .int i1, .int i3] w12 (some (.long r26), w24) ∧ (¬ (i2.toInt64) = 0) ∧ ∃ fs28, w24[a0]? = some (.inr (0, fs28)) ∧ ∃ b30, fs28[4]? = some (.ref b30) ∧ ∃ fs32, w24[b30]? = some (.inr (4, fs32)) ∧ ∃ r36 w34, xCall 73 [.ref b30, .int i3, .long (i2.toInt64)] w24 (some (.long r36), w34) ∧ (¬ (i2.toInt64) = 0) ∧ ∃ n38 f39, w34[b18]? = some (.inl (.inr (n38, f39))) ∧ ∀ v41 : Int64, v41 = (lrem ((lrem r26 (i2.toInt64)) * r36) (i2.toInt64)) → (¬ (i3 < 0 ∨ n38 ≤ i3.toNatClampNeg)) ∧ ∀ w43, w43 = w34.set b18 (.inl (.inr (n38, (vp_updL f39 i3.toNatClampNeg v41)))) → ∀ v44 : Int32, v44 = i3 + (1 : Int32) → xGo 171 9 [some (.ref a0), some (.int i1), some (.int i2), some (.int v44)] [] w43 r) ∧ (¬ (¬ (lrem r14 (i2.toInt64)) = (0 : Int64)) → r = (some (.int (0 : Int32)), w12))))) : xGo 171 9 [some (.ref a0), some (.int i1), some (.int i2), some (.int i3)] [] w r := by
  refine g_iloadn (pc' := 10) d_171_9 rfl rfl ?_
  refine g_iloadn (pc' := 11) d_171_10 rfl rfl ?_
  refine g_ic_gt (pc' := 14) (pt := 79) d_171_11 (by decide) rfl (fun c => ?_) (fun c => ?_)
  · replace h := h.1 c
    refine g_iconst (pc' := 80) d_171_79 rfl ci_1 ?_
    exact g_zret d_171_80 rt_171 (Or.inr rfl) h
  · replace h := h.2 c
    refine g_iloadn (pc' := 15) d_171_14 rfl rfl ?_
    refine g_aloadn (pc' := 16) d_171_15 rfl rfl ?_
    obtain ⟨fs1, hw2, h⟩ := h
    obtain ⟨b3, hv4, h⟩ := h
    refine g_getf (pc' := 19) d_171_16 rfl st_171_99 hw2 hv4 ?_
    obtain ⟨n5, f6, hw7, h⟩ := h
    refine g_lenl (pc' := 20) d_171_19 rfl hw7 ?_
    refine g_ic_ge (pc' := 23) (pt := 79) d_171_20 (by decide) rfl (fun c => ?_) (fun c => ?_)
    · replace h := h.1 c
      refine g_iconst (pc' := 80) d_171_79 rfl ci_1 ?_
      exact g_zret d_171_80 rt_171 (Or.inr rfl) h
    · replace h := h.2 c
      refine g_aloadn (pc' := 24) d_171_23 rfl rfl ?_
      obtain ⟨b8, hv9, h⟩ := h
      refine g_getf (pc' := 27) d_171_24 rfl st_171_39 hw2 hv9 ?_
      refine g_iloadn (pc' := 28) d_171_27 rfl rfl ?_
      obtain ⟨fs10, hw11, h⟩ := h
      obtain ⟨r14, w12, hk13, h⟩ := h
      refine g_callV (pc' := 31) d_171_28 rfl st_171_204 na_31 ml_31 rfl rfl rfl rm_171_31 rfl rfl ow_31 hw11 hk13 ?_
      refine g_iloadn (pc' := 32) d_171_31 rfl rfl ?_
      refine g_i2l (pc' := 33) d_171_32 rfl ?_
      obtain ⟨hc15, h⟩ := h
      refine g_lrem (pc' := 34) d_171_33 rfl hc15 ?_
      refine g_lconst (pc' := 35) d_171_34 rfl cl_0 ?_
      refine g_lc_ne (pc' := 39) (pm := 36) (pt := 41) d_171_35 rfl d_171_36 (by decide) rfl (fun c => ?_) (fun c => ?_)
      · replace h := h.1 c
        refine g_aloadn (pc' := 42) d_171_41 rfl rfl ?_
        obtain ⟨fs16, hw17, h⟩ := h
        obtain ⟨b18, hv19, h⟩ := h
        refine g_getf (pc' := 45) d_171_42 rfl st_171_99 hw17 hv19 ?_
        refine g_iloadn (pc' := 46) d_171_45 rfl rfl ?_
        refine g_aloadn (pc' := 47) d_171_46 rfl rfl ?_
        obtain ⟨b20, hv21, h⟩ := h
        refine g_getf (pc' := 50) d_171_47 rfl st_171_14 hw17 hv21 ?_
        refine g_iloadn (pc' := 51) d_171_50 rfl rfl ?_
        refine g_iloadn (pc' := 52) d_171_51 rfl rfl ?_
        obtain ⟨fs22, hw23, h⟩ := h
        obtain ⟨r26, w24, hk25, h⟩ := h
        refine g_callV (pc' := 55) d_171_52 rfl st_171_336 na_39 ml_39 rfl rfl rfl rm_171_39 rfl rfl ow_39 hw23 hk25 ?_
        refine g_iloadn (pc' := 56) d_171_55 rfl rfl ?_
        refine g_i2l (pc' := 57) d_171_56 rfl ?_
        obtain ⟨hc27, h⟩ := h
        refine g_lrem (pc' := 58) d_171_57 rfl hc27 ?_
        refine g_aloadn (pc' := 59) d_171_58 rfl rfl ?_
        obtain ⟨fs28, hw29, h⟩ := h
        obtain ⟨b30, hv31, h⟩ := h
        refine g_getf (pc' := 62) d_171_59 rfl st_171_39 hw29 hv31 ?_
        refine g_iloadn (pc' := 63) d_171_62 rfl rfl ?_
        refine g_iloadn (pc' := 64) d_171_63 rfl rfl ?_
        refine g_i2l (pc' := 65) d_171_64 rfl ?_
        obtain ⟨fs32, hw33, h⟩ := h
        obtain ⟨r36, w34, hk35, h⟩ := h
        refine g_callV (pc' := 68) d_171_65 rfl st_171_444 na_73 ml_73 rfl rfl rfl rm_171_73 rfl rfl ow_73 hw33 hk35 ?_
        refine g_lmul (pc' := 69) d_171_68 rfl ?_
        refine g_iloadn (pc' := 70) d_171_69 rfl rfl ?_
        refine g_i2l (pc' := 71) d_171_70 rfl ?_
        obtain ⟨hc37, h⟩ := h
        refine g_lrem (pc' := 72) d_171_71 rfl hc37 ?_
        obtain ⟨n38, f39, hw40, h⟩ := h
        have h := h _ rfl
        obtain ⟨hc42, h⟩ := h
        have h := h _ rfl
        refine g_last (pc' := 73) d_171_72 rfl hw40 hc42 ?_
        have h := h _ rfl
        refine g_iinc (pc' := 76) (l' := [some (.ref a0), some (.int i1), some (.int i2), some (.int (i3 + (1 : Int32)))]) d_171_73 rfl rfl ci_1 ml_171 rfl rfl ?_
        refine g_goto (pt := 9) d_171_76 (by decide) ?_
        exact h
      · replace h := h.2 c
        refine g_iconst (pc' := 40) d_171_39 rfl ci_0 ?_
        exact g_zret d_171_40 rt_171 (Or.inl rfl) h
-- 172 BernoulliWays.polynomialAt(IJI)J
theorem S_172_0 {a0 : Nat} {i1 : Int32} {l2 : Int64} {i4 : Int32} {w : xW} {r : Option Value × xW} (h : ((3 : Int32) ≤ i4 → xGo 172 14 [some (.ref a0), some (.int i1), some (.long l2), none, some (.int i4), some (.long (0 : Int64)), none, some (.int (0 : Int32))] [] w r) ∧ (¬ ((3 : Int32) ≤ i4) → r = (some (.long (0 : Int64)), w))) : xGo 172 0 [some (.ref a0), some (.int i1), some (.long l2), none, some (.int i4), none, none, none] [] w r := by
  refine g_iload (pc' := 2) d_172_0 rfl rfl ?_
  refine g_iconst (pc' := 3) d_172_2 rfl ci_3 ?_
  refine g_ic_ge (pc' := 6) (pt := 8) d_172_3 (by decide) rfl (fun c => ?_) (fun c => ?_)
  · replace h := h.1 c
    refine g_lconst (pc' := 9) d_172_8 rfl cl_0 ?_
    refine g_lstore (pc' := 11) (l' := [some (.ref a0), some (.int i1), some (.long l2), none, some (.int i4), some (.long (0 : Int64)), none, none]) d_172_9 rfl ml_172 rfl rfl ?_
    refine g_iconst (pc' := 12) d_172_11 rfl ci_0 ?_
    refine g_istore (pc' := 14) (l' := [some (.ref a0), some (.int i1), some (.long l2), none, some (.int i4), some (.long (0 : Int64)), none, some (.int (0 : Int32))]) d_172_12 rfl ml_172 rfl rfl ?_
    exact h
  · replace h := h.2 c
    refine g_lconst (pc' := 7) d_172_6 rfl cl_0 ?_
    exact g_lret d_172_7 rt_172 h
theorem S_172_14 {a0 : Nat} {i1 : Int32} {l2 : Int64} {i4 : Int32} {l5 : Int64} {i7 : Int32} {w : xW} {r : Option Value × xW} (h : (i1 < i7 → r = (some (.long l5), w)) ∧ (¬ (i1 < i7) → ∃ fs1, w[a0]? = some (.inr (0, fs1)) ∧ ∃ b3, fs1[14]? = some (.ref b3) ∧ ∃ n5 f6, w[b3]? = some (.inl (.inr (n5, f6))) ∧ ((Int32.ofNat n5) ≤ i7 → r = (some (.long l5), w)) ∧ (¬ ((Int32.ofNat n5) ≤ i7) → (¬ (i7 < 0 ∨ n5 ≤ i7.toNatClampNeg)) ∧ (¬ (i4.toInt64) = 0) ∧ ∀ v10 : Int64, v10 = (lrem ((l5 * l2) + (f6 i7.toNatClampNeg)) (i4.toInt64)) → ∀ v11 : Int32, v11 = i7 + (1 : Int32) → xGo 172 14 [some (.ref a0), some (.int i1), some (.long l2), none, some (.int i4), some (.long v10), none, some (.int v11)] [] w r))) : xGo 172 14 [some (.ref a0), some (.int i1), some (.long l2), none, some (.int i4), some (.long l5), none, some (.int i7)] [] w r := by
  refine g_iload (pc' := 16) d_172_14 rfl rfl ?_
  refine g_iloadn (pc' := 17) d_172_16 rfl rfl ?_
  refine g_ic_gt (pc' := 20) (pt := 54) d_172_17 (by decide) rfl (fun c => ?_) (fun c => ?_)
  · replace h := h.1 c
    refine g_lload (pc' := 56) d_172_54 rfl rfl ?_
    exact g_lret d_172_56 rt_172 h
  · replace h := h.2 c
    refine g_iload (pc' := 22) d_172_20 rfl rfl ?_
    refine g_aloadn (pc' := 23) d_172_22 rfl rfl ?_
    obtain ⟨fs1, hw2, h⟩ := h
    obtain ⟨b3, hv4, h⟩ := h
    refine g_getf (pc' := 26) d_172_23 rfl st_172_99 hw2 hv4 ?_
    obtain ⟨n5, f6, hw7, h⟩ := h
    refine g_lenl (pc' := 27) d_172_26 rfl hw7 ?_
    refine g_ic_ge (pc' := 30) (pt := 54) d_172_27 (by decide) rfl (fun c => ?_) (fun c => ?_)
    · replace h := h.1 c
      refine g_lload (pc' := 56) d_172_54 rfl rfl ?_
      exact g_lret d_172_56 rt_172 h
    · replace h := h.2 c
      refine g_lload (pc' := 32) d_172_30 rfl rfl ?_
      refine g_lloadn (pc' := 33) d_172_32 rfl rfl ?_
      refine g_lmul (pc' := 34) d_172_33 rfl ?_
      refine g_aloadn (pc' := 35) d_172_34 rfl rfl ?_
      refine g_getf (pc' := 38) d_172_35 rfl st_172_99 hw2 hv4 ?_
      refine g_iload (pc' := 40) d_172_38 rfl rfl ?_
      obtain ⟨hc8, h⟩ := h
      refine g_lald (pc' := 41) d_172_40 rfl hw7 hc8 ?_
      refine g_ladd (pc' := 42) d_172_41 rfl ?_
      refine g_iload (pc' := 44) d_172_42 rfl rfl ?_
      refine g_i2l (pc' := 45) d_172_44 rfl ?_
      obtain ⟨hc9, h⟩ := h
      refine g_lrem (pc' := 46) d_172_45 rfl hc9 ?_
      have h := h _ rfl
      refine g_lstore (pc' := 48) (l' := [some (.ref a0), some (.int i1), some (.long l2), none, some (.int i4), some (.long ((lrem ((l5 * l2) + (f6 i7.toNatClampNeg)) (i4.toInt64)))), none, some (.int i7)]) d_172_46 rfl ml_172 rfl rfl ?_
      have h := h _ rfl
      refine g_iinc (pc' := 51) (l' := [some (.ref a0), some (.int i1), some (.long l2), none, some (.int i4), some (.long ((lrem ((l5 * l2) + (f6 i7.toNatClampNeg)) (i4.toInt64)))), none, some (.int (i7 + (1 : Int32)))]) d_172_48 rfl rfl ci_1 ml_172 rfl rfl ?_
      refine g_goto (pt := 14) d_172_51 (by decide) ?_
      exact h
-- 173 BernoulliWays.roots(II)I
theorem S_173_0 {a0 : Nat} {i1 : Int32} {i2 : Int32} {w : xW} {r : Option Value × xW} (h : ∃ r3 w1, xCall 24 [.int i1] w (some (.int r3), w1) ∧ (r3 = 0 → r = (some (.int (-1 : Int32)), w1)) ∧ (¬ (r3 = 0) → ∃ r6 w4, xCall 84 [.int i2] w1 (some (.int r6), w4) ∧ (¬ r6 = 0 → ∃ fs7, w4[a0]? = some (.inr (0, fs7)) ∧ ∃ x9, fs7[7]? = some (.int x9) ∧ (i1 ≤ x9 → ∃ r13 w11, xCall 171 [.ref a0, .int i1, .int i2] w4 (some (.int r13), w11) ∧ (¬ r13 = 0 → xGo 173 44 [some (.ref a0), some (.int i1), some (.int i2), some (.int (0 : Int32)), some (.int (0 : Int32))] [] w11 r) ∧ (¬ (¬ r13 = 0) → r = (some (.int (-3 : Int32)), w11))) ∧ (¬ (i1 ≤ x9) → r = (some (.int (-2 : Int32)), w4))) ∧ (¬ (¬ r6 = 0) → r = (some (.int (-1 : Int32)), w4)))) : xGo 173 0 [some (.ref a0), some (.int i1), some (.int i2), none, none] [] w r := by
  refine g_iloadn (pc' := 1) d_173_0 rfl rfl ?_
  obtain ⟨r3, w1, hk2, h⟩ := h
  refine g_callS (pc' := 4) d_173_1 rfl st_173_120 (Or.inl rfl) na_24 ml_24 rfl rfl rfl rm_173_24 rfl rfl hk2 ?_
  refine g_if_eq (pc' := 7) (pt := 14) d_173_4 (by decide) rfl (fun c => ?_) (fun c => ?_)
  · replace h := h.1 c
    refine g_iconst (pc' := 15) d_173_14 rfl ci_m1 ?_
    exact g_iret d_173_15 rt_173 h
  · replace h := h.2 c
    refine g_iloadn (pc' := 8) d_173_7 rfl rfl ?_
    obtain ⟨r6, w4, hk5, h⟩ := h
    refine g_callS (pc' := 11) d_173_8 rfl st_173_222 (Or.inl rfl) na_84 ml_84 rfl rfl rfl rm_173_84 rfl rfl hk5 ?_
    refine g_if_ne (pc' := 14) (pt := 16) d_173_11 (by decide) rfl (fun c => ?_) (fun c => ?_)
    · replace h := h.1 c
      refine g_iloadn (pc' := 17) d_173_16 rfl rfl ?_
      refine g_aloadn (pc' := 18) d_173_17 rfl rfl ?_
      obtain ⟨fs7, hw8, h⟩ := h
      obtain ⟨x9, hv10, h⟩ := h
      refine g_getf (pc' := 21) d_173_18 rfl st_173_49 hw8 hv10 ?_
      refine g_ic_le (pc' := 24) (pt := 27) d_173_21 (by decide) rfl (fun c => ?_) (fun c => ?_)
      · replace h := h.1 c
        refine g_aloadn (pc' := 28) d_173_27 rfl rfl ?_
        refine g_iloadn (pc' := 29) d_173_28 rfl rfl ?_
        refine g_iloadn (pc' := 30) d_173_29 rfl rfl ?_
        obtain ⟨r13, w11, hk12, h⟩ := h
        refine g_callV (pc' := 33) d_173_30 rfl st_173_380 na_171 ml_171 rfl rfl rfl rm_173_171 rfl rfl ow_171 hw8 hk12 ?_
        refine g_if_ne (pc' := 36) (pt := 39) d_173_33 (by decide) rfl (fun c => ?_) (fun c => ?_)
        · replace h := h.1 c
          refine g_iconst (pc' := 40) d_173_39 rfl ci_0 ?_
          refine g_istoren (pc' := 41) (l' := [some (.ref a0), some (.int i1), some (.int i2), some (.int (0 : Int32)), none]) d_173_40 rfl ml_173 rfl rfl ?_
          refine g_iconst (pc' := 42) d_173_41 rfl ci_0 ?_
          refine g_istore (pc' := 44) (l' := [some (.ref a0), some (.int i1), some (.int i2), some (.int (0 : Int32)), some (.int (0 : Int32))]) d_173_42 rfl ml_173 rfl rfl ?_
          exact h
        · replace h := h.2 c
          refine g_bipush (pc' := 38) d_173_36 rfl cb_m3 ?_
          exact g_iret d_173_38 rt_173 h
      · replace h := h.2 c
        refine g_bipush (pc' := 26) d_173_24 rfl cb_m2 ?_
        exact g_iret d_173_26 rt_173 h
    · replace h := h.2 c
      refine g_iconst (pc' := 15) d_173_14 rfl ci_m1 ?_
      exact g_iret d_173_15 rt_173 h
theorem S_173_44 {a0 : Nat} {i1 : Int32} {i2 : Int32} {i3 : Int32} {i4 : Int32} {w : xW} {r : Option Value × xW} (h : (i2 ≤ i4 → r = (some (.int i3), w)) ∧ (¬ (i2 ≤ i4) → ∃ fs1, w[a0]? = some (.inr (0, fs1)) ∧ ∃ r5 w3, xCall 172 [.ref a0, .int i1, .long (i4.toInt64), .int i2] w (some (.long r5), w3) ∧ (¬ r5 = (0 : Int64) → ∀ v6 : Int32, v6 = i4 + (1 : Int32) → xGo 173 44 [some (.ref a0), some (.int i1), some (.int i2), some (.int i3), some (.int v6)] [] w3 r) ∧ (¬ (¬ r5 = (0 : Int64)) → ∀ v7 : Int32, v7 = i3 + (1 : Int32) → ∀ v8 : Int32, v8 = i4 + (1 : Int32) → xGo 173 44 [some (.ref a0), some (.int i1), some (.int i2), some (.int v7), some (.int v8)] [] w3 r))) : xGo 173 44 [some (.ref a0), some (.int i1), some (.int i2), some (.int i3), some (.int i4)] [] w r := by
  refine g_iload (pc' := 46) d_173_44 rfl rfl ?_
  refine g_iloadn (pc' := 47) d_173_46 rfl rfl ?_
  refine g_ic_ge (pc' := 50) (pt := 73) d_173_47 (by decide) rfl (fun c => ?_) (fun c => ?_)
  · replace h := h.1 c
    refine g_iloadn (pc' := 74) d_173_73 rfl rfl ?_
    exact g_iret d_173_74 rt_173 h
  · replace h := h.2 c
    refine g_aloadn (pc' := 51) d_173_50 rfl rfl ?_
    refine g_iloadn (pc' := 52) d_173_51 rfl rfl ?_
    refine g_iload (pc' := 54) d_173_52 rfl rfl ?_
    refine g_i2l (pc' := 55) d_173_54 rfl ?_
    refine g_iloadn (pc' := 56) d_173_55 rfl rfl ?_
    obtain ⟨fs1, hw2, h⟩ := h
    obtain ⟨r5, w3, hk4, h⟩ := h
    refine g_callV (pc' := 59) d_173_56 rfl st_173_383 na_172 ml_172 rfl rfl rfl rm_173_172 rfl rfl ow_172 hw2 hk4 ?_
    refine g_lconst (pc' := 60) d_173_59 rfl cl_0 ?_
    refine g_lc_ne (pc' := 64) (pm := 61) (pt := 67) d_173_60 rfl d_173_61 (by decide) rfl (fun c => ?_) (fun c => ?_)
    · replace h := h.1 c
      have h := h _ rfl
      refine g_iinc (pc' := 70) (l' := [some (.ref a0), some (.int i1), some (.int i2), some (.int i3), some (.int (i4 + (1 : Int32)))]) d_173_67 rfl rfl ci_1 ml_173 rfl rfl ?_
      refine g_goto (pt := 44) d_173_70 (by decide) ?_
      exact h
    · replace h := h.2 c
      have h := h _ rfl
      refine g_iinc (pc' := 67) (l' := [some (.ref a0), some (.int i1), some (.int i2), some (.int (i3 + (1 : Int32))), some (.int i4)]) d_173_64 rfl rfl ci_1 ml_173 rfl rfl ?_
      have h := h _ rfl
      refine g_iinc (pc' := 70) (l' := [some (.ref a0), some (.int i1), some (.int i2), some (.int (i3 + (1 : Int32))), some (.int (i4 + (1 : Int32)))]) d_173_67 rfl rfl ci_1 ml_173 rfl rfl ?_
      refine g_goto (pt := 44) d_173_70 (by decide) ?_
      exact h
-- 174 BernoulliWays.zeta(II)J
theorem S_174_0 {a0 : Nat} {i1 : Int32} {i2 : Int32} {w : xW} {r : Option Value × xW} (h : (i1 < 0 → r = (some (.long (-9223372036854775808 : Int64)), w)) ∧ (¬ (i1 < 0) → ((38 : Int32) ≤ i1 → r = (some (.long (-9223372036854775808 : Int64)), w)) ∧ (¬ ((38 : Int32) ≤ i1) → ∃ r3 w1, xCall 116 [.int i2] w (some (.int r3), w1) ∧ (r3 = 0 → r = (some (.long (-9223372036854775808 : Int64)), w1)) ∧ (¬ (r3 = 0) → ∃ fs4, w1[a0]? = some (.inr (0, fs4)) ∧ ∃ x6, fs4[7]? = some (.int x6) ∧ ((i1 + (1 : Int32)) ≤ x6 → ∃ b8, fs4[4]? = some (.ref b8) ∧ ∃ b10, fs4[13]? = some (.ref b10) ∧ ∃ fs12, w1[b8]? = some (.inr (4, fs12)) ∧ ∃ w14, xCall 100 [.ref b8, .int (i1 + (1 : Int32)), .ref b10] w1 (none, w14) ∧ (i1 ≤ 0 → ∃ fs16, w14[a0]? = some (.inr (0, fs16)) ∧ ∃ b18, fs16[13]? = some (.ref b18) ∧ ∃ fs20, w14[b18]? = some (.inr (5, fs20)) ∧ ∃ r24 w22, xCall 117 [.ref b18, .int i2] w14 (some (.long r24), w22) ∧ r = (some (.long r24), w22)) ∧ (¬ (i1 ≤ 0) → ∃ fs25, w14[a0]? = some (.inr (0, fs25)) ∧ ∃ b27, fs25[13]? = some (.ref b27) ∧ ∃ fs29, w14[b27]? = some (.inr (5, fs29)) ∧ ∃ w31, xCall 43 [.ref b27, .long (-1 : Int64)] w14 (none, w31) ∧ ∃ fs33, w31[a0]? = some (.inr (0, fs33)) ∧ ∃ b35, fs33[13]? = some (.ref b35) ∧ ∃ fs37, w31[b35]? = some (.inr (5, fs37)) ∧ ∃ w39, xCall 44 [.ref b35, .long ((i1 + (1 : Int32)).toInt64)] w31 (none, w39) ∧ ∃ fs41, w39[a0]? = some (.inr (0, fs41)) ∧ ∃ b43, fs41[13]? = some (.ref b43) ∧ ∃ fs45, w39[b43]? = some (.inr (5, fs45)) ∧ ∃ r49 w47, xCall 117 [.ref b43, .int i2] w39 (some (.long r49), w47) ∧ r = (some (.long r49), w47))) ∧ (¬ ((i1 + (1 : Int32)) ≤ x6) → r = (some (.long (-9223372036854775808 : Int64)), w1)))))) : xGo 174 0 [some (.ref a0), some (.int i1), some (.int i2)] [] w r := by
  refine g_iloadn (pc' := 1) d_174_0 rfl rfl ?_
  refine g_if_lt (pc' := 4) (pt := 27) d_174_1 (by decide) rfl (fun c => ?_) (fun c => ?_)
  · replace h := h.1 c
    refine g_ldc2 (pc' := 30) d_174_27 rfl st_174_166 cL_m9223372036854775808 ?_
    exact g_lret d_174_30 rt_174 h
  · replace h := h.2 c
    refine g_iloadn (pc' := 5) d_174_4 rfl rfl ?_
    refine g_bipush (pc' := 7) d_174_5 rfl cb_38 ?_
    refine g_ic_ge (pc' := 10) (pt := 27) d_174_7 (by decide) rfl (fun c => ?_) (fun c => ?_)
    · replace h := h.1 c
      refine g_ldc2 (pc' := 30) d_174_27 rfl st_174_166 cL_m9223372036854775808 ?_
      exact g_lret d_174_30 rt_174 h
    · replace h := h.2 c
      refine g_iloadn (pc' := 11) d_174_10 rfl rfl ?_
      obtain ⟨r3, w1, hk2, h⟩ := h
      refine g_callS (pc' := 14) d_174_11 rfl st_174_153 (Or.inl rfl) na_116 ml_116 rfl rfl rfl rm_174_116 rfl rfl hk2 ?_
      refine g_if_eq (pc' := 17) (pt := 27) d_174_14 (by decide) rfl (fun c => ?_) (fun c => ?_)
      · replace h := h.1 c
        refine g_ldc2 (pc' := 30) d_174_27 rfl st_174_166 cL_m9223372036854775808 ?_
        exact g_lret d_174_30 rt_174 h
      · replace h := h.2 c
        refine g_iloadn (pc' := 18) d_174_17 rfl rfl ?_
        refine g_iconst (pc' := 19) d_174_18 rfl ci_1 ?_
        refine g_iadd (pc' := 20) d_174_19 rfl ?_
        refine g_aloadn (pc' := 21) d_174_20 rfl rfl ?_
        obtain ⟨fs4, hw5, h⟩ := h
        obtain ⟨x6, hv7, h⟩ := h
        refine g_getf (pc' := 24) d_174_21 rfl st_174_49 hw5 hv7 ?_
        refine g_ic_le (pc' := 27) (pt := 31) d_174_24 (by decide) rfl (fun c => ?_) (fun c => ?_)
        · replace h := h.1 c
          refine g_aloadn (pc' := 32) d_174_31 rfl rfl ?_
          obtain ⟨b8, hv9, h⟩ := h
          refine g_getf (pc' := 35) d_174_32 rfl st_174_39 hw5 hv9 ?_
          refine g_iloadn (pc' := 36) d_174_35 rfl rfl ?_
          refine g_iconst (pc' := 37) d_174_36 rfl ci_1 ?_
          refine g_iadd (pc' := 38) d_174_37 rfl ?_
          refine g_aloadn (pc' := 39) d_174_38 rfl rfl ?_
          obtain ⟨b10, hv11, h⟩ := h
          refine g_getf (pc' := 42) d_174_39 rfl st_174_95 hw5 hv11 ?_
          obtain ⟨fs12, hw13, h⟩ := h
          obtain ⟨w14, hk15, h⟩ := h
          refine g_callV (pc' := 45) d_174_42 rfl st_174_168 na_100 ml_100 rfl rfl rfl rm_174_100 rfl rfl ow_100 hw13 hk15 ?_
          refine g_iloadn (pc' := 46) d_174_45 rfl rfl ?_
          refine g_if_le (pc' := 49) (pt := 70) d_174_46 (by decide) rfl (fun c => ?_) (fun c => ?_)
          · replace h := h.1 c
            refine g_aloadn (pc' := 71) d_174_70 rfl rfl ?_
            obtain ⟨fs16, hw17, h⟩ := h
            obtain ⟨b18, hv19, h⟩ := h
            refine g_getf (pc' := 74) d_174_71 rfl st_174_95 hw17 hv19 ?_
            refine g_iloadn (pc' := 75) d_174_74 rfl rfl ?_
            obtain ⟨fs20, hw21, h⟩ := h
            obtain ⟨r24, w22, hk23, h⟩ := h
            refine g_callV (pc' := 78) d_174_75 rfl st_174_171 na_117 ml_117 rfl rfl rfl rm_174_117 rfl rfl ow_117 hw21 hk23 ?_
            exact g_lret d_174_78 rt_174 h
          · replace h := h.2 c
            refine g_aloadn (pc' := 50) d_174_49 rfl rfl ?_
            obtain ⟨fs25, hw26, h⟩ := h
            obtain ⟨b27, hv28, h⟩ := h
            refine g_getf (pc' := 53) d_174_50 rfl st_174_95 hw26 hv28 ?_
            refine g_ldc2 (pc' := 56) d_174_53 rfl st_174_387 cL_m1 ?_
            obtain ⟨fs29, hw30, h⟩ := h
            obtain ⟨w31, hk32, h⟩ := h
            refine g_callV (pc' := 59) d_174_56 rfl st_174_339 na_43 ml_43 rfl rfl rfl rm_174_43 rfl rfl ow_43 hw30 hk32 ?_
            refine g_aloadn (pc' := 60) d_174_59 rfl rfl ?_
            obtain ⟨fs33, hw34, h⟩ := h
            obtain ⟨b35, hv36, h⟩ := h
            refine g_getf (pc' := 63) d_174_60 rfl st_174_95 hw34 hv36 ?_
            refine g_iloadn (pc' := 64) d_174_63 rfl rfl ?_
            refine g_iconst (pc' := 65) d_174_64 rfl ci_1 ?_
            refine g_iadd (pc' := 66) d_174_65 rfl ?_
            refine g_i2l (pc' := 67) d_174_66 rfl ?_
            obtain ⟨fs37, hw38, h⟩ := h
            obtain ⟨w39, hk40, h⟩ := h
            refine g_callV (pc' := 70) d_174_67 rfl st_174_342 na_44 ml_44 rfl rfl rfl rm_174_44 rfl rfl ow_44 hw38 hk40 ?_
            refine g_aloadn (pc' := 71) d_174_70 rfl rfl ?_
            obtain ⟨fs41, hw42, h⟩ := h
            obtain ⟨b43, hv44, h⟩ := h
            refine g_getf (pc' := 74) d_174_71 rfl st_174_95 hw42 hv44 ?_
            refine g_iloadn (pc' := 75) d_174_74 rfl rfl ?_
            obtain ⟨fs45, hw46, h⟩ := h
            obtain ⟨r49, w47, hk48, h⟩ := h
            refine g_callV (pc' := 78) d_174_75 rfl st_174_171 na_117 ml_117 rfl rfl rfl rm_174_117 rfl rfl ow_117 hw46 hk48 ?_
            exact g_lret d_174_78 rt_174 h
        · replace h := h.2 c
          refine g_ldc2 (pc' := 30) d_174_27 rfl st_174_166 cL_m9223372036854775808 ?_
          exact g_lret d_174_30 rt_174 h
-- 175 BernoulliWays.genocchi(I)J
theorem S_175_0 {a0 : Nat} {i1 : Int32} {w : xW} {r : Option Value × xW} (h : (i1 < 0 → r = (some (.long (-9223372036854775808 : Int64)), w)) ∧ (¬ (i1 < 0) → ((20 : Int32) < i1 → r = (some (.long (-9223372036854775808 : Int64)), w)) ∧ (¬ ((20 : Int32) < i1) → ∃ fs1, w[a0]? = some (.inr (0, fs1)) ∧ ∃ x3, fs1[7]? = some (.int x3) ∧ (i1 ≤ x3 → ∃ b5, fs1[4]? = some (.ref b5) ∧ ∃ b7, fs1[13]? = some (.ref b7) ∧ ∃ fs9, w[b5]? = some (.inr (4, fs9)) ∧ ∃ w11, xCall 100 [.ref b5, .int i1, .ref b7] w (none, w11) ∧ ∃ fs13, w11[a0]? = some (.inr (0, fs13)) ∧ ∃ b15, fs13[13]? = some (.ref b15) ∧ ∃ fs17, w11[b15]? = some (.inr (5, fs17)) ∧ ∃ w19, xCall 43 [.ref b15, .long ((2 : Int64) * ((1 : Int64) - ((1 : Int64) <<< (i1.toInt64 &&& 63))))] w11 (none, w19) ∧ ∃ fs21, w19[a0]? = some (.inr (0, fs21)) ∧ ∃ b23, fs21[13]? = some (.ref b23) ∧ ∃ fs25, w19[b23]? = some (.inr (5, fs25)) ∧ ∃ x27, fs25[1]? = some (.long x27) ∧ (¬ x27 = (0 : Int64) → r = (some (.long (-9223372036854775808 : Int64)), w19)) ∧ (¬ (¬ x27 = (0 : Int64)) → ∃ x29, fs25[0]? = some (.long x29) ∧ r = (some (.long x29), w19))) ∧ (¬ (i1 ≤ x3) → r = (some (.long (-9223372036854775808 : Int64)), w))))) : xGo 175 0 [some (.ref a0), some (.int i1)] [] w r := by
  refine g_iloadn (pc' := 1) d_175_0 rfl rfl ?_
  refine g_if_lt (pc' := 4) (pt := 18) d_175_1 (by decide) rfl (fun c => ?_) (fun c => ?_)
  · replace h := h.1 c
    refine g_ldc2 (pc' := 21) d_175_18 rfl st_175_166 cL_m9223372036854775808 ?_
    exact g_lret d_175_21 rt_175 h
  · replace h := h.2 c
    refine g_iloadn (pc' := 5) d_175_4 rfl rfl ?_
    refine g_bipush (pc' := 7) d_175_5 rfl cb_20 ?_
    refine g_ic_gt (pc' := 10) (pt := 18) d_175_7 (by decide) rfl (fun c => ?_) (fun c => ?_)
    · replace h := h.1 c
      refine g_ldc2 (pc' := 21) d_175_18 rfl st_175_166 cL_m9223372036854775808 ?_
      exact g_lret d_175_21 rt_175 h
    · replace h := h.2 c
      refine g_iloadn (pc' := 11) d_175_10 rfl rfl ?_
      refine g_aloadn (pc' := 12) d_175_11 rfl rfl ?_
      obtain ⟨fs1, hw2, h⟩ := h
      obtain ⟨x3, hv4, h⟩ := h
      refine g_getf (pc' := 15) d_175_12 rfl st_175_49 hw2 hv4 ?_
      refine g_ic_le (pc' := 18) (pt := 22) d_175_15 (by decide) rfl (fun c => ?_) (fun c => ?_)
      · replace h := h.1 c
        refine g_aloadn (pc' := 23) d_175_22 rfl rfl ?_
        obtain ⟨b5, hv6, h⟩ := h
        refine g_getf (pc' := 26) d_175_23 rfl st_175_39 hw2 hv6 ?_
        refine g_iloadn (pc' := 27) d_175_26 rfl rfl ?_
        refine g_aloadn (pc' := 28) d_175_27 rfl rfl ?_
        obtain ⟨b7, hv8, h⟩ := h
        refine g_getf (pc' := 31) d_175_28 rfl st_175_95 hw2 hv8 ?_
        obtain ⟨fs9, hw10, h⟩ := h
        obtain ⟨w11, hk12, h⟩ := h
        refine g_callV (pc' := 34) d_175_31 rfl st_175_168 na_100 ml_100 rfl rfl rfl rm_175_100 rfl rfl ow_100 hw10 hk12 ?_
        refine g_aloadn (pc' := 35) d_175_34 rfl rfl ?_
        obtain ⟨fs13, hw14, h⟩ := h
        obtain ⟨b15, hv16, h⟩ := h
        refine g_getf (pc' := 38) d_175_35 rfl st_175_95 hw14 hv16 ?_
        refine g_ldc2 (pc' := 41) d_175_38 rfl st_175_389 cL_2 ?_
        refine g_lconst (pc' := 42) d_175_41 rfl cl_1 ?_
        refine g_lconst (pc' := 43) d_175_42 rfl cl_1 ?_
        refine g_iloadn (pc' := 44) d_175_43 rfl rfl ?_
        refine g_lshl (pc' := 45) d_175_44 rfl ?_
        refine g_lsub (pc' := 46) d_175_45 rfl ?_
        refine g_lmul (pc' := 47) d_175_46 rfl ?_
        obtain ⟨fs17, hw18, h⟩ := h
        obtain ⟨w19, hk20, h⟩ := h
        refine g_callV (pc' := 50) d_175_47 rfl st_175_339 na_43 ml_43 rfl rfl rfl rm_175_43 rfl rfl ow_43 hw18 hk20 ?_
        refine g_aloadn (pc' := 51) d_175_50 rfl rfl ?_
        obtain ⟨fs21, hw22, h⟩ := h
        obtain ⟨b23, hv24, h⟩ := h
        refine g_getf (pc' := 54) d_175_51 rfl st_175_95 hw22 hv24 ?_
        obtain ⟨fs25, hw26, h⟩ := h
        obtain ⟨x27, hv28, h⟩ := h
        refine g_getf (pc' := 57) d_175_54 rfl st_175_391 hw26 hv28 ?_
        refine g_lconst (pc' := 58) d_175_57 rfl cl_0 ?_
        refine g_lc_ne (pc' := 62) (pm := 59) (pt := 72) d_175_58 rfl d_175_59 (by decide) rfl (fun c => ?_) (fun c => ?_)
        · replace h := h.1 c
          refine g_ldc2 (pc' := 75) d_175_72 rfl st_175_166 cL_m9223372036854775808 ?_
          exact g_lret d_175_75 rt_175 h
        · replace h := h.2 c
          refine g_aloadn (pc' := 63) d_175_62 rfl rfl ?_
          refine g_getf (pc' := 66) d_175_63 rfl st_175_95 hw22 hv24 ?_
          obtain ⟨x29, hv30, h⟩ := h
          refine g_getf (pc' := 69) d_175_66 rfl st_175_218 hw26 hv30 ?_
          refine g_goto (pt := 75) d_175_69 (by decide) ?_
          exact g_lret d_175_75 rt_175 h
      · replace h := h.2 c
        refine g_ldc2 (pc' := 21) d_175_18 rfl st_175_166 cL_m9223372036854775808 ?_
        exact g_lret d_175_21 rt_175 h
-- 176 BernoulliWays.onto(II)J
theorem S_176_0 {a0 : Nat} {i1 : Int32} {i2 : Int32} {w : xW} {r : Option Value × xW} (h : (i1 < 0 → r = (some (.long (-9223372036854775808 : Int64)), w)) ∧ (¬ (i1 < 0) → ((30 : Int32) < i1 → r = (some (.long (-9223372036854775808 : Int64)), w)) ∧ (¬ ((30 : Int32) < i1) → (i2 < 0 → r = (some (.long (-9223372036854775808 : Int64)), w)) ∧ (¬ (i2 < 0) → (i2 ≤ (30 : Int32) → ∃ fs1, w[a0]? = some (.inr (0, fs1)) ∧ ∃ w3, xCall 177 [.ref a0, .int i1] w (none, w3) ∧ ∃ fs5, w3[a0]? = some (.inr (0, fs5)) ∧ ∃ b7, fs5[14]? = some (.ref b7) ∧ ∃ n9 f10, w3[b7]? = some (.inl (.inr (n9, f10))) ∧ (¬ (i2 < 0 ∨ n9 ≤ i2.toNatClampNeg)) ∧ ((0 : Int64) ≤ (f10 i2.toNatClampNeg) → (¬ (i2 < 0 ∨ n9 ≤ i2.toNatClampNeg)) ∧ r = (some (.long (f10 i2.toNatClampNeg)), w3)) ∧ (¬ ((0 : Int64) ≤ (f10 i2.toNatClampNeg)) → r = (some (.long (-9223372036854775808 : Int64)), w3))) ∧ (¬ (i2 ≤ (30 : Int32)) → r = (some (.long (-9223372036854775808 : Int64)), w)))))) : xGo 176 0 [some (.ref a0), some (.int i1), some (.int i2)] [] w r := by
  refine g_iloadn (pc' := 1) d_176_0 rfl rfl ?_
  refine g_if_lt (pc' := 4) (pt := 20) d_176_1 (by decide) rfl (fun c => ?_) (fun c => ?_)
  · replace h := h.1 c
    refine g_ldc2 (pc' := 23) d_176_20 rfl st_176_166 cL_m9223372036854775808 ?_
    exact g_lret d_176_23 rt_176 h
  · replace h := h.2 c
    refine g_iloadn (pc' := 5) d_176_4 rfl rfl ?_
    refine g_bipush (pc' := 7) d_176_5 rfl cb_30 ?_
    refine g_ic_gt (pc' := 10) (pt := 20) d_176_7 (by decide) rfl (fun c => ?_) (fun c => ?_)
    · replace h := h.1 c
      refine g_ldc2 (pc' := 23) d_176_20 rfl st_176_166 cL_m9223372036854775808 ?_
      exact g_lret d_176_23 rt_176 h
    · replace h := h.2 c
      refine g_iloadn (pc' := 11) d_176_10 rfl rfl ?_
      refine g_if_lt (pc' := 14) (pt := 20) d_176_11 (by decide) rfl (fun c => ?_) (fun c => ?_)
      · replace h := h.1 c
        refine g_ldc2 (pc' := 23) d_176_20 rfl st_176_166 cL_m9223372036854775808 ?_
        exact g_lret d_176_23 rt_176 h
      · replace h := h.2 c
        refine g_iloadn (pc' := 15) d_176_14 rfl rfl ?_
        refine g_bipush (pc' := 17) d_176_15 rfl cb_30 ?_
        refine g_ic_le (pc' := 20) (pt := 24) d_176_17 (by decide) rfl (fun c => ?_) (fun c => ?_)
        · replace h := h.1 c
          refine g_aloadn (pc' := 25) d_176_24 rfl rfl ?_
          refine g_iloadn (pc' := 26) d_176_25 rfl rfl ?_
          obtain ⟨fs1, hw2, h⟩ := h
          obtain ⟨w3, hk4, h⟩ := h
          refine g_callV (pc' := 29) d_176_26 rfl st_176_394 na_177 ml_177 rfl rfl rfl rm_176_177 rfl rfl ow_177 hw2 hk4 ?_
          refine g_aloadn (pc' := 30) d_176_29 rfl rfl ?_
          obtain ⟨fs5, hw6, h⟩ := h
          obtain ⟨b7, hv8, h⟩ := h
          refine g_getf (pc' := 33) d_176_30 rfl st_176_99 hw6 hv8 ?_
          refine g_iloadn (pc' := 34) d_176_33 rfl rfl ?_
          obtain ⟨n9, f10, hw11, h⟩ := h
          obtain ⟨hc12, h⟩ := h
          refine g_lald (pc' := 35) d_176_34 rfl hw11 hc12 ?_
          refine g_lconst (pc' := 36) d_176_35 rfl cl_0 ?_
          refine g_lc_ge (pc' := 40) (pm := 37) (pt := 46) d_176_36 rfl d_176_37 (by decide) rfl (fun c => ?_) (fun c => ?_)
          · replace h := h.1 c
            refine g_aloadn (pc' := 47) d_176_46 rfl rfl ?_
            refine g_getf (pc' := 50) d_176_47 rfl st_176_99 hw6 hv8 ?_
            refine g_iloadn (pc' := 51) d_176_50 rfl rfl ?_
            obtain ⟨hc13, h⟩ := h
            refine g_lald (pc' := 52) d_176_51 rfl hw11 hc13 ?_
            exact g_lret d_176_52 rt_176 h
          · replace h := h.2 c
            refine g_ldc2 (pc' := 43) d_176_40 rfl st_176_166 cL_m9223372036854775808 ?_
            refine g_goto (pt := 52) d_176_43 (by decide) ?_
            exact g_lret d_176_52 rt_176 h
        · replace h := h.2 c
          refine g_ldc2 (pc' := 23) d_176_20 rfl st_176_166 cL_m9223372036854775808 ?_
          exact g_lret d_176_23 rt_176 h
-- 177 BernoulliWays.fillBoxes(I)V
theorem S_177_0 {a0 : Nat} {i1 : Int32} {w : xW} {r : Option Value × xW} (h : ∃ fs1, w[a0]? = some (.inr (0, fs1)) ∧ ∃ b3, fs1[14]? = some (.ref b3) ∧ ∃ w5, xCall 6 [.ref b3, .long (0 : Int64)] w (none, w5) ∧ ∃ fs7, w5[a0]? = some (.inr (0, fs7)) ∧ ∃ b9, fs7[14]? = some (.ref b9) ∧ ∃ n11 f12, w5[b9]? = some (.inl (.inr (n11, f12))) ∧ (¬ ((0 : Int32) < 0 ∨ n11 ≤ (0 : Int32).toNatClampNeg)) ∧ ∀ w15, w15 = w5.set b9 (.inl (.inr (n11, (vp_updL f12 (0 : Int32).toNatClampNeg (1 : Int64))))) → xGo 177 17 [some (.ref a0), some (.int i1), some (.int (1 : Int32)), none] [] w15 r) : xGo 177 0 [some (.ref a0), some (.int i1), none, none] [] w r := by
  refine g_aloadn (pc' := 1) d_177_0 rfl rfl ?_
  obtain ⟨fs1, hw2, h⟩ := h
  obtain ⟨b3, hv4, h⟩ := h
  refine g_getf (pc' := 4) d_177_1 rfl st_177_99 hw2 hv4 ?_
  refine g_lconst (pc' := 5) d_177_4 rfl cl_0 ?_
  obtain ⟨w5, hk6, h⟩ := h
  refine g_callS (pc' := 8) d_177_5 rfl st_177_477 (Or.inl rfl) na_6 ml_6 rfl rfl rfl rm_177_6 rfl rfl hk6 ?_
  refine g_aloadn (pc' := 9) d_177_8 rfl rfl ?_
  obtain ⟨fs7, hw8, h⟩ := h
  obtain ⟨b9, hv10, h⟩ := h
  refine g_getf (pc' := 12) d_177_9 rfl st_177_99 hw8 hv10 ?_
  refine g_iconst (pc' := 13) d_177_12 rfl ci_0 ?_
  refine g_lconst (pc' := 14) d_177_13 rfl cl_1 ?_
  obtain ⟨n11, f12, hw13, h⟩ := h
  obtain ⟨hc14, h⟩ := h
  have h := h _ rfl
  refine g_last (pc' := 15) d_177_14 rfl hw13 hc14 ?_
  refine g_iconst (pc' := 16) d_177_15 rfl ci_1 ?_
  refine g_istoren (pc' := 17) (l' := [some (.ref a0), some (.int i1), some (.int (1 : Int32)), none]) d_177_16 rfl ml_177 rfl rfl ?_
  exact h
theorem S_177_17 {a0 : Nat} {i1 : Int32} {i2 : Int32} {w : xW} {r : Option Value × xW} (h : (i1 < i2 → r = (none, w)) ∧ (¬ (i1 < i2) → ∃ r3 w1, xCall 13 [.int i2, .int (30 : Int32)] w (some (.int r3), w1) ∧ xGo 177 29 [some (.ref a0), some (.int i1), some (.int i2), some (.int r3)] [] w1 r)) : xGo 177 17 [some (.ref a0), some (.int i1), some (.int i2), none] [] w r := by
  refine g_iloadn (pc' := 18) d_177_17 rfl rfl ?_
  refine g_iloadn (pc' := 19) d_177_18 rfl rfl ?_
  refine g_ic_gt (pc' := 22) (pt := 77) d_177_19 (by decide) rfl (fun c => ?_) (fun c => ?_)
  · replace h := h.1 c
    exact g_vret d_177_77 rt_177 h
  · replace h := h.2 c
    refine g_iloadn (pc' := 23) d_177_22 rfl rfl ?_
    refine g_bipush (pc' := 25) d_177_23 rfl cb_30 ?_
    obtain ⟨r3, w1, hk2, h⟩ := h
    refine g_callS (pc' := 28) d_177_25 rfl st_177_482 (Or.inl rfl) na_13 ml_13 rfl rfl rfl rm_177_13 rfl rfl hk2 ?_
    refine g_istoren (pc' := 29) (l' := [some (.ref a0), some (.int i1), some (.int i2), some (.int r3)]) d_177_28 rfl ml_177 rfl rfl ?_
    exact h
theorem S_177_29 {a0 : Nat} {i1 : Int32} {i2 : Int32} {i3 : Int32} {w : xW} {r : Option Value × xW} (h : (i3 < (1 : Int32) → ∃ fs1, w[a0]? = some (.inr (0, fs1)) ∧ ∃ b3, fs1[14]? = some (.ref b3) ∧ ∃ n5 f6, w[b3]? = some (.inl (.inr (n5, f6))) ∧ (¬ ((0 : Int32) < 0 ∨ n5 ≤ (0 : Int32).toNatClampNeg)) ∧ ∀ w9, w9 = w.set b3 (.inl (.inr (n5, (vp_updL f6 (0 : Int32).toNatClampNeg (0 : Int64))))) → ∀ v10 : Int32, v10 = i2 + (1 : Int32) → xGo 177 17 [some (.ref a0), some (.int i1), some (.int v10), none] [] w9 r) ∧ (¬ (i3 < (1 : Int32)) → ∃ fs11, w[a0]? = some (.inr (0, fs11)) ∧ ∃ b13, fs11[14]? = some (.ref b13) ∧ ∃ n15 f16, w[b13]? = some (.inl (.inr (n15, f16))) ∧ (¬ (i3 < 0 ∨ n15 ≤ i3.toNatClampNeg)) ∧ (¬ ((i3 - (1 : Int32)) < 0 ∨ n15 ≤ (i3 - (1 : Int32)).toNatClampNeg)) ∧ ∃ r22 w20, xCall 178 [.int i3, .long (f16 i3.toNatClampNeg), .long (f16 (i3 - (1 : Int32)).toNatClampNeg)] w (some (.long r22), w20) ∧ ∃ n23 f24, w20[b13]? = some (.inl (.inr (n23, f24))) ∧ (¬ (i3 < 0 ∨ n23 ≤ i3.toNatClampNeg)) ∧ ∀ w27, w27 = w20.set b13 (.inl (.inr (n23, (vp_updL f24 i3.toNatClampNeg r22)))) → ∀ v28 : Int32, v28 = i3 + (-1 : Int32) → xGo 177 29 [some (.ref a0), some (.int i1), some (.int i2), some (.int v28)] [] w27 r)) : xGo 177 29 [some (.ref a0), some (.int i1), some (.int i2), some (.int i3)] [] w r := by
  refine g_iloadn (pc' := 30) d_177_29 rfl rfl ?_
  refine g_iconst (pc' := 31) d_177_30 rfl ci_1 ?_
  refine g_ic_lt (pc' := 34) (pt := 64) d_177_31 (by decide) rfl (fun c => ?_) (fun c => ?_)
  · replace h := h.1 c
    refine g_aloadn (pc' := 65) d_177_64 rfl rfl ?_
    obtain ⟨fs1, hw2, h⟩ := h
    obtain ⟨b3, hv4, h⟩ := h
    refine g_getf (pc' := 68) d_177_65 rfl st_177_99 hw2 hv4 ?_
    refine g_iconst (pc' := 69) d_177_68 rfl ci_0 ?_
    refine g_lconst (pc' := 70) d_177_69 rfl cl_0 ?_
    obtain ⟨n5, f6, hw7, h⟩ := h
    obtain ⟨hc8, h⟩ := h
    have h := h _ rfl
    refine g_last (pc' := 71) d_177_70 rfl hw7 hc8 ?_
    have h := h _ rfl
    refine g_iinc (pc' := 74) (l' := [some (.ref a0), some (.int i1), some (.int (i2 + (1 : Int32))), some (.int i3)]) d_177_71 rfl rfl ci_1 ml_177 rfl rfl ?_
    refine g_goto (pt := 17) d_177_74 (by decide) ?_
    exact xGo.more (xle_s (xle_s (xle_s (xle_n xle_0)))) h
  · replace h := h.2 c
    refine g_aloadn (pc' := 35) d_177_34 rfl rfl ?_
    obtain ⟨fs11, hw12, h⟩ := h
    obtain ⟨b13, hv14, h⟩ := h
    refine g_getf (pc' := 38) d_177_35 rfl st_177_99 hw12 hv14 ?_
    refine g_iloadn (pc' := 39) d_177_38 rfl rfl ?_
    refine g_iloadn (pc' := 40) d_177_39 rfl rfl ?_
    refine g_aloadn (pc' := 41) d_177_40 rfl rfl ?_
    refine g_getf (pc' := 44) d_177_41 rfl st_177_99 hw12 hv14 ?_
    refine g_iloadn (pc' := 45) d_177_44 rfl rfl ?_
    obtain ⟨n15, f16, hw17, h⟩ := h
    obtain ⟨hc18, h⟩ := h
    refine g_lald (pc' := 46) d_177_45 rfl hw17 hc18 ?_
    refine g_aloadn (pc' := 47) d_177_46 rfl rfl ?_
    refine g_getf (pc' := 50) d_177_47 rfl st_177_99 hw12 hv14 ?_
    refine g_iloadn (pc' := 51) d_177_50 rfl rfl ?_
    refine g_iconst (pc' := 52) d_177_51 rfl ci_1 ?_
    refine g_isub (pc' := 53) d_177_52 rfl ?_
    obtain ⟨hc19, h⟩ := h
    refine g_lald (pc' := 54) d_177_53 rfl hw17 hc19 ?_
    obtain ⟨r22, w20, hk21, h⟩ := h
    refine g_callS (pc' := 57) d_177_54 rfl st_177_485 (Or.inl rfl) na_178 ml_178 rfl rfl rfl rm_177_178 rfl rfl hk21 ?_
    obtain ⟨n23, f24, hw25, h⟩ := h
    obtain ⟨hc26, h⟩ := h
    have h := h _ rfl
    refine g_last (pc' := 58) d_177_57 rfl hw25 hc26 ?_
    have h := h _ rfl
    refine g_iinc (pc' := 61) (l' := [some (.ref a0), some (.int i1), some (.int i2), some (.int (i3 + (-1 : Int32)))]) d_177_58 rfl rfl ci_m1 ml_177 rfl rfl ?_
    refine g_goto (pt := 29) d_177_61 (by decide) ?_
    exact h
-- 178 BernoulliWays.timesTogether(IJJ)J
theorem S_178_0 {i0 : Int32} {l1 : Int64} {l3 : Int64} {w : xW} {r : Option Value × xW} (h : (i0 < (1 : Int32) → r = (some (.long (-1 : Int64)), w)) ∧ (¬ (i0 < (1 : Int32)) → (l1 < (0 : Int64) → r = (some (.long (-1 : Int64)), w)) ∧ (¬ (l1 < (0 : Int64)) → (l3 < (0 : Int64) → r = (some (.long (-1 : Int64)), w)) ∧ (¬ (l3 < (0 : Int64)) → (((9223372036854775807 : Int64) - l3) < l1 → r = (some (.long (-1 : Int64)), w)) ∧ (¬ (((9223372036854775807 : Int64) - l3) < l1) → (¬ (i0.toInt64) = 0) ∧ ((l1 + l3) ≤ ((9223372036854775807 : Int64) / (i0.toInt64)) → r = (some (.long ((i0.toInt64) * (l1 + l3))), w)) ∧ (¬ ((l1 + l3) ≤ ((9223372036854775807 : Int64) / (i0.toInt64))) → r = (some (.long (-1 : Int64)), w))))))) : xGo 178 0 [some (.int i0), some (.long l1), none, some (.long l3), none] [] w r := by
  refine g_iloadn (pc' := 1) d_178_0 rfl rfl ?_
  refine g_iconst (pc' := 2) d_178_1 rfl ci_1 ?_
  refine g_ic_lt (pc' := 5) (pt := 40) d_178_2 (by decide) rfl (fun c => ?_) (fun c => ?_)
  · replace h := h.1 c
    refine g_ldc2 (pc' := 43) d_178_40 rfl st_178_387 cL_m1 ?_
    exact g_lret d_178_43 rt_178 h
  · replace h := h.2 c
    refine g_lloadn (pc' := 6) d_178_5 rfl rfl ?_
    refine g_lconst (pc' := 7) d_178_6 rfl cl_0 ?_
    refine g_lc_lt (pc' := 11) (pm := 8) (pt := 40) d_178_7 rfl d_178_8 (by decide) rfl (fun c => ?_) (fun c => ?_)
    · replace h := h.1 c
      refine g_ldc2 (pc' := 43) d_178_40 rfl st_178_387 cL_m1 ?_
      exact g_lret d_178_43 rt_178 h
    · replace h := h.2 c
      refine g_lloadn (pc' := 12) d_178_11 rfl rfl ?_
      refine g_lconst (pc' := 13) d_178_12 rfl cl_0 ?_
      refine g_lc_lt (pc' := 17) (pm := 14) (pt := 40) d_178_13 rfl d_178_14 (by decide) rfl (fun c => ?_) (fun c => ?_)
      · replace h := h.1 c
        refine g_ldc2 (pc' := 43) d_178_40 rfl st_178_387 cL_m1 ?_
        exact g_lret d_178_43 rt_178 h
      · replace h := h.2 c
        refine g_lloadn (pc' := 18) d_178_17 rfl rfl ?_
        refine g_ldc2 (pc' := 21) d_178_18 rfl st_178_489 cL_9223372036854775807 ?_
        refine g_lloadn (pc' := 22) d_178_21 rfl rfl ?_
        refine g_lsub (pc' := 23) d_178_22 rfl ?_
        refine g_lc_gt (pc' := 27) (pm := 24) (pt := 40) d_178_23 rfl d_178_24 (by decide) rfl (fun c => ?_) (fun c => ?_)
        · replace h := h.1 c
          refine g_ldc2 (pc' := 43) d_178_40 rfl st_178_387 cL_m1 ?_
          exact g_lret d_178_43 rt_178 h
        · replace h := h.2 c
          refine g_lloadn (pc' := 28) d_178_27 rfl rfl ?_
          refine g_lloadn (pc' := 29) d_178_28 rfl rfl ?_
          refine g_ladd (pc' := 30) d_178_29 rfl ?_
          refine g_ldc2 (pc' := 33) d_178_30 rfl st_178_489 cL_9223372036854775807 ?_
          refine g_iloadn (pc' := 34) d_178_33 rfl rfl ?_
          refine g_i2l (pc' := 35) d_178_34 rfl ?_
          obtain ⟨hc1, h⟩ := h
          refine g_ldiv (pc' := 36) d_178_35 rfl hc1 ?_
          refine g_lc_le (pc' := 40) (pm := 37) (pt := 44) d_178_36 rfl d_178_37 (by decide) rfl (fun c => ?_) (fun c => ?_)
          · replace h := h.1 c
            refine g_iloadn (pc' := 45) d_178_44 rfl rfl ?_
            refine g_i2l (pc' := 46) d_178_45 rfl ?_
            refine g_lloadn (pc' := 47) d_178_46 rfl rfl ?_
            refine g_lloadn (pc' := 48) d_178_47 rfl rfl ?_
            refine g_ladd (pc' := 49) d_178_48 rfl ?_
            refine g_lmul (pc' := 50) d_178_49 rfl ?_
            exact g_lret d_178_50 rt_178 h
          · replace h := h.2 c
            refine g_ldc2 (pc' := 43) d_178_40 rfl st_178_387 cL_m1 ?_
            exact g_lret d_178_43 rt_178 h
-- 179 BernoulliWays.byBoxes(II)J
theorem S_179_0 {a0 : Nat} {i1 : Int32} {i2 : Int32} {w : xW} {r : Option Value × xW} (h : (i1 < 0 → r = (some (.long (-9223372036854775808 : Int64)), w)) ∧ (¬ (i1 < 0) → ((20 : Int32) < i1 → r = (some (.long (-9223372036854775808 : Int64)), w)) ∧ (¬ ((20 : Int32) < i1) → ∃ r3 w1, xCall 116 [.int i2] w (some (.int r3), w1) ∧ (¬ r3 = 0 → ∃ fs4, w1[a0]? = some (.inr (0, fs4)) ∧ ∃ w6, xCall 177 [.ref a0, .int i1] w1 (none, w6) ∧ ∃ fs8, w6[a0]? = some (.inr (0, fs8)) ∧ ∃ b10, fs8[1]? = some (.ref b10) ∧ ∃ fs12, w6[b10]? = some (.inr (2, fs12)) ∧ ∃ w14, xCall 37 [.ref b10, .long (232792560 : Int64)] w6 (none, w14) ∧ xGo 179 38 [some (.ref a0), some (.int i1), some (.int i2), some (.int (0 : Int32)), none] [] w14 r) ∧ (¬ (¬ r3 = 0) → r = (some (.long (-9223372036854775808 : Int64)), w1))))) : xGo 179 0 [some (.ref a0), some (.int i1), some (.int i2), none, none] [] w r := by
  refine g_iloadn (pc' := 1) d_179_0 rfl rfl ?_
  refine g_if_lt (pc' := 4) (pt := 17) d_179_1 (by decide) rfl (fun c => ?_) (fun c => ?_)
  · replace h := h.1 c
    refine g_ldc2 (pc' := 20) d_179_17 rfl st_179_166 cL_m9223372036854775808 ?_
    exact g_lret d_179_20 rt_179 h
  · replace h := h.2 c
    refine g_iloadn (pc' := 5) d_179_4 rfl rfl ?_
    refine g_bipush (pc' := 7) d_179_5 rfl cb_20 ?_
    refine g_ic_gt (pc' := 10) (pt := 17) d_179_7 (by decide) rfl (fun c => ?_) (fun c => ?_)
    · replace h := h.1 c
      refine g_ldc2 (pc' := 20) d_179_17 rfl st_179_166 cL_m9223372036854775808 ?_
      exact g_lret d_179_20 rt_179 h
    · replace h := h.2 c
      refine g_iloadn (pc' := 11) d_179_10 rfl rfl ?_
      obtain ⟨r3, w1, hk2, h⟩ := h
      refine g_callS (pc' := 14) d_179_11 rfl st_179_153 (Or.inl rfl) na_116 ml_116 rfl rfl rfl rm_179_116 rfl rfl hk2 ?_
      refine g_if_ne (pc' := 17) (pt := 21) d_179_14 (by decide) rfl (fun c => ?_) (fun c => ?_)
      · replace h := h.1 c
        refine g_aloadn (pc' := 22) d_179_21 rfl rfl ?_
        refine g_iloadn (pc' := 23) d_179_22 rfl rfl ?_
        obtain ⟨fs4, hw5, h⟩ := h
        obtain ⟨w6, hk7, h⟩ := h
        refine g_callV (pc' := 26) d_179_23 rfl st_179_394 na_177 ml_177 rfl rfl rfl rm_179_177 rfl rfl ow_177 hw5 hk7 ?_
        refine g_aloadn (pc' := 27) d_179_26 rfl rfl ?_
        obtain ⟨fs8, hw9, h⟩ := h
        obtain ⟨b10, hv11, h⟩ := h
        refine g_getf (pc' := 30) d_179_27 rfl st_179_21 hw9 hv11 ?_
        refine g_ldc2 (pc' := 33) d_179_30 rfl st_179_397 cL_232792560 ?_
        obtain ⟨fs12, hw13, h⟩ := h
        obtain ⟨w14, hk15, h⟩ := h
        refine g_callV (pc' := 36) d_179_33 rfl st_179_195 na_37 ml_37 rfl rfl rfl rm_179_37 rfl rfl ow_37 hw13 hk15 ?_
        refine g_iconst (pc' := 37) d_179_36 rfl ci_0 ?_
        refine g_istoren (pc' := 38) (l' := [some (.ref a0), some (.int i1), some (.int i2), some (.int (0 : Int32)), none]) d_179_37 rfl ml_179 rfl rfl ?_
        exact h
      · replace h := h.2 c
        refine g_ldc2 (pc' := 20) d_179_17 rfl st_179_166 cL_m9223372036854775808 ?_
        exact g_lret d_179_20 rt_179 h
theorem S_179_38 {a0 : Nat} {i1 : Int32} {i2 : Int32} {i3 : Int32} {w : xW} {r : Option Value × xW} (h : (i1 < i3 → ∃ fs1, w[a0]? = some (.inr (0, fs1)) ∧ ∃ b3, fs1[1]? = some (.ref b3) ∧ ∃ b5, fs1[13]? = some (.ref b5) ∧ ∃ fs7, w[b3]? = some (.inr (2, fs7)) ∧ ∃ w9, xCall 42 [.ref b3, .ref b5] w (none, w9) ∧ ∃ fs11, w9[a0]? = some (.inr (0, fs11)) ∧ ∃ b13, fs11[13]? = some (.ref b13) ∧ ∃ fs15, w9[b13]? = some (.inr (5, fs15)) ∧ ∃ r19 w17, xCall 117 [.ref b13, .int i2] w9 (some (.long r19), w17) ∧ r = (some (.long r19), w17)) ∧ (¬ (i1 < i3) → ∃ fs20, w[a0]? = some (.inr (0, fs20)) ∧ ∃ b22, fs20[14]? = some (.ref b22) ∧ ∃ n24 f25, w[b22]? = some (.inl (.inr (n24, f25))) ∧ (¬ (i3 < 0 ∨ n24 ≤ i3.toNatClampNeg)) ∧ ((0 : Int64) ≤ (f25 i3.toNatClampNeg) → ∀ v28 : Int32, v28 = (i3 + (1 : Int32)) → ∃ b29, fs20[1]? = some (.ref b29) ∧ (¬ (irem i3 (2 : Int32)) = 0 → (¬ (i3 < 0 ∨ n24 ≤ i3.toNatClampNeg)) ∧ (¬ (v28.toInt64) = 0) ∧ (¬ (i3 < 0 ∨ n24 ≤ i3.toNatClampNeg)) ∧ (¬ (v28.toInt64) = 0) ∧ ∃ fs35, w[b29]? = some (.inr (2, fs35)) ∧ ∃ w37, xCall 41 [.ref b29, .long (-1 : Int64), .long ((f25 i3.toNatClampNeg) / (v28.toInt64)), .long (lrem (f25 i3.toNatClampNeg) (v28.toInt64)), .long (v28.toInt64)] w (none, w37) ∧ ∀ v39 : Int32, v39 = i3 + (1 : Int32) → xGo 179 38 [some (.ref a0), some (.int i1), some (.int i2), some (.int v39), none] [] w37 r) ∧ (¬ (¬ (irem i3 (2 : Int32)) = 0) → (¬ (i3 < 0 ∨ n24 ≤ i3.toNatClampNeg)) ∧ (¬ (v28.toInt64) = 0) ∧ (¬ (i3 < 0 ∨ n24 ≤ i3.toNatClampNeg)) ∧ (¬ (v28.toInt64) = 0) ∧ ∃ fs44, w[b29]? = some (.inr (2, fs44)) ∧ ∃ w46, xCall 41 [.ref b29, .long (1 : Int64), .long ((f25 i3.toNatClampNeg) / (v28.toInt64)), .long (lrem (f25 i3.toNatClampNeg) (v28.toInt64)), .long (v28.toInt64)] w (none, w46) ∧ ∀ v48 : Int32, v48 = i3 + (1 : Int32) → xGo 179 38 [some (.ref a0), some (.int i1), some (.int i2), some (.int v48), none] [] w46 r)) ∧ (¬ ((0 : Int64) ≤ (f25 i3.toNatClampNeg)) → r = (some (.long (-9223372036854775808 : Int64)), w)))) : xGo 179 38 [some (.ref a0), some (.int i1), some (.int i2), some (.int i3), none] [] w r := by
  refine g_iloadn (pc' := 39) d_179_38 rfl rfl ?_
  refine g_iloadn (pc' := 40) d_179_39 rfl rfl ?_
  refine g_ic_gt (pc' := 43) (pt := 112) d_179_40 (by decide) rfl (fun c => ?_) (fun c => ?_)
  · replace h := h.1 c
    refine g_aloadn (pc' := 113) d_179_112 rfl rfl ?_
    obtain ⟨fs1, hw2, h⟩ := h
    obtain ⟨b3, hv4, h⟩ := h
    refine g_getf (pc' := 116) d_179_113 rfl st_179_21 hw2 hv4 ?_
    refine g_aloadn (pc' := 117) d_179_116 rfl rfl ?_
    obtain ⟨b5, hv6, h⟩ := h
    refine g_getf (pc' := 120) d_179_117 rfl st_179_95 hw2 hv6 ?_
    obtain ⟨fs7, hw8, h⟩ := h
    obtain ⟨w9, hk10, h⟩ := h
    refine g_callV (pc' := 123) d_179_120 rfl st_179_214 na_42 ml_42 rfl rfl rfl rm_179_42 rfl rfl ow_42 hw8 hk10 ?_
    refine g_aloadn (pc' := 124) d_179_123 rfl rfl ?_
    obtain ⟨fs11, hw12, h⟩ := h
    obtain ⟨b13, hv14, h⟩ := h
    refine g_getf (pc' := 127) d_179_124 rfl st_179_95 hw12 hv14 ?_
    refine g_iloadn (pc' := 128) d_179_127 rfl rfl ?_
    obtain ⟨fs15, hw16, h⟩ := h
    obtain ⟨r19, w17, hk18, h⟩ := h
    refine g_callV (pc' := 131) d_179_128 rfl st_179_171 na_117 ml_117 rfl rfl rfl rm_179_117 rfl rfl ow_117 hw16 hk18 ?_
    exact g_lret d_179_131 rt_179 h
  · replace h := h.2 c
    refine g_aloadn (pc' := 44) d_179_43 rfl rfl ?_
    obtain ⟨fs20, hw21, h⟩ := h
    obtain ⟨b22, hv23, h⟩ := h
    refine g_getf (pc' := 47) d_179_44 rfl st_179_99 hw21 hv23 ?_
    refine g_iloadn (pc' := 48) d_179_47 rfl rfl ?_
    obtain ⟨n24, f25, hw26, h⟩ := h
    obtain ⟨hc27, h⟩ := h
    refine g_lald (pc' := 49) d_179_48 rfl hw26 hc27 ?_
    refine g_lconst (pc' := 50) d_179_49 rfl cl_0 ?_
    refine g_lc_ge (pc' := 54) (pm := 51) (pt := 58) d_179_50 rfl d_179_51 (by decide) rfl (fun c => ?_) (fun c => ?_)
    · replace h := h.1 c
      refine g_iloadn (pc' := 59) d_179_58 rfl rfl ?_
      refine g_iconst (pc' := 60) d_179_59 rfl ci_1 ?_
      refine g_iadd (pc' := 61) d_179_60 rfl ?_
      have h := h _ rfl
      refine g_istore (pc' := 63) (l' := [some (.ref a0), some (.int i1), some (.int i2), some (.int i3), some (.int ((i3 + (1 : Int32))))]) d_179_61 rfl ml_179 rfl rfl ?_
      refine g_aloadn (pc' := 64) d_179_63 rfl rfl ?_
      obtain ⟨b29, hv30, h⟩ := h
      refine g_getf (pc' := 67) d_179_64 rfl st_179_21 hw21 hv30 ?_
      refine g_iloadn (pc' := 68) d_179_67 rfl rfl ?_
      refine g_iconst (pc' := 69) d_179_68 rfl ci_2 ?_
      refine g_irem (pc' := 70) d_179_69 rfl (by decide) ?_
      refine g_if_ne (pc' := 73) (pt := 77) d_179_70 (by decide) rfl (fun c => ?_) (fun c => ?_)
      · replace h := h.1 c
        refine g_ldc2 (pc' := 80) d_179_77 rfl st_179_387 cL_m1 ?_
        refine g_aloadn (pc' := 81) d_179_80 rfl rfl ?_
        refine g_getf (pc' := 84) d_179_81 rfl st_179_99 hw21 hv23 ?_
        refine g_iloadn (pc' := 85) d_179_84 rfl rfl ?_
        obtain ⟨hc31, h⟩ := h
        refine g_lald (pc' := 86) d_179_85 rfl hw26 hc31 ?_
        refine g_iload (pc' := 88) d_179_86 rfl rfl ?_
        refine g_i2l (pc' := 89) d_179_88 rfl ?_
        obtain ⟨hc32, h⟩ := h
        refine g_ldiv (pc' := 90) d_179_89 rfl hc32 ?_
        refine g_aloadn (pc' := 91) d_179_90 rfl rfl ?_
        refine g_getf (pc' := 94) d_179_91 rfl st_179_99 hw21 hv23 ?_
        refine g_iloadn (pc' := 95) d_179_94 rfl rfl ?_
        obtain ⟨hc33, h⟩ := h
        refine g_lald (pc' := 96) d_179_95 rfl hw26 hc33 ?_
        refine g_iload (pc' := 98) d_179_96 rfl rfl ?_
        refine g_i2l (pc' := 99) d_179_98 rfl ?_
        obtain ⟨hc34, h⟩ := h
        refine g_lrem (pc' := 100) d_179_99 rfl hc34 ?_
        refine g_iload (pc' := 102) d_179_100 rfl rfl ?_
        refine g_i2l (pc' := 103) d_179_102 rfl ?_
        obtain ⟨fs35, hw36, h⟩ := h
        obtain ⟨w37, hk38, h⟩ := h
        refine g_callV (pc' := 106) d_179_103 rfl st_179_207 na_41 ml_41 rfl rfl rfl rm_179_41 rfl rfl ow_41 hw36 hk38 ?_
        have h := h _ rfl
        refine g_iinc (pc' := 109) (l' := [some (.ref a0), some (.int i1), some (.int i2), some (.int (i3 + (1 : Int32))), some (.int ((i3 + (1 : Int32))))]) d_179_106 rfl rfl ci_1 ml_179 rfl rfl ?_
        refine g_goto (pt := 38) d_179_109 (by decide) ?_
        exact xGo.more (xle_s (xle_s (xle_s (xle_s (xle_n xle_0))))) h
      · replace h := h.2 c
        refine g_lconst (pc' := 74) d_179_73 rfl cl_1 ?_
        refine g_goto (pt := 80) d_179_74 (by decide) ?_
        refine g_aloadn (pc' := 81) d_179_80 rfl rfl ?_
        refine g_getf (pc' := 84) d_179_81 rfl st_179_99 hw21 hv23 ?_
        refine g_iloadn (pc' := 85) d_179_84 rfl rfl ?_
        obtain ⟨hc40, h⟩ := h
        refine g_lald (pc' := 86) d_179_85 rfl hw26 hc40 ?_
        refine g_iload (pc' := 88) d_179_86 rfl rfl ?_
        refine g_i2l (pc' := 89) d_179_88 rfl ?_
        obtain ⟨hc41, h⟩ := h
        refine g_ldiv (pc' := 90) d_179_89 rfl hc41 ?_
        refine g_aloadn (pc' := 91) d_179_90 rfl rfl ?_
        refine g_getf (pc' := 94) d_179_91 rfl st_179_99 hw21 hv23 ?_
        refine g_iloadn (pc' := 95) d_179_94 rfl rfl ?_
        obtain ⟨hc42, h⟩ := h
        refine g_lald (pc' := 96) d_179_95 rfl hw26 hc42 ?_
        refine g_iload (pc' := 98) d_179_96 rfl rfl ?_
        refine g_i2l (pc' := 99) d_179_98 rfl ?_
        obtain ⟨hc43, h⟩ := h
        refine g_lrem (pc' := 100) d_179_99 rfl hc43 ?_
        refine g_iload (pc' := 102) d_179_100 rfl rfl ?_
        refine g_i2l (pc' := 103) d_179_102 rfl ?_
        obtain ⟨fs44, hw45, h⟩ := h
        obtain ⟨w46, hk47, h⟩ := h
        refine g_callV (pc' := 106) d_179_103 rfl st_179_207 na_41 ml_41 rfl rfl rfl rm_179_41 rfl rfl ow_41 hw45 hk47 ?_
        have h := h _ rfl
        refine g_iinc (pc' := 109) (l' := [some (.ref a0), some (.int i1), some (.int i2), some (.int (i3 + (1 : Int32))), some (.int ((i3 + (1 : Int32))))]) d_179_106 rfl rfl ci_1 ml_179 rfl rfl ?_
        refine g_goto (pt := 38) d_179_109 (by decide) ?_
        exact xGo.more (xle_s (xle_s (xle_s (xle_s (xle_n xle_0))))) h
    · replace h := h.2 c
      refine g_ldc2 (pc' := 57) d_179_54 rfl st_179_166 cL_m9223372036854775808 ?_
      exact g_lret d_179_57 rt_179 h
-- 180 BernoulliWays.zigzag(I)J
theorem S_180_0 {a0 : Nat} {i1 : Int32} {w : xW} {r : Option Value × xW} (h : (i1 < 0 → r = (some (.long (-9223372036854775808 : Int64)), w)) ∧ (¬ (i1 < 0) → (i1 ≤ (23 : Int32) → ∃ fs1, w[a0]? = some (.inr (0, fs1)) ∧ ∃ b3, fs1[14]? = some (.ref b3) ∧ ∃ n5 f6, w[b3]? = some (.inl (.inr (n5, f6))) ∧ (¬ ((0 : Int32) < 0 ∨ n5 ≤ (0 : Int32).toNatClampNeg)) ∧ ∀ w9, w9 = w.set b3 (.inl (.inr (n5, (vp_updL f6 (0 : Int32).toNatClampNeg (1 : Int64))))) → xGo 180 23 [some (.ref a0), some (.int i1), some (.int (1 : Int32)), none] [] w9 r) ∧ (¬ (i1 ≤ (23 : Int32)) → r = (some (.long (-9223372036854775808 : Int64)), w)))) : xGo 180 0 [some (.ref a0), some (.int i1), none, none] [] w r := by
  refine g_iloadn (pc' := 1) d_180_0 rfl rfl ?_
  refine g_if_lt (pc' := 4) (pt := 10) d_180_1 (by decide) rfl (fun c => ?_) (fun c => ?_)
  · replace h := h.1 c
    refine g_ldc2 (pc' := 13) d_180_10 rfl st_180_166 cL_m9223372036854775808 ?_
    exact g_lret d_180_13 rt_180 h
  · replace h := h.2 c
    refine g_iloadn (pc' := 5) d_180_4 rfl rfl ?_
    refine g_bipush (pc' := 7) d_180_5 rfl cb_23 ?_
    refine g_ic_le (pc' := 10) (pt := 14) d_180_7 (by decide) rfl (fun c => ?_) (fun c => ?_)
    · replace h := h.1 c
      refine g_aloadn (pc' := 15) d_180_14 rfl rfl ?_
      obtain ⟨fs1, hw2, h⟩ := h
      obtain ⟨b3, hv4, h⟩ := h
      refine g_getf (pc' := 18) d_180_15 rfl st_180_99 hw2 hv4 ?_
      refine g_iconst (pc' := 19) d_180_18 rfl ci_0 ?_
      refine g_lconst (pc' := 20) d_180_19 rfl cl_1 ?_
      obtain ⟨n5, f6, hw7, h⟩ := h
      obtain ⟨hc8, h⟩ := h
      have h := h _ rfl
      refine g_last (pc' := 21) d_180_20 rfl hw7 hc8 ?_
      refine g_iconst (pc' := 22) d_180_21 rfl ci_1 ?_
      refine g_istoren (pc' := 23) (l' := [some (.ref a0), some (.int i1), some (.int (1 : Int32)), none]) d_180_22 rfl ml_180 rfl rfl ?_
      exact h
    · replace h := h.2 c
      refine g_ldc2 (pc' := 13) d_180_10 rfl st_180_166 cL_m9223372036854775808 ?_
      exact g_lret d_180_13 rt_180 h
theorem S_180_23 {a0 : Nat} {i1 : Int32} {i2 : Int32} {w : xW} {r : Option Value × xW} (h : (i1 < i2 → ∃ fs1, w[a0]? = some (.inr (0, fs1)) ∧ ∃ b3, fs1[14]? = some (.ref b3) ∧ ∃ n5 f6, w[b3]? = some (.inl (.inr (n5, f6))) ∧ (¬ (i1 < 0 ∨ n5 ≤ i1.toNatClampNeg)) ∧ r = (some (.long (f6 i1.toNatClampNeg)), w)) ∧ (¬ (i1 < i2) → ∃ fs9, w[a0]? = some (.inr (0, fs9)) ∧ ∃ b11, fs9[14]? = some (.ref b11) ∧ ∃ b13, fs9[15]? = some (.ref b13) ∧ ∃ n15 f16, w[b11]? = some (.inl (.inr (n15, f16))) ∧ ∃ n18 f19, w[b13]? = some (.inl (.inr (n18, f19))) ∧ (¬ i2 < 0 ∧ ¬ (0 : Int32) < 0 ∧ ¬ (0 : Int32) < 0) ∧ ((0 : Int32).toNatClampNeg + i2.toNatClampNeg ≤ n15 ∧ (0 : Int32).toNatClampNeg + i2.toNatClampNeg ≤ n18) ∧ ∀ w23, w23 = w.set b13 (.inl (.inr (n18, (va_cpy f16 f19 (0 : Int32).toNatClampNeg (0 : Int32).toNatClampNeg i2.toNatClampNeg)))) → ∃ fs24, w23[a0]? = some (.inr (0, fs24)) ∧ ∃ b26, fs24[14]? = some (.ref b26) ∧ ∃ n28 f29, w23[b26]? = some (.inl (.inr (n28, f29))) ∧ (¬ ((0 : Int32) < 0 ∨ n28 ≤ (0 : Int32).toNatClampNeg)) ∧ ∀ w32, w32 = w23.set b26 (.inl (.inr (n28, (vp_updL f29 (0 : Int32).toNatClampNeg (0 : Int64))))) → xGo 180 51 [some (.ref a0), some (.int i1), some (.int i2), some (.int (1 : Int32))] [] w32 r)) : xGo 180 23 [some (.ref a0), some (.int i1), some (.int i2), none] [] w r := by
  refine g_iloadn (pc' := 24) d_180_23 rfl rfl ?_
  refine g_iloadn (pc' := 25) d_180_24 rfl rfl ?_
  refine g_ic_gt (pc' := 28) (pt := 91) d_180_25 (by decide) rfl (fun c => ?_) (fun c => ?_)
  · replace h := h.1 c
    refine g_aloadn (pc' := 92) d_180_91 rfl rfl ?_
    obtain ⟨fs1, hw2, h⟩ := h
    obtain ⟨b3, hv4, h⟩ := h
    refine g_getf (pc' := 95) d_180_92 rfl st_180_99 hw2 hv4 ?_
    refine g_iloadn (pc' := 96) d_180_95 rfl rfl ?_
    obtain ⟨n5, f6, hw7, h⟩ := h
    obtain ⟨hc8, h⟩ := h
    refine g_lald (pc' := 97) d_180_96 rfl hw7 hc8 ?_
    exact g_lret d_180_97 rt_180 h
  · replace h := h.2 c
    refine g_aloadn (pc' := 29) d_180_28 rfl rfl ?_
    obtain ⟨fs9, hw10, h⟩ := h
    obtain ⟨b11, hv12, h⟩ := h
    refine g_getf (pc' := 32) d_180_29 rfl st_180_99 hw10 hv12 ?_
    refine g_iconst (pc' := 33) d_180_32 rfl ci_0 ?_
    refine g_aloadn (pc' := 34) d_180_33 rfl rfl ?_
    obtain ⟨b13, hv14, h⟩ := h
    refine g_getf (pc' := 37) d_180_34 rfl st_180_103 hw10 hv14 ?_
    refine g_iconst (pc' := 38) d_180_37 rfl ci_0 ?_
    refine g_iloadn (pc' := 39) d_180_38 rfl rfl ?_
    obtain ⟨n15, f16, hw17, h⟩ := h
    obtain ⟨n18, f19, hw20, h⟩ := h
    obtain ⟨hc21, h⟩ := h
    obtain ⟨hc22, h⟩ := h
    have h := h _ rfl
    refine g_cpyl (pc' := 42) d_180_39 rfl st_180_399 fr_180 lo_180 rfl hc21 hw17 hw20 hc22 ?_
    refine g_aloadn (pc' := 43) d_180_42 rfl rfl ?_
    obtain ⟨fs24, hw25, h⟩ := h
    obtain ⟨b26, hv27, h⟩ := h
    refine g_getf (pc' := 46) d_180_43 rfl st_180_99 hw25 hv27 ?_
    refine g_iconst (pc' := 47) d_180_46 rfl ci_0 ?_
    refine g_lconst (pc' := 48) d_180_47 rfl cl_0 ?_
    obtain ⟨n28, f29, hw30, h⟩ := h
    obtain ⟨hc31, h⟩ := h
    have h := h _ rfl
    refine g_last (pc' := 49) d_180_48 rfl hw30 hc31 ?_
    refine g_iconst (pc' := 50) d_180_49 rfl ci_1 ?_
    refine g_istoren (pc' := 51) (l' := [some (.ref a0), some (.int i1), some (.int i2), some (.int (1 : Int32))]) d_180_50 rfl ml_180 rfl rfl ?_
    exact h
theorem S_180_51 {a0 : Nat} {i1 : Int32} {i2 : Int32} {i3 : Int32} {w : xW} {r : Option Value × xW} (h : (i2 < i3 → ∀ v1 : Int32, v1 = i2 + (1 : Int32) → xGo 180 23 [some (.ref a0), some (.int i1), some (.int v1), none] [] w r) ∧ (¬ (i2 < i3) → ∃ fs2, w[a0]? = some (.inr (0, fs2)) ∧ ∃ b4, fs2[14]? = some (.ref b4) ∧ ∃ n6 f7, w[b4]? = some (.inl (.inr (n6, f7))) ∧ (¬ ((i3 - (1 : Int32)) < 0 ∨ n6 ≤ (i3 - (1 : Int32)).toNatClampNeg)) ∧ ∃ b10, fs2[15]? = some (.ref b10) ∧ ∃ n12 f13, w[b10]? = some (.inl (.inr (n12, f13))) ∧ (¬ ((i2 - i3) < 0 ∨ n12 ≤ (i2 - i3).toNatClampNeg)) ∧ ∀ v16 : Int64, v16 = ((f7 (i3 - (1 : Int32)).toNatClampNeg) + (f13 (i2 - i3).toNatClampNeg)) → (¬ (i3 < 0 ∨ n6 ≤ i3.toNatClampNeg)) ∧ ∀ w18, w18 = w.set b4 (.inl (.inr (n6, (vp_updL f7 i3.toNatClampNeg v16)))) → ∀ v19 : Int32, v19 = i3 + (1 : Int32) → xGo 180 51 [some (.ref a0), some (.int i1), some (.int i2), some (.int v19)] [] w18 r)) : xGo 180 51 [some (.ref a0), some (.int i1), some (.int i2), some (.int i3)] [] w r := by
  refine g_iloadn (pc' := 52) d_180_51 rfl rfl ?_
  refine g_iloadn (pc' := 53) d_180_52 rfl rfl ?_
  refine g_ic_gt (pc' := 56) (pt := 85) d_180_53 (by decide) rfl (fun c => ?_) (fun c => ?_)
  · replace h := h.1 c
    have h := h _ rfl
    refine g_iinc (pc' := 88) (l' := [some (.ref a0), some (.int i1), some (.int (i2 + (1 : Int32))), some (.int i3)]) d_180_85 rfl rfl ci_1 ml_180 rfl rfl ?_
    refine g_goto (pt := 23) d_180_88 (by decide) ?_
    exact xGo.more (xle_s (xle_s (xle_s (xle_n xle_0)))) h
  · replace h := h.2 c
    refine g_aloadn (pc' := 57) d_180_56 rfl rfl ?_
    obtain ⟨fs2, hw3, h⟩ := h
    obtain ⟨b4, hv5, h⟩ := h
    refine g_getf (pc' := 60) d_180_57 rfl st_180_99 hw3 hv5 ?_
    refine g_iloadn (pc' := 61) d_180_60 rfl rfl ?_
    refine g_aloadn (pc' := 62) d_180_61 rfl rfl ?_
    refine g_getf (pc' := 65) d_180_62 rfl st_180_99 hw3 hv5 ?_
    refine g_iloadn (pc' := 66) d_180_65 rfl rfl ?_
    refine g_iconst (pc' := 67) d_180_66 rfl ci_1 ?_
    refine g_isub (pc' := 68) d_180_67 rfl ?_
    obtain ⟨n6, f7, hw8, h⟩ := h
    obtain ⟨hc9, h⟩ := h
    refine g_lald (pc' := 69) d_180_68 rfl hw8 hc9 ?_
    refine g_aloadn (pc' := 70) d_180_69 rfl rfl ?_
    obtain ⟨b10, hv11, h⟩ := h
    refine g_getf (pc' := 73) d_180_70 rfl st_180_103 hw3 hv11 ?_
    refine g_iloadn (pc' := 74) d_180_73 rfl rfl ?_
    refine g_iloadn (pc' := 75) d_180_74 rfl rfl ?_
    refine g_isub (pc' := 76) d_180_75 rfl ?_
    obtain ⟨n12, f13, hw14, h⟩ := h
    obtain ⟨hc15, h⟩ := h
    refine g_lald (pc' := 77) d_180_76 rfl hw14 hc15 ?_
    refine g_ladd (pc' := 78) d_180_77 rfl ?_
    have h := h _ rfl
    obtain ⟨hc17, h⟩ := h
    have h := h _ rfl
    refine g_last (pc' := 79) d_180_78 rfl hw8 hc17 ?_
    have h := h _ rfl
    refine g_iinc (pc' := 82) (l' := [some (.ref a0), some (.int i1), some (.int i2), some (.int (i3 + (1 : Int32)))]) d_180_79 rfl rfl ci_1 ml_180 rfl rfl ?_
    refine g_goto (pt := 51) d_180_82 (by decide) ?_
    exact h
-- 181 BernoulliWays.tangent(I)J
theorem S_181_0 {a0 : Nat} {i1 : Int32} {w : xW} {r : Option Value × xW} (h : ((22 : Int32) < i1 → r = (some (.long (-9223372036854775808 : Int64)), w)) ∧ (¬ ((22 : Int32) < i1) → ∃ r3 w1, xCall 47 [.int i1] w (some (.int r3), w1) ∧ (r3 = 0 → r = (some (.long (-9223372036854775808 : Int64)), w1)) ∧ (¬ (r3 = 0) → ∃ fs4, w1[a0]? = some (.inr (0, fs4)) ∧ ∃ x6, fs4[7]? = some (.int x6) ∧ (i1 ≤ x6 → ∀ v8 : Int64, v8 = ((1 : Int64) <<< (i1.toInt64 &&& 63)) → ∃ b9, fs4[4]? = some (.ref b9) ∧ ∃ b11, fs4[13]? = some (.ref b11) ∧ ∃ fs13, w1[b9]? = some (.inr (4, fs13)) ∧ ∃ w15, xCall 100 [.ref b9, .int i1, .ref b11] w1 (none, w15) ∧ ∃ fs17, w15[a0]? = some (.inr (0, fs17)) ∧ ∃ b19, fs17[13]? = some (.ref b19) ∧ ∃ b21, fs17[4]? = some (.ref b21) ∧ ∃ fs23, w15[b21]? = some (.inr (4, fs23)) ∧ ∃ r27 w25, xCall 63 [.ref b21, .int i1] w15 (some (.int r27), w25) ∧ ∃ fs28, w25[b19]? = some (.inr (5, fs28)) ∧ ∃ w30, xCall 43 [.ref b19, .long (((r27.toInt64) * v8) * (v8 - (1 : Int64)))] w25 (none, w30) ∧ ∃ fs32, w30[a0]? = some (.inr (0, fs32)) ∧ ∃ b34, fs32[13]? = some (.ref b34) ∧ ∃ fs36, w30[b34]? = some (.inr (5, fs36)) ∧ ∃ w38, xCall 44 [.ref b34, .long (i1.toInt64)] w30 (none, w38) ∧ ∃ fs40, w38[a0]? = some (.inr (0, fs40)) ∧ ∃ b42, fs40[13]? = some (.ref b42) ∧ ∃ fs44, w38[b42]? = some (.inr (5, fs44)) ∧ ∃ x46, fs44[1]? = some (.long x46) ∧ (¬ x46 = (0 : Int64) → r = (some (.long (-9223372036854775808 : Int64)), w38)) ∧ (¬ (¬ x46 = (0 : Int64)) → ∃ x48, fs44[0]? = some (.long x48) ∧ r = (some (.long x48), w38))) ∧ (¬ (i1 ≤ x6) → r = (some (.long (-9223372036854775808 : Int64)), w1))))) : xGo 181 0 [some (.ref a0), some (.int i1), none, none] [] w r := by
  refine g_iloadn (pc' := 1) d_181_0 rfl rfl ?_
  refine g_bipush (pc' := 3) d_181_1 rfl cb_22 ?_
  refine g_ic_gt (pc' := 6) (pt := 21) d_181_3 (by decide) rfl (fun c => ?_) (fun c => ?_)
  · replace h := h.1 c
    refine g_ldc2 (pc' := 24) d_181_21 rfl st_181_166 cL_m9223372036854775808 ?_
    exact g_lret d_181_24 rt_181 h
  · replace h := h.2 c
    refine g_iloadn (pc' := 7) d_181_6 rfl rfl ?_
    obtain ⟨r3, w1, hk2, h⟩ := h
    refine g_callS (pc' := 10) d_181_7 rfl st_181_190 (Or.inl rfl) na_47 ml_47 rfl rfl rfl rm_181_47 rfl rfl hk2 ?_
    refine g_if_eq (pc' := 13) (pt := 21) d_181_10 (by decide) rfl (fun c => ?_) (fun c => ?_)
    · replace h := h.1 c
      refine g_ldc2 (pc' := 24) d_181_21 rfl st_181_166 cL_m9223372036854775808 ?_
      exact g_lret d_181_24 rt_181 h
    · replace h := h.2 c
      refine g_iloadn (pc' := 14) d_181_13 rfl rfl ?_
      refine g_aloadn (pc' := 15) d_181_14 rfl rfl ?_
      obtain ⟨fs4, hw5, h⟩ := h
      obtain ⟨x6, hv7, h⟩ := h
      refine g_getf (pc' := 18) d_181_15 rfl st_181_49 hw5 hv7 ?_
      refine g_ic_le (pc' := 21) (pt := 25) d_181_18 (by decide) rfl (fun c => ?_) (fun c => ?_)
      · replace h := h.1 c
        refine g_lconst (pc' := 26) d_181_25 rfl cl_1 ?_
        refine g_iloadn (pc' := 27) d_181_26 rfl rfl ?_
        refine g_lshl (pc' := 28) d_181_27 rfl ?_
        have h := h _ rfl
        refine g_lstoren (pc' := 29) (l' := [some (.ref a0), some (.int i1), some (.long (((1 : Int64) <<< (i1.toInt64 &&& 63)))), none]) d_181_28 rfl ml_181 rfl rfl ?_
        refine g_aloadn (pc' := 30) d_181_29 rfl rfl ?_
        obtain ⟨b9, hv10, h⟩ := h
        refine g_getf (pc' := 33) d_181_30 rfl st_181_39 hw5 hv10 ?_
        refine g_iloadn (pc' := 34) d_181_33 rfl rfl ?_
        refine g_aloadn (pc' := 35) d_181_34 rfl rfl ?_
        obtain ⟨b11, hv12, h⟩ := h
        refine g_getf (pc' := 38) d_181_35 rfl st_181_95 hw5 hv12 ?_
        obtain ⟨fs13, hw14, h⟩ := h
        obtain ⟨w15, hk16, h⟩ := h
        refine g_callV (pc' := 41) d_181_38 rfl st_181_168 na_100 ml_100 rfl rfl rfl rm_181_100 rfl rfl ow_100 hw14 hk16 ?_
        refine g_aloadn (pc' := 42) d_181_41 rfl rfl ?_
        obtain ⟨fs17, hw18, h⟩ := h
        obtain ⟨b19, hv20, h⟩ := h
        refine g_getf (pc' := 45) d_181_42 rfl st_181_95 hw18 hv20 ?_
        refine g_aloadn (pc' := 46) d_181_45 rfl rfl ?_
        obtain ⟨b21, hv22, h⟩ := h
        refine g_getf (pc' := 49) d_181_46 rfl st_181_39 hw18 hv22 ?_
        refine g_iloadn (pc' := 50) d_181_49 rfl rfl ?_
        obtain ⟨fs23, hw24, h⟩ := h
        obtain ⟨r27, w25, hk26, h⟩ := h
        refine g_callV (pc' := 53) d_181_50 rfl st_181_255 na_63 ml_63 rfl rfl rfl rm_181_63 rfl rfl ow_63 hw24 hk26 ?_
        refine g_i2l (pc' := 54) d_181_53 rfl ?_
        refine g_lloadn (pc' := 55) d_181_54 rfl rfl ?_
        refine g_lmul (pc' := 56) d_181_55 rfl ?_
        refine g_lloadn (pc' := 57) d_181_56 rfl rfl ?_
        refine g_lconst (pc' := 58) d_181_57 rfl cl_1 ?_
        refine g_lsub (pc' := 59) d_181_58 rfl ?_
        refine g_lmul (pc' := 60) d_181_59 rfl ?_
        obtain ⟨fs28, hw29, h⟩ := h
        obtain ⟨w30, hk31, h⟩ := h
        refine g_callV (pc' := 63) d_181_60 rfl st_181_339 na_43 ml_43 rfl rfl rfl rm_181_43 rfl rfl ow_43 hw29 hk31 ?_
        refine g_aloadn (pc' := 64) d_181_63 rfl rfl ?_
        obtain ⟨fs32, hw33, h⟩ := h
        obtain ⟨b34, hv35, h⟩ := h
        refine g_getf (pc' := 67) d_181_64 rfl st_181_95 hw33 hv35 ?_
        refine g_iloadn (pc' := 68) d_181_67 rfl rfl ?_
        refine g_i2l (pc' := 69) d_181_68 rfl ?_
        obtain ⟨fs36, hw37, h⟩ := h
        obtain ⟨w38, hk39, h⟩ := h
        refine g_callV (pc' := 72) d_181_69 rfl st_181_342 na_44 ml_44 rfl rfl rfl rm_181_44 rfl rfl ow_44 hw37 hk39 ?_
        refine g_aloadn (pc' := 73) d_181_72 rfl rfl ?_
        obtain ⟨fs40, hw41, h⟩ := h
        obtain ⟨b42, hv43, h⟩ := h
        refine g_getf (pc' := 76) d_181_73 rfl st_181_95 hw41 hv43 ?_
        obtain ⟨fs44, hw45, h⟩ := h
        obtain ⟨x46, hv47, h⟩ := h
        refine g_getf (pc' := 79) d_181_76 rfl st_181_391 hw45 hv47 ?_
        refine g_lconst (pc' := 80) d_181_79 rfl cl_0 ?_
        refine g_lc_ne (pc' := 84) (pm := 81) (pt := 94) d_181_80 rfl d_181_81 (by decide) rfl (fun c => ?_) (fun c => ?_)
        · replace h := h.1 c
          refine g_ldc2 (pc' := 97) d_181_94 rfl st_181_166 cL_m9223372036854775808 ?_
          exact g_lret d_181_97 rt_181 h
        · replace h := h.2 c
          refine g_aloadn (pc' := 85) d_181_84 rfl rfl ?_
          refine g_getf (pc' := 88) d_181_85 rfl st_181_95 hw41 hv43 ?_
          obtain ⟨x48, hv49, h⟩ := h
          refine g_getf (pc' := 91) d_181_88 rfl st_181_218 hw45 hv49 ?_
          refine g_goto (pt := 97) d_181_91 (by decide) ?_
          exact g_lret d_181_97 rt_181 h
      · replace h := h.2 c
        refine g_ldc2 (pc' := 24) d_181_21 rfl st_181_166 cL_m9223372036854775808 ?_
        exact g_lret d_181_24 rt_181 h
-- 182 BernoulliWays.growth(I)I
theorem S_182_0 {a0 : Nat} {i1 : Int32} {w : xW} {r : Option Value × xW} (h : (i1 < (4 : Int32) → r = (some (.int (-1 : Int32)), w)) ∧ (¬ (i1 < (4 : Int32)) → ((38 : Int32) < i1 → r = (some (.int (-1 : Int32)), w)) ∧ (¬ ((38 : Int32) < i1) → ((irem i1 (2 : Int32)) = 0 → ∃ fs1, w[a0]? = some (.inr (0, fs1)) ∧ ∃ x3, fs1[7]? = some (.int x3) ∧ (i1 ≤ x3 → ∃ b5, fs1[4]? = some (.ref b5) ∧ ∃ fs7, w[b5]? = some (.inr (4, fs7)) ∧ ∃ r11 w9, xCall 29 [.ref b5, .int (i1 - (2 : Int32))] w (some (.long r11), w9) ∧ ∃ r14 w12, xCall 183 [.long r11] w9 (some (.long r14), w12) ∧ (¬ r14 = (0 : Int64) → ∃ fs15, w12[a0]? = some (.inr (0, fs15)) ∧ ∃ b17, fs15[4]? = some (.ref b17) ∧ ∃ fs19, w12[b17]? = some (.inr (4, fs19)) ∧ ∃ r23 w21, xCall 29 [.ref b17, .int i1] w12 (some (.long r23), w21) ∧ ∃ r26 w24, xCall 183 [.long r23] w21 (some (.long r26), w24) ∧ (¬ r14 = 0) ∧ r = (some (.int ((r26 / r14).toInt32)), w24)) ∧ (¬ (¬ r14 = (0 : Int64)) → r = (some (.int (0 : Int32)), w12))) ∧ (¬ (i1 ≤ x3) → r = (some (.int (-2 : Int32)), w))) ∧ (¬ ((irem i1 (2 : Int32)) = 0) → r = (some (.int (-1 : Int32)), w))))) : xGo 182 0 [some (.ref a0), some (.int i1), none, none] [] w r := by
  refine g_iloadn (pc' := 1) d_182_0 rfl rfl ?_
  refine g_iconst (pc' := 2) d_182_1 rfl ci_4 ?_
  refine g_ic_lt (pc' := 5) (pt := 17) d_182_2 (by decide) rfl (fun c => ?_) (fun c => ?_)
  · replace h := h.1 c
    refine g_iconst (pc' := 18) d_182_17 rfl ci_m1 ?_
    exact g_iret d_182_18 rt_182 h
  · replace h := h.2 c
    refine g_iloadn (pc' := 6) d_182_5 rfl rfl ?_
    refine g_bipush (pc' := 8) d_182_6 rfl cb_38 ?_
    refine g_ic_gt (pc' := 11) (pt := 17) d_182_8 (by decide) rfl (fun c => ?_) (fun c => ?_)
    · replace h := h.1 c
      refine g_iconst (pc' := 18) d_182_17 rfl ci_m1 ?_
      exact g_iret d_182_18 rt_182 h
    · replace h := h.2 c
      refine g_iloadn (pc' := 12) d_182_11 rfl rfl ?_
      refine g_iconst (pc' := 13) d_182_12 rfl ci_2 ?_
      refine g_irem (pc' := 14) d_182_13 rfl (by decide) ?_
      refine g_if_eq (pc' := 17) (pt := 19) d_182_14 (by decide) rfl (fun c => ?_) (fun c => ?_)
      · replace h := h.1 c
        refine g_iloadn (pc' := 20) d_182_19 rfl rfl ?_
        refine g_aloadn (pc' := 21) d_182_20 rfl rfl ?_
        obtain ⟨fs1, hw2, h⟩ := h
        obtain ⟨x3, hv4, h⟩ := h
        refine g_getf (pc' := 24) d_182_21 rfl st_182_49 hw2 hv4 ?_
        refine g_ic_le (pc' := 27) (pt := 30) d_182_24 (by decide) rfl (fun c => ?_) (fun c => ?_)
        · replace h := h.1 c
          refine g_aloadn (pc' := 31) d_182_30 rfl rfl ?_
          obtain ⟨b5, hv6, h⟩ := h
          refine g_getf (pc' := 34) d_182_31 rfl st_182_39 hw2 hv6 ?_
          refine g_iloadn (pc' := 35) d_182_34 rfl rfl ?_
          refine g_iconst (pc' := 36) d_182_35 rfl ci_2 ?_
          refine g_isub (pc' := 37) d_182_36 rfl ?_
          obtain ⟨fs7, hw8, h⟩ := h
          obtain ⟨r11, w9, hk10, h⟩ := h
          refine g_callV (pc' := 40) d_182_37 rfl st_182_198 na_29 ml_29 rfl rfl rfl rm_182_29 rfl rfl ow_29 hw8 hk10 ?_
          obtain ⟨r14, w12, hk13, h⟩ := h
          refine g_callS (pc' := 43) d_182_40 rfl st_182_405 (Or.inl rfl) na_183 ml_183 rfl rfl rfl rm_182_183 rfl rfl hk13 ?_
          refine g_lstoren (pc' := 44) (l' := [some (.ref a0), some (.int i1), some (.long r14), none]) d_182_43 rfl ml_182 rfl rfl ?_
          refine g_lloadn (pc' := 45) d_182_44 rfl rfl ?_
          refine g_lconst (pc' := 46) d_182_45 rfl cl_0 ?_
          refine g_lc_ne (pc' := 50) (pm := 47) (pt := 54) d_182_46 rfl d_182_47 (by decide) rfl (fun c => ?_) (fun c => ?_)
          · replace h := h.1 c
            refine g_aloadn (pc' := 55) d_182_54 rfl rfl ?_
            obtain ⟨fs15, hw16, h⟩ := h
            obtain ⟨b17, hv18, h⟩ := h
            refine g_getf (pc' := 58) d_182_55 rfl st_182_39 hw16 hv18 ?_
            refine g_iloadn (pc' := 59) d_182_58 rfl rfl ?_
            obtain ⟨fs19, hw20, h⟩ := h
            obtain ⟨r23, w21, hk22, h⟩ := h
            refine g_callV (pc' := 62) d_182_59 rfl st_182_198 na_29 ml_29 rfl rfl rfl rm_182_29 rfl rfl ow_29 hw20 hk22 ?_
            obtain ⟨r26, w24, hk25, h⟩ := h
            refine g_callS (pc' := 65) d_182_62 rfl st_182_405 (Or.inl rfl) na_183 ml_183 rfl rfl rfl rm_182_183 rfl rfl hk25 ?_
            refine g_lloadn (pc' := 66) d_182_65 rfl rfl ?_
            obtain ⟨hc27, h⟩ := h
            refine g_ldiv (pc' := 67) d_182_66 rfl hc27 ?_
            refine g_l2i (pc' := 68) d_182_67 rfl ?_
            exact g_iret d_182_68 rt_182 h
          · replace h := h.2 c
            refine g_iconst (pc' := 51) d_182_50 rfl ci_0 ?_
            refine g_goto (pt := 68) d_182_51 (by decide) ?_
            exact g_iret d_182_68 rt_182 h
        · replace h := h.2 c
          refine g_bipush (pc' := 29) d_182_27 rfl cb_m2 ?_
          exact g_iret d_182_29 rt_182 h
      · replace h := h.2 c
        refine g_iconst (pc' := 18) d_182_17 rfl ci_m1 ?_
        exact g_iret d_182_18 rt_182 h
-- 183 java/lang/Math.abs(J)J
theorem S_183_0 {l0 : Int64} {w : xW} {r : Option Value × xW} (h : ((0 : Int64) ≤ l0 → r = (some (.long l0), w)) ∧ (¬ ((0 : Int64) ≤ l0) → r = (some (.long (-l0)), w))) : xGo 183 0 [some (.long l0), none] [] w r := by
  refine g_lloadn (pc' := 1) d_183_0 rfl rfl ?_
  refine g_lconst (pc' := 2) d_183_1 rfl cl_0 ?_
  refine g_lc_ge (pc' := 6) (pm := 3) (pt := 11) d_183_2 rfl d_183_3 (by decide) rfl (fun c => ?_) (fun c => ?_)
  · replace h := h.1 c
    refine g_lloadn (pc' := 12) d_183_11 rfl rfl ?_
    exact g_lret d_183_12 rt_183 h
  · replace h := h.2 c
    refine g_lloadn (pc' := 7) d_183_6 rfl rfl ?_
    refine g_lneg (pc' := 8) d_183_7 rfl ?_
    refine g_goto (pt := 12) d_183_8 (by decide) ?_
    exact g_lret d_183_12 rt_183 h
-- 184 BernoulliWays.count(I)I
theorem S_184_0 {a0 : Nat} {i1 : Int32} {w : xW} {r : Option Value × xW} (h : (i1 = (0 : Int32) → ∃ fs1, w[a0]? = some (.inr (0, fs1)) ∧ ∃ x3, fs1[7]? = some (.int x3) ∧ r = (some (.int x3), w)) ∧ (i1 = (1 : Int32) → ∃ fs5, w[a0]? = some (.inr (0, fs5)) ∧ ∃ r9 w7, xCall 185 [.ref a0] w (some (.int r9), w7) ∧ r = (some (.int r9), w7)) ∧ (i1 = (2 : Int32) → ∃ fs10, w[a0]? = some (.inr (0, fs10)) ∧ ∃ b12, fs10[9]? = some (.ref b12) ∧ ∃ fs14, w[b12]? = some (.inr (7, fs14)) ∧ ∃ r18 w16, xCall 93 [.ref b12] w (some (.int r18), w16) ∧ r = (some (.int r18), w16)) ∧ (i1 = (3 : Int32) → ∃ fs19, w[a0]? = some (.inr (0, fs19)) ∧ ∃ r23 w21, xCall 186 [.ref a0] w (some (.int r23), w21) ∧ r = (some (.int r23), w21)) ∧ (i1.toInt < 0 ∨ 3 < i1.toInt → r = (some (.int (-1 : Int32)), w))) : xGo 184 0 [some (.ref a0), some (.int i1)] [] w r := by
  refine g_iloadn (pc' := 1) d_184_0 rfl rfl ?_
  by_cases hx0 : i1 = (0 : Int32)
  · replace h := h.1 hx0
    refine g_tswIn (pt := 32) d_184_1 (by rw [hx0]; decide) (off := 31) (by rw [hx0]; rfl) (by decide) ?_
    refine g_aloadn (pc' := 33) d_184_32 rfl rfl ?_
    obtain ⟨fs1, hw2, h⟩ := h
    obtain ⟨x3, hv4, h⟩ := h
    refine g_getf (pc' := 36) d_184_33 rfl st_184_49 hw2 hv4 ?_
    exact g_iret d_184_36 rt_184 h
  by_cases hx1 : i1 = (1 : Int32)
  · replace h := h.2.1 hx1
    refine g_tswIn (pt := 37) d_184_1 (by rw [hx1]; decide) (off := 36) (by rw [hx1]; rfl) (by decide) ?_
    refine g_aloadn (pc' := 38) d_184_37 rfl rfl ?_
    obtain ⟨fs5, hw6, h⟩ := h
    obtain ⟨r9, w7, hk8, h⟩ := h
    refine g_callV (pc' := 41) d_184_38 rfl st_184_411 na_185 ml_185 rfl rfl rfl rm_184_185 rfl rfl ow_185 hw6 hk8 ?_
    exact g_iret d_184_41 rt_184 h
  by_cases hx2 : i1 = (2 : Int32)
  · replace h := h.2.2.1 hx2
    refine g_tswIn (pt := 42) d_184_1 (by rw [hx2]; decide) (off := 41) (by rw [hx2]; rfl) (by decide) ?_
    refine g_aloadn (pc' := 43) d_184_42 rfl rfl ?_
    obtain ⟨fs10, hw11, h⟩ := h
    obtain ⟨b12, hv13, h⟩ := h
    refine g_getf (pc' := 46) d_184_43 rfl st_184_65 hw11 hv13 ?_
    obtain ⟨fs14, hw15, h⟩ := h
    obtain ⟨r18, w16, hk17, h⟩ := h
    refine g_callV (pc' := 49) d_184_46 rfl st_184_238 na_93 ml_93 rfl rfl rfl rm_184_93 rfl rfl ow_93 hw15 hk17 ?_
    exact g_iret d_184_49 rt_184 h
  by_cases hx3 : i1 = (3 : Int32)
  · replace h := h.2.2.2.1 hx3
    refine g_tswIn (pt := 50) d_184_1 (by rw [hx3]; decide) (off := 49) (by rw [hx3]; rfl) (by decide) ?_
    refine g_aloadn (pc' := 51) d_184_50 rfl rfl ?_
    obtain ⟨fs19, hw20, h⟩ := h
    obtain ⟨r23, w21, hk22, h⟩ := h
    refine g_callV (pc' := 54) d_184_51 rfl st_184_414 na_186 ml_186 rfl rfl rfl rm_184_186 rfl rfl ow_186 hw20 hk22 ?_
    exact g_iret d_184_54 rt_184 h
  · have hout : (i1).toInt < 0 ∨ 3 < (i1).toInt := x_out4 hx0 hx1 hx2 hx3
    replace h := h.2.2.2.2 hout
    refine g_tswOut (pt := 55) d_184_1 hout (by decide) ?_
    refine g_iconst (pc' := 56) d_184_55 rfl ci_m1 ?_
    exact g_iret d_184_56 rt_184 h
-- 185 BernoulliWays.manyNotRight()I
theorem S_185_0 {a0 : Nat} {w : xW} {r : Option Value × xW} (h : xGo 185 4 [some (.ref a0), some (.int (0 : Int32)), some (.int (0 : Int32))] [] w r) : xGo 185 0 [some (.ref a0), none, none] [] w r := by
  refine g_iconst (pc' := 1) d_185_0 rfl ci_0 ?_
  refine g_istoren (pc' := 2) (l' := [some (.ref a0), some (.int (0 : Int32)), none]) d_185_1 rfl ml_185 rfl rfl ?_
  refine g_iconst (pc' := 3) d_185_2 rfl ci_0 ?_
  refine g_istoren (pc' := 4) (l' := [some (.ref a0), some (.int (0 : Int32)), some (.int (0 : Int32))]) d_185_3 rfl ml_185 rfl rfl ?_
  exact h
theorem S_185_4 {a0 : Nat} {i1 : Int32} {i2 : Int32} {w : xW} {r : Option Value × xW} (h : ∃ fs1, w[a0]? = some (.inr (0, fs1)) ∧ ∃ x3, fs1[7]? = some (.int x3) ∧ (x3 < i2 → r = (some (.int i1), w)) ∧ (¬ (x3 < i2) → ∃ r7 w5, xCall 27 [.ref a0, .int i2] w (some (.int r7), w5) ∧ (¬ r7 = 0 → ∀ v8 : Int32, v8 = i2 + (1 : Int32) → xGo 185 4 [some (.ref a0), some (.int i1), some (.int v8)] [] w5 r) ∧ (¬ (¬ r7 = 0) → ∀ v9 : Int32, v9 = i1 + (1 : Int32) → ∀ v10 : Int32, v10 = i2 + (1 : Int32) → xGo 185 4 [some (.ref a0), some (.int v9), some (.int v10)] [] w5 r))) : xGo 185 4 [some (.ref a0), some (.int i1), some (.int i2)] [] w r := by
  refine g_iloadn (pc' := 5) d_185_4 rfl rfl ?_
  refine g_aloadn (pc' := 6) d_185_5 rfl rfl ?_
  obtain ⟨fs1, hw2, h⟩ := h
  obtain ⟨x3, hv4, h⟩ := h
  refine g_getf (pc' := 9) d_185_6 rfl st_185_49 hw2 hv4 ?_
  refine g_ic_gt (pc' := 12) (pt := 29) d_185_9 (by decide) rfl (fun c => ?_) (fun c => ?_)
  · replace h := h.1 c
    refine g_iloadn (pc' := 30) d_185_29 rfl rfl ?_
    exact g_iret d_185_30 rt_185 h
  · replace h := h.2 c
    refine g_aloadn (pc' := 13) d_185_12 rfl rfl ?_
    refine g_iloadn (pc' := 14) d_185_13 rfl rfl ?_
    obtain ⟨r7, w5, hk6, h⟩ := h
    refine g_callV (pc' := 17) d_185_14 rfl st_185_174 na_27 ml_27 rfl rfl rfl rm_185_27 rfl rfl ow_27 hw2 hk6 ?_
    refine g_if_ne (pc' := 20) (pt := 23) d_185_17 (by decide) rfl (fun c => ?_) (fun c => ?_)
    · replace h := h.1 c
      have h := h _ rfl
      refine g_iinc (pc' := 26) (l' := [some (.ref a0), some (.int i1), some (.int (i2 + (1 : Int32)))]) d_185_23 rfl rfl ci_1 ml_185 rfl rfl ?_
      refine g_goto (pt := 4) d_185_26 (by decide) ?_
      exact h
    · replace h := h.2 c
      have h := h _ rfl
      refine g_iinc (pc' := 23) (l' := [some (.ref a0), some (.int (i1 + (1 : Int32))), some (.int i2)]) d_185_20 rfl rfl ci_1 ml_185 rfl rfl ?_
      have h := h _ rfl
      refine g_iinc (pc' := 26) (l' := [some (.ref a0), some (.int (i1 + (1 : Int32))), some (.int (i2 + (1 : Int32)))]) d_185_23 rfl rfl ci_1 ml_185 rfl rfl ?_
      refine g_goto (pt := 4) d_185_26 (by decide) ?_
      exact h
-- 186 BernoulliWays.manyOutdated()I
theorem S_186_0 {a0 : Nat} {w : xW} {r : Option Value × xW} (h : xGo 186 4 [some (.ref a0), some (.int (0 : Int32)), some (.int (0 : Int32))] [] w r) : xGo 186 0 [some (.ref a0), none, none] [] w r := by
  refine g_iconst (pc' := 1) d_186_0 rfl ci_0 ?_
  refine g_istoren (pc' := 2) (l' := [some (.ref a0), some (.int (0 : Int32)), none]) d_186_1 rfl ml_186 rfl rfl ?_
  refine g_iconst (pc' := 3) d_186_2 rfl ci_0 ?_
  refine g_istoren (pc' := 4) (l' := [some (.ref a0), some (.int (0 : Int32)), some (.int (0 : Int32))]) d_186_3 rfl ml_186 rfl rfl ?_
  exact h
theorem S_186_4 {a0 : Nat} {i1 : Int32} {i2 : Int32} {w : xW} {r : Option Value × xW} (h : ∃ fs1, w[a0]? = some (.inr (0, fs1)) ∧ ∃ b3, fs1[9]? = some (.ref b3) ∧ ∃ fs5, w[b3]? = some (.inr (7, fs5)) ∧ ∃ r9 w7, xCall 93 [.ref b3] w (some (.int r9), w7) ∧ (r9 ≤ i2 → r = (some (.int i1), w7)) ∧ (¬ (r9 ≤ i2) → ∃ fs10, w7[a0]? = some (.inr (0, fs10)) ∧ ∃ r14 w12, xCall 97 [.ref a0, .int i2] w7 (some (.int r14), w12) ∧ (¬ r14 = 0 → ∀ v15 : Int32, v15 = i2 + (1 : Int32) → xGo 186 4 [some (.ref a0), some (.int i1), some (.int v15)] [] w12 r) ∧ (¬ (¬ r14 = 0) → ∀ v16 : Int32, v16 = i1 + (1 : Int32) → ∀ v17 : Int32, v17 = i2 + (1 : Int32) → xGo 186 4 [some (.ref a0), some (.int v16), some (.int v17)] [] w12 r))) : xGo 186 4 [some (.ref a0), some (.int i1), some (.int i2)] [] w r := by
  refine g_iloadn (pc' := 5) d_186_4 rfl rfl ?_
  refine g_aloadn (pc' := 6) d_186_5 rfl rfl ?_
  obtain ⟨fs1, hw2, h⟩ := h
  obtain ⟨b3, hv4, h⟩ := h
  refine g_getf (pc' := 9) d_186_6 rfl st_186_65 hw2 hv4 ?_
  obtain ⟨fs5, hw6, h⟩ := h
  obtain ⟨r9, w7, hk8, h⟩ := h
  refine g_callV (pc' := 12) d_186_9 rfl st_186_238 na_93 ml_93 rfl rfl rfl rm_186_93 rfl rfl ow_93 hw6 hk8 ?_
  refine g_ic_ge (pc' := 15) (pt := 32) d_186_12 (by decide) rfl (fun c => ?_) (fun c => ?_)
  · replace h := h.1 c
    refine g_iloadn (pc' := 33) d_186_32 rfl rfl ?_
    exact g_iret d_186_33 rt_186 h
  · replace h := h.2 c
    refine g_aloadn (pc' := 16) d_186_15 rfl rfl ?_
    refine g_iloadn (pc' := 17) d_186_16 rfl rfl ?_
    obtain ⟨fs10, hw11, h⟩ := h
    obtain ⟨r14, w12, hk13, h⟩ := h
    refine g_callV (pc' := 20) d_186_17 rfl st_186_252 na_97 ml_97 rfl rfl rfl rm_186_97 rfl rfl ow_97 hw11 hk13 ?_
    refine g_if_ne (pc' := 23) (pt := 26) d_186_20 (by decide) rfl (fun c => ?_) (fun c => ?_)
    · replace h := h.1 c
      have h := h _ rfl
      refine g_iinc (pc' := 29) (l' := [some (.ref a0), some (.int i1), some (.int (i2 + (1 : Int32)))]) d_186_26 rfl rfl ci_1 ml_186 rfl rfl ?_
      refine g_goto (pt := 4) d_186_29 (by decide) ?_
      exact h
    · replace h := h.2 c
      have h := h _ rfl
      refine g_iinc (pc' := 26) (l' := [some (.ref a0), some (.int (i1 + (1 : Int32))), some (.int i2)]) d_186_23 rfl rfl ci_1 ml_186 rfl rfl ?_
      have h := h _ rfl
      refine g_iinc (pc' := 29) (l' := [some (.ref a0), some (.int (i1 + (1 : Int32))), some (.int (i2 + (1 : Int32)))]) d_186_26 rfl rfl ci_1 ml_186 rfl rfl ?_
      refine g_goto (pt := 4) d_186_29 (by decide) ?_
      exact h
-- 187 BernoulliWays.number(II)J
theorem S_187_0 {a0 : Nat} {i1 : Int32} {i2 : Int32} {w : xW} {r : Option Value × xW} (h : ∃ r3 w1, xCall 116 [.int i2] w (some (.int r3), w1) ∧ (¬ r3 = 0 → ∃ fs4, w1[a0]? = some (.inr (0, fs4)) ∧ ∃ r8 w6, xCall 99 [.ref a0, .int i1] w1 (some (.int r8), w6) ∧ (¬ r8 = 0 → ∃ fs9, w6[a0]? = some (.inr (0, fs9)) ∧ ∃ b11, fs9[4]? = some (.ref b11) ∧ ∃ b13, fs9[13]? = some (.ref b13) ∧ ∃ fs15, w6[b11]? = some (.inr (4, fs15)) ∧ ∃ w17, xCall 100 [.ref b11, .int i1, .ref b13] w6 (none, w17) ∧ ∃ fs19, w17[a0]? = some (.inr (0, fs19)) ∧ ∃ b21, fs19[13]? = some (.ref b21) ∧ ∃ fs23, w17[b21]? = some (.inr (5, fs23)) ∧ ∃ r27 w25, xCall 117 [.ref b21, .int i2] w17 (some (.long r27), w25) ∧ r = (some (.long r27), w25)) ∧ (¬ (¬ r8 = 0) → r = (some (.long (-9223372036854775808 : Int64)), w6))) ∧ (¬ (¬ r3 = 0) → False)) : xGo 187 0 [some (.ref a0), some (.int i1), some (.int i2)] [] w r := by
  refine g_iloadn (pc' := 1) d_187_0 rfl rfl ?_
  obtain ⟨r3, w1, hk2, h⟩ := h
  refine g_callS (pc' := 4) d_187_1 rfl st_187_153 (Or.inl rfl) na_116 ml_116 rfl rfl rfl rm_187_116 rfl rfl hk2 ?_
  refine g_if_ne (pc' := 7) (pt := 17) d_187_4 (by decide) rfl (fun c => ?_) (fun c => ?_)
  · replace h := h.1 c
    refine g_aloadn (pc' := 18) d_187_17 rfl rfl ?_
    refine g_iloadn (pc' := 19) d_187_18 rfl rfl ?_
    obtain ⟨fs4, hw5, h⟩ := h
    obtain ⟨r8, w6, hk7, h⟩ := h
    refine g_callV (pc' := 22) d_187_19 rfl st_187_163 na_99 ml_99 rfl rfl rfl rm_187_99 rfl rfl ow_99 hw5 hk7 ?_
    refine g_if_ne (pc' := 25) (pt := 29) d_187_22 (by decide) rfl (fun c => ?_) (fun c => ?_)
    · replace h := h.1 c
      refine g_aloadn (pc' := 30) d_187_29 rfl rfl ?_
      obtain ⟨fs9, hw10, h⟩ := h
      obtain ⟨b11, hv12, h⟩ := h
      refine g_getf (pc' := 33) d_187_30 rfl st_187_39 hw10 hv12 ?_
      refine g_iloadn (pc' := 34) d_187_33 rfl rfl ?_
      refine g_aloadn (pc' := 35) d_187_34 rfl rfl ?_
      obtain ⟨b13, hv14, h⟩ := h
      refine g_getf (pc' := 38) d_187_35 rfl st_187_95 hw10 hv14 ?_
      obtain ⟨fs15, hw16, h⟩ := h
      obtain ⟨w17, hk18, h⟩ := h
      refine g_callV (pc' := 41) d_187_38 rfl st_187_168 na_100 ml_100 rfl rfl rfl rm_187_100 rfl rfl ow_100 hw16 hk18 ?_
      refine g_aloadn (pc' := 42) d_187_41 rfl rfl ?_
      obtain ⟨fs19, hw20, h⟩ := h
      obtain ⟨b21, hv22, h⟩ := h
      refine g_getf (pc' := 45) d_187_42 rfl st_187_95 hw20 hv22 ?_
      refine g_iloadn (pc' := 46) d_187_45 rfl rfl ?_
      obtain ⟨fs23, hw24, h⟩ := h
      obtain ⟨r27, w25, hk26, h⟩ := h
      refine g_callV (pc' := 49) d_187_46 rfl st_187_171 na_117 ml_117 rfl rfl rfl rm_187_117 rfl rfl ow_117 hw24 hk26 ?_
      exact g_lret d_187_49 rt_187 h
    · replace h := h.2 c
      refine g_ldc2 (pc' := 28) d_187_25 rfl st_187_166 cL_m9223372036854775808 ?_
      exact g_lret d_187_28 rt_187 h
  · replace h := h.2 c
    exact h.elim
-- 188 BernoulliWaysModel.<init>()V
theorem S_188_0 {a0 : Nat} {w : xW} {r : Option Value × xW} (h : (¬ ((117 : Int32) < 0 ∨ 1000000 < (117 : Int32).toNatClampNeg ∨ xP ≤ w.length + 1)) ∧ ∀ b3 w2, b3 = w.length → w2 = w ++ [.inl (.inr ((117 : Int32).toNatClampNeg, fun _ => 0))] → ∃ fs4, w2[a0]? = some (.inr (12, fs4)) ∧ (1 < fs4.length) ∧ ∀ w7, w7 = w2.set a0 (.inr (12, fs4.set 1 (.ref b3))) → (¬ ((117 : Int32) < 0 ∨ 1000000 < (117 : Int32).toNatClampNeg ∨ xP ≤ w7.length + 1)) ∧ ∀ b10 w9, b10 = w7.length → w9 = w7 ++ [.inl (.inr ((117 : Int32).toNatClampNeg, fun _ => 0))] → ∃ fs11, w9[a0]? = some (.inr (12, fs11)) ∧ (2 < fs11.length) ∧ ∀ w14, w14 = w9.set a0 (.inr (12, fs11.set 2 (.ref b10))) → (¬ ((39 : Int32) < 0 ∨ 1000000 < (39 : Int32).toNatClampNeg ∨ xP ≤ w14.length + 1)) ∧ ∀ b17 w16, b17 = w14.length → w16 = w14 ++ [.inl (.inl ((39 : Int32).toNatClampNeg, fun _ => 0))] → ∃ fs18, w16[a0]? = some (.inr (12, fs18)) ∧ (3 < fs18.length) ∧ ∀ w21, w21 = w16.set a0 (.inr (12, fs18.set 3 (.ref b17))) → (4 < (fs18.set 3 (.ref b17)).length) ∧ ∀ w23, w23 = w21.set a0 (.inr (12, (fs18.set 3 (.ref b17)).set 4 (.int (-1 : Int32)))) → (¬ ((1680 : Int32) < 0 ∨ 1000000 < (1680 : Int32).toNatClampNeg ∨ xP ≤ w23.length + 1)) ∧ ∀ b26 w25, b26 = w23.length → w25 = w23 ++ [.inl (.inr ((1680 : Int32).toNatClampNeg, fun _ => 0))] → ∃ fs27, w25[a0]? = some (.inr (12, fs27)) ∧ (5 < fs27.length) ∧ ∀ w30, w30 = w25.set a0 (.inr (12, fs27.set 5 (.ref b26))) → (¬ ((46 : Int32) < 0 ∨ 1000000 < (46 : Int32).toNatClampNeg ∨ xP ≤ w30.length + 1)) ∧ ∀ b33 w32, b33 = w30.length → w32 = w30 ++ [.inl (.inl ((46 : Int32).toNatClampNeg, fun _ => 0))] → ∃ fs34, w32[a0]? = some (.inr (12, fs34)) ∧ (6 < fs34.length) ∧ ∀ w37, w37 = w32.set a0 (.inr (12, fs34.set 6 (.ref b33))) → (¬ ((40 : Int32) < 0 ∨ 1000000 < (40 : Int32).toNatClampNeg ∨ xP ≤ w37.length + 1)) ∧ ∀ b40 w39, b40 = w37.length → w39 = w37 ++ [.inl (.inr ((40 : Int32).toNatClampNeg, fun _ => 0))] → ∃ fs41, w39[a0]? = some (.inr (12, fs41)) ∧ (10 < fs41.length) ∧ ∀ w44, w44 = w39.set a0 (.inr (12, fs41.set 10 (.ref b40))) → (¬ ((40 : Int32) < 0 ∨ 1000000 < (40 : Int32).toNatClampNeg ∨ xP ≤ w44.length + 1)) ∧ ∀ b47 w46, b47 = w44.length → w46 = w44 ++ [.inl (.inr ((40 : Int32).toNatClampNeg, fun _ => 0))] → ∃ fs48, w46[a0]? = some (.inr (12, fs48)) ∧ (11 < fs48.length) ∧ ∀ w51, w51 = w46.set a0 (.inr (12, fs48.set 11 (.ref b47))) → (¬ ((63 : Int32) < 0 ∨ 1000000 < (63 : Int32).toNatClampNeg ∨ xP ≤ w51.length + 1)) ∧ ∀ b54 w53, b54 = w51.length → w53 = w51 ++ [.inl (.inl ((63 : Int32).toNatClampNeg, fun _ => 0))] → ∃ fs55, w53[a0]? = some (.inr (12, fs55)) ∧ (12 < fs55.length) ∧ ∀ w58, w58 = w53.set a0 (.inr (12, fs55.set 12 (.ref b54))) → (¬ ((117 : Int32) < 0 ∨ 1000000 < (117 : Int32).toNatClampNeg ∨ xP ≤ w58.length + 1)) ∧ ∀ b61 w60, b61 = w58.length → w60 = w58 ++ [.inl (.inr ((117 : Int32).toNatClampNeg, fun _ => 0))] → ∃ fs62, w60[a0]? = some (.inr (12, fs62)) ∧ (15 < fs62.length) ∧ ∀ w65, w65 = w60.set a0 (.inr (12, fs62.set 15 (.ref b61))) → (¬ ((200 : Int32) < 0 ∨ 1000000 < (200 : Int32).toNatClampNeg ∨ xP ≤ w65.length + 1)) ∧ ∀ b68 w67, b68 = w65.length → w67 = w65 ++ [.inl (.inl ((200 : Int32).toNatClampNeg, fun _ => 0))] → ∃ fs69, w67[a0]? = some (.inr (12, fs69)) ∧ (16 < fs69.length) ∧ ∀ w72, w72 = w67.set a0 (.inr (12, fs69.set 16 (.ref b68))) → (¬ ((200 : Int32) < 0 ∨ 1000000 < (200 : Int32).toNatClampNeg ∨ xP ≤ w72.length + 1)) ∧ ∀ b75 w74, b75 = w72.length → w74 = w72 ++ [.inl (.inl ((200 : Int32).toNatClampNeg, fun _ => 0))] → ∃ fs76, w74[a0]? = some (.inr (12, fs76)) ∧ (17 < fs76.length) ∧ ∀ w79, w79 = w74.set a0 (.inr (12, fs76.set 17 (.ref b75))) → (¬ ((200 : Int32) < 0 ∨ 1000000 < (200 : Int32).toNatClampNeg ∨ xP ≤ w79.length + 1)) ∧ ∀ b82 w81, b82 = w79.length → w81 = w79 ++ [.inl (.inl ((200 : Int32).toNatClampNeg, fun _ => 0))] → ∃ fs83, w81[a0]? = some (.inr (12, fs83)) ∧ (18 < fs83.length) ∧ ∀ w86, w86 = w81.set a0 (.inr (12, fs83.set 18 (.ref b82))) → (¬ ((200 : Int32) < 0 ∨ 1000000 < (200 : Int32).toNatClampNeg ∨ xP ≤ w86.length + 1)) ∧ ∀ b89 w88, b89 = w86.length → w88 = w86 ++ [.inl (.inl ((200 : Int32).toNatClampNeg, fun _ => 0))] → ∃ fs90, w88[a0]? = some (.inr (12, fs90)) ∧ (19 < fs90.length) ∧ ∀ w93, w93 = w88.set a0 (.inr (12, fs90.set 19 (.ref b89))) → (¬ ((5 : Int32) < 0 ∨ 1000000 < (5 : Int32).toNatClampNeg ∨ xP ≤ w93.length + 1)) ∧ ∀ b96 w95, b96 = w93.length → w95 = w93 ++ [.inl (.inl ((5 : Int32).toNatClampNeg, fun _ => 0))] → ∃ n97 f98, w95[b96]? = some (.inl (.inl (n97, f98))) ∧ (¬ ((0 : Int32) < 0 ∨ n97 ≤ (0 : Int32).toNatClampNeg)) ∧ ∀ w101, w101 = w95.set b96 (.inl (.inl (n97, (upd f98 (0 : Int32).toNatClampNeg (30 : Int32))))) → (¬ ((1 : Int32) < 0 ∨ n97 ≤ (1 : Int32).toNatClampNeg)) ∧ ∀ w103, w103 = w101.set b96 (.inl (.inl (n97, (upd (upd f98 (0 : Int32).toNatClampNeg (30 : Int32)) (1 : Int32).toNatClampNeg (-15 : Int32))))) → (¬ ((2 : Int32) < 0 ∨ n97 ≤ (2 : Int32).toNatClampNeg)) ∧ ∀ w105, w105 = w103.set b96 (.inl (.inl (n97, (upd (upd (upd f98 (0 : Int32).toNatClampNeg (30 : Int32)) (1 : Int32).toNatClampNeg (-15 : Int32)) (2 : Int32).toNatClampNeg (5 : Int32))))) → (¬ ((3 : Int32) < 0 ∨ n97 ≤ (3 : Int32).toNatClampNeg)) ∧ ∀ w107, w107 = w105.set b96 (.inl (.inl (n97, (upd (upd (upd (upd f98 (0 : Int32).toNatClampNeg (30 : Int32)) (1 : Int32).toNatClampNeg (-15 : Int32)) (2 : Int32).toNatClampNeg (5 : Int32)) (3 : Int32).toNatClampNeg (0 : Int32))))) → (¬ ((4 : Int32) < 0 ∨ n97 ≤ (4 : Int32).toNatClampNeg)) ∧ ∀ w109, w109 = w107.set b96 (.inl (.inl (n97, (upd (upd (upd (upd (upd f98 (0 : Int32).toNatClampNeg (30 : Int32)) (1 : Int32).toNatClampNeg (-15 : Int32)) (2 : Int32).toNatClampNeg (5 : Int32)) (3 : Int32).toNatClampNeg (0 : Int32)) (4 : Int32).toNatClampNeg (-1 : Int32))))) → ∃ fs110, w109[a0]? = some (.inr (12, fs110)) ∧ (20 < fs110.length) ∧ ∀ w113, w113 = w109.set a0 (.inr (12, fs110.set 20 (.ref b96))) → (¬ ((27 : Int32) < 0 ∨ 1000000 < (27 : Int32).toNatClampNeg ∨ xP ≤ w113.length + 1)) ∧ ∀ b116 w115, b116 = w113.length → w115 = w113 ++ [.inl (.inr ((27 : Int32).toNatClampNeg, fun _ => 0))] → ∃ fs117, w115[a0]? = some (.inr (12, fs117)) ∧ (21 < fs117.length) ∧ ∀ w120, w120 = w115.set a0 (.inr (12, fs117.set 21 (.ref b116))) → (¬ ((27 : Int32) < 0 ∨ 1000000 < (27 : Int32).toNatClampNeg ∨ xP ≤ w120.length + 1)) ∧ ∀ b123 w122, b123 = w120.length → w122 = w120 ++ [.inl (.inr ((27 : Int32).toNatClampNeg, fun _ => 0))] → ∃ fs124, w122[a0]? = some (.inr (12, fs124)) ∧ (22 < fs124.length) ∧ ∀ w127, w127 = w122.set a0 (.inr (12, fs124.set 22 (.ref b123))) → (¬ ((32 : Int32) < 0 ∨ 1000000 < (32 : Int32).toNatClampNeg ∨ xP ≤ w127.length + 1)) ∧ ∀ b130 w129, b130 = w127.length → w129 = w127 ++ [.inl (.inr ((32 : Int32).toNatClampNeg, fun _ => 0))] → ∃ fs131, w129[a0]? = some (.inr (12, fs131)) ∧ (23 < fs131.length) ∧ ∀ w134, w134 = w129.set a0 (.inr (12, fs131.set 23 (.ref b130))) → (¬ ((32 : Int32) < 0 ∨ 1000000 < (32 : Int32).toNatClampNeg ∨ xP ≤ w134.length + 1)) ∧ ∀ b137 w136, b137 = w134.length → w136 = w134 ++ [.inl (.inr ((32 : Int32).toNatClampNeg, fun _ => 0))] → ∃ fs138, w136[a0]? = some (.inr (12, fs138)) ∧ (24 < fs138.length) ∧ ∀ w141, w141 = w136.set a0 (.inr (12, fs138.set 24 (.ref b137))) → (¬ ((26 : Int32) < 0 ∨ 1000000 < (26 : Int32).toNatClampNeg ∨ xP ≤ w141.length + 1)) ∧ ∀ b144 w143, b144 = w141.length → w143 = w141 ++ [.inl (.inr ((26 : Int32).toNatClampNeg, fun _ => 0))] → ∃ fs145, w143[a0]? = some (.inr (12, fs145)) ∧ (25 < fs145.length) ∧ ∀ w148, w148 = w143.set a0 (.inr (12, fs145.set 25 (.ref b144))) → (¬ ((32 : Int32) < 0 ∨ 1000000 < (32 : Int32).toNatClampNeg ∨ xP ≤ w148.length + 1)) ∧ ∀ b151 w150, b151 = w148.length → w150 = w148 ++ [.inl (.inr ((32 : Int32).toNatClampNeg, fun _ => 0))] → ∃ fs152, w150[a0]? = some (.inr (12, fs152)) ∧ (26 < fs152.length) ∧ ∀ w155, w155 = w150.set a0 (.inr (12, fs152.set 26 (.ref b151))) → (¬ ((9 : Int32) < 0 ∨ 1000000 < (9 : Int32).toNatClampNeg ∨ xP ≤ w155.length + 1)) ∧ ∀ b158 w157, b158 = w155.length → w157 = w155 ++ [.inl (.inr ((9 : Int32).toNatClampNeg, fun _ => 0))] → ∃ fs159, w157[a0]? = some (.inr (12, fs159)) ∧ (27 < fs159.length) ∧ ∀ w162, w162 = w157.set a0 (.inr (12, fs159.set 27 (.ref b158))) → (¬ ((9 : Int32) < 0 ∨ 1000000 < (9 : Int32).toNatClampNeg ∨ xP ≤ w162.length + 1)) ∧ ∀ b165 w164, b165 = w162.length → w164 = w162 ++ [.inl (.inr ((9 : Int32).toNatClampNeg, fun _ => 0))] → ∃ fs166, w164[a0]? = some (.inr (12, fs166)) ∧ (28 < fs166.length) ∧ ∀ w169, w169 = w164.set a0 (.inr (12, fs166.set 28 (.ref b165))) → (¬ ((3 : Int32) < 0 ∨ 1000000 < (3 : Int32).toNatClampNeg ∨ xP ≤ w169.length + 1)) ∧ ∀ b172 w171, b172 = w169.length → w171 = w169 ++ [.inl (.inr ((3 : Int32).toNatClampNeg, fun _ => 0))] → ∃ fs173, w171[a0]? = some (.inr (12, fs173)) ∧ (29 < fs173.length) ∧ ∀ w176, w176 = w171.set a0 (.inr (12, fs173.set 29 (.ref b172))) → (¬ ((39 : Int32) < 0 ∨ 1000000 < (39 : Int32).toNatClampNeg ∨ xP ≤ w176.length + 1)) ∧ ∀ b179 w178, b179 = w176.length → w178 = w176 ++ [.inl (.inl ((39 : Int32).toNatClampNeg, fun _ => 0))] → ∃ fs180, w178[a0]? = some (.inr (12, fs180)) ∧ (30 < fs180.length) ∧ ∀ w183, w183 = w178.set a0 (.inr (12, fs180.set 30 (.ref b179))) → (¬ ((32 : Int32) < 0 ∨ 1000000 < (32 : Int32).toNatClampNeg ∨ xP ≤ w183.length + 1)) ∧ ∀ b186 w185, b186 = w183.length → w185 = w183 ++ [.inl (.inr ((32 : Int32).toNatClampNeg, fun _ => 0))] → ∃ fs187, w185[a0]? = some (.inr (12, fs187)) ∧ (31 < fs187.length) ∧ ∀ w190, w190 = w185.set a0 (.inr (12, fs187.set 31 (.ref b186))) → (¬ ((24 : Int32) < 0 ∨ 1000000 < (24 : Int32).toNatClampNeg ∨ xP ≤ w190.length + 1)) ∧ ∀ b193 w192, b193 = w190.length → w192 = w190 ++ [.inl (.inr ((24 : Int32).toNatClampNeg, fun _ => 0))] → ∃ fs194, w192[a0]? = some (.inr (12, fs194)) ∧ (32 < fs194.length) ∧ ∀ w197, w197 = w192.set a0 (.inr (12, fs194.set 32 (.ref b193))) → (¬ ((24 : Int32) < 0 ∨ 1000000 < (24 : Int32).toNatClampNeg ∨ xP ≤ w197.length + 1)) ∧ ∀ b200 w199, b200 = w197.length → w199 = w197 ++ [.inl (.inr ((24 : Int32).toNatClampNeg, fun _ => 0))] → ∃ fs201, w199[a0]? = some (.inr (12, fs201)) ∧ (33 < fs201.length) ∧ ∀ w204, w204 = w199.set a0 (.inr (12, fs201.set 33 (.ref b200))) → xGo 188 252 [some (.ref a0), some (.int (0 : Int32)), none, none] [] w204 r) : xGo 188 0 [some (.ref a0), none, none, none] [] w r := by
  refine g_aloadn (pc' := 1) d_188_0 rfl rfl ?_
  refine g_obj (pc' := 4) d_188_1 rfl st_188_1 fr_188 lo_188 rfl ?_
  refine g_aloadn (pc' := 5) d_188_4 rfl rfl ?_
  refine g_bipush (pc' := 7) d_188_5 rfl cb_117 ?_
  obtain ⟨hc1, h⟩ := h
  have h := h _ _ rfl rfl
  refine g_newl (pc' := 9) d_188_7 rfl hc1 ?_
  obtain ⟨fs4, hw5, h⟩ := h
  obtain ⟨hc6, h⟩ := h
  have h := h _ rfl
  refine g_putf (pc' := 12) d_188_9 rfl st_188_7 ft_12_1 ff_12_1 rfl (Or.inr ⟨by decide +kernel, by decide +kernel⟩) hw5 hc6 ?_
  refine g_aloadn (pc' := 13) d_188_12 rfl rfl ?_
  refine g_bipush (pc' := 15) d_188_13 rfl cb_117 ?_
  obtain ⟨hc8, h⟩ := h
  have h := h _ _ rfl rfl
  refine g_newl (pc' := 17) d_188_15 rfl hc8 ?_
  obtain ⟨fs11, hw12, h⟩ := h
  obtain ⟨hc13, h⟩ := h
  have h := h _ rfl
  refine g_putf (pc' := 20) d_188_17 rfl st_188_13 ft_12_2 ff_12_2 rfl (Or.inr ⟨by decide +kernel, by decide +kernel⟩) hw12 hc13 ?_
  refine g_aloadn (pc' := 21) d_188_20 rfl rfl ?_
  refine g_bipush (pc' := 23) d_188_21 rfl cb_39 ?_
  obtain ⟨hc15, h⟩ := h
  have h := h _ _ rfl rfl
  refine g_newi (pc' := 25) d_188_23 rfl hc15 ?_
  obtain ⟨fs18, hw19, h⟩ := h
  obtain ⟨hc20, h⟩ := h
  have h := h _ rfl
  refine g_putf (pc' := 28) d_188_25 rfl st_188_16 ft_12_3 ff_12_3 rfl (Or.inr ⟨by decide +kernel, by decide +kernel⟩) hw19 hc20 ?_
  refine g_aloadn (pc' := 29) d_188_28 rfl rfl ?_
  refine g_iconst (pc' := 30) d_188_29 rfl ci_m1 ?_
  obtain ⟨hc22, h⟩ := h
  have h := h _ rfl
  refine g_putf (pc' := 33) d_188_30 rfl st_188_20 ft_12_4 ff_12_4 rfl (Or.inl rfl) (x_gss hw19) hc22 ?_
  refine g_aloadn (pc' := 34) d_188_33 rfl rfl ?_
  refine g_sipush (pc' := 37) d_188_34 rfl cs_1680 ?_
  obtain ⟨hc24, h⟩ := h
  have h := h _ _ rfl rfl
  refine g_newl (pc' := 39) d_188_37 rfl hc24 ?_
  obtain ⟨fs27, hw28, h⟩ := h
  obtain ⟨hc29, h⟩ := h
  have h := h _ rfl
  refine g_putf (pc' := 42) d_188_39 rfl st_188_24 ft_12_5 ff_12_5 rfl (Or.inr ⟨by decide +kernel, by decide +kernel⟩) hw28 hc29 ?_
  refine g_aloadn (pc' := 43) d_188_42 rfl rfl ?_
  refine g_bipush (pc' := 45) d_188_43 rfl cb_46 ?_
  obtain ⟨hc31, h⟩ := h
  have h := h _ _ rfl rfl
  refine g_newi (pc' := 47) d_188_45 rfl hc31 ?_
  obtain ⟨fs34, hw35, h⟩ := h
  obtain ⟨hc36, h⟩ := h
  have h := h _ rfl
  refine g_putf (pc' := 50) d_188_47 rfl st_188_27 ft_12_6 ff_12_6 rfl (Or.inr ⟨by decide +kernel, by decide +kernel⟩) hw35 hc36 ?_
  refine g_aloadn (pc' := 51) d_188_50 rfl rfl ?_
  refine g_bipush (pc' := 53) d_188_51 rfl cb_40 ?_
  obtain ⟨hc38, h⟩ := h
  have h := h _ _ rfl rfl
  refine g_newl (pc' := 55) d_188_53 rfl hc38 ?_
  obtain ⟨fs41, hw42, h⟩ := h
  obtain ⟨hc43, h⟩ := h
  have h := h _ rfl
  refine g_putf (pc' := 58) d_188_55 rfl st_188_30 ft_12_10 ff_12_10 rfl (Or.inr ⟨by decide +kernel, by decide +kernel⟩) hw42 hc43 ?_
  refine g_aloadn (pc' := 59) d_188_58 rfl rfl ?_
  refine g_bipush (pc' := 61) d_188_59 rfl cb_40 ?_
  obtain ⟨hc45, h⟩ := h
  have h := h _ _ rfl rfl
  refine g_newl (pc' := 63) d_188_61 rfl hc45 ?_
  obtain ⟨fs48, hw49, h⟩ := h
  obtain ⟨hc50, h⟩ := h
  have h := h _ rfl
  refine g_putf (pc' := 66) d_188_63 rfl st_188_33 ft_12_11 ff_12_11 rfl (Or.inr ⟨by decide +kernel, by decide +kernel⟩) hw49 hc50 ?_
  refine g_aloadn (pc' := 67) d_188_66 rfl rfl ?_
  refine g_bipush (pc' := 69) d_188_67 rfl cb_63 ?_
  obtain ⟨hc52, h⟩ := h
  have h := h _ _ rfl rfl
  refine g_newi (pc' := 71) d_188_69 rfl hc52 ?_
  obtain ⟨fs55, hw56, h⟩ := h
  obtain ⟨hc57, h⟩ := h
  have h := h _ rfl
  refine g_putf (pc' := 74) d_188_71 rfl st_188_36 ft_12_12 ff_12_12 rfl (Or.inr ⟨by decide +kernel, by decide +kernel⟩) hw56 hc57 ?_
  refine g_aloadn (pc' := 75) d_188_74 rfl rfl ?_
  refine g_bipush (pc' := 77) d_188_75 rfl cb_117 ?_
  obtain ⟨hc59, h⟩ := h
  have h := h _ _ rfl rfl
  refine g_newl (pc' := 79) d_188_77 rfl hc59 ?_
  obtain ⟨fs62, hw63, h⟩ := h
  obtain ⟨hc64, h⟩ := h
  have h := h _ rfl
  refine g_putf (pc' := 82) d_188_79 rfl st_188_39 ft_12_15 ff_12_15 rfl (Or.inr ⟨by decide +kernel, by decide +kernel⟩) hw63 hc64 ?_
  refine g_aloadn (pc' := 83) d_188_82 rfl rfl ?_
  refine g_sipush (pc' := 86) d_188_83 rfl cs_200 ?_
  obtain ⟨hc66, h⟩ := h
  have h := h _ _ rfl rfl
  refine g_newi (pc' := 88) d_188_86 rfl hc66 ?_
  obtain ⟨fs69, hw70, h⟩ := h
  obtain ⟨hc71, h⟩ := h
  have h := h _ rfl
  refine g_putf (pc' := 91) d_188_88 rfl st_188_42 ft_12_16 ff_12_16 rfl (Or.inr ⟨by decide +kernel, by decide +kernel⟩) hw70 hc71 ?_
  refine g_aloadn (pc' := 92) d_188_91 rfl rfl ?_
  refine g_sipush (pc' := 95) d_188_92 rfl cs_200 ?_
  obtain ⟨hc73, h⟩ := h
  have h := h _ _ rfl rfl
  refine g_newi (pc' := 97) d_188_95 rfl hc73 ?_
  obtain ⟨fs76, hw77, h⟩ := h
  obtain ⟨hc78, h⟩ := h
  have h := h _ rfl
  refine g_putf (pc' := 100) d_188_97 rfl st_188_45 ft_12_17 ff_12_17 rfl (Or.inr ⟨by decide +kernel, by decide +kernel⟩) hw77 hc78 ?_
  refine g_aloadn (pc' := 101) d_188_100 rfl rfl ?_
  refine g_sipush (pc' := 104) d_188_101 rfl cs_200 ?_
  obtain ⟨hc80, h⟩ := h
  have h := h _ _ rfl rfl
  refine g_newi (pc' := 106) d_188_104 rfl hc80 ?_
  obtain ⟨fs83, hw84, h⟩ := h
  obtain ⟨hc85, h⟩ := h
  have h := h _ rfl
  refine g_putf (pc' := 109) d_188_106 rfl st_188_48 ft_12_18 ff_12_18 rfl (Or.inr ⟨by decide +kernel, by decide +kernel⟩) hw84 hc85 ?_
  refine g_aloadn (pc' := 110) d_188_109 rfl rfl ?_
  refine g_sipush (pc' := 113) d_188_110 rfl cs_200 ?_
  obtain ⟨hc87, h⟩ := h
  have h := h _ _ rfl rfl
  refine g_newi (pc' := 115) d_188_113 rfl hc87 ?_
  obtain ⟨fs90, hw91, h⟩ := h
  obtain ⟨hc92, h⟩ := h
  have h := h _ rfl
  refine g_putf (pc' := 118) d_188_115 rfl st_188_51 ft_12_19 ff_12_19 rfl (Or.inr ⟨by decide +kernel, by decide +kernel⟩) hw91 hc92 ?_
  refine g_aloadn (pc' := 119) d_188_118 rfl rfl ?_
  refine g_iconst (pc' := 120) d_188_119 rfl ci_5 ?_
  obtain ⟨hc94, h⟩ := h
  have h := h _ _ rfl rfl
  refine g_newi (pc' := 122) d_188_120 rfl hc94 ?_
  refine g_dup (pc' := 123) d_188_122 rfl rfl ?_
  refine g_iconst (pc' := 124) d_188_123 rfl ci_0 ?_
  refine g_bipush (pc' := 126) d_188_124 rfl cb_30 ?_
  obtain ⟨n97, f98, hw99, h⟩ := h
  obtain ⟨hc100, h⟩ := h
  have h := h _ rfl
  refine g_iast (pc' := 127) d_188_126 rfl hw99 hc100 ?_
  refine g_dup (pc' := 128) d_188_127 rfl rfl ?_
  refine g_iconst (pc' := 129) d_188_128 rfl ci_1 ?_
  refine g_bipush (pc' := 131) d_188_129 rfl cb_m15 ?_
  obtain ⟨hc102, h⟩ := h
  have h := h _ rfl
  refine g_iast (pc' := 132) d_188_131 rfl (x_gss hw99) hc102 ?_
  refine g_dup (pc' := 133) d_188_132 rfl rfl ?_
  refine g_iconst (pc' := 134) d_188_133 rfl ci_2 ?_
  refine g_iconst (pc' := 135) d_188_134 rfl ci_5 ?_
  obtain ⟨hc104, h⟩ := h
  have h := h _ rfl
  refine g_iast (pc' := 136) d_188_135 rfl (x_gss (x_gss hw99)) hc104 ?_
  refine g_dup (pc' := 137) d_188_136 rfl rfl ?_
  refine g_iconst (pc' := 138) d_188_137 rfl ci_3 ?_
  refine g_iconst (pc' := 139) d_188_138 rfl ci_0 ?_
  obtain ⟨hc106, h⟩ := h
  have h := h _ rfl
  refine g_iast (pc' := 140) d_188_139 rfl (x_gss (x_gss (x_gss hw99))) hc106 ?_
  refine g_dup (pc' := 141) d_188_140 rfl rfl ?_
  refine g_iconst (pc' := 142) d_188_141 rfl ci_4 ?_
  refine g_iconst (pc' := 143) d_188_142 rfl ci_m1 ?_
  obtain ⟨hc108, h⟩ := h
  have h := h _ rfl
  refine g_iast (pc' := 144) d_188_143 rfl (x_gss (x_gss (x_gss (x_gss hw99)))) hc108 ?_
  obtain ⟨fs110, hw111, h⟩ := h
  obtain ⟨hc112, h⟩ := h
  have h := h _ rfl
  refine g_putf (pc' := 147) d_188_144 rfl st_188_54 ft_12_20 ff_12_20 rfl (Or.inr ⟨by decide +kernel, by decide +kernel⟩) hw111 hc112 ?_
  refine g_aloadn (pc' := 148) d_188_147 rfl rfl ?_
  refine g_bipush (pc' := 150) d_188_148 rfl cb_27 ?_
  obtain ⟨hc114, h⟩ := h
  have h := h _ _ rfl rfl
  refine g_newl (pc' := 152) d_188_150 rfl hc114 ?_
  obtain ⟨fs117, hw118, h⟩ := h
  obtain ⟨hc119, h⟩ := h
  have h := h _ rfl
  refine g_putf (pc' := 155) d_188_152 rfl st_188_57 ft_12_21 ff_12_21 rfl (Or.inr ⟨by decide +kernel, by decide +kernel⟩) hw118 hc119 ?_
  refine g_aloadn (pc' := 156) d_188_155 rfl rfl ?_
  refine g_bipush (pc' := 158) d_188_156 rfl cb_27 ?_
  obtain ⟨hc121, h⟩ := h
  have h := h _ _ rfl rfl
  refine g_newl (pc' := 160) d_188_158 rfl hc121 ?_
  obtain ⟨fs124, hw125, h⟩ := h
  obtain ⟨hc126, h⟩ := h
  have h := h _ rfl
  refine g_putf (pc' := 163) d_188_160 rfl st_188_60 ft_12_22 ff_12_22 rfl (Or.inr ⟨by decide +kernel, by decide +kernel⟩) hw125 hc126 ?_
  refine g_aloadn (pc' := 164) d_188_163 rfl rfl ?_
  refine g_bipush (pc' := 166) d_188_164 rfl cb_32 ?_
  obtain ⟨hc128, h⟩ := h
  have h := h _ _ rfl rfl
  refine g_newl (pc' := 168) d_188_166 rfl hc128 ?_
  obtain ⟨fs131, hw132, h⟩ := h
  obtain ⟨hc133, h⟩ := h
  have h := h _ rfl
  refine g_putf (pc' := 171) d_188_168 rfl st_188_63 ft_12_23 ff_12_23 rfl (Or.inr ⟨by decide +kernel, by decide +kernel⟩) hw132 hc133 ?_
  refine g_aloadn (pc' := 172) d_188_171 rfl rfl ?_
  refine g_bipush (pc' := 174) d_188_172 rfl cb_32 ?_
  obtain ⟨hc135, h⟩ := h
  have h := h _ _ rfl rfl
  refine g_newl (pc' := 176) d_188_174 rfl hc135 ?_
  obtain ⟨fs138, hw139, h⟩ := h
  obtain ⟨hc140, h⟩ := h
  have h := h _ rfl
  refine g_putf (pc' := 179) d_188_176 rfl st_188_66 ft_12_24 ff_12_24 rfl (Or.inr ⟨by decide +kernel, by decide +kernel⟩) hw139 hc140 ?_
  refine g_aloadn (pc' := 180) d_188_179 rfl rfl ?_
  refine g_bipush (pc' := 182) d_188_180 rfl cb_26 ?_
  obtain ⟨hc142, h⟩ := h
  have h := h _ _ rfl rfl
  refine g_newl (pc' := 184) d_188_182 rfl hc142 ?_
  obtain ⟨fs145, hw146, h⟩ := h
  obtain ⟨hc147, h⟩ := h
  have h := h _ rfl
  refine g_putf (pc' := 187) d_188_184 rfl st_188_69 ft_12_25 ff_12_25 rfl (Or.inr ⟨by decide +kernel, by decide +kernel⟩) hw146 hc147 ?_
  refine g_aloadn (pc' := 188) d_188_187 rfl rfl ?_
  refine g_bipush (pc' := 190) d_188_188 rfl cb_32 ?_
  obtain ⟨hc149, h⟩ := h
  have h := h _ _ rfl rfl
  refine g_newl (pc' := 192) d_188_190 rfl hc149 ?_
  obtain ⟨fs152, hw153, h⟩ := h
  obtain ⟨hc154, h⟩ := h
  have h := h _ rfl
  refine g_putf (pc' := 195) d_188_192 rfl st_188_72 ft_12_26 ff_12_26 rfl (Or.inr ⟨by decide +kernel, by decide +kernel⟩) hw153 hc154 ?_
  refine g_aloadn (pc' := 196) d_188_195 rfl rfl ?_
  refine g_bipush (pc' := 198) d_188_196 rfl cb_9 ?_
  obtain ⟨hc156, h⟩ := h
  have h := h _ _ rfl rfl
  refine g_newl (pc' := 200) d_188_198 rfl hc156 ?_
  obtain ⟨fs159, hw160, h⟩ := h
  obtain ⟨hc161, h⟩ := h
  have h := h _ rfl
  refine g_putf (pc' := 203) d_188_200 rfl st_188_75 ft_12_27 ff_12_27 rfl (Or.inr ⟨by decide +kernel, by decide +kernel⟩) hw160 hc161 ?_
  refine g_aloadn (pc' := 204) d_188_203 rfl rfl ?_
  refine g_bipush (pc' := 206) d_188_204 rfl cb_9 ?_
  obtain ⟨hc163, h⟩ := h
  have h := h _ _ rfl rfl
  refine g_newl (pc' := 208) d_188_206 rfl hc163 ?_
  obtain ⟨fs166, hw167, h⟩ := h
  obtain ⟨hc168, h⟩ := h
  have h := h _ rfl
  refine g_putf (pc' := 211) d_188_208 rfl st_188_78 ft_12_28 ff_12_28 rfl (Or.inr ⟨by decide +kernel, by decide +kernel⟩) hw167 hc168 ?_
  refine g_aloadn (pc' := 212) d_188_211 rfl rfl ?_
  refine g_iconst (pc' := 213) d_188_212 rfl ci_3 ?_
  obtain ⟨hc170, h⟩ := h
  have h := h _ _ rfl rfl
  refine g_newl (pc' := 215) d_188_213 rfl hc170 ?_
  obtain ⟨fs173, hw174, h⟩ := h
  obtain ⟨hc175, h⟩ := h
  have h := h _ rfl
  refine g_putf (pc' := 218) d_188_215 rfl st_188_81 ft_12_29 ff_12_29 rfl (Or.inr ⟨by decide +kernel, by decide +kernel⟩) hw174 hc175 ?_
  refine g_aloadn (pc' := 219) d_188_218 rfl rfl ?_
  refine g_bipush (pc' := 221) d_188_219 rfl cb_39 ?_
  obtain ⟨hc177, h⟩ := h
  have h := h _ _ rfl rfl
  refine g_newi (pc' := 223) d_188_221 rfl hc177 ?_
  obtain ⟨fs180, hw181, h⟩ := h
  obtain ⟨hc182, h⟩ := h
  have h := h _ rfl
  refine g_putf (pc' := 226) d_188_223 rfl st_188_84 ft_12_30 ff_12_30 rfl (Or.inr ⟨by decide +kernel, by decide +kernel⟩) hw181 hc182 ?_
  refine g_aloadn (pc' := 227) d_188_226 rfl rfl ?_
  refine g_bipush (pc' := 229) d_188_227 rfl cb_32 ?_
  obtain ⟨hc184, h⟩ := h
  have h := h _ _ rfl rfl
  refine g_newl (pc' := 231) d_188_229 rfl hc184 ?_
  obtain ⟨fs187, hw188, h⟩ := h
  obtain ⟨hc189, h⟩ := h
  have h := h _ rfl
  refine g_putf (pc' := 234) d_188_231 rfl st_188_87 ft_12_31 ff_12_31 rfl (Or.inr ⟨by decide +kernel, by decide +kernel⟩) hw188 hc189 ?_
  refine g_aloadn (pc' := 235) d_188_234 rfl rfl ?_
  refine g_bipush (pc' := 237) d_188_235 rfl cb_24 ?_
  obtain ⟨hc191, h⟩ := h
  have h := h _ _ rfl rfl
  refine g_newl (pc' := 239) d_188_237 rfl hc191 ?_
  obtain ⟨fs194, hw195, h⟩ := h
  obtain ⟨hc196, h⟩ := h
  have h := h _ rfl
  refine g_putf (pc' := 242) d_188_239 rfl st_188_90 ft_12_32 ff_12_32 rfl (Or.inr ⟨by decide +kernel, by decide +kernel⟩) hw195 hc196 ?_
  refine g_aloadn (pc' := 243) d_188_242 rfl rfl ?_
  refine g_bipush (pc' := 245) d_188_243 rfl cb_24 ?_
  obtain ⟨hc198, h⟩ := h
  have h := h _ _ rfl rfl
  refine g_newl (pc' := 247) d_188_245 rfl hc198 ?_
  obtain ⟨fs201, hw202, h⟩ := h
  obtain ⟨hc203, h⟩ := h
  have h := h _ rfl
  refine g_putf (pc' := 250) d_188_247 rfl st_188_93 ft_12_33 ff_12_33 rfl (Or.inr ⟨by decide +kernel, by decide +kernel⟩) hw202 hc203 ?_
  refine g_iconst (pc' := 251) d_188_250 rfl ci_0 ?_
  refine g_istoren (pc' := 252) (l' := [some (.ref a0), some (.int (0 : Int32)), none, none]) d_188_251 rfl ml_188 rfl rfl ?_
  exact h
theorem S_188_252 {a0 : Nat} {i1 : Int32} {w : xW} {r : Option Value × xW} (h : ((42 : Int32) ≤ i1 → xGo 188 335 [some (.ref a0), some (.int (2 : Int32)), none, none] [] w r) ∧ (¬ ((42 : Int32) ≤ i1) → ∃ fs1, w[a0]? = some (.inr (12, fs1)) ∧ ∃ b3, fs1[5]? = some (.ref b3) ∧ ∃ n5 f6, w[b3]? = some (.inl (.inr (n5, f6))) ∧ (¬ (((40 : Int32) * i1) < 0 ∨ n5 ≤ ((40 : Int32) * i1).toNatClampNeg)) ∧ ∀ w9, w9 = w.set b3 (.inl (.inr (n5, (vp_updL f6 ((40 : Int32) * i1).toNatClampNeg (1 : Int64))))) → xGo 188 270 [some (.ref a0), some (.int i1), some (.int (1 : Int32)), none] [] w9 r)) : xGo 188 252 [some (.ref a0), some (.int i1), none, none] [] w r := by
  refine g_iloadn (pc' := 253) d_188_252 rfl rfl ?_
  refine g_bipush (pc' := 255) d_188_253 rfl cb_42 ?_
  refine g_ic_ge (pc' := 258) (pt := 333) d_188_255 (by decide) rfl (fun c => ?_) (fun c => ?_)
  · replace h := h.1 c
    refine g_iconst (pc' := 334) d_188_333 rfl ci_2 ?_
    refine g_istoren (pc' := 335) (l' := [some (.ref a0), some (.int (2 : Int32)), none, none]) d_188_334 rfl ml_188 rfl rfl ?_
    exact h
  · replace h := h.2 c
    refine g_aloadn (pc' := 259) d_188_258 rfl rfl ?_
    obtain ⟨fs1, hw2, h⟩ := h
    obtain ⟨b3, hv4, h⟩ := h
    refine g_getf (pc' := 262) d_188_259 rfl st_188_24 hw2 hv4 ?_
    refine g_bipush (pc' := 264) d_188_262 rfl cb_40 ?_
    refine g_iloadn (pc' := 265) d_188_264 rfl rfl ?_
    refine g_imul (pc' := 266) d_188_265 rfl ?_
    refine g_lconst (pc' := 267) d_188_266 rfl cl_1 ?_
    obtain ⟨n5, f6, hw7, h⟩ := h
    obtain ⟨hc8, h⟩ := h
    have h := h _ rfl
    refine g_last (pc' := 268) d_188_267 rfl hw7 hc8 ?_
    refine g_iconst (pc' := 269) d_188_268 rfl ci_1 ?_
    refine g_istoren (pc' := 270) (l' := [some (.ref a0), some (.int i1), some (.int (1 : Int32)), none]) d_188_269 rfl ml_188 rfl rfl ?_
    exact h
theorem S_188_270 {a0 : Nat} {i1 : Int32} {i2 : Int32} {w : xW} {r : Option Value × xW} (h : (i1 < i2 → ∀ v1 : Int32, v1 = i1 + (1 : Int32) → xGo 188 252 [some (.ref a0), some (.int v1), none, none] [] w r) ∧ (¬ (i1 < i2) → ((40 : Int32) ≤ i2 → ∀ v2 : Int32, v2 = i1 + (1 : Int32) → xGo 188 252 [some (.ref a0), some (.int v2), none, none] [] w r) ∧ (¬ ((40 : Int32) ≤ i2) → ∃ fs3, w[a0]? = some (.inr (12, fs3)) ∧ ∃ b5, fs3[5]? = some (.ref b5) ∧ ∃ n7 f8, w[b5]? = some (.inl (.inr (n7, f8))) ∧ (¬ (((((40 : Int32) * (i1 - (1 : Int32))) + i2) - (1 : Int32)) < 0 ∨ n7 ≤ ((((40 : Int32) * (i1 - (1 : Int32))) + i2) - (1 : Int32)).toNatClampNeg)) ∧ (¬ ((((40 : Int32) * (i1 - (1 : Int32))) + i2) < 0 ∨ n7 ≤ (((40 : Int32) * (i1 - (1 : Int32))) + i2).toNatClampNeg)) ∧ ∀ v12 : Int64, v12 = ((f8 ((((40 : Int32) * (i1 - (1 : Int32))) + i2) - (1 : Int32)).toNatClampNeg) + (f8 (((40 : Int32) * (i1 - (1 : Int32))) + i2).toNatClampNeg)) → (¬ ((((40 : Int32) * i1) + i2) < 0 ∨ n7 ≤ (((40 : Int32) * i1) + i2).toNatClampNeg)) ∧ ∀ w14, w14 = w.set b5 (.inl (.inr (n7, (vp_updL f8 (((40 : Int32) * i1) + i2).toNatClampNeg v12)))) → ∀ v15 : Int32, v15 = i2 + (1 : Int32) → xGo 188 270 [some (.ref a0), some (.int i1), some (.int v15), none] [] w14 r))) : xGo 188 270 [some (.ref a0), some (.int i1), some (.int i2), none] [] w r := by
  refine g_iloadn (pc' := 271) d_188_270 rfl rfl ?_
  refine g_iloadn (pc' := 272) d_188_271 rfl rfl ?_
  refine g_ic_gt (pc' := 275) (pt := 327) d_188_272 (by decide) rfl (fun c => ?_) (fun c => ?_)
  · replace h := h.1 c
    have h := h _ rfl
    refine g_iinc (pc' := 330) (l' := [some (.ref a0), some (.int (i1 + (1 : Int32))), some (.int i2), none]) d_188_327 rfl rfl ci_1 ml_188 rfl rfl ?_
    refine g_goto (pt := 252) d_188_330 (by decide) ?_
    exact xGo.more (xle_s (xle_s (xle_n (xle_n xle_0)))) h
  · replace h := h.2 c
    refine g_iloadn (pc' := 276) d_188_275 rfl rfl ?_
    refine g_bipush (pc' := 278) d_188_276 rfl cb_40 ?_
    refine g_ic_ge (pc' := 281) (pt := 327) d_188_278 (by decide) rfl (fun c => ?_) (fun c => ?_)
    · replace h := h.1 c
      have h := h _ rfl
      refine g_iinc (pc' := 330) (l' := [some (.ref a0), some (.int (i1 + (1 : Int32))), some (.int i2), none]) d_188_327 rfl rfl ci_1 ml_188 rfl rfl ?_
      refine g_goto (pt := 252) d_188_330 (by decide) ?_
      exact xGo.more (xle_s (xle_s (xle_n (xle_n xle_0)))) h
    · replace h := h.2 c
      refine g_aloadn (pc' := 282) d_188_281 rfl rfl ?_
      obtain ⟨fs3, hw4, h⟩ := h
      obtain ⟨b5, hv6, h⟩ := h
      refine g_getf (pc' := 285) d_188_282 rfl st_188_24 hw4 hv6 ?_
      refine g_bipush (pc' := 287) d_188_285 rfl cb_40 ?_
      refine g_iloadn (pc' := 288) d_188_287 rfl rfl ?_
      refine g_imul (pc' := 289) d_188_288 rfl ?_
      refine g_iloadn (pc' := 290) d_188_289 rfl rfl ?_
      refine g_iadd (pc' := 291) d_188_290 rfl ?_
      refine g_aloadn (pc' := 292) d_188_291 rfl rfl ?_
      refine g_getf (pc' := 295) d_188_292 rfl st_188_24 hw4 hv6 ?_
      refine g_bipush (pc' := 297) d_188_295 rfl cb_40 ?_
      refine g_iloadn (pc' := 298) d_188_297 rfl rfl ?_
      refine g_iconst (pc' := 299) d_188_298 rfl ci_1 ?_
      refine g_isub (pc' := 300) d_188_299 rfl ?_
      refine g_imul (pc' := 301) d_188_300 rfl ?_
      refine g_iloadn (pc' := 302) d_188_301 rfl rfl ?_
      refine g_iadd (pc' := 303) d_188_302 rfl ?_
      refine g_iconst (pc' := 304) d_188_303 rfl ci_1 ?_
      refine g_isub (pc' := 305) d_188_304 rfl ?_
      obtain ⟨n7, f8, hw9, h⟩ := h
      obtain ⟨hc10, h⟩ := h
      refine g_lald (pc' := 306) d_188_305 rfl hw9 hc10 ?_
      refine g_aloadn (pc' := 307) d_188_306 rfl rfl ?_
      refine g_getf (pc' := 310) d_188_307 rfl st_188_24 hw4 hv6 ?_
      refine g_bipush (pc' := 312) d_188_310 rfl cb_40 ?_
      refine g_iloadn (pc' := 313) d_188_312 rfl rfl ?_
      refine g_iconst (pc' := 314) d_188_313 rfl ci_1 ?_
      refine g_isub (pc' := 315) d_188_314 rfl ?_
      refine g_imul (pc' := 316) d_188_315 rfl ?_
      refine g_iloadn (pc' := 317) d_188_316 rfl rfl ?_
      refine g_iadd (pc' := 318) d_188_317 rfl ?_
      obtain ⟨hc11, h⟩ := h
      refine g_lald (pc' := 319) d_188_318 rfl hw9 hc11 ?_
      refine g_ladd (pc' := 320) d_188_319 rfl ?_
      have h := h _ rfl
      obtain ⟨hc13, h⟩ := h
      have h := h _ rfl
      refine g_last (pc' := 321) d_188_320 rfl hw9 hc13 ?_
      have h := h _ rfl
      refine g_iinc (pc' := 324) (l' := [some (.ref a0), some (.int i1), some (.int (i2 + (1 : Int32))), none]) d_188_321 rfl rfl ci_1 ml_188 rfl rfl ?_
      refine g_goto (pt := 270) d_188_324 (by decide) ?_
      exact h
theorem S_188_335 {a0 : Nat} {i1 : Int32} {w : xW} {r : Option Value × xW} (h : ((200 : Int32) ≤ i1 → ∃ fs1, w[a0]? = some (.inr (12, fs1)) ∧ ∃ b3, fs1[1]? = some (.ref b3) ∧ ∃ w5, xCall 189 [.ref b3, .int (0 : Int32), .long (1 : Int64), .long (0 : Int64), .long (1 : Int64)] w (none, w5) ∧ xGo 188 418 [some (.ref a0), some (.int (1 : Int32)), none, none] [] w5 r) ∧ (¬ ((200 : Int32) ≤ i1) → xGo 188 346 [some (.ref a0), some (.int i1), some (.int (1 : Int32)), some (.int (2 : Int32))] [] w r)) : xGo 188 335 [some (.ref a0), some (.int i1), none, none] [] w r := by
  refine g_iloadn (pc' := 336) d_188_335 rfl rfl ?_
  refine g_sipush (pc' := 339) d_188_336 rfl cs_200 ?_
  refine g_ic_ge (pc' := 342) (pt := 405) d_188_339 (by decide) rfl (fun c => ?_) (fun c => ?_)
  · replace h := h.1 c
    refine g_aloadn (pc' := 406) d_188_405 rfl rfl ?_
    obtain ⟨fs1, hw2, h⟩ := h
    obtain ⟨b3, hv4, h⟩ := h
    refine g_getf (pc' := 409) d_188_406 rfl st_188_7 hw2 hv4 ?_
    refine g_iconst (pc' := 410) d_188_409 rfl ci_0 ?_
    refine g_lconst (pc' := 411) d_188_410 rfl cl_1 ?_
    refine g_lconst (pc' := 412) d_188_411 rfl cl_0 ?_
    refine g_lconst (pc' := 413) d_188_412 rfl cl_1 ?_
    obtain ⟨w5, hk6, h⟩ := h
    refine g_callS (pc' := 416) d_188_413 rfl st_188_99 (Or.inl rfl) na_189 ml_189 rfl rfl rfl rm_188_189 rfl rfl hk6 ?_
    refine g_iconst (pc' := 417) d_188_416 rfl ci_1 ?_
    refine g_istoren (pc' := 418) (l' := [some (.ref a0), some (.int (1 : Int32)), none, none]) d_188_417 rfl ml_188 rfl rfl ?_
    exact h
  · replace h := h.2 c
    refine g_iconst (pc' := 343) d_188_342 rfl ci_1 ?_
    refine g_istoren (pc' := 344) (l' := [some (.ref a0), some (.int i1), some (.int (1 : Int32)), none]) d_188_343 rfl ml_188 rfl rfl ?_
    refine g_iconst (pc' := 345) d_188_344 rfl ci_2 ?_
    refine g_istoren (pc' := 346) (l' := [some (.ref a0), some (.int i1), some (.int (1 : Int32)), some (.int (2 : Int32))]) d_188_345 rfl ml_188 rfl rfl ?_
    exact h
theorem S_188_346 {a0 : Nat} {i1 : Int32} {i2 : Int32} {i3 : Int32} {w : xW} {r : Option Value × xW} (h : (i1 < (i3 * i3) → (i2 = 0 → ∀ v1 : Int32, v1 = i1 + (1 : Int32) → xGo 188 335 [some (.ref a0), some (.int v1), none, none] [] w r) ∧ (¬ (i2 = 0) → ∃ fs2, w[a0]? = some (.inr (12, fs2)) ∧ ∃ b4, fs2[6]? = some (.ref b4) ∧ ∃ x6, fs2[7]? = some (.int x6) ∧ ∃ n8 f9, w[b4]? = some (.inl (.inl (n8, f9))) ∧ (¬ (x6 < 0 ∨ n8 ≤ x6.toNatClampNeg)) ∧ ∀ w12, w12 = w.set b4 (.inl (.inl (n8, (upd f9 x6.toNatClampNeg i1)))) → ∃ fs13, w12[a0]? = some (.inr (12, fs13)) ∧ ∃ x15, fs13[7]? = some (.int x15) ∧ ∀ v17 : Int32, v17 = (x15 + (1 : Int32)) → (7 < fs13.length) ∧ ∀ w19, w19 = w12.set a0 (.inr (12, fs13.set 7 (.int v17))) → ∀ v20 : Int32, v20 = i1 + (1 : Int32) → xGo 188 335 [some (.ref a0), some (.int v20), none, none] [] w19 r)) ∧ (¬ (i1 < (i3 * i3)) → (i2 = 0 → ∀ v21 : Int32, v21 = i3 + (1 : Int32) → xGo 188 346 [some (.ref a0), some (.int i1), some (.int (0 : Int32)), some (.int v21)] [] w r) ∧ (¬ (i2 = 0) → (¬ i3 = 0) ∧ ((irem i1 i3) = 0 → ∀ v23 : Int32, v23 = i3 + (1 : Int32) → xGo 188 346 [some (.ref a0), some (.int i1), some (.int (0 : Int32)), some (.int v23)] [] w r) ∧ (¬ ((irem i1 i3) = 0) → ∀ v24 : Int32, v24 = i3 + (1 : Int32) → xGo 188 346 [some (.ref a0), some (.int i1), some (.int (1 : Int32)), some (.int v24)] [] w r)))) : xGo 188 346 [some (.ref a0), some (.int i1), some (.int i2), some (.int i3)] [] w r := by
  refine g_iloadn (pc' := 347) d_188_346 rfl rfl ?_
  refine g_iloadn (pc' := 348) d_188_347 rfl rfl ?_
  refine g_imul (pc' := 349) d_188_348 rfl ?_
  refine g_iloadn (pc' := 350) d_188_349 rfl rfl ?_
  refine g_ic_gt (pc' := 353) (pt := 375) d_188_350 (by decide) rfl (fun c => ?_) (fun c => ?_)
  · replace h := h.1 c
    refine g_iloadn (pc' := 376) d_188_375 rfl rfl ?_
    refine g_if_eq (pc' := 379) (pt := 399) d_188_376 (by decide) rfl (fun c => ?_) (fun c => ?_)
    · replace h := h.1 c
      have h := h _ rfl
      refine g_iinc (pc' := 402) (l' := [some (.ref a0), some (.int (i1 + (1 : Int32))), some (.int i2), some (.int i3)]) d_188_399 rfl rfl ci_1 ml_188 rfl rfl ?_
      refine g_goto (pt := 335) d_188_402 (by decide) ?_
      exact xGo.more (xle_s (xle_s (xle_n (xle_n xle_0)))) h
    · replace h := h.2 c
      refine g_aloadn (pc' := 380) d_188_379 rfl rfl ?_
      obtain ⟨fs2, hw3, h⟩ := h
      obtain ⟨b4, hv5, h⟩ := h
      refine g_getf (pc' := 383) d_188_380 rfl st_188_27 hw3 hv5 ?_
      refine g_aloadn (pc' := 384) d_188_383 rfl rfl ?_
      obtain ⟨x6, hv7, h⟩ := h
      refine g_getf (pc' := 387) d_188_384 rfl st_188_96 hw3 hv7 ?_
      refine g_iloadn (pc' := 388) d_188_387 rfl rfl ?_
      obtain ⟨n8, f9, hw10, h⟩ := h
      obtain ⟨hc11, h⟩ := h
      have h := h _ rfl
      refine g_iast (pc' := 389) d_188_388 rfl hw10 hc11 ?_
      refine g_aloadn (pc' := 390) d_188_389 rfl rfl ?_
      refine g_dup (pc' := 391) d_188_390 rfl rfl ?_
      obtain ⟨fs13, hw14, h⟩ := h
      obtain ⟨x15, hv16, h⟩ := h
      refine g_getf (pc' := 394) d_188_391 rfl st_188_96 hw14 hv16 ?_
      refine g_iconst (pc' := 395) d_188_394 rfl ci_1 ?_
      refine g_iadd (pc' := 396) d_188_395 rfl ?_
      have h := h _ rfl
      obtain ⟨hc18, h⟩ := h
      have h := h _ rfl
      refine g_putf (pc' := 399) d_188_396 rfl st_188_96 ft_12_7 ff_12_7 rfl (Or.inl rfl) hw14 hc18 ?_
      have h := h _ rfl
      refine g_iinc (pc' := 402) (l' := [some (.ref a0), some (.int (i1 + (1 : Int32))), some (.int i2), some (.int i3)]) d_188_399 rfl rfl ci_1 ml_188 rfl rfl ?_
      refine g_goto (pt := 335) d_188_402 (by decide) ?_
      exact xGo.more (xle_s (xle_s (xle_n (xle_n xle_0)))) h
  · replace h := h.2 c
    refine g_iloadn (pc' := 354) d_188_353 rfl rfl ?_
    refine g_if_eq (pc' := 357) (pt := 367) d_188_354 (by decide) rfl (fun c => ?_) (fun c => ?_)
    · replace h := h.1 c
      refine g_iconst (pc' := 368) d_188_367 rfl ci_0 ?_
      refine g_istoren (pc' := 369) (l' := [some (.ref a0), some (.int i1), some (.int (0 : Int32)), some (.int i3)]) d_188_368 rfl ml_188 rfl rfl ?_
      have h := h _ rfl
      refine g_iinc (pc' := 372) (l' := [some (.ref a0), some (.int i1), some (.int (0 : Int32)), some (.int (i3 + (1 : Int32)))]) d_188_369 rfl rfl ci_1 ml_188 rfl rfl ?_
      refine g_goto (pt := 346) d_188_372 (by decide) ?_
      exact h
    · replace h := h.2 c
      refine g_iloadn (pc' := 358) d_188_357 rfl rfl ?_
      refine g_iloadn (pc' := 359) d_188_358 rfl rfl ?_
      obtain ⟨hc22, h⟩ := h
      refine g_irem (pc' := 360) d_188_359 rfl hc22 ?_
      refine g_if_eq (pc' := 363) (pt := 367) d_188_360 (by decide) rfl (fun c => ?_) (fun c => ?_)
      · replace h := h.1 c
        refine g_iconst (pc' := 368) d_188_367 rfl ci_0 ?_
        refine g_istoren (pc' := 369) (l' := [some (.ref a0), some (.int i1), some (.int (0 : Int32)), some (.int i3)]) d_188_368 rfl ml_188 rfl rfl ?_
        have h := h _ rfl
        refine g_iinc (pc' := 372) (l' := [some (.ref a0), some (.int i1), some (.int (0 : Int32)), some (.int (i3 + (1 : Int32)))]) d_188_369 rfl rfl ci_1 ml_188 rfl rfl ?_
        refine g_goto (pt := 346) d_188_372 (by decide) ?_
        exact h
      · replace h := h.2 c
        refine g_iconst (pc' := 364) d_188_363 rfl ci_1 ?_
        refine g_goto (pt := 368) d_188_364 (by decide) ?_
        refine g_istoren (pc' := 369) (l' := [some (.ref a0), some (.int i1), some (.int (1 : Int32)), some (.int i3)]) d_188_368 rfl ml_188 rfl rfl ?_
        have h := h _ rfl
        refine g_iinc (pc' := 372) (l' := [some (.ref a0), some (.int i1), some (.int (1 : Int32)), some (.int (i3 + (1 : Int32)))]) d_188_369 rfl rfl ci_1 ml_188 rfl rfl ?_
        refine g_goto (pt := 346) d_188_372 (by decide) ?_
        exact h
theorem S_188_418 {a0 : Nat} {i1 : Int32} {w : xW} {r : Option Value × xW} (h : ((38 : Int32) < i1 → r = (none, w)) ∧ (¬ ((38 : Int32) < i1) → ∃ fs1, w[a0]? = some (.inr (12, fs1)) ∧ ∃ b3, fs1[1]? = some (.ref b3) ∧ ∃ w5, xCall 190 [.ref a0, .ref b3, .int (i1 + (1 : Int32)), .int (i1 - (1 : Int32))] w (none, w5) ∧ ∃ fs7, w5[a0]? = some (.inr (12, fs7)) ∧ ∃ b9, fs7[1]? = some (.ref b9) ∧ ∃ x11, fs7[8]? = some (.long x11) ∧ ∃ x13, fs7[9]? = some (.long x13) ∧ ∃ w15, xCall 192 [.ref a0, .ref b9, .int i1, .long (-x11), .long (-x13), .int (i1 + (1 : Int32))] w5 (none, w15) ∧ ∀ v17 : Int32, v17 = i1 + (1 : Int32) → xGo 188 418 [some (.ref a0), some (.int v17), none, none] [] w15 r)) : xGo 188 418 [some (.ref a0), some (.int i1), none, none] [] w r := by
  refine g_iloadn (pc' := 419) d_188_418 rfl rfl ?_
  refine g_bipush (pc' := 421) d_188_419 rfl cb_38 ?_
  refine g_ic_gt (pc' := 424) (pt := 466) d_188_421 (by decide) rfl (fun c => ?_) (fun c => ?_)
  · replace h := h.1 c
    exact g_vret d_188_466 rt_188 h
  · replace h := h.2 c
    refine g_aloadn (pc' := 425) d_188_424 rfl rfl ?_
    refine g_aloadn (pc' := 426) d_188_425 rfl rfl ?_
    obtain ⟨fs1, hw2, h⟩ := h
    obtain ⟨b3, hv4, h⟩ := h
    refine g_getf (pc' := 429) d_188_426 rfl st_188_7 hw2 hv4 ?_
    refine g_iloadn (pc' := 430) d_188_429 rfl rfl ?_
    refine g_iconst (pc' := 431) d_188_430 rfl ci_1 ?_
    refine g_iadd (pc' := 432) d_188_431 rfl ?_
    refine g_iloadn (pc' := 433) d_188_432 rfl rfl ?_
    refine g_iconst (pc' := 434) d_188_433 rfl ci_1 ?_
    refine g_isub (pc' := 435) d_188_434 rfl ?_
    obtain ⟨w5, hk6, h⟩ := h
    refine g_callV (pc' := 438) d_188_435 rfl st_188_103 na_190 ml_190 rfl rfl rfl rm_188_190 rfl rfl ow_190 hw2 hk6 ?_
    refine g_aloadn (pc' := 439) d_188_438 rfl rfl ?_
    refine g_aloadn (pc' := 440) d_188_439 rfl rfl ?_
    obtain ⟨fs7, hw8, h⟩ := h
    obtain ⟨b9, hv10, h⟩ := h
    refine g_getf (pc' := 443) d_188_440 rfl st_188_7 hw8 hv10 ?_
    refine g_iloadn (pc' := 444) d_188_443 rfl rfl ?_
    refine g_aloadn (pc' := 445) d_188_444 rfl rfl ?_
    obtain ⟨x11, hv12, h⟩ := h
    refine g_getf (pc' := 448) d_188_445 rfl st_188_107 hw8 hv12 ?_
    refine g_lneg (pc' := 449) d_188_448 rfl ?_
    refine g_aloadn (pc' := 450) d_188_449 rfl rfl ?_
    obtain ⟨x13, hv14, h⟩ := h
    refine g_getf (pc' := 453) d_188_450 rfl st_188_111 hw8 hv14 ?_
    refine g_lneg (pc' := 454) d_188_453 rfl ?_
    refine g_iloadn (pc' := 455) d_188_454 rfl rfl ?_
    refine g_iconst (pc' := 456) d_188_455 rfl ci_1 ?_
    refine g_iadd (pc' := 457) d_188_456 rfl ?_
    obtain ⟨w15, hk16, h⟩ := h
    refine g_callV (pc' := 460) d_188_457 rfl st_188_114 na_192 ml_192 rfl rfl rfl rm_188_192 rfl rfl ow_192 hw8 hk16 ?_
    have h := h _ rfl
    refine g_iinc (pc' := 463) (l' := [some (.ref a0), some (.int (i1 + (1 : Int32))), none, none]) d_188_460 rfl rfl ci_1 ml_188 rfl rfl ?_
    refine g_goto (pt := 418) d_188_463 (by decide) ?_
    exact h
-- 189 BernoulliWaysModel.lays([JIJJJ)V
theorem S_189_0 {a0 : Nat} {i1 : Int32} {l2 : Int64} {l4 : Int64} {l6 : Int64} {w : xW} {r : Option Value × xW} (h : ∃ n1 f2, w[a0]? = some (.inl (.inr (n1, f2))) ∧ (¬ (((3 : Int32) * i1) < 0 ∨ n1 ≤ ((3 : Int32) * i1).toNatClampNeg)) ∧ ∀ w5, w5 = w.set a0 (.inl (.inr (n1, (vp_updL f2 ((3 : Int32) * i1).toNatClampNeg l2)))) → (¬ ((((3 : Int32) * i1) + (1 : Int32)) < 0 ∨ n1 ≤ (((3 : Int32) * i1) + (1 : Int32)).toNatClampNeg)) ∧ ∀ w7, w7 = w5.set a0 (.inl (.inr (n1, (vp_updL (vp_updL f2 ((3 : Int32) * i1).toNatClampNeg l2) (((3 : Int32) * i1) + (1 : Int32)).toNatClampNeg l4)))) → (¬ ((((3 : Int32) * i1) + (2 : Int32)) < 0 ∨ n1 ≤ (((3 : Int32) * i1) + (2 : Int32)).toNatClampNeg)) ∧ ∀ w9, w9 = w7.set a0 (.inl (.inr (n1, (vp_updL (vp_updL (vp_updL f2 ((3 : Int32) * i1).toNatClampNeg l2) (((3 : Int32) * i1) + (1 : Int32)).toNatClampNeg l4) (((3 : Int32) * i1) + (2 : Int32)).toNatClampNeg l6)))) → r = (none, w9)) : xGo 189 0 [some (.ref a0), some (.int i1), some (.long l2), none, some (.long l4), none, some (.long l6), none] [] w r := by
  refine g_aloadn (pc' := 1) d_189_0 rfl rfl ?_
  refine g_iconst (pc' := 2) d_189_1 rfl ci_3 ?_
  refine g_iloadn (pc' := 3) d_189_2 rfl rfl ?_
  refine g_imul (pc' := 4) d_189_3 rfl ?_
  refine g_lloadn (pc' := 5) d_189_4 rfl rfl ?_
  obtain ⟨n1, f2, hw3, h⟩ := h
  obtain ⟨hc4, h⟩ := h
  have h := h _ rfl
  refine g_last (pc' := 6) d_189_5 rfl hw3 hc4 ?_
  refine g_aloadn (pc' := 7) d_189_6 rfl rfl ?_
  refine g_iconst (pc' := 8) d_189_7 rfl ci_3 ?_
  refine g_iloadn (pc' := 9) d_189_8 rfl rfl ?_
  refine g_imul (pc' := 10) d_189_9 rfl ?_
  refine g_iconst (pc' := 11) d_189_10 rfl ci_1 ?_
  refine g_iadd (pc' := 12) d_189_11 rfl ?_
  refine g_lload (pc' := 14) d_189_12 rfl rfl ?_
  obtain ⟨hc6, h⟩ := h
  have h := h _ rfl
  refine g_last (pc' := 15) d_189_14 rfl (x_gss hw3) hc6 ?_
  refine g_aloadn (pc' := 16) d_189_15 rfl rfl ?_
  refine g_iconst (pc' := 17) d_189_16 rfl ci_3 ?_
  refine g_iloadn (pc' := 18) d_189_17 rfl rfl ?_
  refine g_imul (pc' := 19) d_189_18 rfl ?_
  refine g_iconst (pc' := 20) d_189_19 rfl ci_2 ?_
  refine g_iadd (pc' := 21) d_189_20 rfl ?_
  refine g_lload (pc' := 23) d_189_21 rfl rfl ?_
  obtain ⟨hc8, h⟩ := h
  have h := h _ rfl
  refine g_last (pc' := 24) d_189_23 rfl (x_gss (x_gss hw3)) hc8 ?_
  exact g_vret d_189_24 rt_189 h
-- 190 BernoulliWaysModel.addsUp([JII)V
theorem S_190_0 {a0 : Nat} {a1 : Nat} {i2 : Int32} {i3 : Int32} {w : xW} {r : Option Value × xW} (h : ∃ fs1, w[a0]? = some (.inr (12, fs1)) ∧ (8 < fs1.length) ∧ ∀ w4, w4 = w.set a0 (.inr (12, fs1.set 8 (.long (0 : Int64)))) → (9 < (fs1.set 8 (.long (0 : Int64))).length) ∧ ∀ w6, w6 = w4.set a0 (.inr (12, (fs1.set 8 (.long (0 : Int64))).set 9 (.long (0 : Int64)))) → xGo 190 13 [some (.ref a0), some (.ref a1), some (.int i2), some (.int i3), some (.int (0 : Int32))] [] w6 r) : xGo 190 0 [some (.ref a0), some (.ref a1), some (.int i2), some (.int i3), none] [] w r := by
  refine g_aloadn (pc' := 1) d_190_0 rfl rfl ?_
  refine g_lconst (pc' := 2) d_190_1 rfl cl_0 ?_
  obtain ⟨fs1, hw2, h⟩ := h
  obtain ⟨hc3, h⟩ := h
  have h := h _ rfl
  refine g_putf (pc' := 5) d_190_2 rfl st_190_107 ft_12_8 ff_12_8 rfl (Or.inl rfl) hw2 hc3 ?_
  refine g_aloadn (pc' := 6) d_190_5 rfl rfl ?_
  refine g_lconst (pc' := 7) d_190_6 rfl cl_0 ?_
  obtain ⟨hc5, h⟩ := h
  have h := h _ rfl
  refine g_putf (pc' := 10) d_190_7 rfl st_190_111 ft_12_9 ff_12_9 rfl (Or.inl rfl) (x_gss hw2) hc5 ?_
  refine g_iconst (pc' := 11) d_190_10 rfl ci_0 ?_
  refine g_istore (pc' := 13) (l' := [some (.ref a0), some (.ref a1), some (.int i2), some (.int i3), some (.int (0 : Int32))]) d_190_11 rfl ml_190 rfl rfl ?_
  exact h
theorem S_190_13 {a0 : Nat} {a1 : Nat} {i2 : Int32} {i3 : Int32} {i4 : Int32} {w : xW} {r : Option Value × xW} (h : (i3 < i4 → ∃ fs1, w[a0]? = some (.inr (12, fs1)) ∧ ∃ x3, fs1[8]? = some (.long x3) ∧ ∃ x5, fs1[9]? = some (.long x5) ∧ ∀ v7 : Int64, v7 = (x3 + (x5 / (7420738134810 : Int64))) → (8 < fs1.length) ∧ ∀ w9, w9 = w.set a0 (.inr (12, fs1.set 8 (.long v7))) → ∃ x10, (fs1.set 8 (.long v7))[9]? = some (.long x10) ∧ ∀ v12 : Int64, v12 = (lrem x10 (7420738134810 : Int64)) → (9 < (fs1.set 8 (.long v7)).length) ∧ ∀ w14, w14 = w9.set a0 (.inr (12, (fs1.set 8 (.long v7)).set 9 (.long v12))) → r = (none, w14)) ∧ (¬ (i3 < i4) → ∃ fs15, w[a0]? = some (.inr (12, fs15)) ∧ ∃ b17, fs15[5]? = some (.ref b17) ∧ ∃ n19 f20, w[b17]? = some (.inl (.inr (n19, f20))) ∧ (¬ ((((40 : Int32) * i2) + i4) < 0 ∨ n19 ≤ (((40 : Int32) * i2) + i4).toNatClampNeg)) ∧ ∃ w23, xCall 191 [.ref a0, .ref a1, .long (f20 (((40 : Int32) * i2) + i4).toNatClampNeg), .int i4] w (none, w23) ∧ ∀ v25 : Int32, v25 = i4 + (1 : Int32) → xGo 190 13 [some (.ref a0), some (.ref a1), some (.int i2), some (.int i3), some (.int v25)] [] w23 r)) : xGo 190 13 [some (.ref a0), some (.ref a1), some (.int i2), some (.int i3), some (.int i4)] [] w r := by
  refine g_iload (pc' := 15) d_190_13 rfl rfl ?_
  refine g_iloadn (pc' := 16) d_190_15 rfl rfl ?_
  refine g_ic_gt (pc' := 19) (pt := 44) d_190_16 (by decide) rfl (fun c => ?_) (fun c => ?_)
  · replace h := h.1 c
    refine g_aloadn (pc' := 45) d_190_44 rfl rfl ?_
    refine g_dup (pc' := 46) d_190_45 rfl rfl ?_
    obtain ⟨fs1, hw2, h⟩ := h
    obtain ⟨x3, hv4, h⟩ := h
    refine g_getf (pc' := 49) d_190_46 rfl st_190_107 hw2 hv4 ?_
    refine g_aloadn (pc' := 50) d_190_49 rfl rfl ?_
    obtain ⟨x5, hv6, h⟩ := h
    refine g_getf (pc' := 53) d_190_50 rfl st_190_111 hw2 hv6 ?_
    refine g_ldc2 (pc' := 56) d_190_53 rfl st_190_125 cL_7420738134810 ?_
    refine g_ldiv (pc' := 57) d_190_56 rfl (by decide) ?_
    refine g_ladd (pc' := 58) d_190_57 rfl ?_
    have h := h _ rfl
    obtain ⟨hc8, h⟩ := h
    have h := h _ rfl
    refine g_putf (pc' := 61) d_190_58 rfl st_190_107 ft_12_8 ff_12_8 rfl (Or.inl rfl) hw2 hc8 ?_
    refine g_aloadn (pc' := 62) d_190_61 rfl rfl ?_
    refine g_aloadn (pc' := 63) d_190_62 rfl rfl ?_
    obtain ⟨x10, hv11, h⟩ := h
    refine g_getf (pc' := 66) d_190_63 rfl st_190_111 (x_gss hw2) hv11 ?_
    refine g_ldc2 (pc' := 69) d_190_66 rfl st_190_125 cL_7420738134810 ?_
    refine g_lrem (pc' := 70) d_190_69 rfl (by decide) ?_
    have h := h _ rfl
    obtain ⟨hc13, h⟩ := h
    have h := h _ rfl
    refine g_putf (pc' := 73) d_190_70 rfl st_190_111 ft_12_9 ff_12_9 rfl (Or.inl rfl) (x_gss hw2) hc13 ?_
    exact g_vret d_190_73 rt_190 h
  · replace h := h.2 c
    refine g_aloadn (pc' := 20) d_190_19 rfl rfl ?_
    refine g_aloadn (pc' := 21) d_190_20 rfl rfl ?_
    refine g_aloadn (pc' := 22) d_190_21 rfl rfl ?_
    obtain ⟨fs15, hw16, h⟩ := h
    obtain ⟨b17, hv18, h⟩ := h
    refine g_getf (pc' := 25) d_190_22 rfl st_190_24 hw16 hv18 ?_
    refine g_bipush (pc' := 27) d_190_25 rfl cb_40 ?_
    refine g_iloadn (pc' := 28) d_190_27 rfl rfl ?_
    refine g_imul (pc' := 29) d_190_28 rfl ?_
    refine g_iload (pc' := 31) d_190_29 rfl rfl ?_
    refine g_iadd (pc' := 32) d_190_31 rfl ?_
    obtain ⟨n19, f20, hw21, h⟩ := h
    obtain ⟨hc22, h⟩ := h
    refine g_lald (pc' := 33) d_190_32 rfl hw21 hc22 ?_
    refine g_iload (pc' := 35) d_190_33 rfl rfl ?_
    obtain ⟨w23, hk24, h⟩ := h
    refine g_callV (pc' := 38) d_190_35 rfl st_190_127 na_191 ml_191 rfl rfl rfl rm_190_191 rfl rfl ow_191 hw16 hk24 ?_
    have h := h _ rfl
    refine g_iinc (pc' := 41) (l' := [some (.ref a0), some (.ref a1), some (.int i2), some (.int i3), some (.int (i4 + (1 : Int32)))]) d_190_38 rfl rfl ci_1 ml_190 rfl rfl ?_
    refine g_goto (pt := 13) d_190_41 (by decide) ?_
    exact h
-- 191 BernoulliWaysModel.addsOne([JJI)V
theorem S_191_0 {a0 : Nat} {a1 : Nat} {l2 : Int64} {i4 : Int32} {w : xW} {r : Option Value × xW} (h : ∃ n1 f2, w[a1]? = some (.inl (.inr (n1, f2))) ∧ (¬ ((((3 : Int32) * i4) + (1 : Int32)) < 0 ∨ n1 ≤ (((3 : Int32) * i4) + (1 : Int32)).toNatClampNeg)) ∧ ∀ v5 : Int64, v5 = (l2 * (f2 (((3 : Int32) * i4) + (1 : Int32)).toNatClampNeg)) → ∃ fs6, w[a0]? = some (.inr (12, fs6)) ∧ ∃ x8, fs6[8]? = some (.long x8) ∧ (¬ (((3 : Int32) * i4) < 0 ∨ n1 ≤ ((3 : Int32) * i4).toNatClampNeg)) ∧ (¬ ((((3 : Int32) * i4) + (2 : Int32)) < 0 ∨ n1 ≤ (((3 : Int32) * i4) + (2 : Int32)).toNatClampNeg)) ∧ (¬ (f2 (((3 : Int32) * i4) + (2 : Int32)).toNatClampNeg) = 0) ∧ ∀ v13 : Int64, v13 = (x8 + ((l2 * (f2 ((3 : Int32) * i4).toNatClampNeg)) + (v5 / (f2 (((3 : Int32) * i4) + (2 : Int32)).toNatClampNeg)))) → (8 < fs6.length) ∧ ∀ w15, w15 = w.set a0 (.inr (12, fs6.set 8 (.long v13))) → ∃ x16, (fs6.set 8 (.long v13))[9]? = some (.long x16) ∧ ∃ n18 f19, w15[a1]? = some (.inl (.inr (n18, f19))) ∧ (¬ ((((3 : Int32) * i4) + (2 : Int32)) < 0 ∨ n18 ≤ (((3 : Int32) * i4) + (2 : Int32)).toNatClampNeg)) ∧ (¬ (f19 (((3 : Int32) * i4) + (2 : Int32)).toNatClampNeg) = 0) ∧ (¬ ((((3 : Int32) * i4) + (2 : Int32)) < 0 ∨ n18 ≤ (((3 : Int32) * i4) + (2 : Int32)).toNatClampNeg)) ∧ (¬ (f19 (((3 : Int32) * i4) + (2 : Int32)).toNatClampNeg) = 0) ∧ ∀ v25 : Int64, v25 = (x16 + ((lrem v5 (f19 (((3 : Int32) * i4) + (2 : Int32)).toNatClampNeg)) * ((7420738134810 : Int64) / (f19 (((3 : Int32) * i4) + (2 : Int32)).toNatClampNeg)))) → (9 < (fs6.set 8 (.long v13)).length) ∧ ∀ w27, w27 = w15.set a0 (.inr (12, (fs6.set 8 (.long v13)).set 9 (.long v25))) → r = (none, w27)) : xGo 191 0 [some (.ref a0), some (.ref a1), some (.long l2), none, some (.int i4), none, none] [] w r := by
  refine g_lloadn (pc' := 1) d_191_0 rfl rfl ?_
  refine g_aloadn (pc' := 2) d_191_1 rfl rfl ?_
  refine g_iconst (pc' := 3) d_191_2 rfl ci_3 ?_
  refine g_iload (pc' := 5) d_191_3 rfl rfl ?_
  refine g_imul (pc' := 6) d_191_5 rfl ?_
  refine g_iconst (pc' := 7) d_191_6 rfl ci_1 ?_
  refine g_iadd (pc' := 8) d_191_7 rfl ?_
  obtain ⟨n1, f2, hw3, h⟩ := h
  obtain ⟨hc4, h⟩ := h
  refine g_lald (pc' := 9) d_191_8 rfl hw3 hc4 ?_
  refine g_lmul (pc' := 10) d_191_9 rfl ?_
  have h := h _ rfl
  refine g_lstore (pc' := 12) (l' := [some (.ref a0), some (.ref a1), some (.long l2), none, some (.int i4), some (.long ((l2 * (f2 (((3 : Int32) * i4) + (1 : Int32)).toNatClampNeg)))), none]) d_191_10 rfl ml_191 rfl rfl ?_
  refine g_aloadn (pc' := 13) d_191_12 rfl rfl ?_
  refine g_dup (pc' := 14) d_191_13 rfl rfl ?_
  obtain ⟨fs6, hw7, h⟩ := h
  obtain ⟨x8, hv9, h⟩ := h
  refine g_getf (pc' := 17) d_191_14 rfl st_191_107 hw7 hv9 ?_
  refine g_lloadn (pc' := 18) d_191_17 rfl rfl ?_
  refine g_aloadn (pc' := 19) d_191_18 rfl rfl ?_
  refine g_iconst (pc' := 20) d_191_19 rfl ci_3 ?_
  refine g_iload (pc' := 22) d_191_20 rfl rfl ?_
  refine g_imul (pc' := 23) d_191_22 rfl ?_
  obtain ⟨hc10, h⟩ := h
  refine g_lald (pc' := 24) d_191_23 rfl hw3 hc10 ?_
  refine g_lmul (pc' := 25) d_191_24 rfl ?_
  refine g_lload (pc' := 27) d_191_25 rfl rfl ?_
  refine g_aloadn (pc' := 28) d_191_27 rfl rfl ?_
  refine g_iconst (pc' := 29) d_191_28 rfl ci_3 ?_
  refine g_iload (pc' := 31) d_191_29 rfl rfl ?_
  refine g_imul (pc' := 32) d_191_31 rfl ?_
  refine g_iconst (pc' := 33) d_191_32 rfl ci_2 ?_
  refine g_iadd (pc' := 34) d_191_33 rfl ?_
  obtain ⟨hc11, h⟩ := h
  refine g_lald (pc' := 35) d_191_34 rfl hw3 hc11 ?_
  obtain ⟨hc12, h⟩ := h
  refine g_ldiv (pc' := 36) d_191_35 rfl hc12 ?_
  refine g_ladd (pc' := 37) d_191_36 rfl ?_
  refine g_ladd (pc' := 38) d_191_37 rfl ?_
  have h := h _ rfl
  obtain ⟨hc14, h⟩ := h
  have h := h _ rfl
  refine g_putf (pc' := 41) d_191_38 rfl st_191_107 ft_12_8 ff_12_8 rfl (Or.inl rfl) hw7 hc14 ?_
  refine g_aloadn (pc' := 42) d_191_41 rfl rfl ?_
  refine g_dup (pc' := 43) d_191_42 rfl rfl ?_
  obtain ⟨x16, hv17, h⟩ := h
  refine g_getf (pc' := 46) d_191_43 rfl st_191_111 (x_gss hw7) hv17 ?_
  refine g_lload (pc' := 48) d_191_46 rfl rfl ?_
  refine g_aloadn (pc' := 49) d_191_48 rfl rfl ?_
  refine g_iconst (pc' := 50) d_191_49 rfl ci_3 ?_
  refine g_iload (pc' := 52) d_191_50 rfl rfl ?_
  refine g_imul (pc' := 53) d_191_52 rfl ?_
  refine g_iconst (pc' := 54) d_191_53 rfl ci_2 ?_
  refine g_iadd (pc' := 55) d_191_54 rfl ?_
  obtain ⟨n18, f19, hw20, h⟩ := h
  obtain ⟨hc21, h⟩ := h
  refine g_lald (pc' := 56) d_191_55 rfl hw20 hc21 ?_
  obtain ⟨hc22, h⟩ := h
  refine g_lrem (pc' := 57) d_191_56 rfl hc22 ?_
  refine g_ldc2 (pc' := 60) d_191_57 rfl st_191_125 cL_7420738134810 ?_
  refine g_aloadn (pc' := 61) d_191_60 rfl rfl ?_
  refine g_iconst (pc' := 62) d_191_61 rfl ci_3 ?_
  refine g_iload (pc' := 64) d_191_62 rfl rfl ?_
  refine g_imul (pc' := 65) d_191_64 rfl ?_
  refine g_iconst (pc' := 66) d_191_65 rfl ci_2 ?_
  refine g_iadd (pc' := 67) d_191_66 rfl ?_
  obtain ⟨hc23, h⟩ := h
  refine g_lald (pc' := 68) d_191_67 rfl hw20 hc23 ?_
  obtain ⟨hc24, h⟩ := h
  refine g_ldiv (pc' := 69) d_191_68 rfl hc24 ?_
  refine g_lmul (pc' := 70) d_191_69 rfl ?_
  refine g_ladd (pc' := 71) d_191_70 rfl ?_
  have h := h _ rfl
  obtain ⟨hc26, h⟩ := h
  have h := h _ rfl
  refine g_putf (pc' := 74) d_191_71 rfl st_191_111 ft_12_9 ff_12_9 rfl (Or.inl rfl) (x_gss hw7) hc26 ?_
  exact g_vret d_191_74 rt_191 h
-- 192 BernoulliWaysModel.quotes([JIJJI)V
theorem S_192_0 {a0 : Nat} {a1 : Nat} {i2 : Int32} {l3 : Int64} {l5 : Int64} {i7 : Int32} {w : xW} {r : Option Value × xW} (h : ∃ r3 w1, xCall 193 [.long l5, .long (7420738134810 : Int64)] w (some (.long r3), w1) ∧ ∀ v4 : Int64, v4 = (l3 + r3) → ∃ r7 w5, xCall 193 [.long l5, .long (7420738134810 : Int64)] w1 (some (.long r7), w5) ∧ ∀ v8 : Int64, v8 = (l5 - (r7 * (7420738134810 : Int64))) → ∃ r11 w9, xCall 193 [.long v4, .long (i7.toInt64)] w5 (some (.long r11), w9) ∧ ∃ fs12, w9[a0]? = some (.inr (12, fs12)) ∧ ∃ w14, xCall 194 [.ref a0, .ref a1, .int i2, .long r11, .long (((v4 - (r11 * (i7.toInt64))) * (7420738134810 : Int64)) + v8), .long ((7420738134810 : Int64) * (i7.toInt64))] w9 (none, w14) ∧ r = (none, w14)) : xGo 192 0 [some (.ref a0), some (.ref a1), some (.int i2), some (.long l3), none, some (.long l5), none, some (.int i7), none, none, none, none, none, none] [] w r := by
  refine g_lloadn (pc' := 1) d_192_0 rfl rfl ?_
  refine g_lload (pc' := 3) d_192_1 rfl rfl ?_
  refine g_ldc2 (pc' := 6) d_192_3 rfl st_192_125 cL_7420738134810 ?_
  obtain ⟨r3, w1, hk2, h⟩ := h
  refine g_callS (pc' := 9) d_192_6 rfl st_192_131 (Or.inl rfl) na_193 ml_193 rfl rfl rfl rm_192_193 rfl rfl hk2 ?_
  refine g_ladd (pc' := 10) d_192_9 rfl ?_
  have h := h _ rfl
  refine g_lstore (pc' := 12) (l' := [some (.ref a0), some (.ref a1), some (.int i2), some (.long l3), none, some (.long l5), none, some (.int i7), some (.long ((l3 + r3))), none, none, none, none, none]) d_192_10 rfl ml_192 rfl rfl ?_
  refine g_lload (pc' := 14) d_192_12 rfl rfl ?_
  refine g_lload (pc' := 16) d_192_14 rfl rfl ?_
  refine g_ldc2 (pc' := 19) d_192_16 rfl st_192_125 cL_7420738134810 ?_
  obtain ⟨r7, w5, hk6, h⟩ := h
  refine g_callS (pc' := 22) d_192_19 rfl st_192_131 (Or.inl rfl) na_193 ml_193 rfl rfl rfl rm_192_193 rfl rfl hk6 ?_
  refine g_ldc2 (pc' := 25) d_192_22 rfl st_192_125 cL_7420738134810 ?_
  refine g_lmul (pc' := 26) d_192_25 rfl ?_
  refine g_lsub (pc' := 27) d_192_26 rfl ?_
  have h := h _ rfl
  refine g_lstore (pc' := 29) (l' := [some (.ref a0), some (.ref a1), some (.int i2), some (.long l3), none, some (.long l5), none, some (.int i7), some (.long ((l3 + r3))), none, some (.long ((l5 - (r7 * (7420738134810 : Int64))))), none, none, none]) d_192_27 rfl ml_192 rfl rfl ?_
  refine g_lload (pc' := 31) d_192_29 rfl rfl ?_
  refine g_iload (pc' := 33) d_192_31 rfl rfl ?_
  refine g_i2l (pc' := 34) d_192_33 rfl ?_
  obtain ⟨r11, w9, hk10, h⟩ := h
  refine g_callS (pc' := 37) d_192_34 rfl st_192_131 (Or.inl rfl) na_193 ml_193 rfl rfl rfl rm_192_193 rfl rfl hk10 ?_
  refine g_lstore (pc' := 39) (l' := [some (.ref a0), some (.ref a1), some (.int i2), some (.long l3), none, some (.long l5), none, some (.int i7), some (.long ((l3 + r3))), none, some (.long ((l5 - (r7 * (7420738134810 : Int64))))), none, some (.long r11), none]) d_192_37 rfl ml_192 rfl rfl ?_
  refine g_aloadn (pc' := 40) d_192_39 rfl rfl ?_
  refine g_aloadn (pc' := 41) d_192_40 rfl rfl ?_
  refine g_iloadn (pc' := 42) d_192_41 rfl rfl ?_
  refine g_lload (pc' := 44) d_192_42 rfl rfl ?_
  refine g_lload (pc' := 46) d_192_44 rfl rfl ?_
  refine g_lload (pc' := 48) d_192_46 rfl rfl ?_
  refine g_iload (pc' := 50) d_192_48 rfl rfl ?_
  refine g_i2l (pc' := 51) d_192_50 rfl ?_
  refine g_lmul (pc' := 52) d_192_51 rfl ?_
  refine g_lsub (pc' := 53) d_192_52 rfl ?_
  refine g_ldc2 (pc' := 56) d_192_53 rfl st_192_125 cL_7420738134810 ?_
  refine g_lmul (pc' := 57) d_192_56 rfl ?_
  refine g_lload (pc' := 59) d_192_57 rfl rfl ?_
  refine g_ladd (pc' := 60) d_192_59 rfl ?_
  refine g_ldc2 (pc' := 63) d_192_60 rfl st_192_125 cL_7420738134810 ?_
  refine g_iload (pc' := 65) d_192_63 rfl rfl ?_
  refine g_i2l (pc' := 66) d_192_65 rfl ?_
  refine g_lmul (pc' := 67) d_192_66 rfl ?_
  obtain ⟨fs12, hw13, h⟩ := h
  obtain ⟨w14, hk15, h⟩ := h
  refine g_callV (pc' := 70) d_192_67 rfl st_192_134 na_194 ml_194 rfl rfl rfl rm_192_194 rfl rfl ow_194 hw13 hk15 ?_
  exact g_vret d_192_70 rt_192 h
-- 193 BernoulliWaysModel.downBy(JJ)J
theorem S_193_0 {l0 : Int64} {l2 : Int64} {w : xW} {r : Option Value × xW} (h : (¬ l2 = 0) ∧ ∀ v2 : Int64, v2 = (l0 / l2) → ((v2 * l2) ≤ l0 → r = (some (.long v2), w)) ∧ (¬ ((v2 * l2) ≤ l0) → r = (some (.long (v2 - (1 : Int64))), w))) : xGo 193 0 [some (.long l0), none, some (.long l2), none, none, none] [] w r := by
  refine g_lloadn (pc' := 1) d_193_0 rfl rfl ?_
  refine g_lloadn (pc' := 2) d_193_1 rfl rfl ?_
  obtain ⟨hc1, h⟩ := h
  refine g_ldiv (pc' := 3) d_193_2 rfl hc1 ?_
  have h := h _ rfl
  refine g_lstore (pc' := 5) (l' := [some (.long l0), none, some (.long l2), none, some (.long ((l0 / l2))), none]) d_193_3 rfl ml_193 rfl rfl ?_
  refine g_lload (pc' := 7) d_193_5 rfl rfl ?_
  refine g_lloadn (pc' := 8) d_193_7 rfl rfl ?_
  refine g_lmul (pc' := 9) d_193_8 rfl ?_
  refine g_lloadn (pc' := 10) d_193_9 rfl rfl ?_
  refine g_lc_le (pc' := 14) (pm := 11) (pt := 21) d_193_10 rfl d_193_11 (by decide) rfl (fun c => ?_) (fun c => ?_)
  · replace h := h.1 c
    refine g_lload (pc' := 23) d_193_21 rfl rfl ?_
    exact g_lret d_193_23 rt_193 h
  · replace h := h.2 c
    refine g_lload (pc' := 16) d_193_14 rfl rfl ?_
    refine g_lconst (pc' := 17) d_193_16 rfl cl_1 ?_
    refine g_lsub (pc' := 18) d_193_17 rfl ?_
    refine g_goto (pt := 23) d_193_18 (by decide) ?_
    exact g_lret d_193_23 rt_193 h
-- 194 BernoulliWaysModel.laysProper([JIJJJ)V
theorem S_194_0 {a0 : Nat} {a1 : Nat} {i2 : Int32} {l3 : Int64} {l5 : Int64} {l7 : Int64} {w : xW} {r : Option Value × xW} (h : ∃ r3 w1, xCall 195 [.long l5, .long l7] w (some (.long r3), w1) ∧ (¬ r3 = 0) ∧ (¬ r3 = 0) ∧ ∃ w6, xCall 189 [.ref a1, .int i2, .long l3, .long (l5 / r3), .long (l7 / r3)] w1 (none, w6) ∧ r = (none, w6)) : xGo 194 0 [some (.ref a0), some (.ref a1), some (.int i2), some (.long l3), none, some (.long l5), none, some (.long l7), none, none, none] [] w r := by
  refine g_lload (pc' := 2) d_194_0 rfl rfl ?_
  refine g_lload (pc' := 4) d_194_2 rfl rfl ?_
  obtain ⟨r3, w1, hk2, h⟩ := h
  refine g_callS (pc' := 7) d_194_4 rfl st_194_121 (Or.inl rfl) na_195 ml_195 rfl rfl rfl rm_194_195 rfl rfl hk2 ?_
  refine g_lstore (pc' := 9) (l' := [some (.ref a0), some (.ref a1), some (.int i2), some (.long l3), none, some (.long l5), none, some (.long l7), none, some (.long r3), none]) d_194_7 rfl ml_194 rfl rfl ?_
  refine g_aloadn (pc' := 10) d_194_9 rfl rfl ?_
  refine g_iloadn (pc' := 11) d_194_10 rfl rfl ?_
  refine g_lloadn (pc' := 12) d_194_11 rfl rfl ?_
  refine g_lload (pc' := 14) d_194_12 rfl rfl ?_
  refine g_lload (pc' := 16) d_194_14 rfl rfl ?_
  obtain ⟨hc4, h⟩ := h
  refine g_ldiv (pc' := 17) d_194_16 rfl hc4 ?_
  refine g_lload (pc' := 19) d_194_17 rfl rfl ?_
  refine g_lload (pc' := 21) d_194_19 rfl rfl ?_
  obtain ⟨hc5, h⟩ := h
  refine g_ldiv (pc' := 22) d_194_21 rfl hc5 ?_
  obtain ⟨w6, hk7, h⟩ := h
  refine g_callS (pc' := 25) d_194_22 rfl st_194_99 (Or.inl rfl) na_189 ml_189 rfl rfl rfl rm_194_189 rfl rfl hk7 ?_
  exact g_vret d_194_25 rt_194 h
-- 195 BernoulliWaysModel.common(JJ)J
theorem S_195_0 {l0 : Int64} {l2 : Int64} {w : xW} {r : Option Value × xW} (h : ((0 : Int64) ≤ l0 → ((0 : Int64) ≤ l2 → xGo 195 28 [some (.long l0), none, some (.long l2), none, some (.long l0), none, some (.long l2), none, none, none] [] w r) ∧ (¬ ((0 : Int64) ≤ l2) → ∀ v1 : Int64, v1 = (-l2) → xGo 195 28 [some (.long l0), none, some (.long l2), none, some (.long l0), none, some (.long v1), none, none, none] [] w r)) ∧ (¬ ((0 : Int64) ≤ l0) → ∀ v2 : Int64, v2 = (-l0) → ((0 : Int64) ≤ l2 → xGo 195 28 [some (.long l0), none, some (.long l2), none, some (.long v2), none, some (.long l2), none, none, none] [] w r) ∧ (¬ ((0 : Int64) ≤ l2) → ∀ v3 : Int64, v3 = (-l2) → xGo 195 28 [some (.long l0), none, some (.long l2), none, some (.long v2), none, some (.long v3), none, none, none] [] w r))) : xGo 195 0 [some (.long l0), none, some (.long l2), none, none, none, none, none, none, none] [] w r := by
  refine g_lloadn (pc' := 1) d_195_0 rfl rfl ?_
  refine g_lconst (pc' := 2) d_195_1 rfl cl_0 ?_
  refine g_lc_ge (pc' := 6) (pm := 3) (pt := 11) d_195_2 rfl d_195_3 (by decide) rfl (fun c => ?_) (fun c => ?_)
  · replace h := h.1 c
    refine g_lloadn (pc' := 12) d_195_11 rfl rfl ?_
    refine g_lstore (pc' := 14) (l' := [some (.long l0), none, some (.long l2), none, some (.long l0), none, none, none, none, none]) d_195_12 rfl ml_195 rfl rfl ?_
    refine g_lloadn (pc' := 15) d_195_14 rfl rfl ?_
    refine g_lconst (pc' := 16) d_195_15 rfl cl_0 ?_
    refine g_lc_ge (pc' := 20) (pm := 17) (pt := 25) d_195_16 rfl d_195_17 (by decide) rfl (fun c => ?_) (fun c => ?_)
    · replace h := h.1 c
      refine g_lloadn (pc' := 26) d_195_25 rfl rfl ?_
      refine g_lstore (pc' := 28) (l' := [some (.long l0), none, some (.long l2), none, some (.long l0), none, some (.long l2), none, none, none]) d_195_26 rfl ml_195 rfl rfl ?_
      exact h
    · replace h := h.2 c
      refine g_lloadn (pc' := 21) d_195_20 rfl rfl ?_
      refine g_lneg (pc' := 22) d_195_21 rfl ?_
      refine g_goto (pt := 26) d_195_22 (by decide) ?_
      have h := h _ rfl
      refine g_lstore (pc' := 28) (l' := [some (.long l0), none, some (.long l2), none, some (.long l0), none, some (.long ((-l2))), none, none, none]) d_195_26 rfl ml_195 rfl rfl ?_
      exact h
  · replace h := h.2 c
    refine g_lloadn (pc' := 7) d_195_6 rfl rfl ?_
    refine g_lneg (pc' := 8) d_195_7 rfl ?_
    refine g_goto (pt := 12) d_195_8 (by decide) ?_
    have h := h _ rfl
    refine g_lstore (pc' := 14) (l' := [some (.long l0), none, some (.long l2), none, some (.long ((-l0))), none, none, none, none, none]) d_195_12 rfl ml_195 rfl rfl ?_
    refine g_lloadn (pc' := 15) d_195_14 rfl rfl ?_
    refine g_lconst (pc' := 16) d_195_15 rfl cl_0 ?_
    refine g_lc_ge (pc' := 20) (pm := 17) (pt := 25) d_195_16 rfl d_195_17 (by decide) rfl (fun c => ?_) (fun c => ?_)
    · replace h := h.1 c
      refine g_lloadn (pc' := 26) d_195_25 rfl rfl ?_
      refine g_lstore (pc' := 28) (l' := [some (.long l0), none, some (.long l2), none, some (.long ((-l0))), none, some (.long l2), none, none, none]) d_195_26 rfl ml_195 rfl rfl ?_
      exact h
    · replace h := h.2 c
      refine g_lloadn (pc' := 21) d_195_20 rfl rfl ?_
      refine g_lneg (pc' := 22) d_195_21 rfl ?_
      refine g_goto (pt := 26) d_195_22 (by decide) ?_
      have h := h _ rfl
      refine g_lstore (pc' := 28) (l' := [some (.long l0), none, some (.long l2), none, some (.long ((-l0))), none, some (.long ((-l2))), none, none, none]) d_195_26 rfl ml_195 rfl rfl ?_
      exact h
theorem S_195_28 {l0 : Int64} {l2 : Int64} {l4 : Int64} {l6 : Int64} {w : xW} {r : Option Value × xW} (h : (l6 = (0 : Int64) → r = (some (.long l4), w)) ∧ (¬ (l6 = (0 : Int64)) → (¬ l6 = 0) ∧ ∀ v2 : Int64, v2 = (lrem l4 l6) → xGo 195 28 [some (.long l0), none, some (.long l2), none, some (.long l6), none, some (.long v2), none, none, none] [] w r)) : xGo 195 28 [some (.long l0), none, some (.long l2), none, some (.long l4), none, some (.long l6), none, none, none] [] w r := by
  refine g_lload (pc' := 30) d_195_28 rfl rfl ?_
  refine g_lconst (pc' := 31) d_195_30 rfl cl_0 ?_
  refine g_lc_eq (pc' := 35) (pm := 32) (pt := 53) d_195_31 rfl d_195_32 (by decide) rfl (fun c => ?_) (fun c => ?_)
  · replace h := h.1 c
    refine g_lload (pc' := 55) d_195_53 rfl rfl ?_
    exact g_lret d_195_55 rt_195 h
  · replace h := h.2 c
    refine g_lload (pc' := 37) d_195_35 rfl rfl ?_
    refine g_lload (pc' := 39) d_195_37 rfl rfl ?_
    obtain ⟨hc1, h⟩ := h
    refine g_lrem (pc' := 40) d_195_39 rfl hc1 ?_
    have h := h _ rfl
    refine g_lstore (pc' := 42) (l' := [some (.long l0), none, some (.long l2), none, some (.long l4), none, some (.long l6), none, some (.long ((lrem l4 l6))), none]) d_195_40 rfl ml_195 rfl rfl ?_
    refine g_lload (pc' := 44) d_195_42 rfl rfl ?_
    refine g_lstore (pc' := 46) (l' := [some (.long l0), none, some (.long l2), none, some (.long l6), none, some (.long l6), none, some (.long ((lrem l4 l6))), none]) d_195_44 rfl ml_195 rfl rfl ?_
    refine g_lload (pc' := 48) d_195_46 rfl rfl ?_
    refine g_lstore (pc' := 50) (l' := [some (.long l0), none, some (.long l2), none, some (.long l6), none, some (.long ((lrem l4 l6))), none, some (.long ((lrem l4 l6))), none]) d_195_48 rfl ml_195 rfl rfl ?_
    refine g_goto (pt := 28) d_195_50 (by decide) ?_
    exact xGo.more (xle_s (xle_n (xle_s (xle_n (xle_s (xle_n (xle_s (xle_n (xle_n (xle_n xle_0)))))))))) h
-- 196 BernoulliWaysModel.thrown()I
theorem S_196_0 {a0 : Nat} {w : xW} {r : Option Value × xW} (h : ∃ fs1, w[a0]? = some (.inr (12, fs1)) ∧ ∃ x3, fs1[0]? = some (.int x3) ∧ r = (some (.int x3), w)) : xGo 196 0 [some (.ref a0)] [] w r := by
  refine g_aloadn (pc' := 1) d_196_0 rfl rfl ?_
  obtain ⟨fs1, hw2, h⟩ := h
  obtain ⟨x3, hv4, h⟩ := h
  refine g_getf (pc' := 4) d_196_1 rfl st_196_118 hw2 hv4 ?_
  exact g_iret d_196_4 rt_196 h
-- 197 BernoulliWaysModel.lay(II)I
theorem S_197_0 {a0 : Nat} {i1 : Int32} {i2 : Int32} {w : xW} {r : Option Value × xW} (h : ∃ fs1, w[a0]? = some (.inr (12, fs1)) ∧ (0 < fs1.length) ∧ ∀ w4, w4 = w.set a0 (.inr (12, fs1.set 0 (.int (0 : Int32)))) → ∃ r7 w5, xCall 198 [.ref a0, .int i1] w4 (some (.int r7), w5) ∧ (r7 = 0 → r = (some (.int (-1 : Int32)), w5)) ∧ (¬ (r7 = 0) → ∃ r10 w8, xCall 199 [.int i2, .int (0 : Int32), .int (2 : Int32)] w5 (some (.int r10), w8) ∧ (¬ r10 = 0 → (¬ i2 = 0 → xGo 197 44 [some (.ref a0), some (.int i1), some (.int i2), some (.int (0 : Int32))] [] w8 r) ∧ (¬ (¬ i2 = 0) → ∃ fs11, w8[a0]? = some (.inr (12, fs11)) ∧ ∃ x13, fs11[4]? = some (.int x13) ∧ ∃ r17 w15, xCall 200 [.ref a0, .int x13] w8 (some (.int r17), w15) ∧ (¬ r17 = 0 → xGo 197 44 [some (.ref a0), some (.int i1), some (.int i2), some (.int (0 : Int32))] [] w15 r) ∧ (¬ (¬ r17 = 0) → r = (some (.int (-3 : Int32)), w15)))) ∧ (¬ (¬ r10 = 0) → r = (some (.int (-1 : Int32)), w8)))) : xGo 197 0 [some (.ref a0), some (.int i1), some (.int i2), none] [] w r := by
  refine g_aloadn (pc' := 1) d_197_0 rfl rfl ?_
  refine g_iconst (pc' := 2) d_197_1 rfl ci_0 ?_
  obtain ⟨fs1, hw2, h⟩ := h
  obtain ⟨hc3, h⟩ := h
  have h := h _ rfl
  refine g_putf (pc' := 5) d_197_2 rfl st_197_118 ft_12_0 ff_12_0 rfl (Or.inl rfl) hw2 hc3 ?_
  refine g_aloadn (pc' := 6) d_197_5 rfl rfl ?_
  refine g_iloadn (pc' := 7) d_197_6 rfl rfl ?_
  obtain ⟨r7, w5, hk6, h⟩ := h
  refine g_callV (pc' := 10) d_197_7 rfl st_197_145 na_198 ml_198 rfl rfl rfl rm_197_198 rfl rfl ow_198 (x_gss hw2) hk6 ?_
  refine g_if_eq (pc' := 13) (pt := 22) d_197_10 (by decide) rfl (fun c => ?_) (fun c => ?_)
  · replace h := h.1 c
    refine g_iconst (pc' := 23) d_197_22 rfl ci_m1 ?_
    exact g_iret d_197_23 rt_197 h
  · replace h := h.2 c
    refine g_iloadn (pc' := 14) d_197_13 rfl rfl ?_
    refine g_iconst (pc' := 15) d_197_14 rfl ci_0 ?_
    refine g_iconst (pc' := 16) d_197_15 rfl ci_2 ?_
    obtain ⟨r10, w8, hk9, h⟩ := h
    refine g_callS (pc' := 19) d_197_16 rfl st_197_137 (Or.inl rfl) na_199 ml_199 rfl rfl rfl rm_197_199 rfl rfl hk9 ?_
    refine g_if_ne (pc' := 22) (pt := 24) d_197_19 (by decide) rfl (fun c => ?_) (fun c => ?_)
    · replace h := h.1 c
      refine g_iloadn (pc' := 25) d_197_24 rfl rfl ?_
      refine g_if_ne (pc' := 28) (pt := 42) d_197_25 (by decide) rfl (fun c => ?_) (fun c => ?_)
      · replace h := h.1 c
        refine g_iconst (pc' := 43) d_197_42 rfl ci_0 ?_
        refine g_istoren (pc' := 44) (l' := [some (.ref a0), some (.int i1), some (.int i2), some (.int (0 : Int32))]) d_197_43 rfl ml_197 rfl rfl ?_
        exact h
      · replace h := h.2 c
        refine g_aloadn (pc' := 29) d_197_28 rfl rfl ?_
        refine g_aloadn (pc' := 30) d_197_29 rfl rfl ?_
        obtain ⟨fs11, hw12, h⟩ := h
        obtain ⟨x13, hv14, h⟩ := h
        refine g_getf (pc' := 33) d_197_30 rfl st_197_20 hw12 hv14 ?_
        obtain ⟨r17, w15, hk16, h⟩ := h
        refine g_callV (pc' := 36) d_197_33 rfl st_197_148 na_200 ml_200 rfl rfl rfl rm_197_200 rfl rfl ow_200 hw12 hk16 ?_
        refine g_if_ne (pc' := 39) (pt := 42) d_197_36 (by decide) rfl (fun c => ?_) (fun c => ?_)
        · replace h := h.1 c
          refine g_iconst (pc' := 43) d_197_42 rfl ci_0 ?_
          refine g_istoren (pc' := 44) (l' := [some (.ref a0), some (.int i1), some (.int i2), some (.int (0 : Int32))]) d_197_43 rfl ml_197 rfl rfl ?_
          exact h
        · replace h := h.2 c
          refine g_bipush (pc' := 41) d_197_39 rfl cb_m3 ?_
          exact g_iret d_197_41 rt_197 h
    · replace h := h.2 c
      refine g_iconst (pc' := 23) d_197_22 rfl ci_m1 ?_
      exact g_iret d_197_23 rt_197 h
theorem S_197_44 {a0 : Nat} {i1 : Int32} {i2 : Int32} {i3 : Int32} {w : xW} {r : Option Value × xW} (h : ∃ fs1, w[a0]? = some (.inr (12, fs1)) ∧ ∃ x3, fs1[4]? = some (.int x3) ∧ (i1 ≤ x3 → r = (some (.int i3), w)) ∧ (¬ (i1 ≤ x3) → ∀ v5 : Int32, v5 = (x3 + (1 : Int32)) → (4 < fs1.length) ∧ ∀ w7, w7 = w.set a0 (.inr (12, fs1.set 4 (.int v5))) → ∃ x8, (fs1.set 4 (.int v5))[4]? = some (.int x8) ∧ ∃ w10, xCall 202 [.ref a0, .int x8, .int i2] w7 (none, w10) ∧ ∀ v12 : Int32, v12 = i3 + (1 : Int32) → xGo 197 44 [some (.ref a0), some (.int i1), some (.int i2), some (.int v12)] [] w10 r)) : xGo 197 44 [some (.ref a0), some (.int i1), some (.int i2), some (.int i3)] [] w r := by
  refine g_aloadn (pc' := 45) d_197_44 rfl rfl ?_
  obtain ⟨fs1, hw2, h⟩ := h
  obtain ⟨x3, hv4, h⟩ := h
  refine g_getf (pc' := 48) d_197_45 rfl st_197_20 hw2 hv4 ?_
  refine g_iloadn (pc' := 49) d_197_48 rfl rfl ?_
  refine g_ic_ge (pc' := 52) (pt := 77) d_197_49 (by decide) rfl (fun c => ?_) (fun c => ?_)
  · replace h := h.1 c
    refine g_iloadn (pc' := 78) d_197_77 rfl rfl ?_
    exact g_iret d_197_78 rt_197 h
  · replace h := h.2 c
    refine g_aloadn (pc' := 53) d_197_52 rfl rfl ?_
    refine g_dup (pc' := 54) d_197_53 rfl rfl ?_
    refine g_getf (pc' := 57) d_197_54 rfl st_197_20 hw2 hv4 ?_
    refine g_iconst (pc' := 58) d_197_57 rfl ci_1 ?_
    refine g_iadd (pc' := 59) d_197_58 rfl ?_
    have h := h _ rfl
    obtain ⟨hc6, h⟩ := h
    have h := h _ rfl
    refine g_putf (pc' := 62) d_197_59 rfl st_197_20 ft_12_4 ff_12_4 rfl (Or.inl rfl) hw2 hc6 ?_
    refine g_aloadn (pc' := 63) d_197_62 rfl rfl ?_
    refine g_aloadn (pc' := 64) d_197_63 rfl rfl ?_
    obtain ⟨x8, hv9, h⟩ := h
    refine g_getf (pc' := 67) d_197_64 rfl st_197_20 (x_gss hw2) hv9 ?_
    refine g_iloadn (pc' := 68) d_197_67 rfl rfl ?_
    obtain ⟨w10, hk11, h⟩ := h
    refine g_callV (pc' := 71) d_197_68 rfl st_197_151 na_202 ml_202 rfl rfl rfl rm_197_202 rfl rfl ow_202 (x_gss hw2) hk11 ?_
    have h := h _ rfl
    refine g_iinc (pc' := 74) (l' := [some (.ref a0), some (.int i1), some (.int i2), some (.int (i3 + (1 : Int32)))]) d_197_71 rfl rfl ci_1 ml_197 rfl rfl ?_
    refine g_goto (pt := 44) d_197_74 (by decide) ?_
    exact h
-- 198 BernoulliWaysModel.isEntry(I)Z
theorem S_198_0 {a0 : Nat} {i1 : Int32} {w : xW} {r : Option Value × xW} (h : ∃ r3 w1, xCall 199 [.int i1, .int (0 : Int32), .int (38 : Int32)] w (some (.int r3), w1) ∧ (r3 = 0 ∨ r3 = 1) ∧ r = (some (.int r3), w1)) : xGo 198 0 [some (.ref a0), some (.int i1)] [] w r := by
  refine g_iloadn (pc' := 1) d_198_0 rfl rfl ?_
  refine g_iconst (pc' := 2) d_198_1 rfl ci_0 ?_
  refine g_bipush (pc' := 4) d_198_2 rfl cb_38 ?_
  obtain ⟨r3, w1, hk2, h⟩ := h
  refine g_callS (pc' := 7) d_198_4 rfl st_198_137 (Or.inl rfl) na_199 ml_199 rfl rfl rfl rm_198_199 rfl rfl hk2 ?_
  obtain ⟨hc4, h⟩ := h
  exact g_zret d_198_7 rt_198 hc4 h
-- 199 BernoulliWaysModel.isIn(III)Z
theorem S_199_0 {i0 : Int32} {i1 : Int32} {i2 : Int32} {w : xW} {r : Option Value × xW} (h : (i0 < i1 → r = (some (.int (0 : Int32)), w)) ∧ (¬ (i0 < i1) → (i2 < i0 → r = (some (.int (0 : Int32)), w)) ∧ (¬ (i2 < i0) → r = (some (.int (1 : Int32)), w)))) : xGo 199 0 [some (.int i0), some (.int i1), some (.int i2)] [] w r := by
  refine g_iloadn (pc' := 1) d_199_0 rfl rfl ?_
  refine g_iloadn (pc' := 2) d_199_1 rfl rfl ?_
  refine g_ic_lt (pc' := 5) (pt := 14) d_199_2 (by decide) rfl (fun c => ?_) (fun c => ?_)
  · replace h := h.1 c
    refine g_iconst (pc' := 15) d_199_14 rfl ci_0 ?_
    exact g_zret d_199_15 rt_199 (Or.inl rfl) h
  · replace h := h.2 c
    refine g_iloadn (pc' := 6) d_199_5 rfl rfl ?_
    refine g_iloadn (pc' := 7) d_199_6 rfl rfl ?_
    refine g_ic_gt (pc' := 10) (pt := 14) d_199_7 (by decide) rfl (fun c => ?_) (fun c => ?_)
    · replace h := h.1 c
      refine g_iconst (pc' := 15) d_199_14 rfl ci_0 ?_
      exact g_zret d_199_15 rt_199 (Or.inl rfl) h
    · replace h := h.2 c
      refine g_iconst (pc' := 11) d_199_10 rfl ci_1 ?_
      refine g_goto (pt := 15) d_199_11 (by decide) ?_
      exact g_zret d_199_15 rt_199 (Or.inr rfl) h
-- 200 BernoulliWaysModel.areRight(I)Z
theorem S_200_0 {a0 : Nat} {i1 : Int32} {w : xW} {r : Option Value × xW} (h : xGo 200 2 [some (.ref a0), some (.int i1), some (.int (0 : Int32))] [] w r) : xGo 200 0 [some (.ref a0), some (.int i1), none] [] w r := by
  refine g_iconst (pc' := 1) d_200_0 rfl ci_0 ?_
  refine g_istoren (pc' := 2) (l' := [some (.ref a0), some (.int i1), some (.int (0 : Int32))]) d_200_1 rfl ml_200 rfl rfl ?_
  exact h
theorem S_200_2 {a0 : Nat} {i1 : Int32} {i2 : Int32} {w : xW} {r : Option Value × xW} (h : (i1 < i2 → r = (some (.int (1 : Int32)), w)) ∧ (¬ (i1 < i2) → ∃ fs1, w[a0]? = some (.inr (12, fs1)) ∧ ∃ r5 w3, xCall 201 [.ref a0, .int i2] w (some (.int r5), w3) ∧ (¬ r5 = 0 → ∀ v6 : Int32, v6 = i2 + (1 : Int32) → xGo 200 2 [some (.ref a0), some (.int i1), some (.int v6)] [] w3 r) ∧ (¬ (¬ r5 = 0) → r = (some (.int (0 : Int32)), w3)))) : xGo 200 2 [some (.ref a0), some (.int i1), some (.int i2)] [] w r := by
  refine g_iloadn (pc' := 3) d_200_2 rfl rfl ?_
  refine g_iloadn (pc' := 4) d_200_3 rfl rfl ?_
  refine g_ic_gt (pc' := 7) (pt := 23) d_200_4 (by decide) rfl (fun c => ?_) (fun c => ?_)
  · replace h := h.1 c
    refine g_iconst (pc' := 24) d_200_23 rfl ci_1 ?_
    exact g_zret d_200_24 rt_200 (Or.inr rfl) h
  · replace h := h.2 c
    refine g_aloadn (pc' := 8) d_200_7 rfl rfl ?_
    refine g_iloadn (pc' := 9) d_200_8 rfl rfl ?_
    obtain ⟨fs1, hw2, h⟩ := h
    obtain ⟨r5, w3, hk4, h⟩ := h
    refine g_callV (pc' := 12) d_200_9 rfl st_200_141 na_201 ml_201 rfl rfl rfl rm_200_201 rfl rfl ow_201 hw2 hk4 ?_
    refine g_if_ne (pc' := 15) (pt := 17) d_200_12 (by decide) rfl (fun c => ?_) (fun c => ?_)
    · replace h := h.1 c
      have h := h _ rfl
      refine g_iinc (pc' := 20) (l' := [some (.ref a0), some (.int i1), some (.int (i2 + (1 : Int32)))]) d_200_17 rfl rfl ci_1 ml_200 rfl rfl ?_
      refine g_goto (pt := 2) d_200_20 (by decide) ?_
      exact h
    · replace h := h.2 c
      refine g_iconst (pc' := 16) d_200_15 rfl ci_0 ?_
      exact g_zret d_200_16 rt_200 (Or.inl rfl) h
-- 201 BernoulliWaysModel.isRight(I)Z
theorem S_201_0 {a0 : Nat} {i1 : Int32} {w : xW} {r : Option Value × xW} (h : ∃ fs1, w[a0]? = some (.inr (12, fs1)) ∧ ∃ b3, fs1[2]? = some (.ref b3) ∧ ∃ n5 f6, w[b3]? = some (.inl (.inr (n5, f6))) ∧ (¬ (((3 : Int32) * i1) < 0 ∨ n5 ≤ ((3 : Int32) * i1).toNatClampNeg)) ∧ ∃ b9, fs1[1]? = some (.ref b9) ∧ ∃ n11 f12, w[b9]? = some (.inl (.inr (n11, f12))) ∧ (¬ (((3 : Int32) * i1) < 0 ∨ n11 ≤ ((3 : Int32) * i1).toNatClampNeg)) ∧ (¬ (f6 ((3 : Int32) * i1).toNatClampNeg) = (f12 ((3 : Int32) * i1).toNatClampNeg) → r = (some (.int (0 : Int32)), w)) ∧ (¬ (¬ (f6 ((3 : Int32) * i1).toNatClampNeg) = (f12 ((3 : Int32) * i1).toNatClampNeg)) → (¬ ((((3 : Int32) * i1) + (1 : Int32)) < 0 ∨ n5 ≤ (((3 : Int32) * i1) + (1 : Int32)).toNatClampNeg)) ∧ (¬ ((((3 : Int32) * i1) + (1 : Int32)) < 0 ∨ n11 ≤ (((3 : Int32) * i1) + (1 : Int32)).toNatClampNeg)) ∧ (¬ (f6 (((3 : Int32) * i1) + (1 : Int32)).toNatClampNeg) = (f12 (((3 : Int32) * i1) + (1 : Int32)).toNatClampNeg) → r = (some (.int (0 : Int32)), w)) ∧ (¬ (¬ (f6 (((3 : Int32) * i1) + (1 : Int32)).toNatClampNeg) = (f12 (((3 : Int32) * i1) + (1 : Int32)).toNatClampNeg)) → (¬ ((((3 : Int32) * i1) + (2 : Int32)) < 0 ∨ n5 ≤ (((3 : Int32) * i1) + (2 : Int32)).toNatClampNeg)) ∧ (¬ ((((3 : Int32) * i1) + (2 : Int32)) < 0 ∨ n11 ≤ (((3 : Int32) * i1) + (2 : Int32)).toNatClampNeg)) ∧ (¬ (f6 (((3 : Int32) * i1) + (2 : Int32)).toNatClampNeg) = (f12 (((3 : Int32) * i1) + (2 : Int32)).toNatClampNeg) → r = (some (.int (0 : Int32)), w)) ∧ (¬ (¬ (f6 (((3 : Int32) * i1) + (2 : Int32)).toNatClampNeg) = (f12 (((3 : Int32) * i1) + (2 : Int32)).toNatClampNeg)) → r = (some (.int (1 : Int32)), w))))) : xGo 201 0 [some (.ref a0), some (.int i1)] [] w r := by
  refine g_aloadn (pc' := 1) d_201_0 rfl rfl ?_
  obtain ⟨fs1, hw2, h⟩ := h
  obtain ⟨b3, hv4, h⟩ := h
  refine g_getf (pc' := 4) d_201_1 rfl st_201_13 hw2 hv4 ?_
  refine g_iconst (pc' := 5) d_201_4 rfl ci_3 ?_
  refine g_iloadn (pc' := 6) d_201_5 rfl rfl ?_
  refine g_imul (pc' := 7) d_201_6 rfl ?_
  obtain ⟨n5, f6, hw7, h⟩ := h
  obtain ⟨hc8, h⟩ := h
  refine g_lald (pc' := 8) d_201_7 rfl hw7 hc8 ?_
  refine g_aloadn (pc' := 9) d_201_8 rfl rfl ?_
  obtain ⟨b9, hv10, h⟩ := h
  refine g_getf (pc' := 12) d_201_9 rfl st_201_7 hw2 hv10 ?_
  refine g_iconst (pc' := 13) d_201_12 rfl ci_3 ?_
  refine g_iloadn (pc' := 14) d_201_13 rfl rfl ?_
  refine g_imul (pc' := 15) d_201_14 rfl ?_
  obtain ⟨n11, f12, hw13, h⟩ := h
  obtain ⟨hc14, h⟩ := h
  refine g_lald (pc' := 16) d_201_15 rfl hw13 hc14 ?_
  refine g_lc_ne (pc' := 20) (pm := 17) (pt := 72) d_201_16 rfl d_201_17 (by decide) rfl (fun c => ?_) (fun c => ?_)
  · replace h := h.1 c
    refine g_iconst (pc' := 73) d_201_72 rfl ci_0 ?_
    exact g_zret d_201_73 rt_201 (Or.inl rfl) h
  · replace h := h.2 c
    refine g_aloadn (pc' := 21) d_201_20 rfl rfl ?_
    refine g_getf (pc' := 24) d_201_21 rfl st_201_13 hw2 hv4 ?_
    refine g_iconst (pc' := 25) d_201_24 rfl ci_3 ?_
    refine g_iloadn (pc' := 26) d_201_25 rfl rfl ?_
    refine g_imul (pc' := 27) d_201_26 rfl ?_
    refine g_iconst (pc' := 28) d_201_27 rfl ci_1 ?_
    refine g_iadd (pc' := 29) d_201_28 rfl ?_
    obtain ⟨hc15, h⟩ := h
    refine g_lald (pc' := 30) d_201_29 rfl hw7 hc15 ?_
    refine g_aloadn (pc' := 31) d_201_30 rfl rfl ?_
    refine g_getf (pc' := 34) d_201_31 rfl st_201_7 hw2 hv10 ?_
    refine g_iconst (pc' := 35) d_201_34 rfl ci_3 ?_
    refine g_iloadn (pc' := 36) d_201_35 rfl rfl ?_
    refine g_imul (pc' := 37) d_201_36 rfl ?_
    refine g_iconst (pc' := 38) d_201_37 rfl ci_1 ?_
    refine g_iadd (pc' := 39) d_201_38 rfl ?_
    obtain ⟨hc16, h⟩ := h
    refine g_lald (pc' := 40) d_201_39 rfl hw13 hc16 ?_
    refine g_lc_ne (pc' := 44) (pm := 41) (pt := 72) d_201_40 rfl d_201_41 (by decide) rfl (fun c => ?_) (fun c => ?_)
    · replace h := h.1 c
      refine g_iconst (pc' := 73) d_201_72 rfl ci_0 ?_
      exact g_zret d_201_73 rt_201 (Or.inl rfl) h
    · replace h := h.2 c
      refine g_aloadn (pc' := 45) d_201_44 rfl rfl ?_
      refine g_getf (pc' := 48) d_201_45 rfl st_201_13 hw2 hv4 ?_
      refine g_iconst (pc' := 49) d_201_48 rfl ci_3 ?_
      refine g_iloadn (pc' := 50) d_201_49 rfl rfl ?_
      refine g_imul (pc' := 51) d_201_50 rfl ?_
      refine g_iconst (pc' := 52) d_201_51 rfl ci_2 ?_
      refine g_iadd (pc' := 53) d_201_52 rfl ?_
      obtain ⟨hc17, h⟩ := h
      refine g_lald (pc' := 54) d_201_53 rfl hw7 hc17 ?_
      refine g_aloadn (pc' := 55) d_201_54 rfl rfl ?_
      refine g_getf (pc' := 58) d_201_55 rfl st_201_7 hw2 hv10 ?_
      refine g_iconst (pc' := 59) d_201_58 rfl ci_3 ?_
      refine g_iloadn (pc' := 60) d_201_59 rfl rfl ?_
      refine g_imul (pc' := 61) d_201_60 rfl ?_
      refine g_iconst (pc' := 62) d_201_61 rfl ci_2 ?_
      refine g_iadd (pc' := 63) d_201_62 rfl ?_
      obtain ⟨hc18, h⟩ := h
      refine g_lald (pc' := 64) d_201_63 rfl hw13 hc18 ?_
      refine g_lc_ne (pc' := 68) (pm := 65) (pt := 72) d_201_64 rfl d_201_65 (by decide) rfl (fun c => ?_) (fun c => ?_)
      · replace h := h.1 c
        refine g_iconst (pc' := 73) d_201_72 rfl ci_0 ?_
        exact g_zret d_201_73 rt_201 (Or.inl rfl) h
      · replace h := h.2 c
        refine g_iconst (pc' := 69) d_201_68 rfl ci_1 ?_
        refine g_goto (pt := 73) d_201_69 (by decide) ?_
        exact g_zret d_201_73 rt_201 (Or.inr rfl) h
-- 202 BernoulliWaysModel.makes(II)V
theorem S_202_0 {a0 : Nat} {i1 : Int32} {i2 : Int32} {w : xW} {r : Option Value × xW} (h : ∃ fs1, w[a0]? = some (.inr (12, fs1)) ∧ ∃ b3, fs1[2]? = some (.ref b3) ∧ ∃ b5, fs1[1]? = some (.ref b5) ∧ ∃ n7 f8, w[b5]? = some (.inl (.inr (n7, f8))) ∧ (¬ (((3 : Int32) * i1) < 0 ∨ n7 ≤ ((3 : Int32) * i1).toNatClampNeg)) ∧ (¬ ((((3 : Int32) * i1) + (1 : Int32)) < 0 ∨ n7 ≤ (((3 : Int32) * i1) + (1 : Int32)).toNatClampNeg)) ∧ (¬ ((((3 : Int32) * i1) + (2 : Int32)) < 0 ∨ n7 ≤ (((3 : Int32) * i1) + (2 : Int32)).toNatClampNeg)) ∧ ∃ w13, xCall 189 [.ref b3, .int i1, .long (f8 ((3 : Int32) * i1).toNatClampNeg), .long (f8 (((3 : Int32) * i1) + (1 : Int32)).toNatClampNeg), .long (f8 (((3 : Int32) * i1) + (2 : Int32)).toNatClampNeg)] w (none, w13) ∧ ∃ fs15, w13[a0]? = some (.inr (12, fs15)) ∧ ∃ b17, fs15[3]? = some (.ref b17) ∧ ∃ n19 f20, w13[b17]? = some (.inl (.inl (n19, f20))) ∧ (¬ (i1 < 0 ∨ n19 ≤ i1.toNatClampNeg)) ∧ ∀ w23, w23 = w13.set b17 (.inl (.inl (n19, (upd f20 i1.toNatClampNeg i2)))) → r = (none, w23)) : xGo 202 0 [some (.ref a0), some (.int i1), some (.int i2)] [] w r := by
  refine g_aloadn (pc' := 1) d_202_0 rfl rfl ?_
  obtain ⟨fs1, hw2, h⟩ := h
  obtain ⟨b3, hv4, h⟩ := h
  refine g_getf (pc' := 4) d_202_1 rfl st_202_13 hw2 hv4 ?_
  refine g_iloadn (pc' := 5) d_202_4 rfl rfl ?_
  refine g_aloadn (pc' := 6) d_202_5 rfl rfl ?_
  obtain ⟨b5, hv6, h⟩ := h
  refine g_getf (pc' := 9) d_202_6 rfl st_202_7 hw2 hv6 ?_
  refine g_iconst (pc' := 10) d_202_9 rfl ci_3 ?_
  refine g_iloadn (pc' := 11) d_202_10 rfl rfl ?_
  refine g_imul (pc' := 12) d_202_11 rfl ?_
  obtain ⟨n7, f8, hw9, h⟩ := h
  obtain ⟨hc10, h⟩ := h
  refine g_lald (pc' := 13) d_202_12 rfl hw9 hc10 ?_
  refine g_aloadn (pc' := 14) d_202_13 rfl rfl ?_
  refine g_getf (pc' := 17) d_202_14 rfl st_202_7 hw2 hv6 ?_
  refine g_iconst (pc' := 18) d_202_17 rfl ci_3 ?_
  refine g_iloadn (pc' := 19) d_202_18 rfl rfl ?_
  refine g_imul (pc' := 20) d_202_19 rfl ?_
  refine g_iconst (pc' := 21) d_202_20 rfl ci_1 ?_
  refine g_iadd (pc' := 22) d_202_21 rfl ?_
  obtain ⟨hc11, h⟩ := h
  refine g_lald (pc' := 23) d_202_22 rfl hw9 hc11 ?_
  refine g_aloadn (pc' := 24) d_202_23 rfl rfl ?_
  refine g_getf (pc' := 27) d_202_24 rfl st_202_7 hw2 hv6 ?_
  refine g_iconst (pc' := 28) d_202_27 rfl ci_3 ?_
  refine g_iloadn (pc' := 29) d_202_28 rfl rfl ?_
  refine g_imul (pc' := 30) d_202_29 rfl ?_
  refine g_iconst (pc' := 31) d_202_30 rfl ci_2 ?_
  refine g_iadd (pc' := 32) d_202_31 rfl ?_
  obtain ⟨hc12, h⟩ := h
  refine g_lald (pc' := 33) d_202_32 rfl hw9 hc12 ?_
  obtain ⟨w13, hk14, h⟩ := h
  refine g_callS (pc' := 36) d_202_33 rfl st_202_99 (Or.inl rfl) na_189 ml_189 rfl rfl rfl rm_202_189 rfl rfl hk14 ?_
  refine g_aloadn (pc' := 37) d_202_36 rfl rfl ?_
  obtain ⟨fs15, hw16, h⟩ := h
  obtain ⟨b17, hv18, h⟩ := h
  refine g_getf (pc' := 40) d_202_37 rfl st_202_16 hw16 hv18 ?_
  refine g_iloadn (pc' := 41) d_202_40 rfl rfl ?_
  refine g_iloadn (pc' := 42) d_202_41 rfl rfl ?_
  obtain ⟨n19, f20, hw21, h⟩ := h
  obtain ⟨hc22, h⟩ := h
  have h := h _ rfl
  refine g_iast (pc' := 43) d_202_42 rfl hw21 hc22 ?_
  exact g_vret d_202_43 rt_202 h
