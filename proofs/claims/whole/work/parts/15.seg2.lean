/-! segments of methods, laid by wip/whole/wp.py -/
-- 122 BernoulliWays$Pairs.search(I)V
theorem S_122_0 {a0 : Nat} {i1 : Int32} {w : xW} {r : Option Value × xW} (h : ∃ fs1, w[a0]? = some (.inr (9, fs1)) ∧ ∃ b3, fs1[0]? = some (.ref b3) ∧ ∃ fs5, w[b3]? = some (.inr (8, fs5)) ∧ ∃ w7, xCall 123 [.ref b3, .int i1, .int (2 : Int32)] w (none, w7) ∧ xGo 122 11 [some (.ref a0), some (.int i1), some (.int (2 : Int32))] [] w7 r) : xGo 122 0 [some (.ref a0), some (.int i1), none] [] w r := by
  refine g_aloadn (pc' := 1) d_122_0 rfl rfl ?_
  obtain ⟨fs1, hw2, h⟩ := h
  obtain ⟨b3, hv4, h⟩ := h
  refine g_getf (pc' := 4) d_122_1 rfl st_122_22 hw2 hv4 ?_
  refine g_iloadn (pc' := 5) d_122_4 rfl rfl ?_
  refine g_iconst (pc' := 6) d_122_5 rfl ci_2 ?_
  obtain ⟨fs5, hw6, h⟩ := h
  obtain ⟨w7, hk8, h⟩ := h
  refine g_callV (pc' := 9) d_122_6 rfl st_122_36 na_123 ml_123 rfl rfl rfl rm_122_123 rfl rfl ow_123 hw6 hk8 ?_
  refine g_iconst (pc' := 10) d_122_9 rfl ci_2 ?_
  refine g_istoren (pc' := 11) (l' := [some (.ref a0), some (.int i1), some (.int (2 : Int32))]) d_122_10 rfl ml_122 rfl rfl ?_
  exact h
theorem S_122_11 {a0 : Nat} {i1 : Int32} {i2 : Int32} {w : xW} {r : Option Value × xW} (h : ((i1 - (3 : Int32)) < i2 → r = (none, w)) ∧ (¬ ((i1 - (3 : Int32)) < i2) → ∃ fs1, w[a0]? = some (.inr (9, fs1)) ∧ ∃ x3, fs1[3]? = some (.int x3) ∧ ((100 : Int32) ≤ x3 → r = (none, w)) ∧ (¬ ((100 : Int32) ≤ x3) → ∃ b5, fs1[0]? = some (.ref b5) ∧ ∃ fs7, w[b5]? = some (.inr (8, fs7)) ∧ ∃ r11 w9, xCall 127 [.ref b5, .int i2] w (some (.long r11), w9) ∧ (¬ r11 = (0 : Int64) → ∀ v12 : Int32, v12 = i2 + (2 : Int32) → xGo 122 11 [some (.ref a0), some (.int i1), some (.int v12)] [] w9 r) ∧ (¬ (¬ r11 = (0 : Int64)) → ∃ fs13, w9[a0]? = some (.inr (9, fs13)) ∧ ∃ b15, fs13[1]? = some (.ref b15) ∧ ∃ x17, fs13[3]? = some (.int x17) ∧ ∃ n19 f20, w9[b15]? = some (.inl (.inl (n19, f20))) ∧ (¬ (x17 < 0 ∨ n19 ≤ x17.toNatClampNeg)) ∧ ∀ w23, w23 = w9.set b15 (.inl (.inl (n19, (upd f20 x17.toNatClampNeg i1)))) → ∃ fs24, w23[a0]? = some (.inr (9, fs24)) ∧ ∃ b26, fs24[2]? = some (.ref b26) ∧ ∃ x28, fs24[3]? = some (.int x28) ∧ ∃ n30 f31, w23[b26]? = some (.inl (.inl (n30, f31))) ∧ (¬ (x28 < 0 ∨ n30 ≤ x28.toNatClampNeg)) ∧ ∀ w34, w34 = w23.set b26 (.inl (.inl (n30, (upd f31 x28.toNatClampNeg i2)))) → ∃ fs35, w34[a0]? = some (.inr (9, fs35)) ∧ ∃ x37, fs35[3]? = some (.int x37) ∧ ∀ v39 : Int32, v39 = (x37 + (1 : Int32)) → (3 < fs35.length) ∧ ∀ w41, w41 = w34.set a0 (.inr (9, fs35.set 3 (.int v39))) → ∀ v42 : Int32, v42 = i2 + (2 : Int32) → xGo 122 11 [some (.ref a0), some (.int i1), some (.int v42)] [] w41 r)))) : xGo 122 11 [some (.ref a0), some (.int i1), some (.int i2)] [] w r := by
  refine g_iloadn (pc' := 12) d_122_11 rfl rfl ?_
  refine g_iloadn (pc' := 13) d_122_12 rfl rfl ?_
  refine g_iconst (pc' := 14) d_122_13 rfl ci_3 ?_
  refine g_isub (pc' := 15) d_122_14 rfl ?_
  refine g_ic_gt (pc' := 18) (pt := 76) d_122_15 (by decide) rfl (fun c => ?_) (fun c => ?_)
  · replace h := h.1 c
    exact g_vret d_122_76 rt_122 h
  · replace h := h.2 c
    refine g_aloadn (pc' := 19) d_122_18 rfl rfl ?_
    obtain ⟨fs1, hw2, h⟩ := h
    obtain ⟨x3, hv4, h⟩ := h
    refine g_getf (pc' := 22) d_122_19 rfl st_122_26 hw2 hv4 ?_
    refine g_bipush (pc' := 24) d_122_22 rfl cb_100 ?_
    refine g_ic_ge (pc' := 27) (pt := 76) d_122_24 (by decide) rfl (fun c => ?_) (fun c => ?_)
    · replace h := h.1 c
      exact g_vret d_122_76 rt_122 h
    · replace h := h.2 c
      refine g_aloadn (pc' := 28) d_122_27 rfl rfl ?_
      obtain ⟨b5, hv6, h⟩ := h
      refine g_getf (pc' := 31) d_122_28 rfl st_122_22 hw2 hv6 ?_
      refine g_iloadn (pc' := 32) d_122_31 rfl rfl ?_
      obtain ⟨fs7, hw8, h⟩ := h
      obtain ⟨r11, w9, hk10, h⟩ := h
      refine g_callV (pc' := 35) d_122_32 rfl st_122_42 na_127 ml_127 rfl rfl rfl rm_122_127 rfl rfl ow_127 hw8 hk10 ?_
      refine g_lconst (pc' := 36) d_122_35 rfl cl_0 ?_
      refine g_lc_ne (pc' := 40) (pm := 37) (pt := 70) d_122_36 rfl d_122_37 (by decide) rfl (fun c => ?_) (fun c => ?_)
      · replace h := h.1 c
        have h := h _ rfl
        refine g_iinc (pc' := 73) (l' := [some (.ref a0), some (.int i1), some (.int (i2 + (2 : Int32)))]) d_122_70 rfl rfl ci_2 ml_122 rfl rfl ?_
        refine g_goto (pt := 11) d_122_73 (by decide) ?_
        exact h
      · replace h := h.2 c
        refine g_aloadn (pc' := 41) d_122_40 rfl rfl ?_
        obtain ⟨fs13, hw14, h⟩ := h
        obtain ⟨b15, hv16, h⟩ := h
        refine g_getf (pc' := 44) d_122_41 rfl st_122_11 hw14 hv16 ?_
        refine g_aloadn (pc' := 45) d_122_44 rfl rfl ?_
        obtain ⟨x17, hv18, h⟩ := h
        refine g_getf (pc' := 48) d_122_45 rfl st_122_26 hw14 hv18 ?_
        refine g_iloadn (pc' := 49) d_122_48 rfl rfl ?_
        obtain ⟨n19, f20, hw21, h⟩ := h
        obtain ⟨hc22, h⟩ := h
        have h := h _ rfl
        refine g_iast (pc' := 50) d_122_49 rfl hw21 hc22 ?_
        refine g_aloadn (pc' := 51) d_122_50 rfl rfl ?_
        obtain ⟨fs24, hw25, h⟩ := h
        obtain ⟨b26, hv27, h⟩ := h
        refine g_getf (pc' := 54) d_122_51 rfl st_122_15 hw25 hv27 ?_
        refine g_aloadn (pc' := 55) d_122_54 rfl rfl ?_
        obtain ⟨x28, hv29, h⟩ := h
        refine g_getf (pc' := 58) d_122_55 rfl st_122_26 hw25 hv29 ?_
        refine g_iloadn (pc' := 59) d_122_58 rfl rfl ?_
        obtain ⟨n30, f31, hw32, h⟩ := h
        obtain ⟨hc33, h⟩ := h
        have h := h _ rfl
        refine g_iast (pc' := 60) d_122_59 rfl hw32 hc33 ?_
        refine g_aloadn (pc' := 61) d_122_60 rfl rfl ?_
        refine g_dup (pc' := 62) d_122_61 rfl rfl ?_
        obtain ⟨fs35, hw36, h⟩ := h
        obtain ⟨x37, hv38, h⟩ := h
        refine g_getf (pc' := 65) d_122_62 rfl st_122_26 hw36 hv38 ?_
        refine g_iconst (pc' := 66) d_122_65 rfl ci_1 ?_
        refine g_iadd (pc' := 67) d_122_66 rfl ?_
        have h := h _ rfl
        obtain ⟨hc40, h⟩ := h
        have h := h _ rfl
        refine g_putf (pc' := 70) d_122_67 rfl st_122_26 ft_9_3 ff_9_3 rfl (Or.inl rfl) hw36 hc40 ?_
        have h := h _ rfl
        refine g_iinc (pc' := 73) (l' := [some (.ref a0), some (.int i1), some (.int (i2 + (2 : Int32)))]) d_122_70 rfl rfl ci_2 ml_122 rfl rfl ?_
        refine g_goto (pt := 11) d_122_73 (by decide) ?_
        exact h
-- 123 BernoulliWays$ByWays.fill(II)V
theorem S_123_0 {a0 : Nat} {i1 : Int32} {i2 : Int32} {w : xW} {r : Option Value × xW} (h : (i1 < (3 : Int32) → r = (none, w)) ∧ (¬ (i1 < (3 : Int32)) → ((199 : Int32) < i1 → r = (none, w)) ∧ (¬ ((199 : Int32) < i1) → ∃ fs1, w[a0]? = some (.inr (8, fs1)) ∧ ∃ x3, fs1[2]? = some (.int x3) ∧ (¬ i1 = x3 → (2 < fs1.length) ∧ ∀ w6, w6 = w.set a0 (.inr (8, fs1.set 2 (.int i1))) → (3 < (fs1.set 2 (.int i1)).length) ∧ ∀ w8, w8 = w6.set a0 (.inr (8, (fs1.set 2 (.int i1)).set 3 (.int i2))) → (¬ i2 = 0 → (¬ i2 = (1 : Int32) → ∃ w9, xCall 126 [.ref a0, .int i1] w8 (none, w9) ∧ r = (none, w9)) ∧ (¬ (¬ i2 = (1 : Int32)) → ∃ w11, xCall 125 [.ref a0, .int i1] w8 (none, w11) ∧ r = (none, w11))) ∧ (¬ (¬ i2 = 0) → ∃ w13, xCall 124 [.ref a0, .int i1] w8 (none, w13) ∧ r = (none, w13))) ∧ (¬ (¬ i1 = x3) → ∃ x15, fs1[3]? = some (.int x15) ∧ (¬ i2 = x15 → (2 < fs1.length) ∧ ∀ w18, w18 = w.set a0 (.inr (8, fs1.set 2 (.int i1))) → (3 < (fs1.set 2 (.int i1)).length) ∧ ∀ w20, w20 = w18.set a0 (.inr (8, (fs1.set 2 (.int i1)).set 3 (.int i2))) → (¬ i2 = 0 → (¬ i2 = (1 : Int32) → ∃ w21, xCall 126 [.ref a0, .int i1] w20 (none, w21) ∧ r = (none, w21)) ∧ (¬ (¬ i2 = (1 : Int32)) → ∃ w23, xCall 125 [.ref a0, .int i1] w20 (none, w23) ∧ r = (none, w23))) ∧ (¬ (¬ i2 = 0) → ∃ w25, xCall 124 [.ref a0, .int i1] w20 (none, w25) ∧ r = (none, w25))) ∧ (¬ (¬ i2 = x15) → r = (none, w)))))) : xGo 123 0 [some (.ref a0), some (.int i1), some (.int i2)] [] w r := by
  refine g_iloadn (pc' := 1) d_123_0 rfl rfl ?_
  refine g_iconst (pc' := 2) d_123_1 rfl ci_3 ?_
  refine g_ic_lt (pc' := 5) (pt := 28) d_123_2 (by decide) rfl (fun c => ?_) (fun c => ?_)
  · replace h := h.1 c
    exact g_vret d_123_28 rt_123 h
  · replace h := h.2 c
    refine g_iloadn (pc' := 6) d_123_5 rfl rfl ?_
    refine g_sipush (pc' := 9) d_123_6 rfl cs_199 ?_
    refine g_ic_gt (pc' := 12) (pt := 28) d_123_9 (by decide) rfl (fun c => ?_) (fun c => ?_)
    · replace h := h.1 c
      exact g_vret d_123_28 rt_123 h
    · replace h := h.2 c
      refine g_iloadn (pc' := 13) d_123_12 rfl rfl ?_
      refine g_aloadn (pc' := 14) d_123_13 rfl rfl ?_
      obtain ⟨fs1, hw2, h⟩ := h
      obtain ⟨x3, hv4, h⟩ := h
      refine g_getf (pc' := 17) d_123_14 rfl st_123_18 hw2 hv4 ?_
      refine g_ic_ne (pc' := 20) (pt := 29) d_123_17 (by decide) rfl (fun c => ?_) (fun c => ?_)
      · replace h := h.1 c
        refine g_aloadn (pc' := 30) d_123_29 rfl rfl ?_
        refine g_iloadn (pc' := 31) d_123_30 rfl rfl ?_
        obtain ⟨hc5, h⟩ := h
        have h := h _ rfl
        refine g_putf (pc' := 34) d_123_31 rfl st_123_18 ft_8_2 ff_8_2 rfl (Or.inl rfl) hw2 hc5 ?_
        refine g_aloadn (pc' := 35) d_123_34 rfl rfl ?_
        refine g_iloadn (pc' := 36) d_123_35 rfl rfl ?_
        obtain ⟨hc7, h⟩ := h
        have h := h _ rfl
        refine g_putf (pc' := 39) d_123_36 rfl st_123_22 ft_8_3 ff_8_3 rfl (Or.inl rfl) (x_gss hw2) hc7 ?_
        refine g_iloadn (pc' := 40) d_123_39 rfl rfl ?_
        refine g_if_ne (pc' := 43) (pt := 51) d_123_40 (by decide) rfl (fun c => ?_) (fun c => ?_)
        · replace h := h.1 c
          refine g_iloadn (pc' := 52) d_123_51 rfl rfl ?_
          refine g_iconst (pc' := 53) d_123_52 rfl ci_1 ?_
          refine g_ic_ne (pc' := 56) (pt := 64) d_123_53 (by decide) rfl (fun c => ?_) (fun c => ?_)
          · replace h := h.1 c
            refine g_aloadn (pc' := 65) d_123_64 rfl rfl ?_
            refine g_iloadn (pc' := 66) d_123_65 rfl rfl ?_
            obtain ⟨w9, hk10, h⟩ := h
            refine g_callV (pc' := 69) d_123_66 rfl st_123_32 na_126 ml_126 rfl rfl rfl rm_123_126 rfl rfl ow_126 (x_gss (x_gss hw2)) hk10 ?_
            exact g_vret d_123_69 rt_123 h
          · replace h := h.2 c
            refine g_aloadn (pc' := 57) d_123_56 rfl rfl ?_
            refine g_iloadn (pc' := 58) d_123_57 rfl rfl ?_
            obtain ⟨w11, hk12, h⟩ := h
            refine g_callV (pc' := 61) d_123_58 rfl st_123_29 na_125 ml_125 rfl rfl rfl rm_123_125 rfl rfl ow_125 (x_gss (x_gss hw2)) hk12 ?_
            refine g_goto (pt := 69) d_123_61 (by decide) ?_
            exact g_vret d_123_69 rt_123 h
        · replace h := h.2 c
          refine g_aloadn (pc' := 44) d_123_43 rfl rfl ?_
          refine g_iloadn (pc' := 45) d_123_44 rfl rfl ?_
          obtain ⟨w13, hk14, h⟩ := h
          refine g_callV (pc' := 48) d_123_45 rfl st_123_25 na_124 ml_124 rfl rfl rfl rm_123_124 rfl rfl ow_124 (x_gss (x_gss hw2)) hk14 ?_
          refine g_goto (pt := 69) d_123_48 (by decide) ?_
          exact g_vret d_123_69 rt_123 h
      · replace h := h.2 c
        refine g_iloadn (pc' := 21) d_123_20 rfl rfl ?_
        refine g_aloadn (pc' := 22) d_123_21 rfl rfl ?_
        obtain ⟨x15, hv16, h⟩ := h
        refine g_getf (pc' := 25) d_123_22 rfl st_123_22 hw2 hv16 ?_
        refine g_ic_ne (pc' := 28) (pt := 29) d_123_25 (by decide) rfl (fun c => ?_) (fun c => ?_)
        · replace h := h.1 c
          refine g_aloadn (pc' := 30) d_123_29 rfl rfl ?_
          refine g_iloadn (pc' := 31) d_123_30 rfl rfl ?_
          obtain ⟨hc17, h⟩ := h
          have h := h _ rfl
          refine g_putf (pc' := 34) d_123_31 rfl st_123_18 ft_8_2 ff_8_2 rfl (Or.inl rfl) hw2 hc17 ?_
          refine g_aloadn (pc' := 35) d_123_34 rfl rfl ?_
          refine g_iloadn (pc' := 36) d_123_35 rfl rfl ?_
          obtain ⟨hc19, h⟩ := h
          have h := h _ rfl
          refine g_putf (pc' := 39) d_123_36 rfl st_123_22 ft_8_3 ff_8_3 rfl (Or.inl rfl) (x_gss hw2) hc19 ?_
          refine g_iloadn (pc' := 40) d_123_39 rfl rfl ?_
          refine g_if_ne (pc' := 43) (pt := 51) d_123_40 (by decide) rfl (fun c => ?_) (fun c => ?_)
          · replace h := h.1 c
            refine g_iloadn (pc' := 52) d_123_51 rfl rfl ?_
            refine g_iconst (pc' := 53) d_123_52 rfl ci_1 ?_
            refine g_ic_ne (pc' := 56) (pt := 64) d_123_53 (by decide) rfl (fun c => ?_) (fun c => ?_)
            · replace h := h.1 c
              refine g_aloadn (pc' := 65) d_123_64 rfl rfl ?_
              refine g_iloadn (pc' := 66) d_123_65 rfl rfl ?_
              obtain ⟨w21, hk22, h⟩ := h
              refine g_callV (pc' := 69) d_123_66 rfl st_123_32 na_126 ml_126 rfl rfl rfl rm_123_126 rfl rfl ow_126 (x_gss (x_gss hw2)) hk22 ?_
              exact g_vret d_123_69 rt_123 h
            · replace h := h.2 c
              refine g_aloadn (pc' := 57) d_123_56 rfl rfl ?_
              refine g_iloadn (pc' := 58) d_123_57 rfl rfl ?_
              obtain ⟨w23, hk24, h⟩ := h
              refine g_callV (pc' := 61) d_123_58 rfl st_123_29 na_125 ml_125 rfl rfl rfl rm_123_125 rfl rfl ow_125 (x_gss (x_gss hw2)) hk24 ?_
              refine g_goto (pt := 69) d_123_61 (by decide) ?_
              exact g_vret d_123_69 rt_123 h
          · replace h := h.2 c
            refine g_aloadn (pc' := 44) d_123_43 rfl rfl ?_
            refine g_iloadn (pc' := 45) d_123_44 rfl rfl ?_
            obtain ⟨w25, hk26, h⟩ := h
            refine g_callV (pc' := 48) d_123_45 rfl st_123_25 na_124 ml_124 rfl rfl rfl rm_123_124 rfl rfl ow_124 (x_gss (x_gss hw2)) hk26 ?_
            refine g_goto (pt := 69) d_123_48 (by decide) ?_
            exact g_vret d_123_69 rt_123 h
        · replace h := h.2 c
          exact g_vret d_123_28 rt_123 h
-- 124 BernoulliWays$ByWays.fillByRecurrence(I)V
theorem S_124_0 {a0 : Nat} {i1 : Int32} {w : xW} {r : Option Value × xW} (h : ∃ fs1, w[a0]? = some (.inr (8, fs1)) ∧ ∃ b3, fs1[1]? = some (.ref b3) ∧ ∃ w5, xCall 6 [.ref b3, .long (0 : Int64)] w (none, w5) ∧ ∃ fs7, w5[a0]? = some (.inr (8, fs7)) ∧ ∃ b9, fs7[1]? = some (.ref b9) ∧ ∃ n11 f12, w5[b9]? = some (.inl (.inr (n11, f12))) ∧ (¬ ((0 : Int32) < 0 ∨ n11 ≤ (0 : Int32).toNatClampNeg)) ∧ ∀ w15, w15 = w5.set b9 (.inl (.inr (n11, (vp_updL f12 (0 : Int32).toNatClampNeg (1 : Int64))))) → ∃ fs16, w15[a0]? = some (.inr (8, fs16)) ∧ ∃ b18, fs16[1]? = some (.ref b18) ∧ ∃ n20 f21, w15[b18]? = some (.inl (.inr (n20, f21))) ∧ (¬ ((1 : Int32) < 0 ∨ n20 ≤ (1 : Int32).toNatClampNeg)) ∧ ∀ w24, w24 = w15.set b18 (.inl (.inr (n20, (vp_updL f21 (1 : Int32).toNatClampNeg (1 : Int64))))) → ∃ fs25, w24[a0]? = some (.inr (8, fs25)) ∧ ∃ b27, fs25[0]? = some (.ref b27) ∧ ∃ n29 f30, w24[b27]? = some (.inl (.inr (n29, f30))) ∧ (¬ ((0 : Int32) < 0 ∨ n29 ≤ (0 : Int32).toNatClampNeg)) ∧ ∀ w33, w33 = w24.set b27 (.inl (.inr (n29, (vp_updL f30 (0 : Int32).toNatClampNeg (1 : Int64))))) → xGo 124 31 [some (.ref a0), some (.int i1), some (.int (1 : Int32)), none, none, none] [] w33 r) : xGo 124 0 [some (.ref a0), some (.int i1), none, none, none, none] [] w r := by
  refine g_aloadn (pc' := 1) d_124_0 rfl rfl ?_
  obtain ⟨fs1, hw2, h⟩ := h
  obtain ⟨b3, hv4, h⟩ := h
  refine g_getf (pc' := 4) d_124_1 rfl st_124_15 hw2 hv4 ?_
  refine g_lconst (pc' := 5) d_124_4 rfl cl_0 ?_
  obtain ⟨w5, hk6, h⟩ := h
  refine g_callS (pc' := 8) d_124_5 rfl st_124_35 (Or.inl rfl) na_6 ml_6 rfl rfl rfl rm_124_6 rfl rfl hk6 ?_
  refine g_aloadn (pc' := 9) d_124_8 rfl rfl ?_
  obtain ⟨fs7, hw8, h⟩ := h
  obtain ⟨b9, hv10, h⟩ := h
  refine g_getf (pc' := 12) d_124_9 rfl st_124_15 hw8 hv10 ?_
  refine g_iconst (pc' := 13) d_124_12 rfl ci_0 ?_
  refine g_lconst (pc' := 14) d_124_13 rfl cl_1 ?_
  obtain ⟨n11, f12, hw13, h⟩ := h
  obtain ⟨hc14, h⟩ := h
  have h := h _ rfl
  refine g_last (pc' := 15) d_124_14 rfl hw13 hc14 ?_
  refine g_aloadn (pc' := 16) d_124_15 rfl rfl ?_
  obtain ⟨fs16, hw17, h⟩ := h
  obtain ⟨b18, hv19, h⟩ := h
  refine g_getf (pc' := 19) d_124_16 rfl st_124_15 hw17 hv19 ?_
  refine g_iconst (pc' := 20) d_124_19 rfl ci_1 ?_
  refine g_lconst (pc' := 21) d_124_20 rfl cl_1 ?_
  obtain ⟨n20, f21, hw22, h⟩ := h
  obtain ⟨hc23, h⟩ := h
  have h := h _ rfl
  refine g_last (pc' := 22) d_124_21 rfl hw22 hc23 ?_
  refine g_aloadn (pc' := 23) d_124_22 rfl rfl ?_
  obtain ⟨fs25, hw26, h⟩ := h
  obtain ⟨b27, hv28, h⟩ := h
  refine g_getf (pc' := 26) d_124_23 rfl st_124_9 hw26 hv28 ?_
  refine g_iconst (pc' := 27) d_124_26 rfl ci_0 ?_
  refine g_lconst (pc' := 28) d_124_27 rfl cl_1 ?_
  obtain ⟨n29, f30, hw31, h⟩ := h
  obtain ⟨hc32, h⟩ := h
  have h := h _ rfl
  refine g_last (pc' := 29) d_124_28 rfl hw31 hc32 ?_
  refine g_iconst (pc' := 30) d_124_29 rfl ci_1 ?_
  refine g_istoren (pc' := 31) (l' := [some (.ref a0), some (.int i1), some (.int (1 : Int32)), none, none, none]) d_124_30 rfl ml_124 rfl rfl ?_
  exact h
theorem S_124_31 {a0 : Nat} {i1 : Int32} {i2 : Int32} {w : xW} {r : Option Value × xW} (h : ((i1 - (2 : Int32)) < i2 → r = (none, w)) ∧ (¬ ((i1 - (2 : Int32)) < i2) → ∃ fs1, w[a0]? = some (.inr (8, fs1)) ∧ ∃ b3, fs1[1]? = some (.ref b3) ∧ ∃ n5 f6, w[b3]? = some (.inl (.inr (n5, f6))) ∧ ((Int32.ofNat n5) ≤ (i2 + (1 : Int32)) → r = (none, w)) ∧ (¬ ((Int32.ofNat n5) ≤ (i2 + (1 : Int32))) → ∀ v8 : Int32, v8 = (i2 + (1 : Int32)) → xGo 124 53 [some (.ref a0), some (.int i1), some (.int i2), some (.int v8), none, none] [] w r))) : xGo 124 31 [some (.ref a0), some (.int i1), some (.int i2), none, none, none] [] w r := by
  refine g_iloadn (pc' := 32) d_124_31 rfl rfl ?_
  refine g_iloadn (pc' := 33) d_124_32 rfl rfl ?_
  refine g_iconst (pc' := 34) d_124_33 rfl ci_2 ?_
  refine g_isub (pc' := 35) d_124_34 rfl ?_
  refine g_ic_gt (pc' := 38) (pt := 155) d_124_35 (by decide) rfl (fun c => ?_) (fun c => ?_)
  · replace h := h.1 c
    exact g_vret d_124_155 rt_124 h
  · replace h := h.2 c
    refine g_iloadn (pc' := 39) d_124_38 rfl rfl ?_
    refine g_iconst (pc' := 40) d_124_39 rfl ci_1 ?_
    refine g_iadd (pc' := 41) d_124_40 rfl ?_
    refine g_aloadn (pc' := 42) d_124_41 rfl rfl ?_
    obtain ⟨fs1, hw2, h⟩ := h
    obtain ⟨b3, hv4, h⟩ := h
    refine g_getf (pc' := 45) d_124_42 rfl st_124_15 hw2 hv4 ?_
    obtain ⟨n5, f6, hw7, h⟩ := h
    refine g_lenl (pc' := 46) d_124_45 rfl hw7 ?_
    refine g_ic_ge (pc' := 49) (pt := 155) d_124_46 (by decide) rfl (fun c => ?_) (fun c => ?_)
    · replace h := h.1 c
      exact g_vret d_124_155 rt_124 h
    · replace h := h.2 c
      refine g_iloadn (pc' := 50) d_124_49 rfl rfl ?_
      refine g_iconst (pc' := 51) d_124_50 rfl ci_1 ?_
      refine g_iadd (pc' := 52) d_124_51 rfl ?_
      have h := h _ rfl
      refine g_istoren (pc' := 53) (l' := [some (.ref a0), some (.int i1), some (.int i2), some (.int ((i2 + (1 : Int32)))), none, none]) d_124_52 rfl ml_124 rfl rfl ?_
      exact h
theorem S_124_53 {a0 : Nat} {i1 : Int32} {i2 : Int32} {i3 : Int32} {w : xW} {r : Option Value × xW} (h : (i3 < (1 : Int32) → xGo 124 93 [some (.ref a0), some (.int i1), some (.int i2), some (.long (0 : Int64)), none, some (.int (0 : Int32))] [] w r) ∧ (¬ (i3 < (1 : Int32)) → ∃ fs1, w[a0]? = some (.inr (8, fs1)) ∧ ∃ b3, fs1[1]? = some (.ref b3) ∧ ∃ n5 f6, w[b3]? = some (.inl (.inr (n5, f6))) ∧ (¬ (i3 < 0 ∨ n5 ≤ i3.toNatClampNeg)) ∧ (¬ ((i3 - (1 : Int32)) < 0 ∨ n5 ≤ (i3 - (1 : Int32)).toNatClampNeg)) ∧ (¬ (i1.toInt64) = 0) ∧ ∀ v11 : Int64, v11 = (lrem ((f6 i3.toNatClampNeg) + (f6 (i3 - (1 : Int32)).toNatClampNeg)) (i1.toInt64)) → (¬ (i3 < 0 ∨ n5 ≤ i3.toNatClampNeg)) ∧ ∀ w13, w13 = w.set b3 (.inl (.inr (n5, (vp_updL f6 i3.toNatClampNeg v11)))) → ∀ v14 : Int32, v14 = i3 + (-1 : Int32) → xGo 124 53 [some (.ref a0), some (.int i1), some (.int i2), some (.int v14), none, none] [] w13 r)) : xGo 124 53 [some (.ref a0), some (.int i1), some (.int i2), some (.int i3), none, none] [] w r := by
  refine g_iloadn (pc' := 54) d_124_53 rfl rfl ?_
  refine g_iconst (pc' := 55) d_124_54 rfl ci_1 ?_
  refine g_ic_lt (pc' := 58) (pt := 88) d_124_55 (by decide) rfl (fun c => ?_) (fun c => ?_)
  · replace h := h.1 c
    refine g_lconst (pc' := 89) d_124_88 rfl cl_0 ?_
    refine g_lstoren (pc' := 90) (l' := [some (.ref a0), some (.int i1), some (.int i2), some (.long (0 : Int64)), none, none]) d_124_89 rfl ml_124 rfl rfl ?_
    refine g_iconst (pc' := 91) d_124_90 rfl ci_0 ?_
    refine g_istore (pc' := 93) (l' := [some (.ref a0), some (.int i1), some (.int i2), some (.long (0 : Int64)), none, some (.int (0 : Int32))]) d_124_91 rfl ml_124 rfl rfl ?_
    exact h
  · replace h := h.2 c
    refine g_aloadn (pc' := 59) d_124_58 rfl rfl ?_
    obtain ⟨fs1, hw2, h⟩ := h
    obtain ⟨b3, hv4, h⟩ := h
    refine g_getf (pc' := 62) d_124_59 rfl st_124_15 hw2 hv4 ?_
    refine g_iloadn (pc' := 63) d_124_62 rfl rfl ?_
    refine g_aloadn (pc' := 64) d_124_63 rfl rfl ?_
    refine g_getf (pc' := 67) d_124_64 rfl st_124_15 hw2 hv4 ?_
    refine g_iloadn (pc' := 68) d_124_67 rfl rfl ?_
    obtain ⟨n5, f6, hw7, h⟩ := h
    obtain ⟨hc8, h⟩ := h
    refine g_lald (pc' := 69) d_124_68 rfl hw7 hc8 ?_
    refine g_aloadn (pc' := 70) d_124_69 rfl rfl ?_
    refine g_getf (pc' := 73) d_124_70 rfl st_124_15 hw2 hv4 ?_
    refine g_iloadn (pc' := 74) d_124_73 rfl rfl ?_
    refine g_iconst (pc' := 75) d_124_74 rfl ci_1 ?_
    refine g_isub (pc' := 76) d_124_75 rfl ?_
    obtain ⟨hc9, h⟩ := h
    refine g_lald (pc' := 77) d_124_76 rfl hw7 hc9 ?_
    refine g_ladd (pc' := 78) d_124_77 rfl ?_
    refine g_iloadn (pc' := 79) d_124_78 rfl rfl ?_
    refine g_i2l (pc' := 80) d_124_79 rfl ?_
    obtain ⟨hc10, h⟩ := h
    refine g_lrem (pc' := 81) d_124_80 rfl hc10 ?_
    have h := h _ rfl
    obtain ⟨hc12, h⟩ := h
    have h := h _ rfl
    refine g_last (pc' := 82) d_124_81 rfl hw7 hc12 ?_
    have h := h _ rfl
    refine g_iinc (pc' := 85) (l' := [some (.ref a0), some (.int i1), some (.int i2), some (.int (i3 + (-1 : Int32))), none, none]) d_124_82 rfl rfl ci_m1 ml_124 rfl rfl ?_
    refine g_goto (pt := 53) d_124_85 (by decide) ?_
    exact h
theorem S_124_93 {a0 : Nat} {i1 : Int32} {i2 : Int32} {l3 : Int64} {i5 : Int32} {w : xW} {r : Option Value × xW} (h : (i2 ≤ i5 → ∃ fs1, w[a0]? = some (.inr (8, fs1)) ∧ ∃ b3, fs1[0]? = some (.ref b3) ∧ (¬ (i1.toInt64) = 0) ∧ ∃ r8 w6, xCall 53 [.long ((i2 + (1 : Int32)).toInt64), .long (i1.toInt64)] w (some (.long r8), w6) ∧ (¬ (i1.toInt64) = 0) ∧ ∃ n10 f11, w6[b3]? = some (.inl (.inr (n10, f11))) ∧ ∀ v13 : Int64, v13 = (lrem (((i1.toInt64) - (lrem l3 (i1.toInt64))) * r8) (i1.toInt64)) → (¬ (i2 < 0 ∨ n10 ≤ i2.toNatClampNeg)) ∧ ∀ w15, w15 = w6.set b3 (.inl (.inr (n10, (vp_updL f11 i2.toNatClampNeg v13)))) → ∀ v16 : Int32, v16 = i2 + (1 : Int32) → xGo 124 31 [some (.ref a0), some (.int i1), some (.int v16), none, none, none] [] w15 r) ∧ (¬ (i2 ≤ i5) → ∃ fs17, w[a0]? = some (.inr (8, fs17)) ∧ ∃ b19, fs17[1]? = some (.ref b19) ∧ ∃ n21 f22, w[b19]? = some (.inl (.inr (n21, f22))) ∧ (¬ (i5 < 0 ∨ n21 ≤ i5.toNatClampNeg)) ∧ ∃ b25, fs17[0]? = some (.ref b25) ∧ ∃ n27 f28, w[b25]? = some (.inl (.inr (n27, f28))) ∧ (¬ (i5 < 0 ∨ n27 ≤ i5.toNatClampNeg)) ∧ ∀ v31 : Int64, v31 = (l3 + ((f22 i5.toNatClampNeg) * (f28 i5.toNatClampNeg))) → ∀ v32 : Int32, v32 = i5 + (1 : Int32) → xGo 124 93 [some (.ref a0), some (.int i1), some (.int i2), some (.long v31), none, some (.int v32)] [] w r)) : xGo 124 93 [some (.ref a0), some (.int i1), some (.int i2), some (.long l3), none, some (.int i5)] [] w r := by
  refine g_iload (pc' := 95) d_124_93 rfl rfl ?_
  refine g_iloadn (pc' := 96) d_124_95 rfl rfl ?_
  refine g_ic_ge (pc' := 99) (pt := 123) d_124_96 (by decide) rfl (fun c => ?_) (fun c => ?_)
  · replace h := h.1 c
    refine g_aloadn (pc' := 124) d_124_123 rfl rfl ?_
    obtain ⟨fs1, hw2, h⟩ := h
    obtain ⟨b3, hv4, h⟩ := h
    refine g_getf (pc' := 127) d_124_124 rfl st_124_9 hw2 hv4 ?_
    refine g_iloadn (pc' := 128) d_124_127 rfl rfl ?_
    refine g_iloadn (pc' := 129) d_124_128 rfl rfl ?_
    refine g_i2l (pc' := 130) d_124_129 rfl ?_
    refine g_lloadn (pc' := 131) d_124_130 rfl rfl ?_
    refine g_iloadn (pc' := 132) d_124_131 rfl rfl ?_
    refine g_i2l (pc' := 133) d_124_132 rfl ?_
    obtain ⟨hc5, h⟩ := h
    refine g_lrem (pc' := 134) d_124_133 rfl hc5 ?_
    refine g_lsub (pc' := 135) d_124_134 rfl ?_
    refine g_iloadn (pc' := 136) d_124_135 rfl rfl ?_
    refine g_iconst (pc' := 137) d_124_136 rfl ci_1 ?_
    refine g_iadd (pc' := 138) d_124_137 rfl ?_
    refine g_i2l (pc' := 139) d_124_138 rfl ?_
    refine g_iloadn (pc' := 140) d_124_139 rfl rfl ?_
    refine g_i2l (pc' := 141) d_124_140 rfl ?_
    obtain ⟨r8, w6, hk7, h⟩ := h
    refine g_callS (pc' := 144) d_124_141 rfl st_124_41 (Or.inl rfl) na_53 ml_53 rfl rfl rfl rm_124_53 rfl rfl hk7 ?_
    refine g_lmul (pc' := 145) d_124_144 rfl ?_
    refine g_iloadn (pc' := 146) d_124_145 rfl rfl ?_
    refine g_i2l (pc' := 147) d_124_146 rfl ?_
    obtain ⟨hc9, h⟩ := h
    refine g_lrem (pc' := 148) d_124_147 rfl hc9 ?_
    obtain ⟨n10, f11, hw12, h⟩ := h
    have h := h _ rfl
    obtain ⟨hc14, h⟩ := h
    have h := h _ rfl
    refine g_last (pc' := 149) d_124_148 rfl hw12 hc14 ?_
    have h := h _ rfl
    refine g_iinc (pc' := 152) (l' := [some (.ref a0), some (.int i1), some (.int (i2 + (1 : Int32))), some (.long l3), none, some (.int i5)]) d_124_149 rfl rfl ci_1 ml_124 rfl rfl ?_
    refine g_goto (pt := 31) d_124_152 (by decide) ?_
    exact xGo.more (xle_s (xle_s (xle_s (xle_n (xle_n (xle_n xle_0)))))) h
  · replace h := h.2 c
    refine g_lloadn (pc' := 100) d_124_99 rfl rfl ?_
    refine g_aloadn (pc' := 101) d_124_100 rfl rfl ?_
    obtain ⟨fs17, hw18, h⟩ := h
    obtain ⟨b19, hv20, h⟩ := h
    refine g_getf (pc' := 104) d_124_101 rfl st_124_15 hw18 hv20 ?_
    refine g_iload (pc' := 106) d_124_104 rfl rfl ?_
    obtain ⟨n21, f22, hw23, h⟩ := h
    obtain ⟨hc24, h⟩ := h
    refine g_lald (pc' := 107) d_124_106 rfl hw23 hc24 ?_
    refine g_aloadn (pc' := 108) d_124_107 rfl rfl ?_
    obtain ⟨b25, hv26, h⟩ := h
    refine g_getf (pc' := 111) d_124_108 rfl st_124_9 hw18 hv26 ?_
    refine g_iload (pc' := 113) d_124_111 rfl rfl ?_
    obtain ⟨n27, f28, hw29, h⟩ := h
    obtain ⟨hc30, h⟩ := h
    refine g_lald (pc' := 114) d_124_113 rfl hw29 hc30 ?_
    refine g_lmul (pc' := 115) d_124_114 rfl ?_
    refine g_ladd (pc' := 116) d_124_115 rfl ?_
    have h := h _ rfl
    refine g_lstoren (pc' := 117) (l' := [some (.ref a0), some (.int i1), some (.int i2), some (.long ((l3 + ((f22 i5.toNatClampNeg) * (f28 i5.toNatClampNeg))))), none, some (.int i5)]) d_124_116 rfl ml_124 rfl rfl ?_
    have h := h _ rfl
    refine g_iinc (pc' := 120) (l' := [some (.ref a0), some (.int i1), some (.int i2), some (.long ((l3 + ((f22 i5.toNatClampNeg) * (f28 i5.toNatClampNeg))))), none, some (.int (i5 + (1 : Int32)))]) d_124_117 rfl rfl ci_1 ml_124 rfl rfl ?_
    refine g_goto (pt := 93) d_124_120 (by decide) ?_
    exact h
-- 125 BernoulliWays$ByWays.fillByTriangle(I)V
theorem S_125_0 {a0 : Nat} {i1 : Int32} {w : xW} {r : Option Value × xW} (h : xGo 125 2 [some (.ref a0), some (.int i1), some (.int (0 : Int32)), none] [] w r) : xGo 125 0 [some (.ref a0), some (.int i1), none, none] [] w r := by
  refine g_iconst (pc' := 1) d_125_0 rfl ci_0 ?_
  refine g_istoren (pc' := 2) (l' := [some (.ref a0), some (.int i1), some (.int (0 : Int32)), none]) d_125_1 rfl ml_125 rfl rfl ?_
  exact h
theorem S_125_2 {a0 : Nat} {i1 : Int32} {i2 : Int32} {w : xW} {r : Option Value × xW} (h : ((i1 - (2 : Int32)) < i2 → xGo 125 41 [some (.ref a0), some (.int i1), some (.int (0 : Int32)), none] [] w r) ∧ (¬ ((i1 - (2 : Int32)) < i2) → ∃ fs1, w[a0]? = some (.inr (8, fs1)) ∧ ∃ b3, fs1[1]? = some (.ref b3) ∧ ∃ n5 f6, w[b3]? = some (.inl (.inr (n5, f6))) ∧ ((Int32.ofNat n5) ≤ i2 → xGo 125 41 [some (.ref a0), some (.int i1), some (.int (0 : Int32)), none] [] w r) ∧ (¬ ((Int32.ofNat n5) ≤ i2) → ∃ r10 w8, xCall 53 [.long ((i2 + (1 : Int32)).toInt64), .long (i1.toInt64)] w (some (.long r10), w8) ∧ ∃ n11 f12, w8[b3]? = some (.inl (.inr (n11, f12))) ∧ (¬ (i2 < 0 ∨ n11 ≤ i2.toNatClampNeg)) ∧ ∀ w15, w15 = w8.set b3 (.inl (.inr (n11, (vp_updL f12 i2.toNatClampNeg r10)))) → ∀ v16 : Int32, v16 = i2 + (1 : Int32) → xGo 125 2 [some (.ref a0), some (.int i1), some (.int v16), none] [] w15 r))) : xGo 125 2 [some (.ref a0), some (.int i1), some (.int i2), none] [] w r := by
  refine g_iloadn (pc' := 3) d_125_2 rfl rfl ?_
  refine g_iloadn (pc' := 4) d_125_3 rfl rfl ?_
  refine g_iconst (pc' := 5) d_125_4 rfl ci_2 ?_
  refine g_isub (pc' := 6) d_125_5 rfl ?_
  refine g_ic_gt (pc' := 9) (pt := 39) d_125_6 (by decide) rfl (fun c => ?_) (fun c => ?_)
  · replace h := h.1 c
    refine g_iconst (pc' := 40) d_125_39 rfl ci_0 ?_
    refine g_istoren (pc' := 41) (l' := [some (.ref a0), some (.int i1), some (.int (0 : Int32)), none]) d_125_40 rfl ml_125 rfl rfl ?_
    exact h
  · replace h := h.2 c
    refine g_iloadn (pc' := 10) d_125_9 rfl rfl ?_
    refine g_aloadn (pc' := 11) d_125_10 rfl rfl ?_
    obtain ⟨fs1, hw2, h⟩ := h
    obtain ⟨b3, hv4, h⟩ := h
    refine g_getf (pc' := 14) d_125_11 rfl st_125_15 hw2 hv4 ?_
    obtain ⟨n5, f6, hw7, h⟩ := h
    refine g_lenl (pc' := 15) d_125_14 rfl hw7 ?_
    refine g_ic_ge (pc' := 18) (pt := 39) d_125_15 (by decide) rfl (fun c => ?_) (fun c => ?_)
    · replace h := h.1 c
      refine g_iconst (pc' := 40) d_125_39 rfl ci_0 ?_
      refine g_istoren (pc' := 41) (l' := [some (.ref a0), some (.int i1), some (.int (0 : Int32)), none]) d_125_40 rfl ml_125 rfl rfl ?_
      exact h
    · replace h := h.2 c
      refine g_aloadn (pc' := 19) d_125_18 rfl rfl ?_
      refine g_getf (pc' := 22) d_125_19 rfl st_125_15 hw2 hv4 ?_
      refine g_iloadn (pc' := 23) d_125_22 rfl rfl ?_
      refine g_iloadn (pc' := 24) d_125_23 rfl rfl ?_
      refine g_iconst (pc' := 25) d_125_24 rfl ci_1 ?_
      refine g_iadd (pc' := 26) d_125_25 rfl ?_
      refine g_i2l (pc' := 27) d_125_26 rfl ?_
      refine g_iloadn (pc' := 28) d_125_27 rfl rfl ?_
      refine g_i2l (pc' := 29) d_125_28 rfl ?_
      obtain ⟨r10, w8, hk9, h⟩ := h
      refine g_callS (pc' := 32) d_125_29 rfl st_125_41 (Or.inl rfl) na_53 ml_53 rfl rfl rfl rm_125_53 rfl rfl hk9 ?_
      obtain ⟨n11, f12, hw13, h⟩ := h
      obtain ⟨hc14, h⟩ := h
      have h := h _ rfl
      refine g_last (pc' := 33) d_125_32 rfl hw13 hc14 ?_
      have h := h _ rfl
      refine g_iinc (pc' := 36) (l' := [some (.ref a0), some (.int i1), some (.int (i2 + (1 : Int32))), none]) d_125_33 rfl rfl ci_1 ml_125 rfl rfl ?_
      refine g_goto (pt := 2) d_125_36 (by decide) ?_
      exact h
theorem S_125_41 {a0 : Nat} {i1 : Int32} {i2 : Int32} {w : xW} {r : Option Value × xW} (h : ((i1 - (2 : Int32)) < i2 → ∃ fs1, w[a0]? = some (.inr (8, fs1)) ∧ ∃ b3, fs1[0]? = some (.ref b3) ∧ ∃ n5 f6, w[b3]? = some (.inl (.inr (n5, f6))) ∧ (¬ ((1 : Int32) < 0 ∨ n5 ≤ (1 : Int32).toNatClampNeg)) ∧ (¬ (i1.toInt64) = 0) ∧ ∀ v10 : Int64, v10 = (lrem (((f6 (1 : Int32).toNatClampNeg) + (i1.toInt64)) - (1 : Int64)) (i1.toInt64)) → (¬ ((1 : Int32) < 0 ∨ n5 ≤ (1 : Int32).toNatClampNeg)) ∧ ∀ w12, w12 = w.set b3 (.inl (.inr (n5, (vp_updL f6 (1 : Int32).toNatClampNeg v10)))) → r = (none, w12)) ∧ (¬ ((i1 - (2 : Int32)) < i2) → ∃ fs13, w[a0]? = some (.inr (8, fs13)) ∧ ∃ b15, fs13[0]? = some (.ref b15) ∧ ∃ n17 f18, w[b15]? = some (.inl (.inr (n17, f18))) ∧ ((Int32.ofNat n17) ≤ i2 → (¬ ((1 : Int32) < 0 ∨ n17 ≤ (1 : Int32).toNatClampNeg)) ∧ (¬ (i1.toInt64) = 0) ∧ ∀ v22 : Int64, v22 = (lrem (((f18 (1 : Int32).toNatClampNeg) + (i1.toInt64)) - (1 : Int64)) (i1.toInt64)) → (¬ ((1 : Int32) < 0 ∨ n17 ≤ (1 : Int32).toNatClampNeg)) ∧ ∀ w24, w24 = w.set b15 (.inl (.inr (n17, (vp_updL f18 (1 : Int32).toNatClampNeg v22)))) → r = (none, w24)) ∧ (¬ ((Int32.ofNat n17) ≤ i2) → ∃ b25, fs13[1]? = some (.ref b25) ∧ ∃ n27 f28, w[b25]? = some (.inl (.inr (n27, f28))) ∧ (¬ ((0 : Int32) < 0 ∨ n27 ≤ (0 : Int32).toNatClampNeg)) ∧ ∀ v31 : Int64, v31 = (f28 (0 : Int32).toNatClampNeg) → (¬ (i2 < 0 ∨ n17 ≤ i2.toNatClampNeg)) ∧ ∀ w33, w33 = w.set b15 (.inl (.inr (n17, (vp_updL f18 i2.toNatClampNeg v31)))) → xGo 125 71 [some (.ref a0), some (.int i1), some (.int i2), some (.int (0 : Int32))] [] w33 r))) : xGo 125 41 [some (.ref a0), some (.int i1), some (.int i2), none] [] w r := by
  refine g_iloadn (pc' := 42) d_125_41 rfl rfl ?_
  refine g_iloadn (pc' := 43) d_125_42 rfl rfl ?_
  refine g_iconst (pc' := 44) d_125_43 rfl ci_2 ?_
  refine g_isub (pc' := 45) d_125_44 rfl ?_
  refine g_ic_gt (pc' := 48) (pt := 135) d_125_45 (by decide) rfl (fun c => ?_) (fun c => ?_)
  · replace h := h.1 c
    refine g_aloadn (pc' := 136) d_125_135 rfl rfl ?_
    obtain ⟨fs1, hw2, h⟩ := h
    obtain ⟨b3, hv4, h⟩ := h
    refine g_getf (pc' := 139) d_125_136 rfl st_125_9 hw2 hv4 ?_
    refine g_iconst (pc' := 140) d_125_139 rfl ci_1 ?_
    refine g_aloadn (pc' := 141) d_125_140 rfl rfl ?_
    refine g_getf (pc' := 144) d_125_141 rfl st_125_9 hw2 hv4 ?_
    refine g_iconst (pc' := 145) d_125_144 rfl ci_1 ?_
    obtain ⟨n5, f6, hw7, h⟩ := h
    obtain ⟨hc8, h⟩ := h
    refine g_lald (pc' := 146) d_125_145 rfl hw7 hc8 ?_
    refine g_iloadn (pc' := 147) d_125_146 rfl rfl ?_
    refine g_i2l (pc' := 148) d_125_147 rfl ?_
    refine g_ladd (pc' := 149) d_125_148 rfl ?_
    refine g_lconst (pc' := 150) d_125_149 rfl cl_1 ?_
    refine g_lsub (pc' := 151) d_125_150 rfl ?_
    refine g_iloadn (pc' := 152) d_125_151 rfl rfl ?_
    refine g_i2l (pc' := 153) d_125_152 rfl ?_
    obtain ⟨hc9, h⟩ := h
    refine g_lrem (pc' := 154) d_125_153 rfl hc9 ?_
    have h := h _ rfl
    obtain ⟨hc11, h⟩ := h
    have h := h _ rfl
    refine g_last (pc' := 155) d_125_154 rfl hw7 hc11 ?_
    exact g_vret d_125_155 rt_125 h
  · replace h := h.2 c
    refine g_iloadn (pc' := 49) d_125_48 rfl rfl ?_
    refine g_aloadn (pc' := 50) d_125_49 rfl rfl ?_
    obtain ⟨fs13, hw14, h⟩ := h
    obtain ⟨b15, hv16, h⟩ := h
    refine g_getf (pc' := 53) d_125_50 rfl st_125_9 hw14 hv16 ?_
    obtain ⟨n17, f18, hw19, h⟩ := h
    refine g_lenl (pc' := 54) d_125_53 rfl hw19 ?_
    refine g_ic_ge (pc' := 57) (pt := 135) d_125_54 (by decide) rfl (fun c => ?_) (fun c => ?_)
    · replace h := h.1 c
      refine g_aloadn (pc' := 136) d_125_135 rfl rfl ?_
      refine g_getf (pc' := 139) d_125_136 rfl st_125_9 hw14 hv16 ?_
      refine g_iconst (pc' := 140) d_125_139 rfl ci_1 ?_
      refine g_aloadn (pc' := 141) d_125_140 rfl rfl ?_
      refine g_getf (pc' := 144) d_125_141 rfl st_125_9 hw14 hv16 ?_
      refine g_iconst (pc' := 145) d_125_144 rfl ci_1 ?_
      obtain ⟨hc20, h⟩ := h
      refine g_lald (pc' := 146) d_125_145 rfl hw19 hc20 ?_
      refine g_iloadn (pc' := 147) d_125_146 rfl rfl ?_
      refine g_i2l (pc' := 148) d_125_147 rfl ?_
      refine g_ladd (pc' := 149) d_125_148 rfl ?_
      refine g_lconst (pc' := 150) d_125_149 rfl cl_1 ?_
      refine g_lsub (pc' := 151) d_125_150 rfl ?_
      refine g_iloadn (pc' := 152) d_125_151 rfl rfl ?_
      refine g_i2l (pc' := 153) d_125_152 rfl ?_
      obtain ⟨hc21, h⟩ := h
      refine g_lrem (pc' := 154) d_125_153 rfl hc21 ?_
      have h := h _ rfl
      obtain ⟨hc23, h⟩ := h
      have h := h _ rfl
      refine g_last (pc' := 155) d_125_154 rfl hw19 hc23 ?_
      exact g_vret d_125_155 rt_125 h
    · replace h := h.2 c
      refine g_aloadn (pc' := 58) d_125_57 rfl rfl ?_
      refine g_getf (pc' := 61) d_125_58 rfl st_125_9 hw14 hv16 ?_
      refine g_iloadn (pc' := 62) d_125_61 rfl rfl ?_
      refine g_aloadn (pc' := 63) d_125_62 rfl rfl ?_
      obtain ⟨b25, hv26, h⟩ := h
      refine g_getf (pc' := 66) d_125_63 rfl st_125_15 hw14 hv26 ?_
      refine g_iconst (pc' := 67) d_125_66 rfl ci_0 ?_
      obtain ⟨n27, f28, hw29, h⟩ := h
      obtain ⟨hc30, h⟩ := h
      refine g_lald (pc' := 68) d_125_67 rfl hw29 hc30 ?_
      have h := h _ rfl
      obtain ⟨hc32, h⟩ := h
      have h := h _ rfl
      refine g_last (pc' := 69) d_125_68 rfl hw19 hc32 ?_
      refine g_iconst (pc' := 70) d_125_69 rfl ci_0 ?_
      refine g_istoren (pc' := 71) (l' := [some (.ref a0), some (.int i1), some (.int i2), some (.int (0 : Int32))]) d_125_70 rfl ml_125 rfl rfl ?_
      exact h
theorem S_125_71 {a0 : Nat} {i1 : Int32} {i2 : Int32} {i3 : Int32} {w : xW} {r : Option Value × xW} (h : (((i1 - (2 : Int32)) - i2) ≤ i3 → ∀ v1 : Int32, v1 = i2 + (1 : Int32) → xGo 125 41 [some (.ref a0), some (.int i1), some (.int v1), none] [] w r) ∧ (¬ (((i1 - (2 : Int32)) - i2) ≤ i3) → ∃ fs2, w[a0]? = some (.inr (8, fs2)) ∧ ∃ b4, fs2[1]? = some (.ref b4) ∧ ∃ n6 f7, w[b4]? = some (.inl (.inr (n6, f7))) ∧ ((Int32.ofNat n6) ≤ (i3 + (1 : Int32)) → ∀ v9 : Int32, v9 = i2 + (1 : Int32) → xGo 125 41 [some (.ref a0), some (.int i1), some (.int v9), none] [] w r) ∧ (¬ ((Int32.ofNat n6) ≤ (i3 + (1 : Int32))) → (¬ (i3 < 0 ∨ n6 ≤ i3.toNatClampNeg)) ∧ (¬ ((i3 + (1 : Int32)) < 0 ∨ n6 ≤ (i3 + (1 : Int32)).toNatClampNeg)) ∧ (¬ (i1.toInt64) = 0) ∧ ∀ v13 : Int64, v13 = (lrem (((i3 + (1 : Int32)).toInt64) * (((f7 i3.toNatClampNeg) + (i1.toInt64)) - (f7 (i3 + (1 : Int32)).toNatClampNeg))) (i1.toInt64)) → (¬ (i3 < 0 ∨ n6 ≤ i3.toNatClampNeg)) ∧ ∀ w15, w15 = w.set b4 (.inl (.inr (n6, (vp_updL f7 i3.toNatClampNeg v13)))) → ∀ v16 : Int32, v16 = i3 + (1 : Int32) → xGo 125 71 [some (.ref a0), some (.int i1), some (.int i2), some (.int v16)] [] w15 r))) : xGo 125 71 [some (.ref a0), some (.int i1), some (.int i2), some (.int i3)] [] w r := by
  refine g_iloadn (pc' := 72) d_125_71 rfl rfl ?_
  refine g_iloadn (pc' := 73) d_125_72 rfl rfl ?_
  refine g_iconst (pc' := 74) d_125_73 rfl ci_2 ?_
  refine g_isub (pc' := 75) d_125_74 rfl ?_
  refine g_iloadn (pc' := 76) d_125_75 rfl rfl ?_
  refine g_isub (pc' := 77) d_125_76 rfl ?_
  refine g_ic_ge (pc' := 80) (pt := 129) d_125_77 (by decide) rfl (fun c => ?_) (fun c => ?_)
  · replace h := h.1 c
    have h := h _ rfl
    refine g_iinc (pc' := 132) (l' := [some (.ref a0), some (.int i1), some (.int (i2 + (1 : Int32))), some (.int i3)]) d_125_129 rfl rfl ci_1 ml_125 rfl rfl ?_
    refine g_goto (pt := 41) d_125_132 (by decide) ?_
    exact xGo.more (xle_s (xle_s (xle_s (xle_n xle_0)))) h
  · replace h := h.2 c
    refine g_iloadn (pc' := 81) d_125_80 rfl rfl ?_
    refine g_iconst (pc' := 82) d_125_81 rfl ci_1 ?_
    refine g_iadd (pc' := 83) d_125_82 rfl ?_
    refine g_aloadn (pc' := 84) d_125_83 rfl rfl ?_
    obtain ⟨fs2, hw3, h⟩ := h
    obtain ⟨b4, hv5, h⟩ := h
    refine g_getf (pc' := 87) d_125_84 rfl st_125_15 hw3 hv5 ?_
    obtain ⟨n6, f7, hw8, h⟩ := h
    refine g_lenl (pc' := 88) d_125_87 rfl hw8 ?_
    refine g_ic_ge (pc' := 91) (pt := 129) d_125_88 (by decide) rfl (fun c => ?_) (fun c => ?_)
    · replace h := h.1 c
      have h := h _ rfl
      refine g_iinc (pc' := 132) (l' := [some (.ref a0), some (.int i1), some (.int (i2 + (1 : Int32))), some (.int i3)]) d_125_129 rfl rfl ci_1 ml_125 rfl rfl ?_
      refine g_goto (pt := 41) d_125_132 (by decide) ?_
      exact xGo.more (xle_s (xle_s (xle_s (xle_n xle_0)))) h
    · replace h := h.2 c
      refine g_aloadn (pc' := 92) d_125_91 rfl rfl ?_
      refine g_getf (pc' := 95) d_125_92 rfl st_125_15 hw3 hv5 ?_
      refine g_iloadn (pc' := 96) d_125_95 rfl rfl ?_
      refine g_iloadn (pc' := 97) d_125_96 rfl rfl ?_
      refine g_iconst (pc' := 98) d_125_97 rfl ci_1 ?_
      refine g_iadd (pc' := 99) d_125_98 rfl ?_
      refine g_i2l (pc' := 100) d_125_99 rfl ?_
      refine g_aloadn (pc' := 101) d_125_100 rfl rfl ?_
      refine g_getf (pc' := 104) d_125_101 rfl st_125_15 hw3 hv5 ?_
      refine g_iloadn (pc' := 105) d_125_104 rfl rfl ?_
      obtain ⟨hc10, h⟩ := h
      refine g_lald (pc' := 106) d_125_105 rfl hw8 hc10 ?_
      refine g_iloadn (pc' := 107) d_125_106 rfl rfl ?_
      refine g_i2l (pc' := 108) d_125_107 rfl ?_
      refine g_ladd (pc' := 109) d_125_108 rfl ?_
      refine g_aloadn (pc' := 110) d_125_109 rfl rfl ?_
      refine g_getf (pc' := 113) d_125_110 rfl st_125_15 hw3 hv5 ?_
      refine g_iloadn (pc' := 114) d_125_113 rfl rfl ?_
      refine g_iconst (pc' := 115) d_125_114 rfl ci_1 ?_
      refine g_iadd (pc' := 116) d_125_115 rfl ?_
      obtain ⟨hc11, h⟩ := h
      refine g_lald (pc' := 117) d_125_116 rfl hw8 hc11 ?_
      refine g_lsub (pc' := 118) d_125_117 rfl ?_
      refine g_lmul (pc' := 119) d_125_118 rfl ?_
      refine g_iloadn (pc' := 120) d_125_119 rfl rfl ?_
      refine g_i2l (pc' := 121) d_125_120 rfl ?_
      obtain ⟨hc12, h⟩ := h
      refine g_lrem (pc' := 122) d_125_121 rfl hc12 ?_
      have h := h _ rfl
      obtain ⟨hc14, h⟩ := h
      have h := h _ rfl
      refine g_last (pc' := 123) d_125_122 rfl hw8 hc14 ?_
      have h := h _ rfl
      refine g_iinc (pc' := 126) (l' := [some (.ref a0), some (.int i1), some (.int i2), some (.int (i3 + (1 : Int32)))]) d_125_123 rfl rfl ci_1 ml_125 rfl rfl ?_
      refine g_goto (pt := 71) d_125_126 (by decide) ?_
      exact h
-- 126 BernoulliWays$ByWays.fillByPowers(I)V
theorem S_126_0 {a0 : Nat} {i1 : Int32} {w : xW} {r : Option Value × xW} (h : ∀ v1 : Int64, v1 = ((i1.toInt64) * (i1.toInt64)) → ∃ fs2, w[a0]? = some (.inr (8, fs2)) ∧ ∃ b4, fs2[0]? = some (.ref b4) ∧ ∃ w6, xCall 6 [.ref b4, .long (0 : Int64)] w (none, w6) ∧ ∃ fs8, w6[a0]? = some (.inr (8, fs8)) ∧ ∃ b10, fs8[1]? = some (.ref b10) ∧ ∃ w12, xCall 6 [.ref b10, .long (1 : Int64)] w6 (none, w12) ∧ ∃ fs14, w12[a0]? = some (.inr (8, fs14)) ∧ ∃ b16, fs14[0]? = some (.ref b16) ∧ ∃ n18 f19, w12[b16]? = some (.inl (.inr (n18, f19))) ∧ (¬ ((0 : Int32) < 0 ∨ n18 ≤ (0 : Int32).toNatClampNeg)) ∧ ∀ w22, w22 = w12.set b16 (.inl (.inr (n18, (vp_updL f19 (0 : Int32).toNatClampNeg (1 : Int64))))) → ∃ fs23, w22[a0]? = some (.inr (8, fs23)) ∧ ∃ b25, fs23[0]? = some (.ref b25) ∧ ∃ r29 w27, xCall 53 [.long (2 : Int64), .long (i1.toInt64)] w22 (some (.long r29), w27) ∧ (¬ (i1.toInt64) = 0) ∧ ∃ n31 f32, w27[b25]? = some (.inl (.inr (n31, f32))) ∧ ∀ v34 : Int64, v34 = (lrem ((i1.toInt64) - r29) (i1.toInt64)) → (¬ ((1 : Int32) < 0 ∨ n31 ≤ (1 : Int32).toNatClampNeg)) ∧ ∀ w36, w36 = w27.set b25 (.inl (.inr (n31, (vp_updL f32 (1 : Int32).toNatClampNeg v34)))) → xGo 126 52 [some (.ref a0), some (.int i1), some (.long v1), none, some (.int (2 : Int32)), none, none, none] [] w36 r) : xGo 126 0 [some (.ref a0), some (.int i1), none, none, none, none, none, none] [] w r := by
  refine g_iloadn (pc' := 1) d_126_0 rfl rfl ?_
  refine g_i2l (pc' := 2) d_126_1 rfl ?_
  refine g_iloadn (pc' := 3) d_126_2 rfl rfl ?_
  refine g_i2l (pc' := 4) d_126_3 rfl ?_
  refine g_lmul (pc' := 5) d_126_4 rfl ?_
  have h := h _ rfl
  refine g_lstoren (pc' := 6) (l' := [some (.ref a0), some (.int i1), some (.long (((i1.toInt64) * (i1.toInt64)))), none, none, none, none, none]) d_126_5 rfl ml_126 rfl rfl ?_
  refine g_aloadn (pc' := 7) d_126_6 rfl rfl ?_
  obtain ⟨fs2, hw3, h⟩ := h
  obtain ⟨b4, hv5, h⟩ := h
  refine g_getf (pc' := 10) d_126_7 rfl st_126_9 hw3 hv5 ?_
  refine g_lconst (pc' := 11) d_126_10 rfl cl_0 ?_
  obtain ⟨w6, hk7, h⟩ := h
  refine g_callS (pc' := 14) d_126_11 rfl st_126_35 (Or.inl rfl) na_6 ml_6 rfl rfl rfl rm_126_6 rfl rfl hk7 ?_
  refine g_aloadn (pc' := 15) d_126_14 rfl rfl ?_
  obtain ⟨fs8, hw9, h⟩ := h
  obtain ⟨b10, hv11, h⟩ := h
  refine g_getf (pc' := 18) d_126_15 rfl st_126_15 hw9 hv11 ?_
  refine g_lconst (pc' := 19) d_126_18 rfl cl_1 ?_
  obtain ⟨w12, hk13, h⟩ := h
  refine g_callS (pc' := 22) d_126_19 rfl st_126_35 (Or.inl rfl) na_6 ml_6 rfl rfl rfl rm_126_6 rfl rfl hk13 ?_
  refine g_aloadn (pc' := 23) d_126_22 rfl rfl ?_
  obtain ⟨fs14, hw15, h⟩ := h
  obtain ⟨b16, hv17, h⟩ := h
  refine g_getf (pc' := 26) d_126_23 rfl st_126_9 hw15 hv17 ?_
  refine g_iconst (pc' := 27) d_126_26 rfl ci_0 ?_
  refine g_lconst (pc' := 28) d_126_27 rfl cl_1 ?_
  obtain ⟨n18, f19, hw20, h⟩ := h
  obtain ⟨hc21, h⟩ := h
  have h := h _ rfl
  refine g_last (pc' := 29) d_126_28 rfl hw20 hc21 ?_
  refine g_aloadn (pc' := 30) d_126_29 rfl rfl ?_
  obtain ⟨fs23, hw24, h⟩ := h
  obtain ⟨b25, hv26, h⟩ := h
  refine g_getf (pc' := 33) d_126_30 rfl st_126_9 hw24 hv26 ?_
  refine g_iconst (pc' := 34) d_126_33 rfl ci_1 ?_
  refine g_iloadn (pc' := 35) d_126_34 rfl rfl ?_
  refine g_i2l (pc' := 36) d_126_35 rfl ?_
  refine g_ldc2 (pc' := 39) d_126_36 rfl st_126_47 cL_2 ?_
  refine g_iloadn (pc' := 40) d_126_39 rfl rfl ?_
  refine g_i2l (pc' := 41) d_126_40 rfl ?_
  obtain ⟨r29, w27, hk28, h⟩ := h
  refine g_callS (pc' := 44) d_126_41 rfl st_126_41 (Or.inl rfl) na_53 ml_53 rfl rfl rfl rm_126_53 rfl rfl hk28 ?_
  refine g_lsub (pc' := 45) d_126_44 rfl ?_
  refine g_iloadn (pc' := 46) d_126_45 rfl rfl ?_
  refine g_i2l (pc' := 47) d_126_46 rfl ?_
  obtain ⟨hc30, h⟩ := h
  refine g_lrem (pc' := 48) d_126_47 rfl hc30 ?_
  obtain ⟨n31, f32, hw33, h⟩ := h
  have h := h _ rfl
  obtain ⟨hc35, h⟩ := h
  have h := h _ rfl
  refine g_last (pc' := 49) d_126_48 rfl hw33 hc35 ?_
  refine g_iconst (pc' := 50) d_126_49 rfl ci_2 ?_
  refine g_istore (pc' := 52) (l' := [some (.ref a0), some (.int i1), some (.long (((i1.toInt64) * (i1.toInt64)))), none, some (.int (2 : Int32)), none, none, none]) d_126_50 rfl ml_126 rfl rfl ?_
  exact h
theorem S_126_52 {a0 : Nat} {i1 : Int32} {l2 : Int64} {i4 : Int32} {w : xW} {r : Option Value × xW} (h : ((i1 - (3 : Int32)) < i4 → r = (none, w)) ∧ (¬ ((i1 - (3 : Int32)) < i4) → ∃ fs1, w[a0]? = some (.inr (8, fs1)) ∧ ∃ b3, fs1[0]? = some (.ref b3) ∧ ∃ n5 f6, w[b3]? = some (.inl (.inr (n5, f6))) ∧ ((Int32.ofNat n5) ≤ i4 → r = (none, w)) ∧ (¬ ((Int32.ofNat n5) ≤ i4) → xGo 126 76 [some (.ref a0), some (.int i1), some (.long l2), none, some (.int i4), some (.long (0 : Int64)), none, some (.int (1 : Int32))] [] w r))) : xGo 126 52 [some (.ref a0), some (.int i1), some (.long l2), none, some (.int i4), none, none, none] [] w r := by
  refine g_iload (pc' := 54) d_126_52 rfl rfl ?_
  refine g_iloadn (pc' := 55) d_126_54 rfl rfl ?_
  refine g_iconst (pc' := 56) d_126_55 rfl ci_3 ?_
  refine g_isub (pc' := 57) d_126_56 rfl ?_
  refine g_ic_gt (pc' := 60) (pt := 153) d_126_57 (by decide) rfl (fun c => ?_) (fun c => ?_)
  · replace h := h.1 c
    exact g_vret d_126_153 rt_126 h
  · replace h := h.2 c
    refine g_iload (pc' := 62) d_126_60 rfl rfl ?_
    refine g_aloadn (pc' := 63) d_126_62 rfl rfl ?_
    obtain ⟨fs1, hw2, h⟩ := h
    obtain ⟨b3, hv4, h⟩ := h
    refine g_getf (pc' := 66) d_126_63 rfl st_126_9 hw2 hv4 ?_
    obtain ⟨n5, f6, hw7, h⟩ := h
    refine g_lenl (pc' := 67) d_126_66 rfl hw7 ?_
    refine g_ic_ge (pc' := 70) (pt := 153) d_126_67 (by decide) rfl (fun c => ?_) (fun c => ?_)
    · replace h := h.1 c
      exact g_vret d_126_153 rt_126 h
    · replace h := h.2 c
      refine g_lconst (pc' := 71) d_126_70 rfl cl_0 ?_
      refine g_lstore (pc' := 73) (l' := [some (.ref a0), some (.int i1), some (.long l2), none, some (.int i4), some (.long (0 : Int64)), none, none]) d_126_71 rfl ml_126 rfl rfl ?_
      refine g_iconst (pc' := 74) d_126_73 rfl ci_1 ?_
      refine g_istore (pc' := 76) (l' := [some (.ref a0), some (.int i1), some (.long l2), none, some (.int i4), some (.long (0 : Int64)), none, some (.int (1 : Int32))]) d_126_74 rfl ml_126 rfl rfl ?_
      exact h
theorem S_126_76 {a0 : Nat} {i1 : Int32} {l2 : Int64} {i4 : Int32} {l5 : Int64} {i7 : Int32} {w : xW} {r : Option Value × xW} (h : (i1 ≤ i7 → ∃ fs1, w[a0]? = some (.inr (8, fs1)) ∧ ∃ b3, fs1[0]? = some (.ref b3) ∧ (¬ l2 = 0) ∧ (¬ (i1.toInt64) = 0) ∧ ∃ n7 f8, w[b3]? = some (.inl (.inr (n7, f8))) ∧ ∀ v10 : Int64, v10 = ((lrem l5 l2) / (i1.toInt64)) → (¬ (i4 < 0 ∨ n7 ≤ i4.toNatClampNeg)) ∧ ∀ w12, w12 = w.set b3 (.inl (.inr (n7, (vp_updL f8 i4.toNatClampNeg v10)))) → ∀ v13 : Int32, v13 = i4 + (2 : Int32) → xGo 126 52 [some (.ref a0), some (.int i1), some (.long l2), none, some (.int v13), none, none, none] [] w12 r) ∧ (¬ (i1 ≤ i7) → ∃ fs14, w[a0]? = some (.inr (8, fs14)) ∧ ∃ b16, fs14[1]? = some (.ref b16) ∧ ∃ n18 f19, w[b16]? = some (.inl (.inr (n18, f19))) ∧ ((Int32.ofNat n18) ≤ i7 → ∃ b21, fs14[0]? = some (.ref b21) ∧ (¬ l2 = 0) ∧ (¬ (i1.toInt64) = 0) ∧ ∃ n25 f26, w[b21]? = some (.inl (.inr (n25, f26))) ∧ ∀ v28 : Int64, v28 = ((lrem l5 l2) / (i1.toInt64)) → (¬ (i4 < 0 ∨ n25 ≤ i4.toNatClampNeg)) ∧ ∀ w30, w30 = w.set b21 (.inl (.inr (n25, (vp_updL f26 i4.toNatClampNeg v28)))) → ∀ v31 : Int32, v31 = i4 + (2 : Int32) → xGo 126 52 [some (.ref a0), some (.int i1), some (.long l2), none, some (.int v31), none, none, none] [] w30 r) ∧ (¬ ((Int32.ofNat n18) ≤ i7) → (¬ (i7 < 0 ∨ n18 ≤ i7.toNatClampNeg)) ∧ (¬ l2 = 0) ∧ ∀ v34 : Int64, v34 = (lrem ((f19 i7.toNatClampNeg) * ((i7 * i7).toInt64)) l2) → (¬ (i7 < 0 ∨ n18 ≤ i7.toNatClampNeg)) ∧ ∀ w36, w36 = w.set b16 (.inl (.inr (n18, (vp_updL f19 i7.toNatClampNeg v34)))) → ∃ fs37, w36[a0]? = some (.inr (8, fs37)) ∧ ∃ b39, fs37[1]? = some (.ref b39) ∧ ∃ n41 f42, w36[b39]? = some (.inl (.inr (n41, f42))) ∧ (¬ (i7 < 0 ∨ n41 ≤ i7.toNatClampNeg)) ∧ ∀ v45 : Int64, v45 = (l5 + (f42 i7.toNatClampNeg)) → ∀ v46 : Int32, v46 = i7 + (1 : Int32) → xGo 126 76 [some (.ref a0), some (.int i1), some (.long l2), none, some (.int i4), some (.long v45), none, some (.int v46)] [] w36 r))) : xGo 126 76 [some (.ref a0), some (.int i1), some (.long l2), none, some (.int i4), some (.long l5), none, some (.int i7)] [] w r := by
  refine g_iload (pc' := 78) d_126_76 rfl rfl ?_
  refine g_iloadn (pc' := 79) d_126_78 rfl rfl ?_
  refine g_ic_ge (pc' := 82) (pt := 133) d_126_79 (by decide) rfl (fun c => ?_) (fun c => ?_)
  · replace h := h.1 c
    refine g_aloadn (pc' := 134) d_126_133 rfl rfl ?_
    obtain ⟨fs1, hw2, h⟩ := h
    obtain ⟨b3, hv4, h⟩ := h
    refine g_getf (pc' := 137) d_126_134 rfl st_126_9 hw2 hv4 ?_
    refine g_iload (pc' := 139) d_126_137 rfl rfl ?_
    refine g_lload (pc' := 141) d_126_139 rfl rfl ?_
    refine g_lloadn (pc' := 142) d_126_141 rfl rfl ?_
    obtain ⟨hc5, h⟩ := h
    refine g_lrem (pc' := 143) d_126_142 rfl hc5 ?_
    refine g_iloadn (pc' := 144) d_126_143 rfl rfl ?_
    refine g_i2l (pc' := 145) d_126_144 rfl ?_
    obtain ⟨hc6, h⟩ := h
    refine g_ldiv (pc' := 146) d_126_145 rfl hc6 ?_
    obtain ⟨n7, f8, hw9, h⟩ := h
    have h := h _ rfl
    obtain ⟨hc11, h⟩ := h
    have h := h _ rfl
    refine g_last (pc' := 147) d_126_146 rfl hw9 hc11 ?_
    have h := h _ rfl
    refine g_iinc (pc' := 150) (l' := [some (.ref a0), some (.int i1), some (.long l2), none, some (.int (i4 + (2 : Int32))), some (.long l5), none, some (.int i7)]) d_126_147 rfl rfl ci_2 ml_126 rfl rfl ?_
    refine g_goto (pt := 52) d_126_150 (by decide) ?_
    exact xGo.more (xle_s (xle_s (xle_s (xle_n (xle_s (xle_n (xle_n (xle_n xle_0)))))))) h
  · replace h := h.2 c
    refine g_iload (pc' := 84) d_126_82 rfl rfl ?_
    refine g_aloadn (pc' := 85) d_126_84 rfl rfl ?_
    obtain ⟨fs14, hw15, h⟩ := h
    obtain ⟨b16, hv17, h⟩ := h
    refine g_getf (pc' := 88) d_126_85 rfl st_126_15 hw15 hv17 ?_
    obtain ⟨n18, f19, hw20, h⟩ := h
    refine g_lenl (pc' := 89) d_126_88 rfl hw20 ?_
    refine g_ic_ge (pc' := 92) (pt := 133) d_126_89 (by decide) rfl (fun c => ?_) (fun c => ?_)
    · replace h := h.1 c
      refine g_aloadn (pc' := 134) d_126_133 rfl rfl ?_
      obtain ⟨b21, hv22, h⟩ := h
      refine g_getf (pc' := 137) d_126_134 rfl st_126_9 hw15 hv22 ?_
      refine g_iload (pc' := 139) d_126_137 rfl rfl ?_
      refine g_lload (pc' := 141) d_126_139 rfl rfl ?_
      refine g_lloadn (pc' := 142) d_126_141 rfl rfl ?_
      obtain ⟨hc23, h⟩ := h
      refine g_lrem (pc' := 143) d_126_142 rfl hc23 ?_
      refine g_iloadn (pc' := 144) d_126_143 rfl rfl ?_
      refine g_i2l (pc' := 145) d_126_144 rfl ?_
      obtain ⟨hc24, h⟩ := h
      refine g_ldiv (pc' := 146) d_126_145 rfl hc24 ?_
      obtain ⟨n25, f26, hw27, h⟩ := h
      have h := h _ rfl
      obtain ⟨hc29, h⟩ := h
      have h := h _ rfl
      refine g_last (pc' := 147) d_126_146 rfl hw27 hc29 ?_
      have h := h _ rfl
      refine g_iinc (pc' := 150) (l' := [some (.ref a0), some (.int i1), some (.long l2), none, some (.int (i4 + (2 : Int32))), some (.long l5), none, some (.int i7)]) d_126_147 rfl rfl ci_2 ml_126 rfl rfl ?_
      refine g_goto (pt := 52) d_126_150 (by decide) ?_
      exact xGo.more (xle_s (xle_s (xle_s (xle_n (xle_s (xle_n (xle_n (xle_n xle_0)))))))) h
    · replace h := h.2 c
      refine g_aloadn (pc' := 93) d_126_92 rfl rfl ?_
      refine g_getf (pc' := 96) d_126_93 rfl st_126_15 hw15 hv17 ?_
      refine g_iload (pc' := 98) d_126_96 rfl rfl ?_
      refine g_aloadn (pc' := 99) d_126_98 rfl rfl ?_
      refine g_getf (pc' := 102) d_126_99 rfl st_126_15 hw15 hv17 ?_
      refine g_iload (pc' := 104) d_126_102 rfl rfl ?_
      obtain ⟨hc32, h⟩ := h
      refine g_lald (pc' := 105) d_126_104 rfl hw20 hc32 ?_
      refine g_iload (pc' := 107) d_126_105 rfl rfl ?_
      refine g_iload (pc' := 109) d_126_107 rfl rfl ?_
      refine g_imul (pc' := 110) d_126_109 rfl ?_
      refine g_i2l (pc' := 111) d_126_110 rfl ?_
      refine g_lmul (pc' := 112) d_126_111 rfl ?_
      refine g_lloadn (pc' := 113) d_126_112 rfl rfl ?_
      obtain ⟨hc33, h⟩ := h
      refine g_lrem (pc' := 114) d_126_113 rfl hc33 ?_
      have h := h _ rfl
      obtain ⟨hc35, h⟩ := h
      have h := h _ rfl
      refine g_last (pc' := 115) d_126_114 rfl hw20 hc35 ?_
      refine g_lload (pc' := 117) d_126_115 rfl rfl ?_
      refine g_aloadn (pc' := 118) d_126_117 rfl rfl ?_
      obtain ⟨fs37, hw38, h⟩ := h
      obtain ⟨b39, hv40, h⟩ := h
      refine g_getf (pc' := 121) d_126_118 rfl st_126_15 hw38 hv40 ?_
      refine g_iload (pc' := 123) d_126_121 rfl rfl ?_
      obtain ⟨n41, f42, hw43, h⟩ := h
      obtain ⟨hc44, h⟩ := h
      refine g_lald (pc' := 124) d_126_123 rfl hw43 hc44 ?_
      refine g_ladd (pc' := 125) d_126_124 rfl ?_
      have h := h _ rfl
      refine g_lstore (pc' := 127) (l' := [some (.ref a0), some (.int i1), some (.long l2), none, some (.int i4), some (.long ((l5 + (f42 i7.toNatClampNeg)))), none, some (.int i7)]) d_126_125 rfl ml_126 rfl rfl ?_
      have h := h _ rfl
      refine g_iinc (pc' := 130) (l' := [some (.ref a0), some (.int i1), some (.long l2), none, some (.int i4), some (.long ((l5 + (f42 i7.toNatClampNeg)))), none, some (.int (i7 + (1 : Int32)))]) d_126_127 rfl rfl ci_1 ml_126 rfl rfl ?_
      refine g_goto (pt := 76) d_126_130 (by decide) ?_
      exact h
-- 127 BernoulliWays$ByWays.residueOf(I)J
theorem S_127_0 {a0 : Nat} {i1 : Int32} {w : xW} {r : Option Value × xW} (h : (i1 < 0 → r = (some (.long (0 : Int64)), w)) ∧ (¬ (i1 < 0) → ∃ fs1, w[a0]? = some (.inr (8, fs1)) ∧ ∃ b3, fs1[0]? = some (.ref b3) ∧ ∃ n5 f6, w[b3]? = some (.inl (.inr (n5, f6))) ∧ ((Int32.ofNat n5) ≤ i1 → r = (some (.long (0 : Int64)), w)) ∧ (¬ ((Int32.ofNat n5) ≤ i1) → (¬ (i1 < 0 ∨ n5 ≤ i1.toNatClampNeg)) ∧ r = (some (.long (f6 i1.toNatClampNeg)), w)))) : xGo 127 0 [some (.ref a0), some (.int i1)] [] w r := by
  refine g_iloadn (pc' := 1) d_127_0 rfl rfl ?_
  refine g_if_lt (pc' := 4) (pt := 22) d_127_1 (by decide) rfl (fun c => ?_) (fun c => ?_)
  · replace h := h.1 c
    refine g_lconst (pc' := 23) d_127_22 rfl cl_0 ?_
    exact g_lret d_127_23 rt_127 h
  · replace h := h.2 c
    refine g_iloadn (pc' := 5) d_127_4 rfl rfl ?_
    refine g_aloadn (pc' := 6) d_127_5 rfl rfl ?_
    obtain ⟨fs1, hw2, h⟩ := h
    obtain ⟨b3, hv4, h⟩ := h
    refine g_getf (pc' := 9) d_127_6 rfl st_127_9 hw2 hv4 ?_
    obtain ⟨n5, f6, hw7, h⟩ := h
    refine g_lenl (pc' := 10) d_127_9 rfl hw7 ?_
    refine g_ic_ge (pc' := 13) (pt := 22) d_127_10 (by decide) rfl (fun c => ?_) (fun c => ?_)
    · replace h := h.1 c
      refine g_lconst (pc' := 23) d_127_22 rfl cl_0 ?_
      exact g_lret d_127_23 rt_127 h
    · replace h := h.2 c
      refine g_aloadn (pc' := 14) d_127_13 rfl rfl ?_
      refine g_getf (pc' := 17) d_127_14 rfl st_127_9 hw2 hv4 ?_
      refine g_iloadn (pc' := 18) d_127_17 rfl rfl ?_
      obtain ⟨hc8, h⟩ := h
      refine g_lald (pc' := 19) d_127_18 rfl hw7 hc8 ?_
      refine g_goto (pt := 23) d_127_19 (by decide) ?_
      exact g_lret d_127_23 rt_127 h
-- 128 BernoulliWays$Pairs.manyOf(I)I
theorem S_128_0 {a0 : Nat} {i1 : Int32} {w : xW} {r : Option Value × xW} (h : xGo 128 4 [some (.ref a0), some (.int i1), some (.int (0 : Int32)), some (.int (0 : Int32))] [] w r) : xGo 128 0 [some (.ref a0), some (.int i1), none, none] [] w r := by
  refine g_iconst (pc' := 1) d_128_0 rfl ci_0 ?_
  refine g_istoren (pc' := 2) (l' := [some (.ref a0), some (.int i1), some (.int (0 : Int32)), none]) d_128_1 rfl ml_128 rfl rfl ?_
  refine g_iconst (pc' := 3) d_128_2 rfl ci_0 ?_
  refine g_istoren (pc' := 4) (l' := [some (.ref a0), some (.int i1), some (.int (0 : Int32)), some (.int (0 : Int32))]) d_128_3 rfl ml_128 rfl rfl ?_
  exact h
theorem S_128_4 {a0 : Nat} {i1 : Int32} {i2 : Int32} {i3 : Int32} {w : xW} {r : Option Value × xW} (h : ∃ fs1, w[a0]? = some (.inr (9, fs1)) ∧ ∃ x3, fs1[3]? = some (.int x3) ∧ (x3 ≤ i3 → r = (some (.int i2), w)) ∧ (¬ (x3 ≤ i3) → ((100 : Int32) ≤ i3 → r = (some (.int i2), w)) ∧ (¬ ((100 : Int32) ≤ i3) → ∃ b5, fs1[1]? = some (.ref b5) ∧ ∃ n7 f8, w[b5]? = some (.inl (.inl (n7, f8))) ∧ (¬ (i3 < 0 ∨ n7 ≤ i3.toNatClampNeg)) ∧ (¬ (f8 i3.toNatClampNeg) = i1 → ∀ v11 : Int32, v11 = i3 + (1 : Int32) → xGo 128 4 [some (.ref a0), some (.int i1), some (.int i2), some (.int v11)] [] w r) ∧ (¬ (¬ (f8 i3.toNatClampNeg) = i1) → ∀ v12 : Int32, v12 = i2 + (1 : Int32) → ∀ v13 : Int32, v13 = i3 + (1 : Int32) → xGo 128 4 [some (.ref a0), some (.int i1), some (.int v12), some (.int v13)] [] w r)))) : xGo 128 4 [some (.ref a0), some (.int i1), some (.int i2), some (.int i3)] [] w r := by
  refine g_iloadn (pc' := 5) d_128_4 rfl rfl ?_
  refine g_aloadn (pc' := 6) d_128_5 rfl rfl ?_
  obtain ⟨fs1, hw2, h⟩ := h
  obtain ⟨x3, hv4, h⟩ := h
  refine g_getf (pc' := 9) d_128_6 rfl st_128_26 hw2 hv4 ?_
  refine g_ic_ge (pc' := 12) (pt := 37) d_128_9 (by decide) rfl (fun c => ?_) (fun c => ?_)
  · replace h := h.1 c
    refine g_iloadn (pc' := 38) d_128_37 rfl rfl ?_
    exact g_iret d_128_38 rt_128 h
  · replace h := h.2 c
    refine g_iloadn (pc' := 13) d_128_12 rfl rfl ?_
    refine g_bipush (pc' := 15) d_128_13 rfl cb_100 ?_
    refine g_ic_ge (pc' := 18) (pt := 37) d_128_15 (by decide) rfl (fun c => ?_) (fun c => ?_)
    · replace h := h.1 c
      refine g_iloadn (pc' := 38) d_128_37 rfl rfl ?_
      exact g_iret d_128_38 rt_128 h
    · replace h := h.2 c
      refine g_aloadn (pc' := 19) d_128_18 rfl rfl ?_
      obtain ⟨b5, hv6, h⟩ := h
      refine g_getf (pc' := 22) d_128_19 rfl st_128_11 hw2 hv6 ?_
      refine g_iloadn (pc' := 23) d_128_22 rfl rfl ?_
      obtain ⟨n7, f8, hw9, h⟩ := h
      obtain ⟨hc10, h⟩ := h
      refine g_iald (pc' := 24) d_128_23 rfl hw9 hc10 ?_
      refine g_iloadn (pc' := 25) d_128_24 rfl rfl ?_
      refine g_ic_ne (pc' := 28) (pt := 31) d_128_25 (by decide) rfl (fun c => ?_) (fun c => ?_)
      · replace h := h.1 c
        have h := h _ rfl
        refine g_iinc (pc' := 34) (l' := [some (.ref a0), some (.int i1), some (.int i2), some (.int (i3 + (1 : Int32)))]) d_128_31 rfl rfl ci_1 ml_128 rfl rfl ?_
        refine g_goto (pt := 4) d_128_34 (by decide) ?_
        exact h
      · replace h := h.2 c
        have h := h _ rfl
        refine g_iinc (pc' := 31) (l' := [some (.ref a0), some (.int i1), some (.int (i2 + (1 : Int32))), some (.int i3)]) d_128_28 rfl rfl ci_1 ml_128 rfl rfl ?_
        have h := h _ rfl
        refine g_iinc (pc' := 34) (l' := [some (.ref a0), some (.int i1), some (.int (i2 + (1 : Int32))), some (.int (i3 + (1 : Int32)))]) d_128_31 rfl rfl ci_1 ml_128 rfl rfl ?_
        refine g_goto (pt := 4) d_128_34 (by decide) ?_
        exact h
-- 129 BernoulliWays.pair(II)I
theorem S_129_0 {a0 : Nat} {i1 : Int32} {i2 : Int32} {w : xW} {r : Option Value × xW} (h : (i1 < 0 → r = (some (.int (-1 : Int32)), w)) ∧ (¬ (i1 < 0) → (i2 < 0 → r = (some (.int (-1 : Int32)), w)) ∧ (¬ (i2 < 0) → (i2 ≤ (1 : Int32) → ∃ fs1, w[a0]? = some (.inr (0, fs1)) ∧ ∃ b3, fs1[11]? = some (.ref b3) ∧ ∃ fs5, w[b3]? = some (.inr (9, fs5)) ∧ ∃ w7, xCall 121 [.ref b3, .int (199 : Int32)] w (none, w7) ∧ ∃ fs9, w7[a0]? = some (.inr (0, fs9)) ∧ ∃ b11, fs9[11]? = some (.ref b11) ∧ ∃ fs13, w7[b11]? = some (.inr (9, fs13)) ∧ ∃ r17 w15, xCall 130 [.ref b11] w7 (some (.int r17), w15) ∧ (i1 < r17 → (¬ i2 = 0 → ∃ fs18, w15[a0]? = some (.inr (0, fs18)) ∧ ∃ b20, fs18[11]? = some (.ref b20) ∧ ∃ fs22, w15[b20]? = some (.inr (9, fs22)) ∧ ∃ r26 w24, xCall 132 [.ref b20, .int i1] w15 (some (.int r26), w24) ∧ r = (some (.int r26), w24)) ∧ (¬ (¬ i2 = 0) → ∃ fs27, w15[a0]? = some (.inr (0, fs27)) ∧ ∃ b29, fs27[11]? = some (.ref b29) ∧ ∃ fs31, w15[b29]? = some (.inr (9, fs31)) ∧ ∃ r35 w33, xCall 131 [.ref b29, .int i1] w15 (some (.int r35), w33) ∧ r = (some (.int r35), w33))) ∧ (¬ (i1 < r17) → r = (some (.int (-2 : Int32)), w15))) ∧ (¬ (i2 ≤ (1 : Int32)) → r = (some (.int (-1 : Int32)), w))))) : xGo 129 0 [some (.ref a0), some (.int i1), some (.int i2)] [] w r := by
  refine g_iloadn (pc' := 1) d_129_0 rfl rfl ?_
  refine g_if_lt (pc' := 4) (pt := 13) d_129_1 (by decide) rfl (fun c => ?_) (fun c => ?_)
  · replace h := h.1 c
    refine g_iconst (pc' := 14) d_129_13 rfl ci_m1 ?_
    exact g_iret d_129_14 rt_129 h
  · replace h := h.2 c
    refine g_iloadn (pc' := 5) d_129_4 rfl rfl ?_
    refine g_if_lt (pc' := 8) (pt := 13) d_129_5 (by decide) rfl (fun c => ?_) (fun c => ?_)
    · replace h := h.1 c
      refine g_iconst (pc' := 14) d_129_13 rfl ci_m1 ?_
      exact g_iret d_129_14 rt_129 h
    · replace h := h.2 c
      refine g_iloadn (pc' := 9) d_129_8 rfl rfl ?_
      refine g_iconst (pc' := 10) d_129_9 rfl ci_1 ?_
      refine g_ic_le (pc' := 13) (pt := 15) d_129_10 (by decide) rfl (fun c => ?_) (fun c => ?_)
      · replace h := h.1 c
        refine g_aloadn (pc' := 16) d_129_15 rfl rfl ?_
        obtain ⟨fs1, hw2, h⟩ := h
        obtain ⟨b3, hv4, h⟩ := h
        refine g_getf (pc' := 19) d_129_16 rfl st_129_81 hw2 hv4 ?_
        refine g_sipush (pc' := 22) d_129_19 rfl cs_199 ?_
        obtain ⟨fs5, hw6, h⟩ := h
        obtain ⟨w7, hk8, h⟩ := h
        refine g_callV (pc' := 25) d_129_22 rfl st_129_287 na_121 ml_121 rfl rfl rfl rm_129_121 rfl rfl ow_121 hw6 hk8 ?_
        refine g_iloadn (pc' := 26) d_129_25 rfl rfl ?_
        refine g_aloadn (pc' := 27) d_129_26 rfl rfl ?_
        obtain ⟨fs9, hw10, h⟩ := h
        obtain ⟨b11, hv12, h⟩ := h
        refine g_getf (pc' := 30) d_129_27 rfl st_129_81 hw10 hv12 ?_
        obtain ⟨fs13, hw14, h⟩ := h
        obtain ⟨r17, w15, hk16, h⟩ := h
        refine g_callV (pc' := 33) d_129_30 rfl st_129_293 na_130 ml_130 rfl rfl rfl rm_129_130 rfl rfl ow_130 hw14 hk16 ?_
        refine g_ic_lt (pc' := 36) (pt := 39) d_129_33 (by decide) rfl (fun c => ?_) (fun c => ?_)
        · replace h := h.1 c
          refine g_iloadn (pc' := 40) d_129_39 rfl rfl ?_
          refine g_if_ne (pc' := 43) (pt := 54) d_129_40 (by decide) rfl (fun c => ?_) (fun c => ?_)
          · replace h := h.1 c
            refine g_aloadn (pc' := 55) d_129_54 rfl rfl ?_
            obtain ⟨fs18, hw19, h⟩ := h
            obtain ⟨b20, hv21, h⟩ := h
            refine g_getf (pc' := 58) d_129_55 rfl st_129_81 hw19 hv21 ?_
            refine g_iloadn (pc' := 59) d_129_58 rfl rfl ?_
            obtain ⟨fs22, hw23, h⟩ := h
            obtain ⟨r26, w24, hk25, h⟩ := h
            refine g_callV (pc' := 62) d_129_59 rfl st_129_295 na_132 ml_132 rfl rfl rfl rm_129_132 rfl rfl ow_132 hw23 hk25 ?_
            exact g_iret d_129_62 rt_129 h
          · replace h := h.2 c
            refine g_aloadn (pc' := 44) d_129_43 rfl rfl ?_
            obtain ⟨fs27, hw28, h⟩ := h
            obtain ⟨b29, hv30, h⟩ := h
            refine g_getf (pc' := 47) d_129_44 rfl st_129_81 hw28 hv30 ?_
            refine g_iloadn (pc' := 48) d_129_47 rfl rfl ?_
            obtain ⟨fs31, hw32, h⟩ := h
            obtain ⟨r35, w33, hk34, h⟩ := h
            refine g_callV (pc' := 51) d_129_48 rfl st_129_294 na_131 ml_131 rfl rfl rfl rm_129_131 rfl rfl ow_131 hw32 hk34 ?_
            refine g_goto (pt := 62) d_129_51 (by decide) ?_
            exact g_iret d_129_62 rt_129 h
        · replace h := h.2 c
          refine g_bipush (pc' := 38) d_129_36 rfl cb_m2 ?_
          exact g_iret d_129_38 rt_129 h
      · replace h := h.2 c
        refine g_iconst (pc' := 14) d_129_13 rfl ci_m1 ?_
        exact g_iret d_129_14 rt_129 h
-- 130 BernoulliWays$Pairs.size()I
theorem S_130_0 {a0 : Nat} {w : xW} {r : Option Value × xW} (h : ∃ fs1, w[a0]? = some (.inr (9, fs1)) ∧ ∃ x3, fs1[3]? = some (.int x3) ∧ r = (some (.int x3), w)) : xGo 130 0 [some (.ref a0)] [] w r := by
  refine g_aloadn (pc' := 1) d_130_0 rfl rfl ?_
  obtain ⟨fs1, hw2, h⟩ := h
  obtain ⟨x3, hv4, h⟩ := h
  refine g_getf (pc' := 4) d_130_1 rfl st_130_26 hw2 hv4 ?_
  exact g_iret d_130_4 rt_130 h
-- 131 BernoulliWays$Pairs.primeOf(I)I
theorem S_131_0 {a0 : Nat} {i1 : Int32} {w : xW} {r : Option Value × xW} (h : (i1 < 0 → r = (some (.int (-1 : Int32)), w)) ∧ (¬ (i1 < 0) → ∃ fs1, w[a0]? = some (.inr (9, fs1)) ∧ ∃ x3, fs1[3]? = some (.int x3) ∧ (x3 ≤ i1 → r = (some (.int (-1 : Int32)), w)) ∧ (¬ (x3 ≤ i1) → ((100 : Int32) ≤ i1 → r = (some (.int (-1 : Int32)), w)) ∧ (¬ ((100 : Int32) ≤ i1) → ∃ b5, fs1[1]? = some (.ref b5) ∧ ∃ n7 f8, w[b5]? = some (.inl (.inl (n7, f8))) ∧ (¬ (i1 < 0 ∨ n7 ≤ i1.toNatClampNeg)) ∧ r = (some (.int (f8 i1.toNatClampNeg)), w))))) : xGo 131 0 [some (.ref a0), some (.int i1)] [] w r := by
  refine g_iloadn (pc' := 1) d_131_0 rfl rfl ?_
  refine g_if_lt (pc' := 4) (pt := 27) d_131_1 (by decide) rfl (fun c => ?_) (fun c => ?_)
  · replace h := h.1 c
    refine g_iconst (pc' := 28) d_131_27 rfl ci_m1 ?_
    exact g_iret d_131_28 rt_131 h
  · replace h := h.2 c
    refine g_iloadn (pc' := 5) d_131_4 rfl rfl ?_
    refine g_aloadn (pc' := 6) d_131_5 rfl rfl ?_
    obtain ⟨fs1, hw2, h⟩ := h
    obtain ⟨x3, hv4, h⟩ := h
    refine g_getf (pc' := 9) d_131_6 rfl st_131_26 hw2 hv4 ?_
    refine g_ic_ge (pc' := 12) (pt := 27) d_131_9 (by decide) rfl (fun c => ?_) (fun c => ?_)
    · replace h := h.1 c
      refine g_iconst (pc' := 28) d_131_27 rfl ci_m1 ?_
      exact g_iret d_131_28 rt_131 h
    · replace h := h.2 c
      refine g_iloadn (pc' := 13) d_131_12 rfl rfl ?_
      refine g_bipush (pc' := 15) d_131_13 rfl cb_100 ?_
      refine g_ic_ge (pc' := 18) (pt := 27) d_131_15 (by decide) rfl (fun c => ?_) (fun c => ?_)
      · replace h := h.1 c
        refine g_iconst (pc' := 28) d_131_27 rfl ci_m1 ?_
        exact g_iret d_131_28 rt_131 h
      · replace h := h.2 c
        refine g_aloadn (pc' := 19) d_131_18 rfl rfl ?_
        obtain ⟨b5, hv6, h⟩ := h
        refine g_getf (pc' := 22) d_131_19 rfl st_131_11 hw2 hv6 ?_
        refine g_iloadn (pc' := 23) d_131_22 rfl rfl ?_
        obtain ⟨n7, f8, hw9, h⟩ := h
        obtain ⟨hc10, h⟩ := h
        refine g_iald (pc' := 24) d_131_23 rfl hw9 hc10 ?_
        refine g_goto (pt := 28) d_131_24 (by decide) ?_
        exact g_iret d_131_28 rt_131 h
-- 132 BernoulliWays$Pairs.evenOf(I)I
theorem S_132_0 {a0 : Nat} {i1 : Int32} {w : xW} {r : Option Value × xW} (h : (i1 < 0 → r = (some (.int (-1 : Int32)), w)) ∧ (¬ (i1 < 0) → ∃ fs1, w[a0]? = some (.inr (9, fs1)) ∧ ∃ x3, fs1[3]? = some (.int x3) ∧ (x3 ≤ i1 → r = (some (.int (-1 : Int32)), w)) ∧ (¬ (x3 ≤ i1) → ((100 : Int32) ≤ i1 → r = (some (.int (-1 : Int32)), w)) ∧ (¬ ((100 : Int32) ≤ i1) → ∃ b5, fs1[2]? = some (.ref b5) ∧ ∃ n7 f8, w[b5]? = some (.inl (.inl (n7, f8))) ∧ (¬ (i1 < 0 ∨ n7 ≤ i1.toNatClampNeg)) ∧ r = (some (.int (f8 i1.toNatClampNeg)), w))))) : xGo 132 0 [some (.ref a0), some (.int i1)] [] w r := by
  refine g_iloadn (pc' := 1) d_132_0 rfl rfl ?_
  refine g_if_lt (pc' := 4) (pt := 27) d_132_1 (by decide) rfl (fun c => ?_) (fun c => ?_)
  · replace h := h.1 c
    refine g_iconst (pc' := 28) d_132_27 rfl ci_m1 ?_
    exact g_iret d_132_28 rt_132 h
  · replace h := h.2 c
    refine g_iloadn (pc' := 5) d_132_4 rfl rfl ?_
    refine g_aloadn (pc' := 6) d_132_5 rfl rfl ?_
    obtain ⟨fs1, hw2, h⟩ := h
    obtain ⟨x3, hv4, h⟩ := h
    refine g_getf (pc' := 9) d_132_6 rfl st_132_26 hw2 hv4 ?_
    refine g_ic_ge (pc' := 12) (pt := 27) d_132_9 (by decide) rfl (fun c => ?_) (fun c => ?_)
    · replace h := h.1 c
      refine g_iconst (pc' := 28) d_132_27 rfl ci_m1 ?_
      exact g_iret d_132_28 rt_132 h
    · replace h := h.2 c
      refine g_iloadn (pc' := 13) d_132_12 rfl rfl ?_
      refine g_bipush (pc' := 15) d_132_13 rfl cb_100 ?_
      refine g_ic_ge (pc' := 18) (pt := 27) d_132_15 (by decide) rfl (fun c => ?_) (fun c => ?_)
      · replace h := h.1 c
        refine g_iconst (pc' := 28) d_132_27 rfl ci_m1 ?_
        exact g_iret d_132_28 rt_132 h
      · replace h := h.2 c
        refine g_aloadn (pc' := 19) d_132_18 rfl rfl ?_
        obtain ⟨b5, hv6, h⟩ := h
        refine g_getf (pc' := 22) d_132_19 rfl st_132_15 hw2 hv6 ?_
        refine g_iloadn (pc' := 23) d_132_22 rfl rfl ?_
        obtain ⟨n7, f8, hw9, h⟩ := h
        obtain ⟨hc10, h⟩ := h
        refine g_iald (pc' := 24) d_132_23 rfl hw9 hc10 ?_
        refine g_goto (pt := 28) d_132_24 (by decide) ?_
        exact g_iret d_132_28 rt_132 h
-- 133 BernoulliWays.second(I)I
theorem S_133_0 {a0 : Nat} {i1 : Int32} {w : xW} {r : Option Value × xW} (h : (0 ≤ i1 → ∃ fs1, w[a0]? = some (.inr (0, fs1)) ∧ ∃ b3, fs1[11]? = some (.ref b3) ∧ ∃ fs5, w[b3]? = some (.inr (9, fs5)) ∧ ∃ w7, xCall 121 [.ref b3, .int (199 : Int32)] w (none, w7) ∧ ∃ fs9, w7[a0]? = some (.inr (0, fs9)) ∧ ∃ b11, fs9[11]? = some (.ref b11) ∧ ∃ fs13, w7[b11]? = some (.inr (9, fs13)) ∧ ∃ r17 w15, xCall 130 [.ref b11] w7 (some (.int r17), w15) ∧ (i1 < r17 → ∃ fs18, w15[a0]? = some (.inr (0, fs18)) ∧ ∃ b20, fs18[11]? = some (.ref b20) ∧ ∃ fs22, w15[b20]? = some (.inr (9, fs22)) ∧ ∃ r26 w24, xCall 131 [.ref b20, .int i1] w15 (some (.int r26), w24) ∧ ∃ fs27, w24[a0]? = some (.inr (0, fs27)) ∧ ∃ b29, fs27[11]? = some (.ref b29) ∧ ∃ fs31, w24[b29]? = some (.inr (9, fs31)) ∧ ∃ r35 w33, xCall 132 [.ref b29, .int i1] w24 (some (.int r35), w33) ∧ ∃ r38 w36, xCall 134 [.int r26, .int r35] w33 (some (.int r38), w36) ∧ r = (some (.int r38), w36)) ∧ (¬ (i1 < r17) → r = (some (.int (-2 : Int32)), w15))) ∧ (¬ (0 ≤ i1) → r = (some (.int (-1 : Int32)), w))) : xGo 133 0 [some (.ref a0), some (.int i1)] [] w r := by
  refine g_iloadn (pc' := 1) d_133_0 rfl rfl ?_
  refine g_if_ge (pc' := 4) (pt := 6) d_133_1 (by decide) rfl (fun c => ?_) (fun c => ?_)
  · replace h := h.1 c
    refine g_aloadn (pc' := 7) d_133_6 rfl rfl ?_
    obtain ⟨fs1, hw2, h⟩ := h
    obtain ⟨b3, hv4, h⟩ := h
    refine g_getf (pc' := 10) d_133_7 rfl st_133_81 hw2 hv4 ?_
    refine g_sipush (pc' := 13) d_133_10 rfl cs_199 ?_
    obtain ⟨fs5, hw6, h⟩ := h
    obtain ⟨w7, hk8, h⟩ := h
    refine g_callV (pc' := 16) d_133_13 rfl st_133_287 na_121 ml_121 rfl rfl rfl rm_133_121 rfl rfl ow_121 hw6 hk8 ?_
    refine g_iloadn (pc' := 17) d_133_16 rfl rfl ?_
    refine g_aloadn (pc' := 18) d_133_17 rfl rfl ?_
    obtain ⟨fs9, hw10, h⟩ := h
    obtain ⟨b11, hv12, h⟩ := h
    refine g_getf (pc' := 21) d_133_18 rfl st_133_81 hw10 hv12 ?_
    obtain ⟨fs13, hw14, h⟩ := h
    obtain ⟨r17, w15, hk16, h⟩ := h
    refine g_callV (pc' := 24) d_133_21 rfl st_133_293 na_130 ml_130 rfl rfl rfl rm_133_130 rfl rfl ow_130 hw14 hk16 ?_
    refine g_ic_lt (pc' := 27) (pt := 30) d_133_24 (by decide) rfl (fun c => ?_) (fun c => ?_)
    · replace h := h.1 c
      refine g_aloadn (pc' := 31) d_133_30 rfl rfl ?_
      obtain ⟨fs18, hw19, h⟩ := h
      obtain ⟨b20, hv21, h⟩ := h
      refine g_getf (pc' := 34) d_133_31 rfl st_133_81 hw19 hv21 ?_
      refine g_iloadn (pc' := 35) d_133_34 rfl rfl ?_
      obtain ⟨fs22, hw23, h⟩ := h
      obtain ⟨r26, w24, hk25, h⟩ := h
      refine g_callV (pc' := 38) d_133_35 rfl st_133_294 na_131 ml_131 rfl rfl rfl rm_133_131 rfl rfl ow_131 hw23 hk25 ?_
      refine g_aloadn (pc' := 39) d_133_38 rfl rfl ?_
      obtain ⟨fs27, hw28, h⟩ := h
      obtain ⟨b29, hv30, h⟩ := h
      refine g_getf (pc' := 42) d_133_39 rfl st_133_81 hw28 hv30 ?_
      refine g_iloadn (pc' := 43) d_133_42 rfl rfl ?_
      obtain ⟨fs31, hw32, h⟩ := h
      obtain ⟨r35, w33, hk34, h⟩ := h
      refine g_callV (pc' := 46) d_133_43 rfl st_133_295 na_132 ml_132 rfl rfl rfl rm_133_132 rfl rfl ow_132 hw32 hk34 ?_
      obtain ⟨r38, w36, hk37, h⟩ := h
      refine g_callS (pc' := 49) d_133_46 rfl st_133_298 (Or.inl rfl) na_134 ml_134 rfl rfl rfl rm_133_134 rfl rfl hk37 ?_
      exact g_iret d_133_49 rt_133 h
    · replace h := h.2 c
      refine g_bipush (pc' := 29) d_133_27 rfl cb_m2 ?_
      exact g_iret d_133_29 rt_133 h
  · replace h := h.2 c
    refine g_iconst (pc' := 5) d_133_4 rfl ci_m1 ?_
    exact g_iret d_133_5 rt_133 h
-- 134 BernoulliWays.secondOf(II)I
theorem S_134_0 {i0 : Int32} {i1 : Int32} {w : xW} {r : Option Value × xW} (h : ((3 : Int32) ≤ i0 → ∀ v1 : Int64, v1 = ((i0.toInt64) * (i0.toInt64)) → ∃ r4 w2, xCall 135 [.int i1, .int i0] w (some (.long r4), w2) ∧ ∃ r7 w5, xCall 135 [.int ((i1 + i0) - (1 : Int32)), .int i0] w2 (some (.long r7), w5) ∧ ∀ v8 : Int64, v8 = (r7 - r4) → xGo 134 38 [some (.int i0), some (.int i1), some (.long v1), none, some (.long r4), none, some (.long v8), none, some (.int (0 : Int32))] [] w5 r) ∧ (¬ ((3 : Int32) ≤ i0) → r = (some (.int (-3 : Int32)), w))) : xGo 134 0 [some (.int i0), some (.int i1), none, none, none, none, none, none, none] [] w r := by
  refine g_iloadn (pc' := 1) d_134_0 rfl rfl ?_
  refine g_iconst (pc' := 2) d_134_1 rfl ci_3 ?_
  refine g_ic_ge (pc' := 5) (pt := 8) d_134_2 (by decide) rfl (fun c => ?_) (fun c => ?_)
  · replace h := h.1 c
    refine g_iloadn (pc' := 9) d_134_8 rfl rfl ?_
    refine g_i2l (pc' := 10) d_134_9 rfl ?_
    refine g_iloadn (pc' := 11) d_134_10 rfl rfl ?_
    refine g_i2l (pc' := 12) d_134_11 rfl ?_
    refine g_lmul (pc' := 13) d_134_12 rfl ?_
    have h := h _ rfl
    refine g_lstoren (pc' := 14) (l' := [some (.int i0), some (.int i1), some (.long (((i0.toInt64) * (i0.toInt64)))), none, none, none, none, none, none]) d_134_13 rfl ml_134 rfl rfl ?_
    refine g_iloadn (pc' := 15) d_134_14 rfl rfl ?_
    refine g_iloadn (pc' := 16) d_134_15 rfl rfl ?_
    obtain ⟨r4, w2, hk3, h⟩ := h
    refine g_callS (pc' := 19) d_134_16 rfl st_134_458 (Or.inl rfl) na_135 ml_135 rfl rfl rfl rm_134_135 rfl rfl hk3 ?_
    refine g_lstore (pc' := 21) (l' := [some (.int i0), some (.int i1), some (.long (((i0.toInt64) * (i0.toInt64)))), none, some (.long r4), none, none, none, none]) d_134_19 rfl ml_134 rfl rfl ?_
    refine g_iloadn (pc' := 22) d_134_21 rfl rfl ?_
    refine g_iloadn (pc' := 23) d_134_22 rfl rfl ?_
    refine g_iadd (pc' := 24) d_134_23 rfl ?_
    refine g_iconst (pc' := 25) d_134_24 rfl ci_1 ?_
    refine g_isub (pc' := 26) d_134_25 rfl ?_
    refine g_iloadn (pc' := 27) d_134_26 rfl rfl ?_
    obtain ⟨r7, w5, hk6, h⟩ := h
    refine g_callS (pc' := 30) d_134_27 rfl st_134_458 (Or.inl rfl) na_135 ml_135 rfl rfl rfl rm_134_135 rfl rfl hk6 ?_
    refine g_lload (pc' := 32) d_134_30 rfl rfl ?_
    refine g_lsub (pc' := 33) d_134_32 rfl ?_
    have h := h _ rfl
    refine g_lstore (pc' := 35) (l' := [some (.int i0), some (.int i1), some (.long (((i0.toInt64) * (i0.toInt64)))), none, some (.long r4), none, some (.long ((r7 - r4))), none, none]) d_134_33 rfl ml_134 rfl rfl ?_
    refine g_iconst (pc' := 36) d_134_35 rfl ci_0 ?_
    refine g_istore (pc' := 38) (l' := [some (.int i0), some (.int i1), some (.long (((i0.toInt64) * (i0.toInt64)))), none, some (.long r4), none, some (.long ((r7 - r4))), none, some (.int (0 : Int32))]) d_134_36 rfl ml_134 rfl rfl ?_
    exact h
  · replace h := h.2 c
    refine g_bipush (pc' := 7) d_134_5 rfl cb_m3 ?_
    exact g_iret d_134_7 rt_134 h
theorem S_134_38 {i0 : Int32} {i1 : Int32} {l2 : Int64} {l4 : Int64} {l6 : Int64} {i8 : Int32} {w : xW} {r : Option Value × xW} (h : (i0 ≤ i8 → r = (some (.int (-3 : Int32)), w)) ∧ (¬ (i0 ≤ i8) → ∃ r3 w1, xCall 54 [.long (l4 + ((i8.toInt64) * l6)), .long l2] w (some (.long r3), w1) ∧ (¬ r3 = (0 : Int64) → ∀ v4 : Int32, v4 = i8 + (1 : Int32) → xGo 134 38 [some (.int i0), some (.int i1), some (.long l2), none, some (.long l4), none, some (.long l6), none, some (.int v4)] [] w1 r) ∧ (¬ (¬ r3 = (0 : Int64)) → r = (some (.int (i1 + (i8 * (i0 - (1 : Int32))))), w1)))) : xGo 134 38 [some (.int i0), some (.int i1), some (.long l2), none, some (.long l4), none, some (.long l6), none, some (.int i8)] [] w r := by
  refine g_iload (pc' := 40) d_134_38 rfl rfl ?_
  refine g_iloadn (pc' := 41) d_134_40 rfl rfl ?_
  refine g_ic_ge (pc' := 44) (pt := 77) d_134_41 (by decide) rfl (fun c => ?_) (fun c => ?_)
  · replace h := h.1 c
    refine g_bipush (pc' := 79) d_134_77 rfl cb_m3 ?_
    exact g_iret d_134_79 rt_134 h
  · replace h := h.2 c
    refine g_lload (pc' := 46) d_134_44 rfl rfl ?_
    refine g_iload (pc' := 48) d_134_46 rfl rfl ?_
    refine g_i2l (pc' := 49) d_134_48 rfl ?_
    refine g_lload (pc' := 51) d_134_49 rfl rfl ?_
    refine g_lmul (pc' := 52) d_134_51 rfl ?_
    refine g_ladd (pc' := 53) d_134_52 rfl ?_
    refine g_lloadn (pc' := 54) d_134_53 rfl rfl ?_
    obtain ⟨r3, w1, hk2, h⟩ := h
    refine g_callS (pc' := 57) d_134_54 rfl st_134_306 (Or.inl rfl) na_54 ml_54 rfl rfl rfl rm_134_54 rfl rfl hk2 ?_
    refine g_lconst (pc' := 58) d_134_57 rfl cl_0 ?_
    refine g_lc_ne (pc' := 62) (pm := 59) (pt := 71) d_134_58 rfl d_134_59 (by decide) rfl (fun c => ?_) (fun c => ?_)
    · replace h := h.1 c
      have h := h _ rfl
      refine g_iinc (pc' := 74) (l' := [some (.int i0), some (.int i1), some (.long l2), none, some (.long l4), none, some (.long l6), none, some (.int (i8 + (1 : Int32)))]) d_134_71 rfl rfl ci_1 ml_134 rfl rfl ?_
      refine g_goto (pt := 38) d_134_74 (by decide) ?_
      exact h
    · replace h := h.2 c
      refine g_iloadn (pc' := 63) d_134_62 rfl rfl ?_
      refine g_iload (pc' := 65) d_134_63 rfl rfl ?_
      refine g_iloadn (pc' := 66) d_134_65 rfl rfl ?_
      refine g_iconst (pc' := 67) d_134_66 rfl ci_1 ?_
      refine g_isub (pc' := 68) d_134_67 rfl ?_
      refine g_imul (pc' := 69) d_134_68 rfl ?_
      refine g_iadd (pc' := 70) d_134_69 rfl ?_
      exact g_iret d_134_70 rt_134 h
-- 135 BernoulliWays.byNumber(II)J
theorem S_135_0 {i0 : Int32} {i1 : Int32} {w : xW} {r : Option Value × xW} (h : ((3 : Int32) ≤ i1 → ∀ v1 : Int64, v1 = ((i1.toInt64) * (i1.toInt64)) → ∃ r4 w2, xCall 49 [.int i0, .int i1, .long (v1 * (i1.toInt64))] w (some (.long r4), w2) ∧ (¬ (i1.toInt64) = 0) ∧ ∀ v6 : Int64, v6 = (r4 / (i1.toInt64)) → ∃ r9 w7, xCall 53 [.long (i0.toInt64), .long v1] w2 (some (.long r9), w7) ∧ (¬ v1 = 0) ∧ r = (some (.long (lrem (v6 * r9) v1)), w7)) ∧ (¬ ((3 : Int32) ≤ i1) → r = (some (.long (0 : Int64)), w))) : xGo 135 0 [some (.int i0), some (.int i1), none, none, none, none] [] w r := by
  refine g_iloadn (pc' := 1) d_135_0 rfl rfl ?_
  refine g_iconst (pc' := 2) d_135_1 rfl ci_3 ?_
  refine g_ic_ge (pc' := 5) (pt := 7) d_135_2 (by decide) rfl (fun c => ?_) (fun c => ?_)
  · replace h := h.1 c
    refine g_iloadn (pc' := 8) d_135_7 rfl rfl ?_
    refine g_i2l (pc' := 9) d_135_8 rfl ?_
    refine g_iloadn (pc' := 10) d_135_9 rfl rfl ?_
    refine g_i2l (pc' := 11) d_135_10 rfl ?_
    refine g_lmul (pc' := 12) d_135_11 rfl ?_
    have h := h _ rfl
    refine g_lstoren (pc' := 13) (l' := [some (.int i0), some (.int i1), some (.long (((i1.toInt64) * (i1.toInt64)))), none, none, none]) d_135_12 rfl ml_135 rfl rfl ?_
    refine g_iloadn (pc' := 14) d_135_13 rfl rfl ?_
    refine g_iloadn (pc' := 15) d_135_14 rfl rfl ?_
    refine g_lloadn (pc' := 16) d_135_15 rfl rfl ?_
    refine g_iloadn (pc' := 17) d_135_16 rfl rfl ?_
    refine g_i2l (pc' := 18) d_135_17 rfl ?_
    refine g_lmul (pc' := 19) d_135_18 rfl ?_
    obtain ⟨r4, w2, hk3, h⟩ := h
    refine g_callS (pc' := 22) d_135_19 rfl st_135_437 (Or.inl rfl) na_49 ml_49 rfl rfl rfl rm_135_49 rfl rfl hk3 ?_
    refine g_iloadn (pc' := 23) d_135_22 rfl rfl ?_
    refine g_i2l (pc' := 24) d_135_23 rfl ?_
    obtain ⟨hc5, h⟩ := h
    refine g_ldiv (pc' := 25) d_135_24 rfl hc5 ?_
    have h := h _ rfl
    refine g_lstore (pc' := 27) (l' := [some (.int i0), some (.int i1), some (.long (((i1.toInt64) * (i1.toInt64)))), none, some (.long ((r4 / (i1.toInt64)))), none]) d_135_25 rfl ml_135 rfl rfl ?_
    refine g_lload (pc' := 29) d_135_27 rfl rfl ?_
    refine g_iloadn (pc' := 30) d_135_29 rfl rfl ?_
    refine g_i2l (pc' := 31) d_135_30 rfl ?_
    refine g_lloadn (pc' := 32) d_135_31 rfl rfl ?_
    obtain ⟨r9, w7, hk8, h⟩ := h
    refine g_callS (pc' := 35) d_135_32 rfl st_135_316 (Or.inl rfl) na_53 ml_53 rfl rfl rfl rm_135_53 rfl rfl hk8 ?_
    refine g_lmul (pc' := 36) d_135_35 rfl ?_
    refine g_lloadn (pc' := 37) d_135_36 rfl rfl ?_
    obtain ⟨hc10, h⟩ := h
    refine g_lrem (pc' := 38) d_135_37 rfl hc10 ?_
    exact g_lret d_135_38 rt_135 h
  · replace h := h.2 c
    refine g_lconst (pc' := 6) d_135_5 rfl cl_0 ?_
    exact g_lret d_135_6 rt_135 h
-- 136 BernoulliWays.far(II)I
theorem S_136_0 {a0 : Nat} {i1 : Int32} {i2 : Int32} {w : xW} {r : Option Value × xW} (h : (i1 < (2 : Int32) → r = (some (.int (-1 : Int32)), w)) ∧ (¬ (i1 < (2 : Int32)) → ((1000000 : Int32) < i1 → r = (some (.int (-1 : Int32)), w)) ∧ (¬ ((1000000 : Int32) < i1) → (¬ (irem i1 (2 : Int32)) = 0 → r = (some (.int (-1 : Int32)), w)) ∧ (¬ (¬ (irem i1 (2 : Int32)) = 0) → ∃ r3 w1, xCall 84 [.int i2] w (some (.int r3), w1) ∧ (¬ r3 = 0 → (¬ (i2 - (1 : Int32)) = 0) ∧ (¬ (irem i1 (i2 - (1 : Int32))) = 0 → ∃ r7 w5, xCall 91 [.int i1, .int i2] w1 (some (.long r7), w5) ∧ r = (some (.int (r7.toInt32)), w5)) ∧ (¬ (¬ (irem i1 (i2 - (1 : Int32))) = 0) → r = (some (.int (-3 : Int32)), w1))) ∧ (¬ (¬ r3 = 0) → r = (some (.int (-1 : Int32)), w1)))))) : xGo 136 0 [some (.ref a0), some (.int i1), some (.int i2)] [] w r := by
  refine g_iloadn (pc' := 1) d_136_0 rfl rfl ?_
  refine g_iconst (pc' := 2) d_136_1 rfl ci_2 ?_
  refine g_ic_lt (pc' := 5) (pt := 25) d_136_2 (by decide) rfl (fun c => ?_) (fun c => ?_)
  · replace h := h.1 c
    refine g_iconst (pc' := 26) d_136_25 rfl ci_m1 ?_
    exact g_iret d_136_26 rt_136 h
  · replace h := h.2 c
    refine g_iloadn (pc' := 6) d_136_5 rfl rfl ?_
    refine g_ldcw (pc' := 9) d_136_6 rfl st_136_301 ci_1000000 ?_
    refine g_ic_gt (pc' := 12) (pt := 25) d_136_9 (by decide) rfl (fun c => ?_) (fun c => ?_)
    · replace h := h.1 c
      refine g_iconst (pc' := 26) d_136_25 rfl ci_m1 ?_
      exact g_iret d_136_26 rt_136 h
    · replace h := h.2 c
      refine g_iloadn (pc' := 13) d_136_12 rfl rfl ?_
      refine g_iconst (pc' := 14) d_136_13 rfl ci_2 ?_
      refine g_irem (pc' := 15) d_136_14 rfl (by decide) ?_
      refine g_if_ne (pc' := 18) (pt := 25) d_136_15 (by decide) rfl (fun c => ?_) (fun c => ?_)
      · replace h := h.1 c
        refine g_iconst (pc' := 26) d_136_25 rfl ci_m1 ?_
        exact g_iret d_136_26 rt_136 h
      · replace h := h.2 c
        refine g_iloadn (pc' := 19) d_136_18 rfl rfl ?_
        obtain ⟨r3, w1, hk2, h⟩ := h
        refine g_callS (pc' := 22) d_136_19 rfl st_136_222 (Or.inl rfl) na_84 ml_84 rfl rfl rfl rm_136_84 rfl rfl hk2 ?_
        refine g_if_ne (pc' := 25) (pt := 27) d_136_22 (by decide) rfl (fun c => ?_) (fun c => ?_)
        · replace h := h.1 c
          refine g_iloadn (pc' := 28) d_136_27 rfl rfl ?_
          refine g_iloadn (pc' := 29) d_136_28 rfl rfl ?_
          refine g_iconst (pc' := 30) d_136_29 rfl ci_1 ?_
          refine g_isub (pc' := 31) d_136_30 rfl ?_
          obtain ⟨hc4, h⟩ := h
          refine g_irem (pc' := 32) d_136_31 rfl hc4 ?_
          refine g_if_ne (pc' := 35) (pt := 40) d_136_32 (by decide) rfl (fun c => ?_) (fun c => ?_)
          · replace h := h.1 c
            refine g_iloadn (pc' := 41) d_136_40 rfl rfl ?_
            refine g_iloadn (pc' := 42) d_136_41 rfl rfl ?_
            obtain ⟨r7, w5, hk6, h⟩ := h
            refine g_callS (pc' := 45) d_136_42 rfl st_136_232 (Or.inl rfl) na_91 ml_91 rfl rfl rfl rm_136_91 rfl rfl hk6 ?_
            refine g_l2i (pc' := 46) d_136_45 rfl ?_
            exact g_iret d_136_46 rt_136 h
          · replace h := h.2 c
            refine g_bipush (pc' := 37) d_136_35 rfl cb_m3 ?_
            refine g_goto (pt := 46) d_136_37 (by decide) ?_
            exact g_iret d_136_46 rt_136 h
        · replace h := h.2 c
          refine g_iconst (pc' := 26) d_136_25 rfl ci_m1 ?_
          exact g_iret d_136_26 rt_136 h
-- 137 BernoulliWays.voronoi(III)I
theorem S_137_0 {a0 : Nat} {i1 : Int32} {i2 : Int32} {i3 : Int32} {w : xW} {r : Option Value × xW} (h : ∃ r3 w1, xCall 24 [.int i1] w (some (.int r3), w1) ∧ (r3 = 0 → r = (some (.int (-1 : Int32)), w1)) ∧ (¬ (r3 = 0) → ∃ r6 w4, xCall 47 [.int i1] w1 (some (.int r6), w4) ∧ (r6 = 0 → r = (some (.int (-1 : Int32)), w4)) ∧ (¬ (r6 = 0) → ∃ r9 w7, xCall 84 [.int i3] w4 (some (.int r9), w7) ∧ (r9 = 0 → r = (some (.int (-1 : Int32)), w7)) ∧ (¬ (r9 = 0) → (i2 < (1 : Int32) → r = (some (.int (-1 : Int32)), w7)) ∧ (¬ (i2 < (1 : Int32)) → (i2 ≤ (i3 - (1 : Int32)) → xGo 137 41 [some (.ref a0), some (.int i1), some (.int i2), some (.int i3), some (.long (0 : Int64)), none, some (.int (1 : Int32)), none] [] w7 r) ∧ (¬ (i2 ≤ (i3 - (1 : Int32))) → r = (some (.int (-1 : Int32)), w7))))))) : xGo 137 0 [some (.ref a0), some (.int i1), some (.int i2), some (.int i3), none, none, none, none] [] w r := by
  refine g_iloadn (pc' := 1) d_137_0 rfl rfl ?_
  obtain ⟨r3, w1, hk2, h⟩ := h
  refine g_callS (pc' := 4) d_137_1 rfl st_137_120 (Or.inl rfl) na_24 ml_24 rfl rfl rfl rm_137_24 rfl rfl hk2 ?_
  refine g_if_eq (pc' := 7) (pt := 33) d_137_4 (by decide) rfl (fun c => ?_) (fun c => ?_)
  · replace h := h.1 c
    refine g_iconst (pc' := 34) d_137_33 rfl ci_m1 ?_
    exact g_iret d_137_34 rt_137 h
  · replace h := h.2 c
    refine g_iloadn (pc' := 8) d_137_7 rfl rfl ?_
    obtain ⟨r6, w4, hk5, h⟩ := h
    refine g_callS (pc' := 11) d_137_8 rfl st_137_190 (Or.inl rfl) na_47 ml_47 rfl rfl rfl rm_137_47 rfl rfl hk5 ?_
    refine g_if_eq (pc' := 14) (pt := 33) d_137_11 (by decide) rfl (fun c => ?_) (fun c => ?_)
    · replace h := h.1 c
      refine g_iconst (pc' := 34) d_137_33 rfl ci_m1 ?_
      exact g_iret d_137_34 rt_137 h
    · replace h := h.2 c
      refine g_iloadn (pc' := 15) d_137_14 rfl rfl ?_
      obtain ⟨r9, w7, hk8, h⟩ := h
      refine g_callS (pc' := 18) d_137_15 rfl st_137_222 (Or.inl rfl) na_84 ml_84 rfl rfl rfl rm_137_84 rfl rfl hk8 ?_
      refine g_if_eq (pc' := 21) (pt := 33) d_137_18 (by decide) rfl (fun c => ?_) (fun c => ?_)
      · replace h := h.1 c
        refine g_iconst (pc' := 34) d_137_33 rfl ci_m1 ?_
        exact g_iret d_137_34 rt_137 h
      · replace h := h.2 c
        refine g_iloadn (pc' := 22) d_137_21 rfl rfl ?_
        refine g_iconst (pc' := 23) d_137_22 rfl ci_1 ?_
        refine g_ic_lt (pc' := 26) (pt := 33) d_137_23 (by decide) rfl (fun c => ?_) (fun c => ?_)
        · replace h := h.1 c
          refine g_iconst (pc' := 34) d_137_33 rfl ci_m1 ?_
          exact g_iret d_137_34 rt_137 h
        · replace h := h.2 c
          refine g_iloadn (pc' := 27) d_137_26 rfl rfl ?_
          refine g_iloadn (pc' := 28) d_137_27 rfl rfl ?_
          refine g_iconst (pc' := 29) d_137_28 rfl ci_1 ?_
          refine g_isub (pc' := 30) d_137_29 rfl ?_
          refine g_ic_le (pc' := 33) (pt := 35) d_137_30 (by decide) rfl (fun c => ?_) (fun c => ?_)
          · replace h := h.1 c
            refine g_lconst (pc' := 36) d_137_35 rfl cl_0 ?_
            refine g_lstore (pc' := 38) (l' := [some (.ref a0), some (.int i1), some (.int i2), some (.int i3), some (.long (0 : Int64)), none, none, none]) d_137_36 rfl ml_137 rfl rfl ?_
            refine g_iconst (pc' := 39) d_137_38 rfl ci_1 ?_
            refine g_istore (pc' := 41) (l' := [some (.ref a0), some (.int i1), some (.int i2), some (.int i3), some (.long (0 : Int64)), none, some (.int (1 : Int32)), none]) d_137_39 rfl ml_137 rfl rfl ?_
            exact h
          · replace h := h.2 c
            refine g_iconst (pc' := 34) d_137_33 rfl ci_m1 ?_
            exact g_iret d_137_34 rt_137 h
theorem S_137_41 {a0 : Nat} {i1 : Int32} {i2 : Int32} {i3 : Int32} {l4 : Int64} {i6 : Int32} {w : xW} {r : Option Value × xW} (h : (i3 ≤ i6 → ∃ r3 w1, xCall 50 [.long (i2.toInt64), .int (i1 - (1 : Int32)), .long (i3.toInt64)] w (some (.long r3), w1) ∧ ∀ v4 : Int64, v4 = ((i1.toInt64) * r3) → (¬ (i3.toInt64) = 0) ∧ ∃ r8 w6, xCall 54 [.long ((lrem l4 (i3.toInt64)) * v4), .long (i3.toInt64)] w1 (some (.long r8), w6) ∧ r = (some (.int (r8.toInt32)), w6)) ∧ (¬ (i3 ≤ i6) → ∃ r11 w9, xCall 50 [.long (i6.toInt64), .int (i1 - (1 : Int32)), .long (i3.toInt64)] w (some (.long r11), w9) ∧ (¬ i3 = 0) ∧ ∀ v13 : Int64, v13 = (l4 + (r11 * (((i6 * i2) / i3).toInt64))) → ∀ v14 : Int32, v14 = i6 + (1 : Int32) → xGo 137 41 [some (.ref a0), some (.int i1), some (.int i2), some (.int i3), some (.long v13), none, some (.int v14), none] [] w9 r)) : xGo 137 41 [some (.ref a0), some (.int i1), some (.int i2), some (.int i3), some (.long l4), none, some (.int i6), none] [] w r := by
  refine g_iload (pc' := 43) d_137_41 rfl rfl ?_
  refine g_iloadn (pc' := 44) d_137_43 rfl rfl ?_
  refine g_ic_ge (pc' := 47) (pt := 77) d_137_44 (by decide) rfl (fun c => ?_) (fun c => ?_)
  · replace h := h.1 c
    refine g_iloadn (pc' := 78) d_137_77 rfl rfl ?_
    refine g_i2l (pc' := 79) d_137_78 rfl ?_
    refine g_iloadn (pc' := 80) d_137_79 rfl rfl ?_
    refine g_i2l (pc' := 81) d_137_80 rfl ?_
    refine g_iloadn (pc' := 82) d_137_81 rfl rfl ?_
    refine g_iconst (pc' := 83) d_137_82 rfl ci_1 ?_
    refine g_isub (pc' := 84) d_137_83 rfl ?_
    refine g_iloadn (pc' := 85) d_137_84 rfl rfl ?_
    refine g_i2l (pc' := 86) d_137_85 rfl ?_
    obtain ⟨r3, w1, hk2, h⟩ := h
    refine g_callS (pc' := 89) d_137_86 rfl st_137_302 (Or.inl rfl) na_50 ml_50 rfl rfl rfl rm_137_50 rfl rfl hk2 ?_
    refine g_lmul (pc' := 90) d_137_89 rfl ?_
    have h := h _ rfl
    refine g_lstore (pc' := 92) (l' := [some (.ref a0), some (.int i1), some (.int i2), some (.int i3), some (.long l4), none, some (.long (((i1.toInt64) * r3))), none]) d_137_90 rfl ml_137 rfl rfl ?_
    refine g_lload (pc' := 94) d_137_92 rfl rfl ?_
    refine g_iloadn (pc' := 95) d_137_94 rfl rfl ?_
    refine g_i2l (pc' := 96) d_137_95 rfl ?_
    obtain ⟨hc5, h⟩ := h
    refine g_lrem (pc' := 97) d_137_96 rfl hc5 ?_
    refine g_lload (pc' := 99) d_137_97 rfl rfl ?_
    refine g_lmul (pc' := 100) d_137_99 rfl ?_
    refine g_iloadn (pc' := 101) d_137_100 rfl rfl ?_
    refine g_i2l (pc' := 102) d_137_101 rfl ?_
    obtain ⟨r8, w6, hk7, h⟩ := h
    refine g_callS (pc' := 105) d_137_102 rfl st_137_306 (Or.inl rfl) na_54 ml_54 rfl rfl rfl rm_137_54 rfl rfl hk7 ?_
    refine g_l2i (pc' := 106) d_137_105 rfl ?_
    exact g_iret d_137_106 rt_137 h
  · replace h := h.2 c
    refine g_lload (pc' := 49) d_137_47 rfl rfl ?_
    refine g_iload (pc' := 51) d_137_49 rfl rfl ?_
    refine g_i2l (pc' := 52) d_137_51 rfl ?_
    refine g_iloadn (pc' := 53) d_137_52 rfl rfl ?_
    refine g_iconst (pc' := 54) d_137_53 rfl ci_1 ?_
    refine g_isub (pc' := 55) d_137_54 rfl ?_
    refine g_iloadn (pc' := 56) d_137_55 rfl rfl ?_
    refine g_i2l (pc' := 57) d_137_56 rfl ?_
    obtain ⟨r11, w9, hk10, h⟩ := h
    refine g_callS (pc' := 60) d_137_57 rfl st_137_302 (Or.inl rfl) na_50 ml_50 rfl rfl rfl rm_137_50 rfl rfl hk10 ?_
    refine g_iload (pc' := 62) d_137_60 rfl rfl ?_
    refine g_iloadn (pc' := 63) d_137_62 rfl rfl ?_
    refine g_imul (pc' := 64) d_137_63 rfl ?_
    refine g_iloadn (pc' := 65) d_137_64 rfl rfl ?_
    obtain ⟨hc12, h⟩ := h
    refine g_idiv (pc' := 66) d_137_65 rfl hc12 ?_
    refine g_i2l (pc' := 67) d_137_66 rfl ?_
    refine g_lmul (pc' := 68) d_137_67 rfl ?_
    refine g_ladd (pc' := 69) d_137_68 rfl ?_
    have h := h _ rfl
    refine g_lstore (pc' := 71) (l' := [some (.ref a0), some (.int i1), some (.int i2), some (.int i3), some (.long ((l4 + (r11 * (((i6 * i2) / i3).toInt64))))), none, some (.int i6), none]) d_137_69 rfl ml_137 rfl rfl ?_
    have h := h _ rfl
    refine g_iinc (pc' := 74) (l' := [some (.ref a0), some (.int i1), some (.int i2), some (.int i3), some (.long ((l4 + (r11 * (((i6 * i2) / i3).toInt64))))), none, some (.int (i6 + (1 : Int32))), none]) d_137_71 rfl rfl ci_1 ml_137 rfl rfl ?_
    refine g_goto (pt := 41) d_137_74 (by decide) ?_
    exact h
-- 138 BernoulliWays.byWay(III)I
theorem S_138_0 {a0 : Nat} {i1 : Int32} {i2 : Int32} {i3 : Int32} {w : xW} {r : Option Value × xW} (h : ∃ r3 w1, xCall 84 [.int i1] w (some (.int r3), w1) ∧ (r3 = 0 → r = (some (.int (-1 : Int32)), w1)) ∧ (¬ (r3 = 0) → ∃ r6 w4, xCall 25 [.int i2] w1 (some (.int r6), w4) ∧ (r6 = 0 → r = (some (.int (-1 : Int32)), w4)) ∧ (¬ (r6 = 0) → (i3 < 0 → r = (some (.int (-1 : Int32)), w4)) ∧ (¬ (i3 < 0) → (i3 ≤ (i1 - (2 : Int32)) → ∃ fs7, w4[a0]? = some (.inr (0, fs7)) ∧ ∃ b9, fs7[10]? = some (.ref b9) ∧ ∃ fs11, w4[b9]? = some (.inr (8, fs11)) ∧ ∃ w13, xCall 123 [.ref b9, .int i1, .int i2] w4 (none, w13) ∧ ∃ fs15, w13[a0]? = some (.inr (0, fs15)) ∧ ∃ b17, fs15[10]? = some (.ref b17) ∧ ∃ fs19, w13[b17]? = some (.inr (8, fs19)) ∧ ∃ r23 w21, xCall 127 [.ref b17, .int i3] w13 (some (.long r23), w21) ∧ r = (some (.int (r23.toInt32)), w21)) ∧ (¬ (i3 ≤ (i1 - (2 : Int32))) → r = (some (.int (-1 : Int32)), w4)))))) : xGo 138 0 [some (.ref a0), some (.int i1), some (.int i2), some (.int i3)] [] w r := by
  refine g_iloadn (pc' := 1) d_138_0 rfl rfl ?_
  obtain ⟨r3, w1, hk2, h⟩ := h
  refine g_callS (pc' := 4) d_138_1 rfl st_138_222 (Or.inl rfl) na_84 ml_84 rfl rfl rfl rm_138_84 rfl rfl hk2 ?_
  refine g_if_eq (pc' := 7) (pt := 25) d_138_4 (by decide) rfl (fun c => ?_) (fun c => ?_)
  · replace h := h.1 c
    refine g_iconst (pc' := 26) d_138_25 rfl ci_m1 ?_
    exact g_iret d_138_26 rt_138 h
  · replace h := h.2 c
    refine g_iloadn (pc' := 8) d_138_7 rfl rfl ?_
    obtain ⟨r6, w4, hk5, h⟩ := h
    refine g_callS (pc' := 11) d_138_8 rfl st_138_124 (Or.inl rfl) na_25 ml_25 rfl rfl rfl rm_138_25 rfl rfl hk5 ?_
    refine g_if_eq (pc' := 14) (pt := 25) d_138_11 (by decide) rfl (fun c => ?_) (fun c => ?_)
    · replace h := h.1 c
      refine g_iconst (pc' := 26) d_138_25 rfl ci_m1 ?_
      exact g_iret d_138_26 rt_138 h
    · replace h := h.2 c
      refine g_iloadn (pc' := 15) d_138_14 rfl rfl ?_
      refine g_if_lt (pc' := 18) (pt := 25) d_138_15 (by decide) rfl (fun c => ?_) (fun c => ?_)
      · replace h := h.1 c
        refine g_iconst (pc' := 26) d_138_25 rfl ci_m1 ?_
        exact g_iret d_138_26 rt_138 h
      · replace h := h.2 c
        refine g_iloadn (pc' := 19) d_138_18 rfl rfl ?_
        refine g_iloadn (pc' := 20) d_138_19 rfl rfl ?_
        refine g_iconst (pc' := 21) d_138_20 rfl ci_2 ?_
        refine g_isub (pc' := 22) d_138_21 rfl ?_
        refine g_ic_le (pc' := 25) (pt := 27) d_138_22 (by decide) rfl (fun c => ?_) (fun c => ?_)
        · replace h := h.1 c
          refine g_aloadn (pc' := 28) d_138_27 rfl rfl ?_
          obtain ⟨fs7, hw8, h⟩ := h
          obtain ⟨b9, hv10, h⟩ := h
          refine g_getf (pc' := 31) d_138_28 rfl st_138_72 hw8 hv10 ?_
          refine g_iloadn (pc' := 32) d_138_31 rfl rfl ?_
          refine g_iloadn (pc' := 33) d_138_32 rfl rfl ?_
          obtain ⟨fs11, hw12, h⟩ := h
          obtain ⟨w13, hk14, h⟩ := h
          refine g_callV (pc' := 36) d_138_33 rfl st_138_310 na_123 ml_123 rfl rfl rfl rm_138_123 rfl rfl ow_123 hw12 hk14 ?_
          refine g_aloadn (pc' := 37) d_138_36 rfl rfl ?_
          obtain ⟨fs15, hw16, h⟩ := h
          obtain ⟨b17, hv18, h⟩ := h
          refine g_getf (pc' := 40) d_138_37 rfl st_138_72 hw16 hv18 ?_
          refine g_iloadn (pc' := 41) d_138_40 rfl rfl ?_
          obtain ⟨fs19, hw20, h⟩ := h
          obtain ⟨r23, w21, hk22, h⟩ := h
          refine g_callV (pc' := 44) d_138_41 rfl st_138_313 na_127 ml_127 rfl rfl rfl rm_138_127 rfl rfl ow_127 hw20 hk22 ?_
          refine g_l2i (pc' := 45) d_138_44 rfl ?_
          exact g_iret d_138_45 rt_138 h
        · replace h := h.2 c
          refine g_iconst (pc' := 26) d_138_25 rfl ci_m1 ?_
          exact g_iret d_138_26 rt_138 h
-- 139 BernoulliWays.nothings(II)I
theorem S_139_0 {a0 : Nat} {i1 : Int32} {i2 : Int32} {w : xW} {r : Option Value × xW} (h : ∃ r3 w1, xCall 84 [.int i1] w (some (.int r3), w1) ∧ (r3 = 0 → r = (some (.int (-1 : Int32)), w1)) ∧ (¬ (r3 = 0) → ∃ r6 w4, xCall 25 [.int i2] w1 (some (.int r6), w4) ∧ (¬ r6 = 0 → ∃ fs7, w4[a0]? = some (.inr (0, fs7)) ∧ ∃ b9, fs7[10]? = some (.ref b9) ∧ ∃ fs11, w4[b9]? = some (.inr (8, fs11)) ∧ ∃ w13, xCall 123 [.ref b9, .int i1, .int i2] w4 (none, w13) ∧ xGo 139 30 [some (.ref a0), some (.int i1), some (.int i2), some (.int (0 : Int32)), some (.int (2 : Int32))] [] w13 r) ∧ (¬ (¬ r6 = 0) → r = (some (.int (-1 : Int32)), w4)))) : xGo 139 0 [some (.ref a0), some (.int i1), some (.int i2), none, none] [] w r := by
  refine g_iloadn (pc' := 1) d_139_0 rfl rfl ?_
  obtain ⟨r3, w1, hk2, h⟩ := h
  refine g_callS (pc' := 4) d_139_1 rfl st_139_222 (Or.inl rfl) na_84 ml_84 rfl rfl rfl rm_139_84 rfl rfl hk2 ?_
  refine g_if_eq (pc' := 7) (pt := 14) d_139_4 (by decide) rfl (fun c => ?_) (fun c => ?_)
  · replace h := h.1 c
    refine g_iconst (pc' := 15) d_139_14 rfl ci_m1 ?_
    exact g_iret d_139_15 rt_139 h
  · replace h := h.2 c
    refine g_iloadn (pc' := 8) d_139_7 rfl rfl ?_
    obtain ⟨r6, w4, hk5, h⟩ := h
    refine g_callS (pc' := 11) d_139_8 rfl st_139_124 (Or.inl rfl) na_25 ml_25 rfl rfl rfl rm_139_25 rfl rfl hk5 ?_
    refine g_if_ne (pc' := 14) (pt := 16) d_139_11 (by decide) rfl (fun c => ?_) (fun c => ?_)
    · replace h := h.1 c
      refine g_aloadn (pc' := 17) d_139_16 rfl rfl ?_
      obtain ⟨fs7, hw8, h⟩ := h
      obtain ⟨b9, hv10, h⟩ := h
      refine g_getf (pc' := 20) d_139_17 rfl st_139_72 hw8 hv10 ?_
      refine g_iloadn (pc' := 21) d_139_20 rfl rfl ?_
      refine g_iloadn (pc' := 22) d_139_21 rfl rfl ?_
      obtain ⟨fs11, hw12, h⟩ := h
      obtain ⟨w13, hk14, h⟩ := h
      refine g_callV (pc' := 25) d_139_22 rfl st_139_310 na_123 ml_123 rfl rfl rfl rm_139_123 rfl rfl ow_123 hw12 hk14 ?_
      refine g_iconst (pc' := 26) d_139_25 rfl ci_0 ?_
      refine g_istoren (pc' := 27) (l' := [some (.ref a0), some (.int i1), some (.int i2), some (.int (0 : Int32)), none]) d_139_26 rfl ml_139 rfl rfl ?_
      refine g_iconst (pc' := 28) d_139_27 rfl ci_2 ?_
      refine g_istore (pc' := 30) (l' := [some (.ref a0), some (.int i1), some (.int i2), some (.int (0 : Int32)), some (.int (2 : Int32))]) d_139_28 rfl ml_139 rfl rfl ?_
      exact h
    · replace h := h.2 c
      refine g_iconst (pc' := 15) d_139_14 rfl ci_m1 ?_
      exact g_iret d_139_15 rt_139 h
theorem S_139_30 {a0 : Nat} {i1 : Int32} {i2 : Int32} {i3 : Int32} {i4 : Int32} {w : xW} {r : Option Value × xW} (h : ((i1 - (3 : Int32)) < i4 → r = (some (.int i3), w)) ∧ (¬ ((i1 - (3 : Int32)) < i4) → ∃ fs1, w[a0]? = some (.inr (0, fs1)) ∧ ∃ b3, fs1[10]? = some (.ref b3) ∧ ∃ fs5, w[b3]? = some (.inr (8, fs5)) ∧ ∃ r9 w7, xCall 127 [.ref b3, .int i4] w (some (.long r9), w7) ∧ (¬ r9 = (0 : Int64) → ∀ v10 : Int32, v10 = i4 + (2 : Int32) → xGo 139 30 [some (.ref a0), some (.int i1), some (.int i2), some (.int i3), some (.int v10)] [] w7 r) ∧ (¬ (¬ r9 = (0 : Int64)) → ∀ v11 : Int32, v11 = i3 + (1 : Int32) → ∀ v12 : Int32, v12 = i4 + (2 : Int32) → xGo 139 30 [some (.ref a0), some (.int i1), some (.int i2), some (.int v11), some (.int v12)] [] w7 r))) : xGo 139 30 [some (.ref a0), some (.int i1), some (.int i2), some (.int i3), some (.int i4)] [] w r := by
  refine g_iload (pc' := 32) d_139_30 rfl rfl ?_
  refine g_iloadn (pc' := 33) d_139_32 rfl rfl ?_
  refine g_iconst (pc' := 34) d_139_33 rfl ci_3 ?_
  refine g_isub (pc' := 35) d_139_34 rfl ?_
  refine g_ic_gt (pc' := 38) (pt := 61) d_139_35 (by decide) rfl (fun c => ?_) (fun c => ?_)
  · replace h := h.1 c
    refine g_iloadn (pc' := 62) d_139_61 rfl rfl ?_
    exact g_iret d_139_62 rt_139 h
  · replace h := h.2 c
    refine g_aloadn (pc' := 39) d_139_38 rfl rfl ?_
    obtain ⟨fs1, hw2, h⟩ := h
    obtain ⟨b3, hv4, h⟩ := h
    refine g_getf (pc' := 42) d_139_39 rfl st_139_72 hw2 hv4 ?_
    refine g_iload (pc' := 44) d_139_42 rfl rfl ?_
    obtain ⟨fs5, hw6, h⟩ := h
    obtain ⟨r9, w7, hk8, h⟩ := h
    refine g_callV (pc' := 47) d_139_44 rfl st_139_313 na_127 ml_127 rfl rfl rfl rm_139_127 rfl rfl ow_127 hw6 hk8 ?_
    refine g_lconst (pc' := 48) d_139_47 rfl cl_0 ?_
    refine g_lc_ne (pc' := 52) (pm := 49) (pt := 55) d_139_48 rfl d_139_49 (by decide) rfl (fun c => ?_) (fun c => ?_)
    · replace h := h.1 c
      have h := h _ rfl
      refine g_iinc (pc' := 58) (l' := [some (.ref a0), some (.int i1), some (.int i2), some (.int i3), some (.int (i4 + (2 : Int32)))]) d_139_55 rfl rfl ci_2 ml_139 rfl rfl ?_
      refine g_goto (pt := 30) d_139_58 (by decide) ?_
      exact h
    · replace h := h.2 c
      have h := h _ rfl
      refine g_iinc (pc' := 55) (l' := [some (.ref a0), some (.int i1), some (.int i2), some (.int (i3 + (1 : Int32))), some (.int i4)]) d_139_52 rfl rfl ci_1 ml_139 rfl rfl ?_
      have h := h _ rfl
      refine g_iinc (pc' := 58) (l' := [some (.ref a0), some (.int i1), some (.int i2), some (.int (i3 + (1 : Int32))), some (.int (i4 + (2 : Int32)))]) d_139_55 rfl rfl ci_2 ml_139 rfl rfl ?_
      refine g_goto (pt := 30) d_139_58 (by decide) ?_
      exact h
-- 140 BernoulliWays.harmonic(I)I
theorem S_140_0 {a0 : Nat} {i1 : Int32} {w : xW} {r : Option Value × xW} (h : ∃ r3 w1, xCall 84 [.int i1] w (some (.int r3), w1) ∧ (r3 = 0 → r = (some (.int (-1 : Int32)), w1)) ∧ (¬ (r3 = 0) → ((5 : Int32) ≤ i1 → ∀ v4 : Int64, v4 = ((i1.toInt64) * (i1.toInt64)) → ∀ v5 : Int64, v5 = (v4 * (i1.toInt64)) → xGo 140 32 [some (.ref a0), some (.int i1), some (.long v4), none, some (.long v5), none, some (.long (0 : Int64)), none, some (.int (1 : Int32))] [] w1 r) ∧ (¬ ((5 : Int32) ≤ i1) → r = (some (.int (-1 : Int32)), w1)))) : xGo 140 0 [some (.ref a0), some (.int i1), none, none, none, none, none, none, none] [] w r := by
  refine g_iloadn (pc' := 1) d_140_0 rfl rfl ?_
  obtain ⟨r3, w1, hk2, h⟩ := h
  refine g_callS (pc' := 4) d_140_1 rfl st_140_222 (Or.inl rfl) na_84 ml_84 rfl rfl rfl rm_140_84 rfl rfl hk2 ?_
  refine g_if_eq (pc' := 7) (pt := 12) d_140_4 (by decide) rfl (fun c => ?_) (fun c => ?_)
  · replace h := h.1 c
    refine g_iconst (pc' := 13) d_140_12 rfl ci_m1 ?_
    exact g_iret d_140_13 rt_140 h
  · replace h := h.2 c
    refine g_iloadn (pc' := 8) d_140_7 rfl rfl ?_
    refine g_iconst (pc' := 9) d_140_8 rfl ci_5 ?_
    refine g_ic_ge (pc' := 12) (pt := 14) d_140_9 (by decide) rfl (fun c => ?_) (fun c => ?_)
    · replace h := h.1 c
      refine g_iloadn (pc' := 15) d_140_14 rfl rfl ?_
      refine g_i2l (pc' := 16) d_140_15 rfl ?_
      refine g_iloadn (pc' := 17) d_140_16 rfl rfl ?_
      refine g_i2l (pc' := 18) d_140_17 rfl ?_
      refine g_lmul (pc' := 19) d_140_18 rfl ?_
      have h := h _ rfl
      refine g_lstoren (pc' := 20) (l' := [some (.ref a0), some (.int i1), some (.long (((i1.toInt64) * (i1.toInt64)))), none, none, none, none, none, none]) d_140_19 rfl ml_140 rfl rfl ?_
      refine g_lloadn (pc' := 21) d_140_20 rfl rfl ?_
      refine g_iloadn (pc' := 22) d_140_21 rfl rfl ?_
      refine g_i2l (pc' := 23) d_140_22 rfl ?_
      refine g_lmul (pc' := 24) d_140_23 rfl ?_
      have h := h _ rfl
      refine g_lstore (pc' := 26) (l' := [some (.ref a0), some (.int i1), some (.long (((i1.toInt64) * (i1.toInt64)))), none, some (.long (((((i1.toInt64) * (i1.toInt64))) * (i1.toInt64)))), none, none, none, none]) d_140_24 rfl ml_140 rfl rfl ?_
      refine g_lconst (pc' := 27) d_140_26 rfl cl_0 ?_
      refine g_lstore (pc' := 29) (l' := [some (.ref a0), some (.int i1), some (.long (((i1.toInt64) * (i1.toInt64)))), none, some (.long (((((i1.toInt64) * (i1.toInt64))) * (i1.toInt64)))), none, some (.long (0 : Int64)), none, none]) d_140_27 rfl ml_140 rfl rfl ?_
      refine g_iconst (pc' := 30) d_140_29 rfl ci_1 ?_
      refine g_istore (pc' := 32) (l' := [some (.ref a0), some (.int i1), some (.long (((i1.toInt64) * (i1.toInt64)))), none, some (.long (((((i1.toInt64) * (i1.toInt64))) * (i1.toInt64)))), none, some (.long (0 : Int64)), none, some (.int (1 : Int32))]) d_140_30 rfl ml_140 rfl rfl ?_
      exact h
    · replace h := h.2 c
      refine g_iconst (pc' := 13) d_140_12 rfl ci_m1 ?_
      exact g_iret d_140_13 rt_140 h
theorem S_140_32 {a0 : Nat} {i1 : Int32} {l2 : Int64} {l4 : Int64} {l6 : Int64} {i8 : Int32} {w : xW} {r : Option Value × xW} (h : (i1 ≤ i8 → (¬ l4 = 0) ∧ (¬ l2 = 0) ∧ r = (some (.int (((lrem l6 l4) / l2).toInt32)), w)) ∧ (¬ (i1 ≤ i8) → ∃ r5 w3, xCall 53 [.long (i8.toInt64), .long l4] w (some (.long r5), w3) ∧ ∀ v6 : Int64, v6 = (l6 + r5) → ∀ v7 : Int32, v7 = i8 + (1 : Int32) → xGo 140 32 [some (.ref a0), some (.int i1), some (.long l2), none, some (.long l4), none, some (.long v6), none, some (.int v7)] [] w3 r)) : xGo 140 32 [some (.ref a0), some (.int i1), some (.long l2), none, some (.long l4), none, some (.long l6), none, some (.int i8)] [] w r := by
  refine g_iload (pc' := 34) d_140_32 rfl rfl ?_
  refine g_iloadn (pc' := 35) d_140_34 rfl rfl ?_
  refine g_ic_ge (pc' := 38) (pt := 57) d_140_35 (by decide) rfl (fun c => ?_) (fun c => ?_)
  · replace h := h.1 c
    refine g_lload (pc' := 59) d_140_57 rfl rfl ?_
    refine g_lload (pc' := 61) d_140_59 rfl rfl ?_
    obtain ⟨hc1, h⟩ := h
    refine g_lrem (pc' := 62) d_140_61 rfl hc1 ?_
    refine g_lloadn (pc' := 63) d_140_62 rfl rfl ?_
    obtain ⟨hc2, h⟩ := h
    refine g_ldiv (pc' := 64) d_140_63 rfl hc2 ?_
    refine g_l2i (pc' := 65) d_140_64 rfl ?_
    exact g_iret d_140_65 rt_140 h
  · replace h := h.2 c
    refine g_lload (pc' := 40) d_140_38 rfl rfl ?_
    refine g_iload (pc' := 42) d_140_40 rfl rfl ?_
    refine g_i2l (pc' := 43) d_140_42 rfl ?_
    refine g_lload (pc' := 45) d_140_43 rfl rfl ?_
    obtain ⟨r5, w3, hk4, h⟩ := h
    refine g_callS (pc' := 48) d_140_45 rfl st_140_316 (Or.inl rfl) na_53 ml_53 rfl rfl rfl rm_140_53 rfl rfl hk4 ?_
    refine g_ladd (pc' := 49) d_140_48 rfl ?_
    have h := h _ rfl
    refine g_lstore (pc' := 51) (l' := [some (.ref a0), some (.int i1), some (.long l2), none, some (.long l4), none, some (.long ((l6 + r5))), none, some (.int i8)]) d_140_49 rfl ml_140 rfl rfl ?_
    have h := h _ rfl
    refine g_iinc (pc' := 54) (l' := [some (.ref a0), some (.int i1), some (.long l2), none, some (.long l4), none, some (.long ((l6 + r5))), none, some (.int (i8 + (1 : Int32)))]) d_140_51 rfl rfl ci_1 ml_140 rfl rfl ?_
    refine g_goto (pt := 32) d_140_54 (by decide) ?_
    exact h
-- 141 BernoulliWays.wilson(I)I
theorem S_141_0 {a0 : Nat} {i1 : Int32} {w : xW} {r : Option Value × xW} (h : ∃ r3 w1, xCall 84 [.int i1] w (some (.int r3), w1) ∧ (¬ r3 = 0 → ∀ v4 : Int64, v4 = ((i1.toInt64) * (i1.toInt64)) → xGo 141 21 [some (.ref a0), some (.int i1), some (.long v4), none, some (.long (1 : Int64)), none, some (.int (2 : Int32))] [] w1 r) ∧ (¬ (¬ r3 = 0) → r = (some (.int (-1 : Int32)), w1))) : xGo 141 0 [some (.ref a0), some (.int i1), none, none, none, none, none] [] w r := by
  refine g_iloadn (pc' := 1) d_141_0 rfl rfl ?_
  obtain ⟨r3, w1, hk2, h⟩ := h
  refine g_callS (pc' := 4) d_141_1 rfl st_141_222 (Or.inl rfl) na_84 ml_84 rfl rfl rfl rm_141_84 rfl rfl hk2 ?_
  refine g_if_ne (pc' := 7) (pt := 9) d_141_4 (by decide) rfl (fun c => ?_) (fun c => ?_)
  · replace h := h.1 c
    refine g_iloadn (pc' := 10) d_141_9 rfl rfl ?_
    refine g_i2l (pc' := 11) d_141_10 rfl ?_
    refine g_iloadn (pc' := 12) d_141_11 rfl rfl ?_
    refine g_i2l (pc' := 13) d_141_12 rfl ?_
    refine g_lmul (pc' := 14) d_141_13 rfl ?_
    have h := h _ rfl
    refine g_lstoren (pc' := 15) (l' := [some (.ref a0), some (.int i1), some (.long (((i1.toInt64) * (i1.toInt64)))), none, none, none, none]) d_141_14 rfl ml_141 rfl rfl ?_
    refine g_lconst (pc' := 16) d_141_15 rfl cl_1 ?_
    refine g_lstore (pc' := 18) (l' := [some (.ref a0), some (.int i1), some (.long (((i1.toInt64) * (i1.toInt64)))), none, some (.long (1 : Int64)), none, none]) d_141_16 rfl ml_141 rfl rfl ?_
    refine g_iconst (pc' := 19) d_141_18 rfl ci_2 ?_
    refine g_istore (pc' := 21) (l' := [some (.ref a0), some (.int i1), some (.long (((i1.toInt64) * (i1.toInt64)))), none, some (.long (1 : Int64)), none, some (.int (2 : Int32))]) d_141_19 rfl ml_141 rfl rfl ?_
    exact h
  · replace h := h.2 c
    refine g_iconst (pc' := 8) d_141_7 rfl ci_m1 ?_
    exact g_iret d_141_8 rt_141 h
theorem S_141_21 {a0 : Nat} {i1 : Int32} {l2 : Int64} {l4 : Int64} {i6 : Int32} {w : xW} {r : Option Value × xW} (h : (i1 ≤ i6 → (¬ (i1.toInt64) = 0) ∧ (¬ (i1.toInt64) = 0) ∧ r = (some (.int ((lrem ((l4 + (1 : Int64)) / (i1.toInt64)) (i1.toInt64)).toInt32)), w)) ∧ (¬ (i1 ≤ i6) → (¬ l2 = 0) ∧ ∀ v4 : Int64, v4 = (lrem (l4 * (i6.toInt64)) l2) → ∀ v5 : Int32, v5 = i6 + (1 : Int32) → xGo 141 21 [some (.ref a0), some (.int i1), some (.long l2), none, some (.long v4), none, some (.int v5)] [] w r)) : xGo 141 21 [some (.ref a0), some (.int i1), some (.long l2), none, some (.long l4), none, some (.int i6)] [] w r := by
  refine g_iload (pc' := 23) d_141_21 rfl rfl ?_
  refine g_iloadn (pc' := 24) d_141_23 rfl rfl ?_
  refine g_ic_ge (pc' := 27) (pt := 43) d_141_24 (by decide) rfl (fun c => ?_) (fun c => ?_)
  · replace h := h.1 c
    refine g_lload (pc' := 45) d_141_43 rfl rfl ?_
    refine g_lconst (pc' := 46) d_141_45 rfl cl_1 ?_
    refine g_ladd (pc' := 47) d_141_46 rfl ?_
    refine g_iloadn (pc' := 48) d_141_47 rfl rfl ?_
    refine g_i2l (pc' := 49) d_141_48 rfl ?_
    obtain ⟨hc1, h⟩ := h
    refine g_ldiv (pc' := 50) d_141_49 rfl hc1 ?_
    refine g_iloadn (pc' := 51) d_141_50 rfl rfl ?_
    refine g_i2l (pc' := 52) d_141_51 rfl ?_
    obtain ⟨hc2, h⟩ := h
    refine g_lrem (pc' := 53) d_141_52 rfl hc2 ?_
    refine g_l2i (pc' := 54) d_141_53 rfl ?_
    exact g_iret d_141_54 rt_141 h
  · replace h := h.2 c
    refine g_lload (pc' := 29) d_141_27 rfl rfl ?_
    refine g_iload (pc' := 31) d_141_29 rfl rfl ?_
    refine g_i2l (pc' := 32) d_141_31 rfl ?_
    refine g_lmul (pc' := 33) d_141_32 rfl ?_
    refine g_lloadn (pc' := 34) d_141_33 rfl rfl ?_
    obtain ⟨hc3, h⟩ := h
    refine g_lrem (pc' := 35) d_141_34 rfl hc3 ?_
    have h := h _ rfl
    refine g_lstore (pc' := 37) (l' := [some (.ref a0), some (.int i1), some (.long l2), none, some (.long ((lrem (l4 * (i6.toInt64)) l2))), none, some (.int i6)]) d_141_35 rfl ml_141 rfl rfl ?_
    have h := h _ rfl
    refine g_iinc (pc' := 40) (l' := [some (.ref a0), some (.int i1), some (.long l2), none, some (.long ((lrem (l4 * (i6.toInt64)) l2))), none, some (.int (i6 + (1 : Int32)))]) d_141_37 rfl rfl ci_1 ml_141 rfl rfl ?_
    refine g_goto (pt := 21) d_141_40 (by decide) ?_
    exact h
-- 142 BernoulliWays.classNumber(I)I
theorem S_142_0 {a0 : Nat} {i1 : Int32} {w : xW} {r : Option Value × xW} (h : ∃ r3 w1, xCall 84 [.int i1] w (some (.int r3), w1) ∧ (r3 = 0 → r = (some (.int (-1 : Int32)), w1)) ∧ (¬ (r3 = 0) → (i1 < (7 : Int32) → r = (some (.int (-1 : Int32)), w1)) ∧ (¬ (i1 < (7 : Int32)) → ((irem i1 (4 : Int32)) = (3 : Int32) → xGo 142 26 [some (.ref a0), some (.int i1), some (.int (0 : Int32)), some (.int (1 : Int32))] [] w1 r) ∧ (¬ ((irem i1 (4 : Int32)) = (3 : Int32)) → r = (some (.int (-1 : Int32)), w1))))) : xGo 142 0 [some (.ref a0), some (.int i1), none, none] [] w r := by
  refine g_iloadn (pc' := 1) d_142_0 rfl rfl ?_
  obtain ⟨r3, w1, hk2, h⟩ := h
  refine g_callS (pc' := 4) d_142_1 rfl st_142_222 (Or.inl rfl) na_84 ml_84 rfl rfl rfl rm_142_84 rfl rfl hk2 ?_
  refine g_if_eq (pc' := 7) (pt := 20) d_142_4 (by decide) rfl (fun c => ?_) (fun c => ?_)
  · replace h := h.1 c
    refine g_iconst (pc' := 21) d_142_20 rfl ci_m1 ?_
    exact g_iret d_142_21 rt_142 h
  · replace h := h.2 c
    refine g_iloadn (pc' := 8) d_142_7 rfl rfl ?_
    refine g_bipush (pc' := 10) d_142_8 rfl cb_7 ?_
    refine g_ic_lt (pc' := 13) (pt := 20) d_142_10 (by decide) rfl (fun c => ?_) (fun c => ?_)
    · replace h := h.1 c
      refine g_iconst (pc' := 21) d_142_20 rfl ci_m1 ?_
      exact g_iret d_142_21 rt_142 h
    · replace h := h.2 c
      refine g_iloadn (pc' := 14) d_142_13 rfl rfl ?_
      refine g_iconst (pc' := 15) d_142_14 rfl ci_4 ?_
      refine g_irem (pc' := 16) d_142_15 rfl (by decide) ?_
      refine g_iconst (pc' := 17) d_142_16 rfl ci_3 ?_
      refine g_ic_eq (pc' := 20) (pt := 22) d_142_17 (by decide) rfl (fun c => ?_) (fun c => ?_)
      · replace h := h.1 c
        refine g_iconst (pc' := 23) d_142_22 rfl ci_0 ?_
        refine g_istoren (pc' := 24) (l' := [some (.ref a0), some (.int i1), some (.int (0 : Int32)), none]) d_142_23 rfl ml_142 rfl rfl ?_
        refine g_iconst (pc' := 25) d_142_24 rfl ci_1 ?_
        refine g_istoren (pc' := 26) (l' := [some (.ref a0), some (.int i1), some (.int (0 : Int32)), some (.int (1 : Int32))]) d_142_25 rfl ml_142 rfl rfl ?_
        exact h
      · replace h := h.2 c
        refine g_iconst (pc' := 21) d_142_20 rfl ci_m1 ?_
        exact g_iret d_142_21 rt_142 h
theorem S_142_26 {a0 : Nat} {i1 : Int32} {i2 : Int32} {i3 : Int32} {w : xW} {r : Option Value × xW} (h : (i1 ≤ i3 → (¬ i1 = 0) ∧ r = (some (.int (i2 / i1)), w)) ∧ (¬ (i1 ≤ i3) → ∃ r4 w2, xCall 143 [.int i3, .int i1] w (some (.int r4), w2) ∧ ∀ v5 : Int32, v5 = (i2 - (r4 * i3)) → ∀ v6 : Int32, v6 = i3 + (1 : Int32) → xGo 142 26 [some (.ref a0), some (.int i1), some (.int v5), some (.int v6)] [] w2 r)) : xGo 142 26 [some (.ref a0), some (.int i1), some (.int i2), some (.int i3)] [] w r := by
  refine g_iloadn (pc' := 27) d_142_26 rfl rfl ?_
  refine g_iloadn (pc' := 28) d_142_27 rfl rfl ?_
  refine g_ic_ge (pc' := 31) (pt := 47) d_142_28 (by decide) rfl (fun c => ?_) (fun c => ?_)
  · replace h := h.1 c
    refine g_iloadn (pc' := 48) d_142_47 rfl rfl ?_
    refine g_iloadn (pc' := 49) d_142_48 rfl rfl ?_
    obtain ⟨hc1, h⟩ := h
    refine g_idiv (pc' := 50) d_142_49 rfl hc1 ?_
    exact g_iret d_142_50 rt_142 h
  · replace h := h.2 c
    refine g_iloadn (pc' := 32) d_142_31 rfl rfl ?_
    refine g_iloadn (pc' := 33) d_142_32 rfl rfl ?_
    refine g_iloadn (pc' := 34) d_142_33 rfl rfl ?_
    obtain ⟨r4, w2, hk3, h⟩ := h
    refine g_callS (pc' := 37) d_142_34 rfl st_142_319 (Or.inl rfl) na_143 ml_143 rfl rfl rfl rm_142_143 rfl rfl hk3 ?_
    refine g_iloadn (pc' := 38) d_142_37 rfl rfl ?_
    refine g_imul (pc' := 39) d_142_38 rfl ?_
    refine g_isub (pc' := 40) d_142_39 rfl ?_
    have h := h _ rfl
    refine g_istoren (pc' := 41) (l' := [some (.ref a0), some (.int i1), some (.int ((i2 - (r4 * i3)))), some (.int i3)]) d_142_40 rfl ml_142 rfl rfl ?_
    have h := h _ rfl
    refine g_iinc (pc' := 44) (l' := [some (.ref a0), some (.int i1), some (.int ((i2 - (r4 * i3)))), some (.int (i3 + (1 : Int32)))]) d_142_41 rfl rfl ci_1 ml_142 rfl rfl ?_
    refine g_goto (pt := 26) d_142_44 (by decide) ?_
    exact h
-- 143 BernoulliWays$Modulo.signOf(II)I
theorem S_143_0 {i0 : Int32} {i1 : Int32} {w : xW} {r : Option Value × xW} (h : ∃ r3 w1, xCall 50 [.long (i0.toInt64), .int ((i1 - (1 : Int32)) / (2 : Int32)), .long (i1.toInt64)] w (some (.long r3), w1) ∧ (r3 ≤ (1 : Int64) → r = (some (.int (r3.toInt32)), w1)) ∧ (¬ (r3 ≤ (1 : Int64)) → r = (some (.int (-1 : Int32)), w1))) : xGo 143 0 [some (.int i0), some (.int i1), none, none] [] w r := by
  refine g_iloadn (pc' := 1) d_143_0 rfl rfl ?_
  refine g_i2l (pc' := 2) d_143_1 rfl ?_
  refine g_iloadn (pc' := 3) d_143_2 rfl rfl ?_
  refine g_iconst (pc' := 4) d_143_3 rfl ci_1 ?_
  refine g_isub (pc' := 5) d_143_4 rfl ?_
  refine g_iconst (pc' := 6) d_143_5 rfl ci_2 ?_
  refine g_idiv (pc' := 7) d_143_6 rfl (by decide) ?_
  refine g_iloadn (pc' := 8) d_143_7 rfl rfl ?_
  refine g_i2l (pc' := 9) d_143_8 rfl ?_
  obtain ⟨r3, w1, hk2, h⟩ := h
  refine g_callS (pc' := 12) d_143_9 rfl st_143_13 (Or.inl rfl) na_50 ml_50 rfl rfl rfl rm_143_50 rfl rfl hk2 ?_
  refine g_lstoren (pc' := 13) (l' := [some (.int i0), some (.int i1), some (.long r3), none]) d_143_12 rfl ml_143 rfl rfl ?_
  refine g_lloadn (pc' := 14) d_143_13 rfl rfl ?_
  refine g_lconst (pc' := 15) d_143_14 rfl cl_1 ?_
  refine g_lc_le (pc' := 19) (pm := 16) (pt := 23) d_143_15 rfl d_143_16 (by decide) rfl (fun c => ?_) (fun c => ?_)
  · replace h := h.1 c
    refine g_lloadn (pc' := 24) d_143_23 rfl rfl ?_
    refine g_l2i (pc' := 25) d_143_24 rfl ?_
    exact g_iret d_143_25 rt_143 h
  · replace h := h.2 c
    refine g_iconst (pc' := 20) d_143_19 rfl ci_m1 ?_
    refine g_goto (pt := 25) d_143_20 (by decide) ?_
    exact g_iret d_143_25 rt_143 h
-- 144 BernoulliWays.quadratic(III)J
theorem S_144_0 {a0 : Nat} {i1 : Int32} {i2 : Int32} {i3 : Int32} {w : xW} {r : Option Value × xW} (h : ∃ r3 w1, xCall 84 [.int i1] w (some (.int r3), w1) ∧ (r3 = 0 → r = (some (.long (-9223372036854775808 : Int64)), w1)) ∧ (¬ (r3 = 0) → (i2 < (1 : Int32) → r = (some (.long (-9223372036854775808 : Int64)), w1)) ∧ (¬ (i2 < (1 : Int32)) → ((4 : Int32) < i2 → r = (some (.long (-9223372036854775808 : Int64)), w1)) ∧ (¬ ((4 : Int32) < i2) → ∃ r6 w4, xCall 116 [.int i3] w1 (some (.int r6), w4) ∧ (¬ r6 = 0 → xGo 144 34 [some (.ref a0), some (.int i1), some (.int i2), some (.int i3), some (.long (0 : Int64)), none, some (.int (1 : Int32))] [] w4 r) ∧ (¬ (¬ r6 = 0) → r = (some (.long (-9223372036854775808 : Int64)), w4)))))) : xGo 144 0 [some (.ref a0), some (.int i1), some (.int i2), some (.int i3), none, none, none] [] w r := by
  refine g_iloadn (pc' := 1) d_144_0 rfl rfl ?_
  obtain ⟨r3, w1, hk2, h⟩ := h
  refine g_callS (pc' := 4) d_144_1 rfl st_144_222 (Or.inl rfl) na_84 ml_84 rfl rfl rfl rm_144_84 rfl rfl hk2 ?_
  refine g_if_eq (pc' := 7) (pt := 24) d_144_4 (by decide) rfl (fun c => ?_) (fun c => ?_)
  · replace h := h.1 c
    refine g_ldc2 (pc' := 27) d_144_24 rfl st_144_166 cL_m9223372036854775808 ?_
    exact g_lret d_144_27 rt_144 h
  · replace h := h.2 c
    refine g_iloadn (pc' := 8) d_144_7 rfl rfl ?_
    refine g_iconst (pc' := 9) d_144_8 rfl ci_1 ?_
    refine g_ic_lt (pc' := 12) (pt := 24) d_144_9 (by decide) rfl (fun c => ?_) (fun c => ?_)
    · replace h := h.1 c
      refine g_ldc2 (pc' := 27) d_144_24 rfl st_144_166 cL_m9223372036854775808 ?_
      exact g_lret d_144_27 rt_144 h
    · replace h := h.2 c
      refine g_iloadn (pc' := 13) d_144_12 rfl rfl ?_
      refine g_iconst (pc' := 14) d_144_13 rfl ci_4 ?_
      refine g_ic_gt (pc' := 17) (pt := 24) d_144_14 (by decide) rfl (fun c => ?_) (fun c => ?_)
      · replace h := h.1 c
        refine g_ldc2 (pc' := 27) d_144_24 rfl st_144_166 cL_m9223372036854775808 ?_
        exact g_lret d_144_27 rt_144 h
      · replace h := h.2 c
        refine g_iloadn (pc' := 18) d_144_17 rfl rfl ?_
        obtain ⟨r6, w4, hk5, h⟩ := h
        refine g_callS (pc' := 21) d_144_18 rfl st_144_153 (Or.inl rfl) na_116 ml_116 rfl rfl rfl rm_144_116 rfl rfl hk5 ?_
        refine g_if_ne (pc' := 24) (pt := 28) d_144_21 (by decide) rfl (fun c => ?_) (fun c => ?_)
        · replace h := h.1 c
          refine g_lconst (pc' := 29) d_144_28 rfl cl_0 ?_
          refine g_lstore (pc' := 31) (l' := [some (.ref a0), some (.int i1), some (.int i2), some (.int i3), some (.long (0 : Int64)), none, none]) d_144_29 rfl ml_144 rfl rfl ?_
          refine g_iconst (pc' := 32) d_144_31 rfl ci_1 ?_
          refine g_istore (pc' := 34) (l' := [some (.ref a0), some (.int i1), some (.int i2), some (.int i3), some (.long (0 : Int64)), none, some (.int (1 : Int32))]) d_144_32 rfl ml_144 rfl rfl ?_
          exact h
        · replace h := h.2 c
          refine g_ldc2 (pc' := 27) d_144_24 rfl st_144_166 cL_m9223372036854775808 ?_
          exact g_lret d_144_27 rt_144 h
theorem S_144_34 {a0 : Nat} {i1 : Int32} {i2 : Int32} {i3 : Int32} {l4 : Int64} {i6 : Int32} {w : xW} {r : Option Value × xW} (h : (i1 < i6 → ∃ fs1, w[a0]? = some (.inr (0, fs1)) ∧ ∃ b3, fs1[13]? = some (.ref b3) ∧ ∃ fs5, w[b3]? = some (.inr (5, fs5)) ∧ ∃ w7, xCall 16 [.ref b3, .long (0 : Int64), .long l4, .long ((30 : Int64) * (i1.toInt64))] w (none, w7) ∧ ∃ fs9, w7[a0]? = some (.inr (0, fs9)) ∧ ∃ b11, fs9[13]? = some (.ref b11) ∧ ∃ fs13, w7[b11]? = some (.inr (5, fs13)) ∧ ∃ r17 w15, xCall 117 [.ref b11, .int i3] w7 (some (.long r17), w15) ∧ r = (some (.long r17), w15)) ∧ (¬ (i1 < i6) → ∃ r20 w18, xCall 143 [.int i6, .int i1] w (some (.int r20), w18) ∧ ∃ fs21, w18[a0]? = some (.inr (0, fs21)) ∧ ∃ b23, fs21[3]? = some (.ref b23) ∧ ∃ r27 w25, xCall 145 [.ref a0, .ref b23, .int i2, .long (i6.toInt64), .long (i1.toInt64), .long (30 : Int64)] w18 (some (.long r27), w25) ∧ ∀ v28 : Int64, v28 = (l4 + ((r20.toInt64) * r27)) → ∀ v29 : Int32, v29 = i6 + (1 : Int32) → xGo 144 34 [some (.ref a0), some (.int i1), some (.int i2), some (.int i3), some (.long v28), none, some (.int v29)] [] w25 r)) : xGo 144 34 [some (.ref a0), some (.int i1), some (.int i2), some (.int i3), some (.long l4), none, some (.int i6)] [] w r := by
  refine g_iload (pc' := 36) d_144_34 rfl rfl ?_
  refine g_iloadn (pc' := 37) d_144_36 rfl rfl ?_
  refine g_ic_gt (pc' := 40) (pt := 76) d_144_37 (by decide) rfl (fun c => ?_) (fun c => ?_)
  · replace h := h.1 c
    refine g_aloadn (pc' := 77) d_144_76 rfl rfl ?_
    obtain ⟨fs1, hw2, h⟩ := h
    obtain ⟨b3, hv4, h⟩ := h
    refine g_getf (pc' := 80) d_144_77 rfl st_144_95 hw2 hv4 ?_
    refine g_lconst (pc' := 81) d_144_80 rfl cl_0 ?_
    refine g_lload (pc' := 83) d_144_81 rfl rfl ?_
    refine g_ldc2 (pc' := 86) d_144_83 rfl st_144_321 cL_30 ?_
    refine g_iloadn (pc' := 87) d_144_86 rfl rfl ?_
    refine g_i2l (pc' := 88) d_144_87 rfl ?_
    refine g_lmul (pc' := 89) d_144_88 rfl ?_
    obtain ⟨fs5, hw6, h⟩ := h
    obtain ⟨w7, hk8, h⟩ := h
    refine g_callV (pc' := 92) d_144_89 rfl st_144_327 na_16 ml_16 rfl rfl rfl rm_144_16 rfl rfl ow_16 hw6 hk8 ?_
    refine g_aloadn (pc' := 93) d_144_92 rfl rfl ?_
    obtain ⟨fs9, hw10, h⟩ := h
    obtain ⟨b11, hv12, h⟩ := h
    refine g_getf (pc' := 96) d_144_93 rfl st_144_95 hw10 hv12 ?_
    refine g_iloadn (pc' := 97) d_144_96 rfl rfl ?_
    obtain ⟨fs13, hw14, h⟩ := h
    obtain ⟨r17, w15, hk16, h⟩ := h
    refine g_callV (pc' := 100) d_144_97 rfl st_144_171 na_117 ml_117 rfl rfl rfl rm_144_117 rfl rfl ow_117 hw14 hk16 ?_
    exact g_lret d_144_100 rt_144 h
  · replace h := h.2 c
    refine g_lload (pc' := 42) d_144_40 rfl rfl ?_
    refine g_iload (pc' := 44) d_144_42 rfl rfl ?_
    refine g_iloadn (pc' := 45) d_144_44 rfl rfl ?_
    obtain ⟨r20, w18, hk19, h⟩ := h
    refine g_callS (pc' := 48) d_144_45 rfl st_144_319 (Or.inl rfl) na_143 ml_143 rfl rfl rfl rm_144_143 rfl rfl hk19 ?_
    refine g_i2l (pc' := 49) d_144_48 rfl ?_
    refine g_aloadn (pc' := 50) d_144_49 rfl rfl ?_
    refine g_aloadn (pc' := 51) d_144_50 rfl rfl ?_
    obtain ⟨fs21, hw22, h⟩ := h
    obtain ⟨b23, hv24, h⟩ := h
    refine g_getf (pc' := 54) d_144_51 rfl st_144_35 hw22 hv24 ?_
    refine g_iloadn (pc' := 55) d_144_54 rfl rfl ?_
    refine g_iload (pc' := 57) d_144_55 rfl rfl ?_
    refine g_i2l (pc' := 58) d_144_57 rfl ?_
    refine g_iloadn (pc' := 59) d_144_58 rfl rfl ?_
    refine g_i2l (pc' := 60) d_144_59 rfl ?_
    refine g_ldc2 (pc' := 63) d_144_60 rfl st_144_321 cL_30 ?_
    obtain ⟨r27, w25, hk26, h⟩ := h
    refine g_callV (pc' := 66) d_144_63 rfl st_144_323 na_145 ml_145 rfl rfl rfl rm_144_145 rfl rfl ow_145 hw22 hk26 ?_
    refine g_lmul (pc' := 67) d_144_66 rfl ?_
    refine g_ladd (pc' := 68) d_144_67 rfl ?_
    have h := h _ rfl
    refine g_lstore (pc' := 70) (l' := [some (.ref a0), some (.int i1), some (.int i2), some (.int i3), some (.long ((l4 + ((r20.toInt64) * r27)))), none, some (.int i6)]) d_144_68 rfl ml_144 rfl rfl ?_
    have h := h _ rfl
    refine g_iinc (pc' := 73) (l' := [some (.ref a0), some (.int i1), some (.int i2), some (.int i3), some (.long ((l4 + ((r20.toInt64) * r27)))), none, some (.int (i6 + (1 : Int32)))]) d_144_70 rfl rfl ci_1 ml_144 rfl rfl ?_
    refine g_goto (pt := 34) d_144_73 (by decide) ?_
    exact h
-- 145 BernoulliWays.homogeneous(LBernoulliWays$Entries;IJJJ)J
theorem S_145_0 {a0 : Nat} {a1 : Nat} {i2 : Int32} {l3 : Int64} {l5 : Int64} {l7 : Int64} {w : xW} {r : Option Value × xW} (h : xGo 145 9 [some (.ref a0), some (.ref a1), some (.int i2), some (.long l3), none, some (.long l5), none, some (.long l7), none, some (.long (0 : Int64)), none, some (.long (1 : Int64)), none, some (.int i2)] [] w r) : xGo 145 0 [some (.ref a0), some (.ref a1), some (.int i2), some (.long l3), none, some (.long l5), none, some (.long l7), none, none, none, none, none, none] [] w r := by
  refine g_lconst (pc' := 1) d_145_0 rfl cl_0 ?_
  refine g_lstore (pc' := 3) (l' := [some (.ref a0), some (.ref a1), some (.int i2), some (.long l3), none, some (.long l5), none, some (.long l7), none, some (.long (0 : Int64)), none, none, none, none]) d_145_1 rfl ml_145 rfl rfl ?_
  refine g_lconst (pc' := 4) d_145_3 rfl cl_1 ?_
  refine g_lstore (pc' := 6) (l' := [some (.ref a0), some (.ref a1), some (.int i2), some (.long l3), none, some (.long l5), none, some (.long l7), none, some (.long (0 : Int64)), none, some (.long (1 : Int64)), none, none]) d_145_4 rfl ml_145 rfl rfl ?_
  refine g_iloadn (pc' := 7) d_145_6 rfl rfl ?_
  refine g_istore (pc' := 9) (l' := [some (.ref a0), some (.ref a1), some (.int i2), some (.long l3), none, some (.long l5), none, some (.long l7), none, some (.long (0 : Int64)), none, some (.long (1 : Int64)), none, some (.int i2)]) d_145_7 rfl ml_145 rfl rfl ?_
  exact h
theorem S_145_9 {a0 : Nat} {a1 : Nat} {i2 : Int32} {l3 : Int64} {l5 : Int64} {l7 : Int64} {l9 : Int64} {l11 : Int64} {i13 : Int32} {w : xW} {r : Option Value × xW} (h : (i13 < 0 → r = (some (.long l9), w)) ∧ (¬ (i13 < 0) → ∃ fs1, w[a0]? = some (.inr (0, fs1)) ∧ ∃ b3, fs1[0]? = some (.ref b3) ∧ ∃ fs5, w[b3]? = some (.inr (1, fs5)) ∧ ∃ r9 w7, xCall 39 [.ref b3, .int i2, .int i13] w (some (.long r9), w7) ∧ ∃ fs10, w7[a1]? = some (.inr (4, fs10)) ∧ ∃ r14 w12, xCall 146 [.ref a1, .int (i2 - i13), .long l7] w7 (some (.long r14), w12) ∧ ∀ v15 : Int64, v15 = ((l9 * l3) + ((r9 * r14) * l11)) → ∀ v16 : Int64, v16 = (l11 * l5) → ∀ v17 : Int32, v17 = i13 + (-1 : Int32) → xGo 145 9 [some (.ref a0), some (.ref a1), some (.int i2), some (.long l3), none, some (.long l5), none, some (.long l7), none, some (.long v15), none, some (.long v16), none, some (.int v17)] [] w12 r)) : xGo 145 9 [some (.ref a0), some (.ref a1), some (.int i2), some (.long l3), none, some (.long l5), none, some (.long l7), none, some (.long l9), none, some (.long l11), none, some (.int i13)] [] w r := by
  refine g_iload (pc' := 11) d_145_9 rfl rfl ?_
  refine g_if_lt (pc' := 14) (pt := 58) d_145_11 (by decide) rfl (fun c => ?_) (fun c => ?_)
  · replace h := h.1 c
    refine g_lload (pc' := 60) d_145_58 rfl rfl ?_
    exact g_lret d_145_60 rt_145 h
  · replace h := h.2 c
    refine g_lload (pc' := 16) d_145_14 rfl rfl ?_
    refine g_lloadn (pc' := 17) d_145_16 rfl rfl ?_
    refine g_lmul (pc' := 18) d_145_17 rfl ?_
    refine g_aloadn (pc' := 19) d_145_18 rfl rfl ?_
    obtain ⟨fs1, hw2, h⟩ := h
    obtain ⟨b3, hv4, h⟩ := h
    refine g_getf (pc' := 22) d_145_19 rfl st_145_14 hw2 hv4 ?_
    refine g_iloadn (pc' := 23) d_145_22 rfl rfl ?_
    refine g_iload (pc' := 25) d_145_23 rfl rfl ?_
    obtain ⟨fs5, hw6, h⟩ := h
    obtain ⟨r9, w7, hk8, h⟩ := h
    refine g_callV (pc' := 28) d_145_25 rfl st_145_336 na_39 ml_39 rfl rfl rfl rm_145_39 rfl rfl ow_39 hw6 hk8 ?_
    refine g_aloadn (pc' := 29) d_145_28 rfl rfl ?_
    refine g_iloadn (pc' := 30) d_145_29 rfl rfl ?_
    refine g_iload (pc' := 32) d_145_30 rfl rfl ?_
    refine g_isub (pc' := 33) d_145_32 rfl ?_
    refine g_lload (pc' := 35) d_145_33 rfl rfl ?_
    obtain ⟨fs10, hw11, h⟩ := h
    obtain ⟨r14, w12, hk13, h⟩ := h
    refine g_callV (pc' := 38) d_145_35 rfl st_145_461 na_146 ml_146 rfl rfl rfl rm_145_146 rfl rfl ow_146 hw11 hk13 ?_
    refine g_lmul (pc' := 39) d_145_38 rfl ?_
    refine g_lload (pc' := 41) d_145_39 rfl rfl ?_
    refine g_lmul (pc' := 42) d_145_41 rfl ?_
    refine g_ladd (pc' := 43) d_145_42 rfl ?_
    have h := h _ rfl
    refine g_lstore (pc' := 45) (l' := [some (.ref a0), some (.ref a1), some (.int i2), some (.long l3), none, some (.long l5), none, some (.long l7), none, some (.long (((l9 * l3) + ((r9 * r14) * l11)))), none, some (.long l11), none, some (.int i13)]) d_145_43 rfl ml_145 rfl rfl ?_
    refine g_lload (pc' := 47) d_145_45 rfl rfl ?_
    refine g_lload (pc' := 49) d_145_47 rfl rfl ?_
    refine g_lmul (pc' := 50) d_145_49 rfl ?_
    have h := h _ rfl
    refine g_lstore (pc' := 52) (l' := [some (.ref a0), some (.ref a1), some (.int i2), some (.long l3), none, some (.long l5), none, some (.long l7), none, some (.long (((l9 * l3) + ((r9 * r14) * l11)))), none, some (.long ((l11 * l5))), none, some (.int i13)]) d_145_50 rfl ml_145 rfl rfl ?_
    have h := h _ rfl
    refine g_iinc (pc' := 55) (l' := [some (.ref a0), some (.ref a1), some (.int i2), some (.long l3), none, some (.long l5), none, some (.long l7), none, some (.long (((l9 * l3) + ((r9 * r14) * l11)))), none, some (.long ((l11 * l5))), none, some (.int (i13 + (-1 : Int32)))]) d_145_52 rfl rfl ci_m1 ml_145 rfl rfl ?_
    refine g_goto (pt := 9) d_145_55 (by decide) ?_
    exact h
-- 146 BernoulliWays$Entries.scaled(IJ)J
theorem S_146_0 {a0 : Nat} {i1 : Int32} {l2 : Int64} {w : xW} {r : Option Value × xW} (h : ∃ fs1, w[a0]? = some (.inr (4, fs1)) ∧ ∃ r5 w3, xCall 31 [.ref a0, .int i1] w (some (.long r5), w3) ∧ (r5 ≤ (0 : Int64) → r = (some (.long (0 : Int64)), w3)) ∧ (¬ (r5 ≤ (0 : Int64)) → ∃ fs6, w3[a0]? = some (.inr (4, fs6)) ∧ ∃ r10 w8, xCall 29 [.ref a0, .int i1] w3 (some (.long r10), w8) ∧ ∃ fs11, w8[a0]? = some (.inr (4, fs11)) ∧ ∃ r15 w13, xCall 30 [.ref a0, .int i1] w8 (some (.long r15), w13) ∧ (¬ r5 = 0) ∧ r = (some (.long ((r10 * l2) + (r15 * (l2 / r5)))), w13))) : xGo 146 0 [some (.ref a0), some (.int i1), some (.long l2), none, none, none] [] w r := by
  refine g_aloadn (pc' := 1) d_146_0 rfl rfl ?_
  refine g_iloadn (pc' := 2) d_146_1 rfl rfl ?_
  obtain ⟨fs1, hw2, h⟩ := h
  obtain ⟨r5, w3, hk4, h⟩ := h
  refine g_callV (pc' := 5) d_146_2 rfl st_146_55 na_31 ml_31 rfl rfl rfl rm_146_31 rfl rfl ow_31 hw2 hk4 ?_
  refine g_lstore (pc' := 7) (l' := [some (.ref a0), some (.int i1), some (.long l2), none, some (.long r5), none]) d_146_5 rfl ml_146 rfl rfl ?_
  refine g_lload (pc' := 9) d_146_7 rfl rfl ?_
  refine g_lconst (pc' := 10) d_146_9 rfl cl_0 ?_
  refine g_lc_le (pc' := 14) (pm := 11) (pt := 35) d_146_10 rfl d_146_11 (by decide) rfl (fun c => ?_) (fun c => ?_)
  · replace h := h.1 c
    refine g_lconst (pc' := 36) d_146_35 rfl cl_0 ?_
    exact g_lret d_146_36 rt_146 h
  · replace h := h.2 c
    refine g_aloadn (pc' := 15) d_146_14 rfl rfl ?_
    refine g_iloadn (pc' := 16) d_146_15 rfl rfl ?_
    obtain ⟨fs6, hw7, h⟩ := h
    obtain ⟨r10, w8, hk9, h⟩ := h
    refine g_callV (pc' := 19) d_146_16 rfl st_146_38 na_29 ml_29 rfl rfl rfl rm_146_29 rfl rfl ow_29 hw7 hk9 ?_
    refine g_lloadn (pc' := 20) d_146_19 rfl rfl ?_
    refine g_lmul (pc' := 21) d_146_20 rfl ?_
    refine g_aloadn (pc' := 22) d_146_21 rfl rfl ?_
    refine g_iloadn (pc' := 23) d_146_22 rfl rfl ?_
    obtain ⟨fs11, hw12, h⟩ := h
    obtain ⟨r15, w13, hk14, h⟩ := h
    refine g_callV (pc' := 26) d_146_23 rfl st_146_42 na_30 ml_30 rfl rfl rfl rm_146_30 rfl rfl ow_30 hw12 hk14 ?_
    refine g_lloadn (pc' := 27) d_146_26 rfl rfl ?_
    refine g_lload (pc' := 29) d_146_27 rfl rfl ?_
    obtain ⟨hc16, h⟩ := h
    refine g_ldiv (pc' := 30) d_146_29 rfl hc16 ?_
    refine g_lmul (pc' := 31) d_146_30 rfl ?_
    refine g_ladd (pc' := 32) d_146_31 rfl ?_
    refine g_goto (pt := 36) d_146_32 (by decide) ?_
    exact g_lret d_146_36 rt_146 h
-- 147 BernoulliWays.regulars(I)I
theorem S_147_0 {a0 : Nat} {i1 : Int32} {w : xW} {r : Option Value × xW} (h : (i1 < (3 : Int32) → r = (some (.int (-1 : Int32)), w)) ∧ (¬ (i1 < (3 : Int32)) → (i1 ≤ (199 : Int32) → ∃ fs1, w[a0]? = some (.inr (0, fs1)) ∧ ∃ b3, fs1[11]? = some (.ref b3) ∧ ∃ fs5, w[b3]? = some (.inr (9, fs5)) ∧ ∃ w7, xCall 121 [.ref b3, .int i1] w (none, w7) ∧ (w7[xP]? = none) ∧ xGo 147 35 [some (.ref a0), some (.int i1), some (.int (0 : Int32)), some (.ref xP), some (.int (46 : Int32)), some (.int (0 : Int32)), none] [] w7 r) ∧ (¬ (i1 ≤ (199 : Int32)) → r = (some (.int (-1 : Int32)), w)))) : xGo 147 0 [some (.ref a0), some (.int i1), none, none, none, none, none] [] w r := by
  refine g_iloadn (pc' := 1) d_147_0 rfl rfl ?_
  refine g_iconst (pc' := 2) d_147_1 rfl ci_3 ?_
  refine g_ic_lt (pc' := 5) (pt := 12) d_147_2 (by decide) rfl (fun c => ?_) (fun c => ?_)
  · replace h := h.1 c
    refine g_iconst (pc' := 13) d_147_12 rfl ci_m1 ?_
    exact g_iret d_147_13 rt_147 h
  · replace h := h.2 c
    refine g_iloadn (pc' := 6) d_147_5 rfl rfl ?_
    refine g_sipush (pc' := 9) d_147_6 rfl cs_199 ?_
    refine g_ic_le (pc' := 12) (pt := 14) d_147_9 (by decide) rfl (fun c => ?_) (fun c => ?_)
    · replace h := h.1 c
      refine g_aloadn (pc' := 15) d_147_14 rfl rfl ?_
      obtain ⟨fs1, hw2, h⟩ := h
      obtain ⟨b3, hv4, h⟩ := h
      refine g_getf (pc' := 18) d_147_15 rfl st_147_81 hw2 hv4 ?_
      refine g_iloadn (pc' := 19) d_147_18 rfl rfl ?_
      obtain ⟨fs5, hw6, h⟩ := h
      obtain ⟨w7, hk8, h⟩ := h
      refine g_callV (pc' := 22) d_147_19 rfl st_147_287 na_121 ml_121 rfl rfl rfl rm_147_121 rfl rfl ow_121 hw6 hk8 ?_
      refine g_iconst (pc' := 23) d_147_22 rfl ci_0 ?_
      refine g_istoren (pc' := 24) (l' := [some (.ref a0), some (.int i1), some (.int (0 : Int32)), none, none, none, none]) d_147_23 rfl ml_147 rfl rfl ?_
      refine g_gets (pc' := 27) d_147_24 rfl st_147_184 (Or.inl rfl) ?_
      refine g_astoren (pc' := 28) (l' := [some (.ref a0), some (.int i1), some (.int (0 : Int32)), some (.ref xP), none, none, none]) d_147_27 rfl ml_147 rfl rfl ?_
      refine g_aloadn (pc' := 29) d_147_28 rfl rfl ?_
      obtain ⟨hc9, h⟩ := h
      refine g_lenp (pc' := 30) d_147_29 rfl hc9 ?_
      refine g_istore (pc' := 32) (l' := [some (.ref a0), some (.int i1), some (.int (0 : Int32)), some (.ref xP), some (.int (46 : Int32)), none, none]) d_147_30 rfl ml_147 rfl rfl ?_
      refine g_iconst (pc' := 33) d_147_32 rfl ci_0 ?_
      refine g_istore (pc' := 35) (l' := [some (.ref a0), some (.int i1), some (.int (0 : Int32)), some (.ref xP), some (.int (46 : Int32)), some (.int (0 : Int32)), none]) d_147_33 rfl ml_147 rfl rfl ?_
      exact h
    · replace h := h.2 c
      refine g_iconst (pc' := 13) d_147_12 rfl ci_m1 ?_
      exact g_iret d_147_13 rt_147 h
theorem S_147_35 {a0 : Nat} {i1 : Int32} {i2 : Int32} {i4 : Int32} {i5 : Int32} {w : xW} {r : Option Value × xW} (h : (i4 ≤ i5 → r = (some (.int i2), w)) ∧ (¬ (i4 ≤ i5) → (w[xP]? = none) ∧ (¬ (i5 < 0 ∨ 46 ≤ i5.toNatClampNeg)) ∧ ∀ v3 : Int32, v3 = (xpr i5.toNatClampNeg) → (v3 < (3 : Int32) → ∀ v4 : Int32, v4 = i5 + (1 : Int32) → xGo 147 35 [some (.ref a0), some (.int i1), some (.int i2), some (.ref xP), some (.int i4), some (.int v4), none] [] w r) ∧ (¬ (v3 < (3 : Int32)) → (i1 < v3 → ∀ v5 : Int32, v5 = i5 + (1 : Int32) → xGo 147 35 [some (.ref a0), some (.int i1), some (.int i2), some (.ref xP), some (.int i4), some (.int v5), none] [] w r) ∧ (¬ (i1 < v3) → ∃ fs6, w[a0]? = some (.inr (0, fs6)) ∧ ∃ b8, fs6[11]? = some (.ref b8) ∧ ∃ fs10, w[b8]? = some (.inr (9, fs10)) ∧ ∃ r14 w12, xCall 128 [.ref b8, .int v3] w (some (.int r14), w12) ∧ (¬ r14 = 0 → ∀ v15 : Int32, v15 = i5 + (1 : Int32) → xGo 147 35 [some (.ref a0), some (.int i1), some (.int i2), some (.ref xP), some (.int i4), some (.int v15), none] [] w12 r) ∧ (¬ (¬ r14 = 0) → ∀ v16 : Int32, v16 = i2 + (1 : Int32) → ∀ v17 : Int32, v17 = i5 + (1 : Int32) → xGo 147 35 [some (.ref a0), some (.int i1), some (.int v16), some (.ref xP), some (.int i4), some (.int v17), none] [] w12 r))))) : xGo 147 35 [some (.ref a0), some (.int i1), some (.int i2), some (.ref xP), some (.int i4), some (.int i5), none] [] w r := by
  refine g_iload (pc' := 37) d_147_35 rfl rfl ?_
  refine g_iload (pc' := 39) d_147_37 rfl rfl ?_
  refine g_ic_ge (pc' := 42) (pt := 81) d_147_39 (by decide) rfl (fun c => ?_) (fun c => ?_)
  · replace h := h.1 c
    refine g_iloadn (pc' := 82) d_147_81 rfl rfl ?_
    exact g_iret d_147_82 rt_147 h
  · replace h := h.2 c
    refine g_aloadn (pc' := 43) d_147_42 rfl rfl ?_
    refine g_iload (pc' := 45) d_147_43 rfl rfl ?_
    obtain ⟨hc1, h⟩ := h
    obtain ⟨hc2, h⟩ := h
    refine g_pald (pc' := 46) d_147_45 rfl hc1 hc2 ?_
    have h := h _ rfl
    refine g_istore (pc' := 48) (l' := [some (.ref a0), some (.int i1), some (.int i2), some (.ref xP), some (.int i4), some (.int i5), some (.int ((xpr i5.toNatClampNeg)))]) d_147_46 rfl ml_147 rfl rfl ?_
    refine g_iload (pc' := 50) d_147_48 rfl rfl ?_
    refine g_iconst (pc' := 51) d_147_50 rfl ci_3 ?_
    refine g_ic_lt (pc' := 54) (pt := 75) d_147_51 (by decide) rfl (fun c => ?_) (fun c => ?_)
    · replace h := h.1 c
      have h := h _ rfl
      refine g_iinc (pc' := 78) (l' := [some (.ref a0), some (.int i1), some (.int i2), some (.ref xP), some (.int i4), some (.int (i5 + (1 : Int32))), some (.int ((xpr i5.toNatClampNeg)))]) d_147_75 rfl rfl ci_1 ml_147 rfl rfl ?_
      refine g_goto (pt := 35) d_147_78 (by decide) ?_
      exact xGo.more (xle_s (xle_s (xle_s (xle_s (xle_s (xle_s (xle_n xle_0))))))) h
    · replace h := h.2 c
      refine g_iload (pc' := 56) d_147_54 rfl rfl ?_
      refine g_iloadn (pc' := 57) d_147_56 rfl rfl ?_
      refine g_ic_gt (pc' := 60) (pt := 75) d_147_57 (by decide) rfl (fun c => ?_) (fun c => ?_)
      · replace h := h.1 c
        have h := h _ rfl
        refine g_iinc (pc' := 78) (l' := [some (.ref a0), some (.int i1), some (.int i2), some (.ref xP), some (.int i4), some (.int (i5 + (1 : Int32))), some (.int ((xpr i5.toNatClampNeg)))]) d_147_75 rfl rfl ci_1 ml_147 rfl rfl ?_
        refine g_goto (pt := 35) d_147_78 (by decide) ?_
        exact xGo.more (xle_s (xle_s (xle_s (xle_s (xle_s (xle_s (xle_n xle_0))))))) h
      · replace h := h.2 c
        refine g_aloadn (pc' := 61) d_147_60 rfl rfl ?_
        obtain ⟨fs6, hw7, h⟩ := h
        obtain ⟨b8, hv9, h⟩ := h
        refine g_getf (pc' := 64) d_147_61 rfl st_147_81 hw7 hv9 ?_
        refine g_iload (pc' := 66) d_147_64 rfl rfl ?_
        obtain ⟨fs10, hw11, h⟩ := h
        obtain ⟨r14, w12, hk13, h⟩ := h
        refine g_callV (pc' := 69) d_147_66 rfl st_147_290 na_128 ml_128 rfl rfl rfl rm_147_128 rfl rfl ow_128 hw11 hk13 ?_
        refine g_if_ne (pc' := 72) (pt := 75) d_147_69 (by decide) rfl (fun c => ?_) (fun c => ?_)
        · replace h := h.1 c
          have h := h _ rfl
          refine g_iinc (pc' := 78) (l' := [some (.ref a0), some (.int i1), some (.int i2), some (.ref xP), some (.int i4), some (.int (i5 + (1 : Int32))), some (.int ((xpr i5.toNatClampNeg)))]) d_147_75 rfl rfl ci_1 ml_147 rfl rfl ?_
          refine g_goto (pt := 35) d_147_78 (by decide) ?_
          exact xGo.more (xle_s (xle_s (xle_s (xle_s (xle_s (xle_s (xle_n xle_0))))))) h
        · replace h := h.2 c
          have h := h _ rfl
          refine g_iinc (pc' := 75) (l' := [some (.ref a0), some (.int i1), some (.int (i2 + (1 : Int32))), some (.ref xP), some (.int i4), some (.int i5), some (.int ((xpr i5.toNatClampNeg)))]) d_147_72 rfl rfl ci_1 ml_147 rfl rfl ?_
          have h := h _ rfl
          refine g_iinc (pc' := 78) (l' := [some (.ref a0), some (.int i1), some (.int (i2 + (1 : Int32))), some (.ref xP), some (.int i4), some (.int (i5 + (1 : Int32))), some (.int ((xpr i5.toNatClampNeg)))]) d_147_75 rfl rfl ci_1 ml_147 rfl rfl ?_
          refine g_goto (pt := 35) d_147_78 (by decide) ?_
          exact xGo.more (xle_s (xle_s (xle_s (xle_s (xle_s (xle_s (xle_n xle_0))))))) h
-- 148 BernoulliWays.coefficient(III)J
theorem S_148_0 {a0 : Nat} {i1 : Int32} {i2 : Int32} {i3 : Int32} {w : xW} {r : Option Value × xW} (h : (i1 < 0 → r = (some (.long (-9223372036854775808 : Int64)), w)) ∧ (¬ (i1 < 0) → ((24 : Int32) < i1 → r = (some (.long (-9223372036854775808 : Int64)), w)) ∧ (¬ ((24 : Int32) < i1) → (i2 < 0 → r = (some (.long (-9223372036854775808 : Int64)), w)) ∧ (¬ (i2 < 0) → ((i1 + (1 : Int32)) < i2 → r = (some (.long (-9223372036854775808 : Int64)), w)) ∧ (¬ ((i1 + (1 : Int32)) < i2) → (i3 < 0 → r = (some (.long (-9223372036854775808 : Int64)), w)) ∧ (¬ (i3 < 0) → (i3 ≤ (1 : Int32) → ∃ fs1, w[a0]? = some (.inr (0, fs1)) ∧ ∃ x3, fs1[7]? = some (.int x3) ∧ (i1 ≤ x3 → ∃ b5, fs1[13]? = some (.ref b5) ∧ ∃ fs7, w[b5]? = some (.inr (5, fs7)) ∧ ∃ w9, xCall 16 [.ref b5, .long (0 : Int64), .long (0 : Int64), .long (1 : Int64)] w (none, w9) ∧ (i2 ≤ 0 → (¬ i3 = 0 → ∃ fs11, w9[a0]? = some (.inr (0, fs11)) ∧ ∃ b13, fs11[13]? = some (.ref b13) ∧ ∃ fs15, w9[b13]? = some (.inr (5, fs15)) ∧ ∃ x17, fs15[2]? = some (.long x17) ∧ r = (some (.long x17), w9)) ∧ (¬ (¬ i3 = 0) → ∃ fs19, w9[a0]? = some (.inr (0, fs19)) ∧ ∃ b21, fs19[13]? = some (.ref b21) ∧ ∃ fs23, w9[b21]? = some (.inr (5, fs23)) ∧ ∃ r27 w25, xCall 150 [.ref b21] w9 (some (.long r27), w25) ∧ r = (some (.long r27), w25))) ∧ (¬ (i2 ≤ 0) → ∀ v28 : Int32, v28 = ((i1 + (1 : Int32)) - i2) → ∃ fs29, w9[a0]? = some (.inr (0, fs29)) ∧ ∃ b31, fs29[4]? = some (.ref b31) ∧ ∃ b33, fs29[13]? = some (.ref b33) ∧ ∃ fs35, w9[b31]? = some (.inr (4, fs35)) ∧ ∃ w37, xCall 100 [.ref b31, .int v28, .ref b33] w9 (none, w37) ∧ ∃ fs39, w37[a0]? = some (.inr (0, fs39)) ∧ ∃ b41, fs39[13]? = some (.ref b41) ∧ ∃ fs43, w37[b41]? = some (.inr (5, fs43)) ∧ ∃ x45, fs43[0]? = some (.long x45) ∧ ∃ r49 w47, xCall 149 [.int v28] w37 (some (.int r49), w47) ∧ ∃ fs50, w47[b41]? = some (.inr (5, fs50)) ∧ ∀ v52 : Int64, v52 = (x45 + (r49.toInt64)) → (0 < fs50.length) ∧ ∀ w54, w54 = w47.set b41 (.inr (5, fs50.set 0 (.long v52))) → ∃ fs55, w54[a0]? = some (.inr (0, fs55)) ∧ ∃ b57, fs55[13]? = some (.ref b57) ∧ ∃ b59, fs55[0]? = some (.ref b59) ∧ ∃ fs61, w54[b59]? = some (.inr (1, fs61)) ∧ ∃ r65 w63, xCall 39 [.ref b59, .int (i1 + (1 : Int32)), .int i2] w54 (some (.long r65), w63) ∧ ∃ fs66, w63[b57]? = some (.inr (5, fs66)) ∧ ∃ w68, xCall 43 [.ref b57, .long r65] w63 (none, w68) ∧ ∃ fs70, w68[a0]? = some (.inr (0, fs70)) ∧ ∃ b72, fs70[13]? = some (.ref b72) ∧ ∃ fs74, w68[b72]? = some (.inr (5, fs74)) ∧ ∃ w76, xCall 44 [.ref b72, .long ((i1 + (1 : Int32)).toInt64)] w68 (none, w76) ∧ (¬ i3 = 0 → ∃ fs78, w76[a0]? = some (.inr (0, fs78)) ∧ ∃ b80, fs78[13]? = some (.ref b80) ∧ ∃ fs82, w76[b80]? = some (.inr (5, fs82)) ∧ ∃ x84, fs82[2]? = some (.long x84) ∧ r = (some (.long x84), w76)) ∧ (¬ (¬ i3 = 0) → ∃ fs86, w76[a0]? = some (.inr (0, fs86)) ∧ ∃ b88, fs86[13]? = some (.ref b88) ∧ ∃ fs90, w76[b88]? = some (.inr (5, fs90)) ∧ ∃ r94 w92, xCall 150 [.ref b88] w76 (some (.long r94), w92) ∧ r = (some (.long r94), w92)))) ∧ (¬ (i1 ≤ x3) → r = (some (.long (-2 : Int64)), w))) ∧ (¬ (i3 ≤ (1 : Int32)) → r = (some (.long (-9223372036854775808 : Int64)), w)))))))) : xGo 148 0 [some (.ref a0), some (.int i1), some (.int i2), some (.int i3), none] [] w r := by
  refine g_iloadn (pc' := 1) d_148_0 rfl rfl ?_
  refine g_if_lt (pc' := 4) (pt := 30) d_148_1 (by decide) rfl (fun c => ?_) (fun c => ?_)
  · replace h := h.1 c
    refine g_ldc2 (pc' := 33) d_148_30 rfl st_148_166 cL_m9223372036854775808 ?_
    exact g_lret d_148_33 rt_148 h
  · replace h := h.2 c
    refine g_iloadn (pc' := 5) d_148_4 rfl rfl ?_
    refine g_bipush (pc' := 7) d_148_5 rfl cb_24 ?_
    refine g_ic_gt (pc' := 10) (pt := 30) d_148_7 (by decide) rfl (fun c => ?_) (fun c => ?_)
    · replace h := h.1 c
      refine g_ldc2 (pc' := 33) d_148_30 rfl st_148_166 cL_m9223372036854775808 ?_
      exact g_lret d_148_33 rt_148 h
    · replace h := h.2 c
      refine g_iloadn (pc' := 11) d_148_10 rfl rfl ?_
      refine g_if_lt (pc' := 14) (pt := 30) d_148_11 (by decide) rfl (fun c => ?_) (fun c => ?_)
      · replace h := h.1 c
        refine g_ldc2 (pc' := 33) d_148_30 rfl st_148_166 cL_m9223372036854775808 ?_
        exact g_lret d_148_33 rt_148 h
      · replace h := h.2 c
        refine g_iloadn (pc' := 15) d_148_14 rfl rfl ?_
        refine g_iloadn (pc' := 16) d_148_15 rfl rfl ?_
        refine g_iconst (pc' := 17) d_148_16 rfl ci_1 ?_
        refine g_iadd (pc' := 18) d_148_17 rfl ?_
        refine g_ic_gt (pc' := 21) (pt := 30) d_148_18 (by decide) rfl (fun c => ?_) (fun c => ?_)
        · replace h := h.1 c
          refine g_ldc2 (pc' := 33) d_148_30 rfl st_148_166 cL_m9223372036854775808 ?_
          exact g_lret d_148_33 rt_148 h
        · replace h := h.2 c
          refine g_iloadn (pc' := 22) d_148_21 rfl rfl ?_
          refine g_if_lt (pc' := 25) (pt := 30) d_148_22 (by decide) rfl (fun c => ?_) (fun c => ?_)
          · replace h := h.1 c
            refine g_ldc2 (pc' := 33) d_148_30 rfl st_148_166 cL_m9223372036854775808 ?_
            exact g_lret d_148_33 rt_148 h
          · replace h := h.2 c
            refine g_iloadn (pc' := 26) d_148_25 rfl rfl ?_
            refine g_iconst (pc' := 27) d_148_26 rfl ci_1 ?_
            refine g_ic_le (pc' := 30) (pt := 34) d_148_27 (by decide) rfl (fun c => ?_) (fun c => ?_)
            · replace h := h.1 c
              refine g_iloadn (pc' := 35) d_148_34 rfl rfl ?_
              refine g_aloadn (pc' := 36) d_148_35 rfl rfl ?_
              obtain ⟨fs1, hw2, h⟩ := h
              obtain ⟨x3, hv4, h⟩ := h
              refine g_getf (pc' := 39) d_148_36 rfl st_148_49 hw2 hv4 ?_
              refine g_ic_le (pc' := 42) (pt := 46) d_148_39 (by decide) rfl (fun c => ?_) (fun c => ?_)
              · replace h := h.1 c
                refine g_aloadn (pc' := 47) d_148_46 rfl rfl ?_
                obtain ⟨b5, hv6, h⟩ := h
                refine g_getf (pc' := 50) d_148_47 rfl st_148_95 hw2 hv6 ?_
                refine g_lconst (pc' := 51) d_148_50 rfl cl_0 ?_
                refine g_lconst (pc' := 52) d_148_51 rfl cl_0 ?_
                refine g_lconst (pc' := 53) d_148_52 rfl cl_1 ?_
                obtain ⟨fs7, hw8, h⟩ := h
                obtain ⟨w9, hk10, h⟩ := h
                refine g_callV (pc' := 56) d_148_53 rfl st_148_327 na_16 ml_16 rfl rfl rfl rm_148_16 rfl rfl ow_16 hw8 hk10 ?_
                refine g_iloadn (pc' := 57) d_148_56 rfl rfl ?_
                refine g_if_le (pc' := 60) (pt := 127) d_148_57 (by decide) rfl (fun c => ?_) (fun c => ?_)
                · replace h := h.1 c
                  refine g_iloadn (pc' := 128) d_148_127 rfl rfl ?_
                  refine g_if_ne (pc' := 131) (pt := 141) d_148_128 (by decide) rfl (fun c => ?_) (fun c => ?_)
                  · replace h := h.1 c
                    refine g_aloadn (pc' := 142) d_148_141 rfl rfl ?_
                    obtain ⟨fs11, hw12, h⟩ := h
                    obtain ⟨b13, hv14, h⟩ := h
                    refine g_getf (pc' := 145) d_148_142 rfl st_148_95 hw12 hv14 ?_
                    obtain ⟨fs15, hw16, h⟩ := h
                    obtain ⟨x17, hv18, h⟩ := h
                    refine g_getf (pc' := 148) d_148_145 rfl st_148_349 hw16 hv18 ?_
                    exact g_lret d_148_148 rt_148 h
                  · replace h := h.2 c
                    refine g_aloadn (pc' := 132) d_148_131 rfl rfl ?_
                    obtain ⟨fs19, hw20, h⟩ := h
                    obtain ⟨b21, hv22, h⟩ := h
                    refine g_getf (pc' := 135) d_148_132 rfl st_148_95 hw20 hv22 ?_
                    obtain ⟨fs23, hw24, h⟩ := h
                    obtain ⟨r27, w25, hk26, h⟩ := h
                    refine g_callV (pc' := 138) d_148_135 rfl st_148_345 na_150 ml_150 rfl rfl rfl rm_148_150 rfl rfl ow_150 hw24 hk26 ?_
                    refine g_goto (pt := 148) d_148_138 (by decide) ?_
                    exact g_lret d_148_148 rt_148 h
                · replace h := h.2 c
                  refine g_iloadn (pc' := 61) d_148_60 rfl rfl ?_
                  refine g_iconst (pc' := 62) d_148_61 rfl ci_1 ?_
                  refine g_iadd (pc' := 63) d_148_62 rfl ?_
                  refine g_iloadn (pc' := 64) d_148_63 rfl rfl ?_
                  refine g_isub (pc' := 65) d_148_64 rfl ?_
                  have h := h _ rfl
                  refine g_istore (pc' := 67) (l' := [some (.ref a0), some (.int i1), some (.int i2), some (.int i3), some (.int (((i1 + (1 : Int32)) - i2)))]) d_148_65 rfl ml_148 rfl rfl ?_
                  refine g_aloadn (pc' := 68) d_148_67 rfl rfl ?_
                  obtain ⟨fs29, hw30, h⟩ := h
                  obtain ⟨b31, hv32, h⟩ := h
                  refine g_getf (pc' := 71) d_148_68 rfl st_148_39 hw30 hv32 ?_
                  refine g_iload (pc' := 73) d_148_71 rfl rfl ?_
                  refine g_aloadn (pc' := 74) d_148_73 rfl rfl ?_
                  obtain ⟨b33, hv34, h⟩ := h
                  refine g_getf (pc' := 77) d_148_74 rfl st_148_95 hw30 hv34 ?_
                  obtain ⟨fs35, hw36, h⟩ := h
                  obtain ⟨w37, hk38, h⟩ := h
                  refine g_callV (pc' := 80) d_148_77 rfl st_148_168 na_100 ml_100 rfl rfl rfl rm_148_100 rfl rfl ow_100 hw36 hk38 ?_
                  refine g_aloadn (pc' := 81) d_148_80 rfl rfl ?_
                  obtain ⟨fs39, hw40, h⟩ := h
                  obtain ⟨b41, hv42, h⟩ := h
                  refine g_getf (pc' := 84) d_148_81 rfl st_148_95 hw40 hv42 ?_
                  refine g_dup (pc' := 85) d_148_84 rfl rfl ?_
                  obtain ⟨fs43, hw44, h⟩ := h
                  obtain ⟨x45, hv46, h⟩ := h
                  refine g_getf (pc' := 88) d_148_85 rfl st_148_218 hw44 hv46 ?_
                  refine g_iload (pc' := 90) d_148_88 rfl rfl ?_
                  obtain ⟨r49, w47, hk48, h⟩ := h
                  refine g_callS (pc' := 93) d_148_90 rfl st_148_333 (Or.inl rfl) na_149 ml_149 rfl rfl rfl rm_148_149 rfl rfl hk48 ?_
                  refine g_i2l (pc' := 94) d_148_93 rfl ?_
                  refine g_ladd (pc' := 95) d_148_94 rfl ?_
                  obtain ⟨fs50, hw51, h⟩ := h
                  have h := h _ rfl
                  obtain ⟨hc53, h⟩ := h
                  have h := h _ rfl
                  refine g_putf (pc' := 98) d_148_95 rfl st_148_218 ft_5_0 ff_5_0 rfl (Or.inl rfl) hw51 hc53 ?_
                  refine g_aloadn (pc' := 99) d_148_98 rfl rfl ?_
                  obtain ⟨fs55, hw56, h⟩ := h
                  obtain ⟨b57, hv58, h⟩ := h
                  refine g_getf (pc' := 102) d_148_99 rfl st_148_95 hw56 hv58 ?_
                  refine g_aloadn (pc' := 103) d_148_102 rfl rfl ?_
                  obtain ⟨b59, hv60, h⟩ := h
                  refine g_getf (pc' := 106) d_148_103 rfl st_148_14 hw56 hv60 ?_
                  refine g_iloadn (pc' := 107) d_148_106 rfl rfl ?_
                  refine g_iconst (pc' := 108) d_148_107 rfl ci_1 ?_
                  refine g_iadd (pc' := 109) d_148_108 rfl ?_
                  refine g_iloadn (pc' := 110) d_148_109 rfl rfl ?_
                  obtain ⟨fs61, hw62, h⟩ := h
                  obtain ⟨r65, w63, hk64, h⟩ := h
                  refine g_callV (pc' := 113) d_148_110 rfl st_148_336 na_39 ml_39 rfl rfl rfl rm_148_39 rfl rfl ow_39 hw62 hk64 ?_
                  obtain ⟨fs66, hw67, h⟩ := h
                  obtain ⟨w68, hk69, h⟩ := h
                  refine g_callV (pc' := 116) d_148_113 rfl st_148_339 na_43 ml_43 rfl rfl rfl rm_148_43 rfl rfl ow_43 hw67 hk69 ?_
                  refine g_aloadn (pc' := 117) d_148_116 rfl rfl ?_
                  obtain ⟨fs70, hw71, h⟩ := h
                  obtain ⟨b72, hv73, h⟩ := h
                  refine g_getf (pc' := 120) d_148_117 rfl st_148_95 hw71 hv73 ?_
                  refine g_iloadn (pc' := 121) d_148_120 rfl rfl ?_
                  refine g_iconst (pc' := 122) d_148_121 rfl ci_1 ?_
                  refine g_iadd (pc' := 123) d_148_122 rfl ?_
                  refine g_i2l (pc' := 124) d_148_123 rfl ?_
                  obtain ⟨fs74, hw75, h⟩ := h
                  obtain ⟨w76, hk77, h⟩ := h
                  refine g_callV (pc' := 127) d_148_124 rfl st_148_342 na_44 ml_44 rfl rfl rfl rm_148_44 rfl rfl ow_44 hw75 hk77 ?_
                  refine g_iloadn (pc' := 128) d_148_127 rfl rfl ?_
                  refine g_if_ne (pc' := 131) (pt := 141) d_148_128 (by decide) rfl (fun c => ?_) (fun c => ?_)
                  · replace h := h.1 c
                    refine g_aloadn (pc' := 142) d_148_141 rfl rfl ?_
                    obtain ⟨fs78, hw79, h⟩ := h
                    obtain ⟨b80, hv81, h⟩ := h
                    refine g_getf (pc' := 145) d_148_142 rfl st_148_95 hw79 hv81 ?_
                    obtain ⟨fs82, hw83, h⟩ := h
                    obtain ⟨x84, hv85, h⟩ := h
                    refine g_getf (pc' := 148) d_148_145 rfl st_148_349 hw83 hv85 ?_
                    exact g_lret d_148_148 rt_148 h
                  · replace h := h.2 c
                    refine g_aloadn (pc' := 132) d_148_131 rfl rfl ?_
                    obtain ⟨fs86, hw87, h⟩ := h
                    obtain ⟨b88, hv89, h⟩ := h
                    refine g_getf (pc' := 135) d_148_132 rfl st_148_95 hw87 hv89 ?_
                    obtain ⟨fs90, hw91, h⟩ := h
                    obtain ⟨r94, w92, hk93, h⟩ := h
                    refine g_callV (pc' := 138) d_148_135 rfl st_148_345 na_150 ml_150 rfl rfl rfl rm_148_150 rfl rfl ow_150 hw91 hk93 ?_
                    refine g_goto (pt := 148) d_148_138 (by decide) ?_
                    exact g_lret d_148_148 rt_148 h
              · replace h := h.2 c
                refine g_ldc2 (pc' := 45) d_148_42 rfl st_148_331 cL_m2 ?_
                exact g_lret d_148_45 rt_148 h
            · replace h := h.2 c
              refine g_ldc2 (pc' := 33) d_148_30 rfl st_148_166 cL_m9223372036854775808 ?_
              exact g_lret d_148_33 rt_148 h
-- 149 BernoulliWays.extra(I)I
theorem S_149_0 {i0 : Int32} {w : xW} {r : Option Value × xW} (h : (¬ i0 = (1 : Int32) → r = (some (.int (0 : Int32)), w)) ∧ (¬ (¬ i0 = (1 : Int32)) → r = (some (.int (1 : Int32)), w))) : xGo 149 0 [some (.int i0)] [] w r := by
  refine g_iloadn (pc' := 1) d_149_0 rfl rfl ?_
  refine g_iconst (pc' := 2) d_149_1 rfl ci_1 ?_
  refine g_ic_ne (pc' := 5) (pt := 9) d_149_2 (by decide) rfl (fun c => ?_) (fun c => ?_)
  · replace h := h.1 c
    refine g_iconst (pc' := 10) d_149_9 rfl ci_0 ?_
    exact g_iret d_149_10 rt_149 h
  · replace h := h.2 c
    refine g_iconst (pc' := 6) d_149_5 rfl ci_1 ?_
    refine g_goto (pt := 10) d_149_6 (by decide) ?_
    exact g_iret d_149_10 rt_149 h
-- 150 BernoulliWays$Fraction.overLine()J
theorem S_150_0 {a0 : Nat} {w : xW} {r : Option Value × xW} (h : ∃ fs1, w[a0]? = some (.inr (5, fs1)) ∧ ∃ x3, fs1[0]? = some (.long x3) ∧ ∃ x5, fs1[2]? = some (.long x5) ∧ ∃ x7, fs1[1]? = some (.long x7) ∧ r = (some (.long ((x3 * x5) + x7)), w)) : xGo 150 0 [some (.ref a0)] [] w r := by
  refine g_aloadn (pc' := 1) d_150_0 rfl rfl ?_
  obtain ⟨fs1, hw2, h⟩ := h
  obtain ⟨x3, hv4, h⟩ := h
  refine g_getf (pc' := 4) d_150_1 rfl st_150_25 hw2 hv4 ?_
  refine g_aloadn (pc' := 5) d_150_4 rfl rfl ?_
  obtain ⟨x5, hv6, h⟩ := h
  refine g_getf (pc' := 8) d_150_5 rfl st_150_7 hw2 hv6 ?_
  refine g_lmul (pc' := 9) d_150_8 rfl ?_
  refine g_aloadn (pc' := 10) d_150_9 rfl rfl ?_
  obtain ⟨x7, hv8, h⟩ := h
  refine g_getf (pc' := 13) d_150_10 rfl st_150_28 hw2 hv8 ?_
  refine g_ladd (pc' := 14) d_150_13 rfl ?_
  exact g_lret d_150_14 rt_150 h
-- 151 BernoulliWays.sum(II)I
theorem S_151_0 {a0 : Nat} {i1 : Int32} {i2 : Int32} {w : xW} {r : Option Value × xW} (h : ∃ r3 w1, xCall 152 [.int i1, .int i2] w (some (.int r3), w1) ∧ (¬ r3 = 0 → ∃ fs4, w1[a0]? = some (.inr (0, fs4)) ∧ ∃ x6, fs4[7]? = some (.int x6) ∧ (i1 ≤ x6 → ∃ w8, xCall 153 [.ref a0, .int i1] w1 (none, w8) ∧ ∃ fs10, w8[a0]? = some (.inr (0, fs10)) ∧ ∃ r14 w12, xCall 154 [.ref a0, .int i1, .long (i2.toInt64)] w8 (some (.long r14), w12) ∧ r = (some (.int (r14.toInt32)), w12)) ∧ (¬ (i1 ≤ x6) → r = (some (.int (-2 : Int32)), w1))) ∧ (¬ (¬ r3 = 0) → r = (some (.int (-1 : Int32)), w1))) : xGo 151 0 [some (.ref a0), some (.int i1), some (.int i2)] [] w r := by
  refine g_iloadn (pc' := 1) d_151_0 rfl rfl ?_
  refine g_iloadn (pc' := 2) d_151_1 rfl rfl ?_
  obtain ⟨r3, w1, hk2, h⟩ := h
  refine g_callS (pc' := 5) d_151_2 rfl st_151_352 (Or.inl rfl) na_152 ml_152 rfl rfl rfl rm_151_152 rfl rfl hk2 ?_
  refine g_if_ne (pc' := 8) (pt := 10) d_151_5 (by decide) rfl (fun c => ?_) (fun c => ?_)
  · replace h := h.1 c
    refine g_iloadn (pc' := 11) d_151_10 rfl rfl ?_
    refine g_aloadn (pc' := 12) d_151_11 rfl rfl ?_
    obtain ⟨fs4, hw5, h⟩ := h
    obtain ⟨x6, hv7, h⟩ := h
    refine g_getf (pc' := 15) d_151_12 rfl st_151_49 hw5 hv7 ?_
    refine g_ic_le (pc' := 18) (pt := 21) d_151_15 (by decide) rfl (fun c => ?_) (fun c => ?_)
    · replace h := h.1 c
      refine g_aloadn (pc' := 22) d_151_21 rfl rfl ?_
      refine g_iloadn (pc' := 23) d_151_22 rfl rfl ?_
      obtain ⟨w8, hk9, h⟩ := h
      refine g_callV (pc' := 26) d_151_23 rfl st_151_355 na_153 ml_153 rfl rfl rfl rm_151_153 rfl rfl ow_153 hw5 hk9 ?_
      refine g_aloadn (pc' := 27) d_151_26 rfl rfl ?_
      refine g_iloadn (pc' := 28) d_151_27 rfl rfl ?_
      refine g_iloadn (pc' := 29) d_151_28 rfl rfl ?_
      refine g_i2l (pc' := 30) d_151_29 rfl ?_
      obtain ⟨fs10, hw11, h⟩ := h
      obtain ⟨r14, w12, hk13, h⟩ := h
      refine g_callV (pc' := 33) d_151_30 rfl st_151_358 na_154 ml_154 rfl rfl rfl rm_151_154 rfl rfl ow_154 hw11 hk13 ?_
      refine g_l2i (pc' := 34) d_151_33 rfl ?_
      exact g_iret d_151_34 rt_151 h
    · replace h := h.2 c
      refine g_bipush (pc' := 20) d_151_18 rfl cb_m2 ?_
      exact g_iret d_151_20 rt_151 h
  · replace h := h.2 c
    refine g_iconst (pc' := 9) d_151_8 rfl ci_m1 ?_
    exact g_iret d_151_9 rt_151 h
-- 152 BernoulliWays.isSum(II)Z
theorem S_152_0 {i0 : Int32} {i1 : Int32} {w : xW} {r : Option Value × xW} (h : (i0 < 0 → r = (some (.int (0 : Int32)), w)) ∧ (¬ (i0 < 0) → ((24 : Int32) < i0 → r = (some (.int (0 : Int32)), w)) ∧ (¬ ((24 : Int32) < i0) → (i1 < 0 → r = (some (.int (0 : Int32)), w)) ∧ (¬ (i1 < 0) → ((1000000000 : Int32) < i1 → r = (some (.int (0 : Int32)), w)) ∧ (¬ ((1000000000 : Int32) < i1) → r = (some (.int (1 : Int32)), w)))))) : xGo 152 0 [some (.int i0), some (.int i1)] [] w r := by
  refine g_iloadn (pc' := 1) d_152_0 rfl rfl ?_
  refine g_if_lt (pc' := 4) (pt := 25) d_152_1 (by decide) rfl (fun c => ?_) (fun c => ?_)
  · replace h := h.1 c
    refine g_iconst (pc' := 26) d_152_25 rfl ci_0 ?_
    exact g_zret d_152_26 rt_152 (Or.inl rfl) h
  · replace h := h.2 c
    refine g_iloadn (pc' := 5) d_152_4 rfl rfl ?_
    refine g_bipush (pc' := 7) d_152_5 rfl cb_24 ?_
    refine g_ic_gt (pc' := 10) (pt := 25) d_152_7 (by decide) rfl (fun c => ?_) (fun c => ?_)
    · replace h := h.1 c
      refine g_iconst (pc' := 26) d_152_25 rfl ci_0 ?_
      exact g_zret d_152_26 rt_152 (Or.inl rfl) h
    · replace h := h.2 c
      refine g_iloadn (pc' := 11) d_152_10 rfl rfl ?_
      refine g_if_lt (pc' := 14) (pt := 25) d_152_11 (by decide) rfl (fun c => ?_) (fun c => ?_)
      · replace h := h.1 c
        refine g_iconst (pc' := 26) d_152_25 rfl ci_0 ?_
        exact g_zret d_152_26 rt_152 (Or.inl rfl) h
      · replace h := h.2 c
        refine g_iloadn (pc' := 15) d_152_14 rfl rfl ?_
        refine g_ldcw (pc' := 18) d_152_15 rfl st_152_417 ci_1000000000 ?_
        refine g_ic_gt (pc' := 21) (pt := 25) d_152_18 (by decide) rfl (fun c => ?_) (fun c => ?_)
        · replace h := h.1 c
          refine g_iconst (pc' := 26) d_152_25 rfl ci_0 ?_
          exact g_zret d_152_26 rt_152 (Or.inl rfl) h
        · replace h := h.2 c
          refine g_iconst (pc' := 22) d_152_21 rfl ci_1 ?_
          refine g_goto (pt := 26) d_152_22 (by decide) ?_
          exact g_zret d_152_26 rt_152 (Or.inr rfl) h
-- 153 BernoulliWays.fillBigResidues(I)V
theorem S_153_0 {a0 : Nat} {i1 : Int32} {w : xW} {r : Option Value × xW} (h : xGo 153 2 [some (.ref a0), some (.int i1), some (.int (0 : Int32))] [] w r) : xGo 153 0 [some (.ref a0), some (.int i1), none] [] w r := by
  refine g_iconst (pc' := 1) d_153_0 rfl ci_0 ?_
  refine g_istoren (pc' := 2) (l' := [some (.ref a0), some (.int i1), some (.int (0 : Int32))]) d_153_1 rfl ml_153 rfl rfl ?_
  exact h
theorem S_153_2 {a0 : Nat} {i1 : Int32} {i2 : Int32} {w : xW} {r : Option Value × xW} (h : (i1 < i2 → r = (none, w)) ∧ (¬ (i1 < i2) → ∃ fs1, w[a0]? = some (.inr (0, fs1)) ∧ ∃ b3, fs1[14]? = some (.ref b3) ∧ ∃ n5 f6, w[b3]? = some (.inl (.inr (n5, f6))) ∧ ((Int32.ofNat n5) ≤ i2 → r = (none, w)) ∧ (¬ ((Int32.ofNat n5) ≤ i2) → ∃ b8, fs1[4]? = some (.ref b8) ∧ ∃ fs10, w[b8]? = some (.inr (4, fs10)) ∧ ∃ r14 w12, xCall 73 [.ref b8, .int i2, .long (1000000007 : Int64)] w (some (.long r14), w12) ∧ ∃ r17 w15, xCall 149 [.int i2] w12 (some (.int r17), w15) ∧ ∃ n18 f19, w15[b3]? = some (.inl (.inr (n18, f19))) ∧ ∀ v21 : Int64, v21 = (r14 + (r17.toInt64)) → (¬ (i2 < 0 ∨ n18 ≤ i2.toNatClampNeg)) ∧ ∀ w23, w23 = w15.set b3 (.inl (.inr (n18, (vp_updL f19 i2.toNatClampNeg v21)))) → ∀ v24 : Int32, v24 = i2 + (1 : Int32) → xGo 153 2 [some (.ref a0), some (.int i1), some (.int v24)] [] w23 r))) : xGo 153 2 [some (.ref a0), some (.int i1), some (.int i2)] [] w r := by
  refine g_iloadn (pc' := 3) d_153_2 rfl rfl ?_
  refine g_iloadn (pc' := 4) d_153_3 rfl rfl ?_
  refine g_ic_gt (pc' := 7) (pt := 45) d_153_4 (by decide) rfl (fun c => ?_) (fun c => ?_)
  · replace h := h.1 c
    exact g_vret d_153_45 rt_153 h
  · replace h := h.2 c
    refine g_iloadn (pc' := 8) d_153_7 rfl rfl ?_
    refine g_aloadn (pc' := 9) d_153_8 rfl rfl ?_
    obtain ⟨fs1, hw2, h⟩ := h
    obtain ⟨b3, hv4, h⟩ := h
    refine g_getf (pc' := 12) d_153_9 rfl st_153_99 hw2 hv4 ?_
    obtain ⟨n5, f6, hw7, h⟩ := h
    refine g_lenl (pc' := 13) d_153_12 rfl hw7 ?_
    refine g_ic_ge (pc' := 16) (pt := 45) d_153_13 (by decide) rfl (fun c => ?_) (fun c => ?_)
    · replace h := h.1 c
      exact g_vret d_153_45 rt_153 h
    · replace h := h.2 c
      refine g_aloadn (pc' := 17) d_153_16 rfl rfl ?_
      refine g_getf (pc' := 20) d_153_17 rfl st_153_99 hw2 hv4 ?_
      refine g_iloadn (pc' := 21) d_153_20 rfl rfl ?_
      refine g_aloadn (pc' := 22) d_153_21 rfl rfl ?_
      obtain ⟨b8, hv9, h⟩ := h
      refine g_getf (pc' := 25) d_153_22 rfl st_153_39 hw2 hv9 ?_
      refine g_iloadn (pc' := 26) d_153_25 rfl rfl ?_
      refine g_ldc2 (pc' := 29) d_153_26 rfl st_153_369 cL_1000000007 ?_
      obtain ⟨fs10, hw11, h⟩ := h
      obtain ⟨r14, w12, hk13, h⟩ := h
      refine g_callV (pc' := 32) d_153_29 rfl st_153_444 na_73 ml_73 rfl rfl rfl rm_153_73 rfl rfl ow_73 hw11 hk13 ?_
      refine g_iloadn (pc' := 33) d_153_32 rfl rfl ?_
      obtain ⟨r17, w15, hk16, h⟩ := h
      refine g_callS (pc' := 36) d_153_33 rfl st_153_333 (Or.inl rfl) na_149 ml_149 rfl rfl rfl rm_153_149 rfl rfl hk16 ?_
      refine g_i2l (pc' := 37) d_153_36 rfl ?_
      refine g_ladd (pc' := 38) d_153_37 rfl ?_
      obtain ⟨n18, f19, hw20, h⟩ := h
      have h := h _ rfl
      obtain ⟨hc22, h⟩ := h
      have h := h _ rfl
      refine g_last (pc' := 39) d_153_38 rfl hw20 hc22 ?_
      have h := h _ rfl
      refine g_iinc (pc' := 42) (l' := [some (.ref a0), some (.int i1), some (.int (i2 + (1 : Int32)))]) d_153_39 rfl rfl ci_1 ml_153 rfl rfl ?_
      refine g_goto (pt := 2) d_153_42 (by decide) ?_
      exact h
-- 154 BernoulliWays.bigPolynomial(IJ)J
theorem S_154_0 {a0 : Nat} {i1 : Int32} {l2 : Int64} {w : xW} {r : Option Value × xW} (h : (i1 < 0 → r = (some (.long (0 : Int64)), w)) ∧ (¬ (i1 < 0) → ∃ fs1, w[a0]? = some (.inr (0, fs1)) ∧ ∃ b3, fs1[14]? = some (.ref b3) ∧ ∃ n5 f6, w[b3]? = some (.inl (.inr (n5, f6))) ∧ (i1 < (Int32.ofNat n5) → ∀ v8 : Int32, v8 = (i1 + (1 : Int32)) → xGo 154 23 [some (.ref a0), some (.int i1), some (.long l2), none, some (.long (0 : Int64)), none, some (.int v8), none, none] [] w r) ∧ (¬ (i1 < (Int32.ofNat n5)) → r = (some (.long (0 : Int64)), w)))) : xGo 154 0 [some (.ref a0), some (.int i1), some (.long l2), none, none, none, none, none, none] [] w r := by
  refine g_iloadn (pc' := 1) d_154_0 rfl rfl ?_
  refine g_if_lt (pc' := 4) (pt := 13) d_154_1 (by decide) rfl (fun c => ?_) (fun c => ?_)
  · replace h := h.1 c
    refine g_lconst (pc' := 14) d_154_13 rfl cl_0 ?_
    exact g_lret d_154_14 rt_154 h
  · replace h := h.2 c
    refine g_iloadn (pc' := 5) d_154_4 rfl rfl ?_
    refine g_aloadn (pc' := 6) d_154_5 rfl rfl ?_
    obtain ⟨fs1, hw2, h⟩ := h
    obtain ⟨b3, hv4, h⟩ := h
    refine g_getf (pc' := 9) d_154_6 rfl st_154_99 hw2 hv4 ?_
    obtain ⟨n5, f6, hw7, h⟩ := h
    refine g_lenl (pc' := 10) d_154_9 rfl hw7 ?_
    refine g_ic_lt (pc' := 13) (pt := 15) d_154_10 (by decide) rfl (fun c => ?_) (fun c => ?_)
    · replace h := h.1 c
      refine g_lconst (pc' := 16) d_154_15 rfl cl_0 ?_
      refine g_lstore (pc' := 18) (l' := [some (.ref a0), some (.int i1), some (.long l2), none, some (.long (0 : Int64)), none, none, none, none]) d_154_16 rfl ml_154 rfl rfl ?_
      refine g_iloadn (pc' := 19) d_154_18 rfl rfl ?_
      refine g_iconst (pc' := 20) d_154_19 rfl ci_1 ?_
      refine g_iadd (pc' := 21) d_154_20 rfl ?_
      have h := h _ rfl
      refine g_istore (pc' := 23) (l' := [some (.ref a0), some (.int i1), some (.long l2), none, some (.long (0 : Int64)), none, some (.int ((i1 + (1 : Int32)))), none, none]) d_154_21 rfl ml_154 rfl rfl ?_
      exact h
    · replace h := h.2 c
      refine g_lconst (pc' := 14) d_154_13 rfl cl_0 ?_
      exact g_lret d_154_14 rt_154 h
theorem S_154_23 {a0 : Nat} {i1 : Int32} {l2 : Int64} {l4 : Int64} {i6 : Int32} {w : xW} {r : Option Value × xW} (h : (i6 < (1 : Int32) → ∃ r3 w1, xCall 53 [.long ((i1 + (1 : Int32)).toInt64), .long (1000000007 : Int64)] w (some (.long r3), w1) ∧ r = (some (.long (lrem ((lrem (l4 * l2) (1000000007 : Int64)) * r3) (1000000007 : Int64))), w1)) ∧ (¬ (i6 < (1 : Int32)) → ∃ fs4, w[a0]? = some (.inr (0, fs4)) ∧ ∃ b6, fs4[0]? = some (.ref b6) ∧ ∃ fs8, w[b6]? = some (.inr (1, fs8)) ∧ ∃ r12 w10, xCall 39 [.ref b6, .int (i1 + (1 : Int32)), .int i6] w (some (.long r12), w10) ∧ ∃ fs13, w10[a0]? = some (.inr (0, fs13)) ∧ ∃ b15, fs13[14]? = some (.ref b15) ∧ ∃ n17 f18, w10[b15]? = some (.inl (.inr (n17, f18))) ∧ (¬ (((i1 + (1 : Int32)) - i6) < 0 ∨ n17 ≤ ((i1 + (1 : Int32)) - i6).toNatClampNeg)) ∧ ∀ v21 : Int64, v21 = (lrem (r12 * (f18 ((i1 + (1 : Int32)) - i6).toNatClampNeg)) (1000000007 : Int64)) → ∀ v22 : Int64, v22 = (lrem ((l4 * l2) + v21) (1000000007 : Int64)) → ∀ v23 : Int32, v23 = i6 + (-1 : Int32) → xGo 154 23 [some (.ref a0), some (.int i1), some (.long l2), none, some (.long v22), none, some (.int v23), none, none] [] w10 r)) : xGo 154 23 [some (.ref a0), some (.int i1), some (.long l2), none, some (.long l4), none, some (.int i6), none, none] [] w r := by
  refine g_iload (pc' := 25) d_154_23 rfl rfl ?_
  refine g_iconst (pc' := 26) d_154_25 rfl ci_1 ?_
  refine g_ic_lt (pc' := 29) (pt := 78) d_154_26 (by decide) rfl (fun c => ?_) (fun c => ?_)
  · replace h := h.1 c
    refine g_lload (pc' := 80) d_154_78 rfl rfl ?_
    refine g_lloadn (pc' := 81) d_154_80 rfl rfl ?_
    refine g_lmul (pc' := 82) d_154_81 rfl ?_
    refine g_ldc2 (pc' := 85) d_154_82 rfl st_154_369 cL_1000000007 ?_
    refine g_lrem (pc' := 86) d_154_85 rfl (by decide) ?_
    refine g_iloadn (pc' := 87) d_154_86 rfl rfl ?_
    refine g_iconst (pc' := 88) d_154_87 rfl ci_1 ?_
    refine g_iadd (pc' := 89) d_154_88 rfl ?_
    refine g_i2l (pc' := 90) d_154_89 rfl ?_
    refine g_ldc2 (pc' := 93) d_154_90 rfl st_154_369 cL_1000000007 ?_
    obtain ⟨r3, w1, hk2, h⟩ := h
    refine g_callS (pc' := 96) d_154_93 rfl st_154_316 (Or.inl rfl) na_53 ml_53 rfl rfl rfl rm_154_53 rfl rfl hk2 ?_
    refine g_lmul (pc' := 97) d_154_96 rfl ?_
    refine g_ldc2 (pc' := 100) d_154_97 rfl st_154_369 cL_1000000007 ?_
    refine g_lrem (pc' := 101) d_154_100 rfl (by decide) ?_
    exact g_lret d_154_101 rt_154 h
  · replace h := h.2 c
    refine g_aloadn (pc' := 30) d_154_29 rfl rfl ?_
    obtain ⟨fs4, hw5, h⟩ := h
    obtain ⟨b6, hv7, h⟩ := h
    refine g_getf (pc' := 33) d_154_30 rfl st_154_14 hw5 hv7 ?_
    refine g_iloadn (pc' := 34) d_154_33 rfl rfl ?_
    refine g_iconst (pc' := 35) d_154_34 rfl ci_1 ?_
    refine g_iadd (pc' := 36) d_154_35 rfl ?_
    refine g_iload (pc' := 38) d_154_36 rfl rfl ?_
    obtain ⟨fs8, hw9, h⟩ := h
    obtain ⟨r12, w10, hk11, h⟩ := h
    refine g_callV (pc' := 41) d_154_38 rfl st_154_336 na_39 ml_39 rfl rfl rfl rm_154_39 rfl rfl ow_39 hw9 hk11 ?_
    refine g_aloadn (pc' := 42) d_154_41 rfl rfl ?_
    obtain ⟨fs13, hw14, h⟩ := h
    obtain ⟨b15, hv16, h⟩ := h
    refine g_getf (pc' := 45) d_154_42 rfl st_154_99 hw14 hv16 ?_
    refine g_iloadn (pc' := 46) d_154_45 rfl rfl ?_
    refine g_iconst (pc' := 47) d_154_46 rfl ci_1 ?_
    refine g_iadd (pc' := 48) d_154_47 rfl ?_
    refine g_iload (pc' := 50) d_154_48 rfl rfl ?_
    refine g_isub (pc' := 51) d_154_50 rfl ?_
    obtain ⟨n17, f18, hw19, h⟩ := h
    obtain ⟨hc20, h⟩ := h
    refine g_lald (pc' := 52) d_154_51 rfl hw19 hc20 ?_
    refine g_lmul (pc' := 53) d_154_52 rfl ?_
    refine g_ldc2 (pc' := 56) d_154_53 rfl st_154_369 cL_1000000007 ?_
    refine g_lrem (pc' := 57) d_154_56 rfl (by decide) ?_
    have h := h _ rfl
    refine g_lstore (pc' := 59) (l' := [some (.ref a0), some (.int i1), some (.long l2), none, some (.long l4), none, some (.int i6), some (.long ((lrem (r12 * (f18 ((i1 + (1 : Int32)) - i6).toNatClampNeg)) (1000000007 : Int64)))), none]) d_154_57 rfl ml_154 rfl rfl ?_
    refine g_lload (pc' := 61) d_154_59 rfl rfl ?_
    refine g_lloadn (pc' := 62) d_154_61 rfl rfl ?_
    refine g_lmul (pc' := 63) d_154_62 rfl ?_
    refine g_lload (pc' := 65) d_154_63 rfl rfl ?_
    refine g_ladd (pc' := 66) d_154_65 rfl ?_
    refine g_ldc2 (pc' := 69) d_154_66 rfl st_154_369 cL_1000000007 ?_
    refine g_lrem (pc' := 70) d_154_69 rfl (by decide) ?_
    have h := h _ rfl
    refine g_lstore (pc' := 72) (l' := [some (.ref a0), some (.int i1), some (.long l2), none, some (.long ((lrem ((l4 * l2) + ((lrem (r12 * (f18 ((i1 + (1 : Int32)) - i6).toNatClampNeg)) (1000000007 : Int64)))) (1000000007 : Int64)))), none, some (.int i6), some (.long ((lrem (r12 * (f18 ((i1 + (1 : Int32)) - i6).toNatClampNeg)) (1000000007 : Int64)))), none]) d_154_70 rfl ml_154 rfl rfl ?_
    have h := h _ rfl
    refine g_iinc (pc' := 75) (l' := [some (.ref a0), some (.int i1), some (.long l2), none, some (.long ((lrem ((l4 * l2) + ((lrem (r12 * (f18 ((i1 + (1 : Int32)) - i6).toNatClampNeg)) (1000000007 : Int64)))) (1000000007 : Int64)))), none, some (.int (i6 + (-1 : Int32))), some (.long ((lrem (r12 * (f18 ((i1 + (1 : Int32)) - i6).toNatClampNeg)) (1000000007 : Int64)))), none]) d_154_72 rfl rfl ci_m1 ml_154 rfl rfl ?_
    refine g_goto (pt := 23) d_154_75 (by decide) ?_
    exact xGo.more (xle_s (xle_s (xle_s (xle_n (xle_s (xle_n (xle_s (xle_n (xle_n xle_0))))))))) h
-- 155 BernoulliWays.digits(II)I
theorem S_155_0 {a0 : Nat} {i1 : Int32} {i2 : Int32} {w : xW} {r : Option Value × xW} (h : ∃ r3 w1, xCall 152 [.int i1, .int i2] w (some (.int r3), w1) ∧ (¬ r3 = 0 → ∃ fs4, w1[a0]? = some (.inr (0, fs4)) ∧ ∃ w6, xCall 156 [.ref a0, .int i1, .int i2] w1 (none, w6) ∧ ∃ fs8, w6[a0]? = some (.inr (0, fs8)) ∧ ∃ b10, fs8[12]? = some (.ref b10) ∧ ∃ fs12, w6[b10]? = some (.inr (10, fs12)) ∧ ∃ r16 w14, xCall 162 [.ref b10] w6 (some (.int r16), w14) ∧ r = (some (.int r16), w14)) ∧ (¬ (¬ r3 = 0) → r = (some (.int (-1 : Int32)), w1))) : xGo 155 0 [some (.ref a0), some (.int i1), some (.int i2)] [] w r := by
  refine g_iloadn (pc' := 1) d_155_0 rfl rfl ?_
  refine g_iloadn (pc' := 2) d_155_1 rfl rfl ?_
  obtain ⟨r3, w1, hk2, h⟩ := h
  refine g_callS (pc' := 5) d_155_2 rfl st_155_352 (Or.inl rfl) na_152 ml_152 rfl rfl rfl rm_155_152 rfl rfl hk2 ?_
  refine g_if_ne (pc' := 8) (pt := 10) d_155_5 (by decide) rfl (fun c => ?_) (fun c => ?_)
  · replace h := h.1 c
    refine g_aloadn (pc' := 11) d_155_10 rfl rfl ?_
    refine g_iloadn (pc' := 12) d_155_11 rfl rfl ?_
    refine g_iloadn (pc' := 13) d_155_12 rfl rfl ?_
    obtain ⟨fs4, hw5, h⟩ := h
    obtain ⟨w6, hk7, h⟩ := h
    refine g_callV (pc' := 16) d_155_13 rfl st_155_362 na_156 ml_156 rfl rfl rfl rm_155_156 rfl rfl ow_156 hw5 hk7 ?_
    refine g_aloadn (pc' := 17) d_155_16 rfl rfl ?_
    obtain ⟨fs8, hw9, h⟩ := h
    obtain ⟨b10, hv11, h⟩ := h
    refine g_getf (pc' := 20) d_155_17 rfl st_155_88 hw9 hv11 ?_
    obtain ⟨fs12, hw13, h⟩ := h
    obtain ⟨r16, w14, hk15, h⟩ := h
    refine g_callV (pc' := 23) d_155_20 rfl st_155_365 na_162 ml_162 rfl rfl rfl rm_155_162 rfl rfl ow_162 hw13 hk15 ?_
    exact g_iret d_155_23 rt_155 h
  · replace h := h.2 c
    refine g_iconst (pc' := 9) d_155_8 rfl ci_m1 ?_
    exact g_iret d_155_9 rt_155 h
-- 156 BernoulliWays.workSum(II)V
theorem S_156_0 {a0 : Nat} {i1 : Int32} {i2 : Int32} {w : xW} {r : Option Value × xW} (h : ∃ fs1, w[a0]? = some (.inr (0, fs1)) ∧ ∃ b3, fs1[12]? = some (.ref b3) ∧ ∃ fs5, w[b3]? = some (.inr (10, fs5)) ∧ ∃ w7, xCall 157 [.ref b3] w (none, w7) ∧ ∀ v9 : Int32, v9 = (i1 + (1 : Int32)) → xGo 156 11 [some (.ref a0), some (.int i1), some (.int i2), some (.int v9), none, none, none] [] w7 r) : xGo 156 0 [some (.ref a0), some (.int i1), some (.int i2), none, none, none, none] [] w r := by
  refine g_aloadn (pc' := 1) d_156_0 rfl rfl ?_
  obtain ⟨fs1, hw2, h⟩ := h
  obtain ⟨b3, hv4, h⟩ := h
  refine g_getf (pc' := 4) d_156_1 rfl st_156_88 hw2 hv4 ?_
  obtain ⟨fs5, hw6, h⟩ := h
  obtain ⟨w7, hk8, h⟩ := h
  refine g_callV (pc' := 7) d_156_4 rfl st_156_464 na_157 ml_157 rfl rfl rfl rm_156_157 rfl rfl ow_157 hw6 hk8 ?_
  refine g_iloadn (pc' := 8) d_156_7 rfl rfl ?_
  refine g_iconst (pc' := 9) d_156_8 rfl ci_1 ?_
  refine g_iadd (pc' := 10) d_156_9 rfl ?_
  have h := h _ rfl
  refine g_istoren (pc' := 11) (l' := [some (.ref a0), some (.int i1), some (.int i2), some (.int ((i1 + (1 : Int32)))), none, none, none]) d_156_10 rfl ml_156 rfl rfl ?_
  exact h
theorem S_156_11 {a0 : Nat} {i1 : Int32} {i2 : Int32} {i3 : Int32} {w : xW} {r : Option Value × xW} (h : (i3 < (1 : Int32) → ∃ fs1, w[a0]? = some (.inr (0, fs1)) ∧ ∃ b3, fs1[12]? = some (.ref b3) ∧ ∃ fs5, w[b3]? = some (.inr (10, fs5)) ∧ ∃ w7, xCall 158 [.ref b3, .long (i2.toInt64), .long (0 : Int64)] w (none, w7) ∧ ∃ fs9, w7[a0]? = some (.inr (0, fs9)) ∧ ∃ b11, fs9[12]? = some (.ref b11) ∧ ∃ fs13, w7[b11]? = some (.inr (10, fs13)) ∧ ∃ w15, xCall 159 [.ref b11, .long (223092870 : Int64)] w7 (none, w15) ∧ ∃ fs17, w15[a0]? = some (.inr (0, fs17)) ∧ ∃ b19, fs17[12]? = some (.ref b19) ∧ ∃ fs21, w15[b19]? = some (.inr (10, fs21)) ∧ ∃ w23, xCall 159 [.ref b19, .long ((i1 + (1 : Int32)).toInt64)] w15 (none, w23) ∧ ∃ fs25, w23[a0]? = some (.inr (0, fs25)) ∧ ∃ b27, fs25[12]? = some (.ref b27) ∧ ∃ fs29, w23[b27]? = some (.inr (10, fs29)) ∧ ∃ w31, xCall 160 [.ref b27] w23 (none, w31) ∧ r = (none, w31)) ∧ (¬ (i3 < (1 : Int32)) → ∀ v33 : Int32, v33 = ((i1 + (1 : Int32)) - i3) → ∃ fs34, w[a0]? = some (.inr (0, fs34)) ∧ ∃ b36, fs34[3]? = some (.ref b36) ∧ ∃ fs38, w[b36]? = some (.inr (4, fs38)) ∧ ∃ r42 w40, xCall 146 [.ref b36, .int v33, .long (223092870 : Int64)] w (some (.long r42), w40) ∧ ∃ r45 w43, xCall 149 [.int v33] w40 (some (.int r45), w43) ∧ ∀ v46 : Int64, v46 = (r42 + ((r45.toInt64) * (223092870 : Int64))) → ∃ fs47, w43[a0]? = some (.inr (0, fs47)) ∧ ∃ b49, fs47[12]? = some (.ref b49) ∧ ∃ b51, fs47[0]? = some (.ref b51) ∧ ∃ fs53, w43[b51]? = some (.inr (1, fs53)) ∧ ∃ r57 w55, xCall 39 [.ref b51, .int (i1 + (1 : Int32)), .int i3] w43 (some (.long r57), w55) ∧ ∃ fs58, w55[b49]? = some (.inr (10, fs58)) ∧ ∃ w60, xCall 158 [.ref b49, .long (i2.toInt64), .long (r57 * v46)] w55 (none, w60) ∧ ∀ v62 : Int32, v62 = i3 + (-1 : Int32) → xGo 156 11 [some (.ref a0), some (.int i1), some (.int i2), some (.int v62), none, none, none] [] w60 r)) : xGo 156 11 [some (.ref a0), some (.int i1), some (.int i2), some (.int i3), none, none, none] [] w r := by
  refine g_iloadn (pc' := 12) d_156_11 rfl rfl ?_
  refine g_iconst (pc' := 13) d_156_12 rfl ci_1 ?_
  refine g_ic_lt (pc' := 16) (pt := 77) d_156_13 (by decide) rfl (fun c => ?_) (fun c => ?_)
  · replace h := h.1 c
    refine g_aloadn (pc' := 78) d_156_77 rfl rfl ?_
    obtain ⟨fs1, hw2, h⟩ := h
    obtain ⟨b3, hv4, h⟩ := h
    refine g_getf (pc' := 81) d_156_78 rfl st_156_88 hw2 hv4 ?_
    refine g_iloadn (pc' := 82) d_156_81 rfl rfl ?_
    refine g_i2l (pc' := 83) d_156_82 rfl ?_
    refine g_lconst (pc' := 84) d_156_83 rfl cl_0 ?_
    obtain ⟨fs5, hw6, h⟩ := h
    obtain ⟨w7, hk8, h⟩ := h
    refine g_callV (pc' := 87) d_156_84 rfl st_156_469 na_158 ml_158 rfl rfl rfl rm_156_158 rfl rfl ow_158 hw6 hk8 ?_
    refine g_aloadn (pc' := 88) d_156_87 rfl rfl ?_
    obtain ⟨fs9, hw10, h⟩ := h
    obtain ⟨b11, hv12, h⟩ := h
    refine g_getf (pc' := 91) d_156_88 rfl st_156_88 hw10 hv12 ?_
    refine g_ldc2 (pc' := 94) d_156_91 rfl st_156_467 cL_223092870 ?_
    obtain ⟨fs13, hw14, h⟩ := h
    obtain ⟨w15, hk16, h⟩ := h
    refine g_callV (pc' := 97) d_156_94 rfl st_156_473 na_159 ml_159 rfl rfl rfl rm_156_159 rfl rfl ow_159 hw14 hk16 ?_
    refine g_aloadn (pc' := 98) d_156_97 rfl rfl ?_
    obtain ⟨fs17, hw18, h⟩ := h
    obtain ⟨b19, hv20, h⟩ := h
    refine g_getf (pc' := 101) d_156_98 rfl st_156_88 hw18 hv20 ?_
    refine g_iloadn (pc' := 102) d_156_101 rfl rfl ?_
    refine g_iconst (pc' := 103) d_156_102 rfl ci_1 ?_
    refine g_iadd (pc' := 104) d_156_103 rfl ?_
    refine g_i2l (pc' := 105) d_156_104 rfl ?_
    obtain ⟨fs21, hw22, h⟩ := h
    obtain ⟨w23, hk24, h⟩ := h
    refine g_callV (pc' := 108) d_156_105 rfl st_156_473 na_159 ml_159 rfl rfl rfl rm_156_159 rfl rfl ow_159 hw22 hk24 ?_
    refine g_aloadn (pc' := 109) d_156_108 rfl rfl ?_
    obtain ⟨fs25, hw26, h⟩ := h
    obtain ⟨b27, hv28, h⟩ := h
    refine g_getf (pc' := 112) d_156_109 rfl st_156_88 hw26 hv28 ?_
    obtain ⟨fs29, hw30, h⟩ := h
    obtain ⟨w31, hk32, h⟩ := h
    refine g_callV (pc' := 115) d_156_112 rfl st_156_474 na_160 ml_160 rfl rfl rfl rm_156_160 rfl rfl ow_160 hw30 hk32 ?_
    exact g_vret d_156_115 rt_156 h
  · replace h := h.2 c
    refine g_iloadn (pc' := 17) d_156_16 rfl rfl ?_
    refine g_iconst (pc' := 18) d_156_17 rfl ci_1 ?_
    refine g_iadd (pc' := 19) d_156_18 rfl ?_
    refine g_iloadn (pc' := 20) d_156_19 rfl rfl ?_
    refine g_isub (pc' := 21) d_156_20 rfl ?_
    have h := h _ rfl
    refine g_istore (pc' := 23) (l' := [some (.ref a0), some (.int i1), some (.int i2), some (.int i3), some (.int (((i1 + (1 : Int32)) - i3))), none, none]) d_156_21 rfl ml_156 rfl rfl ?_
    refine g_aloadn (pc' := 24) d_156_23 rfl rfl ?_
    obtain ⟨fs34, hw35, h⟩ := h
    obtain ⟨b36, hv37, h⟩ := h
    refine g_getf (pc' := 27) d_156_24 rfl st_156_35 hw35 hv37 ?_
    refine g_iload (pc' := 29) d_156_27 rfl rfl ?_
    refine g_ldc2 (pc' := 32) d_156_29 rfl st_156_467 cL_223092870 ?_
    obtain ⟨fs38, hw39, h⟩ := h
    obtain ⟨r42, w40, hk41, h⟩ := h
    refine g_callV (pc' := 35) d_156_32 rfl st_156_461 na_146 ml_146 rfl rfl rfl rm_156_146 rfl rfl ow_146 hw39 hk41 ?_
    refine g_iload (pc' := 37) d_156_35 rfl rfl ?_
    obtain ⟨r45, w43, hk44, h⟩ := h
    refine g_callS (pc' := 40) d_156_37 rfl st_156_333 (Or.inl rfl) na_149 ml_149 rfl rfl rfl rm_156_149 rfl rfl hk44 ?_
    refine g_i2l (pc' := 41) d_156_40 rfl ?_
    refine g_ldc2 (pc' := 44) d_156_41 rfl st_156_467 cL_223092870 ?_
    refine g_lmul (pc' := 45) d_156_44 rfl ?_
    refine g_ladd (pc' := 46) d_156_45 rfl ?_
    have h := h _ rfl
    refine g_lstore (pc' := 48) (l' := [some (.ref a0), some (.int i1), some (.int i2), some (.int i3), some (.int (((i1 + (1 : Int32)) - i3))), some (.long ((r42 + ((r45.toInt64) * (223092870 : Int64))))), none]) d_156_46 rfl ml_156 rfl rfl ?_
    refine g_aloadn (pc' := 49) d_156_48 rfl rfl ?_
    obtain ⟨fs47, hw48, h⟩ := h
    obtain ⟨b49, hv50, h⟩ := h
    refine g_getf (pc' := 52) d_156_49 rfl st_156_88 hw48 hv50 ?_
    refine g_iloadn (pc' := 53) d_156_52 rfl rfl ?_
    refine g_i2l (pc' := 54) d_156_53 rfl ?_
    refine g_aloadn (pc' := 55) d_156_54 rfl rfl ?_
    obtain ⟨b51, hv52, h⟩ := h
    refine g_getf (pc' := 58) d_156_55 rfl st_156_14 hw48 hv52 ?_
    refine g_iloadn (pc' := 59) d_156_58 rfl rfl ?_
    refine g_iconst (pc' := 60) d_156_59 rfl ci_1 ?_
    refine g_iadd (pc' := 61) d_156_60 rfl ?_
    refine g_iloadn (pc' := 62) d_156_61 rfl rfl ?_
    obtain ⟨fs53, hw54, h⟩ := h
    obtain ⟨r57, w55, hk56, h⟩ := h
    refine g_callV (pc' := 65) d_156_62 rfl st_156_336 na_39 ml_39 rfl rfl rfl rm_156_39 rfl rfl ow_39 hw54 hk56 ?_
    refine g_lload (pc' := 67) d_156_65 rfl rfl ?_
    refine g_lmul (pc' := 68) d_156_67 rfl ?_
    obtain ⟨fs58, hw59, h⟩ := h
    obtain ⟨w60, hk61, h⟩ := h
    refine g_callV (pc' := 71) d_156_68 rfl st_156_469 na_158 ml_158 rfl rfl rfl rm_156_158 rfl rfl ow_158 hw59 hk61 ?_
    have h := h _ rfl
    refine g_iinc (pc' := 74) (l' := [some (.ref a0), some (.int i1), some (.int i2), some (.int (i3 + (-1 : Int32))), some (.int (((i1 + (1 : Int32)) - i3))), some (.long ((r42 + ((r45.toInt64) * (223092870 : Int64))))), none]) d_156_71 rfl rfl ci_m1 ml_156 rfl rfl ?_
    refine g_goto (pt := 11) d_156_74 (by decide) ?_
    exact xGo.more (xle_s (xle_s (xle_s (xle_s (xle_n (xle_n (xle_n xle_0))))))) h
-- 157 BernoulliWays$Decimal.clear()V
theorem S_157_0 {a0 : Nat} {w : xW} {r : Option Value × xW} (h : ∃ fs1, w[a0]? = some (.inr (10, fs1)) ∧ ∃ b3, fs1[0]? = some (.ref b3) ∧ ∃ w5, xCall 6 [.ref b3, .long (0 : Int64)] w (none, w5) ∧ r = (none, w5)) : xGo 157 0 [some (.ref a0)] [] w r := by
  refine g_aloadn (pc' := 1) d_157_0 rfl rfl ?_
  obtain ⟨fs1, hw2, h⟩ := h
  obtain ⟨b3, hv4, h⟩ := h
  refine g_getf (pc' := 4) d_157_1 rfl st_157_9 hw2 hv4 ?_
  refine g_lconst (pc' := 5) d_157_4 rfl cl_0 ?_
  obtain ⟨w5, hk6, h⟩ := h
  refine g_callS (pc' := 8) d_157_5 rfl st_157_17 (Or.inl rfl) na_6 ml_6 rfl rfl rfl rm_157_6 rfl rfl hk6 ?_
  exact g_vret d_157_8 rt_157 h
-- 158 BernoulliWays$Decimal.multiplyAndAdd(JJ)V
theorem S_158_0 {a0 : Nat} {l1 : Int64} {l3 : Int64} {w : xW} {r : Option Value × xW} (h : xGo 158 6 [some (.ref a0), some (.long l1), none, some (.long l3), none, some (.long l3), none, some (.int (0 : Int32)), none, none] [] w r) : xGo 158 0 [some (.ref a0), some (.long l1), none, some (.long l3), none, none, none, none, none, none] [] w r := by
  refine g_lloadn (pc' := 1) d_158_0 rfl rfl ?_
  refine g_lstore (pc' := 3) (l' := [some (.ref a0), some (.long l1), none, some (.long l3), none, some (.long l3), none, none, none, none]) d_158_1 rfl ml_158 rfl rfl ?_
  refine g_iconst (pc' := 4) d_158_3 rfl ci_0 ?_
  refine g_istore (pc' := 6) (l' := [some (.ref a0), some (.long l1), none, some (.long l3), none, some (.long l3), none, some (.int (0 : Int32)), none, none]) d_158_4 rfl ml_158 rfl rfl ?_
  exact h
theorem S_158_6 {a0 : Nat} {l1 : Int64} {l3 : Int64} {l5 : Int64} {i7 : Int32} {w : xW} {r : Option Value × xW} (h : ((28 : Int32) ≤ i7 → r = (none, w)) ∧ (¬ ((28 : Int32) ≤ i7) → ∃ fs1, w[a0]? = some (.inr (10, fs1)) ∧ ∃ b3, fs1[0]? = some (.ref b3) ∧ ∃ n5 f6, w[b3]? = some (.inl (.inr (n5, f6))) ∧ (¬ (i7 < 0 ∨ n5 ≤ i7.toNatClampNeg)) ∧ ∀ v9 : Int64, v9 = (((f6 i7.toNatClampNeg) * l1) + l5) → ∃ r12 w10, xCall 17 [.long v9, .long (1000000000 : Int64)] w (some (.long r12), w10) ∧ ∃ n13 f14, w10[b3]? = some (.inl (.inr (n13, f14))) ∧ (¬ (i7 < 0 ∨ n13 ≤ i7.toNatClampNeg)) ∧ ∀ w17, w17 = w10.set b3 (.inl (.inr (n13, (vp_updL f14 i7.toNatClampNeg r12)))) → ∃ r20 w18, xCall 19 [.long v9, .long (1000000000 : Int64)] w17 (some (.long r20), w18) ∧ ∀ v21 : Int32, v21 = i7 + (1 : Int32) → xGo 158 6 [some (.ref a0), some (.long l1), none, some (.long l3), none, some (.long r20), none, some (.int v21), none, none] [] w18 r)) : xGo 158 6 [some (.ref a0), some (.long l1), none, some (.long l3), none, some (.long l5), none, some (.int i7), none, none] [] w r := by
  refine g_iload (pc' := 8) d_158_6 rfl rfl ?_
  refine g_bipush (pc' := 10) d_158_8 rfl cb_28 ?_
  refine g_ic_ge (pc' := 13) (pt := 58) d_158_10 (by decide) rfl (fun c => ?_) (fun c => ?_)
  · replace h := h.1 c
    exact g_vret d_158_58 rt_158 h
  · replace h := h.2 c
    refine g_aloadn (pc' := 14) d_158_13 rfl rfl ?_
    obtain ⟨fs1, hw2, h⟩ := h
    obtain ⟨b3, hv4, h⟩ := h
    refine g_getf (pc' := 17) d_158_14 rfl st_158_9 hw2 hv4 ?_
    refine g_iload (pc' := 19) d_158_17 rfl rfl ?_
    obtain ⟨n5, f6, hw7, h⟩ := h
    obtain ⟨hc8, h⟩ := h
    refine g_lald (pc' := 20) d_158_19 rfl hw7 hc8 ?_
    refine g_lloadn (pc' := 21) d_158_20 rfl rfl ?_
    refine g_lmul (pc' := 22) d_158_21 rfl ?_
    refine g_lload (pc' := 24) d_158_22 rfl rfl ?_
    refine g_ladd (pc' := 25) d_158_24 rfl ?_
    have h := h _ rfl
    refine g_lstore (pc' := 27) (l' := [some (.ref a0), some (.long l1), none, some (.long l3), none, some (.long l5), none, some (.int i7), some (.long ((((f6 i7.toNatClampNeg) * l1) + l5))), none]) d_158_25 rfl ml_158 rfl rfl ?_
    refine g_aloadn (pc' := 28) d_158_27 rfl rfl ?_
    refine g_getf (pc' := 31) d_158_28 rfl st_158_9 hw2 hv4 ?_
    refine g_iload (pc' := 33) d_158_31 rfl rfl ?_
    refine g_lload (pc' := 35) d_158_33 rfl rfl ?_
    refine g_ldc2 (pc' := 38) d_158_35 rfl st_158_23 cL_1000000000 ?_
    obtain ⟨r12, w10, hk11, h⟩ := h
    refine g_callS (pc' := 41) d_158_38 rfl st_158_25 (Or.inl rfl) na_17 ml_17 rfl rfl rfl rm_158_17 rfl rfl hk11 ?_
    obtain ⟨n13, f14, hw15, h⟩ := h
    obtain ⟨hc16, h⟩ := h
    have h := h _ rfl
    refine g_last (pc' := 42) d_158_41 rfl hw15 hc16 ?_
    refine g_lload (pc' := 44) d_158_42 rfl rfl ?_
    refine g_ldc2 (pc' := 47) d_158_44 rfl st_158_23 cL_1000000000 ?_
    obtain ⟨r20, w18, hk19, h⟩ := h
    refine g_callS (pc' := 50) d_158_47 rfl st_158_31 (Or.inl rfl) na_19 ml_19 rfl rfl rfl rm_158_19 rfl rfl hk19 ?_
    refine g_lstore (pc' := 52) (l' := [some (.ref a0), some (.long l1), none, some (.long l3), none, some (.long r20), none, some (.int i7), some (.long ((((f6 i7.toNatClampNeg) * l1) + l5))), none]) d_158_50 rfl ml_158 rfl rfl ?_
    have h := h _ rfl
    refine g_iinc (pc' := 55) (l' := [some (.ref a0), some (.long l1), none, some (.long l3), none, some (.long r20), none, some (.int (i7 + (1 : Int32))), some (.long ((((f6 i7.toNatClampNeg) * l1) + l5))), none]) d_158_52 rfl rfl ci_1 ml_158 rfl rfl ?_
    refine g_goto (pt := 6) d_158_55 (by decide) ?_
    exact xGo.more (xle_s (xle_s (xle_n (xle_s (xle_n (xle_s (xle_n (xle_s (xle_n (xle_n xle_0)))))))))) h
-- 159 BernoulliWays$Decimal.divide(J)V
theorem S_159_0 {a0 : Nat} {l1 : Int64} {w : xW} {r : Option Value × xW} (h : ((0 : Int64) < l1 → xGo 159 13 [some (.ref a0), some (.long l1), none, some (.long (0 : Int64)), none, some (.int (27 : Int32)), none, none] [] w r) ∧ (¬ ((0 : Int64) < l1) → r = (none, w))) : xGo 159 0 [some (.ref a0), some (.long l1), none, none, none, none, none, none] [] w r := by
  refine g_lloadn (pc' := 1) d_159_0 rfl rfl ?_
  refine g_lconst (pc' := 2) d_159_1 rfl cl_0 ?_
  refine g_lc_gt (pc' := 6) (pm := 3) (pt := 7) d_159_2 rfl d_159_3 (by decide) rfl (fun c => ?_) (fun c => ?_)
  · replace h := h.1 c
    refine g_lconst (pc' := 8) d_159_7 rfl cl_0 ?_
    refine g_lstoren (pc' := 9) (l' := [some (.ref a0), some (.long l1), none, some (.long (0 : Int64)), none, none, none, none]) d_159_8 rfl ml_159 rfl rfl ?_
    refine g_bipush (pc' := 11) d_159_9 rfl cb_27 ?_
    refine g_istore (pc' := 13) (l' := [some (.ref a0), some (.long l1), none, some (.long (0 : Int64)), none, some (.int (27 : Int32)), none, none]) d_159_11 rfl ml_159 rfl rfl ?_
    exact h
  · replace h := h.2 c
    exact g_vret d_159_6 rt_159 h
theorem S_159_13 {a0 : Nat} {l1 : Int64} {l3 : Int64} {i5 : Int32} {w : xW} {r : Option Value × xW} (h : (i5 < 0 → r = (none, w)) ∧ (¬ (i5 < 0) → ∃ fs1, w[a0]? = some (.inr (10, fs1)) ∧ ∃ b3, fs1[0]? = some (.ref b3) ∧ ∃ n5 f6, w[b3]? = some (.inl (.inr (n5, f6))) ∧ (¬ (i5 < 0 ∨ n5 ≤ i5.toNatClampNeg)) ∧ ∀ v9 : Int64, v9 = ((l3 * (1000000000 : Int64)) + (f6 i5.toNatClampNeg)) → (¬ l1 = 0) ∧ ∀ v11 : Int64, v11 = (v9 / l1) → (¬ (i5 < 0 ∨ n5 ≤ i5.toNatClampNeg)) ∧ ∀ w13, w13 = w.set b3 (.inl (.inr (n5, (vp_updL f6 i5.toNatClampNeg v11)))) → (¬ l1 = 0) ∧ ∀ v15 : Int64, v15 = (lrem v9 l1) → ∀ v16 : Int32, v16 = i5 + (-1 : Int32) → xGo 159 13 [some (.ref a0), some (.long l1), none, some (.long v15), none, some (.int v16), none, none] [] w13 r)) : xGo 159 13 [some (.ref a0), some (.long l1), none, some (.long l3), none, some (.int i5), none, none] [] w r := by
  refine g_iload (pc' := 15) d_159_13 rfl rfl ?_
  refine g_if_lt (pc' := 18) (pt := 55) d_159_15 (by decide) rfl (fun c => ?_) (fun c => ?_)
  · replace h := h.1 c
    exact g_vret d_159_55 rt_159 h
  · replace h := h.2 c
    refine g_lloadn (pc' := 19) d_159_18 rfl rfl ?_
    refine g_ldc2 (pc' := 22) d_159_19 rfl st_159_23 cL_1000000000 ?_
    refine g_lmul (pc' := 23) d_159_22 rfl ?_
    refine g_aloadn (pc' := 24) d_159_23 rfl rfl ?_
    obtain ⟨fs1, hw2, h⟩ := h
    obtain ⟨b3, hv4, h⟩ := h
    refine g_getf (pc' := 27) d_159_24 rfl st_159_9 hw2 hv4 ?_
    refine g_iload (pc' := 29) d_159_27 rfl rfl ?_
    obtain ⟨n5, f6, hw7, h⟩ := h
    obtain ⟨hc8, h⟩ := h
    refine g_lald (pc' := 30) d_159_29 rfl hw7 hc8 ?_
    refine g_ladd (pc' := 31) d_159_30 rfl ?_
    have h := h _ rfl
    refine g_lstore (pc' := 33) (l' := [some (.ref a0), some (.long l1), none, some (.long l3), none, some (.int i5), some (.long (((l3 * (1000000000 : Int64)) + (f6 i5.toNatClampNeg)))), none]) d_159_31 rfl ml_159 rfl rfl ?_
    refine g_aloadn (pc' := 34) d_159_33 rfl rfl ?_
    refine g_getf (pc' := 37) d_159_34 rfl st_159_9 hw2 hv4 ?_
    refine g_iload (pc' := 39) d_159_37 rfl rfl ?_
    refine g_lload (pc' := 41) d_159_39 rfl rfl ?_
    refine g_lloadn (pc' := 42) d_159_41 rfl rfl ?_
    obtain ⟨hc10, h⟩ := h
    refine g_ldiv (pc' := 43) d_159_42 rfl hc10 ?_
    have h := h _ rfl
    obtain ⟨hc12, h⟩ := h
    have h := h _ rfl
    refine g_last (pc' := 44) d_159_43 rfl hw7 hc12 ?_
    refine g_lload (pc' := 46) d_159_44 rfl rfl ?_
    refine g_lloadn (pc' := 47) d_159_46 rfl rfl ?_
    obtain ⟨hc14, h⟩ := h
    refine g_lrem (pc' := 48) d_159_47 rfl hc14 ?_
    have h := h _ rfl
    refine g_lstoren (pc' := 49) (l' := [some (.ref a0), some (.long l1), none, some (.long ((lrem (((l3 * (1000000000 : Int64)) + (f6 i5.toNatClampNeg))) l1))), none, some (.int i5), some (.long (((l3 * (1000000000 : Int64)) + (f6 i5.toNatClampNeg)))), none]) d_159_48 rfl ml_159 rfl rfl ?_
    have h := h _ rfl
    refine g_iinc (pc' := 52) (l' := [some (.ref a0), some (.long l1), none, some (.long ((lrem (((l3 * (1000000000 : Int64)) + (f6 i5.toNatClampNeg))) l1))), none, some (.int (i5 + (-1 : Int32))), some (.long (((l3 * (1000000000 : Int64)) + (f6 i5.toNatClampNeg)))), none]) d_159_49 rfl rfl ci_m1 ml_159 rfl rfl ?_
    refine g_goto (pt := 13) d_159_52 (by decide) ?_
    exact xGo.more (xle_s (xle_s (xle_n (xle_s (xle_n (xle_s (xle_n (xle_n xle_0)))))))) h
-- 160 BernoulliWays$Decimal.measure()V
theorem S_160_0 {a0 : Nat} {w : xW} {r : Option Value × xW} (h : ∃ fs1, w[a0]? = some (.inr (10, fs1)) ∧ (1 < fs1.length) ∧ ∀ w4, w4 = w.set a0 (.inr (10, fs1.set 1 (.int (252 : Int32)))) → xGo 160 7 [some (.ref a0)] [] w4 r) : xGo 160 0 [some (.ref a0)] [] w r := by
  refine g_aloadn (pc' := 1) d_160_0 rfl rfl ?_
  refine g_sipush (pc' := 4) d_160_1 rfl cs_252 ?_
  obtain ⟨fs1, hw2, h⟩ := h
  obtain ⟨hc3, h⟩ := h
  have h := h _ rfl
  refine g_putf (pc' := 7) d_160_4 rfl st_160_13 ft_10_1 ff_10_1 rfl (Or.inl rfl) hw2 hc3 ?_
  exact h
theorem S_160_7 {a0 : Nat} {w : xW} {r : Option Value × xW} (h : ∃ fs1, w[a0]? = some (.inr (10, fs1)) ∧ ∃ x3, fs1[1]? = some (.int x3) ∧ (x3 ≤ (1 : Int32) → r = (none, w)) ∧ (¬ (x3 ≤ (1 : Int32)) → ∃ r7 w5, xCall 161 [.ref a0, .int (x3 - (1 : Int32))] w (some (.int r7), w5) ∧ (¬ r7 = 0 → r = (none, w5)) ∧ (¬ (¬ r7 = 0) → ∃ fs8, w5[a0]? = some (.inr (10, fs8)) ∧ ∃ x10, fs8[1]? = some (.int x10) ∧ ∀ v12 : Int32, v12 = (x10 - (1 : Int32)) → (1 < fs8.length) ∧ ∀ w14, w14 = w5.set a0 (.inr (10, fs8.set 1 (.int v12))) → xGo 160 7 [some (.ref a0)] [] w14 r))) : xGo 160 7 [some (.ref a0)] [] w r := by
  refine g_aloadn (pc' := 8) d_160_7 rfl rfl ?_
  obtain ⟨fs1, hw2, h⟩ := h
  obtain ⟨x3, hv4, h⟩ := h
  refine g_getf (pc' := 11) d_160_8 rfl st_160_13 hw2 hv4 ?_
  refine g_iconst (pc' := 12) d_160_11 rfl ci_1 ?_
  refine g_ic_le (pc' := 15) (pt := 41) d_160_12 (by decide) rfl (fun c => ?_) (fun c => ?_)
  · replace h := h.1 c
    exact g_vret d_160_41 rt_160 h
  · replace h := h.2 c
    refine g_aloadn (pc' := 16) d_160_15 rfl rfl ?_
    refine g_aloadn (pc' := 17) d_160_16 rfl rfl ?_
    refine g_getf (pc' := 20) d_160_17 rfl st_160_13 hw2 hv4 ?_
    refine g_iconst (pc' := 21) d_160_20 rfl ci_1 ?_
    refine g_isub (pc' := 22) d_160_21 rfl ?_
    obtain ⟨r7, w5, hk6, h⟩ := h
    refine g_callV (pc' := 25) d_160_22 rfl st_160_34 na_161 ml_161 rfl rfl rfl rm_160_161 rfl rfl ow_161 hw2 hk6 ?_
    refine g_if_ne (pc' := 28) (pt := 41) d_160_25 (by decide) rfl (fun c => ?_) (fun c => ?_)
    · replace h := h.1 c
      exact g_vret d_160_41 rt_160 h
    · replace h := h.2 c
      refine g_aloadn (pc' := 29) d_160_28 rfl rfl ?_
      refine g_dup (pc' := 30) d_160_29 rfl rfl ?_
      obtain ⟨fs8, hw9, h⟩ := h
      obtain ⟨x10, hv11, h⟩ := h
      refine g_getf (pc' := 33) d_160_30 rfl st_160_13 hw9 hv11 ?_
      refine g_iconst (pc' := 34) d_160_33 rfl ci_1 ?_
      refine g_isub (pc' := 35) d_160_34 rfl ?_
      have h := h _ rfl
      obtain ⟨hc13, h⟩ := h
      have h := h _ rfl
      refine g_putf (pc' := 38) d_160_35 rfl st_160_13 ft_10_1 ff_10_1 rfl (Or.inl rfl) hw9 hc13 ?_
      refine g_goto (pt := 7) d_160_38 (by decide) ?_
      exact h
-- 161 BernoulliWays$Decimal.fromRight(I)I
theorem S_161_0 {a0 : Nat} {i1 : Int32} {w : xW} {r : Option Value × xW} (h : (i1 < 0 → r = (some (.int (0 : Int32)), w)) ∧ (¬ (i1 < 0) → (i1 < (252 : Int32) → ∃ fs1, w[a0]? = some (.inr (10, fs1)) ∧ ∃ b3, fs1[0]? = some (.ref b3) ∧ ∃ n5 f6, w[b3]? = some (.inl (.inr (n5, f6))) ∧ (¬ ((i1 / (9 : Int32)) < 0 ∨ n5 ≤ (i1 / (9 : Int32)).toNatClampNeg)) ∧ ∀ v9 : Int64, v9 = (f6 (i1 / (9 : Int32)).toNatClampNeg) → xGo 161 26 [some (.ref a0), some (.int i1), some (.long v9), none, some (.int (0 : Int32))] [] w r) ∧ (¬ (i1 < (252 : Int32)) → r = (some (.int (0 : Int32)), w)))) : xGo 161 0 [some (.ref a0), some (.int i1), none, none, none] [] w r := by
  refine g_iloadn (pc' := 1) d_161_0 rfl rfl ?_
  refine g_if_lt (pc' := 4) (pt := 11) d_161_1 (by decide) rfl (fun c => ?_) (fun c => ?_)
  · replace h := h.1 c
    refine g_iconst (pc' := 12) d_161_11 rfl ci_0 ?_
    exact g_iret d_161_12 rt_161 h
  · replace h := h.2 c
    refine g_iloadn (pc' := 5) d_161_4 rfl rfl ?_
    refine g_sipush (pc' := 8) d_161_5 rfl cs_252 ?_
    refine g_ic_lt (pc' := 11) (pt := 13) d_161_8 (by decide) rfl (fun c => ?_) (fun c => ?_)
    · replace h := h.1 c
      refine g_aloadn (pc' := 14) d_161_13 rfl rfl ?_
      obtain ⟨fs1, hw2, h⟩ := h
      obtain ⟨b3, hv4, h⟩ := h
      refine g_getf (pc' := 17) d_161_14 rfl st_161_9 hw2 hv4 ?_
      refine g_iloadn (pc' := 18) d_161_17 rfl rfl ?_
      refine g_bipush (pc' := 20) d_161_18 rfl cb_9 ?_
      refine g_idiv (pc' := 21) d_161_20 rfl (by decide) ?_
      obtain ⟨n5, f6, hw7, h⟩ := h
      obtain ⟨hc8, h⟩ := h
      refine g_lald (pc' := 22) d_161_21 rfl hw7 hc8 ?_
      have h := h _ rfl
      refine g_lstoren (pc' := 23) (l' := [some (.ref a0), some (.int i1), some (.long ((f6 (i1 / (9 : Int32)).toNatClampNeg))), none, none]) d_161_22 rfl ml_161 rfl rfl ?_
      refine g_iconst (pc' := 24) d_161_23 rfl ci_0 ?_
      refine g_istore (pc' := 26) (l' := [some (.ref a0), some (.int i1), some (.long ((f6 (i1 / (9 : Int32)).toNatClampNeg))), none, some (.int (0 : Int32))]) d_161_24 rfl ml_161 rfl rfl ?_
      exact h
    · replace h := h.2 c
      refine g_iconst (pc' := 12) d_161_11 rfl ci_0 ?_
      exact g_iret d_161_12 rt_161 h
theorem S_161_26 {a0 : Nat} {i1 : Int32} {l2 : Int64} {i4 : Int32} {w : xW} {r : Option Value × xW} (h : ((irem i1 (9 : Int32)) ≤ i4 → r = (some (.int ((lrem l2 (10 : Int64)).toInt32)), w)) ∧ (¬ ((irem i1 (9 : Int32)) ≤ i4) → ∀ v1 : Int64, v1 = (l2 / (10 : Int64)) → ∀ v2 : Int32, v2 = i4 + (1 : Int32) → xGo 161 26 [some (.ref a0), some (.int i1), some (.long v1), none, some (.int v2)] [] w r)) : xGo 161 26 [some (.ref a0), some (.int i1), some (.long l2), none, some (.int i4)] [] w r := by
  refine g_iload (pc' := 28) d_161_26 rfl rfl ?_
  refine g_iloadn (pc' := 29) d_161_28 rfl rfl ?_
  refine g_bipush (pc' := 31) d_161_29 rfl cb_9 ?_
  refine g_irem (pc' := 32) d_161_31 rfl (by decide) ?_
  refine g_ic_ge (pc' := 35) (pt := 47) d_161_32 (by decide) rfl (fun c => ?_) (fun c => ?_)
  · replace h := h.1 c
    refine g_lloadn (pc' := 48) d_161_47 rfl rfl ?_
    refine g_ldc2 (pc' := 51) d_161_48 rfl st_161_38 cL_10 ?_
    refine g_lrem (pc' := 52) d_161_51 rfl (by decide) ?_
    refine g_l2i (pc' := 53) d_161_52 rfl ?_
    exact g_iret d_161_53 rt_161 h
  · replace h := h.2 c
    refine g_lloadn (pc' := 36) d_161_35 rfl rfl ?_
    refine g_ldc2 (pc' := 39) d_161_36 rfl st_161_38 cL_10 ?_
    refine g_ldiv (pc' := 40) d_161_39 rfl (by decide) ?_
    have h := h _ rfl
    refine g_lstoren (pc' := 41) (l' := [some (.ref a0), some (.int i1), some (.long ((l2 / (10 : Int64)))), none, some (.int i4)]) d_161_40 rfl ml_161 rfl rfl ?_
    have h := h _ rfl
    refine g_iinc (pc' := 44) (l' := [some (.ref a0), some (.int i1), some (.long ((l2 / (10 : Int64)))), none, some (.int (i4 + (1 : Int32)))]) d_161_41 rfl rfl ci_1 ml_161 rfl rfl ?_
    refine g_goto (pt := 26) d_161_44 (by decide) ?_
    exact h
-- 162 BernoulliWays$Decimal.size()I
theorem S_162_0 {a0 : Nat} {w : xW} {r : Option Value × xW} (h : ∃ fs1, w[a0]? = some (.inr (10, fs1)) ∧ ∃ x3, fs1[1]? = some (.int x3) ∧ r = (some (.int x3), w)) : xGo 162 0 [some (.ref a0)] [] w r := by
  refine g_aloadn (pc' := 1) d_162_0 rfl rfl ?_
  obtain ⟨fs1, hw2, h⟩ := h
  obtain ⟨x3, hv4, h⟩ := h
  refine g_getf (pc' := 4) d_162_1 rfl st_162_13 hw2 hv4 ?_
  exact g_iret d_162_4 rt_162 h
-- 163 BernoulliWays.digit(III)I
theorem S_163_0 {a0 : Nat} {i1 : Int32} {i2 : Int32} {i3 : Int32} {w : xW} {r : Option Value × xW} (h : ∃ r3 w1, xCall 152 [.int i1, .int i2] w (some (.int r3), w1) ∧ (r3 = 0 → r = (some (.int (-1 : Int32)), w1)) ∧ (¬ (r3 = 0) → (0 ≤ i3 → ∃ fs4, w1[a0]? = some (.inr (0, fs4)) ∧ ∃ w6, xCall 156 [.ref a0, .int i1, .int i2] w1 (none, w6) ∧ ∃ fs8, w6[a0]? = some (.inr (0, fs8)) ∧ ∃ b10, fs8[12]? = some (.ref b10) ∧ ∃ fs12, w6[b10]? = some (.inr (10, fs12)) ∧ ∃ r16 w14, xCall 162 [.ref b10] w6 (some (.int r16), w14) ∧ (i3 < r16 → ∃ fs17, w14[a0]? = some (.inr (0, fs17)) ∧ ∃ b19, fs17[12]? = some (.ref b19) ∧ ∃ fs21, w14[b19]? = some (.inr (10, fs21)) ∧ ∃ r25 w23, xCall 164 [.ref b19, .int i3] w14 (some (.int r25), w23) ∧ r = (some (.int r25), w23)) ∧ (¬ (i3 < r16) → r = (some (.int (-2 : Int32)), w14))) ∧ (¬ (0 ≤ i3) → r = (some (.int (-1 : Int32)), w1)))) : xGo 163 0 [some (.ref a0), some (.int i1), some (.int i2), some (.int i3)] [] w r := by
  refine g_iloadn (pc' := 1) d_163_0 rfl rfl ?_
  refine g_iloadn (pc' := 2) d_163_1 rfl rfl ?_
  obtain ⟨r3, w1, hk2, h⟩ := h
  refine g_callS (pc' := 5) d_163_2 rfl st_163_352 (Or.inl rfl) na_152 ml_152 rfl rfl rfl rm_163_152 rfl rfl hk2 ?_
  refine g_if_eq (pc' := 8) (pt := 12) d_163_5 (by decide) rfl (fun c => ?_) (fun c => ?_)
  · replace h := h.1 c
    refine g_iconst (pc' := 13) d_163_12 rfl ci_m1 ?_
    exact g_iret d_163_13 rt_163 h
  · replace h := h.2 c
    refine g_iloadn (pc' := 9) d_163_8 rfl rfl ?_
    refine g_if_ge (pc' := 12) (pt := 14) d_163_9 (by decide) rfl (fun c => ?_) (fun c => ?_)
    · replace h := h.1 c
      refine g_aloadn (pc' := 15) d_163_14 rfl rfl ?_
      refine g_iloadn (pc' := 16) d_163_15 rfl rfl ?_
      refine g_iloadn (pc' := 17) d_163_16 rfl rfl ?_
      obtain ⟨fs4, hw5, h⟩ := h
      obtain ⟨w6, hk7, h⟩ := h
      refine g_callV (pc' := 20) d_163_17 rfl st_163_362 na_156 ml_156 rfl rfl rfl rm_163_156 rfl rfl ow_156 hw5 hk7 ?_
      refine g_iloadn (pc' := 21) d_163_20 rfl rfl ?_
      refine g_aloadn (pc' := 22) d_163_21 rfl rfl ?_
      obtain ⟨fs8, hw9, h⟩ := h
      obtain ⟨b10, hv11, h⟩ := h
      refine g_getf (pc' := 25) d_163_22 rfl st_163_88 hw9 hv11 ?_
      obtain ⟨fs12, hw13, h⟩ := h
      obtain ⟨r16, w14, hk15, h⟩ := h
      refine g_callV (pc' := 28) d_163_25 rfl st_163_365 na_162 ml_162 rfl rfl rfl rm_163_162 rfl rfl ow_162 hw13 hk15 ?_
      refine g_ic_lt (pc' := 31) (pt := 36) d_163_28 (by decide) rfl (fun c => ?_) (fun c => ?_)
      · replace h := h.1 c
        refine g_aloadn (pc' := 37) d_163_36 rfl rfl ?_
        obtain ⟨fs17, hw18, h⟩ := h
        obtain ⟨b19, hv20, h⟩ := h
        refine g_getf (pc' := 40) d_163_37 rfl st_163_88 hw18 hv20 ?_
        refine g_iloadn (pc' := 41) d_163_40 rfl rfl ?_
        obtain ⟨fs21, hw22, h⟩ := h
        obtain ⟨r25, w23, hk24, h⟩ := h
        refine g_callV (pc' := 44) d_163_41 rfl st_163_366 na_164 ml_164 rfl rfl rfl rm_163_164 rfl rfl ow_164 hw22 hk24 ?_
        exact g_iret d_163_44 rt_163 h
      · replace h := h.2 c
        refine g_bipush (pc' := 33) d_163_31 rfl cb_m2 ?_
        refine g_goto (pt := 44) d_163_33 (by decide) ?_
        exact g_iret d_163_44 rt_163 h
    · replace h := h.2 c
      refine g_iconst (pc' := 13) d_163_12 rfl ci_m1 ?_
      exact g_iret d_163_13 rt_163 h
-- 164 BernoulliWays$Decimal.fromLeft(I)I
theorem S_164_0 {a0 : Nat} {i1 : Int32} {w : xW} {r : Option Value × xW} (h : ∃ fs1, w[a0]? = some (.inr (10, fs1)) ∧ ∃ x3, fs1[1]? = some (.int x3) ∧ ∃ r7 w5, xCall 161 [.ref a0, .int ((x3 - (1 : Int32)) - i1)] w (some (.int r7), w5) ∧ r = (some (.int r7), w5)) : xGo 164 0 [some (.ref a0), some (.int i1)] [] w r := by
  refine g_aloadn (pc' := 1) d_164_0 rfl rfl ?_
  refine g_aloadn (pc' := 2) d_164_1 rfl rfl ?_
  obtain ⟨fs1, hw2, h⟩ := h
  obtain ⟨x3, hv4, h⟩ := h
  refine g_getf (pc' := 5) d_164_2 rfl st_164_13 hw2 hv4 ?_
  refine g_iconst (pc' := 6) d_164_5 rfl ci_1 ?_
  refine g_isub (pc' := 7) d_164_6 rfl ?_
  refine g_iloadn (pc' := 8) d_164_7 rfl rfl ?_
  refine g_isub (pc' := 9) d_164_8 rfl ?_
  obtain ⟨r7, w5, hk6, h⟩ := h
  refine g_callV (pc' := 12) d_164_9 rfl st_164_34 na_161 ml_161 rfl rfl rfl rm_164_161 rfl rfl ow_161 hw2 hk6 ?_
  exact g_iret d_164_12 rt_164 h
-- 165 BernoulliWays.progression(IIII)I
theorem S_165_0 {a0 : Nat} {i1 : Int32} {i2 : Int32} {i3 : Int32} {i4 : Int32} {w : xW} {r : Option Value × xW} (h : ∃ r3 w1, xCall 152 [.int i1, .int i4] w (some (.int r3), w1) ∧ (r3 = 0 → r = (some (.int (-1 : Int32)), w1)) ∧ (¬ (r3 = 0) → (i2 < 0 → r = (some (.int (-1 : Int32)), w1)) ∧ (¬ (i2 < 0) → ((1000 : Int32) < i2 → r = (some (.int (-1 : Int32)), w1)) ∧ (¬ ((1000 : Int32) < i2) → (i3 < (1 : Int32) → r = (some (.int (-1 : Int32)), w1)) ∧ (¬ (i3 < (1 : Int32)) → (i3 ≤ (1000 : Int32) → ∃ fs4, w1[a0]? = some (.inr (0, fs4)) ∧ ∃ x6, fs4[7]? = some (.int x6) ∧ (i1 ≤ x6 → (¬ i4 = 0 → ∃ w8, xCall 153 [.ref a0, .int i1] w1 (none, w8) ∧ ∃ r12 w10, xCall 50 [.long (i2.toInt64), .int i1, .long (1000000007 : Int64)] w8 (some (.long r12), w10) ∧ ∀ v13 : Int64, v13 = (lrem (r12 * (i4.toInt64)) (1000000007 : Int64)) → xGo 165 79 [some (.ref a0), some (.int i1), some (.int i2), some (.int i3), some (.int i4), some (.long v13), none, some (.int (1 : Int32)), none, none] [] w10 r) ∧ (¬ (¬ i4 = 0) → r = (some (.int (0 : Int32)), w1))) ∧ (¬ (i1 ≤ x6) → r = (some (.int (-2 : Int32)), w1))) ∧ (¬ (i3 ≤ (1000 : Int32)) → r = (some (.int (-1 : Int32)), w1))))))) : xGo 165 0 [some (.ref a0), some (.int i1), some (.int i2), some (.int i3), some (.int i4), none, none, none, none, none] [] w r := by
  refine g_iloadn (pc' := 1) d_165_0 rfl rfl ?_
  refine g_iload (pc' := 3) d_165_1 rfl rfl ?_
  obtain ⟨r3, w1, hk2, h⟩ := h
  refine g_callS (pc' := 6) d_165_3 rfl st_165_352 (Or.inl rfl) na_152 ml_152 rfl rfl rfl rm_165_152 rfl rfl hk2 ?_
  refine g_if_eq (pc' := 9) (pt := 32) d_165_6 (by decide) rfl (fun c => ?_) (fun c => ?_)
  · replace h := h.1 c
    refine g_iconst (pc' := 33) d_165_32 rfl ci_m1 ?_
    exact g_iret d_165_33 rt_165 h
  · replace h := h.2 c
    refine g_iloadn (pc' := 10) d_165_9 rfl rfl ?_
    refine g_if_lt (pc' := 13) (pt := 32) d_165_10 (by decide) rfl (fun c => ?_) (fun c => ?_)
    · replace h := h.1 c
      refine g_iconst (pc' := 33) d_165_32 rfl ci_m1 ?_
      exact g_iret d_165_33 rt_165 h
    · replace h := h.2 c
      refine g_iloadn (pc' := 14) d_165_13 rfl rfl ?_
      refine g_sipush (pc' := 17) d_165_14 rfl cs_1000 ?_
      refine g_ic_gt (pc' := 20) (pt := 32) d_165_17 (by decide) rfl (fun c => ?_) (fun c => ?_)
      · replace h := h.1 c
        refine g_iconst (pc' := 33) d_165_32 rfl ci_m1 ?_
        exact g_iret d_165_33 rt_165 h
      · replace h := h.2 c
        refine g_iloadn (pc' := 21) d_165_20 rfl rfl ?_
        refine g_iconst (pc' := 22) d_165_21 rfl ci_1 ?_
        refine g_ic_lt (pc' := 25) (pt := 32) d_165_22 (by decide) rfl (fun c => ?_) (fun c => ?_)
        · replace h := h.1 c
          refine g_iconst (pc' := 33) d_165_32 rfl ci_m1 ?_
          exact g_iret d_165_33 rt_165 h
        · replace h := h.2 c
          refine g_iloadn (pc' := 26) d_165_25 rfl rfl ?_
          refine g_sipush (pc' := 29) d_165_26 rfl cs_1000 ?_
          refine g_ic_le (pc' := 32) (pt := 34) d_165_29 (by decide) rfl (fun c => ?_) (fun c => ?_)
          · replace h := h.1 c
            refine g_iloadn (pc' := 35) d_165_34 rfl rfl ?_
            refine g_aloadn (pc' := 36) d_165_35 rfl rfl ?_
            obtain ⟨fs4, hw5, h⟩ := h
            obtain ⟨x6, hv7, h⟩ := h
            refine g_getf (pc' := 39) d_165_36 rfl st_165_49 hw5 hv7 ?_
            refine g_ic_le (pc' := 42) (pt := 45) d_165_39 (by decide) rfl (fun c => ?_) (fun c => ?_)
            · replace h := h.1 c
              refine g_iload (pc' := 47) d_165_45 rfl rfl ?_
              refine g_if_ne (pc' := 50) (pt := 52) d_165_47 (by decide) rfl (fun c => ?_) (fun c => ?_)
              · replace h := h.1 c
                refine g_aloadn (pc' := 53) d_165_52 rfl rfl ?_
                refine g_iloadn (pc' := 54) d_165_53 rfl rfl ?_
                obtain ⟨w8, hk9, h⟩ := h
                refine g_callV (pc' := 57) d_165_54 rfl st_165_355 na_153 ml_153 rfl rfl rfl rm_165_153 rfl rfl ow_153 hw5 hk9 ?_
                refine g_iloadn (pc' := 58) d_165_57 rfl rfl ?_
                refine g_i2l (pc' := 59) d_165_58 rfl ?_
                refine g_iloadn (pc' := 60) d_165_59 rfl rfl ?_
                refine g_ldc2 (pc' := 63) d_165_60 rfl st_165_369 cL_1000000007 ?_
                obtain ⟨r12, w10, hk11, h⟩ := h
                refine g_callS (pc' := 66) d_165_63 rfl st_165_302 (Or.inl rfl) na_50 ml_50 rfl rfl rfl rm_165_50 rfl rfl hk11 ?_
                refine g_iload (pc' := 68) d_165_66 rfl rfl ?_
                refine g_i2l (pc' := 69) d_165_68 rfl ?_
                refine g_lmul (pc' := 70) d_165_69 rfl ?_
                refine g_ldc2 (pc' := 73) d_165_70 rfl st_165_369 cL_1000000007 ?_
                refine g_lrem (pc' := 74) d_165_73 rfl (by decide) ?_
                have h := h _ rfl
                refine g_lstore (pc' := 76) (l' := [some (.ref a0), some (.int i1), some (.int i2), some (.int i3), some (.int i4), some (.long ((lrem (r12 * (i4.toInt64)) (1000000007 : Int64)))), none, none, none, none]) d_165_74 rfl ml_165 rfl rfl ?_
                refine g_iconst (pc' := 77) d_165_76 rfl ci_1 ?_
                refine g_istore (pc' := 79) (l' := [some (.ref a0), some (.int i1), some (.int i2), some (.int i3), some (.int i4), some (.long ((lrem (r12 * (i4.toInt64)) (1000000007 : Int64)))), none, some (.int (1 : Int32)), none, none]) d_165_77 rfl ml_165 rfl rfl ?_
                exact h
              · replace h := h.2 c
                refine g_iconst (pc' := 51) d_165_50 rfl ci_0 ?_
                exact g_iret d_165_51 rt_165 h
            · replace h := h.2 c
              refine g_bipush (pc' := 44) d_165_42 rfl cb_m2 ?_
              exact g_iret d_165_44 rt_165 h
          · replace h := h.2 c
            refine g_iconst (pc' := 33) d_165_32 rfl ci_m1 ?_
            exact g_iret d_165_33 rt_165 h
theorem S_165_79 {a0 : Nat} {i1 : Int32} {i2 : Int32} {i3 : Int32} {i4 : Int32} {l5 : Int64} {i7 : Int32} {w : xW} {r : Option Value × xW} (h : (i1 < i7 → r = (some (.int (l5.toInt32)), w)) ∧ (¬ (i1 < i7) → ∃ fs1, w[a0]? = some (.inr (0, fs1)) ∧ ∃ b3, fs1[0]? = some (.ref b3) ∧ ∃ fs5, w[b3]? = some (.inr (1, fs5)) ∧ ∃ r9 w7, xCall 39 [.ref b3, .int i1, .int i7] w (some (.long r9), w7) ∧ ∃ r12 w10, xCall 50 [.long (i2.toInt64), .int (i1 - i7), .long (1000000007 : Int64)] w7 (some (.long r12), w10) ∧ ∀ v13 : Int64, v13 = (lrem (r9 * r12) (1000000007 : Int64)) → ∃ r16 w14, xCall 50 [.long (i3.toInt64), .int i7, .long (1000000007 : Int64)] w10 (some (.long r16), w14) ∧ ∀ v17 : Int64, v17 = (lrem (v13 * r16) (1000000007 : Int64)) → ∃ fs18, w14[a0]? = some (.inr (0, fs18)) ∧ ∃ r22 w20, xCall 154 [.ref a0, .int i7, .long ((i4 - (1 : Int32)).toInt64)] w14 (some (.long r22), w20) ∧ ∀ v23 : Int64, v23 = (lrem (l5 + (v17 * r22)) (1000000007 : Int64)) → ∀ v24 : Int32, v24 = i7 + (1 : Int32) → xGo 165 79 [some (.ref a0), some (.int i1), some (.int i2), some (.int i3), some (.int i4), some (.long v23), none, some (.int v24), none, none] [] w20 r)) : xGo 165 79 [some (.ref a0), some (.int i1), some (.int i2), some (.int i3), some (.int i4), some (.long l5), none, some (.int i7), none, none] [] w r := by
  refine g_iload (pc' := 81) d_165_79 rfl rfl ?_
  refine g_iloadn (pc' := 82) d_165_81 rfl rfl ?_
  refine g_ic_gt (pc' := 85) (pt := 162) d_165_82 (by decide) rfl (fun c => ?_) (fun c => ?_)
  · replace h := h.1 c
    refine g_lload (pc' := 164) d_165_162 rfl rfl ?_
    refine g_l2i (pc' := 165) d_165_164 rfl ?_
    exact g_iret d_165_165 rt_165 h
  · replace h := h.2 c
    refine g_aloadn (pc' := 86) d_165_85 rfl rfl ?_
    obtain ⟨fs1, hw2, h⟩ := h
    obtain ⟨b3, hv4, h⟩ := h
    refine g_getf (pc' := 89) d_165_86 rfl st_165_14 hw2 hv4 ?_
    refine g_iloadn (pc' := 90) d_165_89 rfl rfl ?_
    refine g_iload (pc' := 92) d_165_90 rfl rfl ?_
    obtain ⟨fs5, hw6, h⟩ := h
    obtain ⟨r9, w7, hk8, h⟩ := h
    refine g_callV (pc' := 95) d_165_92 rfl st_165_336 na_39 ml_39 rfl rfl rfl rm_165_39 rfl rfl ow_39 hw6 hk8 ?_
    refine g_iloadn (pc' := 96) d_165_95 rfl rfl ?_
    refine g_i2l (pc' := 97) d_165_96 rfl ?_
    refine g_iloadn (pc' := 98) d_165_97 rfl rfl ?_
    refine g_iload (pc' := 100) d_165_98 rfl rfl ?_
    refine g_isub (pc' := 101) d_165_100 rfl ?_
    refine g_ldc2 (pc' := 104) d_165_101 rfl st_165_369 cL_1000000007 ?_
    obtain ⟨r12, w10, hk11, h⟩ := h
    refine g_callS (pc' := 107) d_165_104 rfl st_165_302 (Or.inl rfl) na_50 ml_50 rfl rfl rfl rm_165_50 rfl rfl hk11 ?_
    refine g_lmul (pc' := 108) d_165_107 rfl ?_
    refine g_ldc2 (pc' := 111) d_165_108 rfl st_165_369 cL_1000000007 ?_
    refine g_lrem (pc' := 112) d_165_111 rfl (by decide) ?_
    have h := h _ rfl
    refine g_lstore (pc' := 114) (l' := [some (.ref a0), some (.int i1), some (.int i2), some (.int i3), some (.int i4), some (.long l5), none, some (.int i7), some (.long ((lrem (r9 * r12) (1000000007 : Int64)))), none]) d_165_112 rfl ml_165 rfl rfl ?_
    refine g_lload (pc' := 116) d_165_114 rfl rfl ?_
    refine g_iloadn (pc' := 117) d_165_116 rfl rfl ?_
    refine g_i2l (pc' := 118) d_165_117 rfl ?_
    refine g_iload (pc' := 120) d_165_118 rfl rfl ?_
    refine g_ldc2 (pc' := 123) d_165_120 rfl st_165_369 cL_1000000007 ?_
    obtain ⟨r16, w14, hk15, h⟩ := h
    refine g_callS (pc' := 126) d_165_123 rfl st_165_302 (Or.inl rfl) na_50 ml_50 rfl rfl rfl rm_165_50 rfl rfl hk15 ?_
    refine g_lmul (pc' := 127) d_165_126 rfl ?_
    refine g_ldc2 (pc' := 130) d_165_127 rfl st_165_369 cL_1000000007 ?_
    refine g_lrem (pc' := 131) d_165_130 rfl (by decide) ?_
    have h := h _ rfl
    refine g_lstore (pc' := 133) (l' := [some (.ref a0), some (.int i1), some (.int i2), some (.int i3), some (.int i4), some (.long l5), none, some (.int i7), some (.long ((lrem (((lrem (r9 * r12) (1000000007 : Int64))) * r16) (1000000007 : Int64)))), none]) d_165_131 rfl ml_165 rfl rfl ?_
    refine g_lload (pc' := 135) d_165_133 rfl rfl ?_
    refine g_lload (pc' := 137) d_165_135 rfl rfl ?_
    refine g_aloadn (pc' := 138) d_165_137 rfl rfl ?_
    refine g_iload (pc' := 140) d_165_138 rfl rfl ?_
    refine g_iload (pc' := 142) d_165_140 rfl rfl ?_
    refine g_iconst (pc' := 143) d_165_142 rfl ci_1 ?_
    refine g_isub (pc' := 144) d_165_143 rfl ?_
    refine g_i2l (pc' := 145) d_165_144 rfl ?_
    obtain ⟨fs18, hw19, h⟩ := h
    obtain ⟨r22, w20, hk21, h⟩ := h
    refine g_callV (pc' := 148) d_165_145 rfl st_165_358 na_154 ml_154 rfl rfl rfl rm_165_154 rfl rfl ow_154 hw19 hk21 ?_
    refine g_lmul (pc' := 149) d_165_148 rfl ?_
    refine g_ladd (pc' := 150) d_165_149 rfl ?_
    refine g_ldc2 (pc' := 153) d_165_150 rfl st_165_369 cL_1000000007 ?_
    refine g_lrem (pc' := 154) d_165_153 rfl (by decide) ?_
    have h := h _ rfl
    refine g_lstore (pc' := 156) (l' := [some (.ref a0), some (.int i1), some (.int i2), some (.int i3), some (.int i4), some (.long ((lrem (l5 + (((lrem (((lrem (r9 * r12) (1000000007 : Int64))) * r16) (1000000007 : Int64))) * r22)) (1000000007 : Int64)))), none, some (.int i7), some (.long ((lrem (((lrem (r9 * r12) (1000000007 : Int64))) * r16) (1000000007 : Int64)))), none]) d_165_154 rfl ml_165 rfl rfl ?_
    have h := h _ rfl
    refine g_iinc (pc' := 159) (l' := [some (.ref a0), some (.int i1), some (.int i2), some (.int i3), some (.int i4), some (.long ((lrem (l5 + (((lrem (((lrem (r9 * r12) (1000000007 : Int64))) * r16) (1000000007 : Int64))) * r22)) (1000000007 : Int64)))), none, some (.int (i7 + (1 : Int32))), some (.long ((lrem (((lrem (r9 * r12) (1000000007 : Int64))) * r16) (1000000007 : Int64)))), none]) d_165_156 rfl rfl ci_1 ml_165 rfl rfl ?_
    refine g_goto (pt := 79) d_165_159 (by decide) ?_
    exact xGo.more (xle_s (xle_s (xle_s (xle_s (xle_s (xle_s (xle_n (xle_s (xle_n (xle_n xle_0)))))))))) h
