/-! segments of methods, laid by wip/whole/wp.py -/
-- 203 BernoulliWaysModel.relay(II)I
theorem S_203_0 {a0 : Nat} {i1 : Int32} {i2 : Int32} {w : xW} {r : Option Value × xW} (h : ∃ fs1, w[a0]? = some (.inr (12, fs1)) ∧ (0 < fs1.length) ∧ ∀ w4, w4 = w.set a0 (.inr (12, fs1.set 0 (.int (0 : Int32)))) → ∃ r7 w5, xCall 198 [.ref a0, .int i1] w4 (some (.int r7), w5) ∧ (r7 = 0 → r = (some (.int (-1 : Int32)), w5)) ∧ (¬ (r7 = 0) → ∃ r10 w8, xCall 199 [.int i2, .int (0 : Int32), .int (2 : Int32)] w5 (some (.int r10), w8) ∧ (¬ r10 = 0 → ∃ fs11, w8[a0]? = some (.inr (12, fs11)) ∧ ∃ x13, fs11[4]? = some (.int x13) ∧ (i1 ≤ x13 → (¬ i2 = 0 → ∃ r17 w15, xCall 201 [.ref a0, .int i1] w8 (some (.int r17), w15) ∧ (r17 = 0 → ∃ fs18, w15[a0]? = some (.inr (12, fs18)) ∧ ∃ w20, xCall 202 [.ref a0, .int i1, .int i2] w15 (none, w20) ∧ r = (some (.int (1 : Int32)), w20)) ∧ (¬ (r17 = 0) → ∃ fs22, w15[a0]? = some (.inr (12, fs22)) ∧ ∃ w24, xCall 202 [.ref a0, .int i1, .int i2] w15 (none, w24) ∧ r = (some (.int (0 : Int32)), w24))) ∧ (¬ (¬ i2 = 0) → ∃ r28 w26, xCall 200 [.ref a0, .int (i1 - (1 : Int32))] w8 (some (.int r28), w26) ∧ (¬ r28 = 0 → ∃ fs29, w26[a0]? = some (.inr (12, fs29)) ∧ ∃ r33 w31, xCall 201 [.ref a0, .int i1] w26 (some (.int r33), w31) ∧ (r33 = 0 → ∃ fs34, w31[a0]? = some (.inr (12, fs34)) ∧ ∃ w36, xCall 202 [.ref a0, .int i1, .int i2] w31 (none, w36) ∧ r = (some (.int (1 : Int32)), w36)) ∧ (¬ (r33 = 0) → ∃ fs38, w31[a0]? = some (.inr (12, fs38)) ∧ ∃ w40, xCall 202 [.ref a0, .int i1, .int i2] w31 (none, w40) ∧ r = (some (.int (0 : Int32)), w40))) ∧ (¬ (¬ r28 = 0) → r = (some (.int (-3 : Int32)), w26)))) ∧ (¬ (i1 ≤ x13) → r = (some (.int (-2 : Int32)), w8))) ∧ (¬ (¬ r10 = 0) → r = (some (.int (-1 : Int32)), w8)))) : xGo 203 0 [some (.ref a0), some (.int i1), some (.int i2), none] [] w r := by
  refine g_aloadn (pc' := 1) d_203_0 rfl rfl ?_
  refine g_iconst (pc' := 2) d_203_1 rfl ci_0 ?_
  obtain ⟨fs1, hw2, h⟩ := h
  obtain ⟨hc3, h⟩ := h
  have h := h _ rfl
  refine g_putf (pc' := 5) d_203_2 rfl st_203_118 ft_12_0 ff_12_0 rfl (Or.inl rfl) hw2 hc3 ?_
  refine g_aloadn (pc' := 6) d_203_5 rfl rfl ?_
  refine g_iloadn (pc' := 7) d_203_6 rfl rfl ?_
  obtain ⟨r7, w5, hk6, h⟩ := h
  refine g_callV (pc' := 10) d_203_7 rfl st_203_145 na_198 ml_198 rfl rfl rfl rm_203_198 rfl rfl ow_198 (x_gss hw2) hk6 ?_
  refine g_if_eq (pc' := 13) (pt := 22) d_203_10 (by decide) rfl (fun c => ?_) (fun c => ?_)
  · replace h := h.1 c
    refine g_iconst (pc' := 23) d_203_22 rfl ci_m1 ?_
    exact g_iret d_203_23 rt_203 h
  · replace h := h.2 c
    refine g_iloadn (pc' := 14) d_203_13 rfl rfl ?_
    refine g_iconst (pc' := 15) d_203_14 rfl ci_0 ?_
    refine g_iconst (pc' := 16) d_203_15 rfl ci_2 ?_
    obtain ⟨r10, w8, hk9, h⟩ := h
    refine g_callS (pc' := 19) d_203_16 rfl st_203_137 (Or.inl rfl) na_199 ml_199 rfl rfl rfl rm_203_199 rfl rfl hk9 ?_
    refine g_if_ne (pc' := 22) (pt := 24) d_203_19 (by decide) rfl (fun c => ?_) (fun c => ?_)
    · replace h := h.1 c
      refine g_iloadn (pc' := 25) d_203_24 rfl rfl ?_
      refine g_aloadn (pc' := 26) d_203_25 rfl rfl ?_
      obtain ⟨fs11, hw12, h⟩ := h
      obtain ⟨x13, hv14, h⟩ := h
      refine g_getf (pc' := 29) d_203_26 rfl st_203_20 hw12 hv14 ?_
      refine g_ic_le (pc' := 32) (pt := 35) d_203_29 (by decide) rfl (fun c => ?_) (fun c => ?_)
      · replace h := h.1 c
        refine g_iloadn (pc' := 36) d_203_35 rfl rfl ?_
        refine g_if_ne (pc' := 39) (pt := 52) d_203_36 (by decide) rfl (fun c => ?_) (fun c => ?_)
        · replace h := h.1 c
          refine g_aloadn (pc' := 53) d_203_52 rfl rfl ?_
          refine g_iloadn (pc' := 54) d_203_53 rfl rfl ?_
          obtain ⟨r17, w15, hk16, h⟩ := h
          refine g_callV (pc' := 57) d_203_54 rfl st_203_141 na_201 ml_201 rfl rfl rfl rm_203_201 rfl rfl ow_201 hw12 hk16 ?_
          refine g_if_eq (pc' := 60) (pt := 64) d_203_57 (by decide) rfl (fun c => ?_) (fun c => ?_)
          · replace h := h.1 c
            refine g_iconst (pc' := 65) d_203_64 rfl ci_1 ?_
            refine g_istoren (pc' := 66) (l' := [some (.ref a0), some (.int i1), some (.int i2), some (.int (1 : Int32))]) d_203_65 rfl ml_203 rfl rfl ?_
            refine g_aloadn (pc' := 67) d_203_66 rfl rfl ?_
            refine g_iloadn (pc' := 68) d_203_67 rfl rfl ?_
            refine g_iloadn (pc' := 69) d_203_68 rfl rfl ?_
            obtain ⟨fs18, hw19, h⟩ := h
            obtain ⟨w20, hk21, h⟩ := h
            refine g_callV (pc' := 72) d_203_69 rfl st_203_151 na_202 ml_202 rfl rfl rfl rm_203_202 rfl rfl ow_202 hw19 hk21 ?_
            refine g_iloadn (pc' := 73) d_203_72 rfl rfl ?_
            exact g_iret d_203_73 rt_203 h
          · replace h := h.2 c
            refine g_iconst (pc' := 61) d_203_60 rfl ci_0 ?_
            refine g_goto (pt := 65) d_203_61 (by decide) ?_
            refine g_istoren (pc' := 66) (l' := [some (.ref a0), some (.int i1), some (.int i2), some (.int (0 : Int32))]) d_203_65 rfl ml_203 rfl rfl ?_
            refine g_aloadn (pc' := 67) d_203_66 rfl rfl ?_
            refine g_iloadn (pc' := 68) d_203_67 rfl rfl ?_
            refine g_iloadn (pc' := 69) d_203_68 rfl rfl ?_
            obtain ⟨fs22, hw23, h⟩ := h
            obtain ⟨w24, hk25, h⟩ := h
            refine g_callV (pc' := 72) d_203_69 rfl st_203_151 na_202 ml_202 rfl rfl rfl rm_203_202 rfl rfl ow_202 hw23 hk25 ?_
            refine g_iloadn (pc' := 73) d_203_72 rfl rfl ?_
            exact g_iret d_203_73 rt_203 h
        · replace h := h.2 c
          refine g_aloadn (pc' := 40) d_203_39 rfl rfl ?_
          refine g_iloadn (pc' := 41) d_203_40 rfl rfl ?_
          refine g_iconst (pc' := 42) d_203_41 rfl ci_1 ?_
          refine g_isub (pc' := 43) d_203_42 rfl ?_
          obtain ⟨r28, w26, hk27, h⟩ := h
          refine g_callV (pc' := 46) d_203_43 rfl st_203_148 na_200 ml_200 rfl rfl rfl rm_203_200 rfl rfl ow_200 hw12 hk27 ?_
          refine g_if_ne (pc' := 49) (pt := 52) d_203_46 (by decide) rfl (fun c => ?_) (fun c => ?_)
          · replace h := h.1 c
            refine g_aloadn (pc' := 53) d_203_52 rfl rfl ?_
            refine g_iloadn (pc' := 54) d_203_53 rfl rfl ?_
            obtain ⟨fs29, hw30, h⟩ := h
            obtain ⟨r33, w31, hk32, h⟩ := h
            refine g_callV (pc' := 57) d_203_54 rfl st_203_141 na_201 ml_201 rfl rfl rfl rm_203_201 rfl rfl ow_201 hw30 hk32 ?_
            refine g_if_eq (pc' := 60) (pt := 64) d_203_57 (by decide) rfl (fun c => ?_) (fun c => ?_)
            · replace h := h.1 c
              refine g_iconst (pc' := 65) d_203_64 rfl ci_1 ?_
              refine g_istoren (pc' := 66) (l' := [some (.ref a0), some (.int i1), some (.int i2), some (.int (1 : Int32))]) d_203_65 rfl ml_203 rfl rfl ?_
              refine g_aloadn (pc' := 67) d_203_66 rfl rfl ?_
              refine g_iloadn (pc' := 68) d_203_67 rfl rfl ?_
              refine g_iloadn (pc' := 69) d_203_68 rfl rfl ?_
              obtain ⟨fs34, hw35, h⟩ := h
              obtain ⟨w36, hk37, h⟩ := h
              refine g_callV (pc' := 72) d_203_69 rfl st_203_151 na_202 ml_202 rfl rfl rfl rm_203_202 rfl rfl ow_202 hw35 hk37 ?_
              refine g_iloadn (pc' := 73) d_203_72 rfl rfl ?_
              exact g_iret d_203_73 rt_203 h
            · replace h := h.2 c
              refine g_iconst (pc' := 61) d_203_60 rfl ci_0 ?_
              refine g_goto (pt := 65) d_203_61 (by decide) ?_
              refine g_istoren (pc' := 66) (l' := [some (.ref a0), some (.int i1), some (.int i2), some (.int (0 : Int32))]) d_203_65 rfl ml_203 rfl rfl ?_
              refine g_aloadn (pc' := 67) d_203_66 rfl rfl ?_
              refine g_iloadn (pc' := 68) d_203_67 rfl rfl ?_
              refine g_iloadn (pc' := 69) d_203_68 rfl rfl ?_
              obtain ⟨fs38, hw39, h⟩ := h
              obtain ⟨w40, hk41, h⟩ := h
              refine g_callV (pc' := 72) d_203_69 rfl st_203_151 na_202 ml_202 rfl rfl rfl rm_203_202 rfl rfl ow_202 hw39 hk41 ?_
              refine g_iloadn (pc' := 73) d_203_72 rfl rfl ?_
              exact g_iret d_203_73 rt_203 h
          · replace h := h.2 c
            refine g_bipush (pc' := 51) d_203_49 rfl cb_m3 ?_
            exact g_iret d_203_51 rt_203 h
      · replace h := h.2 c
        refine g_bipush (pc' := 34) d_203_32 rfl cb_m2 ?_
        exact g_iret d_203_34 rt_203 h
    · replace h := h.2 c
      refine g_iconst (pc' := 23) d_203_22 rfl ci_m1 ?_
      exact g_iret d_203_23 rt_203 h
-- 204 BernoulliWaysModel.spoil(II)I
theorem S_204_0 {a0 : Nat} {i1 : Int32} {i2 : Int32} {w : xW} {r : Option Value × xW} (h : ∃ fs1, w[a0]? = some (.inr (12, fs1)) ∧ (0 < fs1.length) ∧ ∀ w4, w4 = w.set a0 (.inr (12, fs1.set 0 (.int (0 : Int32)))) → ∃ r7 w5, xCall 198 [.ref a0, .int i1] w4 (some (.int r7), w5) ∧ (r7 = 0 → r = (some (.int (-1 : Int32)), w5)) ∧ (¬ (r7 = 0) → ∃ r10 w8, xCall 199 [.int i2, .int (-9 : Int32), .int (9 : Int32)] w5 (some (.int r10), w8) ∧ (r10 = 0 → r = (some (.int (-1 : Int32)), w8)) ∧ (¬ (r10 = 0) → (¬ i2 = 0 → ∃ fs11, w8[a0]? = some (.inr (12, fs11)) ∧ ∃ x13, fs11[4]? = some (.int x13) ∧ (i1 ≤ x13 → ∃ w15, xCall 205 [.ref a0, .int i1, .int i2] w8 (none, w15) ∧ ∃ fs17, w15[a0]? = some (.inr (12, fs17)) ∧ ∃ b19, fs17[3]? = some (.ref b19) ∧ ∃ n21 f22, w15[b19]? = some (.inl (.inl (n21, f22))) ∧ (¬ (i1 < 0 ∨ n21 ≤ i1.toNatClampNeg)) ∧ ∀ w25, w25 = w15.set b19 (.inl (.inl (n21, (upd f22 i1.toNatClampNeg (3 : Int32))))) → ∃ fs26, w25[a0]? = some (.inr (12, fs26)) ∧ ∃ r30 w28, xCall 206 [.ref a0, .int i1] w25 (some (.int r30), w28) ∧ r = (some (.int r30), w28)) ∧ (¬ (i1 ≤ x13) → r = (some (.int (-2 : Int32)), w8))) ∧ (¬ (¬ i2 = 0) → r = (some (.int (-1 : Int32)), w8))))) : xGo 204 0 [some (.ref a0), some (.int i1), some (.int i2)] [] w r := by
  refine g_aloadn (pc' := 1) d_204_0 rfl rfl ?_
  refine g_iconst (pc' := 2) d_204_1 rfl ci_0 ?_
  obtain ⟨fs1, hw2, h⟩ := h
  obtain ⟨hc3, h⟩ := h
  have h := h _ rfl
  refine g_putf (pc' := 5) d_204_2 rfl st_204_118 ft_12_0 ff_12_0 rfl (Or.inl rfl) hw2 hc3 ?_
  refine g_aloadn (pc' := 6) d_204_5 rfl rfl ?_
  refine g_iloadn (pc' := 7) d_204_6 rfl rfl ?_
  obtain ⟨r7, w5, hk6, h⟩ := h
  refine g_callV (pc' := 10) d_204_7 rfl st_204_145 na_198 ml_198 rfl rfl rfl rm_204_198 rfl rfl ow_198 (x_gss hw2) hk6 ?_
  refine g_if_eq (pc' := 13) (pt := 28) d_204_10 (by decide) rfl (fun c => ?_) (fun c => ?_)
  · replace h := h.1 c
    refine g_iconst (pc' := 29) d_204_28 rfl ci_m1 ?_
    exact g_iret d_204_29 rt_204 h
  · replace h := h.2 c
    refine g_iloadn (pc' := 14) d_204_13 rfl rfl ?_
    refine g_bipush (pc' := 16) d_204_14 rfl cb_m9 ?_
    refine g_bipush (pc' := 18) d_204_16 rfl cb_9 ?_
    obtain ⟨r10, w8, hk9, h⟩ := h
    refine g_callS (pc' := 21) d_204_18 rfl st_204_137 (Or.inl rfl) na_199 ml_199 rfl rfl rfl rm_204_199 rfl rfl hk9 ?_
    refine g_if_eq (pc' := 24) (pt := 28) d_204_21 (by decide) rfl (fun c => ?_) (fun c => ?_)
    · replace h := h.1 c
      refine g_iconst (pc' := 29) d_204_28 rfl ci_m1 ?_
      exact g_iret d_204_29 rt_204 h
    · replace h := h.2 c
      refine g_iloadn (pc' := 25) d_204_24 rfl rfl ?_
      refine g_if_ne (pc' := 28) (pt := 30) d_204_25 (by decide) rfl (fun c => ?_) (fun c => ?_)
      · replace h := h.1 c
        refine g_iloadn (pc' := 31) d_204_30 rfl rfl ?_
        refine g_aloadn (pc' := 32) d_204_31 rfl rfl ?_
        obtain ⟨fs11, hw12, h⟩ := h
        obtain ⟨x13, hv14, h⟩ := h
        refine g_getf (pc' := 35) d_204_32 rfl st_204_20 hw12 hv14 ?_
        refine g_ic_le (pc' := 38) (pt := 41) d_204_35 (by decide) rfl (fun c => ?_) (fun c => ?_)
        · replace h := h.1 c
          refine g_aloadn (pc' := 42) d_204_41 rfl rfl ?_
          refine g_iloadn (pc' := 43) d_204_42 rfl rfl ?_
          refine g_iloadn (pc' := 44) d_204_43 rfl rfl ?_
          obtain ⟨w15, hk16, h⟩ := h
          refine g_callV (pc' := 47) d_204_44 rfl st_204_155 na_205 ml_205 rfl rfl rfl rm_204_205 rfl rfl ow_205 hw12 hk16 ?_
          refine g_aloadn (pc' := 48) d_204_47 rfl rfl ?_
          obtain ⟨fs17, hw18, h⟩ := h
          obtain ⟨b19, hv20, h⟩ := h
          refine g_getf (pc' := 51) d_204_48 rfl st_204_16 hw18 hv20 ?_
          refine g_iloadn (pc' := 52) d_204_51 rfl rfl ?_
          refine g_iconst (pc' := 53) d_204_52 rfl ci_3 ?_
          obtain ⟨n21, f22, hw23, h⟩ := h
          obtain ⟨hc24, h⟩ := h
          have h := h _ rfl
          refine g_iast (pc' := 54) d_204_53 rfl hw23 hc24 ?_
          refine g_aloadn (pc' := 55) d_204_54 rfl rfl ?_
          refine g_iloadn (pc' := 56) d_204_55 rfl rfl ?_
          obtain ⟨fs26, hw27, h⟩ := h
          obtain ⟨r30, w28, hk29, h⟩ := h
          refine g_callV (pc' := 59) d_204_56 rfl st_204_158 na_206 ml_206 rfl rfl rfl rm_204_206 rfl rfl ow_206 hw27 hk29 ?_
          exact g_iret d_204_59 rt_204 h
        · replace h := h.2 c
          refine g_bipush (pc' := 40) d_204_38 rfl cb_m2 ?_
          exact g_iret d_204_40 rt_204 h
      · replace h := h.2 c
        refine g_iconst (pc' := 29) d_204_28 rfl ci_m1 ?_
        exact g_iret d_204_29 rt_204 h
-- 205 BernoulliWaysModel.spoils(II)V
theorem S_205_0 {a0 : Nat} {i1 : Int32} {i2 : Int32} {w : xW} {r : Option Value × xW} (h : ∃ fs1, w[a0]? = some (.inr (12, fs1)) ∧ ∃ b3, fs1[2]? = some (.ref b3) ∧ ∃ n5 f6, w[b3]? = some (.inl (.inr (n5, f6))) ∧ (¬ ((((3 : Int32) * i1) + (1 : Int32)) < 0 ∨ n5 ≤ (((3 : Int32) * i1) + (1 : Int32)).toNatClampNeg)) ∧ ∀ v9 : Int64, v9 = ((f6 (((3 : Int32) * i1) + (1 : Int32)).toNatClampNeg) + (i2.toInt64)) → (¬ ((((3 : Int32) * i1) + (2 : Int32)) < 0 ∨ n5 ≤ (((3 : Int32) * i1) + (2 : Int32)).toNatClampNeg)) ∧ ∀ v11 : Int64, v11 = (f6 (((3 : Int32) * i1) + (2 : Int32)).toNatClampNeg) → ∃ r14 w12, xCall 193 [.long v9, .long v11] w (some (.long r14), w12) ∧ ∃ fs15, w12[a0]? = some (.inr (12, fs15)) ∧ ∃ b17, fs15[2]? = some (.ref b17) ∧ ∃ n19 f20, w12[b17]? = some (.inl (.inr (n19, f20))) ∧ (¬ (((3 : Int32) * i1) < 0 ∨ n19 ≤ ((3 : Int32) * i1).toNatClampNeg)) ∧ ∃ w23, xCall 194 [.ref a0, .ref b17, .int i1, .long ((f20 ((3 : Int32) * i1).toNatClampNeg) + r14), .long (v9 - (r14 * v11)), .long v11] w12 (none, w23) ∧ r = (none, w23)) : xGo 205 0 [some (.ref a0), some (.int i1), some (.int i2), none, none, none, none, none, none] [] w r := by
  refine g_aloadn (pc' := 1) d_205_0 rfl rfl ?_
  obtain ⟨fs1, hw2, h⟩ := h
  obtain ⟨b3, hv4, h⟩ := h
  refine g_getf (pc' := 4) d_205_1 rfl st_205_13 hw2 hv4 ?_
  refine g_iconst (pc' := 5) d_205_4 rfl ci_3 ?_
  refine g_iloadn (pc' := 6) d_205_5 rfl rfl ?_
  refine g_imul (pc' := 7) d_205_6 rfl ?_
  refine g_iconst (pc' := 8) d_205_7 rfl ci_1 ?_
  refine g_iadd (pc' := 9) d_205_8 rfl ?_
  obtain ⟨n5, f6, hw7, h⟩ := h
  obtain ⟨hc8, h⟩ := h
  refine g_lald (pc' := 10) d_205_9 rfl hw7 hc8 ?_
  refine g_iloadn (pc' := 11) d_205_10 rfl rfl ?_
  refine g_i2l (pc' := 12) d_205_11 rfl ?_
  refine g_ladd (pc' := 13) d_205_12 rfl ?_
  have h := h _ rfl
  refine g_lstoren (pc' := 14) (l' := [some (.ref a0), some (.int i1), some (.int i2), some (.long (((f6 (((3 : Int32) * i1) + (1 : Int32)).toNatClampNeg) + (i2.toInt64)))), none, none, none, none, none]) d_205_13 rfl ml_205 rfl rfl ?_
  refine g_aloadn (pc' := 15) d_205_14 rfl rfl ?_
  refine g_getf (pc' := 18) d_205_15 rfl st_205_13 hw2 hv4 ?_
  refine g_iconst (pc' := 19) d_205_18 rfl ci_3 ?_
  refine g_iloadn (pc' := 20) d_205_19 rfl rfl ?_
  refine g_imul (pc' := 21) d_205_20 rfl ?_
  refine g_iconst (pc' := 22) d_205_21 rfl ci_2 ?_
  refine g_iadd (pc' := 23) d_205_22 rfl ?_
  obtain ⟨hc10, h⟩ := h
  refine g_lald (pc' := 24) d_205_23 rfl hw7 hc10 ?_
  have h := h _ rfl
  refine g_lstore (pc' := 26) (l' := [some (.ref a0), some (.int i1), some (.int i2), some (.long (((f6 (((3 : Int32) * i1) + (1 : Int32)).toNatClampNeg) + (i2.toInt64)))), none, some (.long ((f6 (((3 : Int32) * i1) + (2 : Int32)).toNatClampNeg))), none, none, none]) d_205_24 rfl ml_205 rfl rfl ?_
  refine g_lloadn (pc' := 27) d_205_26 rfl rfl ?_
  refine g_lload (pc' := 29) d_205_27 rfl rfl ?_
  obtain ⟨r14, w12, hk13, h⟩ := h
  refine g_callS (pc' := 32) d_205_29 rfl st_205_131 (Or.inl rfl) na_193 ml_193 rfl rfl rfl rm_205_193 rfl rfl hk13 ?_
  refine g_lstore (pc' := 34) (l' := [some (.ref a0), some (.int i1), some (.int i2), some (.long (((f6 (((3 : Int32) * i1) + (1 : Int32)).toNatClampNeg) + (i2.toInt64)))), none, some (.long ((f6 (((3 : Int32) * i1) + (2 : Int32)).toNatClampNeg))), none, some (.long r14), none]) d_205_32 rfl ml_205 rfl rfl ?_
  refine g_aloadn (pc' := 35) d_205_34 rfl rfl ?_
  refine g_aloadn (pc' := 36) d_205_35 rfl rfl ?_
  obtain ⟨fs15, hw16, h⟩ := h
  obtain ⟨b17, hv18, h⟩ := h
  refine g_getf (pc' := 39) d_205_36 rfl st_205_13 hw16 hv18 ?_
  refine g_iloadn (pc' := 40) d_205_39 rfl rfl ?_
  refine g_aloadn (pc' := 41) d_205_40 rfl rfl ?_
  refine g_getf (pc' := 44) d_205_41 rfl st_205_13 hw16 hv18 ?_
  refine g_iconst (pc' := 45) d_205_44 rfl ci_3 ?_
  refine g_iloadn (pc' := 46) d_205_45 rfl rfl ?_
  refine g_imul (pc' := 47) d_205_46 rfl ?_
  obtain ⟨n19, f20, hw21, h⟩ := h
  obtain ⟨hc22, h⟩ := h
  refine g_lald (pc' := 48) d_205_47 rfl hw21 hc22 ?_
  refine g_lload (pc' := 50) d_205_48 rfl rfl ?_
  refine g_ladd (pc' := 51) d_205_50 rfl ?_
  refine g_lloadn (pc' := 52) d_205_51 rfl rfl ?_
  refine g_lload (pc' := 54) d_205_52 rfl rfl ?_
  refine g_lload (pc' := 56) d_205_54 rfl rfl ?_
  refine g_lmul (pc' := 57) d_205_56 rfl ?_
  refine g_lsub (pc' := 58) d_205_57 rfl ?_
  refine g_lload (pc' := 60) d_205_58 rfl rfl ?_
  obtain ⟨w23, hk24, h⟩ := h
  refine g_callV (pc' := 63) d_205_60 rfl st_205_134 na_194 ml_194 rfl rfl rfl rm_205_194 rfl rfl ow_194 hw16 hk24 ?_
  exact g_vret d_205_63 rt_205 h
-- 206 BernoulliWaysModel.testsOf(I)I
theorem S_206_0 {a0 : Nat} {i1 : Int32} {w : xW} {r : Option Value × xW} (h : ∃ fs1, w[a0]? = some (.inr (12, fs1)) ∧ ∃ r5 w3, xCall 207 [.ref a0, .int i1] w (some (.int r5), w3) ∧ (r5 = 0 → ∃ fs6, w3[a0]? = some (.inr (12, fs6)) ∧ ∃ b8, fs6[2]? = some (.ref b8) ∧ ∃ n10 f11, w3[b8]? = some (.inl (.inr (n10, f11))) ∧ (¬ ((((3 : Int32) * i1) + (2 : Int32)) < 0 ∨ n10 ≤ (((3 : Int32) * i1) + (2 : Int32)).toNatClampNeg)) ∧ ∃ r16 w14, xCall 208 [.ref a0, .int i1] w3 (some (.long r16), w14) ∧ ((f11 (((3 : Int32) * i1) + (2 : Int32)).toNatClampNeg) = r16 → ∃ fs17, w14[a0]? = some (.inr (12, fs17)) ∧ ∃ r21 w19, xCall 209 [.ref a0, .int i1] w14 (some (.int r21), w19) ∧ ∃ r24 w22, xCall 210 [.int i1] w19 (some (.int r24), w22) ∧ (r21 = r24 → ∃ fs25, w22[a0]? = some (.inr (12, fs25)) ∧ ∃ r29 w27, xCall 211 [.ref a0, .int i1] w22 (some (.int r29), w27) ∧ (r29 = 0 → xGo 206 70 [some (.ref a0), some (.int i1)] [.int (0 : Int32), .int (((0 : Int32) + (0 : Int32)) + (0 : Int32))] w27 r) ∧ (¬ (r29 = 0) → xGo 206 70 [some (.ref a0), some (.int i1)] [.int (4 : Int32), .int (((0 : Int32) + (0 : Int32)) + (0 : Int32))] w27 r)) ∧ (¬ (r21 = r24) → ∃ fs30, w22[a0]? = some (.inr (12, fs30)) ∧ ∃ r34 w32, xCall 211 [.ref a0, .int i1] w22 (some (.int r34), w32) ∧ (r34 = 0 → xGo 206 70 [some (.ref a0), some (.int i1)] [.int (0 : Int32), .int (((0 : Int32) + (0 : Int32)) + (2 : Int32))] w32 r) ∧ (¬ (r34 = 0) → xGo 206 70 [some (.ref a0), some (.int i1)] [.int (4 : Int32), .int (((0 : Int32) + (0 : Int32)) + (2 : Int32))] w32 r))) ∧ (¬ ((f11 (((3 : Int32) * i1) + (2 : Int32)).toNatClampNeg) = r16) → ∃ fs35, w14[a0]? = some (.inr (12, fs35)) ∧ ∃ r39 w37, xCall 209 [.ref a0, .int i1] w14 (some (.int r39), w37) ∧ ∃ r42 w40, xCall 210 [.int i1] w37 (some (.int r42), w40) ∧ (r39 = r42 → ∃ fs43, w40[a0]? = some (.inr (12, fs43)) ∧ ∃ r47 w45, xCall 211 [.ref a0, .int i1] w40 (some (.int r47), w45) ∧ (r47 = 0 → xGo 206 70 [some (.ref a0), some (.int i1)] [.int (0 : Int32), .int (((0 : Int32) + (1 : Int32)) + (0 : Int32))] w45 r) ∧ (¬ (r47 = 0) → xGo 206 70 [some (.ref a0), some (.int i1)] [.int (4 : Int32), .int (((0 : Int32) + (1 : Int32)) + (0 : Int32))] w45 r)) ∧ (¬ (r39 = r42) → ∃ fs48, w40[a0]? = some (.inr (12, fs48)) ∧ ∃ r52 w50, xCall 211 [.ref a0, .int i1] w40 (some (.int r52), w50) ∧ (r52 = 0 → xGo 206 70 [some (.ref a0), some (.int i1)] [.int (0 : Int32), .int (((0 : Int32) + (1 : Int32)) + (2 : Int32))] w50 r) ∧ (¬ (r52 = 0) → xGo 206 70 [some (.ref a0), some (.int i1)] [.int (4 : Int32), .int (((0 : Int32) + (1 : Int32)) + (2 : Int32))] w50 r)))) ∧ (¬ (r5 = 0) → ∃ fs53, w3[a0]? = some (.inr (12, fs53)) ∧ ∃ b55, fs53[2]? = some (.ref b55) ∧ ∃ n57 f58, w3[b55]? = some (.inl (.inr (n57, f58))) ∧ (¬ ((((3 : Int32) * i1) + (2 : Int32)) < 0 ∨ n57 ≤ (((3 : Int32) * i1) + (2 : Int32)).toNatClampNeg)) ∧ ∃ r63 w61, xCall 208 [.ref a0, .int i1] w3 (some (.long r63), w61) ∧ ((f58 (((3 : Int32) * i1) + (2 : Int32)).toNatClampNeg) = r63 → ∃ fs64, w61[a0]? = some (.inr (12, fs64)) ∧ ∃ r68 w66, xCall 209 [.ref a0, .int i1] w61 (some (.int r68), w66) ∧ ∃ r71 w69, xCall 210 [.int i1] w66 (some (.int r71), w69) ∧ (r68 = r71 → ∃ fs72, w69[a0]? = some (.inr (12, fs72)) ∧ ∃ r76 w74, xCall 211 [.ref a0, .int i1] w69 (some (.int r76), w74) ∧ (r76 = 0 → xGo 206 70 [some (.ref a0), some (.int i1)] [.int (0 : Int32), .int (((32 : Int32) + (0 : Int32)) + (0 : Int32))] w74 r) ∧ (¬ (r76 = 0) → xGo 206 70 [some (.ref a0), some (.int i1)] [.int (4 : Int32), .int (((32 : Int32) + (0 : Int32)) + (0 : Int32))] w74 r)) ∧ (¬ (r68 = r71) → ∃ fs77, w69[a0]? = some (.inr (12, fs77)) ∧ ∃ r81 w79, xCall 211 [.ref a0, .int i1] w69 (some (.int r81), w79) ∧ (r81 = 0 → xGo 206 70 [some (.ref a0), some (.int i1)] [.int (0 : Int32), .int (((32 : Int32) + (0 : Int32)) + (2 : Int32))] w79 r) ∧ (¬ (r81 = 0) → xGo 206 70 [some (.ref a0), some (.int i1)] [.int (4 : Int32), .int (((32 : Int32) + (0 : Int32)) + (2 : Int32))] w79 r))) ∧ (¬ ((f58 (((3 : Int32) * i1) + (2 : Int32)).toNatClampNeg) = r63) → ∃ fs82, w61[a0]? = some (.inr (12, fs82)) ∧ ∃ r86 w84, xCall 209 [.ref a0, .int i1] w61 (some (.int r86), w84) ∧ ∃ r89 w87, xCall 210 [.int i1] w84 (some (.int r89), w87) ∧ (r86 = r89 → ∃ fs90, w87[a0]? = some (.inr (12, fs90)) ∧ ∃ r94 w92, xCall 211 [.ref a0, .int i1] w87 (some (.int r94), w92) ∧ (r94 = 0 → xGo 206 70 [some (.ref a0), some (.int i1)] [.int (0 : Int32), .int (((32 : Int32) + (1 : Int32)) + (0 : Int32))] w92 r) ∧ (¬ (r94 = 0) → xGo 206 70 [some (.ref a0), some (.int i1)] [.int (4 : Int32), .int (((32 : Int32) + (1 : Int32)) + (0 : Int32))] w92 r)) ∧ (¬ (r86 = r89) → ∃ fs95, w87[a0]? = some (.inr (12, fs95)) ∧ ∃ r99 w97, xCall 211 [.ref a0, .int i1] w87 (some (.int r99), w97) ∧ (r99 = 0 → xGo 206 70 [some (.ref a0), some (.int i1)] [.int (0 : Int32), .int (((32 : Int32) + (1 : Int32)) + (2 : Int32))] w97 r) ∧ (¬ (r99 = 0) → xGo 206 70 [some (.ref a0), some (.int i1)] [.int (4 : Int32), .int (((32 : Int32) + (1 : Int32)) + (2 : Int32))] w97 r))))) : xGo 206 0 [some (.ref a0), some (.int i1)] [] w r := by
  refine g_aloadn (pc' := 1) d_206_0 rfl rfl ?_
  refine g_iloadn (pc' := 2) d_206_1 rfl rfl ?_
  obtain ⟨fs1, hw2, h⟩ := h
  obtain ⟨r5, w3, hk4, h⟩ := h
  refine g_callV (pc' := 5) d_206_2 rfl st_206_218 na_207 ml_207 rfl rfl rfl rm_206_207 rfl rfl ow_207 hw2 hk4 ?_
  refine g_if_eq (pc' := 8) (pt := 13) d_206_5 (by decide) rfl (fun c => ?_) (fun c => ?_)
  · replace h := h.1 c
    refine g_iconst (pc' := 14) d_206_13 rfl ci_0 ?_
    refine g_aloadn (pc' := 15) d_206_14 rfl rfl ?_
    obtain ⟨fs6, hw7, h⟩ := h
    obtain ⟨b8, hv9, h⟩ := h
    refine g_getf (pc' := 18) d_206_15 rfl st_206_13 hw7 hv9 ?_
    refine g_iconst (pc' := 19) d_206_18 rfl ci_3 ?_
    refine g_iloadn (pc' := 20) d_206_19 rfl rfl ?_
    refine g_imul (pc' := 21) d_206_20 rfl ?_
    refine g_iconst (pc' := 22) d_206_21 rfl ci_2 ?_
    refine g_iadd (pc' := 23) d_206_22 rfl ?_
    obtain ⟨n10, f11, hw12, h⟩ := h
    obtain ⟨hc13, h⟩ := h
    refine g_lald (pc' := 24) d_206_23 rfl hw12 hc13 ?_
    refine g_aloadn (pc' := 25) d_206_24 rfl rfl ?_
    refine g_iloadn (pc' := 26) d_206_25 rfl rfl ?_
    obtain ⟨r16, w14, hk15, h⟩ := h
    refine g_callV (pc' := 29) d_206_26 rfl st_206_221 na_208 ml_208 rfl rfl rfl rm_206_208 rfl rfl ow_208 hw7 hk15 ?_
    refine g_lc_eq (pc' := 33) (pm := 30) (pt := 37) d_206_29 rfl d_206_30 (by decide) rfl (fun c => ?_) (fun c => ?_)
    · replace h := h.1 c
      refine g_iconst (pc' := 38) d_206_37 rfl ci_0 ?_
      refine g_iadd (pc' := 39) d_206_38 rfl ?_
      refine g_aloadn (pc' := 40) d_206_39 rfl rfl ?_
      refine g_iloadn (pc' := 41) d_206_40 rfl rfl ?_
      obtain ⟨fs17, hw18, h⟩ := h
      obtain ⟨r21, w19, hk20, h⟩ := h
      refine g_callV (pc' := 44) d_206_41 rfl st_206_225 na_209 ml_209 rfl rfl rfl rm_206_209 rfl rfl ow_209 hw18 hk20 ?_
      refine g_iloadn (pc' := 45) d_206_44 rfl rfl ?_
      obtain ⟨r24, w22, hk23, h⟩ := h
      refine g_callS (pc' := 48) d_206_45 rfl st_206_228 (Or.inl rfl) na_210 ml_210 rfl rfl rfl rm_206_210 rfl rfl hk23 ?_
      refine g_ic_eq (pc' := 51) (pt := 55) d_206_48 (by decide) rfl (fun c => ?_) (fun c => ?_)
      · replace h := h.1 c
        refine g_iconst (pc' := 56) d_206_55 rfl ci_0 ?_
        refine g_iadd (pc' := 57) d_206_56 rfl ?_
        refine g_aloadn (pc' := 58) d_206_57 rfl rfl ?_
        refine g_iloadn (pc' := 59) d_206_58 rfl rfl ?_
        obtain ⟨fs25, hw26, h⟩ := h
        obtain ⟨r29, w27, hk28, h⟩ := h
        refine g_callV (pc' := 62) d_206_59 rfl st_206_231 na_211 ml_211 rfl rfl rfl rm_206_211 rfl rfl ow_211 hw26 hk28 ?_
        refine g_if_eq (pc' := 65) (pt := 69) d_206_62 (by decide) rfl (fun c => ?_) (fun c => ?_)
        · replace h := h.1 c
          refine g_iconst (pc' := 70) d_206_69 rfl ci_0 ?_
          exact h
        · replace h := h.2 c
          refine g_iconst (pc' := 66) d_206_65 rfl ci_4 ?_
          refine g_goto (pt := 70) d_206_66 (by decide) ?_
          exact h
      · replace h := h.2 c
        refine g_iconst (pc' := 52) d_206_51 rfl ci_2 ?_
        refine g_goto (pt := 56) d_206_52 (by decide) ?_
        refine g_iadd (pc' := 57) d_206_56 rfl ?_
        refine g_aloadn (pc' := 58) d_206_57 rfl rfl ?_
        refine g_iloadn (pc' := 59) d_206_58 rfl rfl ?_
        obtain ⟨fs30, hw31, h⟩ := h
        obtain ⟨r34, w32, hk33, h⟩ := h
        refine g_callV (pc' := 62) d_206_59 rfl st_206_231 na_211 ml_211 rfl rfl rfl rm_206_211 rfl rfl ow_211 hw31 hk33 ?_
        refine g_if_eq (pc' := 65) (pt := 69) d_206_62 (by decide) rfl (fun c => ?_) (fun c => ?_)
        · replace h := h.1 c
          refine g_iconst (pc' := 70) d_206_69 rfl ci_0 ?_
          exact h
        · replace h := h.2 c
          refine g_iconst (pc' := 66) d_206_65 rfl ci_4 ?_
          refine g_goto (pt := 70) d_206_66 (by decide) ?_
          exact h
    · replace h := h.2 c
      refine g_iconst (pc' := 34) d_206_33 rfl ci_1 ?_
      refine g_goto (pt := 38) d_206_34 (by decide) ?_
      refine g_iadd (pc' := 39) d_206_38 rfl ?_
      refine g_aloadn (pc' := 40) d_206_39 rfl rfl ?_
      refine g_iloadn (pc' := 41) d_206_40 rfl rfl ?_
      obtain ⟨fs35, hw36, h⟩ := h
      obtain ⟨r39, w37, hk38, h⟩ := h
      refine g_callV (pc' := 44) d_206_41 rfl st_206_225 na_209 ml_209 rfl rfl rfl rm_206_209 rfl rfl ow_209 hw36 hk38 ?_
      refine g_iloadn (pc' := 45) d_206_44 rfl rfl ?_
      obtain ⟨r42, w40, hk41, h⟩ := h
      refine g_callS (pc' := 48) d_206_45 rfl st_206_228 (Or.inl rfl) na_210 ml_210 rfl rfl rfl rm_206_210 rfl rfl hk41 ?_
      refine g_ic_eq (pc' := 51) (pt := 55) d_206_48 (by decide) rfl (fun c => ?_) (fun c => ?_)
      · replace h := h.1 c
        refine g_iconst (pc' := 56) d_206_55 rfl ci_0 ?_
        refine g_iadd (pc' := 57) d_206_56 rfl ?_
        refine g_aloadn (pc' := 58) d_206_57 rfl rfl ?_
        refine g_iloadn (pc' := 59) d_206_58 rfl rfl ?_
        obtain ⟨fs43, hw44, h⟩ := h
        obtain ⟨r47, w45, hk46, h⟩ := h
        refine g_callV (pc' := 62) d_206_59 rfl st_206_231 na_211 ml_211 rfl rfl rfl rm_206_211 rfl rfl ow_211 hw44 hk46 ?_
        refine g_if_eq (pc' := 65) (pt := 69) d_206_62 (by decide) rfl (fun c => ?_) (fun c => ?_)
        · replace h := h.1 c
          refine g_iconst (pc' := 70) d_206_69 rfl ci_0 ?_
          exact h
        · replace h := h.2 c
          refine g_iconst (pc' := 66) d_206_65 rfl ci_4 ?_
          refine g_goto (pt := 70) d_206_66 (by decide) ?_
          exact h
      · replace h := h.2 c
        refine g_iconst (pc' := 52) d_206_51 rfl ci_2 ?_
        refine g_goto (pt := 56) d_206_52 (by decide) ?_
        refine g_iadd (pc' := 57) d_206_56 rfl ?_
        refine g_aloadn (pc' := 58) d_206_57 rfl rfl ?_
        refine g_iloadn (pc' := 59) d_206_58 rfl rfl ?_
        obtain ⟨fs48, hw49, h⟩ := h
        obtain ⟨r52, w50, hk51, h⟩ := h
        refine g_callV (pc' := 62) d_206_59 rfl st_206_231 na_211 ml_211 rfl rfl rfl rm_206_211 rfl rfl ow_211 hw49 hk51 ?_
        refine g_if_eq (pc' := 65) (pt := 69) d_206_62 (by decide) rfl (fun c => ?_) (fun c => ?_)
        · replace h := h.1 c
          refine g_iconst (pc' := 70) d_206_69 rfl ci_0 ?_
          exact h
        · replace h := h.2 c
          refine g_iconst (pc' := 66) d_206_65 rfl ci_4 ?_
          refine g_goto (pt := 70) d_206_66 (by decide) ?_
          exact h
  · replace h := h.2 c
    refine g_bipush (pc' := 10) d_206_8 rfl cb_32 ?_
    refine g_goto (pt := 14) d_206_10 (by decide) ?_
    refine g_aloadn (pc' := 15) d_206_14 rfl rfl ?_
    obtain ⟨fs53, hw54, h⟩ := h
    obtain ⟨b55, hv56, h⟩ := h
    refine g_getf (pc' := 18) d_206_15 rfl st_206_13 hw54 hv56 ?_
    refine g_iconst (pc' := 19) d_206_18 rfl ci_3 ?_
    refine g_iloadn (pc' := 20) d_206_19 rfl rfl ?_
    refine g_imul (pc' := 21) d_206_20 rfl ?_
    refine g_iconst (pc' := 22) d_206_21 rfl ci_2 ?_
    refine g_iadd (pc' := 23) d_206_22 rfl ?_
    obtain ⟨n57, f58, hw59, h⟩ := h
    obtain ⟨hc60, h⟩ := h
    refine g_lald (pc' := 24) d_206_23 rfl hw59 hc60 ?_
    refine g_aloadn (pc' := 25) d_206_24 rfl rfl ?_
    refine g_iloadn (pc' := 26) d_206_25 rfl rfl ?_
    obtain ⟨r63, w61, hk62, h⟩ := h
    refine g_callV (pc' := 29) d_206_26 rfl st_206_221 na_208 ml_208 rfl rfl rfl rm_206_208 rfl rfl ow_208 hw54 hk62 ?_
    refine g_lc_eq (pc' := 33) (pm := 30) (pt := 37) d_206_29 rfl d_206_30 (by decide) rfl (fun c => ?_) (fun c => ?_)
    · replace h := h.1 c
      refine g_iconst (pc' := 38) d_206_37 rfl ci_0 ?_
      refine g_iadd (pc' := 39) d_206_38 rfl ?_
      refine g_aloadn (pc' := 40) d_206_39 rfl rfl ?_
      refine g_iloadn (pc' := 41) d_206_40 rfl rfl ?_
      obtain ⟨fs64, hw65, h⟩ := h
      obtain ⟨r68, w66, hk67, h⟩ := h
      refine g_callV (pc' := 44) d_206_41 rfl st_206_225 na_209 ml_209 rfl rfl rfl rm_206_209 rfl rfl ow_209 hw65 hk67 ?_
      refine g_iloadn (pc' := 45) d_206_44 rfl rfl ?_
      obtain ⟨r71, w69, hk70, h⟩ := h
      refine g_callS (pc' := 48) d_206_45 rfl st_206_228 (Or.inl rfl) na_210 ml_210 rfl rfl rfl rm_206_210 rfl rfl hk70 ?_
      refine g_ic_eq (pc' := 51) (pt := 55) d_206_48 (by decide) rfl (fun c => ?_) (fun c => ?_)
      · replace h := h.1 c
        refine g_iconst (pc' := 56) d_206_55 rfl ci_0 ?_
        refine g_iadd (pc' := 57) d_206_56 rfl ?_
        refine g_aloadn (pc' := 58) d_206_57 rfl rfl ?_
        refine g_iloadn (pc' := 59) d_206_58 rfl rfl ?_
        obtain ⟨fs72, hw73, h⟩ := h
        obtain ⟨r76, w74, hk75, h⟩ := h
        refine g_callV (pc' := 62) d_206_59 rfl st_206_231 na_211 ml_211 rfl rfl rfl rm_206_211 rfl rfl ow_211 hw73 hk75 ?_
        refine g_if_eq (pc' := 65) (pt := 69) d_206_62 (by decide) rfl (fun c => ?_) (fun c => ?_)
        · replace h := h.1 c
          refine g_iconst (pc' := 70) d_206_69 rfl ci_0 ?_
          exact h
        · replace h := h.2 c
          refine g_iconst (pc' := 66) d_206_65 rfl ci_4 ?_
          refine g_goto (pt := 70) d_206_66 (by decide) ?_
          exact h
      · replace h := h.2 c
        refine g_iconst (pc' := 52) d_206_51 rfl ci_2 ?_
        refine g_goto (pt := 56) d_206_52 (by decide) ?_
        refine g_iadd (pc' := 57) d_206_56 rfl ?_
        refine g_aloadn (pc' := 58) d_206_57 rfl rfl ?_
        refine g_iloadn (pc' := 59) d_206_58 rfl rfl ?_
        obtain ⟨fs77, hw78, h⟩ := h
        obtain ⟨r81, w79, hk80, h⟩ := h
        refine g_callV (pc' := 62) d_206_59 rfl st_206_231 na_211 ml_211 rfl rfl rfl rm_206_211 rfl rfl ow_211 hw78 hk80 ?_
        refine g_if_eq (pc' := 65) (pt := 69) d_206_62 (by decide) rfl (fun c => ?_) (fun c => ?_)
        · replace h := h.1 c
          refine g_iconst (pc' := 70) d_206_69 rfl ci_0 ?_
          exact h
        · replace h := h.2 c
          refine g_iconst (pc' := 66) d_206_65 rfl ci_4 ?_
          refine g_goto (pt := 70) d_206_66 (by decide) ?_
          exact h
    · replace h := h.2 c
      refine g_iconst (pc' := 34) d_206_33 rfl ci_1 ?_
      refine g_goto (pt := 38) d_206_34 (by decide) ?_
      refine g_iadd (pc' := 39) d_206_38 rfl ?_
      refine g_aloadn (pc' := 40) d_206_39 rfl rfl ?_
      refine g_iloadn (pc' := 41) d_206_40 rfl rfl ?_
      obtain ⟨fs82, hw83, h⟩ := h
      obtain ⟨r86, w84, hk85, h⟩ := h
      refine g_callV (pc' := 44) d_206_41 rfl st_206_225 na_209 ml_209 rfl rfl rfl rm_206_209 rfl rfl ow_209 hw83 hk85 ?_
      refine g_iloadn (pc' := 45) d_206_44 rfl rfl ?_
      obtain ⟨r89, w87, hk88, h⟩ := h
      refine g_callS (pc' := 48) d_206_45 rfl st_206_228 (Or.inl rfl) na_210 ml_210 rfl rfl rfl rm_206_210 rfl rfl hk88 ?_
      refine g_ic_eq (pc' := 51) (pt := 55) d_206_48 (by decide) rfl (fun c => ?_) (fun c => ?_)
      · replace h := h.1 c
        refine g_iconst (pc' := 56) d_206_55 rfl ci_0 ?_
        refine g_iadd (pc' := 57) d_206_56 rfl ?_
        refine g_aloadn (pc' := 58) d_206_57 rfl rfl ?_
        refine g_iloadn (pc' := 59) d_206_58 rfl rfl ?_
        obtain ⟨fs90, hw91, h⟩ := h
        obtain ⟨r94, w92, hk93, h⟩ := h
        refine g_callV (pc' := 62) d_206_59 rfl st_206_231 na_211 ml_211 rfl rfl rfl rm_206_211 rfl rfl ow_211 hw91 hk93 ?_
        refine g_if_eq (pc' := 65) (pt := 69) d_206_62 (by decide) rfl (fun c => ?_) (fun c => ?_)
        · replace h := h.1 c
          refine g_iconst (pc' := 70) d_206_69 rfl ci_0 ?_
          exact h
        · replace h := h.2 c
          refine g_iconst (pc' := 66) d_206_65 rfl ci_4 ?_
          refine g_goto (pt := 70) d_206_66 (by decide) ?_
          exact h
      · replace h := h.2 c
        refine g_iconst (pc' := 52) d_206_51 rfl ci_2 ?_
        refine g_goto (pt := 56) d_206_52 (by decide) ?_
        refine g_iadd (pc' := 57) d_206_56 rfl ?_
        refine g_aloadn (pc' := 58) d_206_57 rfl rfl ?_
        refine g_iloadn (pc' := 59) d_206_58 rfl rfl ?_
        obtain ⟨fs95, hw96, h⟩ := h
        obtain ⟨r99, w97, hk98, h⟩ := h
        refine g_callV (pc' := 62) d_206_59 rfl st_206_231 na_211 ml_211 rfl rfl rfl rm_206_211 rfl rfl ow_211 hw96 hk98 ?_
        refine g_if_eq (pc' := 65) (pt := 69) d_206_62 (by decide) rfl (fun c => ?_) (fun c => ?_)
        · replace h := h.1 c
          refine g_iconst (pc' := 70) d_206_69 rfl ci_0 ?_
          exact h
        · replace h := h.2 c
          refine g_iconst (pc' := 66) d_206_65 rfl ci_4 ?_
          refine g_goto (pt := 70) d_206_66 (by decide) ?_
          exact h
theorem S_206_70 {a0 : Nat} {i1 : Int32} {s0 : Int32} {s1 : Int32} {w : xW} {r : Option Value × xW} (h : ∃ fs1, w[a0]? = some (.inr (12, fs1)) ∧ ∃ r5 w3, xCall 212 [.ref a0, .int i1] w (some (.int r5), w3) ∧ (r5 = 0 → ∃ fs6, w3[a0]? = some (.inr (12, fs6)) ∧ ∃ r10 w8, xCall 217 [.ref a0, .int i1] w3 (some (.int r10), w8) ∧ (r10 = 0 → r = (some (.int (((s0 + s1) + (0 : Int32)) + (0 : Int32))), w8)) ∧ (¬ (r10 = 0) → r = (some (.int (((s0 + s1) + (0 : Int32)) + (16 : Int32))), w8))) ∧ (¬ (r5 = 0) → ∃ fs11, w3[a0]? = some (.inr (12, fs11)) ∧ ∃ r15 w13, xCall 217 [.ref a0, .int i1] w3 (some (.int r15), w13) ∧ (r15 = 0 → r = (some (.int (((s0 + s1) + (8 : Int32)) + (0 : Int32))), w13)) ∧ (¬ (r15 = 0) → r = (some (.int (((s0 + s1) + (8 : Int32)) + (16 : Int32))), w13)))) : xGo 206 70 [some (.ref a0), some (.int i1)] [.int s1, .int s0] w r := by
  refine g_iadd (pc' := 71) d_206_70 rfl ?_
  refine g_aloadn (pc' := 72) d_206_71 rfl rfl ?_
  refine g_iloadn (pc' := 73) d_206_72 rfl rfl ?_
  obtain ⟨fs1, hw2, h⟩ := h
  obtain ⟨r5, w3, hk4, h⟩ := h
  refine g_callV (pc' := 76) d_206_73 rfl st_206_234 na_212 ml_212 rfl rfl rfl rm_206_212 rfl rfl ow_212 hw2 hk4 ?_
  refine g_if_eq (pc' := 79) (pt := 84) d_206_76 (by decide) rfl (fun c => ?_) (fun c => ?_)
  · replace h := h.1 c
    refine g_iconst (pc' := 85) d_206_84 rfl ci_0 ?_
    refine g_iadd (pc' := 86) d_206_85 rfl ?_
    refine g_aloadn (pc' := 87) d_206_86 rfl rfl ?_
    refine g_iloadn (pc' := 88) d_206_87 rfl rfl ?_
    obtain ⟨fs6, hw7, h⟩ := h
    obtain ⟨r10, w8, hk9, h⟩ := h
    refine g_callV (pc' := 91) d_206_88 rfl st_206_237 na_217 ml_217 rfl rfl rfl rm_206_217 rfl rfl ow_217 hw7 hk9 ?_
    refine g_if_eq (pc' := 94) (pt := 99) d_206_91 (by decide) rfl (fun c => ?_) (fun c => ?_)
    · replace h := h.1 c
      refine g_iconst (pc' := 100) d_206_99 rfl ci_0 ?_
      refine g_iadd (pc' := 101) d_206_100 rfl ?_
      exact g_iret d_206_101 rt_206 h
    · replace h := h.2 c
      refine g_bipush (pc' := 96) d_206_94 rfl cb_16 ?_
      refine g_goto (pt := 100) d_206_96 (by decide) ?_
      refine g_iadd (pc' := 101) d_206_100 rfl ?_
      exact g_iret d_206_101 rt_206 h
  · replace h := h.2 c
    refine g_bipush (pc' := 81) d_206_79 rfl cb_8 ?_
    refine g_goto (pt := 85) d_206_81 (by decide) ?_
    refine g_iadd (pc' := 86) d_206_85 rfl ?_
    refine g_aloadn (pc' := 87) d_206_86 rfl rfl ?_
    refine g_iloadn (pc' := 88) d_206_87 rfl rfl ?_
    obtain ⟨fs11, hw12, h⟩ := h
    obtain ⟨r15, w13, hk14, h⟩ := h
    refine g_callV (pc' := 91) d_206_88 rfl st_206_237 na_217 ml_217 rfl rfl rfl rm_206_217 rfl rfl ow_217 hw12 hk14 ?_
    refine g_if_eq (pc' := 94) (pt := 99) d_206_91 (by decide) rfl (fun c => ?_) (fun c => ?_)
    · replace h := h.1 c
      refine g_iconst (pc' := 100) d_206_99 rfl ci_0 ?_
      refine g_iadd (pc' := 101) d_206_100 rfl ?_
      exact g_iret d_206_101 rt_206 h
    · replace h := h.2 c
      refine g_bipush (pc' := 96) d_206_94 rfl cb_16 ?_
      refine g_goto (pt := 100) d_206_96 (by decide) ?_
      refine g_iadd (pc' := 101) d_206_100 rfl ?_
      exact g_iret d_206_101 rt_206 h
-- 207 BernoulliWaysModel.breaksSixth(I)Z
theorem S_207_0 {a0 : Nat} {i1 : Int32} {w : xW} {r : Option Value × xW} (h : (¬ (irem i1 (2 : Int32)) = (1 : Int32) → ∃ fs1, w[a0]? = some (.inr (12, fs1)) ∧ (8 < fs1.length) ∧ ∀ w4, w4 = w.set a0 (.inr (12, fs1.set 8 (.long (0 : Int64)))) → (9 < (fs1.set 8 (.long (0 : Int64))).length) ∧ ∀ w6, w6 = w4.set a0 (.inr (12, (fs1.set 8 (.long (0 : Int64))).set 9 (.long (0 : Int64)))) → xGo 207 21 [some (.ref a0), some (.int i1), some (.int i1), none, none, none, none] [] w6 r) ∧ (¬ (¬ (irem i1 (2 : Int32)) = (1 : Int32)) → r = (some (.int (0 : Int32)), w))) : xGo 207 0 [some (.ref a0), some (.int i1), none, none, none, none, none] [] w r := by
  refine g_iloadn (pc' := 1) d_207_0 rfl rfl ?_
  refine g_iconst (pc' := 2) d_207_1 rfl ci_2 ?_
  refine g_irem (pc' := 3) d_207_2 rfl (by decide) ?_
  refine g_iconst (pc' := 4) d_207_3 rfl ci_1 ?_
  refine g_ic_ne (pc' := 7) (pt := 9) d_207_4 (by decide) rfl (fun c => ?_) (fun c => ?_)
  · replace h := h.1 c
    refine g_aloadn (pc' := 10) d_207_9 rfl rfl ?_
    refine g_lconst (pc' := 11) d_207_10 rfl cl_0 ?_
    obtain ⟨fs1, hw2, h⟩ := h
    obtain ⟨hc3, h⟩ := h
    have h := h _ rfl
    refine g_putf (pc' := 14) d_207_11 rfl st_207_107 ft_12_8 ff_12_8 rfl (Or.inl rfl) hw2 hc3 ?_
    refine g_aloadn (pc' := 15) d_207_14 rfl rfl ?_
    refine g_lconst (pc' := 16) d_207_15 rfl cl_0 ?_
    obtain ⟨hc5, h⟩ := h
    have h := h _ rfl
    refine g_putf (pc' := 19) d_207_16 rfl st_207_111 ft_12_9 ff_12_9 rfl (Or.inl rfl) (x_gss hw2) hc5 ?_
    refine g_iloadn (pc' := 20) d_207_19 rfl rfl ?_
    refine g_istoren (pc' := 21) (l' := [some (.ref a0), some (.int i1), some (.int i1), none, none, none, none]) d_207_20 rfl ml_207 rfl rfl ?_
    exact h
  · replace h := h.2 c
    refine g_iconst (pc' := 8) d_207_7 rfl ci_0 ?_
    exact g_zret d_207_8 rt_207 (Or.inl rfl) h
theorem S_207_21 {a0 : Nat} {i1 : Int32} {i2 : Int32} {w : xW} {r : Option Value × xW} (h : (i2 < 0 → ∃ fs1, w[a0]? = some (.inr (12, fs1)) ∧ ∃ x3, fs1[8]? = some (.long x3) ∧ ∃ x5, fs1[9]? = some (.long x5) ∧ ∀ v7 : Int64, v7 = (x3 + (x5 / (7420738134810 : Int64))) → (8 < fs1.length) ∧ ∀ w9, w9 = w.set a0 (.inr (12, fs1.set 8 (.long v7))) → ∃ x10, (fs1.set 8 (.long v7))[9]? = some (.long x10) ∧ ∀ v12 : Int64, v12 = (lrem x10 (7420738134810 : Int64)) → (9 < (fs1.set 8 (.long v7)).length) ∧ ∀ w14, w14 = w9.set a0 (.inr (12, (fs1.set 8 (.long v7)).set 9 (.long v12))) → (¬ (irem i1 (6 : Int32)) = (4 : Int32) → ∀ v15 : Int64, v15 = ((i1 + (3 : Int32)).toInt64) → (¬ (irem i1 (6 : Int32)) = (4 : Int32) → ∃ r18 w16, xCall 193 [.long v15, .long ((3 : Int32).toInt64)] w14 (some (.long r18), w16) ∧ ∃ fs19, w16[a0]? = some (.inr (12, fs19)) ∧ ∃ x21, fs19[8]? = some (.long x21) ∧ (¬ x21 = r18 → r = (some (.int (1 : Int32)), w16)) ∧ (¬ (¬ x21 = r18) → ∃ x23, fs19[9]? = some (.long x23) ∧ (¬ ((3 : Int32).toInt64) = 0) ∧ (x23 = ((v15 - (r18 * ((3 : Int32).toInt64))) * ((7420738134810 : Int64) / ((3 : Int32).toInt64))) → r = (some (.int (0 : Int32)), w16)) ∧ (¬ (x23 = ((v15 - (r18 * ((3 : Int32).toInt64))) * ((7420738134810 : Int64) / ((3 : Int32).toInt64)))) → r = (some (.int (1 : Int32)), w16)))) ∧ (¬ (¬ (irem i1 (6 : Int32)) = (4 : Int32)) → ∃ r28 w26, xCall 193 [.long v15, .long ((6 : Int32).toInt64)] w14 (some (.long r28), w26) ∧ ∃ fs29, w26[a0]? = some (.inr (12, fs29)) ∧ ∃ x31, fs29[8]? = some (.long x31) ∧ (¬ x31 = r28 → r = (some (.int (1 : Int32)), w26)) ∧ (¬ (¬ x31 = r28) → ∃ x33, fs29[9]? = some (.long x33) ∧ (¬ ((6 : Int32).toInt64) = 0) ∧ (x33 = ((v15 - (r28 * ((6 : Int32).toInt64))) * ((7420738134810 : Int64) / ((6 : Int32).toInt64))) → r = (some (.int (0 : Int32)), w26)) ∧ (¬ (x33 = ((v15 - (r28 * ((6 : Int32).toInt64))) * ((7420738134810 : Int64) / ((6 : Int32).toInt64)))) → r = (some (.int (1 : Int32)), w26))))) ∧ (¬ (¬ (irem i1 (6 : Int32)) = (4 : Int32)) → ∀ v36 : Int64, v36 = (((-i1) - (3 : Int32)).toInt64) → (¬ (irem i1 (6 : Int32)) = (4 : Int32) → ∃ r39 w37, xCall 193 [.long v36, .long ((3 : Int32).toInt64)] w14 (some (.long r39), w37) ∧ ∃ fs40, w37[a0]? = some (.inr (12, fs40)) ∧ ∃ x42, fs40[8]? = some (.long x42) ∧ (¬ x42 = r39 → r = (some (.int (1 : Int32)), w37)) ∧ (¬ (¬ x42 = r39) → ∃ x44, fs40[9]? = some (.long x44) ∧ (¬ ((3 : Int32).toInt64) = 0) ∧ (x44 = ((v36 - (r39 * ((3 : Int32).toInt64))) * ((7420738134810 : Int64) / ((3 : Int32).toInt64))) → r = (some (.int (0 : Int32)), w37)) ∧ (¬ (x44 = ((v36 - (r39 * ((3 : Int32).toInt64))) * ((7420738134810 : Int64) / ((3 : Int32).toInt64)))) → r = (some (.int (1 : Int32)), w37)))) ∧ (¬ (¬ (irem i1 (6 : Int32)) = (4 : Int32)) → ∃ r49 w47, xCall 193 [.long v36, .long ((6 : Int32).toInt64)] w14 (some (.long r49), w47) ∧ ∃ fs50, w47[a0]? = some (.inr (12, fs50)) ∧ ∃ x52, fs50[8]? = some (.long x52) ∧ (¬ x52 = r49 → r = (some (.int (1 : Int32)), w47)) ∧ (¬ (¬ x52 = r49) → ∃ x54, fs50[9]? = some (.long x54) ∧ (¬ ((6 : Int32).toInt64) = 0) ∧ (x54 = ((v36 - (r49 * ((6 : Int32).toInt64))) * ((7420738134810 : Int64) / ((6 : Int32).toInt64))) → r = (some (.int (0 : Int32)), w47)) ∧ (¬ (x54 = ((v36 - (r49 * ((6 : Int32).toInt64))) * ((7420738134810 : Int64) / ((6 : Int32).toInt64)))) → r = (some (.int (1 : Int32)), w47)))))) ∧ (¬ (i2 < 0) → ∃ fs57, w[a0]? = some (.inr (12, fs57)) ∧ ∃ b59, fs57[2]? = some (.ref b59) ∧ ∃ b61, fs57[5]? = some (.ref b61) ∧ ∃ n63 f64, w[b61]? = some (.inl (.inr (n63, f64))) ∧ (¬ ((((40 : Int32) * (i1 + (3 : Int32))) + i2) < 0 ∨ n63 ≤ (((40 : Int32) * (i1 + (3 : Int32))) + i2).toNatClampNeg)) ∧ ∃ w67, xCall 191 [.ref a0, .ref b59, .long (f64 (((40 : Int32) * (i1 + (3 : Int32))) + i2).toNatClampNeg), .int i2] w (none, w67) ∧ ∀ v69 : Int32, v69 = i2 + (-6 : Int32) → xGo 207 21 [some (.ref a0), some (.int i1), some (.int v69), none, none, none, none] [] w67 r)) : xGo 207 21 [some (.ref a0), some (.int i1), some (.int i2), none, none, none, none] [] w r := by
  refine g_iloadn (pc' := 22) d_207_21 rfl rfl ?_
  refine g_if_lt (pc' := 25) (pt := 53) d_207_22 (by decide) rfl (fun c => ?_) (fun c => ?_)
  · replace h := h.1 c
    refine g_aloadn (pc' := 54) d_207_53 rfl rfl ?_
    refine g_dup (pc' := 55) d_207_54 rfl rfl ?_
    obtain ⟨fs1, hw2, h⟩ := h
    obtain ⟨x3, hv4, h⟩ := h
    refine g_getf (pc' := 58) d_207_55 rfl st_207_107 hw2 hv4 ?_
    refine g_aloadn (pc' := 59) d_207_58 rfl rfl ?_
    obtain ⟨x5, hv6, h⟩ := h
    refine g_getf (pc' := 62) d_207_59 rfl st_207_111 hw2 hv6 ?_
    refine g_ldc2 (pc' := 65) d_207_62 rfl st_207_125 cL_7420738134810 ?_
    refine g_ldiv (pc' := 66) d_207_65 rfl (by decide) ?_
    refine g_ladd (pc' := 67) d_207_66 rfl ?_
    have h := h _ rfl
    obtain ⟨hc8, h⟩ := h
    have h := h _ rfl
    refine g_putf (pc' := 70) d_207_67 rfl st_207_107 ft_12_8 ff_12_8 rfl (Or.inl rfl) hw2 hc8 ?_
    refine g_aloadn (pc' := 71) d_207_70 rfl rfl ?_
    refine g_aloadn (pc' := 72) d_207_71 rfl rfl ?_
    obtain ⟨x10, hv11, h⟩ := h
    refine g_getf (pc' := 75) d_207_72 rfl st_207_111 (x_gss hw2) hv11 ?_
    refine g_ldc2 (pc' := 78) d_207_75 rfl st_207_125 cL_7420738134810 ?_
    refine g_lrem (pc' := 79) d_207_78 rfl (by decide) ?_
    have h := h _ rfl
    obtain ⟨hc13, h⟩ := h
    have h := h _ rfl
    refine g_putf (pc' := 82) d_207_79 rfl st_207_111 ft_12_9 ff_12_9 rfl (Or.inl rfl) (x_gss hw2) hc13 ?_
    refine g_iloadn (pc' := 83) d_207_82 rfl rfl ?_
    refine g_bipush (pc' := 85) d_207_83 rfl cb_6 ?_
    refine g_irem (pc' := 86) d_207_85 rfl (by decide) ?_
    refine g_iconst (pc' := 87) d_207_86 rfl ci_4 ?_
    refine g_ic_ne (pc' := 90) (pt := 98) d_207_87 (by decide) rfl (fun c => ?_) (fun c => ?_)
    · replace h := h.1 c
      refine g_iloadn (pc' := 99) d_207_98 rfl rfl ?_
      refine g_iconst (pc' := 100) d_207_99 rfl ci_3 ?_
      refine g_iadd (pc' := 101) d_207_100 rfl ?_
      refine g_i2l (pc' := 102) d_207_101 rfl ?_
      have h := h _ rfl
      refine g_lstoren (pc' := 103) (l' := [some (.ref a0), some (.int i1), some (.long (((i1 + (3 : Int32)).toInt64))), none, none, none, none]) d_207_102 rfl ml_207 rfl rfl ?_
      refine g_iloadn (pc' := 104) d_207_103 rfl rfl ?_
      refine g_bipush (pc' := 106) d_207_104 rfl cb_6 ?_
      refine g_irem (pc' := 107) d_207_106 rfl (by decide) ?_
      refine g_iconst (pc' := 108) d_207_107 rfl ci_4 ?_
      refine g_ic_ne (pc' := 111) (pt := 116) d_207_108 (by decide) rfl (fun c => ?_) (fun c => ?_)
      · replace h := h.1 c
        refine g_iconst (pc' := 117) d_207_116 rfl ci_3 ?_
        refine g_istore (pc' := 119) (l' := [some (.ref a0), some (.int i1), some (.long (((i1 + (3 : Int32)).toInt64))), none, some (.int (3 : Int32)), none, none]) d_207_117 rfl ml_207 rfl rfl ?_
        refine g_lloadn (pc' := 120) d_207_119 rfl rfl ?_
        refine g_iload (pc' := 122) d_207_120 rfl rfl ?_
        refine g_i2l (pc' := 123) d_207_122 rfl ?_
        obtain ⟨r18, w16, hk17, h⟩ := h
        refine g_callS (pc' := 126) d_207_123 rfl st_207_131 (Or.inl rfl) na_193 ml_193 rfl rfl rfl rm_207_193 rfl rfl hk17 ?_
        refine g_lstore (pc' := 128) (l' := [some (.ref a0), some (.int i1), some (.long (((i1 + (3 : Int32)).toInt64))), none, some (.int (3 : Int32)), some (.long r18), none]) d_207_126 rfl ml_207 rfl rfl ?_
        refine g_aloadn (pc' := 129) d_207_128 rfl rfl ?_
        obtain ⟨fs19, hw20, h⟩ := h
        obtain ⟨x21, hv22, h⟩ := h
        refine g_getf (pc' := 132) d_207_129 rfl st_207_107 hw20 hv22 ?_
        refine g_lload (pc' := 134) d_207_132 rfl rfl ?_
        refine g_lc_ne (pc' := 138) (pm := 135) (pt := 162) d_207_134 rfl d_207_135 (by decide) rfl (fun c => ?_) (fun c => ?_)
        · replace h := h.1 c
          refine g_iconst (pc' := 163) d_207_162 rfl ci_1 ?_
          refine g_goto (pt := 167) d_207_163 (by decide) ?_
          exact g_zret d_207_167 rt_207 (Or.inr rfl) h
        · replace h := h.2 c
          refine g_aloadn (pc' := 139) d_207_138 rfl rfl ?_
          obtain ⟨x23, hv24, h⟩ := h
          refine g_getf (pc' := 142) d_207_139 rfl st_207_111 hw20 hv24 ?_
          refine g_lloadn (pc' := 143) d_207_142 rfl rfl ?_
          refine g_lload (pc' := 145) d_207_143 rfl rfl ?_
          refine g_iload (pc' := 147) d_207_145 rfl rfl ?_
          refine g_i2l (pc' := 148) d_207_147 rfl ?_
          refine g_lmul (pc' := 149) d_207_148 rfl ?_
          refine g_lsub (pc' := 150) d_207_149 rfl ?_
          refine g_ldc2 (pc' := 153) d_207_150 rfl st_207_125 cL_7420738134810 ?_
          refine g_iload (pc' := 155) d_207_153 rfl rfl ?_
          refine g_i2l (pc' := 156) d_207_155 rfl ?_
          obtain ⟨hc25, h⟩ := h
          refine g_ldiv (pc' := 157) d_207_156 rfl hc25 ?_
          refine g_lmul (pc' := 158) d_207_157 rfl ?_
          refine g_lc_eq (pc' := 162) (pm := 159) (pt := 166) d_207_158 rfl d_207_159 (by decide) rfl (fun c => ?_) (fun c => ?_)
          · replace h := h.1 c
            refine g_iconst (pc' := 167) d_207_166 rfl ci_0 ?_
            exact g_zret d_207_167 rt_207 (Or.inl rfl) h
          · replace h := h.2 c
            refine g_iconst (pc' := 163) d_207_162 rfl ci_1 ?_
            refine g_goto (pt := 167) d_207_163 (by decide) ?_
            exact g_zret d_207_167 rt_207 (Or.inr rfl) h
      · replace h := h.2 c
        refine g_bipush (pc' := 113) d_207_111 rfl cb_6 ?_
        refine g_goto (pt := 117) d_207_113 (by decide) ?_
        refine g_istore (pc' := 119) (l' := [some (.ref a0), some (.int i1), some (.long (((i1 + (3 : Int32)).toInt64))), none, some (.int (6 : Int32)), none, none]) d_207_117 rfl ml_207 rfl rfl ?_
        refine g_lloadn (pc' := 120) d_207_119 rfl rfl ?_
        refine g_iload (pc' := 122) d_207_120 rfl rfl ?_
        refine g_i2l (pc' := 123) d_207_122 rfl ?_
        obtain ⟨r28, w26, hk27, h⟩ := h
        refine g_callS (pc' := 126) d_207_123 rfl st_207_131 (Or.inl rfl) na_193 ml_193 rfl rfl rfl rm_207_193 rfl rfl hk27 ?_
        refine g_lstore (pc' := 128) (l' := [some (.ref a0), some (.int i1), some (.long (((i1 + (3 : Int32)).toInt64))), none, some (.int (6 : Int32)), some (.long r28), none]) d_207_126 rfl ml_207 rfl rfl ?_
        refine g_aloadn (pc' := 129) d_207_128 rfl rfl ?_
        obtain ⟨fs29, hw30, h⟩ := h
        obtain ⟨x31, hv32, h⟩ := h
        refine g_getf (pc' := 132) d_207_129 rfl st_207_107 hw30 hv32 ?_
        refine g_lload (pc' := 134) d_207_132 rfl rfl ?_
        refine g_lc_ne (pc' := 138) (pm := 135) (pt := 162) d_207_134 rfl d_207_135 (by decide) rfl (fun c => ?_) (fun c => ?_)
        · replace h := h.1 c
          refine g_iconst (pc' := 163) d_207_162 rfl ci_1 ?_
          refine g_goto (pt := 167) d_207_163 (by decide) ?_
          exact g_zret d_207_167 rt_207 (Or.inr rfl) h
        · replace h := h.2 c
          refine g_aloadn (pc' := 139) d_207_138 rfl rfl ?_
          obtain ⟨x33, hv34, h⟩ := h
          refine g_getf (pc' := 142) d_207_139 rfl st_207_111 hw30 hv34 ?_
          refine g_lloadn (pc' := 143) d_207_142 rfl rfl ?_
          refine g_lload (pc' := 145) d_207_143 rfl rfl ?_
          refine g_iload (pc' := 147) d_207_145 rfl rfl ?_
          refine g_i2l (pc' := 148) d_207_147 rfl ?_
          refine g_lmul (pc' := 149) d_207_148 rfl ?_
          refine g_lsub (pc' := 150) d_207_149 rfl ?_
          refine g_ldc2 (pc' := 153) d_207_150 rfl st_207_125 cL_7420738134810 ?_
          refine g_iload (pc' := 155) d_207_153 rfl rfl ?_
          refine g_i2l (pc' := 156) d_207_155 rfl ?_
          obtain ⟨hc35, h⟩ := h
          refine g_ldiv (pc' := 157) d_207_156 rfl hc35 ?_
          refine g_lmul (pc' := 158) d_207_157 rfl ?_
          refine g_lc_eq (pc' := 162) (pm := 159) (pt := 166) d_207_158 rfl d_207_159 (by decide) rfl (fun c => ?_) (fun c => ?_)
          · replace h := h.1 c
            refine g_iconst (pc' := 167) d_207_166 rfl ci_0 ?_
            exact g_zret d_207_167 rt_207 (Or.inl rfl) h
          · replace h := h.2 c
            refine g_iconst (pc' := 163) d_207_162 rfl ci_1 ?_
            refine g_goto (pt := 167) d_207_163 (by decide) ?_
            exact g_zret d_207_167 rt_207 (Or.inr rfl) h
    · replace h := h.2 c
      refine g_iloadn (pc' := 91) d_207_90 rfl rfl ?_
      refine g_ineg (pc' := 92) d_207_91 rfl ?_
      refine g_iconst (pc' := 93) d_207_92 rfl ci_3 ?_
      refine g_isub (pc' := 94) d_207_93 rfl ?_
      refine g_i2l (pc' := 95) d_207_94 rfl ?_
      refine g_goto (pt := 102) d_207_95 (by decide) ?_
      have h := h _ rfl
      refine g_lstoren (pc' := 103) (l' := [some (.ref a0), some (.int i1), some (.long ((((-i1) - (3 : Int32)).toInt64))), none, none, none, none]) d_207_102 rfl ml_207 rfl rfl ?_
      refine g_iloadn (pc' := 104) d_207_103 rfl rfl ?_
      refine g_bipush (pc' := 106) d_207_104 rfl cb_6 ?_
      refine g_irem (pc' := 107) d_207_106 rfl (by decide) ?_
      refine g_iconst (pc' := 108) d_207_107 rfl ci_4 ?_
      refine g_ic_ne (pc' := 111) (pt := 116) d_207_108 (by decide) rfl (fun c => ?_) (fun c => ?_)
      · replace h := h.1 c
        refine g_iconst (pc' := 117) d_207_116 rfl ci_3 ?_
        refine g_istore (pc' := 119) (l' := [some (.ref a0), some (.int i1), some (.long ((((-i1) - (3 : Int32)).toInt64))), none, some (.int (3 : Int32)), none, none]) d_207_117 rfl ml_207 rfl rfl ?_
        refine g_lloadn (pc' := 120) d_207_119 rfl rfl ?_
        refine g_iload (pc' := 122) d_207_120 rfl rfl ?_
        refine g_i2l (pc' := 123) d_207_122 rfl ?_
        obtain ⟨r39, w37, hk38, h⟩ := h
        refine g_callS (pc' := 126) d_207_123 rfl st_207_131 (Or.inl rfl) na_193 ml_193 rfl rfl rfl rm_207_193 rfl rfl hk38 ?_
        refine g_lstore (pc' := 128) (l' := [some (.ref a0), some (.int i1), some (.long ((((-i1) - (3 : Int32)).toInt64))), none, some (.int (3 : Int32)), some (.long r39), none]) d_207_126 rfl ml_207 rfl rfl ?_
        refine g_aloadn (pc' := 129) d_207_128 rfl rfl ?_
        obtain ⟨fs40, hw41, h⟩ := h
        obtain ⟨x42, hv43, h⟩ := h
        refine g_getf (pc' := 132) d_207_129 rfl st_207_107 hw41 hv43 ?_
        refine g_lload (pc' := 134) d_207_132 rfl rfl ?_
        refine g_lc_ne (pc' := 138) (pm := 135) (pt := 162) d_207_134 rfl d_207_135 (by decide) rfl (fun c => ?_) (fun c => ?_)
        · replace h := h.1 c
          refine g_iconst (pc' := 163) d_207_162 rfl ci_1 ?_
          refine g_goto (pt := 167) d_207_163 (by decide) ?_
          exact g_zret d_207_167 rt_207 (Or.inr rfl) h
        · replace h := h.2 c
          refine g_aloadn (pc' := 139) d_207_138 rfl rfl ?_
          obtain ⟨x44, hv45, h⟩ := h
          refine g_getf (pc' := 142) d_207_139 rfl st_207_111 hw41 hv45 ?_
          refine g_lloadn (pc' := 143) d_207_142 rfl rfl ?_
          refine g_lload (pc' := 145) d_207_143 rfl rfl ?_
          refine g_iload (pc' := 147) d_207_145 rfl rfl ?_
          refine g_i2l (pc' := 148) d_207_147 rfl ?_
          refine g_lmul (pc' := 149) d_207_148 rfl ?_
          refine g_lsub (pc' := 150) d_207_149 rfl ?_
          refine g_ldc2 (pc' := 153) d_207_150 rfl st_207_125 cL_7420738134810 ?_
          refine g_iload (pc' := 155) d_207_153 rfl rfl ?_
          refine g_i2l (pc' := 156) d_207_155 rfl ?_
          obtain ⟨hc46, h⟩ := h
          refine g_ldiv (pc' := 157) d_207_156 rfl hc46 ?_
          refine g_lmul (pc' := 158) d_207_157 rfl ?_
          refine g_lc_eq (pc' := 162) (pm := 159) (pt := 166) d_207_158 rfl d_207_159 (by decide) rfl (fun c => ?_) (fun c => ?_)
          · replace h := h.1 c
            refine g_iconst (pc' := 167) d_207_166 rfl ci_0 ?_
            exact g_zret d_207_167 rt_207 (Or.inl rfl) h
          · replace h := h.2 c
            refine g_iconst (pc' := 163) d_207_162 rfl ci_1 ?_
            refine g_goto (pt := 167) d_207_163 (by decide) ?_
            exact g_zret d_207_167 rt_207 (Or.inr rfl) h
      · replace h := h.2 c
        refine g_bipush (pc' := 113) d_207_111 rfl cb_6 ?_
        refine g_goto (pt := 117) d_207_113 (by decide) ?_
        refine g_istore (pc' := 119) (l' := [some (.ref a0), some (.int i1), some (.long ((((-i1) - (3 : Int32)).toInt64))), none, some (.int (6 : Int32)), none, none]) d_207_117 rfl ml_207 rfl rfl ?_
        refine g_lloadn (pc' := 120) d_207_119 rfl rfl ?_
        refine g_iload (pc' := 122) d_207_120 rfl rfl ?_
        refine g_i2l (pc' := 123) d_207_122 rfl ?_
        obtain ⟨r49, w47, hk48, h⟩ := h
        refine g_callS (pc' := 126) d_207_123 rfl st_207_131 (Or.inl rfl) na_193 ml_193 rfl rfl rfl rm_207_193 rfl rfl hk48 ?_
        refine g_lstore (pc' := 128) (l' := [some (.ref a0), some (.int i1), some (.long ((((-i1) - (3 : Int32)).toInt64))), none, some (.int (6 : Int32)), some (.long r49), none]) d_207_126 rfl ml_207 rfl rfl ?_
        refine g_aloadn (pc' := 129) d_207_128 rfl rfl ?_
        obtain ⟨fs50, hw51, h⟩ := h
        obtain ⟨x52, hv53, h⟩ := h
        refine g_getf (pc' := 132) d_207_129 rfl st_207_107 hw51 hv53 ?_
        refine g_lload (pc' := 134) d_207_132 rfl rfl ?_
        refine g_lc_ne (pc' := 138) (pm := 135) (pt := 162) d_207_134 rfl d_207_135 (by decide) rfl (fun c => ?_) (fun c => ?_)
        · replace h := h.1 c
          refine g_iconst (pc' := 163) d_207_162 rfl ci_1 ?_
          refine g_goto (pt := 167) d_207_163 (by decide) ?_
          exact g_zret d_207_167 rt_207 (Or.inr rfl) h
        · replace h := h.2 c
          refine g_aloadn (pc' := 139) d_207_138 rfl rfl ?_
          obtain ⟨x54, hv55, h⟩ := h
          refine g_getf (pc' := 142) d_207_139 rfl st_207_111 hw51 hv55 ?_
          refine g_lloadn (pc' := 143) d_207_142 rfl rfl ?_
          refine g_lload (pc' := 145) d_207_143 rfl rfl ?_
          refine g_iload (pc' := 147) d_207_145 rfl rfl ?_
          refine g_i2l (pc' := 148) d_207_147 rfl ?_
          refine g_lmul (pc' := 149) d_207_148 rfl ?_
          refine g_lsub (pc' := 150) d_207_149 rfl ?_
          refine g_ldc2 (pc' := 153) d_207_150 rfl st_207_125 cL_7420738134810 ?_
          refine g_iload (pc' := 155) d_207_153 rfl rfl ?_
          refine g_i2l (pc' := 156) d_207_155 rfl ?_
          obtain ⟨hc56, h⟩ := h
          refine g_ldiv (pc' := 157) d_207_156 rfl hc56 ?_
          refine g_lmul (pc' := 158) d_207_157 rfl ?_
          refine g_lc_eq (pc' := 162) (pm := 159) (pt := 166) d_207_158 rfl d_207_159 (by decide) rfl (fun c => ?_) (fun c => ?_)
          · replace h := h.1 c
            refine g_iconst (pc' := 167) d_207_166 rfl ci_0 ?_
            exact g_zret d_207_167 rt_207 (Or.inl rfl) h
          · replace h := h.2 c
            refine g_iconst (pc' := 163) d_207_162 rfl ci_1 ?_
            refine g_goto (pt := 167) d_207_163 (by decide) ?_
            exact g_zret d_207_167 rt_207 (Or.inr rfl) h
  · replace h := h.2 c
    refine g_aloadn (pc' := 26) d_207_25 rfl rfl ?_
    refine g_aloadn (pc' := 27) d_207_26 rfl rfl ?_
    obtain ⟨fs57, hw58, h⟩ := h
    obtain ⟨b59, hv60, h⟩ := h
    refine g_getf (pc' := 30) d_207_27 rfl st_207_13 hw58 hv60 ?_
    refine g_aloadn (pc' := 31) d_207_30 rfl rfl ?_
    obtain ⟨b61, hv62, h⟩ := h
    refine g_getf (pc' := 34) d_207_31 rfl st_207_24 hw58 hv62 ?_
    refine g_bipush (pc' := 36) d_207_34 rfl cb_40 ?_
    refine g_iloadn (pc' := 37) d_207_36 rfl rfl ?_
    refine g_iconst (pc' := 38) d_207_37 rfl ci_3 ?_
    refine g_iadd (pc' := 39) d_207_38 rfl ?_
    refine g_imul (pc' := 40) d_207_39 rfl ?_
    refine g_iloadn (pc' := 41) d_207_40 rfl rfl ?_
    refine g_iadd (pc' := 42) d_207_41 rfl ?_
    obtain ⟨n63, f64, hw65, h⟩ := h
    obtain ⟨hc66, h⟩ := h
    refine g_lald (pc' := 43) d_207_42 rfl hw65 hc66 ?_
    refine g_iloadn (pc' := 44) d_207_43 rfl rfl ?_
    obtain ⟨w67, hk68, h⟩ := h
    refine g_callV (pc' := 47) d_207_44 rfl st_207_127 na_191 ml_191 rfl rfl rfl rm_207_191 rfl rfl ow_191 hw58 hk68 ?_
    have h := h _ rfl
    refine g_iinc (pc' := 50) (l' := [some (.ref a0), some (.int i1), some (.int (i2 + (-6 : Int32))), none, none, none, none]) d_207_47 rfl rfl ci_m6 ml_207 rfl rfl ?_
    refine g_goto (pt := 21) d_207_50 (by decide) ?_
    exact h
-- 208 BernoulliWaysModel.dueBelow(I)J
theorem S_208_0 {a0 : Nat} {i1 : Int32} {w : xW} {r : Option Value × xW} (h : (¬ i1 = (1 : Int32) → ((irem i1 (2 : Int32)) = (1 : Int32) → r = (some (.long (1 : Int64)), w)) ∧ (¬ ((irem i1 (2 : Int32)) = (1 : Int32)) → (¬ i1 = 0 → xGo 208 27 [some (.ref a0), some (.int i1), some (.long (1 : Int64)), none, some (.int (0 : Int32))] [] w r) ∧ (¬ (¬ i1 = 0) → r = (some (.long (1 : Int64)), w)))) ∧ (¬ (¬ i1 = (1 : Int32)) → r = (some (.long (2 : Int64)), w))) : xGo 208 0 [some (.ref a0), some (.int i1), none, none, none] [] w r := by
  refine g_iloadn (pc' := 1) d_208_0 rfl rfl ?_
  refine g_iconst (pc' := 2) d_208_1 rfl ci_1 ?_
  refine g_ic_ne (pc' := 5) (pt := 9) d_208_2 (by decide) rfl (fun c => ?_) (fun c => ?_)
  · replace h := h.1 c
    refine g_iloadn (pc' := 10) d_208_9 rfl rfl ?_
    refine g_iconst (pc' := 11) d_208_10 rfl ci_2 ?_
    refine g_irem (pc' := 12) d_208_11 rfl (by decide) ?_
    refine g_iconst (pc' := 13) d_208_12 rfl ci_1 ?_
    refine g_ic_eq (pc' := 16) (pt := 20) d_208_13 (by decide) rfl (fun c => ?_) (fun c => ?_)
    · replace h := h.1 c
      refine g_lconst (pc' := 21) d_208_20 rfl cl_1 ?_
      exact g_lret d_208_21 rt_208 h
    · replace h := h.2 c
      refine g_iloadn (pc' := 17) d_208_16 rfl rfl ?_
      refine g_if_ne (pc' := 20) (pt := 22) d_208_17 (by decide) rfl (fun c => ?_) (fun c => ?_)
      · replace h := h.1 c
        refine g_lconst (pc' := 23) d_208_22 rfl cl_1 ?_
        refine g_lstoren (pc' := 24) (l' := [some (.ref a0), some (.int i1), some (.long (1 : Int64)), none, none]) d_208_23 rfl ml_208 rfl rfl ?_
        refine g_iconst (pc' := 25) d_208_24 rfl ci_0 ?_
        refine g_istore (pc' := 27) (l' := [some (.ref a0), some (.int i1), some (.long (1 : Int64)), none, some (.int (0 : Int32))]) d_208_25 rfl ml_208 rfl rfl ?_
        exact h
      · replace h := h.2 c
        refine g_lconst (pc' := 21) d_208_20 rfl cl_1 ?_
        exact g_lret d_208_21 rt_208 h
  · replace h := h.2 c
    refine g_ldc2 (pc' := 8) d_208_5 rfl st_208_216 cL_2 ?_
    exact g_lret d_208_8 rt_208 h
theorem S_208_27 {a0 : Nat} {i1 : Int32} {l2 : Int64} {i4 : Int32} {w : xW} {r : Option Value × xW} (h : ∃ fs1, w[a0]? = some (.inr (12, fs1)) ∧ ∃ b3, fs1[6]? = some (.ref b3) ∧ ∃ n5 f6, w[b3]? = some (.inl (.inl (n5, f6))) ∧ (¬ (i4 < 0 ∨ n5 ≤ i4.toNatClampNeg)) ∧ ((i1 + (1 : Int32)) < (f6 i4.toNatClampNeg) → r = (some (.long l2), w)) ∧ (¬ ((i1 + (1 : Int32)) < (f6 i4.toNatClampNeg)) → (¬ (i4 < 0 ∨ n5 ≤ i4.toNatClampNeg)) ∧ (¬ ((f6 i4.toNatClampNeg) - (1 : Int32)) = 0) ∧ (¬ (irem i1 ((f6 i4.toNatClampNeg) - (1 : Int32))) = 0 → ∀ v11 : Int32, v11 = i4 + (1 : Int32) → xGo 208 27 [some (.ref a0), some (.int i1), some (.long l2), none, some (.int v11)] [] w r) ∧ (¬ (¬ (irem i1 ((f6 i4.toNatClampNeg) - (1 : Int32))) = 0) → (¬ (i4 < 0 ∨ n5 ≤ i4.toNatClampNeg)) ∧ ∀ v13 : Int64, v13 = (l2 * ((f6 i4.toNatClampNeg).toInt64)) → ∀ v14 : Int32, v14 = i4 + (1 : Int32) → xGo 208 27 [some (.ref a0), some (.int i1), some (.long v13), none, some (.int v14)] [] w r))) : xGo 208 27 [some (.ref a0), some (.int i1), some (.long l2), none, some (.int i4)] [] w r := by
  refine g_aloadn (pc' := 28) d_208_27 rfl rfl ?_
  obtain ⟨fs1, hw2, h⟩ := h
  obtain ⟨b3, hv4, h⟩ := h
  refine g_getf (pc' := 31) d_208_28 rfl st_208_27 hw2 hv4 ?_
  refine g_iload (pc' := 33) d_208_31 rfl rfl ?_
  obtain ⟨n5, f6, hw7, h⟩ := h
  obtain ⟨hc8, h⟩ := h
  refine g_iald (pc' := 34) d_208_33 rfl hw7 hc8 ?_
  refine g_iloadn (pc' := 35) d_208_34 rfl rfl ?_
  refine g_iconst (pc' := 36) d_208_35 rfl ci_1 ?_
  refine g_iadd (pc' := 37) d_208_36 rfl ?_
  refine g_ic_gt (pc' := 40) (pt := 71) d_208_37 (by decide) rfl (fun c => ?_) (fun c => ?_)
  · replace h := h.1 c
    refine g_lloadn (pc' := 72) d_208_71 rfl rfl ?_
    exact g_lret d_208_72 rt_208 h
  · replace h := h.2 c
    refine g_iloadn (pc' := 41) d_208_40 rfl rfl ?_
    refine g_aloadn (pc' := 42) d_208_41 rfl rfl ?_
    refine g_getf (pc' := 45) d_208_42 rfl st_208_27 hw2 hv4 ?_
    refine g_iload (pc' := 47) d_208_45 rfl rfl ?_
    obtain ⟨hc9, h⟩ := h
    refine g_iald (pc' := 48) d_208_47 rfl hw7 hc9 ?_
    refine g_iconst (pc' := 49) d_208_48 rfl ci_1 ?_
    refine g_isub (pc' := 50) d_208_49 rfl ?_
    obtain ⟨hc10, h⟩ := h
    refine g_irem (pc' := 51) d_208_50 rfl hc10 ?_
    refine g_if_ne (pc' := 54) (pt := 65) d_208_51 (by decide) rfl (fun c => ?_) (fun c => ?_)
    · replace h := h.1 c
      have h := h _ rfl
      refine g_iinc (pc' := 68) (l' := [some (.ref a0), some (.int i1), some (.long l2), none, some (.int (i4 + (1 : Int32)))]) d_208_65 rfl rfl ci_1 ml_208 rfl rfl ?_
      refine g_goto (pt := 27) d_208_68 (by decide) ?_
      exact h
    · replace h := h.2 c
      refine g_lloadn (pc' := 55) d_208_54 rfl rfl ?_
      refine g_aloadn (pc' := 56) d_208_55 rfl rfl ?_
      refine g_getf (pc' := 59) d_208_56 rfl st_208_27 hw2 hv4 ?_
      refine g_iload (pc' := 61) d_208_59 rfl rfl ?_
      obtain ⟨hc12, h⟩ := h
      refine g_iald (pc' := 62) d_208_61 rfl hw7 hc12 ?_
      refine g_i2l (pc' := 63) d_208_62 rfl ?_
      refine g_lmul (pc' := 64) d_208_63 rfl ?_
      have h := h _ rfl
      refine g_lstoren (pc' := 65) (l' := [some (.ref a0), some (.int i1), some (.long ((l2 * ((f6 i4.toNatClampNeg).toInt64)))), none, some (.int i4)]) d_208_64 rfl ml_208 rfl rfl ?_
      have h := h _ rfl
      refine g_iinc (pc' := 68) (l' := [some (.ref a0), some (.int i1), some (.long ((l2 * ((f6 i4.toNatClampNeg).toInt64)))), none, some (.int (i4 + (1 : Int32)))]) d_208_65 rfl rfl ci_1 ml_208 rfl rfl ?_
      refine g_goto (pt := 27) d_208_68 (by decide) ?_
      exact h
-- 209 BernoulliWaysModel.signOf(I)I
theorem S_209_0 {a0 : Nat} {i1 : Int32} {w : xW} {r : Option Value × xW} (h : ∃ fs1, w[a0]? = some (.inr (12, fs1)) ∧ ∃ b3, fs1[2]? = some (.ref b3) ∧ ∃ n5 f6, w[b3]? = some (.inl (.inr (n5, f6))) ∧ (¬ (((3 : Int32) * i1) < 0 ∨ n5 ≤ ((3 : Int32) * i1).toNatClampNeg)) ∧ ((0 : Int64) ≤ (f6 ((3 : Int32) * i1).toNatClampNeg) → (¬ (((3 : Int32) * i1) < 0 ∨ n5 ≤ ((3 : Int32) * i1).toNatClampNeg)) ∧ ((0 : Int64) < (f6 ((3 : Int32) * i1).toNatClampNeg) → r = (some (.int (1 : Int32)), w)) ∧ (¬ ((0 : Int64) < (f6 ((3 : Int32) * i1).toNatClampNeg)) → (¬ ((((3 : Int32) * i1) + (1 : Int32)) < 0 ∨ n5 ≤ (((3 : Int32) * i1) + (1 : Int32)).toNatClampNeg)) ∧ ((f6 (((3 : Int32) * i1) + (1 : Int32)).toNatClampNeg) ≤ (0 : Int64) → r = (some (.int (0 : Int32)), w)) ∧ (¬ ((f6 (((3 : Int32) * i1) + (1 : Int32)).toNatClampNeg) ≤ (0 : Int64)) → r = (some (.int (1 : Int32)), w)))) ∧ (¬ ((0 : Int64) ≤ (f6 ((3 : Int32) * i1).toNatClampNeg)) → r = (some (.int (-1 : Int32)), w))) : xGo 209 0 [some (.ref a0), some (.int i1)] [] w r := by
  refine g_aloadn (pc' := 1) d_209_0 rfl rfl ?_
  obtain ⟨fs1, hw2, h⟩ := h
  obtain ⟨b3, hv4, h⟩ := h
  refine g_getf (pc' := 4) d_209_1 rfl st_209_13 hw2 hv4 ?_
  refine g_iconst (pc' := 5) d_209_4 rfl ci_3 ?_
  refine g_iloadn (pc' := 6) d_209_5 rfl rfl ?_
  refine g_imul (pc' := 7) d_209_6 rfl ?_
  obtain ⟨n5, f6, hw7, h⟩ := h
  obtain ⟨hc8, h⟩ := h
  refine g_lald (pc' := 8) d_209_7 rfl hw7 hc8 ?_
  refine g_lconst (pc' := 9) d_209_8 rfl cl_0 ?_
  refine g_lc_ge (pc' := 13) (pm := 10) (pt := 17) d_209_9 rfl d_209_10 (by decide) rfl (fun c => ?_) (fun c => ?_)
  · replace h := h.1 c
    refine g_aloadn (pc' := 18) d_209_17 rfl rfl ?_
    refine g_getf (pc' := 21) d_209_18 rfl st_209_13 hw2 hv4 ?_
    refine g_iconst (pc' := 22) d_209_21 rfl ci_3 ?_
    refine g_iloadn (pc' := 23) d_209_22 rfl rfl ?_
    refine g_imul (pc' := 24) d_209_23 rfl ?_
    obtain ⟨hc9, h⟩ := h
    refine g_lald (pc' := 25) d_209_24 rfl hw7 hc9 ?_
    refine g_lconst (pc' := 26) d_209_25 rfl cl_0 ?_
    refine g_lc_gt (pc' := 30) (pm := 27) (pt := 45) d_209_26 rfl d_209_27 (by decide) rfl (fun c => ?_) (fun c => ?_)
    · replace h := h.1 c
      refine g_iconst (pc' := 46) d_209_45 rfl ci_1 ?_
      refine g_goto (pt := 50) d_209_46 (by decide) ?_
      exact g_iret d_209_50 rt_209 h
    · replace h := h.2 c
      refine g_aloadn (pc' := 31) d_209_30 rfl rfl ?_
      refine g_getf (pc' := 34) d_209_31 rfl st_209_13 hw2 hv4 ?_
      refine g_iconst (pc' := 35) d_209_34 rfl ci_3 ?_
      refine g_iloadn (pc' := 36) d_209_35 rfl rfl ?_
      refine g_imul (pc' := 37) d_209_36 rfl ?_
      refine g_iconst (pc' := 38) d_209_37 rfl ci_1 ?_
      refine g_iadd (pc' := 39) d_209_38 rfl ?_
      obtain ⟨hc10, h⟩ := h
      refine g_lald (pc' := 40) d_209_39 rfl hw7 hc10 ?_
      refine g_lconst (pc' := 41) d_209_40 rfl cl_0 ?_
      refine g_lc_le (pc' := 45) (pm := 42) (pt := 49) d_209_41 rfl d_209_42 (by decide) rfl (fun c => ?_) (fun c => ?_)
      · replace h := h.1 c
        refine g_iconst (pc' := 50) d_209_49 rfl ci_0 ?_
        exact g_iret d_209_50 rt_209 h
      · replace h := h.2 c
        refine g_iconst (pc' := 46) d_209_45 rfl ci_1 ?_
        refine g_goto (pt := 50) d_209_46 (by decide) ?_
        exact g_iret d_209_50 rt_209 h
  · replace h := h.2 c
    refine g_iconst (pc' := 14) d_209_13 rfl ci_m1 ?_
    refine g_goto (pt := 50) d_209_14 (by decide) ?_
    exact g_iret d_209_50 rt_209 h
-- 210 BernoulliWaysModel.dueSign(I)I
theorem S_210_0 {i0 : Int32} {w : xW} {r : Option Value × xW} (h : (¬ i0 = 0 → (¬ i0 = (1 : Int32) → (¬ (irem i0 (2 : Int32)) = (1 : Int32) → (¬ (irem i0 (4 : Int32)) = (2 : Int32) → r = (some (.int (-1 : Int32)), w)) ∧ (¬ (¬ (irem i0 (4 : Int32)) = (2 : Int32)) → r = (some (.int (1 : Int32)), w))) ∧ (¬ (¬ (irem i0 (2 : Int32)) = (1 : Int32)) → r = (some (.int (0 : Int32)), w))) ∧ (¬ (¬ i0 = (1 : Int32)) → r = (some (.int (-1 : Int32)), w))) ∧ (¬ (¬ i0 = 0) → r = (some (.int (1 : Int32)), w))) : xGo 210 0 [some (.int i0)] [] w r := by
  refine g_iloadn (pc' := 1) d_210_0 rfl rfl ?_
  refine g_if_ne (pc' := 4) (pt := 8) d_210_1 (by decide) rfl (fun c => ?_) (fun c => ?_)
  · replace h := h.1 c
    refine g_iloadn (pc' := 9) d_210_8 rfl rfl ?_
    refine g_iconst (pc' := 10) d_210_9 rfl ci_1 ?_
    refine g_ic_ne (pc' := 13) (pt := 17) d_210_10 (by decide) rfl (fun c => ?_) (fun c => ?_)
    · replace h := h.1 c
      refine g_iloadn (pc' := 18) d_210_17 rfl rfl ?_
      refine g_iconst (pc' := 19) d_210_18 rfl ci_2 ?_
      refine g_irem (pc' := 20) d_210_19 rfl (by decide) ?_
      refine g_iconst (pc' := 21) d_210_20 rfl ci_1 ?_
      refine g_ic_ne (pc' := 24) (pt := 28) d_210_21 (by decide) rfl (fun c => ?_) (fun c => ?_)
      · replace h := h.1 c
        refine g_iloadn (pc' := 29) d_210_28 rfl rfl ?_
        refine g_iconst (pc' := 30) d_210_29 rfl ci_4 ?_
        refine g_irem (pc' := 31) d_210_30 rfl (by decide) ?_
        refine g_iconst (pc' := 32) d_210_31 rfl ci_2 ?_
        refine g_ic_ne (pc' := 35) (pt := 39) d_210_32 (by decide) rfl (fun c => ?_) (fun c => ?_)
        · replace h := h.1 c
          refine g_iconst (pc' := 40) d_210_39 rfl ci_m1 ?_
          exact g_iret d_210_40 rt_210 h
        · replace h := h.2 c
          refine g_iconst (pc' := 36) d_210_35 rfl ci_1 ?_
          refine g_goto (pt := 40) d_210_36 (by decide) ?_
          exact g_iret d_210_40 rt_210 h
      · replace h := h.2 c
        refine g_iconst (pc' := 25) d_210_24 rfl ci_0 ?_
        refine g_goto (pt := 40) d_210_25 (by decide) ?_
        exact g_iret d_210_40 rt_210 h
    · replace h := h.2 c
      refine g_iconst (pc' := 14) d_210_13 rfl ci_m1 ?_
      refine g_goto (pt := 40) d_210_14 (by decide) ?_
      exact g_iret d_210_40 rt_210 h
  · replace h := h.2 c
    refine g_iconst (pc' := 5) d_210_4 rfl ci_1 ?_
    refine g_goto (pt := 40) d_210_5 (by decide) ?_
    exact g_iret d_210_40 rt_210 h
-- 211 BernoulliWaysModel.breaksSum(I)Z
theorem S_211_0 {a0 : Nat} {i1 : Int32} {w : xW} {r : Option Value × xW} (h : ((1 : Int32) ≤ i1 → ∃ fs1, w[a0]? = some (.inr (12, fs1)) ∧ ∃ b3, fs1[2]? = some (.ref b3) ∧ ∃ w5, xCall 190 [.ref a0, .ref b3, .int (i1 + (1 : Int32)), .int i1] w (none, w5) ∧ ∃ fs7, w5[a0]? = some (.inr (12, fs7)) ∧ ∃ x9, fs7[8]? = some (.long x9) ∧ (¬ x9 = (0 : Int64) → r = (some (.int (1 : Int32)), w5)) ∧ (¬ (¬ x9 = (0 : Int64)) → ∃ x11, fs7[9]? = some (.long x11) ∧ (x11 = (0 : Int64) → r = (some (.int (0 : Int32)), w5)) ∧ (¬ (x11 = (0 : Int64)) → r = (some (.int (1 : Int32)), w5)))) ∧ (¬ ((1 : Int32) ≤ i1) → r = (some (.int (0 : Int32)), w))) : xGo 211 0 [some (.ref a0), some (.int i1)] [] w r := by
  refine g_iloadn (pc' := 1) d_211_0 rfl rfl ?_
  refine g_iconst (pc' := 2) d_211_1 rfl ci_1 ?_
  refine g_ic_ge (pc' := 5) (pt := 7) d_211_2 (by decide) rfl (fun c => ?_) (fun c => ?_)
  · replace h := h.1 c
    refine g_aloadn (pc' := 8) d_211_7 rfl rfl ?_
    refine g_aloadn (pc' := 9) d_211_8 rfl rfl ?_
    obtain ⟨fs1, hw2, h⟩ := h
    obtain ⟨b3, hv4, h⟩ := h
    refine g_getf (pc' := 12) d_211_9 rfl st_211_13 hw2 hv4 ?_
    refine g_iloadn (pc' := 13) d_211_12 rfl rfl ?_
    refine g_iconst (pc' := 14) d_211_13 rfl ci_1 ?_
    refine g_iadd (pc' := 15) d_211_14 rfl ?_
    refine g_iloadn (pc' := 16) d_211_15 rfl rfl ?_
    obtain ⟨w5, hk6, h⟩ := h
    refine g_callV (pc' := 19) d_211_16 rfl st_211_103 na_190 ml_190 rfl rfl rfl rm_211_190 rfl rfl ow_190 hw2 hk6 ?_
    refine g_aloadn (pc' := 20) d_211_19 rfl rfl ?_
    obtain ⟨fs7, hw8, h⟩ := h
    obtain ⟨x9, hv10, h⟩ := h
    refine g_getf (pc' := 23) d_211_20 rfl st_211_107 hw8 hv10 ?_
    refine g_lconst (pc' := 24) d_211_23 rfl cl_0 ?_
    refine g_lc_ne (pc' := 28) (pm := 25) (pt := 37) d_211_24 rfl d_211_25 (by decide) rfl (fun c => ?_) (fun c => ?_)
    · replace h := h.1 c
      refine g_iconst (pc' := 38) d_211_37 rfl ci_1 ?_
      refine g_goto (pt := 42) d_211_38 (by decide) ?_
      exact g_zret d_211_42 rt_211 (Or.inr rfl) h
    · replace h := h.2 c
      refine g_aloadn (pc' := 29) d_211_28 rfl rfl ?_
      obtain ⟨x11, hv12, h⟩ := h
      refine g_getf (pc' := 32) d_211_29 rfl st_211_111 hw8 hv12 ?_
      refine g_lconst (pc' := 33) d_211_32 rfl cl_0 ?_
      refine g_lc_eq (pc' := 37) (pm := 34) (pt := 41) d_211_33 rfl d_211_34 (by decide) rfl (fun c => ?_) (fun c => ?_)
      · replace h := h.1 c
        refine g_iconst (pc' := 42) d_211_41 rfl ci_0 ?_
        exact g_zret d_211_42 rt_211 (Or.inl rfl) h
      · replace h := h.2 c
        refine g_iconst (pc' := 38) d_211_37 rfl ci_1 ?_
        refine g_goto (pt := 42) d_211_38 (by decide) ?_
        exact g_zret d_211_42 rt_211 (Or.inr rfl) h
  · replace h := h.2 c
    refine g_iconst (pc' := 6) d_211_5 rfl ci_0 ?_
    exact g_zret d_211_6 rt_211 (Or.inl rfl) h
-- 212 BernoulliWaysModel.breaksKummer(I)Z
theorem S_212_0 {a0 : Nat} {i1 : Int32} {w : xW} {r : Option Value × xW} (h : xGo 212 2 [some (.ref a0), some (.int i1), some (.int (2 : Int32)), none] [] w r) : xGo 212 0 [some (.ref a0), some (.int i1), none, none] [] w r := by
  refine g_iconst (pc' := 1) d_212_0 rfl ci_2 ?_
  refine g_istoren (pc' := 2) (l' := [some (.ref a0), some (.int i1), some (.int (2 : Int32)), none]) d_212_1 rfl ml_212 rfl rfl ?_
  exact h
theorem S_212_2 {a0 : Nat} {i1 : Int32} {i2 : Int32} {w : xW} {r : Option Value × xW} (h : ∃ fs1, w[a0]? = some (.inr (12, fs1)) ∧ ∃ b3, fs1[6]? = some (.ref b3) ∧ ∃ n5 f6, w[b3]? = some (.inl (.inl (n5, f6))) ∧ (¬ (i2 < 0 ∨ n5 ≤ i2.toNatClampNeg)) ∧ ((37 : Int32) < (f6 i2.toNatClampNeg) → r = (some (.int (0 : Int32)), w)) ∧ (¬ ((37 : Int32) < (f6 i2.toNatClampNeg)) → xGo 212 15 [some (.ref a0), some (.int i1), some (.int i2), some (.int (2 : Int32))] [] w r)) : xGo 212 2 [some (.ref a0), some (.int i1), some (.int i2), none] [] w r := by
  refine g_aloadn (pc' := 3) d_212_2 rfl rfl ?_
  obtain ⟨fs1, hw2, h⟩ := h
  obtain ⟨b3, hv4, h⟩ := h
  refine g_getf (pc' := 6) d_212_3 rfl st_212_27 hw2 hv4 ?_
  refine g_iloadn (pc' := 7) d_212_6 rfl rfl ?_
  obtain ⟨n5, f6, hw7, h⟩ := h
  obtain ⟨hc8, h⟩ := h
  refine g_iald (pc' := 8) d_212_7 rfl hw7 hc8 ?_
  refine g_bipush (pc' := 10) d_212_8 rfl cb_37 ?_
  refine g_ic_gt (pc' := 13) (pt := 49) d_212_10 (by decide) rfl (fun c => ?_) (fun c => ?_)
  · replace h := h.1 c
    refine g_iconst (pc' := 50) d_212_49 rfl ci_0 ?_
    exact g_zret d_212_50 rt_212 (Or.inl rfl) h
  · replace h := h.2 c
    refine g_iconst (pc' := 14) d_212_13 rfl ci_2 ?_
    refine g_istoren (pc' := 15) (l' := [some (.ref a0), some (.int i1), some (.int i2), some (.int (2 : Int32))]) d_212_14 rfl ml_212 rfl rfl ?_
    exact h
theorem S_212_15 {a0 : Nat} {i1 : Int32} {i2 : Int32} {i3 : Int32} {w : xW} {r : Option Value × xW} (h : (i1 ≤ i3 → ∀ v1 : Int32, v1 = i2 + (1 : Int32) → xGo 212 2 [some (.ref a0), some (.int i1), some (.int v1), none] [] w r) ∧ (¬ (i1 ≤ i3) → ∃ fs2, w[a0]? = some (.inr (12, fs2)) ∧ ∃ b4, fs2[6]? = some (.ref b4) ∧ ∃ n6 f7, w[b4]? = some (.inl (.inl (n6, f7))) ∧ (¬ (i2 < 0 ∨ n6 ≤ i2.toNatClampNeg)) ∧ ∃ r12 w10, xCall 213 [.ref a0, .int (f7 i2.toNatClampNeg), .int i3, .int i1] w (some (.int r12), w10) ∧ (r12 ≤ 0 → ∀ v13 : Int32, v13 = i3 + (2 : Int32) → xGo 212 15 [some (.ref a0), some (.int i1), some (.int i2), some (.int v13)] [] w10 r) ∧ (¬ (r12 ≤ 0) → r = (some (.int (1 : Int32)), w10)))) : xGo 212 15 [some (.ref a0), some (.int i1), some (.int i2), some (.int i3)] [] w r := by
  refine g_iloadn (pc' := 16) d_212_15 rfl rfl ?_
  refine g_iloadn (pc' := 17) d_212_16 rfl rfl ?_
  refine g_ic_ge (pc' := 20) (pt := 43) d_212_17 (by decide) rfl (fun c => ?_) (fun c => ?_)
  · replace h := h.1 c
    have h := h _ rfl
    refine g_iinc (pc' := 46) (l' := [some (.ref a0), some (.int i1), some (.int (i2 + (1 : Int32))), some (.int i3)]) d_212_43 rfl rfl ci_1 ml_212 rfl rfl ?_
    refine g_goto (pt := 2) d_212_46 (by decide) ?_
    exact xGo.more (xle_s (xle_s (xle_s (xle_n xle_0)))) h
  · replace h := h.2 c
    refine g_aloadn (pc' := 21) d_212_20 rfl rfl ?_
    refine g_aloadn (pc' := 22) d_212_21 rfl rfl ?_
    obtain ⟨fs2, hw3, h⟩ := h
    obtain ⟨b4, hv5, h⟩ := h
    refine g_getf (pc' := 25) d_212_22 rfl st_212_27 hw3 hv5 ?_
    refine g_iloadn (pc' := 26) d_212_25 rfl rfl ?_
    obtain ⟨n6, f7, hw8, h⟩ := h
    obtain ⟨hc9, h⟩ := h
    refine g_iald (pc' := 27) d_212_26 rfl hw8 hc9 ?_
    refine g_iloadn (pc' := 28) d_212_27 rfl rfl ?_
    refine g_iloadn (pc' := 29) d_212_28 rfl rfl ?_
    obtain ⟨r12, w10, hk11, h⟩ := h
    refine g_callV (pc' := 32) d_212_29 rfl st_212_205 na_213 ml_213 rfl rfl rfl rm_212_213 rfl rfl ow_213 hw3 hk11 ?_
    refine g_if_le (pc' := 35) (pt := 37) d_212_32 (by decide) rfl (fun c => ?_) (fun c => ?_)
    · replace h := h.1 c
      have h := h _ rfl
      refine g_iinc (pc' := 40) (l' := [some (.ref a0), some (.int i1), some (.int i2), some (.int (i3 + (2 : Int32)))]) d_212_37 rfl rfl ci_2 ml_212 rfl rfl ?_
      refine g_goto (pt := 15) d_212_40 (by decide) ?_
      exact h
    · replace h := h.2 c
      refine g_iconst (pc' := 36) d_212_35 rfl ci_1 ?_
      exact g_zret d_212_36 rt_212 (Or.inr rfl) h
-- 213 BernoulliWaysModel.kummerOf(III)I
theorem S_213_0 {a0 : Nat} {i1 : Int32} {i2 : Int32} {i3 : Int32} {w : xW} {r : Option Value × xW} (h : (i2 < (2 : Int32) → r = (some (.int (-3 : Int32)), w)) ∧ (¬ (i2 < (2 : Int32)) → (i3 < (2 : Int32) → r = (some (.int (-3 : Int32)), w)) ∧ (¬ (i3 < (2 : Int32)) → ((irem i2 (2 : Int32)) = (1 : Int32) → r = (some (.int (-3 : Int32)), w)) ∧ (¬ ((irem i2 (2 : Int32)) = (1 : Int32)) → ((irem i3 (2 : Int32)) = (1 : Int32) → r = (some (.int (-3 : Int32)), w)) ∧ (¬ ((irem i3 (2 : Int32)) = (1 : Int32)) → (¬ (i1 - (1 : Int32)) = 0) ∧ (¬ (irem (i2 - i3) (i1 - (1 : Int32))) = 0 → r = (some (.int (-3 : Int32)), w)) ∧ (¬ (¬ (irem (i2 - i3) (i1 - (1 : Int32))) = 0) → (¬ (i1 - (1 : Int32)) = 0) ∧ ((irem i2 (i1 - (1 : Int32))) = 0 → r = (some (.int (-3 : Int32)), w)) ∧ (¬ ((irem i2 (i1 - (1 : Int32))) = 0) → (¬ i1 = 0) ∧ ((irem i2 i1) = 0 → r = (some (.int (-3 : Int32)), w)) ∧ (¬ ((irem i2 i1) = 0) → (¬ i1 = 0) ∧ (¬ (irem i3 i1) = 0 → ∃ fs5, w[a0]? = some (.inr (12, fs5)) ∧ ∃ b7, fs5[2]? = some (.ref b7) ∧ ∃ r11 w9, xCall 214 [.ref a0, .ref b7, .int i2, .int i1] w (some (.int r11), w9) ∧ ∃ fs12, w9[a0]? = some (.inr (12, fs12)) ∧ ∃ b14, fs12[2]? = some (.ref b14) ∧ ∃ r18 w16, xCall 214 [.ref a0, .ref b14, .int i3, .int i1] w9 (some (.int r18), w16) ∧ (r11 < 0 → r = (some (.int (-3 : Int32)), w16)) ∧ (¬ (r11 < 0) → (0 ≤ r18 → (¬ i1 = 0) ∧ ∃ r22 w20, xCall 216 [.int (irem i2 i1), .int (i1 - (2 : Int32)), .int i1] w16 (some (.int r22), w20) ∧ (¬ i1 = 0) ∧ ∃ r26 w24, xCall 216 [.int (irem i3 i1), .int (i1 - (2 : Int32)), .int i1] w20 (some (.int r26), w24) ∧ ∃ r29 w27, xCall 215 [.long (((r11.toInt64) * (r22.toInt64)) - ((r18.toInt64) * (r26.toInt64))), .int i1] w24 (some (.int r29), w27) ∧ r = (some (.int r29), w27)) ∧ (¬ (0 ≤ r18) → r = (some (.int (-3 : Int32)), w16)))) ∧ (¬ (¬ (irem i3 i1) = 0) → r = (some (.int (-3 : Int32)), w)))))))))) : xGo 213 0 [some (.ref a0), some (.int i1), some (.int i2), some (.int i3), none, none] [] w r := by
  refine g_iloadn (pc' := 1) d_213_0 rfl rfl ?_
  refine g_iconst (pc' := 2) d_213_1 rfl ci_2 ?_
  refine g_ic_lt (pc' := 5) (pt := 54) d_213_2 (by decide) rfl (fun c => ?_) (fun c => ?_)
  · replace h := h.1 c
    refine g_bipush (pc' := 56) d_213_54 rfl cb_m3 ?_
    exact g_iret d_213_56 rt_213 h
  · replace h := h.2 c
    refine g_iloadn (pc' := 6) d_213_5 rfl rfl ?_
    refine g_iconst (pc' := 7) d_213_6 rfl ci_2 ?_
    refine g_ic_lt (pc' := 10) (pt := 54) d_213_7 (by decide) rfl (fun c => ?_) (fun c => ?_)
    · replace h := h.1 c
      refine g_bipush (pc' := 56) d_213_54 rfl cb_m3 ?_
      exact g_iret d_213_56 rt_213 h
    · replace h := h.2 c
      refine g_iloadn (pc' := 11) d_213_10 rfl rfl ?_
      refine g_iconst (pc' := 12) d_213_11 rfl ci_2 ?_
      refine g_irem (pc' := 13) d_213_12 rfl (by decide) ?_
      refine g_iconst (pc' := 14) d_213_13 rfl ci_1 ?_
      refine g_ic_eq (pc' := 17) (pt := 54) d_213_14 (by decide) rfl (fun c => ?_) (fun c => ?_)
      · replace h := h.1 c
        refine g_bipush (pc' := 56) d_213_54 rfl cb_m3 ?_
        exact g_iret d_213_56 rt_213 h
      · replace h := h.2 c
        refine g_iloadn (pc' := 18) d_213_17 rfl rfl ?_
        refine g_iconst (pc' := 19) d_213_18 rfl ci_2 ?_
        refine g_irem (pc' := 20) d_213_19 rfl (by decide) ?_
        refine g_iconst (pc' := 21) d_213_20 rfl ci_1 ?_
        refine g_ic_eq (pc' := 24) (pt := 54) d_213_21 (by decide) rfl (fun c => ?_) (fun c => ?_)
        · replace h := h.1 c
          refine g_bipush (pc' := 56) d_213_54 rfl cb_m3 ?_
          exact g_iret d_213_56 rt_213 h
        · replace h := h.2 c
          refine g_iloadn (pc' := 25) d_213_24 rfl rfl ?_
          refine g_iloadn (pc' := 26) d_213_25 rfl rfl ?_
          refine g_isub (pc' := 27) d_213_26 rfl ?_
          refine g_iloadn (pc' := 28) d_213_27 rfl rfl ?_
          refine g_iconst (pc' := 29) d_213_28 rfl ci_1 ?_
          refine g_isub (pc' := 30) d_213_29 rfl ?_
          obtain ⟨hc1, h⟩ := h
          refine g_irem (pc' := 31) d_213_30 rfl hc1 ?_
          refine g_if_ne (pc' := 34) (pt := 54) d_213_31 (by decide) rfl (fun c => ?_) (fun c => ?_)
          · replace h := h.1 c
            refine g_bipush (pc' := 56) d_213_54 rfl cb_m3 ?_
            exact g_iret d_213_56 rt_213 h
          · replace h := h.2 c
            refine g_iloadn (pc' := 35) d_213_34 rfl rfl ?_
            refine g_iloadn (pc' := 36) d_213_35 rfl rfl ?_
            refine g_iconst (pc' := 37) d_213_36 rfl ci_1 ?_
            refine g_isub (pc' := 38) d_213_37 rfl ?_
            obtain ⟨hc2, h⟩ := h
            refine g_irem (pc' := 39) d_213_38 rfl hc2 ?_
            refine g_if_eq (pc' := 42) (pt := 54) d_213_39 (by decide) rfl (fun c => ?_) (fun c => ?_)
            · replace h := h.1 c
              refine g_bipush (pc' := 56) d_213_54 rfl cb_m3 ?_
              exact g_iret d_213_56 rt_213 h
            · replace h := h.2 c
              refine g_iloadn (pc' := 43) d_213_42 rfl rfl ?_
              refine g_iloadn (pc' := 44) d_213_43 rfl rfl ?_
              obtain ⟨hc3, h⟩ := h
              refine g_irem (pc' := 45) d_213_44 rfl hc3 ?_
              refine g_if_eq (pc' := 48) (pt := 54) d_213_45 (by decide) rfl (fun c => ?_) (fun c => ?_)
              · replace h := h.1 c
                refine g_bipush (pc' := 56) d_213_54 rfl cb_m3 ?_
                exact g_iret d_213_56 rt_213 h
              · replace h := h.2 c
                refine g_iloadn (pc' := 49) d_213_48 rfl rfl ?_
                refine g_iloadn (pc' := 50) d_213_49 rfl rfl ?_
                obtain ⟨hc4, h⟩ := h
                refine g_irem (pc' := 51) d_213_50 rfl hc4 ?_
                refine g_if_ne (pc' := 54) (pt := 57) d_213_51 (by decide) rfl (fun c => ?_) (fun c => ?_)
                · replace h := h.1 c
                  refine g_aloadn (pc' := 58) d_213_57 rfl rfl ?_
                  refine g_aloadn (pc' := 59) d_213_58 rfl rfl ?_
                  obtain ⟨fs5, hw6, h⟩ := h
                  obtain ⟨b7, hv8, h⟩ := h
                  refine g_getf (pc' := 62) d_213_59 rfl st_213_13 hw6 hv8 ?_
                  refine g_iloadn (pc' := 63) d_213_62 rfl rfl ?_
                  refine g_iloadn (pc' := 64) d_213_63 rfl rfl ?_
                  obtain ⟨r11, w9, hk10, h⟩ := h
                  refine g_callV (pc' := 67) d_213_64 rfl st_213_188 na_214 ml_214 rfl rfl rfl rm_213_214 rfl rfl ow_214 hw6 hk10 ?_
                  refine g_istore (pc' := 69) (l' := [some (.ref a0), some (.int i1), some (.int i2), some (.int i3), some (.int r11), none]) d_213_67 rfl ml_213 rfl rfl ?_
                  refine g_aloadn (pc' := 70) d_213_69 rfl rfl ?_
                  refine g_aloadn (pc' := 71) d_213_70 rfl rfl ?_
                  obtain ⟨fs12, hw13, h⟩ := h
                  obtain ⟨b14, hv15, h⟩ := h
                  refine g_getf (pc' := 74) d_213_71 rfl st_213_13 hw13 hv15 ?_
                  refine g_iloadn (pc' := 75) d_213_74 rfl rfl ?_
                  refine g_iloadn (pc' := 76) d_213_75 rfl rfl ?_
                  obtain ⟨r18, w16, hk17, h⟩ := h
                  refine g_callV (pc' := 79) d_213_76 rfl st_213_188 na_214 ml_214 rfl rfl rfl rm_213_214 rfl rfl ow_214 hw13 hk17 ?_
                  refine g_istore (pc' := 81) (l' := [some (.ref a0), some (.int i1), some (.int i2), some (.int i3), some (.int r11), some (.int r18)]) d_213_79 rfl ml_213 rfl rfl ?_
                  refine g_iload (pc' := 83) d_213_81 rfl rfl ?_
                  refine g_if_lt (pc' := 86) (pt := 91) d_213_83 (by decide) rfl (fun c => ?_) (fun c => ?_)
                  · replace h := h.1 c
                    refine g_bipush (pc' := 93) d_213_91 rfl cb_m3 ?_
                    exact g_iret d_213_93 rt_213 h
                  · replace h := h.2 c
                    refine g_iload (pc' := 88) d_213_86 rfl rfl ?_
                    refine g_if_ge (pc' := 91) (pt := 94) d_213_88 (by decide) rfl (fun c => ?_) (fun c => ?_)
                    · replace h := h.1 c
                      refine g_iload (pc' := 96) d_213_94 rfl rfl ?_
                      refine g_i2l (pc' := 97) d_213_96 rfl ?_
                      refine g_iloadn (pc' := 98) d_213_97 rfl rfl ?_
                      refine g_iloadn (pc' := 99) d_213_98 rfl rfl ?_
                      obtain ⟨hc19, h⟩ := h
                      refine g_irem (pc' := 100) d_213_99 rfl hc19 ?_
                      refine g_iloadn (pc' := 101) d_213_100 rfl rfl ?_
                      refine g_iconst (pc' := 102) d_213_101 rfl ci_2 ?_
                      refine g_isub (pc' := 103) d_213_102 rfl ?_
                      refine g_iloadn (pc' := 104) d_213_103 rfl rfl ?_
                      obtain ⟨r22, w20, hk21, h⟩ := h
                      refine g_callS (pc' := 107) d_213_104 rfl st_213_174 (Or.inl rfl) na_216 ml_216 rfl rfl rfl rm_213_216 rfl rfl hk21 ?_
                      refine g_i2l (pc' := 108) d_213_107 rfl ?_
                      refine g_lmul (pc' := 109) d_213_108 rfl ?_
                      refine g_iload (pc' := 111) d_213_109 rfl rfl ?_
                      refine g_i2l (pc' := 112) d_213_111 rfl ?_
                      refine g_iloadn (pc' := 113) d_213_112 rfl rfl ?_
                      refine g_iloadn (pc' := 114) d_213_113 rfl rfl ?_
                      obtain ⟨hc23, h⟩ := h
                      refine g_irem (pc' := 115) d_213_114 rfl hc23 ?_
                      refine g_iloadn (pc' := 116) d_213_115 rfl rfl ?_
                      refine g_iconst (pc' := 117) d_213_116 rfl ci_2 ?_
                      refine g_isub (pc' := 118) d_213_117 rfl ?_
                      refine g_iloadn (pc' := 119) d_213_118 rfl rfl ?_
                      obtain ⟨r26, w24, hk25, h⟩ := h
                      refine g_callS (pc' := 122) d_213_119 rfl st_213_174 (Or.inl rfl) na_216 ml_216 rfl rfl rfl rm_213_216 rfl rfl hk25 ?_
                      refine g_i2l (pc' := 123) d_213_122 rfl ?_
                      refine g_lmul (pc' := 124) d_213_123 rfl ?_
                      refine g_lsub (pc' := 125) d_213_124 rfl ?_
                      refine g_iloadn (pc' := 126) d_213_125 rfl rfl ?_
                      obtain ⟨r29, w27, hk28, h⟩ := h
                      refine g_callS (pc' := 129) d_213_126 rfl st_213_170 (Or.inl rfl) na_215 ml_215 rfl rfl rfl rm_213_215 rfl rfl hk28 ?_
                      exact g_iret d_213_129 rt_213 h
                    · replace h := h.2 c
                      refine g_bipush (pc' := 93) d_213_91 rfl cb_m3 ?_
                      exact g_iret d_213_93 rt_213 h
                · replace h := h.2 c
                  refine g_bipush (pc' := 56) d_213_54 rfl cb_m3 ?_
                  exact g_iret d_213_56 rt_213 h
-- 214 BernoulliWaysModel.restOf([JII)I
theorem S_214_0 {a0 : Nat} {a1 : Nat} {i2 : Int32} {i3 : Int32} {w : xW} {r : Option Value × xW} (h : ∃ n1 f2, w[a1]? = some (.inl (.inr (n1, f2))) ∧ (¬ ((((3 : Int32) * i2) + (2 : Int32)) < 0 ∨ n1 ≤ (((3 : Int32) * i2) + (2 : Int32)).toNatClampNeg)) ∧ ∃ r7 w5, xCall 215 [.long (f2 (((3 : Int32) * i2) + (2 : Int32)).toNatClampNeg), .int i3] w (some (.int r7), w5) ∧ (¬ r7 = 0 → ∃ n8 f9, w5[a1]? = some (.inl (.inr (n8, f9))) ∧ (¬ (((3 : Int32) * i2) < 0 ∨ n8 ≤ ((3 : Int32) * i2).toNatClampNeg)) ∧ ∃ r14 w12, xCall 215 [.long (f9 ((3 : Int32) * i2).toNatClampNeg), .int i3] w5 (some (.int r14), w12) ∧ ∃ n15 f16, w12[a1]? = some (.inl (.inr (n15, f16))) ∧ (¬ ((((3 : Int32) * i2) + (1 : Int32)) < 0 ∨ n15 ≤ (((3 : Int32) * i2) + (1 : Int32)).toNatClampNeg)) ∧ ∃ r21 w19, xCall 215 [.long (f16 (((3 : Int32) * i2) + (1 : Int32)).toNatClampNeg), .int i3] w12 (some (.int r21), w19) ∧ ∃ r24 w22, xCall 216 [.int r7, .int (i3 - (2 : Int32)), .int i3] w19 (some (.int r24), w22) ∧ ∃ r27 w25, xCall 215 [.long ((r14.toInt64) + ((r21.toInt64) * (r24.toInt64))), .int i3] w22 (some (.int r27), w25) ∧ r = (some (.int r27), w25)) ∧ (¬ (¬ r7 = 0) → r = (some (.int (-3 : Int32)), w5))) : xGo 214 0 [some (.ref a0), some (.ref a1), some (.int i2), some (.int i3), none] [] w r := by
  refine g_aloadn (pc' := 1) d_214_0 rfl rfl ?_
  refine g_iconst (pc' := 2) d_214_1 rfl ci_3 ?_
  refine g_iloadn (pc' := 3) d_214_2 rfl rfl ?_
  refine g_imul (pc' := 4) d_214_3 rfl ?_
  refine g_iconst (pc' := 5) d_214_4 rfl ci_2 ?_
  refine g_iadd (pc' := 6) d_214_5 rfl ?_
  obtain ⟨n1, f2, hw3, h⟩ := h
  obtain ⟨hc4, h⟩ := h
  refine g_lald (pc' := 7) d_214_6 rfl hw3 hc4 ?_
  refine g_iloadn (pc' := 8) d_214_7 rfl rfl ?_
  obtain ⟨r7, w5, hk6, h⟩ := h
  refine g_callS (pc' := 11) d_214_8 rfl st_214_170 (Or.inl rfl) na_215 ml_215 rfl rfl rfl rm_214_215 rfl rfl hk6 ?_
  refine g_istore (pc' := 13) (l' := [some (.ref a0), some (.ref a1), some (.int i2), some (.int i3), some (.int r7)]) d_214_11 rfl ml_214 rfl rfl ?_
  refine g_iload (pc' := 15) d_214_13 rfl rfl ?_
  refine g_if_ne (pc' := 18) (pt := 21) d_214_15 (by decide) rfl (fun c => ?_) (fun c => ?_)
  · replace h := h.1 c
    refine g_aloadn (pc' := 22) d_214_21 rfl rfl ?_
    refine g_iconst (pc' := 23) d_214_22 rfl ci_3 ?_
    refine g_iloadn (pc' := 24) d_214_23 rfl rfl ?_
    refine g_imul (pc' := 25) d_214_24 rfl ?_
    obtain ⟨n8, f9, hw10, h⟩ := h
    obtain ⟨hc11, h⟩ := h
    refine g_lald (pc' := 26) d_214_25 rfl hw10 hc11 ?_
    refine g_iloadn (pc' := 27) d_214_26 rfl rfl ?_
    obtain ⟨r14, w12, hk13, h⟩ := h
    refine g_callS (pc' := 30) d_214_27 rfl st_214_170 (Or.inl rfl) na_215 ml_215 rfl rfl rfl rm_214_215 rfl rfl hk13 ?_
    refine g_i2l (pc' := 31) d_214_30 rfl ?_
    refine g_aloadn (pc' := 32) d_214_31 rfl rfl ?_
    refine g_iconst (pc' := 33) d_214_32 rfl ci_3 ?_
    refine g_iloadn (pc' := 34) d_214_33 rfl rfl ?_
    refine g_imul (pc' := 35) d_214_34 rfl ?_
    refine g_iconst (pc' := 36) d_214_35 rfl ci_1 ?_
    refine g_iadd (pc' := 37) d_214_36 rfl ?_
    obtain ⟨n15, f16, hw17, h⟩ := h
    obtain ⟨hc18, h⟩ := h
    refine g_lald (pc' := 38) d_214_37 rfl hw17 hc18 ?_
    refine g_iloadn (pc' := 39) d_214_38 rfl rfl ?_
    obtain ⟨r21, w19, hk20, h⟩ := h
    refine g_callS (pc' := 42) d_214_39 rfl st_214_170 (Or.inl rfl) na_215 ml_215 rfl rfl rfl rm_214_215 rfl rfl hk20 ?_
    refine g_i2l (pc' := 43) d_214_42 rfl ?_
    refine g_iload (pc' := 45) d_214_43 rfl rfl ?_
    refine g_iloadn (pc' := 46) d_214_45 rfl rfl ?_
    refine g_iconst (pc' := 47) d_214_46 rfl ci_2 ?_
    refine g_isub (pc' := 48) d_214_47 rfl ?_
    refine g_iloadn (pc' := 49) d_214_48 rfl rfl ?_
    obtain ⟨r24, w22, hk23, h⟩ := h
    refine g_callS (pc' := 52) d_214_49 rfl st_214_174 (Or.inl rfl) na_216 ml_216 rfl rfl rfl rm_214_216 rfl rfl hk23 ?_
    refine g_i2l (pc' := 53) d_214_52 rfl ?_
    refine g_lmul (pc' := 54) d_214_53 rfl ?_
    refine g_ladd (pc' := 55) d_214_54 rfl ?_
    refine g_iloadn (pc' := 56) d_214_55 rfl rfl ?_
    obtain ⟨r27, w25, hk26, h⟩ := h
    refine g_callS (pc' := 59) d_214_56 rfl st_214_170 (Or.inl rfl) na_215 ml_215 rfl rfl rfl rm_214_215 rfl rfl hk26 ?_
    exact g_iret d_214_59 rt_214 h
  · replace h := h.2 c
    refine g_bipush (pc' := 20) d_214_18 rfl cb_m3 ?_
    exact g_iret d_214_20 rt_214 h
-- 215 BernoulliWaysModel.rest(JI)I
theorem S_215_0 {l0 : Int64} {i2 : Int32} {w : xW} {r : Option Value × xW} (h : (¬ (i2.toInt64) = 0) ∧ ∀ v2 : Int64, v2 = (lrem l0 (i2.toInt64)) → ((0 : Int64) ≤ v2 → r = (some (.int (v2.toInt32)), w)) ∧ (¬ ((0 : Int64) ≤ v2) → r = (some (.int ((v2 + (i2.toInt64)).toInt32)), w))) : xGo 215 0 [some (.long l0), none, some (.int i2), none, none] [] w r := by
  refine g_lloadn (pc' := 1) d_215_0 rfl rfl ?_
  refine g_iloadn (pc' := 2) d_215_1 rfl rfl ?_
  refine g_i2l (pc' := 3) d_215_2 rfl ?_
  obtain ⟨hc1, h⟩ := h
  refine g_lrem (pc' := 4) d_215_3 rfl hc1 ?_
  have h := h _ rfl
  refine g_lstoren (pc' := 5) (l' := [some (.long l0), none, some (.int i2), some (.long ((lrem l0 (i2.toInt64)))), none]) d_215_4 rfl ml_215 rfl rfl ?_
  refine g_lloadn (pc' := 6) d_215_5 rfl rfl ?_
  refine g_lconst (pc' := 7) d_215_6 rfl cl_0 ?_
  refine g_lc_ge (pc' := 11) (pm := 8) (pt := 18) d_215_7 rfl d_215_8 (by decide) rfl (fun c => ?_) (fun c => ?_)
  · replace h := h.1 c
    refine g_lloadn (pc' := 19) d_215_18 rfl rfl ?_
    refine g_l2i (pc' := 20) d_215_19 rfl ?_
    exact g_iret d_215_20 rt_215 h
  · replace h := h.2 c
    refine g_lloadn (pc' := 12) d_215_11 rfl rfl ?_
    refine g_iloadn (pc' := 13) d_215_12 rfl rfl ?_
    refine g_i2l (pc' := 14) d_215_13 rfl ?_
    refine g_ladd (pc' := 15) d_215_14 rfl ?_
    refine g_goto (pt := 19) d_215_15 (by decide) ?_
    refine g_l2i (pc' := 20) d_215_19 rfl ?_
    exact g_iret d_215_20 rt_215 h
-- 216 BernoulliWaysModel.power(III)I
theorem S_216_0 {i0 : Int32} {i1 : Int32} {i2 : Int32} {w : xW} {r : Option Value × xW} (h : xGo 216 5 [some (.int i0), some (.int i1), some (.int i2), some (.long (1 : Int64)), none, some (.int (0 : Int32))] [] w r) : xGo 216 0 [some (.int i0), some (.int i1), some (.int i2), none, none, none] [] w r := by
  refine g_lconst (pc' := 1) d_216_0 rfl cl_1 ?_
  refine g_lstoren (pc' := 2) (l' := [some (.int i0), some (.int i1), some (.int i2), some (.long (1 : Int64)), none, none]) d_216_1 rfl ml_216 rfl rfl ?_
  refine g_iconst (pc' := 3) d_216_2 rfl ci_0 ?_
  refine g_istore (pc' := 5) (l' := [some (.int i0), some (.int i1), some (.int i2), some (.long (1 : Int64)), none, some (.int (0 : Int32))]) d_216_3 rfl ml_216 rfl rfl ?_
  exact h
theorem S_216_5 {i0 : Int32} {i1 : Int32} {i2 : Int32} {l3 : Int64} {i5 : Int32} {w : xW} {r : Option Value × xW} (h : (i1 ≤ i5 → r = (some (.int (l3.toInt32)), w)) ∧ (¬ (i1 ≤ i5) → (¬ (i2.toInt64) = 0) ∧ ∀ v2 : Int64, v2 = (lrem (l3 * (i0.toInt64)) (i2.toInt64)) → ∀ v3 : Int32, v3 = i5 + (1 : Int32) → xGo 216 5 [some (.int i0), some (.int i1), some (.int i2), some (.long v2), none, some (.int v3)] [] w r)) : xGo 216 5 [some (.int i0), some (.int i1), some (.int i2), some (.long l3), none, some (.int i5)] [] w r := by
  refine g_iload (pc' := 7) d_216_5 rfl rfl ?_
  refine g_iloadn (pc' := 8) d_216_7 rfl rfl ?_
  refine g_ic_ge (pc' := 11) (pt := 25) d_216_8 (by decide) rfl (fun c => ?_) (fun c => ?_)
  · replace h := h.1 c
    refine g_lloadn (pc' := 26) d_216_25 rfl rfl ?_
    refine g_l2i (pc' := 27) d_216_26 rfl ?_
    exact g_iret d_216_27 rt_216 h
  · replace h := h.2 c
    refine g_lloadn (pc' := 12) d_216_11 rfl rfl ?_
    refine g_iloadn (pc' := 13) d_216_12 rfl rfl ?_
    refine g_i2l (pc' := 14) d_216_13 rfl ?_
    refine g_lmul (pc' := 15) d_216_14 rfl ?_
    refine g_iloadn (pc' := 16) d_216_15 rfl rfl ?_
    refine g_i2l (pc' := 17) d_216_16 rfl ?_
    obtain ⟨hc1, h⟩ := h
    refine g_lrem (pc' := 18) d_216_17 rfl hc1 ?_
    have h := h _ rfl
    refine g_lstoren (pc' := 19) (l' := [some (.int i0), some (.int i1), some (.int i2), some (.long ((lrem (l3 * (i0.toInt64)) (i2.toInt64)))), none, some (.int i5)]) d_216_18 rfl ml_216 rfl rfl ?_
    have h := h _ rfl
    refine g_iinc (pc' := 22) (l' := [some (.int i0), some (.int i1), some (.int i2), some (.long ((lrem (l3 * (i0.toInt64)) (i2.toInt64)))), none, some (.int (i5 + (1 : Int32)))]) d_216_19 rfl rfl ci_1 ml_216 rfl rfl ?_
    refine g_goto (pt := 5) d_216_22 (by decide) ?_
    exact h
-- 217 BernoulliWaysModel.breaksPrimes(I)Z
theorem S_217_0 {a0 : Nat} {i1 : Int32} {w : xW} {r : Option Value × xW} (h : (i1 < (2 : Int32) → r = (some (.int (0 : Int32)), w)) ∧ (¬ (i1 < (2 : Int32)) → (¬ (irem i1 (2 : Int32)) = (1 : Int32) → xGo 217 16 [some (.ref a0), some (.int i1), some (.int (2 : Int32))] [] w r) ∧ (¬ (¬ (irem i1 (2 : Int32)) = (1 : Int32)) → r = (some (.int (0 : Int32)), w)))) : xGo 217 0 [some (.ref a0), some (.int i1), none] [] w r := by
  refine g_iloadn (pc' := 1) d_217_0 rfl rfl ?_
  refine g_iconst (pc' := 2) d_217_1 rfl ci_2 ?_
  refine g_ic_lt (pc' := 5) (pt := 12) d_217_2 (by decide) rfl (fun c => ?_) (fun c => ?_)
  · replace h := h.1 c
    refine g_iconst (pc' := 13) d_217_12 rfl ci_0 ?_
    exact g_zret d_217_13 rt_217 (Or.inl rfl) h
  · replace h := h.2 c
    refine g_iloadn (pc' := 6) d_217_5 rfl rfl ?_
    refine g_iconst (pc' := 7) d_217_6 rfl ci_2 ?_
    refine g_irem (pc' := 8) d_217_7 rfl (by decide) ?_
    refine g_iconst (pc' := 9) d_217_8 rfl ci_1 ?_
    refine g_ic_ne (pc' := 12) (pt := 14) d_217_9 (by decide) rfl (fun c => ?_) (fun c => ?_)
    · replace h := h.1 c
      refine g_iconst (pc' := 15) d_217_14 rfl ci_2 ?_
      refine g_istoren (pc' := 16) (l' := [some (.ref a0), some (.int i1), some (.int (2 : Int32))]) d_217_15 rfl ml_217 rfl rfl ?_
      exact h
    · replace h := h.2 c
      refine g_iconst (pc' := 13) d_217_12 rfl ci_0 ?_
      exact g_zret d_217_13 rt_217 (Or.inl rfl) h
theorem S_217_16 {a0 : Nat} {i1 : Int32} {i2 : Int32} {w : xW} {r : Option Value × xW} (h : ∃ fs1, w[a0]? = some (.inr (12, fs1)) ∧ ∃ b3, fs1[6]? = some (.ref b3) ∧ ∃ n5 f6, w[b3]? = some (.inl (.inl (n5, f6))) ∧ (¬ (i2 < 0 ∨ n5 ≤ i2.toNatClampNeg)) ∧ (i1 < (f6 i2.toNatClampNeg) → r = (some (.int (0 : Int32)), w)) ∧ (¬ (i1 < (f6 i2.toNatClampNeg)) → (¬ (i2 < 0 ∨ n5 ≤ i2.toNatClampNeg)) ∧ (¬ (f6 i2.toNatClampNeg) = 0) ∧ (¬ (irem i1 (f6 i2.toNatClampNeg)) = 0 → ∀ v11 : Int32, v11 = i2 + (1 : Int32) → xGo 217 16 [some (.ref a0), some (.int i1), some (.int v11)] [] w r) ∧ (¬ (¬ (irem i1 (f6 i2.toNatClampNeg)) = 0) → (¬ (i2 < 0 ∨ n5 ≤ i2.toNatClampNeg)) ∧ (¬ ((f6 i2.toNatClampNeg) - (1 : Int32)) = 0) ∧ ((irem i1 ((f6 i2.toNatClampNeg) - (1 : Int32))) = 0 → ∀ v14 : Int32, v14 = i2 + (1 : Int32) → xGo 217 16 [some (.ref a0), some (.int i1), some (.int v14)] [] w r) ∧ (¬ ((irem i1 ((f6 i2.toNatClampNeg) - (1 : Int32))) = 0) → ∃ b15, fs1[2]? = some (.ref b15) ∧ (¬ (i2 < 0 ∨ n5 ≤ i2.toNatClampNeg)) ∧ ∃ r20 w18, xCall 214 [.ref a0, .ref b15, .int i1, .int (f6 i2.toNatClampNeg)] w (some (.int r20), w18) ∧ (r20 = 0 → ∀ v21 : Int32, v21 = i2 + (1 : Int32) → xGo 217 16 [some (.ref a0), some (.int i1), some (.int v21)] [] w18 r) ∧ (¬ (r20 = 0) → r = (some (.int (1 : Int32)), w18)))))) : xGo 217 16 [some (.ref a0), some (.int i1), some (.int i2)] [] w r := by
  refine g_aloadn (pc' := 17) d_217_16 rfl rfl ?_
  obtain ⟨fs1, hw2, h⟩ := h
  obtain ⟨b3, hv4, h⟩ := h
  refine g_getf (pc' := 20) d_217_17 rfl st_217_27 hw2 hv4 ?_
  refine g_iloadn (pc' := 21) d_217_20 rfl rfl ?_
  obtain ⟨n5, f6, hw7, h⟩ := h
  obtain ⟨hc8, h⟩ := h
  refine g_iald (pc' := 22) d_217_21 rfl hw7 hc8 ?_
  refine g_iloadn (pc' := 23) d_217_22 rfl rfl ?_
  refine g_ic_gt (pc' := 26) (pt := 76) d_217_23 (by decide) rfl (fun c => ?_) (fun c => ?_)
  · replace h := h.1 c
    refine g_iconst (pc' := 77) d_217_76 rfl ci_0 ?_
    exact g_zret d_217_77 rt_217 (Or.inl rfl) h
  · replace h := h.2 c
    refine g_iloadn (pc' := 27) d_217_26 rfl rfl ?_
    refine g_aloadn (pc' := 28) d_217_27 rfl rfl ?_
    refine g_getf (pc' := 31) d_217_28 rfl st_217_27 hw2 hv4 ?_
    refine g_iloadn (pc' := 32) d_217_31 rfl rfl ?_
    obtain ⟨hc9, h⟩ := h
    refine g_iald (pc' := 33) d_217_32 rfl hw7 hc9 ?_
    obtain ⟨hc10, h⟩ := h
    refine g_irem (pc' := 34) d_217_33 rfl hc10 ?_
    refine g_if_ne (pc' := 37) (pt := 70) d_217_34 (by decide) rfl (fun c => ?_) (fun c => ?_)
    · replace h := h.1 c
      have h := h _ rfl
      refine g_iinc (pc' := 73) (l' := [some (.ref a0), some (.int i1), some (.int (i2 + (1 : Int32)))]) d_217_70 rfl rfl ci_1 ml_217 rfl rfl ?_
      refine g_goto (pt := 16) d_217_73 (by decide) ?_
      exact h
    · replace h := h.2 c
      refine g_iloadn (pc' := 38) d_217_37 rfl rfl ?_
      refine g_aloadn (pc' := 39) d_217_38 rfl rfl ?_
      refine g_getf (pc' := 42) d_217_39 rfl st_217_27 hw2 hv4 ?_
      refine g_iloadn (pc' := 43) d_217_42 rfl rfl ?_
      obtain ⟨hc12, h⟩ := h
      refine g_iald (pc' := 44) d_217_43 rfl hw7 hc12 ?_
      refine g_iconst (pc' := 45) d_217_44 rfl ci_1 ?_
      refine g_isub (pc' := 46) d_217_45 rfl ?_
      obtain ⟨hc13, h⟩ := h
      refine g_irem (pc' := 47) d_217_46 rfl hc13 ?_
      refine g_if_eq (pc' := 50) (pt := 70) d_217_47 (by decide) rfl (fun c => ?_) (fun c => ?_)
      · replace h := h.1 c
        have h := h _ rfl
        refine g_iinc (pc' := 73) (l' := [some (.ref a0), some (.int i1), some (.int (i2 + (1 : Int32)))]) d_217_70 rfl rfl ci_1 ml_217 rfl rfl ?_
        refine g_goto (pt := 16) d_217_73 (by decide) ?_
        exact h
      · replace h := h.2 c
        refine g_aloadn (pc' := 51) d_217_50 rfl rfl ?_
        refine g_aloadn (pc' := 52) d_217_51 rfl rfl ?_
        obtain ⟨b15, hv16, h⟩ := h
        refine g_getf (pc' := 55) d_217_52 rfl st_217_13 hw2 hv16 ?_
        refine g_iloadn (pc' := 56) d_217_55 rfl rfl ?_
        refine g_aloadn (pc' := 57) d_217_56 rfl rfl ?_
        refine g_getf (pc' := 60) d_217_57 rfl st_217_27 hw2 hv4 ?_
        refine g_iloadn (pc' := 61) d_217_60 rfl rfl ?_
        obtain ⟨hc17, h⟩ := h
        refine g_iald (pc' := 62) d_217_61 rfl hw7 hc17 ?_
        obtain ⟨r20, w18, hk19, h⟩ := h
        refine g_callV (pc' := 65) d_217_62 rfl st_217_188 na_214 ml_214 rfl rfl rfl rm_217_214 rfl rfl ow_214 hw2 hk19 ?_
        refine g_if_eq (pc' := 68) (pt := 70) d_217_65 (by decide) rfl (fun c => ?_) (fun c => ?_)
        · replace h := h.1 c
          have h := h _ rfl
          refine g_iinc (pc' := 73) (l' := [some (.ref a0), some (.int i1), some (.int (i2 + (1 : Int32)))]) d_217_70 rfl rfl ci_1 ml_217 rfl rfl ?_
          refine g_goto (pt := 16) d_217_73 (by decide) ?_
          exact h
        · replace h := h.2 c
          refine g_iconst (pc' := 69) d_217_68 rfl ci_1 ?_
          exact g_zret d_217_69 rt_217 (Or.inr rfl) h
-- 218 BernoulliWaysModel.number(II)J
theorem S_218_0 {a0 : Nat} {i1 : Int32} {i2 : Int32} {w : xW} {r : Option Value × xW} (h : ∃ fs1, w[a0]? = some (.inr (12, fs1)) ∧ (0 < fs1.length) ∧ ∀ w4, w4 = w.set a0 (.inr (12, fs1.set 0 (.int (0 : Int32)))) → ∃ r7 w5, xCall 199 [.int i2, .int (0 : Int32), .int (2 : Int32)] w4 (some (.int r7), w5) ∧ (¬ r7 = 0 → ∃ fs8, w5[a0]? = some (.inr (12, fs8)) ∧ ∃ x10, fs8[4]? = some (.int x10) ∧ ∃ r14 w12, xCall 199 [.int i1, .int (0 : Int32), .int x10] w5 (some (.int r14), w12) ∧ (r14 = 0 → r = (some (.long (-9223372036854775808 : Int64)), w12)) ∧ (¬ (r14 = 0) → ∃ fs15, w12[a0]? = some (.inr (12, fs15)) ∧ ∃ b17, fs15[2]? = some (.ref b17) ∧ ∃ n19 f20, w12[b17]? = some (.inl (.inr (n19, f20))) ∧ (¬ ((((3 : Int32) * i1) + i2) < 0 ∨ n19 ≤ (((3 : Int32) * i1) + i2).toNatClampNeg)) ∧ r = (some (.long (f20 (((3 : Int32) * i1) + i2).toNatClampNeg)), w12))) ∧ (¬ (¬ r7 = 0) → ∃ fs23, w5[a0]? = some (.inr (12, fs23)) ∧ ∃ r27 w25, xCall 219 [.ref a0] w5 (some (.long r27), w25) ∧ r = (some (.long r27), w25))) : xGo 218 0 [some (.ref a0), some (.int i1), some (.int i2)] [] w r := by
  refine g_aloadn (pc' := 1) d_218_0 rfl rfl ?_
  refine g_iconst (pc' := 2) d_218_1 rfl ci_0 ?_
  obtain ⟨fs1, hw2, h⟩ := h
  obtain ⟨hc3, h⟩ := h
  have h := h _ rfl
  refine g_putf (pc' := 5) d_218_2 rfl st_218_118 ft_12_0 ff_12_0 rfl (Or.inl rfl) hw2 hc3 ?_
  refine g_iloadn (pc' := 6) d_218_5 rfl rfl ?_
  refine g_iconst (pc' := 7) d_218_6 rfl ci_0 ?_
  refine g_iconst (pc' := 8) d_218_7 rfl ci_2 ?_
  obtain ⟨r7, w5, hk6, h⟩ := h
  refine g_callS (pc' := 11) d_218_8 rfl st_218_137 (Or.inl rfl) na_199 ml_199 rfl rfl rfl rm_218_199 rfl rfl hk6 ?_
  refine g_if_ne (pc' := 14) (pt := 19) d_218_11 (by decide) rfl (fun c => ?_) (fun c => ?_)
  · replace h := h.1 c
    refine g_iloadn (pc' := 20) d_218_19 rfl rfl ?_
    refine g_iconst (pc' := 21) d_218_20 rfl ci_0 ?_
    refine g_aloadn (pc' := 22) d_218_21 rfl rfl ?_
    obtain ⟨fs8, hw9, h⟩ := h
    obtain ⟨x10, hv11, h⟩ := h
    refine g_getf (pc' := 25) d_218_22 rfl st_218_20 hw9 hv11 ?_
    obtain ⟨r14, w12, hk13, h⟩ := h
    refine g_callS (pc' := 28) d_218_25 rfl st_218_137 (Or.inl rfl) na_199 ml_199 rfl rfl rfl rm_218_199 rfl rfl hk13 ?_
    refine g_if_eq (pc' := 31) (pt := 44) d_218_28 (by decide) rfl (fun c => ?_) (fun c => ?_)
    · replace h := h.1 c
      refine g_ldc2 (pc' := 47) d_218_44 rfl st_218_166 cL_m9223372036854775808 ?_
      exact g_lret d_218_47 rt_218 h
    · replace h := h.2 c
      refine g_aloadn (pc' := 32) d_218_31 rfl rfl ?_
      obtain ⟨fs15, hw16, h⟩ := h
      obtain ⟨b17, hv18, h⟩ := h
      refine g_getf (pc' := 35) d_218_32 rfl st_218_13 hw16 hv18 ?_
      refine g_iconst (pc' := 36) d_218_35 rfl ci_3 ?_
      refine g_iloadn (pc' := 37) d_218_36 rfl rfl ?_
      refine g_imul (pc' := 38) d_218_37 rfl ?_
      refine g_iloadn (pc' := 39) d_218_38 rfl rfl ?_
      refine g_iadd (pc' := 40) d_218_39 rfl ?_
      obtain ⟨n19, f20, hw21, h⟩ := h
      obtain ⟨hc22, h⟩ := h
      refine g_lald (pc' := 41) d_218_40 rfl hw21 hc22 ?_
      refine g_goto (pt := 47) d_218_41 (by decide) ?_
      exact g_lret d_218_47 rt_218 h
  · replace h := h.2 c
    refine g_aloadn (pc' := 15) d_218_14 rfl rfl ?_
    obtain ⟨fs23, hw24, h⟩ := h
    obtain ⟨r27, w25, hk26, h⟩ := h
    refine g_callV (pc' := 18) d_218_15 rfl st_218_162 na_219 ml_219 rfl rfl rfl rm_218_219 rfl rfl ow_219 hw24 hk26 ?_
    exact g_lret d_218_18 rt_218 h
-- 219 BernoulliWaysModel.failsWith()J
theorem S_219_0 {a0 : Nat} {w : xW} {r : Option Value × xW} (h : ∃ fs1, w[a0]? = some (.inr (12, fs1)) ∧ (0 < fs1.length) ∧ ∀ w4, w4 = w.set a0 (.inr (12, fs1.set 0 (.int (1 : Int32)))) → r = (some (.long (0 : Int64)), w4)) : xGo 219 0 [some (.ref a0)] [] w r := by
  refine g_aloadn (pc' := 1) d_219_0 rfl rfl ?_
  refine g_iconst (pc' := 2) d_219_1 rfl ci_1 ?_
  obtain ⟨fs1, hw2, h⟩ := h
  obtain ⟨hc3, h⟩ := h
  have h := h _ rfl
  refine g_putf (pc' := 5) d_219_2 rfl st_219_118 ft_12_0 ff_12_0 rfl (Or.inl rfl) hw2 hc3 ?_
  refine g_lconst (pc' := 6) d_219_5 rfl cl_0 ?_
  exact g_lret d_219_6 rt_219 h
-- 220 BernoulliWaysModel.way(I)I
theorem S_220_0 {a0 : Nat} {i1 : Int32} {w : xW} {r : Option Value × xW} (h : ∃ fs1, w[a0]? = some (.inr (12, fs1)) ∧ (0 < fs1.length) ∧ ∀ w4, w4 = w.set a0 (.inr (12, fs1.set 0 (.int (0 : Int32)))) → ∃ r7 w5, xCall 198 [.ref a0, .int i1] w4 (some (.int r7), w5) ∧ (¬ r7 = 0 → ∃ fs8, w5[a0]? = some (.inr (12, fs8)) ∧ ∃ x10, fs8[4]? = some (.int x10) ∧ (i1 ≤ x10 → ∃ b12, fs8[3]? = some (.ref b12) ∧ ∃ n14 f15, w5[b12]? = some (.inl (.inl (n14, f15))) ∧ (¬ (i1 < 0 ∨ n14 ≤ i1.toNatClampNeg)) ∧ r = (some (.int (f15 i1.toNatClampNeg)), w5)) ∧ (¬ (i1 ≤ x10) → r = (some (.int (-2 : Int32)), w5))) ∧ (¬ (¬ r7 = 0) → r = (some (.int (-1 : Int32)), w5))) : xGo 220 0 [some (.ref a0), some (.int i1)] [] w r := by
  refine g_aloadn (pc' := 1) d_220_0 rfl rfl ?_
  refine g_iconst (pc' := 2) d_220_1 rfl ci_0 ?_
  obtain ⟨fs1, hw2, h⟩ := h
  obtain ⟨hc3, h⟩ := h
  have h := h _ rfl
  refine g_putf (pc' := 5) d_220_2 rfl st_220_118 ft_12_0 ff_12_0 rfl (Or.inl rfl) hw2 hc3 ?_
  refine g_aloadn (pc' := 6) d_220_5 rfl rfl ?_
  refine g_iloadn (pc' := 7) d_220_6 rfl rfl ?_
  obtain ⟨r7, w5, hk6, h⟩ := h
  refine g_callV (pc' := 10) d_220_7 rfl st_220_145 na_198 ml_198 rfl rfl rfl rm_220_198 rfl rfl ow_198 (x_gss hw2) hk6 ?_
  refine g_if_ne (pc' := 13) (pt := 17) d_220_10 (by decide) rfl (fun c => ?_) (fun c => ?_)
  · replace h := h.1 c
    refine g_iloadn (pc' := 18) d_220_17 rfl rfl ?_
    refine g_aloadn (pc' := 19) d_220_18 rfl rfl ?_
    obtain ⟨fs8, hw9, h⟩ := h
    obtain ⟨x10, hv11, h⟩ := h
    refine g_getf (pc' := 22) d_220_19 rfl st_220_20 hw9 hv11 ?_
    refine g_ic_le (pc' := 25) (pt := 30) d_220_22 (by decide) rfl (fun c => ?_) (fun c => ?_)
    · replace h := h.1 c
      refine g_aloadn (pc' := 31) d_220_30 rfl rfl ?_
      obtain ⟨b12, hv13, h⟩ := h
      refine g_getf (pc' := 34) d_220_31 rfl st_220_16 hw9 hv13 ?_
      refine g_iloadn (pc' := 35) d_220_34 rfl rfl ?_
      obtain ⟨n14, f15, hw16, h⟩ := h
      obtain ⟨hc17, h⟩ := h
      refine g_iald (pc' := 36) d_220_35 rfl hw16 hc17 ?_
      exact g_iret d_220_36 rt_220 h
    · replace h := h.2 c
      refine g_bipush (pc' := 27) d_220_25 rfl cb_m2 ?_
      refine g_goto (pt := 36) d_220_27 (by decide) ?_
      exact g_iret d_220_36 rt_220 h
  · replace h := h.2 c
    refine g_iconst (pc' := 14) d_220_13 rfl ci_m1 ?_
    refine g_goto (pt := 36) d_220_14 (by decide) ?_
    exact g_iret d_220_36 rt_220 h
-- 221 BernoulliWaysModel.right(I)I
theorem S_221_0 {a0 : Nat} {i1 : Int32} {w : xW} {r : Option Value × xW} (h : ∃ fs1, w[a0]? = some (.inr (12, fs1)) ∧ (0 < fs1.length) ∧ ∀ w4, w4 = w.set a0 (.inr (12, fs1.set 0 (.int (0 : Int32)))) → ∃ r7 w5, xCall 198 [.ref a0, .int i1] w4 (some (.int r7), w5) ∧ (¬ r7 = 0 → ∃ fs8, w5[a0]? = some (.inr (12, fs8)) ∧ ∃ x10, fs8[4]? = some (.int x10) ∧ (i1 ≤ x10 → ∃ r14 w12, xCall 201 [.ref a0, .int i1] w5 (some (.int r14), w12) ∧ (r14 = 0 → r = (some (.int (0 : Int32)), w12)) ∧ (¬ (r14 = 0) → r = (some (.int (1 : Int32)), w12))) ∧ (¬ (i1 ≤ x10) → r = (some (.int (-2 : Int32)), w5))) ∧ (¬ (¬ r7 = 0) → r = (some (.int (-1 : Int32)), w5))) : xGo 221 0 [some (.ref a0), some (.int i1)] [] w r := by
  refine g_aloadn (pc' := 1) d_221_0 rfl rfl ?_
  refine g_iconst (pc' := 2) d_221_1 rfl ci_0 ?_
  obtain ⟨fs1, hw2, h⟩ := h
  obtain ⟨hc3, h⟩ := h
  have h := h _ rfl
  refine g_putf (pc' := 5) d_221_2 rfl st_221_118 ft_12_0 ff_12_0 rfl (Or.inl rfl) hw2 hc3 ?_
  refine g_aloadn (pc' := 6) d_221_5 rfl rfl ?_
  refine g_iloadn (pc' := 7) d_221_6 rfl rfl ?_
  obtain ⟨r7, w5, hk6, h⟩ := h
  refine g_callV (pc' := 10) d_221_7 rfl st_221_145 na_198 ml_198 rfl rfl rfl rm_221_198 rfl rfl ow_198 (x_gss hw2) hk6 ?_
  refine g_if_ne (pc' := 13) (pt := 17) d_221_10 (by decide) rfl (fun c => ?_) (fun c => ?_)
  · replace h := h.1 c
    refine g_iloadn (pc' := 18) d_221_17 rfl rfl ?_
    refine g_aloadn (pc' := 19) d_221_18 rfl rfl ?_
    obtain ⟨fs8, hw9, h⟩ := h
    obtain ⟨x10, hv11, h⟩ := h
    refine g_getf (pc' := 22) d_221_19 rfl st_221_20 hw9 hv11 ?_
    refine g_ic_le (pc' := 25) (pt := 30) d_221_22 (by decide) rfl (fun c => ?_) (fun c => ?_)
    · replace h := h.1 c
      refine g_aloadn (pc' := 31) d_221_30 rfl rfl ?_
      refine g_iloadn (pc' := 32) d_221_31 rfl rfl ?_
      obtain ⟨r14, w12, hk13, h⟩ := h
      refine g_callV (pc' := 35) d_221_32 rfl st_221_141 na_201 ml_201 rfl rfl rfl rm_221_201 rfl rfl ow_201 hw9 hk13 ?_
      refine g_if_eq (pc' := 38) (pt := 42) d_221_35 (by decide) rfl (fun c => ?_) (fun c => ?_)
      · replace h := h.1 c
        refine g_iconst (pc' := 43) d_221_42 rfl ci_0 ?_
        exact g_iret d_221_43 rt_221 h
      · replace h := h.2 c
        refine g_iconst (pc' := 39) d_221_38 rfl ci_1 ?_
        refine g_goto (pt := 43) d_221_39 (by decide) ?_
        exact g_iret d_221_43 rt_221 h
    · replace h := h.2 c
      refine g_bipush (pc' := 27) d_221_25 rfl cb_m2 ?_
      refine g_goto (pt := 43) d_221_27 (by decide) ?_
      exact g_iret d_221_43 rt_221 h
  · replace h := h.2 c
    refine g_iconst (pc' := 14) d_221_13 rfl ci_m1 ?_
    refine g_goto (pt := 43) d_221_14 (by decide) ?_
    exact g_iret d_221_43 rt_221 h
-- 222 BernoulliWaysModel.agree(I)I
theorem S_222_0 {a0 : Nat} {i1 : Int32} {w : xW} {r : Option Value × xW} (h : ∃ fs1, w[a0]? = some (.inr (12, fs1)) ∧ (0 < fs1.length) ∧ ∀ w4, w4 = w.set a0 (.inr (12, fs1.set 0 (.int (0 : Int32)))) → ∃ r7 w5, xCall 198 [.ref a0, .int i1] w4 (some (.int r7), w5) ∧ (¬ r7 = 0 → ∃ fs8, w5[a0]? = some (.inr (12, fs8)) ∧ ∃ x10, fs8[4]? = some (.int x10) ∧ (i1 ≤ x10 → ∃ r14 w12, xCall 201 [.ref a0, .int i1] w5 (some (.int r14), w12) ∧ (¬ r14 = 0 → ∃ fs15, w12[a0]? = some (.inr (12, fs15)) ∧ ∃ r19 w17, xCall 200 [.ref a0, .int (i1 - (1 : Int32))] w12 (some (.int r19), w17) ∧ (r19 = 0 → r = (some (.int (2 : Int32)), w17)) ∧ (¬ (r19 = 0) → r = (some (.int (3 : Int32)), w17))) ∧ (¬ (¬ r14 = 0) → r = (some (.int (0 : Int32)), w12))) ∧ (¬ (i1 ≤ x10) → r = (some (.int (-2 : Int32)), w5))) ∧ (¬ (¬ r7 = 0) → r = (some (.int (-1 : Int32)), w5))) : xGo 222 0 [some (.ref a0), some (.int i1)] [] w r := by
  refine g_aloadn (pc' := 1) d_222_0 rfl rfl ?_
  refine g_iconst (pc' := 2) d_222_1 rfl ci_0 ?_
  obtain ⟨fs1, hw2, h⟩ := h
  obtain ⟨hc3, h⟩ := h
  have h := h _ rfl
  refine g_putf (pc' := 5) d_222_2 rfl st_222_118 ft_12_0 ff_12_0 rfl (Or.inl rfl) hw2 hc3 ?_
  refine g_aloadn (pc' := 6) d_222_5 rfl rfl ?_
  refine g_iloadn (pc' := 7) d_222_6 rfl rfl ?_
  obtain ⟨r7, w5, hk6, h⟩ := h
  refine g_callV (pc' := 10) d_222_7 rfl st_222_145 na_198 ml_198 rfl rfl rfl rm_222_198 rfl rfl ow_198 (x_gss hw2) hk6 ?_
  refine g_if_ne (pc' := 13) (pt := 15) d_222_10 (by decide) rfl (fun c => ?_) (fun c => ?_)
  · replace h := h.1 c
    refine g_iloadn (pc' := 16) d_222_15 rfl rfl ?_
    refine g_aloadn (pc' := 17) d_222_16 rfl rfl ?_
    obtain ⟨fs8, hw9, h⟩ := h
    obtain ⟨x10, hv11, h⟩ := h
    refine g_getf (pc' := 20) d_222_17 rfl st_222_20 hw9 hv11 ?_
    refine g_ic_le (pc' := 23) (pt := 26) d_222_20 (by decide) rfl (fun c => ?_) (fun c => ?_)
    · replace h := h.1 c
      refine g_aloadn (pc' := 27) d_222_26 rfl rfl ?_
      refine g_iloadn (pc' := 28) d_222_27 rfl rfl ?_
      obtain ⟨r14, w12, hk13, h⟩ := h
      refine g_callV (pc' := 31) d_222_28 rfl st_222_141 na_201 ml_201 rfl rfl rfl rm_222_201 rfl rfl ow_201 hw9 hk13 ?_
      refine g_if_ne (pc' := 34) (pt := 38) d_222_31 (by decide) rfl (fun c => ?_) (fun c => ?_)
      · replace h := h.1 c
        refine g_aloadn (pc' := 39) d_222_38 rfl rfl ?_
        refine g_iloadn (pc' := 40) d_222_39 rfl rfl ?_
        refine g_iconst (pc' := 41) d_222_40 rfl ci_1 ?_
        refine g_isub (pc' := 42) d_222_41 rfl ?_
        obtain ⟨fs15, hw16, h⟩ := h
        obtain ⟨r19, w17, hk18, h⟩ := h
        refine g_callV (pc' := 45) d_222_42 rfl st_222_148 na_200 ml_200 rfl rfl rfl rm_222_200 rfl rfl ow_200 hw16 hk18 ?_
        refine g_if_eq (pc' := 48) (pt := 52) d_222_45 (by decide) rfl (fun c => ?_) (fun c => ?_)
        · replace h := h.1 c
          refine g_iconst (pc' := 53) d_222_52 rfl ci_2 ?_
          exact g_iret d_222_53 rt_222 h
        · replace h := h.2 c
          refine g_iconst (pc' := 49) d_222_48 rfl ci_3 ?_
          refine g_goto (pt := 53) d_222_49 (by decide) ?_
          exact g_iret d_222_53 rt_222 h
      · replace h := h.2 c
        refine g_iconst (pc' := 35) d_222_34 rfl ci_0 ?_
        refine g_goto (pt := 53) d_222_35 (by decide) ?_
        exact g_iret d_222_53 rt_222 h
    · replace h := h.2 c
      refine g_bipush (pc' := 25) d_222_23 rfl cb_m2 ?_
      exact g_iret d_222_25 rt_222 h
  · replace h := h.2 c
    refine g_iconst (pc' := 14) d_222_13 rfl ci_m1 ?_
    exact g_iret d_222_14 rt_222 h
-- 223 BernoulliWaysModel.prime(II)I
theorem S_223_0 {a0 : Nat} {i1 : Int32} {i2 : Int32} {w : xW} {r : Option Value × xW} (h : ∃ fs1, w[a0]? = some (.inr (12, fs1)) ∧ (0 < fs1.length) ∧ ∀ w4, w4 = w.set a0 (.inr (12, fs1.set 0 (.int (0 : Int32)))) → ∃ r7 w5, xCall 198 [.ref a0, .int i1] w4 (some (.int r7), w5) ∧ (r7 = 0 → r = (some (.int (-1 : Int32)), w5)) ∧ (¬ (r7 = 0) → (0 ≤ i2 → xGo 223 24 [some (.ref a0), some (.int i1), some (.int i2), some (.int i2), some (.int (0 : Int32))] [] w5 r) ∧ (¬ (0 ≤ i2) → r = (some (.int (-1 : Int32)), w5)))) : xGo 223 0 [some (.ref a0), some (.int i1), some (.int i2), none, none] [] w r := by
  refine g_aloadn (pc' := 1) d_223_0 rfl rfl ?_
  refine g_iconst (pc' := 2) d_223_1 rfl ci_0 ?_
  obtain ⟨fs1, hw2, h⟩ := h
  obtain ⟨hc3, h⟩ := h
  have h := h _ rfl
  refine g_putf (pc' := 5) d_223_2 rfl st_223_118 ft_12_0 ff_12_0 rfl (Or.inl rfl) hw2 hc3 ?_
  refine g_aloadn (pc' := 6) d_223_5 rfl rfl ?_
  refine g_iloadn (pc' := 7) d_223_6 rfl rfl ?_
  obtain ⟨r7, w5, hk6, h⟩ := h
  refine g_callV (pc' := 10) d_223_7 rfl st_223_145 na_198 ml_198 rfl rfl rfl rm_223_198 rfl rfl ow_198 (x_gss hw2) hk6 ?_
  refine g_if_eq (pc' := 13) (pt := 17) d_223_10 (by decide) rfl (fun c => ?_) (fun c => ?_)
  · replace h := h.1 c
    refine g_iconst (pc' := 18) d_223_17 rfl ci_m1 ?_
    exact g_iret d_223_18 rt_223 h
  · replace h := h.2 c
    refine g_iloadn (pc' := 14) d_223_13 rfl rfl ?_
    refine g_if_ge (pc' := 17) (pt := 19) d_223_14 (by decide) rfl (fun c => ?_) (fun c => ?_)
    · replace h := h.1 c
      refine g_iloadn (pc' := 20) d_223_19 rfl rfl ?_
      refine g_istoren (pc' := 21) (l' := [some (.ref a0), some (.int i1), some (.int i2), some (.int i2), none]) d_223_20 rfl ml_223 rfl rfl ?_
      refine g_iconst (pc' := 22) d_223_21 rfl ci_0 ?_
      refine g_istore (pc' := 24) (l' := [some (.ref a0), some (.int i1), some (.int i2), some (.int i2), some (.int (0 : Int32))]) d_223_22 rfl ml_223 rfl rfl ?_
      exact h
    · replace h := h.2 c
      refine g_iconst (pc' := 18) d_223_17 rfl ci_m1 ?_
      exact g_iret d_223_18 rt_223 h
theorem S_223_24 {a0 : Nat} {i1 : Int32} {i2 : Int32} {i3 : Int32} {i4 : Int32} {w : xW} {r : Option Value × xW} (h : ∃ fs1, w[a0]? = some (.inr (12, fs1)) ∧ ∃ x3, fs1[7]? = some (.int x3) ∧ (x3 ≤ i4 → r = (some (.int (-2 : Int32)), w)) ∧ (¬ (x3 ≤ i4) → ∃ b5, fs1[1]? = some (.ref b5) ∧ ∃ n7 f8, w[b5]? = some (.inl (.inr (n7, f8))) ∧ (¬ ((((3 : Int32) * i1) + (2 : Int32)) < 0 ∨ n7 ≤ (((3 : Int32) * i1) + (2 : Int32)).toNatClampNeg)) ∧ ∃ b11, fs1[6]? = some (.ref b11) ∧ ∃ n13 f14, w[b11]? = some (.inl (.inl (n13, f14))) ∧ (¬ (i4 < 0 ∨ n13 ≤ i4.toNatClampNeg)) ∧ (¬ ((f14 i4.toNatClampNeg).toInt64) = 0) ∧ ((lrem (f8 (((3 : Int32) * i1) + (2 : Int32)).toNatClampNeg) ((f14 i4.toNatClampNeg).toInt64)) = (0 : Int64) → (¬ i3 = 0 → ∀ v18 : Int32, v18 = i3 + (-1 : Int32) → ∀ v19 : Int32, v19 = i4 + (1 : Int32) → xGo 223 24 [some (.ref a0), some (.int i1), some (.int i2), some (.int v18), some (.int v19)] [] w r) ∧ (¬ (¬ i3 = 0) → (¬ (i4 < 0 ∨ n13 ≤ i4.toNatClampNeg)) ∧ r = (some (.int (f14 i4.toNatClampNeg)), w))) ∧ (¬ ((lrem (f8 (((3 : Int32) * i1) + (2 : Int32)).toNatClampNeg) ((f14 i4.toNatClampNeg).toInt64)) = (0 : Int64)) → ∀ v21 : Int32, v21 = i4 + (1 : Int32) → xGo 223 24 [some (.ref a0), some (.int i1), some (.int i2), some (.int i3), some (.int v21)] [] w r))) : xGo 223 24 [some (.ref a0), some (.int i1), some (.int i2), some (.int i3), some (.int i4)] [] w r := by
  refine g_iload (pc' := 26) d_223_24 rfl rfl ?_
  refine g_aloadn (pc' := 27) d_223_26 rfl rfl ?_
  obtain ⟨fs1, hw2, h⟩ := h
  obtain ⟨x3, hv4, h⟩ := h
  refine g_getf (pc' := 30) d_223_27 rfl st_223_96 hw2 hv4 ?_
  refine g_ic_ge (pc' := 33) (pt := 81) d_223_30 (by decide) rfl (fun c => ?_) (fun c => ?_)
  · replace h := h.1 c
    refine g_bipush (pc' := 83) d_223_81 rfl cb_m2 ?_
    exact g_iret d_223_83 rt_223 h
  · replace h := h.2 c
    refine g_aloadn (pc' := 34) d_223_33 rfl rfl ?_
    obtain ⟨b5, hv6, h⟩ := h
    refine g_getf (pc' := 37) d_223_34 rfl st_223_7 hw2 hv6 ?_
    refine g_iconst (pc' := 38) d_223_37 rfl ci_3 ?_
    refine g_iloadn (pc' := 39) d_223_38 rfl rfl ?_
    refine g_imul (pc' := 40) d_223_39 rfl ?_
    refine g_iconst (pc' := 41) d_223_40 rfl ci_2 ?_
    refine g_iadd (pc' := 42) d_223_41 rfl ?_
    obtain ⟨n7, f8, hw9, h⟩ := h
    obtain ⟨hc10, h⟩ := h
    refine g_lald (pc' := 43) d_223_42 rfl hw9 hc10 ?_
    refine g_aloadn (pc' := 44) d_223_43 rfl rfl ?_
    obtain ⟨b11, hv12, h⟩ := h
    refine g_getf (pc' := 47) d_223_44 rfl st_223_27 hw2 hv12 ?_
    refine g_iload (pc' := 49) d_223_47 rfl rfl ?_
    obtain ⟨n13, f14, hw15, h⟩ := h
    obtain ⟨hc16, h⟩ := h
    refine g_iald (pc' := 50) d_223_49 rfl hw15 hc16 ?_
    refine g_i2l (pc' := 51) d_223_50 rfl ?_
    obtain ⟨hc17, h⟩ := h
    refine g_lrem (pc' := 52) d_223_51 rfl hc17 ?_
    refine g_lconst (pc' := 53) d_223_52 rfl cl_0 ?_
    refine g_lc_eq (pc' := 57) (pm := 54) (pt := 60) d_223_53 rfl d_223_54 (by decide) rfl (fun c => ?_) (fun c => ?_)
    · replace h := h.1 c
      refine g_iloadn (pc' := 61) d_223_60 rfl rfl ?_
      refine g_if_ne (pc' := 64) (pt := 72) d_223_61 (by decide) rfl (fun c => ?_) (fun c => ?_)
      · replace h := h.1 c
        have h := h _ rfl
        refine g_iinc (pc' := 75) (l' := [some (.ref a0), some (.int i1), some (.int i2), some (.int (i3 + (-1 : Int32))), some (.int i4)]) d_223_72 rfl rfl ci_m1 ml_223 rfl rfl ?_
        have h := h _ rfl
        refine g_iinc (pc' := 78) (l' := [some (.ref a0), some (.int i1), some (.int i2), some (.int (i3 + (-1 : Int32))), some (.int (i4 + (1 : Int32)))]) d_223_75 rfl rfl ci_1 ml_223 rfl rfl ?_
        refine g_goto (pt := 24) d_223_78 (by decide) ?_
        exact h
      · replace h := h.2 c
        refine g_aloadn (pc' := 65) d_223_64 rfl rfl ?_
        refine g_getf (pc' := 68) d_223_65 rfl st_223_27 hw2 hv12 ?_
        refine g_iload (pc' := 70) d_223_68 rfl rfl ?_
        obtain ⟨hc20, h⟩ := h
        refine g_iald (pc' := 71) d_223_70 rfl hw15 hc20 ?_
        exact g_iret d_223_71 rt_223 h
    · replace h := h.2 c
      refine g_goto (pt := 75) d_223_57 (by decide) ?_
      have h := h _ rfl
      refine g_iinc (pc' := 78) (l' := [some (.ref a0), some (.int i1), some (.int i2), some (.int i3), some (.int (i4 + (1 : Int32)))]) d_223_75 rfl rfl ci_1 ml_223 rfl rfl ?_
      refine g_goto (pt := 24) d_223_78 (by decide) ?_
      exact h
-- 224 BernoulliWaysModel.whole(I)J
theorem S_224_0 {a0 : Nat} {i1 : Int32} {w : xW} {r : Option Value × xW} (h : ∃ fs1, w[a0]? = some (.inr (12, fs1)) ∧ (0 < fs1.length) ∧ ∀ w4, w4 = w.set a0 (.inr (12, fs1.set 0 (.int (0 : Int32)))) → ∃ r7 w5, xCall 199 [.int i1, .int (2 : Int32), .int (38 : Int32)] w4 (some (.int r7), w5) ∧ (r7 = 0 → r = (some (.long (-9223372036854775808 : Int64)), w5)) ∧ (¬ (r7 = 0) → (¬ (irem i1 (2 : Int32)) = (1 : Int32) → ∃ fs8, w5[a0]? = some (.inr (12, fs8)) ∧ ∃ b10, fs8[1]? = some (.ref b10) ∧ ∃ n12 f13, w5[b10]? = some (.inl (.inr (n12, f13))) ∧ (¬ ((((3 : Int32) * i1) + (1 : Int32)) < 0 ∨ n12 ≤ (((3 : Int32) * i1) + (1 : Int32)).toNatClampNeg)) ∧ ∀ v16 : Int64, v16 = (f13 (((3 : Int32) * i1) + (1 : Int32)).toNatClampNeg) → (¬ ((((3 : Int32) * i1) + (2 : Int32)) < 0 ∨ n12 ≤ (((3 : Int32) * i1) + (2 : Int32)).toNatClampNeg)) ∧ ∀ v18 : Int64, v18 = (f13 (((3 : Int32) * i1) + (2 : Int32)).toNatClampNeg) → xGo 224 52 [some (.ref a0), some (.int i1), some (.long v16), none, some (.long v18), none, some (.int (0 : Int32))] [] w5 r) ∧ (¬ (¬ (irem i1 (2 : Int32)) = (1 : Int32)) → r = (some (.long (-9223372036854775808 : Int64)), w5)))) : xGo 224 0 [some (.ref a0), some (.int i1), none, none, none, none, none] [] w r := by
  refine g_aloadn (pc' := 1) d_224_0 rfl rfl ?_
  refine g_iconst (pc' := 2) d_224_1 rfl ci_0 ?_
  obtain ⟨fs1, hw2, h⟩ := h
  obtain ⟨hc3, h⟩ := h
  have h := h _ rfl
  refine g_putf (pc' := 5) d_224_2 rfl st_224_118 ft_12_0 ff_12_0 rfl (Or.inl rfl) hw2 hc3 ?_
  refine g_iloadn (pc' := 6) d_224_5 rfl rfl ?_
  refine g_iconst (pc' := 7) d_224_6 rfl ci_2 ?_
  refine g_bipush (pc' := 9) d_224_7 rfl cb_38 ?_
  obtain ⟨r7, w5, hk6, h⟩ := h
  refine g_callS (pc' := 12) d_224_9 rfl st_224_137 (Or.inl rfl) na_199 ml_199 rfl rfl rfl rm_224_199 rfl rfl hk6 ?_
  refine g_if_eq (pc' := 15) (pt := 22) d_224_12 (by decide) rfl (fun c => ?_) (fun c => ?_)
  · replace h := h.1 c
    refine g_ldc2 (pc' := 25) d_224_22 rfl st_224_166 cL_m9223372036854775808 ?_
    exact g_lret d_224_25 rt_224 h
  · replace h := h.2 c
    refine g_iloadn (pc' := 16) d_224_15 rfl rfl ?_
    refine g_iconst (pc' := 17) d_224_16 rfl ci_2 ?_
    refine g_irem (pc' := 18) d_224_17 rfl (by decide) ?_
    refine g_iconst (pc' := 19) d_224_18 rfl ci_1 ?_
    refine g_ic_ne (pc' := 22) (pt := 26) d_224_19 (by decide) rfl (fun c => ?_) (fun c => ?_)
    · replace h := h.1 c
      refine g_aloadn (pc' := 27) d_224_26 rfl rfl ?_
      obtain ⟨fs8, hw9, h⟩ := h
      obtain ⟨b10, hv11, h⟩ := h
      refine g_getf (pc' := 30) d_224_27 rfl st_224_7 hw9 hv11 ?_
      refine g_iconst (pc' := 31) d_224_30 rfl ci_3 ?_
      refine g_iloadn (pc' := 32) d_224_31 rfl rfl ?_
      refine g_imul (pc' := 33) d_224_32 rfl ?_
      refine g_iconst (pc' := 34) d_224_33 rfl ci_1 ?_
      refine g_iadd (pc' := 35) d_224_34 rfl ?_
      obtain ⟨n12, f13, hw14, h⟩ := h
      obtain ⟨hc15, h⟩ := h
      refine g_lald (pc' := 36) d_224_35 rfl hw14 hc15 ?_
      have h := h _ rfl
      refine g_lstoren (pc' := 37) (l' := [some (.ref a0), some (.int i1), some (.long ((f13 (((3 : Int32) * i1) + (1 : Int32)).toNatClampNeg))), none, none, none, none]) d_224_36 rfl ml_224 rfl rfl ?_
      refine g_aloadn (pc' := 38) d_224_37 rfl rfl ?_
      refine g_getf (pc' := 41) d_224_38 rfl st_224_7 hw9 hv11 ?_
      refine g_iconst (pc' := 42) d_224_41 rfl ci_3 ?_
      refine g_iloadn (pc' := 43) d_224_42 rfl rfl ?_
      refine g_imul (pc' := 44) d_224_43 rfl ?_
      refine g_iconst (pc' := 45) d_224_44 rfl ci_2 ?_
      refine g_iadd (pc' := 46) d_224_45 rfl ?_
      obtain ⟨hc17, h⟩ := h
      refine g_lald (pc' := 47) d_224_46 rfl hw14 hc17 ?_
      have h := h _ rfl
      refine g_lstore (pc' := 49) (l' := [some (.ref a0), some (.int i1), some (.long ((f13 (((3 : Int32) * i1) + (1 : Int32)).toNatClampNeg))), none, some (.long ((f13 (((3 : Int32) * i1) + (2 : Int32)).toNatClampNeg))), none, none]) d_224_47 rfl ml_224 rfl rfl ?_
      refine g_iconst (pc' := 50) d_224_49 rfl ci_0 ?_
      refine g_istore (pc' := 52) (l' := [some (.ref a0), some (.int i1), some (.long ((f13 (((3 : Int32) * i1) + (1 : Int32)).toNatClampNeg))), none, some (.long ((f13 (((3 : Int32) * i1) + (2 : Int32)).toNatClampNeg))), none, some (.int (0 : Int32))]) d_224_50 rfl ml_224 rfl rfl ?_
      exact h
    · replace h := h.2 c
      refine g_ldc2 (pc' := 25) d_224_22 rfl st_224_166 cL_m9223372036854775808 ?_
      exact g_lret d_224_25 rt_224 h
theorem S_224_52 {a0 : Nat} {i1 : Int32} {l2 : Int64} {l4 : Int64} {i6 : Int32} {w : xW} {r : Option Value × xW} (h : ∃ fs1, w[a0]? = some (.inr (12, fs1)) ∧ ∃ x3, fs1[7]? = some (.int x3) ∧ (x3 ≤ i6 → ∃ b5, fs1[1]? = some (.ref b5) ∧ ∃ n7 f8, w[b5]? = some (.inl (.inr (n7, f8))) ∧ (¬ (((3 : Int32) * i1) < 0 ∨ n7 ≤ ((3 : Int32) * i1).toNatClampNeg)) ∧ (¬ l4 = 0) ∧ r = (some (.long ((f8 ((3 : Int32) * i1).toNatClampNeg) + (l2 / l4))), w)) ∧ (¬ (x3 ≤ i6) → ∃ b12, fs1[6]? = some (.ref b12) ∧ ∃ n14 f15, w[b12]? = some (.inl (.inl (n14, f15))) ∧ (¬ (i6 < 0 ∨ n14 ≤ i6.toNatClampNeg)) ∧ (¬ ((f15 i6.toNatClampNeg).toInt64) = 0) ∧ (¬ (lrem l4 ((f15 i6.toNatClampNeg).toInt64)) = (0 : Int64) → ∀ v19 : Int32, v19 = i6 + (1 : Int32) → xGo 224 52 [some (.ref a0), some (.int i1), some (.long l2), none, some (.long l4), none, some (.int v19)] [] w r) ∧ (¬ (¬ (lrem l4 ((f15 i6.toNatClampNeg).toInt64)) = (0 : Int64)) → (¬ (i6 < 0 ∨ n14 ≤ i6.toNatClampNeg)) ∧ (¬ ((f15 i6.toNatClampNeg).toInt64) = 0) ∧ ∀ v22 : Int64, v22 = (l2 + (l4 / ((f15 i6.toNatClampNeg).toInt64))) → ∀ v23 : Int32, v23 = i6 + (1 : Int32) → xGo 224 52 [some (.ref a0), some (.int i1), some (.long v22), none, some (.long l4), none, some (.int v23)] [] w r))) : xGo 224 52 [some (.ref a0), some (.int i1), some (.long l2), none, some (.long l4), none, some (.int i6)] [] w r := by
  refine g_iload (pc' := 54) d_224_52 rfl rfl ?_
  refine g_aloadn (pc' := 55) d_224_54 rfl rfl ?_
  obtain ⟨fs1, hw2, h⟩ := h
  obtain ⟨x3, hv4, h⟩ := h
  refine g_getf (pc' := 58) d_224_55 rfl st_224_96 hw2 hv4 ?_
  refine g_ic_ge (pc' := 61) (pt := 97) d_224_58 (by decide) rfl (fun c => ?_) (fun c => ?_)
  · replace h := h.1 c
    refine g_aloadn (pc' := 98) d_224_97 rfl rfl ?_
    obtain ⟨b5, hv6, h⟩ := h
    refine g_getf (pc' := 101) d_224_98 rfl st_224_7 hw2 hv6 ?_
    refine g_iconst (pc' := 102) d_224_101 rfl ci_3 ?_
    refine g_iloadn (pc' := 103) d_224_102 rfl rfl ?_
    refine g_imul (pc' := 104) d_224_103 rfl ?_
    obtain ⟨n7, f8, hw9, h⟩ := h
    obtain ⟨hc10, h⟩ := h
    refine g_lald (pc' := 105) d_224_104 rfl hw9 hc10 ?_
    refine g_lloadn (pc' := 106) d_224_105 rfl rfl ?_
    refine g_lload (pc' := 108) d_224_106 rfl rfl ?_
    obtain ⟨hc11, h⟩ := h
    refine g_ldiv (pc' := 109) d_224_108 rfl hc11 ?_
    refine g_ladd (pc' := 110) d_224_109 rfl ?_
    exact g_lret d_224_110 rt_224 h
  · replace h := h.2 c
    refine g_lload (pc' := 63) d_224_61 rfl rfl ?_
    refine g_aloadn (pc' := 64) d_224_63 rfl rfl ?_
    obtain ⟨b12, hv13, h⟩ := h
    refine g_getf (pc' := 67) d_224_64 rfl st_224_27 hw2 hv13 ?_
    refine g_iload (pc' := 69) d_224_67 rfl rfl ?_
    obtain ⟨n14, f15, hw16, h⟩ := h
    obtain ⟨hc17, h⟩ := h
    refine g_iald (pc' := 70) d_224_69 rfl hw16 hc17 ?_
    refine g_i2l (pc' := 71) d_224_70 rfl ?_
    obtain ⟨hc18, h⟩ := h
    refine g_lrem (pc' := 72) d_224_71 rfl hc18 ?_
    refine g_lconst (pc' := 73) d_224_72 rfl cl_0 ?_
    refine g_lc_ne (pc' := 77) (pm := 74) (pt := 91) d_224_73 rfl d_224_74 (by decide) rfl (fun c => ?_) (fun c => ?_)
    · replace h := h.1 c
      have h := h _ rfl
      refine g_iinc (pc' := 94) (l' := [some (.ref a0), some (.int i1), some (.long l2), none, some (.long l4), none, some (.int (i6 + (1 : Int32)))]) d_224_91 rfl rfl ci_1 ml_224 rfl rfl ?_
      refine g_goto (pt := 52) d_224_94 (by decide) ?_
      exact h
    · replace h := h.2 c
      refine g_lloadn (pc' := 78) d_224_77 rfl rfl ?_
      refine g_lload (pc' := 80) d_224_78 rfl rfl ?_
      refine g_aloadn (pc' := 81) d_224_80 rfl rfl ?_
      refine g_getf (pc' := 84) d_224_81 rfl st_224_27 hw2 hv13 ?_
      refine g_iload (pc' := 86) d_224_84 rfl rfl ?_
      obtain ⟨hc20, h⟩ := h
      refine g_iald (pc' := 87) d_224_86 rfl hw16 hc20 ?_
      refine g_i2l (pc' := 88) d_224_87 rfl ?_
      obtain ⟨hc21, h⟩ := h
      refine g_ldiv (pc' := 89) d_224_88 rfl hc21 ?_
      refine g_ladd (pc' := 90) d_224_89 rfl ?_
      have h := h _ rfl
      refine g_lstoren (pc' := 91) (l' := [some (.ref a0), some (.int i1), some (.long ((l2 + (l4 / ((f15 i6.toNatClampNeg).toInt64))))), none, some (.long l4), none, some (.int i6)]) d_224_90 rfl ml_224 rfl rfl ?_
      have h := h _ rfl
      refine g_iinc (pc' := 94) (l' := [some (.ref a0), some (.int i1), some (.long ((l2 + (l4 / ((f15 i6.toNatClampNeg).toInt64))))), none, some (.long l4), none, some (.int (i6 + (1 : Int32)))]) d_224_91 rfl rfl ci_1 ml_224 rfl rfl ?_
      refine g_goto (pt := 52) d_224_94 (by decide) ?_
      exact h
-- 225 BernoulliWaysModel.triangleAt(III)J
theorem S_225_0 {a0 : Nat} {i1 : Int32} {i2 : Int32} {i3 : Int32} {w : xW} {r : Option Value × xW} (h : ∃ fs1, w[a0]? = some (.inr (12, fs1)) ∧ (0 < fs1.length) ∧ ∀ w4, w4 = w.set a0 (.inr (12, fs1.set 0 (.int (0 : Int32)))) → (i1 < 0 → r = (some (.long (-9223372036854775808 : Int64)), w4)) ∧ (¬ (i1 < 0) → (i2 < 0 → r = (some (.long (-9223372036854775808 : Int64)), w4)) ∧ (¬ (i2 < 0) → ((38 : Int32) < i1 → r = (some (.long (-9223372036854775808 : Int64)), w4)) ∧ (¬ ((38 : Int32) < i1) → ((38 : Int32) < i2 → r = (some (.long (-9223372036854775808 : Int64)), w4)) ∧ (¬ ((38 : Int32) < i2) → ((38 : Int32) < (i1 + i2) → r = (some (.long (-9223372036854775808 : Int64)), w4)) ∧ (¬ ((38 : Int32) < (i1 + i2)) → ∃ r7 w5, xCall 199 [.int i3, .int (0 : Int32), .int (2 : Int32)] w4 (some (.int r7), w5) ∧ (¬ r7 = 0 → xGo 225 49 [some (.ref a0), some (.int i1), some (.int i2), some (.int i3), some (.int (0 : Int32)), none, none, none, none, none] [] w5 r) ∧ (¬ (¬ r7 = 0) → r = (some (.long (-9223372036854775808 : Int64)), w5)))))))) : xGo 225 0 [some (.ref a0), some (.int i1), some (.int i2), some (.int i3), none, none, none, none, none, none] [] w r := by
  refine g_aloadn (pc' := 1) d_225_0 rfl rfl ?_
  refine g_iconst (pc' := 2) d_225_1 rfl ci_0 ?_
  obtain ⟨fs1, hw2, h⟩ := h
  obtain ⟨hc3, h⟩ := h
  have h := h _ rfl
  refine g_putf (pc' := 5) d_225_2 rfl st_225_118 ft_12_0 ff_12_0 rfl (Or.inl rfl) hw2 hc3 ?_
  refine g_iloadn (pc' := 6) d_225_5 rfl rfl ?_
  refine g_if_lt (pc' := 9) (pt := 42) d_225_6 (by decide) rfl (fun c => ?_) (fun c => ?_)
  · replace h := h.1 c
    refine g_ldc2 (pc' := 45) d_225_42 rfl st_225_166 cL_m9223372036854775808 ?_
    exact g_lret d_225_45 rt_225 h
  · replace h := h.2 c
    refine g_iloadn (pc' := 10) d_225_9 rfl rfl ?_
    refine g_if_lt (pc' := 13) (pt := 42) d_225_10 (by decide) rfl (fun c => ?_) (fun c => ?_)
    · replace h := h.1 c
      refine g_ldc2 (pc' := 45) d_225_42 rfl st_225_166 cL_m9223372036854775808 ?_
      exact g_lret d_225_45 rt_225 h
    · replace h := h.2 c
      refine g_iloadn (pc' := 14) d_225_13 rfl rfl ?_
      refine g_bipush (pc' := 16) d_225_14 rfl cb_38 ?_
      refine g_ic_gt (pc' := 19) (pt := 42) d_225_16 (by decide) rfl (fun c => ?_) (fun c => ?_)
      · replace h := h.1 c
        refine g_ldc2 (pc' := 45) d_225_42 rfl st_225_166 cL_m9223372036854775808 ?_
        exact g_lret d_225_45 rt_225 h
      · replace h := h.2 c
        refine g_iloadn (pc' := 20) d_225_19 rfl rfl ?_
        refine g_bipush (pc' := 22) d_225_20 rfl cb_38 ?_
        refine g_ic_gt (pc' := 25) (pt := 42) d_225_22 (by decide) rfl (fun c => ?_) (fun c => ?_)
        · replace h := h.1 c
          refine g_ldc2 (pc' := 45) d_225_42 rfl st_225_166 cL_m9223372036854775808 ?_
          exact g_lret d_225_45 rt_225 h
        · replace h := h.2 c
          refine g_iloadn (pc' := 26) d_225_25 rfl rfl ?_
          refine g_iloadn (pc' := 27) d_225_26 rfl rfl ?_
          refine g_iadd (pc' := 28) d_225_27 rfl ?_
          refine g_bipush (pc' := 30) d_225_28 rfl cb_38 ?_
          refine g_ic_gt (pc' := 33) (pt := 42) d_225_30 (by decide) rfl (fun c => ?_) (fun c => ?_)
          · replace h := h.1 c
            refine g_ldc2 (pc' := 45) d_225_42 rfl st_225_166 cL_m9223372036854775808 ?_
            exact g_lret d_225_45 rt_225 h
          · replace h := h.2 c
            refine g_iloadn (pc' := 34) d_225_33 rfl rfl ?_
            refine g_iconst (pc' := 35) d_225_34 rfl ci_0 ?_
            refine g_iconst (pc' := 36) d_225_35 rfl ci_2 ?_
            obtain ⟨r7, w5, hk6, h⟩ := h
            refine g_callS (pc' := 39) d_225_36 rfl st_225_137 (Or.inl rfl) na_199 ml_199 rfl rfl rfl rm_225_199 rfl rfl hk6 ?_
            refine g_if_ne (pc' := 42) (pt := 46) d_225_39 (by decide) rfl (fun c => ?_) (fun c => ?_)
            · replace h := h.1 c
              refine g_iconst (pc' := 47) d_225_46 rfl ci_0 ?_
              refine g_istore (pc' := 49) (l' := [some (.ref a0), some (.int i1), some (.int i2), some (.int i3), some (.int (0 : Int32)), none, none, none, none, none]) d_225_47 rfl ml_225 rfl rfl ?_
              exact h
            · replace h := h.2 c
              refine g_ldc2 (pc' := 45) d_225_42 rfl st_225_166 cL_m9223372036854775808 ?_
              exact g_lret d_225_45 rt_225 h
theorem S_225_49 {a0 : Nat} {i1 : Int32} {i2 : Int32} {i3 : Int32} {i4 : Int32} {w : xW} {r : Option Value × xW} (h : ((38 : Int32) < i4 → xGo 225 107 [some (.ref a0), some (.int i1), some (.int i2), some (.int i3), some (.int (1 : Int32)), none, none, none, none, none] [] w r) ∧ (¬ ((38 : Int32) < i4) → ∃ fs1, w[a0]? = some (.inr (12, fs1)) ∧ ∃ b3, fs1[10]? = some (.ref b3) ∧ (¬ i4 = 0 → ∃ n5 f6, w[b3]? = some (.inl (.inr (n5, f6))) ∧ (¬ (i4 < 0 ∨ n5 ≤ i4.toNatClampNeg)) ∧ ∀ w9, w9 = w.set b3 (.inl (.inr (n5, (vp_updL f6 i4.toNatClampNeg (0 : Int64))))) → ∃ fs10, w9[a0]? = some (.inr (12, fs10)) ∧ ∃ b12, fs10[11]? = some (.ref b12) ∧ (¬ i4 = 0 → (¬ ((i4 + (1 : Int32)).toInt64) = 0) ∧ ∃ n15 f16, w9[b12]? = some (.inl (.inr (n15, f16))) ∧ ∀ v18 : Int64, v18 = ((5342931457063200 : Int64) / ((i4 + (1 : Int32)).toInt64)) → (¬ (i4 < 0 ∨ n15 ≤ i4.toNatClampNeg)) ∧ ∀ w20, w20 = w9.set b12 (.inl (.inr (n15, (vp_updL f16 i4.toNatClampNeg v18)))) → ∀ v21 : Int32, v21 = i4 + (1 : Int32) → xGo 225 49 [some (.ref a0), some (.int i1), some (.int i2), some (.int i3), some (.int v21), none, none, none, none, none] [] w20 r) ∧ (¬ (¬ i4 = 0) → ∃ n22 f23, w9[b12]? = some (.inl (.inr (n22, f23))) ∧ (¬ (i4 < 0 ∨ n22 ≤ i4.toNatClampNeg)) ∧ ∀ w26, w26 = w9.set b12 (.inl (.inr (n22, (vp_updL f23 i4.toNatClampNeg (0 : Int64))))) → ∀ v27 : Int32, v27 = i4 + (1 : Int32) → xGo 225 49 [some (.ref a0), some (.int i1), some (.int i2), some (.int i3), some (.int v27), none, none, none, none, none] [] w26 r)) ∧ (¬ (¬ i4 = 0) → ∃ n28 f29, w[b3]? = some (.inl (.inr (n28, f29))) ∧ (¬ (i4 < 0 ∨ n28 ≤ i4.toNatClampNeg)) ∧ ∀ w32, w32 = w.set b3 (.inl (.inr (n28, (vp_updL f29 i4.toNatClampNeg (1 : Int64))))) → ∃ fs33, w32[a0]? = some (.inr (12, fs33)) ∧ ∃ b35, fs33[11]? = some (.ref b35) ∧ (¬ i4 = 0 → (¬ ((i4 + (1 : Int32)).toInt64) = 0) ∧ ∃ n38 f39, w32[b35]? = some (.inl (.inr (n38, f39))) ∧ ∀ v41 : Int64, v41 = ((5342931457063200 : Int64) / ((i4 + (1 : Int32)).toInt64)) → (¬ (i4 < 0 ∨ n38 ≤ i4.toNatClampNeg)) ∧ ∀ w43, w43 = w32.set b35 (.inl (.inr (n38, (vp_updL f39 i4.toNatClampNeg v41)))) → ∀ v44 : Int32, v44 = i4 + (1 : Int32) → xGo 225 49 [some (.ref a0), some (.int i1), some (.int i2), some (.int i3), some (.int v44), none, none, none, none, none] [] w43 r) ∧ (¬ (¬ i4 = 0) → ∃ n45 f46, w32[b35]? = some (.inl (.inr (n45, f46))) ∧ (¬ (i4 < 0 ∨ n45 ≤ i4.toNatClampNeg)) ∧ ∀ w49, w49 = w32.set b35 (.inl (.inr (n45, (vp_updL f46 i4.toNatClampNeg (0 : Int64))))) → ∀ v50 : Int32, v50 = i4 + (1 : Int32) → xGo 225 49 [some (.ref a0), some (.int i1), some (.int i2), some (.int i3), some (.int v50), none, none, none, none, none] [] w49 r)))) : xGo 225 49 [some (.ref a0), some (.int i1), some (.int i2), some (.int i3), some (.int i4), none, none, none, none, none] [] w r := by
  refine g_iload (pc' := 51) d_225_49 rfl rfl ?_
  refine g_bipush (pc' := 53) d_225_51 rfl cb_38 ?_
  refine g_ic_gt (pc' := 56) (pt := 104) d_225_53 (by decide) rfl (fun c => ?_) (fun c => ?_)
  · replace h := h.1 c
    refine g_iconst (pc' := 105) d_225_104 rfl ci_1 ?_
    refine g_istore (pc' := 107) (l' := [some (.ref a0), some (.int i1), some (.int i2), some (.int i3), some (.int (1 : Int32)), none, none, none, none, none]) d_225_105 rfl ml_225 rfl rfl ?_
    exact h
  · replace h := h.2 c
    refine g_aloadn (pc' := 57) d_225_56 rfl rfl ?_
    obtain ⟨fs1, hw2, h⟩ := h
    obtain ⟨b3, hv4, h⟩ := h
    refine g_getf (pc' := 60) d_225_57 rfl st_225_30 hw2 hv4 ?_
    refine g_iload (pc' := 62) d_225_60 rfl rfl ?_
    refine g_iload (pc' := 64) d_225_62 rfl rfl ?_
    refine g_if_ne (pc' := 67) (pt := 71) d_225_64 (by decide) rfl (fun c => ?_) (fun c => ?_)
    · replace h := h.1 c
      refine g_lconst (pc' := 72) d_225_71 rfl cl_0 ?_
      obtain ⟨n5, f6, hw7, h⟩ := h
      obtain ⟨hc8, h⟩ := h
      have h := h _ rfl
      refine g_last (pc' := 73) d_225_72 rfl hw7 hc8 ?_
      refine g_aloadn (pc' := 74) d_225_73 rfl rfl ?_
      obtain ⟨fs10, hw11, h⟩ := h
      obtain ⟨b12, hv13, h⟩ := h
      refine g_getf (pc' := 77) d_225_74 rfl st_225_33 hw11 hv13 ?_
      refine g_iload (pc' := 79) d_225_77 rfl rfl ?_
      refine g_iload (pc' := 81) d_225_79 rfl rfl ?_
      refine g_if_ne (pc' := 84) (pt := 88) d_225_81 (by decide) rfl (fun c => ?_) (fun c => ?_)
      · replace h := h.1 c
        refine g_ldc2 (pc' := 91) d_225_88 rfl st_225_168 cL_5342931457063200 ?_
        refine g_iload (pc' := 93) d_225_91 rfl rfl ?_
        refine g_iconst (pc' := 94) d_225_93 rfl ci_1 ?_
        refine g_iadd (pc' := 95) d_225_94 rfl ?_
        refine g_i2l (pc' := 96) d_225_95 rfl ?_
        obtain ⟨hc14, h⟩ := h
        refine g_ldiv (pc' := 97) d_225_96 rfl hc14 ?_
        obtain ⟨n15, f16, hw17, h⟩ := h
        have h := h _ rfl
        obtain ⟨hc19, h⟩ := h
        have h := h _ rfl
        refine g_last (pc' := 98) d_225_97 rfl hw17 hc19 ?_
        have h := h _ rfl
        refine g_iinc (pc' := 101) (l' := [some (.ref a0), some (.int i1), some (.int i2), some (.int i3), some (.int (i4 + (1 : Int32))), none, none, none, none, none]) d_225_98 rfl rfl ci_1 ml_225 rfl rfl ?_
        refine g_goto (pt := 49) d_225_101 (by decide) ?_
        exact h
      · replace h := h.2 c
        refine g_lconst (pc' := 85) d_225_84 rfl cl_0 ?_
        refine g_goto (pt := 97) d_225_85 (by decide) ?_
        obtain ⟨n22, f23, hw24, h⟩ := h
        obtain ⟨hc25, h⟩ := h
        have h := h _ rfl
        refine g_last (pc' := 98) d_225_97 rfl hw24 hc25 ?_
        have h := h _ rfl
        refine g_iinc (pc' := 101) (l' := [some (.ref a0), some (.int i1), some (.int i2), some (.int i3), some (.int (i4 + (1 : Int32))), none, none, none, none, none]) d_225_98 rfl rfl ci_1 ml_225 rfl rfl ?_
        refine g_goto (pt := 49) d_225_101 (by decide) ?_
        exact h
    · replace h := h.2 c
      refine g_lconst (pc' := 68) d_225_67 rfl cl_1 ?_
      refine g_goto (pt := 72) d_225_68 (by decide) ?_
      obtain ⟨n28, f29, hw30, h⟩ := h
      obtain ⟨hc31, h⟩ := h
      have h := h _ rfl
      refine g_last (pc' := 73) d_225_72 rfl hw30 hc31 ?_
      refine g_aloadn (pc' := 74) d_225_73 rfl rfl ?_
      obtain ⟨fs33, hw34, h⟩ := h
      obtain ⟨b35, hv36, h⟩ := h
      refine g_getf (pc' := 77) d_225_74 rfl st_225_33 hw34 hv36 ?_
      refine g_iload (pc' := 79) d_225_77 rfl rfl ?_
      refine g_iload (pc' := 81) d_225_79 rfl rfl ?_
      refine g_if_ne (pc' := 84) (pt := 88) d_225_81 (by decide) rfl (fun c => ?_) (fun c => ?_)
      · replace h := h.1 c
        refine g_ldc2 (pc' := 91) d_225_88 rfl st_225_168 cL_5342931457063200 ?_
        refine g_iload (pc' := 93) d_225_91 rfl rfl ?_
        refine g_iconst (pc' := 94) d_225_93 rfl ci_1 ?_
        refine g_iadd (pc' := 95) d_225_94 rfl ?_
        refine g_i2l (pc' := 96) d_225_95 rfl ?_
        obtain ⟨hc37, h⟩ := h
        refine g_ldiv (pc' := 97) d_225_96 rfl hc37 ?_
        obtain ⟨n38, f39, hw40, h⟩ := h
        have h := h _ rfl
        obtain ⟨hc42, h⟩ := h
        have h := h _ rfl
        refine g_last (pc' := 98) d_225_97 rfl hw40 hc42 ?_
        have h := h _ rfl
        refine g_iinc (pc' := 101) (l' := [some (.ref a0), some (.int i1), some (.int i2), some (.int i3), some (.int (i4 + (1 : Int32))), none, none, none, none, none]) d_225_98 rfl rfl ci_1 ml_225 rfl rfl ?_
        refine g_goto (pt := 49) d_225_101 (by decide) ?_
        exact h
      · replace h := h.2 c
        refine g_lconst (pc' := 85) d_225_84 rfl cl_0 ?_
        refine g_goto (pt := 97) d_225_85 (by decide) ?_
        obtain ⟨n45, f46, hw47, h⟩ := h
        obtain ⟨hc48, h⟩ := h
        have h := h _ rfl
        refine g_last (pc' := 98) d_225_97 rfl hw47 hc48 ?_
        have h := h _ rfl
        refine g_iinc (pc' := 101) (l' := [some (.ref a0), some (.int i1), some (.int i2), some (.int i3), some (.int (i4 + (1 : Int32))), none, none, none, none, none]) d_225_98 rfl rfl ci_1 ml_225 rfl rfl ?_
        refine g_goto (pt := 49) d_225_101 (by decide) ?_
        exact h
theorem S_225_107 {a0 : Nat} {i1 : Int32} {i2 : Int32} {i3 : Int32} {i4 : Int32} {w : xW} {r : Option Value × xW} (h : (i1 < i4 → ∃ fs1, w[a0]? = some (.inr (12, fs1)) ∧ ∃ b3, fs1[29]? = some (.ref b3) ∧ ∃ b5, fs1[10]? = some (.ref b5) ∧ ∃ n7 f8, w[b5]? = some (.inl (.inr (n7, f8))) ∧ (¬ (i2 < 0 ∨ n7 ≤ i2.toNatClampNeg)) ∧ ∃ b11, fs1[11]? = some (.ref b11) ∧ ∃ n13 f14, w[b11]? = some (.inl (.inr (n13, f14))) ∧ (¬ (i2 < 0 ∨ n13 ≤ i2.toNatClampNeg)) ∧ ∃ w17, xCall 194 [.ref a0, .ref b3, .int (0 : Int32), .long (f8 i2.toNatClampNeg), .long (f14 i2.toNatClampNeg), .long (5342931457063200 : Int64)] w (none, w17) ∧ ∃ fs19, w17[a0]? = some (.inr (12, fs19)) ∧ ∃ b21, fs19[29]? = some (.ref b21) ∧ ∃ n23 f24, w17[b21]? = some (.inl (.inr (n23, f24))) ∧ (¬ (i3 < 0 ∨ n23 ≤ i3.toNatClampNeg)) ∧ r = (some (.long (f24 i3.toNatClampNeg)), w17)) ∧ (¬ (i1 < i4) → xGo 225 116 [some (.ref a0), some (.int i1), some (.int i2), some (.int i3), some (.int i4), some (.int (0 : Int32)), none, none, none, none] [] w r)) : xGo 225 107 [some (.ref a0), some (.int i1), some (.int i2), some (.int i3), some (.int i4), none, none, none, none, none] [] w r := by
  refine g_iload (pc' := 109) d_225_107 rfl rfl ?_
  refine g_iloadn (pc' := 110) d_225_109 rfl rfl ?_
  refine g_ic_gt (pc' := 113) (pt := 222) d_225_110 (by decide) rfl (fun c => ?_) (fun c => ?_)
  · replace h := h.1 c
    refine g_aloadn (pc' := 223) d_225_222 rfl rfl ?_
    refine g_aloadn (pc' := 224) d_225_223 rfl rfl ?_
    obtain ⟨fs1, hw2, h⟩ := h
    obtain ⟨b3, hv4, h⟩ := h
    refine g_getf (pc' := 227) d_225_224 rfl st_225_81 hw2 hv4 ?_
    refine g_iconst (pc' := 228) d_225_227 rfl ci_0 ?_
    refine g_aloadn (pc' := 229) d_225_228 rfl rfl ?_
    obtain ⟨b5, hv6, h⟩ := h
    refine g_getf (pc' := 232) d_225_229 rfl st_225_30 hw2 hv6 ?_
    refine g_iloadn (pc' := 233) d_225_232 rfl rfl ?_
    obtain ⟨n7, f8, hw9, h⟩ := h
    obtain ⟨hc10, h⟩ := h
    refine g_lald (pc' := 234) d_225_233 rfl hw9 hc10 ?_
    refine g_aloadn (pc' := 235) d_225_234 rfl rfl ?_
    obtain ⟨b11, hv12, h⟩ := h
    refine g_getf (pc' := 238) d_225_235 rfl st_225_33 hw2 hv12 ?_
    refine g_iloadn (pc' := 239) d_225_238 rfl rfl ?_
    obtain ⟨n13, f14, hw15, h⟩ := h
    obtain ⟨hc16, h⟩ := h
    refine g_lald (pc' := 240) d_225_239 rfl hw15 hc16 ?_
    refine g_ldc2 (pc' := 243) d_225_240 rfl st_225_168 cL_5342931457063200 ?_
    obtain ⟨w17, hk18, h⟩ := h
    refine g_callV (pc' := 246) d_225_243 rfl st_225_134 na_194 ml_194 rfl rfl rfl rm_225_194 rfl rfl ow_194 hw2 hk18 ?_
    refine g_aloadn (pc' := 247) d_225_246 rfl rfl ?_
    obtain ⟨fs19, hw20, h⟩ := h
    obtain ⟨b21, hv22, h⟩ := h
    refine g_getf (pc' := 250) d_225_247 rfl st_225_81 hw20 hv22 ?_
    refine g_iloadn (pc' := 251) d_225_250 rfl rfl ?_
    obtain ⟨n23, f24, hw25, h⟩ := h
    obtain ⟨hc26, h⟩ := h
    refine g_lald (pc' := 252) d_225_251 rfl hw25 hc26 ?_
    exact g_lret d_225_252 rt_225 h
  · replace h := h.2 c
    refine g_iconst (pc' := 114) d_225_113 rfl ci_0 ?_
    refine g_istore (pc' := 116) (l' := [some (.ref a0), some (.int i1), some (.int i2), some (.int i3), some (.int i4), some (.int (0 : Int32)), none, none, none, none]) d_225_114 rfl ml_225 rfl rfl ?_
    exact h
theorem S_225_116 {a0 : Nat} {i1 : Int32} {i2 : Int32} {i3 : Int32} {i4 : Int32} {i5 : Int32} {w : xW} {r : Option Value × xW} (h : ((38 : Int32) < (i5 + i4) → ∀ v1 : Int32, v1 = i4 + (1 : Int32) → xGo 225 107 [some (.ref a0), some (.int i1), some (.int i2), some (.int i3), some (.int v1), none, none, none, none, none] [] w r) ∧ (¬ ((38 : Int32) < (i5 + i4)) → ∃ fs2, w[a0]? = some (.inr (12, fs2)) ∧ ∃ b4, fs2[11]? = some (.ref b4) ∧ ∃ n6 f7, w[b4]? = some (.inl (.inr (n6, f7))) ∧ (¬ (i5 < 0 ∨ n6 ≤ i5.toNatClampNeg)) ∧ (¬ ((i5 + (1 : Int32)) < 0 ∨ n6 ≤ (i5 + (1 : Int32)).toNatClampNeg)) ∧ ∀ v11 : Int64, v11 = (((i5 + (1 : Int32)).toInt64) * ((f7 i5.toNatClampNeg) - (f7 (i5 + (1 : Int32)).toNatClampNeg))) → ∃ r14 w12, xCall 193 [.long v11, .long (5342931457063200 : Int64)] w (some (.long r14), w12) ∧ ∃ fs15, w12[a0]? = some (.inr (12, fs15)) ∧ ∃ b17, fs15[10]? = some (.ref b17) ∧ ∃ n19 f20, w12[b17]? = some (.inl (.inr (n19, f20))) ∧ (¬ (i5 < 0 ∨ n19 ≤ i5.toNatClampNeg)) ∧ (¬ ((i5 + (1 : Int32)) < 0 ∨ n19 ≤ (i5 + (1 : Int32)).toNatClampNeg)) ∧ ∀ v24 : Int64, v24 = ((((i5 + (1 : Int32)).toInt64) * ((f20 i5.toNatClampNeg) - (f20 (i5 + (1 : Int32)).toNatClampNeg))) + r14) → (¬ (i5 < 0 ∨ n19 ≤ i5.toNatClampNeg)) ∧ ∀ w26, w26 = w12.set b17 (.inl (.inr (n19, (vp_updL f20 i5.toNatClampNeg v24)))) → ∃ fs27, w26[a0]? = some (.inr (12, fs27)) ∧ ∃ b29, fs27[11]? = some (.ref b29) ∧ ∃ n31 f32, w26[b29]? = some (.inl (.inr (n31, f32))) ∧ ∀ v34 : Int64, v34 = (v11 - (r14 * (5342931457063200 : Int64))) → (¬ (i5 < 0 ∨ n31 ≤ i5.toNatClampNeg)) ∧ ∀ w36, w36 = w26.set b29 (.inl (.inr (n31, (vp_updL f32 i5.toNatClampNeg v34)))) → ∀ v37 : Int32, v37 = i5 + (1 : Int32) → xGo 225 116 [some (.ref a0), some (.int i1), some (.int i2), some (.int i3), some (.int i4), some (.int v37), none, none, none, none] [] w36 r)) : xGo 225 116 [some (.ref a0), some (.int i1), some (.int i2), some (.int i3), some (.int i4), some (.int i5), none, none, none, none] [] w r := by
  refine g_iload (pc' := 118) d_225_116 rfl rfl ?_
  refine g_iload (pc' := 120) d_225_118 rfl rfl ?_
  refine g_iadd (pc' := 121) d_225_120 rfl ?_
  refine g_bipush (pc' := 123) d_225_121 rfl cb_38 ?_
  refine g_ic_gt (pc' := 126) (pt := 216) d_225_123 (by decide) rfl (fun c => ?_) (fun c => ?_)
  · replace h := h.1 c
    have h := h _ rfl
    refine g_iinc (pc' := 219) (l' := [some (.ref a0), some (.int i1), some (.int i2), some (.int i3), some (.int (i4 + (1 : Int32))), some (.int i5), none, none, none, none]) d_225_216 rfl rfl ci_1 ml_225 rfl rfl ?_
    refine g_goto (pt := 107) d_225_219 (by decide) ?_
    exact xGo.more (xle_s (xle_s (xle_s (xle_s (xle_s (xle_n (xle_n (xle_n (xle_n (xle_n xle_0)))))))))) h
  · replace h := h.2 c
    refine g_iload (pc' := 128) d_225_126 rfl rfl ?_
    refine g_iconst (pc' := 129) d_225_128 rfl ci_1 ?_
    refine g_iadd (pc' := 130) d_225_129 rfl ?_
    refine g_i2l (pc' := 131) d_225_130 rfl ?_
    refine g_aloadn (pc' := 132) d_225_131 rfl rfl ?_
    obtain ⟨fs2, hw3, h⟩ := h
    obtain ⟨b4, hv5, h⟩ := h
    refine g_getf (pc' := 135) d_225_132 rfl st_225_33 hw3 hv5 ?_
    refine g_iload (pc' := 137) d_225_135 rfl rfl ?_
    obtain ⟨n6, f7, hw8, h⟩ := h
    obtain ⟨hc9, h⟩ := h
    refine g_lald (pc' := 138) d_225_137 rfl hw8 hc9 ?_
    refine g_aloadn (pc' := 139) d_225_138 rfl rfl ?_
    refine g_getf (pc' := 142) d_225_139 rfl st_225_33 hw3 hv5 ?_
    refine g_iload (pc' := 144) d_225_142 rfl rfl ?_
    refine g_iconst (pc' := 145) d_225_144 rfl ci_1 ?_
    refine g_iadd (pc' := 146) d_225_145 rfl ?_
    obtain ⟨hc10, h⟩ := h
    refine g_lald (pc' := 147) d_225_146 rfl hw8 hc10 ?_
    refine g_lsub (pc' := 148) d_225_147 rfl ?_
    refine g_lmul (pc' := 149) d_225_148 rfl ?_
    have h := h _ rfl
    refine g_lstore (pc' := 151) (l' := [some (.ref a0), some (.int i1), some (.int i2), some (.int i3), some (.int i4), some (.int i5), some (.long ((((i5 + (1 : Int32)).toInt64) * ((f7 i5.toNatClampNeg) - (f7 (i5 + (1 : Int32)).toNatClampNeg))))), none, none, none]) d_225_149 rfl ml_225 rfl rfl ?_
    refine g_lload (pc' := 153) d_225_151 rfl rfl ?_
    refine g_ldc2 (pc' := 156) d_225_153 rfl st_225_168 cL_5342931457063200 ?_
    obtain ⟨r14, w12, hk13, h⟩ := h
    refine g_callS (pc' := 159) d_225_156 rfl st_225_131 (Or.inl rfl) na_193 ml_193 rfl rfl rfl rm_225_193 rfl rfl hk13 ?_
    refine g_lstore (pc' := 161) (l' := [some (.ref a0), some (.int i1), some (.int i2), some (.int i3), some (.int i4), some (.int i5), some (.long ((((i5 + (1 : Int32)).toInt64) * ((f7 i5.toNatClampNeg) - (f7 (i5 + (1 : Int32)).toNatClampNeg))))), none, some (.long r14), none]) d_225_159 rfl ml_225 rfl rfl ?_
    refine g_aloadn (pc' := 162) d_225_161 rfl rfl ?_
    obtain ⟨fs15, hw16, h⟩ := h
    obtain ⟨b17, hv18, h⟩ := h
    refine g_getf (pc' := 165) d_225_162 rfl st_225_30 hw16 hv18 ?_
    refine g_iload (pc' := 167) d_225_165 rfl rfl ?_
    refine g_iload (pc' := 169) d_225_167 rfl rfl ?_
    refine g_iconst (pc' := 170) d_225_169 rfl ci_1 ?_
    refine g_iadd (pc' := 171) d_225_170 rfl ?_
    refine g_i2l (pc' := 172) d_225_171 rfl ?_
    refine g_aloadn (pc' := 173) d_225_172 rfl rfl ?_
    refine g_getf (pc' := 176) d_225_173 rfl st_225_30 hw16 hv18 ?_
    refine g_iload (pc' := 178) d_225_176 rfl rfl ?_
    obtain ⟨n19, f20, hw21, h⟩ := h
    obtain ⟨hc22, h⟩ := h
    refine g_lald (pc' := 179) d_225_178 rfl hw21 hc22 ?_
    refine g_aloadn (pc' := 180) d_225_179 rfl rfl ?_
    refine g_getf (pc' := 183) d_225_180 rfl st_225_30 hw16 hv18 ?_
    refine g_iload (pc' := 185) d_225_183 rfl rfl ?_
    refine g_iconst (pc' := 186) d_225_185 rfl ci_1 ?_
    refine g_iadd (pc' := 187) d_225_186 rfl ?_
    obtain ⟨hc23, h⟩ := h
    refine g_lald (pc' := 188) d_225_187 rfl hw21 hc23 ?_
    refine g_lsub (pc' := 189) d_225_188 rfl ?_
    refine g_lmul (pc' := 190) d_225_189 rfl ?_
    refine g_lload (pc' := 192) d_225_190 rfl rfl ?_
    refine g_ladd (pc' := 193) d_225_192 rfl ?_
    have h := h _ rfl
    obtain ⟨hc25, h⟩ := h
    have h := h _ rfl
    refine g_last (pc' := 194) d_225_193 rfl hw21 hc25 ?_
    refine g_aloadn (pc' := 195) d_225_194 rfl rfl ?_
    obtain ⟨fs27, hw28, h⟩ := h
    obtain ⟨b29, hv30, h⟩ := h
    refine g_getf (pc' := 198) d_225_195 rfl st_225_33 hw28 hv30 ?_
    refine g_iload (pc' := 200) d_225_198 rfl rfl ?_
    refine g_lload (pc' := 202) d_225_200 rfl rfl ?_
    refine g_lload (pc' := 204) d_225_202 rfl rfl ?_
    refine g_ldc2 (pc' := 207) d_225_204 rfl st_225_168 cL_5342931457063200 ?_
    refine g_lmul (pc' := 208) d_225_207 rfl ?_
    refine g_lsub (pc' := 209) d_225_208 rfl ?_
    obtain ⟨n31, f32, hw33, h⟩ := h
    have h := h _ rfl
    obtain ⟨hc35, h⟩ := h
    have h := h _ rfl
    refine g_last (pc' := 210) d_225_209 rfl hw33 hc35 ?_
    have h := h _ rfl
    refine g_iinc (pc' := 213) (l' := [some (.ref a0), some (.int i1), some (.int i2), some (.int i3), some (.int i4), some (.int (i5 + (1 : Int32))), some (.long ((((i5 + (1 : Int32)).toInt64) * ((f7 i5.toNatClampNeg) - (f7 (i5 + (1 : Int32)).toNatClampNeg))))), none, some (.long r14), none]) d_225_210 rfl rfl ci_1 ml_225 rfl rfl ?_
    refine g_goto (pt := 116) d_225_213 (by decide) ?_
    exact xGo.more (xle_s (xle_s (xle_s (xle_s (xle_s (xle_s (xle_n (xle_n (xle_n (xle_n xle_0)))))))))) h
-- 226 BernoulliWaysModel.whichBelow(I)I
theorem S_226_0 {a0 : Nat} {i1 : Int32} {w : xW} {r : Option Value × xW} (h : ∃ fs1, w[a0]? = some (.inr (12, fs1)) ∧ (0 < fs1.length) ∧ ∀ w4, w4 = w.set a0 (.inr (12, fs1.set 0 (.int (0 : Int32)))) → ((1 : Int32) ≤ i1 → xGo 226 14 [some (.ref a0), some (.int i1), some (.int (2 : Int32))] [] w4 r) ∧ (¬ ((1 : Int32) ≤ i1) → r = (some (.int (-1 : Int32)), w4))) : xGo 226 0 [some (.ref a0), some (.int i1), none] [] w r := by
  refine g_aloadn (pc' := 1) d_226_0 rfl rfl ?_
  refine g_iconst (pc' := 2) d_226_1 rfl ci_0 ?_
  obtain ⟨fs1, hw2, h⟩ := h
  obtain ⟨hc3, h⟩ := h
  have h := h _ rfl
  refine g_putf (pc' := 5) d_226_2 rfl st_226_118 ft_12_0 ff_12_0 rfl (Or.inl rfl) hw2 hc3 ?_
  refine g_iloadn (pc' := 6) d_226_5 rfl rfl ?_
  refine g_iconst (pc' := 7) d_226_6 rfl ci_1 ?_
  refine g_ic_ge (pc' := 10) (pt := 12) d_226_7 (by decide) rfl (fun c => ?_) (fun c => ?_)
  · replace h := h.1 c
    refine g_iconst (pc' := 13) d_226_12 rfl ci_2 ?_
    refine g_istoren (pc' := 14) (l' := [some (.ref a0), some (.int i1), some (.int (2 : Int32))]) d_226_13 rfl ml_226 rfl rfl ?_
    exact h
  · replace h := h.2 c
    refine g_iconst (pc' := 11) d_226_10 rfl ci_m1 ?_
    exact g_iret d_226_11 rt_226 h
theorem S_226_14 {a0 : Nat} {i1 : Int32} {i2 : Int32} {w : xW} {r : Option Value × xW} (h : ((38 : Int32) < i2 → r = (some (.int (-2 : Int32)), w)) ∧ (¬ ((38 : Int32) < i2) → ∃ fs1, w[a0]? = some (.inr (12, fs1)) ∧ ∃ b3, fs1[1]? = some (.ref b3) ∧ ∃ n5 f6, w[b3]? = some (.inl (.inr (n5, f6))) ∧ (¬ ((((3 : Int32) * i2) + (2 : Int32)) < 0 ∨ n5 ≤ (((3 : Int32) * i2) + (2 : Int32)).toNatClampNeg)) ∧ (¬ (f6 (((3 : Int32) * i2) + (2 : Int32)).toNatClampNeg) = (i1.toInt64) → ∀ v9 : Int32, v9 = i2 + (2 : Int32) → xGo 226 14 [some (.ref a0), some (.int i1), some (.int v9)] [] w r) ∧ (¬ (¬ (f6 (((3 : Int32) * i2) + (2 : Int32)).toNatClampNeg) = (i1.toInt64)) → r = (some (.int i2), w)))) : xGo 226 14 [some (.ref a0), some (.int i1), some (.int i2)] [] w r := by
  refine g_iloadn (pc' := 15) d_226_14 rfl rfl ?_
  refine g_bipush (pc' := 17) d_226_15 rfl cb_38 ?_
  refine g_ic_gt (pc' := 20) (pt := 44) d_226_17 (by decide) rfl (fun c => ?_) (fun c => ?_)
  · replace h := h.1 c
    refine g_bipush (pc' := 46) d_226_44 rfl cb_m2 ?_
    exact g_iret d_226_46 rt_226 h
  · replace h := h.2 c
    refine g_aloadn (pc' := 21) d_226_20 rfl rfl ?_
    obtain ⟨fs1, hw2, h⟩ := h
    obtain ⟨b3, hv4, h⟩ := h
    refine g_getf (pc' := 24) d_226_21 rfl st_226_7 hw2 hv4 ?_
    refine g_iconst (pc' := 25) d_226_24 rfl ci_3 ?_
    refine g_iloadn (pc' := 26) d_226_25 rfl rfl ?_
    refine g_imul (pc' := 27) d_226_26 rfl ?_
    refine g_iconst (pc' := 28) d_226_27 rfl ci_2 ?_
    refine g_iadd (pc' := 29) d_226_28 rfl ?_
    obtain ⟨n5, f6, hw7, h⟩ := h
    obtain ⟨hc8, h⟩ := h
    refine g_lald (pc' := 30) d_226_29 rfl hw7 hc8 ?_
    refine g_iloadn (pc' := 31) d_226_30 rfl rfl ?_
    refine g_i2l (pc' := 32) d_226_31 rfl ?_
    refine g_lc_ne (pc' := 36) (pm := 33) (pt := 38) d_226_32 rfl d_226_33 (by decide) rfl (fun c => ?_) (fun c => ?_)
    · replace h := h.1 c
      have h := h _ rfl
      refine g_iinc (pc' := 41) (l' := [some (.ref a0), some (.int i1), some (.int (i2 + (2 : Int32)))]) d_226_38 rfl rfl ci_2 ml_226 rfl rfl ?_
      refine g_goto (pt := 14) d_226_41 (by decide) ?_
      exact h
    · replace h := h.2 c
      refine g_iloadn (pc' := 37) d_226_36 rfl rfl ?_
      exact g_iret d_226_37 rt_226 h
-- 227 BernoulliWaysModel.residue(II)I
theorem S_227_0 {a0 : Nat} {i1 : Int32} {i2 : Int32} {w : xW} {r : Option Value × xW} (h : ∃ fs1, w[a0]? = some (.inr (12, fs1)) ∧ (0 < fs1.length) ∧ ∀ w4, w4 = w.set a0 (.inr (12, fs1.set 0 (.int (0 : Int32)))) → ∃ r7 w5, xCall 198 [.ref a0, .int i1] w4 (some (.int r7), w5) ∧ (r7 = 0 → r = (some (.int (-1 : Int32)), w5)) ∧ (¬ (r7 = 0) → ∃ fs8, w5[a0]? = some (.inr (12, fs8)) ∧ ∃ r12 w10, xCall 228 [.ref a0, .int i2] w5 (some (.int r12), w10) ∧ (¬ r12 = 0 → ∃ fs13, w10[a0]? = some (.inr (12, fs13)) ∧ ∃ x15, fs13[4]? = some (.int x15) ∧ (i1 ≤ x15 → ∃ b17, fs13[2]? = some (.ref b17) ∧ ∃ r21 w19, xCall 214 [.ref a0, .ref b17, .int i1, .int i2] w10 (some (.int r21), w19) ∧ (r21 < 0 → r = (some (.int r21), w19)) ∧ (¬ (r21 < 0) → ∃ fs22, w19[a0]? = some (.inr (12, fs22)) ∧ ∃ w24, xCall 229 [.ref a0, .int i1, .int i2, .int r21] w19 (none, w24) ∧ r = (some (.int r21), w24))) ∧ (¬ (i1 ≤ x15) → r = (some (.int (-2 : Int32)), w10))) ∧ (¬ (¬ r12 = 0) → r = (some (.int (-1 : Int32)), w10)))) : xGo 227 0 [some (.ref a0), some (.int i1), some (.int i2), none] [] w r := by
  refine g_aloadn (pc' := 1) d_227_0 rfl rfl ?_
  refine g_iconst (pc' := 2) d_227_1 rfl ci_0 ?_
  obtain ⟨fs1, hw2, h⟩ := h
  obtain ⟨hc3, h⟩ := h
  have h := h _ rfl
  refine g_putf (pc' := 5) d_227_2 rfl st_227_118 ft_12_0 ff_12_0 rfl (Or.inl rfl) hw2 hc3 ?_
  refine g_aloadn (pc' := 6) d_227_5 rfl rfl ?_
  refine g_iloadn (pc' := 7) d_227_6 rfl rfl ?_
  obtain ⟨r7, w5, hk6, h⟩ := h
  refine g_callV (pc' := 10) d_227_7 rfl st_227_145 na_198 ml_198 rfl rfl rfl rm_227_198 rfl rfl ow_198 (x_gss hw2) hk6 ?_
  refine g_if_eq (pc' := 13) (pt := 21) d_227_10 (by decide) rfl (fun c => ?_) (fun c => ?_)
  · replace h := h.1 c
    refine g_iconst (pc' := 22) d_227_21 rfl ci_m1 ?_
    exact g_iret d_227_22 rt_227 h
  · replace h := h.2 c
    refine g_aloadn (pc' := 14) d_227_13 rfl rfl ?_
    refine g_iloadn (pc' := 15) d_227_14 rfl rfl ?_
    obtain ⟨fs8, hw9, h⟩ := h
    obtain ⟨r12, w10, hk11, h⟩ := h
    refine g_callV (pc' := 18) d_227_15 rfl st_227_185 na_228 ml_228 rfl rfl rfl rm_227_228 rfl rfl ow_228 hw9 hk11 ?_
    refine g_if_ne (pc' := 21) (pt := 23) d_227_18 (by decide) rfl (fun c => ?_) (fun c => ?_)
    · replace h := h.1 c
      refine g_iloadn (pc' := 24) d_227_23 rfl rfl ?_
      refine g_aloadn (pc' := 25) d_227_24 rfl rfl ?_
      obtain ⟨fs13, hw14, h⟩ := h
      obtain ⟨x15, hv16, h⟩ := h
      refine g_getf (pc' := 28) d_227_25 rfl st_227_20 hw14 hv16 ?_
      refine g_ic_le (pc' := 31) (pt := 34) d_227_28 (by decide) rfl (fun c => ?_) (fun c => ?_)
      · replace h := h.1 c
        refine g_aloadn (pc' := 35) d_227_34 rfl rfl ?_
        refine g_aloadn (pc' := 36) d_227_35 rfl rfl ?_
        obtain ⟨b17, hv18, h⟩ := h
        refine g_getf (pc' := 39) d_227_36 rfl st_227_13 hw14 hv18 ?_
        refine g_iloadn (pc' := 40) d_227_39 rfl rfl ?_
        refine g_iloadn (pc' := 41) d_227_40 rfl rfl ?_
        obtain ⟨r21, w19, hk20, h⟩ := h
        refine g_callV (pc' := 44) d_227_41 rfl st_227_188 na_214 ml_214 rfl rfl rfl rm_227_214 rfl rfl ow_214 hw14 hk20 ?_
        refine g_istoren (pc' := 45) (l' := [some (.ref a0), some (.int i1), some (.int i2), some (.int r21)]) d_227_44 rfl ml_227 rfl rfl ?_
        refine g_iloadn (pc' := 46) d_227_45 rfl rfl ?_
        refine g_if_lt (pc' := 49) (pt := 56) d_227_46 (by decide) rfl (fun c => ?_) (fun c => ?_)
        · replace h := h.1 c
          refine g_iloadn (pc' := 57) d_227_56 rfl rfl ?_
          exact g_iret d_227_57 rt_227 h
        · replace h := h.2 c
          refine g_aloadn (pc' := 50) d_227_49 rfl rfl ?_
          refine g_iloadn (pc' := 51) d_227_50 rfl rfl ?_
          refine g_iloadn (pc' := 52) d_227_51 rfl rfl ?_
          refine g_iloadn (pc' := 53) d_227_52 rfl rfl ?_
          obtain ⟨fs22, hw23, h⟩ := h
          obtain ⟨w24, hk25, h⟩ := h
          refine g_callV (pc' := 56) d_227_53 rfl st_227_192 na_229 ml_229 rfl rfl rfl rm_227_229 rfl rfl ow_229 hw23 hk25 ?_
          refine g_iloadn (pc' := 57) d_227_56 rfl rfl ?_
          exact g_iret d_227_57 rt_227 h
      · replace h := h.2 c
        refine g_bipush (pc' := 33) d_227_31 rfl cb_m2 ?_
        exact g_iret d_227_33 rt_227 h
    · replace h := h.2 c
      refine g_iconst (pc' := 22) d_227_21 rfl ci_m1 ?_
      exact g_iret d_227_22 rt_227 h
-- 228 BernoulliWaysModel.isPrime(I)Z
theorem S_228_0 {a0 : Nat} {i1 : Int32} {w : xW} {r : Option Value × xW} (h : xGo 228 2 [some (.ref a0), some (.int i1), some (.int (1 : Int32))] [] w r) : xGo 228 0 [some (.ref a0), some (.int i1), none] [] w r := by
  refine g_iconst (pc' := 1) d_228_0 rfl ci_1 ?_
  refine g_istoren (pc' := 2) (l' := [some (.ref a0), some (.int i1), some (.int (1 : Int32))]) d_228_1 rfl ml_228 rfl rfl ?_
  exact h
theorem S_228_2 {a0 : Nat} {i1 : Int32} {i2 : Int32} {w : xW} {r : Option Value × xW} (h : ∃ fs1, w[a0]? = some (.inr (12, fs1)) ∧ ∃ x3, fs1[7]? = some (.int x3) ∧ (x3 ≤ i2 → r = (some (.int (0 : Int32)), w)) ∧ (¬ (x3 ≤ i2) → ∃ b5, fs1[6]? = some (.ref b5) ∧ ∃ n7 f8, w[b5]? = some (.inl (.inl (n7, f8))) ∧ (¬ (i2 < 0 ∨ n7 ≤ i2.toNatClampNeg)) ∧ (¬ (f8 i2.toNatClampNeg) = i1 → ∀ v11 : Int32, v11 = i2 + (1 : Int32) → xGo 228 2 [some (.ref a0), some (.int i1), some (.int v11)] [] w r) ∧ (¬ (¬ (f8 i2.toNatClampNeg) = i1) → r = (some (.int (1 : Int32)), w)))) : xGo 228 2 [some (.ref a0), some (.int i1), some (.int i2)] [] w r := by
  refine g_iloadn (pc' := 3) d_228_2 rfl rfl ?_
  refine g_aloadn (pc' := 4) d_228_3 rfl rfl ?_
  obtain ⟨fs1, hw2, h⟩ := h
  obtain ⟨x3, hv4, h⟩ := h
  refine g_getf (pc' := 7) d_228_4 rfl st_228_96 hw2 hv4 ?_
  refine g_ic_ge (pc' := 10) (pt := 28) d_228_7 (by decide) rfl (fun c => ?_) (fun c => ?_)
  · replace h := h.1 c
    refine g_iconst (pc' := 29) d_228_28 rfl ci_0 ?_
    exact g_zret d_228_29 rt_228 (Or.inl rfl) h
  · replace h := h.2 c
    refine g_aloadn (pc' := 11) d_228_10 rfl rfl ?_
    obtain ⟨b5, hv6, h⟩ := h
    refine g_getf (pc' := 14) d_228_11 rfl st_228_27 hw2 hv6 ?_
    refine g_iloadn (pc' := 15) d_228_14 rfl rfl ?_
    obtain ⟨n7, f8, hw9, h⟩ := h
    obtain ⟨hc10, h⟩ := h
    refine g_iald (pc' := 16) d_228_15 rfl hw9 hc10 ?_
    refine g_iloadn (pc' := 17) d_228_16 rfl rfl ?_
    refine g_ic_ne (pc' := 20) (pt := 22) d_228_17 (by decide) rfl (fun c => ?_) (fun c => ?_)
    · replace h := h.1 c
      have h := h _ rfl
      refine g_iinc (pc' := 25) (l' := [some (.ref a0), some (.int i1), some (.int (i2 + (1 : Int32)))]) d_228_22 rfl rfl ci_1 ml_228 rfl rfl ?_
      refine g_goto (pt := 2) d_228_25 (by decide) ?_
      exact h
    · replace h := h.2 c
      refine g_iconst (pc' := 21) d_228_20 rfl ci_1 ?_
      exact g_zret d_228_21 rt_228 (Or.inr rfl) h
-- 229 BernoulliWaysModel.keeps(III)V
theorem S_229_0 {a0 : Nat} {i1 : Int32} {i2 : Int32} {i3 : Int32} {w : xW} {r : Option Value × xW} (h : ∃ fs1, w[a0]? = some (.inr (12, fs1)) ∧ ∃ r5 w3, xCall 230 [.ref a0, .int i1, .int i2] w (some (.int r5), w3) ∧ (0 ≤ r5 → ∃ fs6, w3[a0]? = some (.inr (12, fs6)) ∧ ∃ b8, fs6[12]? = some (.ref b8) ∧ ∃ n10 f11, w3[b8]? = some (.inl (.inl (n10, f11))) ∧ (¬ (((3 : Int32) * r5) < 0 ∨ n10 ≤ ((3 : Int32) * r5).toNatClampNeg)) ∧ ∀ w14, w14 = w3.set b8 (.inl (.inl (n10, (upd f11 ((3 : Int32) * r5).toNatClampNeg i1)))) → ∃ fs15, w14[a0]? = some (.inr (12, fs15)) ∧ ∃ b17, fs15[12]? = some (.ref b17) ∧ ∃ n19 f20, w14[b17]? = some (.inl (.inl (n19, f20))) ∧ (¬ ((((3 : Int32) * r5) + (1 : Int32)) < 0 ∨ n19 ≤ (((3 : Int32) * r5) + (1 : Int32)).toNatClampNeg)) ∧ ∀ w23, w23 = w14.set b17 (.inl (.inl (n19, (upd f20 (((3 : Int32) * r5) + (1 : Int32)).toNatClampNeg i2)))) → ∃ fs24, w23[a0]? = some (.inr (12, fs24)) ∧ ∃ b26, fs24[12]? = some (.ref b26) ∧ ∃ n28 f29, w23[b26]? = some (.inl (.inl (n28, f29))) ∧ (¬ ((((3 : Int32) * r5) + (2 : Int32)) < 0 ∨ n28 ≤ (((3 : Int32) * r5) + (2 : Int32)).toNatClampNeg)) ∧ ∀ w32, w32 = w23.set b26 (.inl (.inl (n28, (upd f29 (((3 : Int32) * r5) + (2 : Int32)).toNatClampNeg i3)))) → r = (none, w32)) ∧ (¬ (0 ≤ r5) → ∃ fs33, w3[a0]? = some (.inr (12, fs33)) ∧ ∃ x35, fs33[13]? = some (.int x35) ∧ (¬ x35 = (20 : Int32) → ∀ v37 : Int32, v37 = (x35 + (1 : Int32)) → (13 < fs33.length) ∧ ∀ w39, w39 = w3.set a0 (.inr (12, fs33.set 13 (.int v37))) → ∃ b40, (fs33.set 13 (.int v37))[12]? = some (.ref b40) ∧ ∃ n42 f43, w39[b40]? = some (.inl (.inl (n42, f43))) ∧ (¬ (((3 : Int32) * x35) < 0 ∨ n42 ≤ ((3 : Int32) * x35).toNatClampNeg)) ∧ ∀ w46, w46 = w39.set b40 (.inl (.inl (n42, (upd f43 ((3 : Int32) * x35).toNatClampNeg i1)))) → ∃ fs47, w46[a0]? = some (.inr (12, fs47)) ∧ ∃ b49, fs47[12]? = some (.ref b49) ∧ ∃ n51 f52, w46[b49]? = some (.inl (.inl (n51, f52))) ∧ (¬ ((((3 : Int32) * x35) + (1 : Int32)) < 0 ∨ n51 ≤ (((3 : Int32) * x35) + (1 : Int32)).toNatClampNeg)) ∧ ∀ w55, w55 = w46.set b49 (.inl (.inl (n51, (upd f52 (((3 : Int32) * x35) + (1 : Int32)).toNatClampNeg i2)))) → ∃ fs56, w55[a0]? = some (.inr (12, fs56)) ∧ ∃ b58, fs56[12]? = some (.ref b58) ∧ ∃ n60 f61, w55[b58]? = some (.inl (.inl (n60, f61))) ∧ (¬ ((((3 : Int32) * x35) + (2 : Int32)) < 0 ∨ n60 ≤ (((3 : Int32) * x35) + (2 : Int32)).toNatClampNeg)) ∧ ∀ w64, w64 = w55.set b58 (.inl (.inl (n60, (upd f61 (((3 : Int32) * x35) + (2 : Int32)).toNatClampNeg i3)))) → r = (none, w64)) ∧ (¬ (¬ x35 = (20 : Int32)) → xGo 229 25 [some (.ref a0), some (.int i1), some (.int i2), some (.int i3), some (.int r5), some (.int (3 : Int32))] [] w3 r))) : xGo 229 0 [some (.ref a0), some (.int i1), some (.int i2), some (.int i3), none, none] [] w r := by
  refine g_aloadn (pc' := 1) d_229_0 rfl rfl ?_
  refine g_iloadn (pc' := 2) d_229_1 rfl rfl ?_
  refine g_iloadn (pc' := 3) d_229_2 rfl rfl ?_
  obtain ⟨fs1, hw2, h⟩ := h
  obtain ⟨r5, w3, hk4, h⟩ := h
  refine g_callV (pc' := 6) d_229_3 rfl st_229_181 na_230 ml_230 rfl rfl rfl rm_229_230 rfl rfl ow_230 hw2 hk4 ?_
  refine g_istore (pc' := 8) (l' := [some (.ref a0), some (.int i1), some (.int i2), some (.int i3), some (.int r5), none]) d_229_6 rfl ml_229 rfl rfl ?_
  refine g_iload (pc' := 10) d_229_8 rfl rfl ?_
  refine g_if_ge (pc' := 13) (pt := 76) d_229_10 (by decide) rfl (fun c => ?_) (fun c => ?_)
  · replace h := h.1 c
    refine g_aloadn (pc' := 77) d_229_76 rfl rfl ?_
    obtain ⟨fs6, hw7, h⟩ := h
    obtain ⟨b8, hv9, h⟩ := h
    refine g_getf (pc' := 80) d_229_77 rfl st_229_36 hw7 hv9 ?_
    refine g_iconst (pc' := 81) d_229_80 rfl ci_3 ?_
    refine g_iload (pc' := 83) d_229_81 rfl rfl ?_
    refine g_imul (pc' := 84) d_229_83 rfl ?_
    refine g_iloadn (pc' := 85) d_229_84 rfl rfl ?_
    obtain ⟨n10, f11, hw12, h⟩ := h
    obtain ⟨hc13, h⟩ := h
    have h := h _ rfl
    refine g_iast (pc' := 86) d_229_85 rfl hw12 hc13 ?_
    refine g_aloadn (pc' := 87) d_229_86 rfl rfl ?_
    obtain ⟨fs15, hw16, h⟩ := h
    obtain ⟨b17, hv18, h⟩ := h
    refine g_getf (pc' := 90) d_229_87 rfl st_229_36 hw16 hv18 ?_
    refine g_iconst (pc' := 91) d_229_90 rfl ci_3 ?_
    refine g_iload (pc' := 93) d_229_91 rfl rfl ?_
    refine g_imul (pc' := 94) d_229_93 rfl ?_
    refine g_iconst (pc' := 95) d_229_94 rfl ci_1 ?_
    refine g_iadd (pc' := 96) d_229_95 rfl ?_
    refine g_iloadn (pc' := 97) d_229_96 rfl rfl ?_
    obtain ⟨n19, f20, hw21, h⟩ := h
    obtain ⟨hc22, h⟩ := h
    have h := h _ rfl
    refine g_iast (pc' := 98) d_229_97 rfl hw21 hc22 ?_
    refine g_aloadn (pc' := 99) d_229_98 rfl rfl ?_
    obtain ⟨fs24, hw25, h⟩ := h
    obtain ⟨b26, hv27, h⟩ := h
    refine g_getf (pc' := 102) d_229_99 rfl st_229_36 hw25 hv27 ?_
    refine g_iconst (pc' := 103) d_229_102 rfl ci_3 ?_
    refine g_iload (pc' := 105) d_229_103 rfl rfl ?_
    refine g_imul (pc' := 106) d_229_105 rfl ?_
    refine g_iconst (pc' := 107) d_229_106 rfl ci_2 ?_
    refine g_iadd (pc' := 108) d_229_107 rfl ?_
    refine g_iloadn (pc' := 109) d_229_108 rfl rfl ?_
    obtain ⟨n28, f29, hw30, h⟩ := h
    obtain ⟨hc31, h⟩ := h
    have h := h _ rfl
    refine g_iast (pc' := 110) d_229_109 rfl hw30 hc31 ?_
    exact g_vret d_229_110 rt_229 h
  · replace h := h.2 c
    refine g_aloadn (pc' := 14) d_229_13 rfl rfl ?_
    obtain ⟨fs33, hw34, h⟩ := h
    obtain ⟨x35, hv36, h⟩ := h
    refine g_getf (pc' := 17) d_229_14 rfl st_229_178 hw34 hv36 ?_
    refine g_bipush (pc' := 19) d_229_17 rfl cb_20 ?_
    refine g_ic_ne (pc' := 22) (pt := 60) d_229_19 (by decide) rfl (fun c => ?_) (fun c => ?_)
    · replace h := h.1 c
      refine g_aloadn (pc' := 61) d_229_60 rfl rfl ?_
      refine g_getf (pc' := 64) d_229_61 rfl st_229_178 hw34 hv36 ?_
      refine g_istore (pc' := 66) (l' := [some (.ref a0), some (.int i1), some (.int i2), some (.int i3), some (.int x35), none]) d_229_64 rfl ml_229 rfl rfl ?_
      refine g_aloadn (pc' := 67) d_229_66 rfl rfl ?_
      refine g_dup (pc' := 68) d_229_67 rfl rfl ?_
      refine g_getf (pc' := 71) d_229_68 rfl st_229_178 hw34 hv36 ?_
      refine g_iconst (pc' := 72) d_229_71 rfl ci_1 ?_
      refine g_iadd (pc' := 73) d_229_72 rfl ?_
      have h := h _ rfl
      obtain ⟨hc38, h⟩ := h
      have h := h _ rfl
      refine g_putf (pc' := 76) d_229_73 rfl st_229_178 ft_12_13 ff_12_13 rfl (Or.inl rfl) hw34 hc38 ?_
      refine g_aloadn (pc' := 77) d_229_76 rfl rfl ?_
      obtain ⟨b40, hv41, h⟩ := h
      refine g_getf (pc' := 80) d_229_77 rfl st_229_36 (x_gss hw34) hv41 ?_
      refine g_iconst (pc' := 81) d_229_80 rfl ci_3 ?_
      refine g_iload (pc' := 83) d_229_81 rfl rfl ?_
      refine g_imul (pc' := 84) d_229_83 rfl ?_
      refine g_iloadn (pc' := 85) d_229_84 rfl rfl ?_
      obtain ⟨n42, f43, hw44, h⟩ := h
      obtain ⟨hc45, h⟩ := h
      have h := h _ rfl
      refine g_iast (pc' := 86) d_229_85 rfl hw44 hc45 ?_
      refine g_aloadn (pc' := 87) d_229_86 rfl rfl ?_
      obtain ⟨fs47, hw48, h⟩ := h
      obtain ⟨b49, hv50, h⟩ := h
      refine g_getf (pc' := 90) d_229_87 rfl st_229_36 hw48 hv50 ?_
      refine g_iconst (pc' := 91) d_229_90 rfl ci_3 ?_
      refine g_iload (pc' := 93) d_229_91 rfl rfl ?_
      refine g_imul (pc' := 94) d_229_93 rfl ?_
      refine g_iconst (pc' := 95) d_229_94 rfl ci_1 ?_
      refine g_iadd (pc' := 96) d_229_95 rfl ?_
      refine g_iloadn (pc' := 97) d_229_96 rfl rfl ?_
      obtain ⟨n51, f52, hw53, h⟩ := h
      obtain ⟨hc54, h⟩ := h
      have h := h _ rfl
      refine g_iast (pc' := 98) d_229_97 rfl hw53 hc54 ?_
      refine g_aloadn (pc' := 99) d_229_98 rfl rfl ?_
      obtain ⟨fs56, hw57, h⟩ := h
      obtain ⟨b58, hv59, h⟩ := h
      refine g_getf (pc' := 102) d_229_99 rfl st_229_36 hw57 hv59 ?_
      refine g_iconst (pc' := 103) d_229_102 rfl ci_3 ?_
      refine g_iload (pc' := 105) d_229_103 rfl rfl ?_
      refine g_imul (pc' := 106) d_229_105 rfl ?_
      refine g_iconst (pc' := 107) d_229_106 rfl ci_2 ?_
      refine g_iadd (pc' := 108) d_229_107 rfl ?_
      refine g_iloadn (pc' := 109) d_229_108 rfl rfl ?_
      obtain ⟨n60, f61, hw62, h⟩ := h
      obtain ⟨hc63, h⟩ := h
      have h := h _ rfl
      refine g_iast (pc' := 110) d_229_109 rfl hw62 hc63 ?_
      exact g_vret d_229_110 rt_229 h
    · replace h := h.2 c
      refine g_iconst (pc' := 23) d_229_22 rfl ci_3 ?_
      refine g_istore (pc' := 25) (l' := [some (.ref a0), some (.int i1), some (.int i2), some (.int i3), some (.int r5), some (.int (3 : Int32))]) d_229_23 rfl ml_229 rfl rfl ?_
      exact h
theorem S_229_25 {a0 : Nat} {i1 : Int32} {i2 : Int32} {i3 : Int32} {i4 : Int32} {i5 : Int32} {w : xW} {r : Option Value × xW} (h : ((60 : Int32) ≤ i5 → ∃ fs1, w[a0]? = some (.inr (12, fs1)) ∧ (13 < fs1.length) ∧ ∀ w4, w4 = w.set a0 (.inr (12, fs1.set 13 (.int (19 : Int32)))) → ∃ x5, (fs1.set 13 (.int (19 : Int32)))[13]? = some (.int x5) ∧ ∀ v7 : Int32, v7 = (x5 + (1 : Int32)) → (13 < (fs1.set 13 (.int (19 : Int32))).length) ∧ ∀ w9, w9 = w4.set a0 (.inr (12, (fs1.set 13 (.int (19 : Int32))).set 13 (.int v7))) → ∃ b10, ((fs1.set 13 (.int (19 : Int32))).set 13 (.int v7))[12]? = some (.ref b10) ∧ ∃ n12 f13, w9[b10]? = some (.inl (.inl (n12, f13))) ∧ (¬ (((3 : Int32) * x5) < 0 ∨ n12 ≤ ((3 : Int32) * x5).toNatClampNeg)) ∧ ∀ w16, w16 = w9.set b10 (.inl (.inl (n12, (upd f13 ((3 : Int32) * x5).toNatClampNeg i1)))) → ∃ fs17, w16[a0]? = some (.inr (12, fs17)) ∧ ∃ b19, fs17[12]? = some (.ref b19) ∧ ∃ n21 f22, w16[b19]? = some (.inl (.inl (n21, f22))) ∧ (¬ ((((3 : Int32) * x5) + (1 : Int32)) < 0 ∨ n21 ≤ (((3 : Int32) * x5) + (1 : Int32)).toNatClampNeg)) ∧ ∀ w25, w25 = w16.set b19 (.inl (.inl (n21, (upd f22 (((3 : Int32) * x5) + (1 : Int32)).toNatClampNeg i2)))) → ∃ fs26, w25[a0]? = some (.inr (12, fs26)) ∧ ∃ b28, fs26[12]? = some (.ref b28) ∧ ∃ n30 f31, w25[b28]? = some (.inl (.inl (n30, f31))) ∧ (¬ ((((3 : Int32) * x5) + (2 : Int32)) < 0 ∨ n30 ≤ (((3 : Int32) * x5) + (2 : Int32)).toNatClampNeg)) ∧ ∀ w34, w34 = w25.set b28 (.inl (.inl (n30, (upd f31 (((3 : Int32) * x5) + (2 : Int32)).toNatClampNeg i3)))) → r = (none, w34)) ∧ (¬ ((60 : Int32) ≤ i5) → ∃ fs35, w[a0]? = some (.inr (12, fs35)) ∧ ∃ b37, fs35[12]? = some (.ref b37) ∧ ∃ n39 f40, w[b37]? = some (.inl (.inl (n39, f40))) ∧ (¬ (i5 < 0 ∨ n39 ≤ i5.toNatClampNeg)) ∧ ∀ v43 : Int32, v43 = (f40 i5.toNatClampNeg) → (¬ ((i5 - (3 : Int32)) < 0 ∨ n39 ≤ (i5 - (3 : Int32)).toNatClampNeg)) ∧ ∀ w45, w45 = w.set b37 (.inl (.inl (n39, (upd f40 (i5 - (3 : Int32)).toNatClampNeg v43)))) → ∀ v46 : Int32, v46 = i5 + (1 : Int32) → xGo 229 25 [some (.ref a0), some (.int i1), some (.int i2), some (.int i3), some (.int i4), some (.int v46)] [] w45 r)) : xGo 229 25 [some (.ref a0), some (.int i1), some (.int i2), some (.int i3), some (.int i4), some (.int i5)] [] w r := by
  refine g_iload (pc' := 27) d_229_25 rfl rfl ?_
  refine g_bipush (pc' := 29) d_229_27 rfl cb_60 ?_
  refine g_ic_ge (pc' := 32) (pt := 54) d_229_29 (by decide) rfl (fun c => ?_) (fun c => ?_)
  · replace h := h.1 c
    refine g_aloadn (pc' := 55) d_229_54 rfl rfl ?_
    refine g_bipush (pc' := 57) d_229_55 rfl cb_19 ?_
    obtain ⟨fs1, hw2, h⟩ := h
    obtain ⟨hc3, h⟩ := h
    have h := h _ rfl
    refine g_putf (pc' := 60) d_229_57 rfl st_229_178 ft_12_13 ff_12_13 rfl (Or.inl rfl) hw2 hc3 ?_
    refine g_aloadn (pc' := 61) d_229_60 rfl rfl ?_
    obtain ⟨x5, hv6, h⟩ := h
    refine g_getf (pc' := 64) d_229_61 rfl st_229_178 (x_gss hw2) hv6 ?_
    refine g_istore (pc' := 66) (l' := [some (.ref a0), some (.int i1), some (.int i2), some (.int i3), some (.int x5), some (.int i5)]) d_229_64 rfl ml_229 rfl rfl ?_
    refine g_aloadn (pc' := 67) d_229_66 rfl rfl ?_
    refine g_dup (pc' := 68) d_229_67 rfl rfl ?_
    refine g_getf (pc' := 71) d_229_68 rfl st_229_178 (x_gss hw2) hv6 ?_
    refine g_iconst (pc' := 72) d_229_71 rfl ci_1 ?_
    refine g_iadd (pc' := 73) d_229_72 rfl ?_
    have h := h _ rfl
    obtain ⟨hc8, h⟩ := h
    have h := h _ rfl
    refine g_putf (pc' := 76) d_229_73 rfl st_229_178 ft_12_13 ff_12_13 rfl (Or.inl rfl) (x_gss hw2) hc8 ?_
    refine g_aloadn (pc' := 77) d_229_76 rfl rfl ?_
    obtain ⟨b10, hv11, h⟩ := h
    refine g_getf (pc' := 80) d_229_77 rfl st_229_36 (x_gss (x_gss hw2)) hv11 ?_
    refine g_iconst (pc' := 81) d_229_80 rfl ci_3 ?_
    refine g_iload (pc' := 83) d_229_81 rfl rfl ?_
    refine g_imul (pc' := 84) d_229_83 rfl ?_
    refine g_iloadn (pc' := 85) d_229_84 rfl rfl ?_
    obtain ⟨n12, f13, hw14, h⟩ := h
    obtain ⟨hc15, h⟩ := h
    have h := h _ rfl
    refine g_iast (pc' := 86) d_229_85 rfl hw14 hc15 ?_
    refine g_aloadn (pc' := 87) d_229_86 rfl rfl ?_
    obtain ⟨fs17, hw18, h⟩ := h
    obtain ⟨b19, hv20, h⟩ := h
    refine g_getf (pc' := 90) d_229_87 rfl st_229_36 hw18 hv20 ?_
    refine g_iconst (pc' := 91) d_229_90 rfl ci_3 ?_
    refine g_iload (pc' := 93) d_229_91 rfl rfl ?_
    refine g_imul (pc' := 94) d_229_93 rfl ?_
    refine g_iconst (pc' := 95) d_229_94 rfl ci_1 ?_
    refine g_iadd (pc' := 96) d_229_95 rfl ?_
    refine g_iloadn (pc' := 97) d_229_96 rfl rfl ?_
    obtain ⟨n21, f22, hw23, h⟩ := h
    obtain ⟨hc24, h⟩ := h
    have h := h _ rfl
    refine g_iast (pc' := 98) d_229_97 rfl hw23 hc24 ?_
    refine g_aloadn (pc' := 99) d_229_98 rfl rfl ?_
    obtain ⟨fs26, hw27, h⟩ := h
    obtain ⟨b28, hv29, h⟩ := h
    refine g_getf (pc' := 102) d_229_99 rfl st_229_36 hw27 hv29 ?_
    refine g_iconst (pc' := 103) d_229_102 rfl ci_3 ?_
    refine g_iload (pc' := 105) d_229_103 rfl rfl ?_
    refine g_imul (pc' := 106) d_229_105 rfl ?_
    refine g_iconst (pc' := 107) d_229_106 rfl ci_2 ?_
    refine g_iadd (pc' := 108) d_229_107 rfl ?_
    refine g_iloadn (pc' := 109) d_229_108 rfl rfl ?_
    obtain ⟨n30, f31, hw32, h⟩ := h
    obtain ⟨hc33, h⟩ := h
    have h := h _ rfl
    refine g_iast (pc' := 110) d_229_109 rfl hw32 hc33 ?_
    exact g_vret d_229_110 rt_229 h
  · replace h := h.2 c
    refine g_aloadn (pc' := 33) d_229_32 rfl rfl ?_
    obtain ⟨fs35, hw36, h⟩ := h
    obtain ⟨b37, hv38, h⟩ := h
    refine g_getf (pc' := 36) d_229_33 rfl st_229_36 hw36 hv38 ?_
    refine g_iload (pc' := 38) d_229_36 rfl rfl ?_
    refine g_iconst (pc' := 39) d_229_38 rfl ci_3 ?_
    refine g_isub (pc' := 40) d_229_39 rfl ?_
    refine g_aloadn (pc' := 41) d_229_40 rfl rfl ?_
    refine g_getf (pc' := 44) d_229_41 rfl st_229_36 hw36 hv38 ?_
    refine g_iload (pc' := 46) d_229_44 rfl rfl ?_
    obtain ⟨n39, f40, hw41, h⟩ := h
    obtain ⟨hc42, h⟩ := h
    refine g_iald (pc' := 47) d_229_46 rfl hw41 hc42 ?_
    have h := h _ rfl
    obtain ⟨hc44, h⟩ := h
    have h := h _ rfl
    refine g_iast (pc' := 48) d_229_47 rfl hw41 hc44 ?_
    have h := h _ rfl
    refine g_iinc (pc' := 51) (l' := [some (.ref a0), some (.int i1), some (.int i2), some (.int i3), some (.int i4), some (.int (i5 + (1 : Int32)))]) d_229_48 rfl rfl ci_1 ml_229 rfl rfl ?_
    refine g_goto (pt := 25) d_229_51 (by decide) ?_
    exact h
-- 230 BernoulliWaysModel.memoOf(II)I
theorem S_230_0 {a0 : Nat} {i1 : Int32} {i2 : Int32} {w : xW} {r : Option Value × xW} (h : xGo 230 2 [some (.ref a0), some (.int i1), some (.int i2), some (.int (0 : Int32))] [] w r) : xGo 230 0 [some (.ref a0), some (.int i1), some (.int i2), none] [] w r := by
  refine g_iconst (pc' := 1) d_230_0 rfl ci_0 ?_
  refine g_istoren (pc' := 2) (l' := [some (.ref a0), some (.int i1), some (.int i2), some (.int (0 : Int32))]) d_230_1 rfl ml_230 rfl rfl ?_
  exact h
theorem S_230_2 {a0 : Nat} {i1 : Int32} {i2 : Int32} {i3 : Int32} {w : xW} {r : Option Value × xW} (h : ∃ fs1, w[a0]? = some (.inr (12, fs1)) ∧ ∃ x3, fs1[13]? = some (.int x3) ∧ (x3 ≤ i3 → r = (some (.int (-1 : Int32)), w)) ∧ (¬ (x3 ≤ i3) → ∃ b5, fs1[12]? = some (.ref b5) ∧ ∃ n7 f8, w[b5]? = some (.inl (.inl (n7, f8))) ∧ (¬ (((3 : Int32) * i3) < 0 ∨ n7 ≤ ((3 : Int32) * i3).toNatClampNeg)) ∧ (¬ (f8 ((3 : Int32) * i3).toNatClampNeg) = i1 → ∀ v11 : Int32, v11 = i3 + (1 : Int32) → xGo 230 2 [some (.ref a0), some (.int i1), some (.int i2), some (.int v11)] [] w r) ∧ (¬ (¬ (f8 ((3 : Int32) * i3).toNatClampNeg) = i1) → (¬ ((((3 : Int32) * i3) + (1 : Int32)) < 0 ∨ n7 ≤ (((3 : Int32) * i3) + (1 : Int32)).toNatClampNeg)) ∧ (¬ (f8 (((3 : Int32) * i3) + (1 : Int32)).toNatClampNeg) = i2 → ∀ v13 : Int32, v13 = i3 + (1 : Int32) → xGo 230 2 [some (.ref a0), some (.int i1), some (.int i2), some (.int v13)] [] w r) ∧ (¬ (¬ (f8 (((3 : Int32) * i3) + (1 : Int32)).toNatClampNeg) = i2) → r = (some (.int i3), w))))) : xGo 230 2 [some (.ref a0), some (.int i1), some (.int i2), some (.int i3)] [] w r := by
  refine g_iloadn (pc' := 3) d_230_2 rfl rfl ?_
  refine g_aloadn (pc' := 4) d_230_3 rfl rfl ?_
  obtain ⟨fs1, hw2, h⟩ := h
  obtain ⟨x3, hv4, h⟩ := h
  refine g_getf (pc' := 7) d_230_4 rfl st_230_178 hw2 hv4 ?_
  refine g_ic_ge (pc' := 10) (pt := 44) d_230_7 (by decide) rfl (fun c => ?_) (fun c => ?_)
  · replace h := h.1 c
    refine g_iconst (pc' := 45) d_230_44 rfl ci_m1 ?_
    exact g_iret d_230_45 rt_230 h
  · replace h := h.2 c
    refine g_aloadn (pc' := 11) d_230_10 rfl rfl ?_
    obtain ⟨b5, hv6, h⟩ := h
    refine g_getf (pc' := 14) d_230_11 rfl st_230_36 hw2 hv6 ?_
    refine g_iconst (pc' := 15) d_230_14 rfl ci_3 ?_
    refine g_iloadn (pc' := 16) d_230_15 rfl rfl ?_
    refine g_imul (pc' := 17) d_230_16 rfl ?_
    obtain ⟨n7, f8, hw9, h⟩ := h
    obtain ⟨hc10, h⟩ := h
    refine g_iald (pc' := 18) d_230_17 rfl hw9 hc10 ?_
    refine g_iloadn (pc' := 19) d_230_18 rfl rfl ?_
    refine g_ic_ne (pc' := 22) (pt := 38) d_230_19 (by decide) rfl (fun c => ?_) (fun c => ?_)
    · replace h := h.1 c
      have h := h _ rfl
      refine g_iinc (pc' := 41) (l' := [some (.ref a0), some (.int i1), some (.int i2), some (.int (i3 + (1 : Int32)))]) d_230_38 rfl rfl ci_1 ml_230 rfl rfl ?_
      refine g_goto (pt := 2) d_230_41 (by decide) ?_
      exact h
    · replace h := h.2 c
      refine g_aloadn (pc' := 23) d_230_22 rfl rfl ?_
      refine g_getf (pc' := 26) d_230_23 rfl st_230_36 hw2 hv6 ?_
      refine g_iconst (pc' := 27) d_230_26 rfl ci_3 ?_
      refine g_iloadn (pc' := 28) d_230_27 rfl rfl ?_
      refine g_imul (pc' := 29) d_230_28 rfl ?_
      refine g_iconst (pc' := 30) d_230_29 rfl ci_1 ?_
      refine g_iadd (pc' := 31) d_230_30 rfl ?_
      obtain ⟨hc12, h⟩ := h
      refine g_iald (pc' := 32) d_230_31 rfl hw9 hc12 ?_
      refine g_iloadn (pc' := 33) d_230_32 rfl rfl ?_
      refine g_ic_ne (pc' := 36) (pt := 38) d_230_33 (by decide) rfl (fun c => ?_) (fun c => ?_)
      · replace h := h.1 c
        have h := h _ rfl
        refine g_iinc (pc' := 41) (l' := [some (.ref a0), some (.int i1), some (.int i2), some (.int (i3 + (1 : Int32)))]) d_230_38 rfl rfl ci_1 ml_230 rfl rfl ?_
        refine g_goto (pt := 2) d_230_41 (by decide) ?_
        exact h
      · replace h := h.2 c
        refine g_iloadn (pc' := 37) d_230_36 rfl rfl ?_
        exact g_iret d_230_37 rt_230 h
-- 231 BernoulliWaysModel.byPowers(II)I
theorem S_231_0 {a0 : Nat} {i1 : Int32} {i2 : Int32} {w : xW} {r : Option Value × xW} (h : ∃ fs1, w[a0]? = some (.inr (12, fs1)) ∧ (0 < fs1.length) ∧ ∀ w4, w4 = w.set a0 (.inr (12, fs1.set 0 (.int (0 : Int32)))) → ∃ r7 w5, xCall 198 [.ref a0, .int i1] w4 (some (.int r7), w5) ∧ (r7 = 0 → r = (some (.int (-1 : Int32)), w5)) ∧ (¬ (r7 = 0) → ∃ fs8, w5[a0]? = some (.inr (12, fs8)) ∧ ∃ r12 w10, xCall 228 [.ref a0, .int i2] w5 (some (.int r12), w10) ∧ (¬ r12 = 0 → (i1 < (2 : Int32) → r = (some (.int (-3 : Int32)), w10)) ∧ (¬ (i1 < (2 : Int32)) → ((irem i1 (2 : Int32)) = (1 : Int32) → r = (some (.int (-3 : Int32)), w10)) ∧ (¬ ((irem i1 (2 : Int32)) = (1 : Int32)) → (¬ (i2 - (1 : Int32)) = 0) ∧ (¬ (irem i1 (i2 - (1 : Int32))) = 0 → xGo 231 51 [some (.ref a0), some (.int i1), some (.int i2), some (.int (0 : Int32)), some (.int (1 : Int32))] [] w10 r) ∧ (¬ (¬ (irem i1 (i2 - (1 : Int32))) = 0) → r = (some (.int (-3 : Int32)), w10))))) ∧ (¬ (¬ r12 = 0) → r = (some (.int (-1 : Int32)), w10)))) : xGo 231 0 [some (.ref a0), some (.int i1), some (.int i2), none, none] [] w r := by
  refine g_aloadn (pc' := 1) d_231_0 rfl rfl ?_
  refine g_iconst (pc' := 2) d_231_1 rfl ci_0 ?_
  obtain ⟨fs1, hw2, h⟩ := h
  obtain ⟨hc3, h⟩ := h
  have h := h _ rfl
  refine g_putf (pc' := 5) d_231_2 rfl st_231_118 ft_12_0 ff_12_0 rfl (Or.inl rfl) hw2 hc3 ?_
  refine g_aloadn (pc' := 6) d_231_5 rfl rfl ?_
  refine g_iloadn (pc' := 7) d_231_6 rfl rfl ?_
  obtain ⟨r7, w5, hk6, h⟩ := h
  refine g_callV (pc' := 10) d_231_7 rfl st_231_145 na_198 ml_198 rfl rfl rfl rm_231_198 rfl rfl ow_198 (x_gss hw2) hk6 ?_
  refine g_if_eq (pc' := 13) (pt := 21) d_231_10 (by decide) rfl (fun c => ?_) (fun c => ?_)
  · replace h := h.1 c
    refine g_iconst (pc' := 22) d_231_21 rfl ci_m1 ?_
    exact g_iret d_231_22 rt_231 h
  · replace h := h.2 c
    refine g_aloadn (pc' := 14) d_231_13 rfl rfl ?_
    refine g_iloadn (pc' := 15) d_231_14 rfl rfl ?_
    obtain ⟨fs8, hw9, h⟩ := h
    obtain ⟨r12, w10, hk11, h⟩ := h
    refine g_callV (pc' := 18) d_231_15 rfl st_231_185 na_228 ml_228 rfl rfl rfl rm_231_228 rfl rfl ow_228 hw9 hk11 ?_
    refine g_if_ne (pc' := 21) (pt := 23) d_231_18 (by decide) rfl (fun c => ?_) (fun c => ?_)
    · replace h := h.1 c
      refine g_iloadn (pc' := 24) d_231_23 rfl rfl ?_
      refine g_iconst (pc' := 25) d_231_24 rfl ci_2 ?_
      refine g_ic_lt (pc' := 28) (pt := 43) d_231_25 (by decide) rfl (fun c => ?_) (fun c => ?_)
      · replace h := h.1 c
        refine g_bipush (pc' := 45) d_231_43 rfl cb_m3 ?_
        exact g_iret d_231_45 rt_231 h
      · replace h := h.2 c
        refine g_iloadn (pc' := 29) d_231_28 rfl rfl ?_
        refine g_iconst (pc' := 30) d_231_29 rfl ci_2 ?_
        refine g_irem (pc' := 31) d_231_30 rfl (by decide) ?_
        refine g_iconst (pc' := 32) d_231_31 rfl ci_1 ?_
        refine g_ic_eq (pc' := 35) (pt := 43) d_231_32 (by decide) rfl (fun c => ?_) (fun c => ?_)
        · replace h := h.1 c
          refine g_bipush (pc' := 45) d_231_43 rfl cb_m3 ?_
          exact g_iret d_231_45 rt_231 h
        · replace h := h.2 c
          refine g_iloadn (pc' := 36) d_231_35 rfl rfl ?_
          refine g_iloadn (pc' := 37) d_231_36 rfl rfl ?_
          refine g_iconst (pc' := 38) d_231_37 rfl ci_1 ?_
          refine g_isub (pc' := 39) d_231_38 rfl ?_
          obtain ⟨hc13, h⟩ := h
          refine g_irem (pc' := 40) d_231_39 rfl hc13 ?_
          refine g_if_ne (pc' := 43) (pt := 46) d_231_40 (by decide) rfl (fun c => ?_) (fun c => ?_)
          · replace h := h.1 c
            refine g_iconst (pc' := 47) d_231_46 rfl ci_0 ?_
            refine g_istoren (pc' := 48) (l' := [some (.ref a0), some (.int i1), some (.int i2), some (.int (0 : Int32)), none]) d_231_47 rfl ml_231 rfl rfl ?_
            refine g_iconst (pc' := 49) d_231_48 rfl ci_1 ?_
            refine g_istore (pc' := 51) (l' := [some (.ref a0), some (.int i1), some (.int i2), some (.int (0 : Int32)), some (.int (1 : Int32))]) d_231_49 rfl ml_231 rfl rfl ?_
            exact h
          · replace h := h.2 c
            refine g_bipush (pc' := 45) d_231_43 rfl cb_m3 ?_
            exact g_iret d_231_45 rt_231 h
    · replace h := h.2 c
      refine g_iconst (pc' := 22) d_231_21 rfl ci_m1 ?_
      exact g_iret d_231_22 rt_231 h
theorem S_231_51 {a0 : Nat} {i1 : Int32} {i2 : Int32} {i3 : Int32} {i4 : Int32} {w : xW} {r : Option Value × xW} (h : (i2 ≤ i4 → (¬ i2 = 0) ∧ r = (some (.int (i3 / i2)), w)) ∧ (¬ (i2 ≤ i4) → ∃ r4 w2, xCall 216 [.int i4, .int i1, .int (i2 * i2)] w (some (.int r4), w2) ∧ (¬ (i2 * i2) = 0) ∧ ∀ v6 : Int32, v6 = (irem (i3 + r4) (i2 * i2)) → ∀ v7 : Int32, v7 = i4 + (1 : Int32) → xGo 231 51 [some (.ref a0), some (.int i1), some (.int i2), some (.int v6), some (.int v7)] [] w2 r)) : xGo 231 51 [some (.ref a0), some (.int i1), some (.int i2), some (.int i3), some (.int i4)] [] w r := by
  refine g_iload (pc' := 53) d_231_51 rfl rfl ?_
  refine g_iloadn (pc' := 54) d_231_53 rfl rfl ?_
  refine g_ic_ge (pc' := 57) (pt := 79) d_231_54 (by decide) rfl (fun c => ?_) (fun c => ?_)
  · replace h := h.1 c
    refine g_iloadn (pc' := 80) d_231_79 rfl rfl ?_
    refine g_iloadn (pc' := 81) d_231_80 rfl rfl ?_
    obtain ⟨hc1, h⟩ := h
    refine g_idiv (pc' := 82) d_231_81 rfl hc1 ?_
    exact g_iret d_231_82 rt_231 h
  · replace h := h.2 c
    refine g_iloadn (pc' := 58) d_231_57 rfl rfl ?_
    refine g_iload (pc' := 60) d_231_58 rfl rfl ?_
    refine g_iloadn (pc' := 61) d_231_60 rfl rfl ?_
    refine g_iloadn (pc' := 62) d_231_61 rfl rfl ?_
    refine g_iloadn (pc' := 63) d_231_62 rfl rfl ?_
    refine g_imul (pc' := 64) d_231_63 rfl ?_
    obtain ⟨r4, w2, hk3, h⟩ := h
    refine g_callS (pc' := 67) d_231_64 rfl st_231_174 (Or.inl rfl) na_216 ml_216 rfl rfl rfl rm_231_216 rfl rfl hk3 ?_
    refine g_iadd (pc' := 68) d_231_67 rfl ?_
    refine g_iloadn (pc' := 69) d_231_68 rfl rfl ?_
    refine g_iloadn (pc' := 70) d_231_69 rfl rfl ?_
    refine g_imul (pc' := 71) d_231_70 rfl ?_
    obtain ⟨hc5, h⟩ := h
    refine g_irem (pc' := 72) d_231_71 rfl hc5 ?_
    have h := h _ rfl
    refine g_istoren (pc' := 73) (l' := [some (.ref a0), some (.int i1), some (.int i2), some (.int ((irem (i3 + r4) (i2 * i2)))), some (.int i4)]) d_231_72 rfl ml_231 rfl rfl ?_
    have h := h _ rfl
    refine g_iinc (pc' := 76) (l' := [some (.ref a0), some (.int i1), some (.int i2), some (.int ((irem (i3 + r4) (i2 * i2)))), some (.int (i4 + (1 : Int32)))]) d_231_73 rfl rfl ci_1 ml_231 rfl rfl ?_
    refine g_goto (pt := 51) d_231_76 (by decide) ?_
    exact h
-- 232 BernoulliWaysModel.memo(II)I
theorem S_232_0 {a0 : Nat} {i1 : Int32} {i2 : Int32} {w : xW} {r : Option Value × xW} (h : ∃ fs1, w[a0]? = some (.inr (12, fs1)) ∧ (0 < fs1.length) ∧ ∀ w4, w4 = w.set a0 (.inr (12, fs1.set 0 (.int (0 : Int32)))) → (i1 < 0 → r = (some (.int (-1 : Int32)), w4)) ∧ (¬ (i1 < 0) → ∃ r7 w5, xCall 199 [.int i2, .int (0 : Int32), .int (3 : Int32)] w4 (some (.int r7), w5) ∧ (¬ r7 = 0 → ∃ fs8, w5[a0]? = some (.inr (12, fs8)) ∧ ∃ x10, fs8[13]? = some (.int x10) ∧ (i1 < x10 → ((3 : Int32) ≤ i2 → ∃ r14 w12, xCall 233 [.ref a0, .int i1] w5 (some (.int r14), w12) ∧ (r14 = 0 → r = (some (.int (0 : Int32)), w12)) ∧ (¬ (r14 = 0) → r = (some (.int (1 : Int32)), w12))) ∧ (¬ ((3 : Int32) ≤ i2) → ∃ b15, fs8[12]? = some (.ref b15) ∧ ∃ n17 f18, w5[b15]? = some (.inl (.inl (n17, f18))) ∧ (¬ ((((3 : Int32) * i1) + i2) < 0 ∨ n17 ≤ (((3 : Int32) * i1) + i2).toNatClampNeg)) ∧ r = (some (.int (f18 (((3 : Int32) * i1) + i2).toNatClampNeg)), w5))) ∧ (¬ (i1 < x10) → r = (some (.int (-2 : Int32)), w5))) ∧ (¬ (¬ r7 = 0) → r = (some (.int (-1 : Int32)), w5)))) : xGo 232 0 [some (.ref a0), some (.int i1), some (.int i2)] [] w r := by
  refine g_aloadn (pc' := 1) d_232_0 rfl rfl ?_
  refine g_iconst (pc' := 2) d_232_1 rfl ci_0 ?_
  obtain ⟨fs1, hw2, h⟩ := h
  obtain ⟨hc3, h⟩ := h
  have h := h _ rfl
  refine g_putf (pc' := 5) d_232_2 rfl st_232_118 ft_12_0 ff_12_0 rfl (Or.inl rfl) hw2 hc3 ?_
  refine g_iloadn (pc' := 6) d_232_5 rfl rfl ?_
  refine g_if_lt (pc' := 9) (pt := 18) d_232_6 (by decide) rfl (fun c => ?_) (fun c => ?_)
  · replace h := h.1 c
    refine g_iconst (pc' := 19) d_232_18 rfl ci_m1 ?_
    exact g_iret d_232_19 rt_232 h
  · replace h := h.2 c
    refine g_iloadn (pc' := 10) d_232_9 rfl rfl ?_
    refine g_iconst (pc' := 11) d_232_10 rfl ci_0 ?_
    refine g_iconst (pc' := 12) d_232_11 rfl ci_3 ?_
    obtain ⟨r7, w5, hk6, h⟩ := h
    refine g_callS (pc' := 15) d_232_12 rfl st_232_137 (Or.inl rfl) na_199 ml_199 rfl rfl rfl rm_232_199 rfl rfl hk6 ?_
    refine g_if_ne (pc' := 18) (pt := 20) d_232_15 (by decide) rfl (fun c => ?_) (fun c => ?_)
    · replace h := h.1 c
      refine g_iloadn (pc' := 21) d_232_20 rfl rfl ?_
      refine g_aloadn (pc' := 22) d_232_21 rfl rfl ?_
      obtain ⟨fs8, hw9, h⟩ := h
      obtain ⟨x10, hv11, h⟩ := h
      refine g_getf (pc' := 25) d_232_22 rfl st_232_178 hw9 hv11 ?_
      refine g_ic_lt (pc' := 28) (pt := 31) d_232_25 (by decide) rfl (fun c => ?_) (fun c => ?_)
      · replace h := h.1 c
        refine g_iloadn (pc' := 32) d_232_31 rfl rfl ?_
        refine g_iconst (pc' := 33) d_232_32 rfl ci_3 ?_
        refine g_ic_ge (pc' := 36) (pt := 49) d_232_33 (by decide) rfl (fun c => ?_) (fun c => ?_)
        · replace h := h.1 c
          refine g_aloadn (pc' := 50) d_232_49 rfl rfl ?_
          refine g_iloadn (pc' := 51) d_232_50 rfl rfl ?_
          obtain ⟨r14, w12, hk13, h⟩ := h
          refine g_callV (pc' := 54) d_232_51 rfl st_232_196 na_233 ml_233 rfl rfl rfl rm_232_233 rfl rfl ow_233 hw9 hk13 ?_
          refine g_if_eq (pc' := 57) (pt := 61) d_232_54 (by decide) rfl (fun c => ?_) (fun c => ?_)
          · replace h := h.1 c
            refine g_iconst (pc' := 62) d_232_61 rfl ci_0 ?_
            exact g_iret d_232_62 rt_232 h
          · replace h := h.2 c
            refine g_iconst (pc' := 58) d_232_57 rfl ci_1 ?_
            refine g_goto (pt := 62) d_232_58 (by decide) ?_
            exact g_iret d_232_62 rt_232 h
        · replace h := h.2 c
          refine g_aloadn (pc' := 37) d_232_36 rfl rfl ?_
          obtain ⟨b15, hv16, h⟩ := h
          refine g_getf (pc' := 40) d_232_37 rfl st_232_36 hw9 hv16 ?_
          refine g_iconst (pc' := 41) d_232_40 rfl ci_3 ?_
          refine g_iloadn (pc' := 42) d_232_41 rfl rfl ?_
          refine g_imul (pc' := 43) d_232_42 rfl ?_
          refine g_iloadn (pc' := 44) d_232_43 rfl rfl ?_
          refine g_iadd (pc' := 45) d_232_44 rfl ?_
          obtain ⟨n17, f18, hw19, h⟩ := h
          obtain ⟨hc20, h⟩ := h
          refine g_iald (pc' := 46) d_232_45 rfl hw19 hc20 ?_
          refine g_goto (pt := 62) d_232_46 (by decide) ?_
          exact g_iret d_232_62 rt_232 h
      · replace h := h.2 c
        refine g_bipush (pc' := 30) d_232_28 rfl cb_m2 ?_
        exact g_iret d_232_30 rt_232 h
    · replace h := h.2 c
      refine g_iconst (pc' := 19) d_232_18 rfl ci_m1 ?_
      exact g_iret d_232_19 rt_232 h
-- 233 BernoulliWaysModel.isAsKept(I)Z
theorem S_233_0 {a0 : Nat} {i1 : Int32} {w : xW} {r : Option Value × xW} (h : ∃ fs1, w[a0]? = some (.inr (12, fs1)) ∧ ∃ b3, fs1[2]? = some (.ref b3) ∧ ∃ b5, fs1[12]? = some (.ref b5) ∧ ∃ n7 f8, w[b5]? = some (.inl (.inl (n7, f8))) ∧ (¬ (((3 : Int32) * i1) < 0 ∨ n7 ≤ ((3 : Int32) * i1).toNatClampNeg)) ∧ (¬ ((((3 : Int32) * i1) + (1 : Int32)) < 0 ∨ n7 ≤ (((3 : Int32) * i1) + (1 : Int32)).toNatClampNeg)) ∧ ∃ r14 w12, xCall 214 [.ref a0, .ref b3, .int (f8 ((3 : Int32) * i1).toNatClampNeg), .int (f8 (((3 : Int32) * i1) + (1 : Int32)).toNatClampNeg)] w (some (.int r14), w12) ∧ ∃ fs15, w12[a0]? = some (.inr (12, fs15)) ∧ ∃ b17, fs15[12]? = some (.ref b17) ∧ ∃ n19 f20, w12[b17]? = some (.inl (.inl (n19, f20))) ∧ (¬ ((((3 : Int32) * i1) + (2 : Int32)) < 0 ∨ n19 ≤ (((3 : Int32) * i1) + (2 : Int32)).toNatClampNeg)) ∧ (¬ r14 = (f20 (((3 : Int32) * i1) + (2 : Int32)).toNatClampNeg) → r = (some (.int (0 : Int32)), w12)) ∧ (¬ (¬ r14 = (f20 (((3 : Int32) * i1) + (2 : Int32)).toNatClampNeg)) → r = (some (.int (1 : Int32)), w12))) : xGo 233 0 [some (.ref a0), some (.int i1)] [] w r := by
  refine g_aloadn (pc' := 1) d_233_0 rfl rfl ?_
  refine g_aloadn (pc' := 2) d_233_1 rfl rfl ?_
  obtain ⟨fs1, hw2, h⟩ := h
  obtain ⟨b3, hv4, h⟩ := h
  refine g_getf (pc' := 5) d_233_2 rfl st_233_13 hw2 hv4 ?_
  refine g_aloadn (pc' := 6) d_233_5 rfl rfl ?_
  obtain ⟨b5, hv6, h⟩ := h
  refine g_getf (pc' := 9) d_233_6 rfl st_233_36 hw2 hv6 ?_
  refine g_iconst (pc' := 10) d_233_9 rfl ci_3 ?_
  refine g_iloadn (pc' := 11) d_233_10 rfl rfl ?_
  refine g_imul (pc' := 12) d_233_11 rfl ?_
  obtain ⟨n7, f8, hw9, h⟩ := h
  obtain ⟨hc10, h⟩ := h
  refine g_iald (pc' := 13) d_233_12 rfl hw9 hc10 ?_
  refine g_aloadn (pc' := 14) d_233_13 rfl rfl ?_
  refine g_getf (pc' := 17) d_233_14 rfl st_233_36 hw2 hv6 ?_
  refine g_iconst (pc' := 18) d_233_17 rfl ci_3 ?_
  refine g_iloadn (pc' := 19) d_233_18 rfl rfl ?_
  refine g_imul (pc' := 20) d_233_19 rfl ?_
  refine g_iconst (pc' := 21) d_233_20 rfl ci_1 ?_
  refine g_iadd (pc' := 22) d_233_21 rfl ?_
  obtain ⟨hc11, h⟩ := h
  refine g_iald (pc' := 23) d_233_22 rfl hw9 hc11 ?_
  obtain ⟨r14, w12, hk13, h⟩ := h
  refine g_callV (pc' := 26) d_233_23 rfl st_233_188 na_214 ml_214 rfl rfl rfl rm_233_214 rfl rfl ow_214 hw2 hk13 ?_
  refine g_aloadn (pc' := 27) d_233_26 rfl rfl ?_
  obtain ⟨fs15, hw16, h⟩ := h
  obtain ⟨b17, hv18, h⟩ := h
  refine g_getf (pc' := 30) d_233_27 rfl st_233_36 hw16 hv18 ?_
  refine g_iconst (pc' := 31) d_233_30 rfl ci_3 ?_
  refine g_iloadn (pc' := 32) d_233_31 rfl rfl ?_
  refine g_imul (pc' := 33) d_233_32 rfl ?_
  refine g_iconst (pc' := 34) d_233_33 rfl ci_2 ?_
  refine g_iadd (pc' := 35) d_233_34 rfl ?_
  obtain ⟨n19, f20, hw21, h⟩ := h
  obtain ⟨hc22, h⟩ := h
  refine g_iald (pc' := 36) d_233_35 rfl hw21 hc22 ?_
  refine g_ic_ne (pc' := 39) (pt := 43) d_233_36 (by decide) rfl (fun c => ?_) (fun c => ?_)
  · replace h := h.1 c
    refine g_iconst (pc' := 44) d_233_43 rfl ci_0 ?_
    exact g_zret d_233_44 rt_233 (Or.inl rfl) h
  · replace h := h.2 c
    refine g_iconst (pc' := 40) d_233_39 rfl ci_1 ?_
    refine g_goto (pt := 44) d_233_40 (by decide) ?_
    exact g_zret d_233_44 rt_233 (Or.inr rfl) h
-- 234 BernoulliWaysModel.often(II)I
theorem S_234_0 {a0 : Nat} {i1 : Int32} {i2 : Int32} {w : xW} {r : Option Value × xW} (h : ∃ fs1, w[a0]? = some (.inr (12, fs1)) ∧ (0 < fs1.length) ∧ ∀ w4, w4 = w.set a0 (.inr (12, fs1.set 0 (.int (0 : Int32)))) → ∃ r7 w5, xCall 198 [.ref a0, .int i1] w4 (some (.int r7), w5) ∧ (r7 = 0 → r = (some (.int (-100 : Int32)), w5)) ∧ (¬ (r7 = 0) → ∃ fs8, w5[a0]? = some (.inr (12, fs8)) ∧ ∃ r12 w10, xCall 228 [.ref a0, .int i2] w5 (some (.int r12), w10) ∧ (r12 = 0 → r = (some (.int (-100 : Int32)), w10)) ∧ (¬ (r12 = 0) → ∃ fs13, w10[a0]? = some (.inr (12, fs13)) ∧ ∃ x15, fs13[4]? = some (.int x15) ∧ (i1 ≤ x15 → ∃ b17, fs13[2]? = some (.ref b17) ∧ ∃ n19 f20, w10[b17]? = some (.inl (.inr (n19, f20))) ∧ (¬ ((((3 : Int32) * i1) + (2 : Int32)) < 0 ∨ n19 ≤ (((3 : Int32) * i1) + (2 : Int32)).toNatClampNeg)) ∧ ∃ r25 w23, xCall 235 [.long (f20 (((3 : Int32) * i1) + (2 : Int32)).toNatClampNeg), .int i2] w10 (some (.int r25), w23) ∧ ∃ fs26, w23[a0]? = some (.inr (12, fs26)) ∧ ∃ r30 w28, xCall 236 [.ref a0, .int i1, .int i2] w23 (some (.int r30), w28) ∧ (¬ r30 = (100 : Int32) → r = (some (.int (r30 - r25)), w28)) ∧ (¬ (¬ r30 = (100 : Int32)) → r = (some (.int (100 : Int32)), w28))) ∧ (¬ (i1 ≤ x15) → r = (some (.int (-100 : Int32)), w10))))) : xGo 234 0 [some (.ref a0), some (.int i1), some (.int i2), none, none] [] w r := by
  refine g_aloadn (pc' := 1) d_234_0 rfl rfl ?_
  refine g_iconst (pc' := 2) d_234_1 rfl ci_0 ?_
  obtain ⟨fs1, hw2, h⟩ := h
  obtain ⟨hc3, h⟩ := h
  have h := h _ rfl
  refine g_putf (pc' := 5) d_234_2 rfl st_234_118 ft_12_0 ff_12_0 rfl (Or.inl rfl) hw2 hc3 ?_
  refine g_aloadn (pc' := 6) d_234_5 rfl rfl ?_
  refine g_iloadn (pc' := 7) d_234_6 rfl rfl ?_
  obtain ⟨r7, w5, hk6, h⟩ := h
  refine g_callV (pc' := 10) d_234_7 rfl st_234_145 na_198 ml_198 rfl rfl rfl rm_234_198 rfl rfl ow_198 (x_gss hw2) hk6 ?_
  refine g_if_eq (pc' := 13) (pt := 29) d_234_10 (by decide) rfl (fun c => ?_) (fun c => ?_)
  · replace h := h.1 c
    refine g_bipush (pc' := 31) d_234_29 rfl cb_m100 ?_
    exact g_iret d_234_31 rt_234 h
  · replace h := h.2 c
    refine g_aloadn (pc' := 14) d_234_13 rfl rfl ?_
    refine g_iloadn (pc' := 15) d_234_14 rfl rfl ?_
    obtain ⟨fs8, hw9, h⟩ := h
    obtain ⟨r12, w10, hk11, h⟩ := h
    refine g_callV (pc' := 18) d_234_15 rfl st_234_185 na_228 ml_228 rfl rfl rfl rm_234_228 rfl rfl ow_228 hw9 hk11 ?_
    refine g_if_eq (pc' := 21) (pt := 29) d_234_18 (by decide) rfl (fun c => ?_) (fun c => ?_)
    · replace h := h.1 c
      refine g_bipush (pc' := 31) d_234_29 rfl cb_m100 ?_
      exact g_iret d_234_31 rt_234 h
    · replace h := h.2 c
      refine g_iloadn (pc' := 22) d_234_21 rfl rfl ?_
      refine g_aloadn (pc' := 23) d_234_22 rfl rfl ?_
      obtain ⟨fs13, hw14, h⟩ := h
      obtain ⟨x15, hv16, h⟩ := h
      refine g_getf (pc' := 26) d_234_23 rfl st_234_20 hw14 hv16 ?_
      refine g_ic_le (pc' := 29) (pt := 32) d_234_26 (by decide) rfl (fun c => ?_) (fun c => ?_)
      · replace h := h.1 c
        refine g_aloadn (pc' := 33) d_234_32 rfl rfl ?_
        obtain ⟨b17, hv18, h⟩ := h
        refine g_getf (pc' := 36) d_234_33 rfl st_234_13 hw14 hv18 ?_
        refine g_iconst (pc' := 37) d_234_36 rfl ci_3 ?_
        refine g_iloadn (pc' := 38) d_234_37 rfl rfl ?_
        refine g_imul (pc' := 39) d_234_38 rfl ?_
        refine g_iconst (pc' := 40) d_234_39 rfl ci_2 ?_
        refine g_iadd (pc' := 41) d_234_40 rfl ?_
        obtain ⟨n19, f20, hw21, h⟩ := h
        obtain ⟨hc22, h⟩ := h
        refine g_lald (pc' := 42) d_234_41 rfl hw21 hc22 ?_
        refine g_iloadn (pc' := 43) d_234_42 rfl rfl ?_
        obtain ⟨r25, w23, hk24, h⟩ := h
        refine g_callS (pc' := 46) d_234_43 rfl st_234_199 (Or.inl rfl) na_235 ml_235 rfl rfl rfl rm_234_235 rfl rfl hk24 ?_
        refine g_istoren (pc' := 47) (l' := [some (.ref a0), some (.int i1), some (.int i2), some (.int r25), none]) d_234_46 rfl ml_234 rfl rfl ?_
        refine g_aloadn (pc' := 48) d_234_47 rfl rfl ?_
        refine g_iloadn (pc' := 49) d_234_48 rfl rfl ?_
        refine g_iloadn (pc' := 50) d_234_49 rfl rfl ?_
        obtain ⟨fs26, hw27, h⟩ := h
        obtain ⟨r30, w28, hk29, h⟩ := h
        refine g_callV (pc' := 53) d_234_50 rfl st_234_202 na_236 ml_236 rfl rfl rfl rm_234_236 rfl rfl ow_236 hw27 hk29 ?_
        refine g_istore (pc' := 55) (l' := [some (.ref a0), some (.int i1), some (.int i2), some (.int r25), some (.int r30)]) d_234_53 rfl ml_234 rfl rfl ?_
        refine g_iload (pc' := 57) d_234_55 rfl rfl ?_
        refine g_bipush (pc' := 59) d_234_57 rfl cb_100 ?_
        refine g_ic_ne (pc' := 62) (pt := 67) d_234_59 (by decide) rfl (fun c => ?_) (fun c => ?_)
        · replace h := h.1 c
          refine g_iload (pc' := 69) d_234_67 rfl rfl ?_
          refine g_iloadn (pc' := 70) d_234_69 rfl rfl ?_
          refine g_isub (pc' := 71) d_234_70 rfl ?_
          exact g_iret d_234_71 rt_234 h
        · replace h := h.2 c
          refine g_bipush (pc' := 64) d_234_62 rfl cb_100 ?_
          refine g_goto (pt := 71) d_234_64 (by decide) ?_
          exact g_iret d_234_71 rt_234 h
      · replace h := h.2 c
        refine g_bipush (pc' := 31) d_234_29 rfl cb_m100 ?_
        exact g_iret d_234_31 rt_234 h
-- 235 BernoulliWaysModel.oftenIn(JI)I
theorem S_235_0 {l0 : Int64} {i2 : Int32} {w : xW} {r : Option Value × xW} (h : xGo 235 5 [some (.long l0), none, some (.int i2), some (.int (0 : Int32)), some (.long l0), none] [] w r) : xGo 235 0 [some (.long l0), none, some (.int i2), none, none, none] [] w r := by
  refine g_iconst (pc' := 1) d_235_0 rfl ci_0 ?_
  refine g_istoren (pc' := 2) (l' := [some (.long l0), none, some (.int i2), some (.int (0 : Int32)), none, none]) d_235_1 rfl ml_235 rfl rfl ?_
  refine g_lloadn (pc' := 3) d_235_2 rfl rfl ?_
  refine g_lstore (pc' := 5) (l' := [some (.long l0), none, some (.int i2), some (.int (0 : Int32)), some (.long l0), none]) d_235_3 rfl ml_235 rfl rfl ?_
  exact h
theorem S_235_5 {l0 : Int64} {i2 : Int32} {i3 : Int32} {l4 : Int64} {w : xW} {r : Option Value × xW} (h : (¬ (i2.toInt64) = 0) ∧ (¬ (lrem l4 (i2.toInt64)) = (0 : Int64) → r = (some (.int i3), w)) ∧ (¬ (¬ (lrem l4 (i2.toInt64)) = (0 : Int64)) → ∀ v2 : Int32, v2 = i3 + (1 : Int32) → (¬ (i2.toInt64) = 0) ∧ ∀ v4 : Int64, v4 = (l4 / (i2.toInt64)) → xGo 235 5 [some (.long l0), none, some (.int i2), some (.int v2), some (.long v4), none] [] w r)) : xGo 235 5 [some (.long l0), none, some (.int i2), some (.int i3), some (.long l4), none] [] w r := by
  refine g_lload (pc' := 7) d_235_5 rfl rfl ?_
  refine g_iloadn (pc' := 8) d_235_7 rfl rfl ?_
  refine g_i2l (pc' := 9) d_235_8 rfl ?_
  obtain ⟨hc1, h⟩ := h
  refine g_lrem (pc' := 10) d_235_9 rfl hc1 ?_
  refine g_lconst (pc' := 11) d_235_10 rfl cl_0 ?_
  refine g_lc_ne (pc' := 15) (pm := 12) (pt := 28) d_235_11 rfl d_235_12 (by decide) rfl (fun c => ?_) (fun c => ?_)
  · replace h := h.1 c
    refine g_iloadn (pc' := 29) d_235_28 rfl rfl ?_
    exact g_iret d_235_29 rt_235 h
  · replace h := h.2 c
    have h := h _ rfl
    refine g_iinc (pc' := 18) (l' := [some (.long l0), none, some (.int i2), some (.int (i3 + (1 : Int32))), some (.long l4), none]) d_235_15 rfl rfl ci_1 ml_235 rfl rfl ?_
    refine g_lload (pc' := 20) d_235_18 rfl rfl ?_
    refine g_iloadn (pc' := 21) d_235_20 rfl rfl ?_
    refine g_i2l (pc' := 22) d_235_21 rfl ?_
    obtain ⟨hc3, h⟩ := h
    refine g_ldiv (pc' := 23) d_235_22 rfl hc3 ?_
    have h := h _ rfl
    refine g_lstore (pc' := 25) (l' := [some (.long l0), none, some (.int i2), some (.int (i3 + (1 : Int32))), some (.long ((l4 / (i2.toInt64)))), none]) d_235_23 rfl ml_235 rfl rfl ?_
    refine g_goto (pt := 5) d_235_25 (by decide) ?_
    exact h
-- 236 BernoulliWaysModel.oftenAbove(II)I
theorem S_236_0 {a0 : Nat} {i1 : Int32} {i2 : Int32} {w : xW} {r : Option Value × xW} (h : ∃ fs1, w[a0]? = some (.inr (12, fs1)) ∧ ∃ b3, fs1[2]? = some (.ref b3) ∧ ∃ n5 f6, w[b3]? = some (.inl (.inr (n5, f6))) ∧ (¬ (((3 : Int32) * i1) < 0 ∨ n5 ≤ ((3 : Int32) * i1).toNatClampNeg)) ∧ ∀ v9 : Int64, v9 = (f6 ((3 : Int32) * i1).toNatClampNeg) → (¬ ((((3 : Int32) * i1) + (2 : Int32)) < 0 ∨ n5 ≤ (((3 : Int32) * i1) + (2 : Int32)).toNatClampNeg)) ∧ ∀ v11 : Int64, v11 = (f6 (((3 : Int32) * i1) + (2 : Int32)).toNatClampNeg) → (¬ ((((3 : Int32) * i1) + (1 : Int32)) < 0 ∨ n5 ≤ (((3 : Int32) * i1) + (1 : Int32)).toNatClampNeg)) ∧ ∀ v13 : Int64, v13 = (f6 (((3 : Int32) * i1) + (1 : Int32)).toNatClampNeg) → (¬ v9 = (0 : Int64) → xGo 236 52 [some (.ref a0), some (.int i1), some (.int i2), some (.long v9), none, some (.long v11), none, some (.long v13), none, some (.int (0 : Int32)), none, none, none, none, none, none] [] w r) ∧ (¬ (¬ v9 = (0 : Int64)) → (¬ v13 = (0 : Int64) → xGo 236 52 [some (.ref a0), some (.int i1), some (.int i2), some (.long v9), none, some (.long v11), none, some (.long v13), none, some (.int (0 : Int32)), none, none, none, none, none, none] [] w r) ∧ (¬ (¬ v13 = (0 : Int64)) → r = (some (.int (100 : Int32)), w)))) : xGo 236 0 [some (.ref a0), some (.int i1), some (.int i2), none, none, none, none, none, none, none, none, none, none, none, none, none] [] w r := by
  refine g_aloadn (pc' := 1) d_236_0 rfl rfl ?_
  obtain ⟨fs1, hw2, h⟩ := h
  obtain ⟨b3, hv4, h⟩ := h
  refine g_getf (pc' := 4) d_236_1 rfl st_236_13 hw2 hv4 ?_
  refine g_iconst (pc' := 5) d_236_4 rfl ci_3 ?_
  refine g_iloadn (pc' := 6) d_236_5 rfl rfl ?_
  refine g_imul (pc' := 7) d_236_6 rfl ?_
  obtain ⟨n5, f6, hw7, h⟩ := h
  obtain ⟨hc8, h⟩ := h
  refine g_lald (pc' := 8) d_236_7 rfl hw7 hc8 ?_
  have h := h _ rfl
  refine g_lstoren (pc' := 9) (l' := [some (.ref a0), some (.int i1), some (.int i2), some (.long ((f6 ((3 : Int32) * i1).toNatClampNeg))), none, none, none, none, none, none, none, none, none, none, none, none]) d_236_8 rfl ml_236 rfl rfl ?_
  refine g_aloadn (pc' := 10) d_236_9 rfl rfl ?_
  refine g_getf (pc' := 13) d_236_10 rfl st_236_13 hw2 hv4 ?_
  refine g_iconst (pc' := 14) d_236_13 rfl ci_3 ?_
  refine g_iloadn (pc' := 15) d_236_14 rfl rfl ?_
  refine g_imul (pc' := 16) d_236_15 rfl ?_
  refine g_iconst (pc' := 17) d_236_16 rfl ci_2 ?_
  refine g_iadd (pc' := 18) d_236_17 rfl ?_
  obtain ⟨hc10, h⟩ := h
  refine g_lald (pc' := 19) d_236_18 rfl hw7 hc10 ?_
  have h := h _ rfl
  refine g_lstore (pc' := 21) (l' := [some (.ref a0), some (.int i1), some (.int i2), some (.long ((f6 ((3 : Int32) * i1).toNatClampNeg))), none, some (.long ((f6 (((3 : Int32) * i1) + (2 : Int32)).toNatClampNeg))), none, none, none, none, none, none, none, none, none, none]) d_236_19 rfl ml_236 rfl rfl ?_
  refine g_aloadn (pc' := 22) d_236_21 rfl rfl ?_
  refine g_getf (pc' := 25) d_236_22 rfl st_236_13 hw2 hv4 ?_
  refine g_iconst (pc' := 26) d_236_25 rfl ci_3 ?_
  refine g_iloadn (pc' := 27) d_236_26 rfl rfl ?_
  refine g_imul (pc' := 28) d_236_27 rfl ?_
  refine g_iconst (pc' := 29) d_236_28 rfl ci_1 ?_
  refine g_iadd (pc' := 30) d_236_29 rfl ?_
  obtain ⟨hc12, h⟩ := h
  refine g_lald (pc' := 31) d_236_30 rfl hw7 hc12 ?_
  have h := h _ rfl
  refine g_lstore (pc' := 33) (l' := [some (.ref a0), some (.int i1), some (.int i2), some (.long ((f6 ((3 : Int32) * i1).toNatClampNeg))), none, some (.long ((f6 (((3 : Int32) * i1) + (2 : Int32)).toNatClampNeg))), none, some (.long ((f6 (((3 : Int32) * i1) + (1 : Int32)).toNatClampNeg))), none, none, none, none, none, none, none, none]) d_236_31 rfl ml_236 rfl rfl ?_
  refine g_lloadn (pc' := 34) d_236_33 rfl rfl ?_
  refine g_lconst (pc' := 35) d_236_34 rfl cl_0 ?_
  refine g_lc_ne (pc' := 39) (pm := 36) (pt := 49) d_236_35 rfl d_236_36 (by decide) rfl (fun c => ?_) (fun c => ?_)
  · replace h := h.1 c
    refine g_iconst (pc' := 50) d_236_49 rfl ci_0 ?_
    refine g_istore (pc' := 52) (l' := [some (.ref a0), some (.int i1), some (.int i2), some (.long ((f6 ((3 : Int32) * i1).toNatClampNeg))), none, some (.long ((f6 (((3 : Int32) * i1) + (2 : Int32)).toNatClampNeg))), none, some (.long ((f6 (((3 : Int32) * i1) + (1 : Int32)).toNatClampNeg))), none, some (.int (0 : Int32)), none, none, none, none, none, none]) d_236_50 rfl ml_236 rfl rfl ?_
    exact h
  · replace h := h.2 c
    refine g_lload (pc' := 41) d_236_39 rfl rfl ?_
    refine g_lconst (pc' := 42) d_236_41 rfl cl_0 ?_
    refine g_lc_ne (pc' := 46) (pm := 43) (pt := 49) d_236_42 rfl d_236_43 (by decide) rfl (fun c => ?_) (fun c => ?_)
    · replace h := h.1 c
      refine g_iconst (pc' := 50) d_236_49 rfl ci_0 ?_
      refine g_istore (pc' := 52) (l' := [some (.ref a0), some (.int i1), some (.int i2), some (.long ((f6 ((3 : Int32) * i1).toNatClampNeg))), none, some (.long ((f6 (((3 : Int32) * i1) + (2 : Int32)).toNatClampNeg))), none, some (.long ((f6 (((3 : Int32) * i1) + (1 : Int32)).toNatClampNeg))), none, some (.int (0 : Int32)), none, none, none, none, none, none]) d_236_50 rfl ml_236 rfl rfl ?_
      exact h
    · replace h := h.2 c
      refine g_bipush (pc' := 48) d_236_46 rfl cb_100 ?_
      exact g_iret d_236_48 rt_236 h
theorem S_236_52 {a0 : Nat} {i1 : Int32} {i2 : Int32} {l3 : Int64} {l5 : Int64} {l7 : Int64} {i9 : Int32} {w : xW} {r : Option Value × xW} (h : (¬ (i2.toInt64) = 0) ∧ ∀ v2 : Int64, v2 = (l3 / (i2.toInt64)) → ∀ v3 : Int64, v3 = (l3 - (v2 * (i2.toInt64))) → ∀ v4 : Int64, v4 = ((v3 * l5) + l7) → (¬ (i2.toInt64) = 0) ∧ ((lrem v4 (i2.toInt64)) = (0 : Int64) → (¬ (i2.toInt64) = 0) ∧ ∀ v7 : Int64, v7 = (v4 / (i2.toInt64)) → ∀ v8 : Int32, v8 = i9 + (1 : Int32) → xGo 236 52 [some (.ref a0), some (.int i1), some (.int i2), some (.long v2), none, some (.long l5), none, some (.long v7), none, some (.int v8), none, none, none, none, none, none] [] w r) ∧ (¬ ((lrem v4 (i2.toInt64)) = (0 : Int64)) → r = (some (.int i9), w))) : xGo 236 52 [some (.ref a0), some (.int i1), some (.int i2), some (.long l3), none, some (.long l5), none, some (.long l7), none, some (.int i9), none, none, none, none, none, none] [] w r := by
  refine g_lloadn (pc' := 53) d_236_52 rfl rfl ?_
  refine g_iloadn (pc' := 54) d_236_53 rfl rfl ?_
  refine g_i2l (pc' := 55) d_236_54 rfl ?_
  obtain ⟨hc1, h⟩ := h
  refine g_ldiv (pc' := 56) d_236_55 rfl hc1 ?_
  have h := h _ rfl
  refine g_lstore (pc' := 58) (l' := [some (.ref a0), some (.int i1), some (.int i2), some (.long l3), none, some (.long l5), none, some (.long l7), none, some (.int i9), some (.long ((l3 / (i2.toInt64)))), none, none, none, none, none]) d_236_56 rfl ml_236 rfl rfl ?_
  refine g_lloadn (pc' := 59) d_236_58 rfl rfl ?_
  refine g_lload (pc' := 61) d_236_59 rfl rfl ?_
  refine g_iloadn (pc' := 62) d_236_61 rfl rfl ?_
  refine g_i2l (pc' := 63) d_236_62 rfl ?_
  refine g_lmul (pc' := 64) d_236_63 rfl ?_
  refine g_lsub (pc' := 65) d_236_64 rfl ?_
  have h := h _ rfl
  refine g_lstore (pc' := 67) (l' := [some (.ref a0), some (.int i1), some (.int i2), some (.long l3), none, some (.long l5), none, some (.long l7), none, some (.int i9), some (.long ((l3 / (i2.toInt64)))), none, some (.long ((l3 - (((l3 / (i2.toInt64))) * (i2.toInt64))))), none, none, none]) d_236_65 rfl ml_236 rfl rfl ?_
  refine g_lload (pc' := 69) d_236_67 rfl rfl ?_
  refine g_lload (pc' := 71) d_236_69 rfl rfl ?_
  refine g_lmul (pc' := 72) d_236_71 rfl ?_
  refine g_lload (pc' := 74) d_236_72 rfl rfl ?_
  refine g_ladd (pc' := 75) d_236_74 rfl ?_
  have h := h _ rfl
  refine g_lstore (pc' := 77) (l' := [some (.ref a0), some (.int i1), some (.int i2), some (.long l3), none, some (.long l5), none, some (.long l7), none, some (.int i9), some (.long ((l3 / (i2.toInt64)))), none, some (.long ((l3 - (((l3 / (i2.toInt64))) * (i2.toInt64))))), none, some (.long (((((l3 - (((l3 / (i2.toInt64))) * (i2.toInt64)))) * l5) + l7))), none]) d_236_75 rfl ml_236 rfl rfl ?_
  refine g_lload (pc' := 79) d_236_77 rfl rfl ?_
  refine g_iloadn (pc' := 80) d_236_79 rfl rfl ?_
  refine g_i2l (pc' := 81) d_236_80 rfl ?_
  obtain ⟨hc5, h⟩ := h
  refine g_lrem (pc' := 82) d_236_81 rfl hc5 ?_
  refine g_lconst (pc' := 83) d_236_82 rfl cl_0 ?_
  refine g_lc_eq (pc' := 87) (pm := 84) (pt := 90) d_236_83 rfl d_236_84 (by decide) rfl (fun c => ?_) (fun c => ?_)
  · replace h := h.1 c
    refine g_lload (pc' := 92) d_236_90 rfl rfl ?_
    refine g_lstoren (pc' := 93) (l' := [some (.ref a0), some (.int i1), some (.int i2), some (.long ((l3 / (i2.toInt64)))), none, some (.long l5), none, some (.long l7), none, some (.int i9), some (.long ((l3 / (i2.toInt64)))), none, some (.long ((l3 - (((l3 / (i2.toInt64))) * (i2.toInt64))))), none, some (.long (((((l3 - (((l3 / (i2.toInt64))) * (i2.toInt64)))) * l5) + l7))), none]) d_236_92 rfl ml_236 rfl rfl ?_
    refine g_lload (pc' := 95) d_236_93 rfl rfl ?_
    refine g_iloadn (pc' := 96) d_236_95 rfl rfl ?_
    refine g_i2l (pc' := 97) d_236_96 rfl ?_
    obtain ⟨hc6, h⟩ := h
    refine g_ldiv (pc' := 98) d_236_97 rfl hc6 ?_
    have h := h _ rfl
    refine g_lstore (pc' := 100) (l' := [some (.ref a0), some (.int i1), some (.int i2), some (.long ((l3 / (i2.toInt64)))), none, some (.long l5), none, some (.long (((((((l3 - (((l3 / (i2.toInt64))) * (i2.toInt64)))) * l5) + l7)) / (i2.toInt64)))), none, some (.int i9), some (.long ((l3 / (i2.toInt64)))), none, some (.long ((l3 - (((l3 / (i2.toInt64))) * (i2.toInt64))))), none, some (.long (((((l3 - (((l3 / (i2.toInt64))) * (i2.toInt64)))) * l5) + l7))), none]) d_236_98 rfl ml_236 rfl rfl ?_
    have h := h _ rfl
    refine g_iinc (pc' := 103) (l' := [some (.ref a0), some (.int i1), some (.int i2), some (.long ((l3 / (i2.toInt64)))), none, some (.long l5), none, some (.long (((((((l3 - (((l3 / (i2.toInt64))) * (i2.toInt64)))) * l5) + l7)) / (i2.toInt64)))), none, some (.int (i9 + (1 : Int32))), some (.long ((l3 / (i2.toInt64)))), none, some (.long ((l3 - (((l3 / (i2.toInt64))) * (i2.toInt64))))), none, some (.long (((((l3 - (((l3 / (i2.toInt64))) * (i2.toInt64)))) * l5) + l7))), none]) d_236_100 rfl rfl ci_1 ml_236 rfl rfl ?_
    refine g_goto (pt := 52) d_236_103 (by decide) ?_
    exact xGo.more (xle_s (xle_s (xle_s (xle_s (xle_n (xle_s (xle_n (xle_s (xle_n (xle_s (xle_n (xle_n (xle_n (xle_n (xle_n (xle_n xle_0)))))))))))))))) h
  · replace h := h.2 c
    refine g_iload (pc' := 89) d_236_87 rfl rfl ?_
    exact g_iret d_236_89 rt_236 h
-- 237 BernoulliWaysModel.kummer(III)I
theorem S_237_0 {a0 : Nat} {i1 : Int32} {i2 : Int32} {i3 : Int32} {w : xW} {r : Option Value × xW} (h : ∃ fs1, w[a0]? = some (.inr (12, fs1)) ∧ (0 < fs1.length) ∧ ∀ w4, w4 = w.set a0 (.inr (12, fs1.set 0 (.int (0 : Int32)))) → ∃ r7 w5, xCall 228 [.ref a0, .int i1] w4 (some (.int r7), w5) ∧ (r7 = 0 → r = (some (.int (-1 : Int32)), w5)) ∧ (¬ (r7 = 0) → ∃ fs8, w5[a0]? = some (.inr (12, fs8)) ∧ ∃ r12 w10, xCall 198 [.ref a0, .int i2] w5 (some (.int r12), w10) ∧ (r12 = 0 → r = (some (.int (-1 : Int32)), w10)) ∧ (¬ (r12 = 0) → ∃ fs13, w10[a0]? = some (.inr (12, fs13)) ∧ ∃ r17 w15, xCall 198 [.ref a0, .int i3] w10 (some (.int r17), w15) ∧ (¬ r17 = 0 → ∃ fs18, w15[a0]? = some (.inr (12, fs18)) ∧ ∃ x20, fs18[4]? = some (.int x20) ∧ (x20 < i2 → r = (some (.int (-2 : Int32)), w15)) ∧ (¬ (x20 < i2) → (i3 ≤ x20 → ∃ r24 w22, xCall 213 [.ref a0, .int i1, .int i2, .int i3] w15 (some (.int r24), w22) ∧ r = (some (.int r24), w22)) ∧ (¬ (i3 ≤ x20) → r = (some (.int (-2 : Int32)), w15)))) ∧ (¬ (¬ r17 = 0) → r = (some (.int (-1 : Int32)), w15))))) : xGo 237 0 [some (.ref a0), some (.int i1), some (.int i2), some (.int i3)] [] w r := by
  refine g_aloadn (pc' := 1) d_237_0 rfl rfl ?_
  refine g_iconst (pc' := 2) d_237_1 rfl ci_0 ?_
  obtain ⟨fs1, hw2, h⟩ := h
  obtain ⟨hc3, h⟩ := h
  have h := h _ rfl
  refine g_putf (pc' := 5) d_237_2 rfl st_237_118 ft_12_0 ff_12_0 rfl (Or.inl rfl) hw2 hc3 ?_
  refine g_aloadn (pc' := 6) d_237_5 rfl rfl ?_
  refine g_iloadn (pc' := 7) d_237_6 rfl rfl ?_
  obtain ⟨r7, w5, hk6, h⟩ := h
  refine g_callV (pc' := 10) d_237_7 rfl st_237_185 na_228 ml_228 rfl rfl rfl rm_237_228 rfl rfl ow_228 (x_gss hw2) hk6 ?_
  refine g_if_eq (pc' := 13) (pt := 29) d_237_10 (by decide) rfl (fun c => ?_) (fun c => ?_)
  · replace h := h.1 c
    refine g_iconst (pc' := 30) d_237_29 rfl ci_m1 ?_
    exact g_iret d_237_30 rt_237 h
  · replace h := h.2 c
    refine g_aloadn (pc' := 14) d_237_13 rfl rfl ?_
    refine g_iloadn (pc' := 15) d_237_14 rfl rfl ?_
    obtain ⟨fs8, hw9, h⟩ := h
    obtain ⟨r12, w10, hk11, h⟩ := h
    refine g_callV (pc' := 18) d_237_15 rfl st_237_145 na_198 ml_198 rfl rfl rfl rm_237_198 rfl rfl ow_198 hw9 hk11 ?_
    refine g_if_eq (pc' := 21) (pt := 29) d_237_18 (by decide) rfl (fun c => ?_) (fun c => ?_)
    · replace h := h.1 c
      refine g_iconst (pc' := 30) d_237_29 rfl ci_m1 ?_
      exact g_iret d_237_30 rt_237 h
    · replace h := h.2 c
      refine g_aloadn (pc' := 22) d_237_21 rfl rfl ?_
      refine g_iloadn (pc' := 23) d_237_22 rfl rfl ?_
      obtain ⟨fs13, hw14, h⟩ := h
      obtain ⟨r17, w15, hk16, h⟩ := h
      refine g_callV (pc' := 26) d_237_23 rfl st_237_145 na_198 ml_198 rfl rfl rfl rm_237_198 rfl rfl ow_198 hw14 hk16 ?_
      refine g_if_ne (pc' := 29) (pt := 31) d_237_26 (by decide) rfl (fun c => ?_) (fun c => ?_)
      · replace h := h.1 c
        refine g_iloadn (pc' := 32) d_237_31 rfl rfl ?_
        refine g_aloadn (pc' := 33) d_237_32 rfl rfl ?_
        obtain ⟨fs18, hw19, h⟩ := h
        obtain ⟨x20, hv21, h⟩ := h
        refine g_getf (pc' := 36) d_237_33 rfl st_237_20 hw19 hv21 ?_
        refine g_ic_gt (pc' := 39) (pt := 47) d_237_36 (by decide) rfl (fun c => ?_) (fun c => ?_)
        · replace h := h.1 c
          refine g_bipush (pc' := 49) d_237_47 rfl cb_m2 ?_
          refine g_goto (pt := 59) d_237_49 (by decide) ?_
          exact g_iret d_237_59 rt_237 h
        · replace h := h.2 c
          refine g_iloadn (pc' := 40) d_237_39 rfl rfl ?_
          refine g_aloadn (pc' := 41) d_237_40 rfl rfl ?_
          refine g_getf (pc' := 44) d_237_41 rfl st_237_20 hw19 hv21 ?_
          refine g_ic_le (pc' := 47) (pt := 52) d_237_44 (by decide) rfl (fun c => ?_) (fun c => ?_)
          · replace h := h.1 c
            refine g_aloadn (pc' := 53) d_237_52 rfl rfl ?_
            refine g_iloadn (pc' := 54) d_237_53 rfl rfl ?_
            refine g_iloadn (pc' := 55) d_237_54 rfl rfl ?_
            refine g_iloadn (pc' := 56) d_237_55 rfl rfl ?_
            obtain ⟨r24, w22, hk23, h⟩ := h
            refine g_callV (pc' := 59) d_237_56 rfl st_237_205 na_213 ml_213 rfl rfl rfl rm_237_213 rfl rfl ow_213 hw19 hk23 ?_
            exact g_iret d_237_59 rt_237 h
          · replace h := h.2 c
            refine g_bipush (pc' := 49) d_237_47 rfl cb_m2 ?_
            refine g_goto (pt := 59) d_237_49 (by decide) ?_
            exact g_iret d_237_59 rt_237 h
      · replace h := h.2 c
        refine g_iconst (pc' := 30) d_237_29 rfl ci_m1 ?_
        exact g_iret d_237_30 rt_237 h
-- 238 BernoulliWaysModel.kummerTwice(III)I
theorem S_238_0 {a0 : Nat} {i1 : Int32} {i2 : Int32} {i3 : Int32} {w : xW} {r : Option Value × xW} (h : ∃ fs1, w[a0]? = some (.inr (12, fs1)) ∧ (0 < fs1.length) ∧ ∀ w4, w4 = w.set a0 (.inr (12, fs1.set 0 (.int (0 : Int32)))) → ∃ r7 w5, xCall 228 [.ref a0, .int i1] w4 (some (.int r7), w5) ∧ (r7 = 0 → r = (some (.int (-1 : Int32)), w5)) ∧ (¬ (r7 = 0) → ∃ fs8, w5[a0]? = some (.inr (12, fs8)) ∧ ∃ r12 w10, xCall 198 [.ref a0, .int i2] w5 (some (.int r12), w10) ∧ (r12 = 0 → r = (some (.int (-1 : Int32)), w10)) ∧ (¬ (r12 = 0) → ∃ fs13, w10[a0]? = some (.inr (12, fs13)) ∧ ∃ r17 w15, xCall 198 [.ref a0, .int i3] w10 (some (.int r17), w15) ∧ (¬ r17 = 0 → ∃ fs18, w15[a0]? = some (.inr (12, fs18)) ∧ ∃ x20, fs18[4]? = some (.int x20) ∧ (x20 < i2 → r = (some (.int (-2 : Int32)), w15)) ∧ (¬ (x20 < i2) → (i3 ≤ x20 → (¬ (i1 * (i1 - (1 : Int32))) = 0) ∧ (¬ (irem (i2 - i3) (i1 * (i1 - (1 : Int32)))) = 0 → r = (some (.int (-3 : Int32)), w15)) ∧ (¬ (¬ (irem (i2 - i3) (i1 * (i1 - (1 : Int32)))) = 0) → ∃ r25 w23, xCall 213 [.ref a0, .int i1, .int i2, .int i3] w15 (some (.int r25), w23) ∧ (0 ≤ r25 → ∀ v26 : Int64, v26 = ((i1.toInt64) * (i1.toInt64)) → ∃ fs27, w23[a0]? = some (.inr (12, fs27)) ∧ ∃ b29, fs27[2]? = some (.ref b29) ∧ ∃ r33 w31, xCall 239 [.ref b29, .int i2, .int i1] w23 (some (.long r33), w31) ∧ (¬ i2 = (2 : Int32) → (¬ v26 = 0) ∧ ∀ v35 : Int64, v35 = (lrem (r33 * (1 : Int64)) v26) → ∃ fs36, w31[a0]? = some (.inr (12, fs36)) ∧ ∃ b38, fs36[2]? = some (.ref b38) ∧ ∃ r42 w40, xCall 239 [.ref b38, .int i3, .int i1] w31 (some (.long r42), w40) ∧ (¬ i3 = (2 : Int32) → (¬ v26 = 0) ∧ ∀ v44 : Int64, v44 = (lrem (r42 * (1 : Int64)) v26) → (¬ v26 = 0) ∧ r = (some (.int ((lrem ((v35 - v44) + v26) v26).toInt32)), w40)) ∧ (¬ (¬ i3 = (2 : Int32)) → (¬ v26 = 0) ∧ ∀ v47 : Int64, v47 = (lrem (r42 * ((v26 + (1 : Int64)) - (i1.toInt64))) v26) → (¬ v26 = 0) ∧ r = (some (.int ((lrem ((v35 - v47) + v26) v26).toInt32)), w40))) ∧ (¬ (¬ i2 = (2 : Int32)) → (¬ v26 = 0) ∧ ∀ v50 : Int64, v50 = (lrem (r33 * ((v26 + (1 : Int64)) - (i1.toInt64))) v26) → ∃ fs51, w31[a0]? = some (.inr (12, fs51)) ∧ ∃ b53, fs51[2]? = some (.ref b53) ∧ ∃ r57 w55, xCall 239 [.ref b53, .int i3, .int i1] w31 (some (.long r57), w55) ∧ (¬ i3 = (2 : Int32) → (¬ v26 = 0) ∧ ∀ v59 : Int64, v59 = (lrem (r57 * (1 : Int64)) v26) → (¬ v26 = 0) ∧ r = (some (.int ((lrem ((v50 - v59) + v26) v26).toInt32)), w55)) ∧ (¬ (¬ i3 = (2 : Int32)) → (¬ v26 = 0) ∧ ∀ v62 : Int64, v62 = (lrem (r57 * ((v26 + (1 : Int64)) - (i1.toInt64))) v26) → (¬ v26 = 0) ∧ r = (some (.int ((lrem ((v50 - v62) + v26) v26).toInt32)), w55)))) ∧ (¬ (0 ≤ r25) → r = (some (.int (-3 : Int32)), w23)))) ∧ (¬ (i3 ≤ x20) → r = (some (.int (-2 : Int32)), w15)))) ∧ (¬ (¬ r17 = 0) → r = (some (.int (-1 : Int32)), w15))))) : xGo 238 0 [some (.ref a0), some (.int i1), some (.int i2), some (.int i3), none, none, none, none, none, none] [] w r := by
  refine g_aloadn (pc' := 1) d_238_0 rfl rfl ?_
  refine g_iconst (pc' := 2) d_238_1 rfl ci_0 ?_
  obtain ⟨fs1, hw2, h⟩ := h
  obtain ⟨hc3, h⟩ := h
  have h := h _ rfl
  refine g_putf (pc' := 5) d_238_2 rfl st_238_118 ft_12_0 ff_12_0 rfl (Or.inl rfl) hw2 hc3 ?_
  refine g_aloadn (pc' := 6) d_238_5 rfl rfl ?_
  refine g_iloadn (pc' := 7) d_238_6 rfl rfl ?_
  obtain ⟨r7, w5, hk6, h⟩ := h
  refine g_callV (pc' := 10) d_238_7 rfl st_238_185 na_228 ml_228 rfl rfl rfl rm_238_228 rfl rfl ow_228 (x_gss hw2) hk6 ?_
  refine g_if_eq (pc' := 13) (pt := 29) d_238_10 (by decide) rfl (fun c => ?_) (fun c => ?_)
  · replace h := h.1 c
    refine g_iconst (pc' := 30) d_238_29 rfl ci_m1 ?_
    exact g_iret d_238_30 rt_238 h
  · replace h := h.2 c
    refine g_aloadn (pc' := 14) d_238_13 rfl rfl ?_
    refine g_iloadn (pc' := 15) d_238_14 rfl rfl ?_
    obtain ⟨fs8, hw9, h⟩ := h
    obtain ⟨r12, w10, hk11, h⟩ := h
    refine g_callV (pc' := 18) d_238_15 rfl st_238_145 na_198 ml_198 rfl rfl rfl rm_238_198 rfl rfl ow_198 hw9 hk11 ?_
    refine g_if_eq (pc' := 21) (pt := 29) d_238_18 (by decide) rfl (fun c => ?_) (fun c => ?_)
    · replace h := h.1 c
      refine g_iconst (pc' := 30) d_238_29 rfl ci_m1 ?_
      exact g_iret d_238_30 rt_238 h
    · replace h := h.2 c
      refine g_aloadn (pc' := 22) d_238_21 rfl rfl ?_
      refine g_iloadn (pc' := 23) d_238_22 rfl rfl ?_
      obtain ⟨fs13, hw14, h⟩ := h
      obtain ⟨r17, w15, hk16, h⟩ := h
      refine g_callV (pc' := 26) d_238_23 rfl st_238_145 na_198 ml_198 rfl rfl rfl rm_238_198 rfl rfl ow_198 hw14 hk16 ?_
      refine g_if_ne (pc' := 29) (pt := 31) d_238_26 (by decide) rfl (fun c => ?_) (fun c => ?_)
      · replace h := h.1 c
        refine g_iloadn (pc' := 32) d_238_31 rfl rfl ?_
        refine g_aloadn (pc' := 33) d_238_32 rfl rfl ?_
        obtain ⟨fs18, hw19, h⟩ := h
        obtain ⟨x20, hv21, h⟩ := h
        refine g_getf (pc' := 36) d_238_33 rfl st_238_20 hw19 hv21 ?_
        refine g_ic_gt (pc' := 39) (pt := 47) d_238_36 (by decide) rfl (fun c => ?_) (fun c => ?_)
        · replace h := h.1 c
          refine g_bipush (pc' := 49) d_238_47 rfl cb_m2 ?_
          exact g_iret d_238_49 rt_238 h
        · replace h := h.2 c
          refine g_iloadn (pc' := 40) d_238_39 rfl rfl ?_
          refine g_aloadn (pc' := 41) d_238_40 rfl rfl ?_
          refine g_getf (pc' := 44) d_238_41 rfl st_238_20 hw19 hv21 ?_
          refine g_ic_le (pc' := 47) (pt := 50) d_238_44 (by decide) rfl (fun c => ?_) (fun c => ?_)
          · replace h := h.1 c
            refine g_iloadn (pc' := 51) d_238_50 rfl rfl ?_
            refine g_iloadn (pc' := 52) d_238_51 rfl rfl ?_
            refine g_isub (pc' := 53) d_238_52 rfl ?_
            refine g_iloadn (pc' := 54) d_238_53 rfl rfl ?_
            refine g_iloadn (pc' := 55) d_238_54 rfl rfl ?_
            refine g_iconst (pc' := 56) d_238_55 rfl ci_1 ?_
            refine g_isub (pc' := 57) d_238_56 rfl ?_
            refine g_imul (pc' := 58) d_238_57 rfl ?_
            obtain ⟨hc22, h⟩ := h
            refine g_irem (pc' := 59) d_238_58 rfl hc22 ?_
            refine g_if_ne (pc' := 62) (pt := 72) d_238_59 (by decide) rfl (fun c => ?_) (fun c => ?_)
            · replace h := h.1 c
              refine g_bipush (pc' := 74) d_238_72 rfl cb_m3 ?_
              exact g_iret d_238_74 rt_238 h
            · replace h := h.2 c
              refine g_aloadn (pc' := 63) d_238_62 rfl rfl ?_
              refine g_iloadn (pc' := 64) d_238_63 rfl rfl ?_
              refine g_iloadn (pc' := 65) d_238_64 rfl rfl ?_
              refine g_iloadn (pc' := 66) d_238_65 rfl rfl ?_
              obtain ⟨r25, w23, hk24, h⟩ := h
              refine g_callV (pc' := 69) d_238_66 rfl st_238_205 na_213 ml_213 rfl rfl rfl rm_238_213 rfl rfl ow_213 hw19 hk24 ?_
              refine g_if_ge (pc' := 72) (pt := 75) d_238_69 (by decide) rfl (fun c => ?_) (fun c => ?_)
              · replace h := h.1 c
                refine g_iloadn (pc' := 76) d_238_75 rfl rfl ?_
                refine g_i2l (pc' := 77) d_238_76 rfl ?_
                refine g_iloadn (pc' := 78) d_238_77 rfl rfl ?_
                refine g_i2l (pc' := 79) d_238_78 rfl ?_
                refine g_lmul (pc' := 80) d_238_79 rfl ?_
                have h := h _ rfl
                refine g_lstore (pc' := 82) (l' := [some (.ref a0), some (.int i1), some (.int i2), some (.int i3), some (.long (((i1.toInt64) * (i1.toInt64)))), none, none, none, none, none]) d_238_80 rfl ml_238 rfl rfl ?_
                refine g_aloadn (pc' := 83) d_238_82 rfl rfl ?_
                obtain ⟨fs27, hw28, h⟩ := h
                obtain ⟨b29, hv30, h⟩ := h
                refine g_getf (pc' := 86) d_238_83 rfl st_238_13 hw28 hv30 ?_
                refine g_iloadn (pc' := 87) d_238_86 rfl rfl ?_
                refine g_iloadn (pc' := 88) d_238_87 rfl rfl ?_
                obtain ⟨r33, w31, hk32, h⟩ := h
                refine g_callS (pc' := 91) d_238_88 rfl st_238_212 (Or.inl rfl) na_239 ml_239 rfl rfl rfl rm_238_239 rfl rfl hk32 ?_
                refine g_iloadn (pc' := 92) d_238_91 rfl rfl ?_
                refine g_iconst (pc' := 93) d_238_92 rfl ci_2 ?_
                refine g_ic_ne (pc' := 96) (pt := 106) d_238_93 (by decide) rfl (fun c => ?_) (fun c => ?_)
                · replace h := h.1 c
                  refine g_lconst (pc' := 107) d_238_106 rfl cl_1 ?_
                  refine g_lmul (pc' := 108) d_238_107 rfl ?_
                  refine g_lload (pc' := 110) d_238_108 rfl rfl ?_
                  obtain ⟨hc34, h⟩ := h
                  refine g_lrem (pc' := 111) d_238_110 rfl hc34 ?_
                  have h := h _ rfl
                  refine g_lstore (pc' := 113) (l' := [some (.ref a0), some (.int i1), some (.int i2), some (.int i3), some (.long (((i1.toInt64) * (i1.toInt64)))), none, some (.long ((lrem (r33 * (1 : Int64)) (((i1.toInt64) * (i1.toInt64)))))), none, none, none]) d_238_111 rfl ml_238 rfl rfl ?_
                  refine g_aloadn (pc' := 114) d_238_113 rfl rfl ?_
                  obtain ⟨fs36, hw37, h⟩ := h
                  obtain ⟨b38, hv39, h⟩ := h
                  refine g_getf (pc' := 117) d_238_114 rfl st_238_13 hw37 hv39 ?_
                  refine g_iloadn (pc' := 118) d_238_117 rfl rfl ?_
                  refine g_iloadn (pc' := 119) d_238_118 rfl rfl ?_
                  obtain ⟨r42, w40, hk41, h⟩ := h
                  refine g_callS (pc' := 122) d_238_119 rfl st_238_212 (Or.inl rfl) na_239 ml_239 rfl rfl rfl rm_238_239 rfl rfl hk41 ?_
                  refine g_iloadn (pc' := 123) d_238_122 rfl rfl ?_
                  refine g_iconst (pc' := 124) d_238_123 rfl ci_2 ?_
                  refine g_ic_ne (pc' := 127) (pt := 137) d_238_124 (by decide) rfl (fun c => ?_) (fun c => ?_)
                  · replace h := h.1 c
                    refine g_lconst (pc' := 138) d_238_137 rfl cl_1 ?_
                    refine g_lmul (pc' := 139) d_238_138 rfl ?_
                    refine g_lload (pc' := 141) d_238_139 rfl rfl ?_
                    obtain ⟨hc43, h⟩ := h
                    refine g_lrem (pc' := 142) d_238_141 rfl hc43 ?_
                    have h := h _ rfl
                    refine g_lstore (pc' := 144) (l' := [some (.ref a0), some (.int i1), some (.int i2), some (.int i3), some (.long (((i1.toInt64) * (i1.toInt64)))), none, some (.long ((lrem (r33 * (1 : Int64)) (((i1.toInt64) * (i1.toInt64)))))), none, some (.long ((lrem (r42 * (1 : Int64)) (((i1.toInt64) * (i1.toInt64)))))), none]) d_238_142 rfl ml_238 rfl rfl ?_
                    refine g_lload (pc' := 146) d_238_144 rfl rfl ?_
                    refine g_lload (pc' := 148) d_238_146 rfl rfl ?_
                    refine g_lsub (pc' := 149) d_238_148 rfl ?_
                    refine g_lload (pc' := 151) d_238_149 rfl rfl ?_
                    refine g_ladd (pc' := 152) d_238_151 rfl ?_
                    refine g_lload (pc' := 154) d_238_152 rfl rfl ?_
                    obtain ⟨hc45, h⟩ := h
                    refine g_lrem (pc' := 155) d_238_154 rfl hc45 ?_
                    refine g_l2i (pc' := 156) d_238_155 rfl ?_
                    exact g_iret d_238_156 rt_238 h
                  · replace h := h.2 c
                    refine g_lload (pc' := 129) d_238_127 rfl rfl ?_
                    refine g_lconst (pc' := 130) d_238_129 rfl cl_1 ?_
                    refine g_ladd (pc' := 131) d_238_130 rfl ?_
                    refine g_iloadn (pc' := 132) d_238_131 rfl rfl ?_
                    refine g_i2l (pc' := 133) d_238_132 rfl ?_
                    refine g_lsub (pc' := 134) d_238_133 rfl ?_
                    refine g_goto (pt := 138) d_238_134 (by decide) ?_
                    refine g_lmul (pc' := 139) d_238_138 rfl ?_
                    refine g_lload (pc' := 141) d_238_139 rfl rfl ?_
                    obtain ⟨hc46, h⟩ := h
                    refine g_lrem (pc' := 142) d_238_141 rfl hc46 ?_
                    have h := h _ rfl
                    refine g_lstore (pc' := 144) (l' := [some (.ref a0), some (.int i1), some (.int i2), some (.int i3), some (.long (((i1.toInt64) * (i1.toInt64)))), none, some (.long ((lrem (r33 * (1 : Int64)) (((i1.toInt64) * (i1.toInt64)))))), none, some (.long ((lrem (r42 * (((((i1.toInt64) * (i1.toInt64))) + (1 : Int64)) - (i1.toInt64))) (((i1.toInt64) * (i1.toInt64)))))), none]) d_238_142 rfl ml_238 rfl rfl ?_
                    refine g_lload (pc' := 146) d_238_144 rfl rfl ?_
                    refine g_lload (pc' := 148) d_238_146 rfl rfl ?_
                    refine g_lsub (pc' := 149) d_238_148 rfl ?_
                    refine g_lload (pc' := 151) d_238_149 rfl rfl ?_
                    refine g_ladd (pc' := 152) d_238_151 rfl ?_
                    refine g_lload (pc' := 154) d_238_152 rfl rfl ?_
                    obtain ⟨hc48, h⟩ := h
                    refine g_lrem (pc' := 155) d_238_154 rfl hc48 ?_
                    refine g_l2i (pc' := 156) d_238_155 rfl ?_
                    exact g_iret d_238_156 rt_238 h
                · replace h := h.2 c
                  refine g_lload (pc' := 98) d_238_96 rfl rfl ?_
                  refine g_lconst (pc' := 99) d_238_98 rfl cl_1 ?_
                  refine g_ladd (pc' := 100) d_238_99 rfl ?_
                  refine g_iloadn (pc' := 101) d_238_100 rfl rfl ?_
                  refine g_i2l (pc' := 102) d_238_101 rfl ?_
                  refine g_lsub (pc' := 103) d_238_102 rfl ?_
                  refine g_goto (pt := 107) d_238_103 (by decide) ?_
                  refine g_lmul (pc' := 108) d_238_107 rfl ?_
                  refine g_lload (pc' := 110) d_238_108 rfl rfl ?_
                  obtain ⟨hc49, h⟩ := h
                  refine g_lrem (pc' := 111) d_238_110 rfl hc49 ?_
                  have h := h _ rfl
                  refine g_lstore (pc' := 113) (l' := [some (.ref a0), some (.int i1), some (.int i2), some (.int i3), some (.long (((i1.toInt64) * (i1.toInt64)))), none, some (.long ((lrem (r33 * (((((i1.toInt64) * (i1.toInt64))) + (1 : Int64)) - (i1.toInt64))) (((i1.toInt64) * (i1.toInt64)))))), none, none, none]) d_238_111 rfl ml_238 rfl rfl ?_
                  refine g_aloadn (pc' := 114) d_238_113 rfl rfl ?_
                  obtain ⟨fs51, hw52, h⟩ := h
                  obtain ⟨b53, hv54, h⟩ := h
                  refine g_getf (pc' := 117) d_238_114 rfl st_238_13 hw52 hv54 ?_
                  refine g_iloadn (pc' := 118) d_238_117 rfl rfl ?_
                  refine g_iloadn (pc' := 119) d_238_118 rfl rfl ?_
                  obtain ⟨r57, w55, hk56, h⟩ := h
                  refine g_callS (pc' := 122) d_238_119 rfl st_238_212 (Or.inl rfl) na_239 ml_239 rfl rfl rfl rm_238_239 rfl rfl hk56 ?_
                  refine g_iloadn (pc' := 123) d_238_122 rfl rfl ?_
                  refine g_iconst (pc' := 124) d_238_123 rfl ci_2 ?_
                  refine g_ic_ne (pc' := 127) (pt := 137) d_238_124 (by decide) rfl (fun c => ?_) (fun c => ?_)
                  · replace h := h.1 c
                    refine g_lconst (pc' := 138) d_238_137 rfl cl_1 ?_
                    refine g_lmul (pc' := 139) d_238_138 rfl ?_
                    refine g_lload (pc' := 141) d_238_139 rfl rfl ?_
                    obtain ⟨hc58, h⟩ := h
                    refine g_lrem (pc' := 142) d_238_141 rfl hc58 ?_
                    have h := h _ rfl
                    refine g_lstore (pc' := 144) (l' := [some (.ref a0), some (.int i1), some (.int i2), some (.int i3), some (.long (((i1.toInt64) * (i1.toInt64)))), none, some (.long ((lrem (r33 * (((((i1.toInt64) * (i1.toInt64))) + (1 : Int64)) - (i1.toInt64))) (((i1.toInt64) * (i1.toInt64)))))), none, some (.long ((lrem (r57 * (1 : Int64)) (((i1.toInt64) * (i1.toInt64)))))), none]) d_238_142 rfl ml_238 rfl rfl ?_
                    refine g_lload (pc' := 146) d_238_144 rfl rfl ?_
                    refine g_lload (pc' := 148) d_238_146 rfl rfl ?_
                    refine g_lsub (pc' := 149) d_238_148 rfl ?_
                    refine g_lload (pc' := 151) d_238_149 rfl rfl ?_
                    refine g_ladd (pc' := 152) d_238_151 rfl ?_
                    refine g_lload (pc' := 154) d_238_152 rfl rfl ?_
                    obtain ⟨hc60, h⟩ := h
                    refine g_lrem (pc' := 155) d_238_154 rfl hc60 ?_
                    refine g_l2i (pc' := 156) d_238_155 rfl ?_
                    exact g_iret d_238_156 rt_238 h
                  · replace h := h.2 c
                    refine g_lload (pc' := 129) d_238_127 rfl rfl ?_
                    refine g_lconst (pc' := 130) d_238_129 rfl cl_1 ?_
                    refine g_ladd (pc' := 131) d_238_130 rfl ?_
                    refine g_iloadn (pc' := 132) d_238_131 rfl rfl ?_
                    refine g_i2l (pc' := 133) d_238_132 rfl ?_
                    refine g_lsub (pc' := 134) d_238_133 rfl ?_
                    refine g_goto (pt := 138) d_238_134 (by decide) ?_
                    refine g_lmul (pc' := 139) d_238_138 rfl ?_
                    refine g_lload (pc' := 141) d_238_139 rfl rfl ?_
                    obtain ⟨hc61, h⟩ := h
                    refine g_lrem (pc' := 142) d_238_141 rfl hc61 ?_
                    have h := h _ rfl
                    refine g_lstore (pc' := 144) (l' := [some (.ref a0), some (.int i1), some (.int i2), some (.int i3), some (.long (((i1.toInt64) * (i1.toInt64)))), none, some (.long ((lrem (r33 * (((((i1.toInt64) * (i1.toInt64))) + (1 : Int64)) - (i1.toInt64))) (((i1.toInt64) * (i1.toInt64)))))), none, some (.long ((lrem (r57 * (((((i1.toInt64) * (i1.toInt64))) + (1 : Int64)) - (i1.toInt64))) (((i1.toInt64) * (i1.toInt64)))))), none]) d_238_142 rfl ml_238 rfl rfl ?_
                    refine g_lload (pc' := 146) d_238_144 rfl rfl ?_
                    refine g_lload (pc' := 148) d_238_146 rfl rfl ?_
                    refine g_lsub (pc' := 149) d_238_148 rfl ?_
                    refine g_lload (pc' := 151) d_238_149 rfl rfl ?_
                    refine g_ladd (pc' := 152) d_238_151 rfl ?_
                    refine g_lload (pc' := 154) d_238_152 rfl rfl ?_
                    obtain ⟨hc63, h⟩ := h
                    refine g_lrem (pc' := 155) d_238_154 rfl hc63 ?_
                    refine g_l2i (pc' := 156) d_238_155 rfl ?_
                    exact g_iret d_238_156 rt_238 h
              · replace h := h.2 c
                refine g_bipush (pc' := 74) d_238_72 rfl cb_m3 ?_
                exact g_iret d_238_74 rt_238 h
          · replace h := h.2 c
            refine g_bipush (pc' := 49) d_238_47 rfl cb_m2 ?_
            exact g_iret d_238_49 rt_238 h
      · replace h := h.2 c
        refine g_iconst (pc' := 30) d_238_29 rfl ci_m1 ?_
        exact g_iret d_238_30 rt_238 h
