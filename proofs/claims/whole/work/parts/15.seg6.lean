/-! segments of methods, laid by wip/whole/wp.py -/
-- 273 BernoulliWaysModel.puts(IJJ)V
theorem S_273_0 {a0 : Nat} {i1 : Int32} {l2 : Int64} {l4 : Int64} {w : xW} {r : Option Value × xW} (h : ∃ r3 w1, xCall 195 [.long l2, .long l4] w (some (.long r3), w1) ∧ ∃ fs4, w1[a0]? = some (.inr (12, fs4)) ∧ ∃ b6, fs4[21]? = some (.ref b6) ∧ (¬ r3 = 0) ∧ ∃ n9 f10, w1[b6]? = some (.inl (.inr (n9, f10))) ∧ ∀ v12 : Int64, v12 = (l2 / r3) → (¬ (i1 < 0 ∨ n9 ≤ i1.toNatClampNeg)) ∧ ∀ w14, w14 = w1.set b6 (.inl (.inr (n9, (vp_updL f10 i1.toNatClampNeg v12)))) → ∃ fs15, w14[a0]? = some (.inr (12, fs15)) ∧ ∃ b17, fs15[22]? = some (.ref b17) ∧ (¬ r3 = 0) ∧ ∃ n20 f21, w14[b17]? = some (.inl (.inr (n20, f21))) ∧ ∀ v23 : Int64, v23 = (l4 / r3) → (¬ (i1 < 0 ∨ n20 ≤ i1.toNatClampNeg)) ∧ ∀ w25, w25 = w14.set b17 (.inl (.inr (n20, (vp_updL f21 i1.toNatClampNeg v23)))) → r = (none, w25)) : xGo 273 0 [some (.ref a0), some (.int i1), some (.long l2), none, some (.long l4), none, none, none] [] w r := by
  refine g_lloadn (pc' := 1) d_273_0 rfl rfl ?_
  refine g_lload (pc' := 3) d_273_1 rfl rfl ?_
  obtain ⟨r3, w1, hk2, h⟩ := h
  refine g_callS (pc' := 6) d_273_3 rfl st_273_121 (Or.inl rfl) na_195 ml_195 rfl rfl rfl rm_273_195 rfl rfl hk2 ?_
  refine g_lstore (pc' := 8) (l' := [some (.ref a0), some (.int i1), some (.long l2), none, some (.long l4), none, some (.long r3), none]) d_273_6 rfl ml_273 rfl rfl ?_
  refine g_aloadn (pc' := 9) d_273_8 rfl rfl ?_
  obtain ⟨fs4, hw5, h⟩ := h
  obtain ⟨b6, hv7, h⟩ := h
  refine g_getf (pc' := 12) d_273_9 rfl st_273_57 hw5 hv7 ?_
  refine g_iloadn (pc' := 13) d_273_12 rfl rfl ?_
  refine g_lloadn (pc' := 14) d_273_13 rfl rfl ?_
  refine g_lload (pc' := 16) d_273_14 rfl rfl ?_
  obtain ⟨hc8, h⟩ := h
  refine g_ldiv (pc' := 17) d_273_16 rfl hc8 ?_
  obtain ⟨n9, f10, hw11, h⟩ := h
  have h := h _ rfl
  obtain ⟨hc13, h⟩ := h
  have h := h _ rfl
  refine g_last (pc' := 18) d_273_17 rfl hw11 hc13 ?_
  refine g_aloadn (pc' := 19) d_273_18 rfl rfl ?_
  obtain ⟨fs15, hw16, h⟩ := h
  obtain ⟨b17, hv18, h⟩ := h
  refine g_getf (pc' := 22) d_273_19 rfl st_273_60 hw16 hv18 ?_
  refine g_iloadn (pc' := 23) d_273_22 rfl rfl ?_
  refine g_lload (pc' := 25) d_273_23 rfl rfl ?_
  refine g_lload (pc' := 27) d_273_25 rfl rfl ?_
  obtain ⟨hc19, h⟩ := h
  refine g_ldiv (pc' := 28) d_273_27 rfl hc19 ?_
  obtain ⟨n20, f21, hw22, h⟩ := h
  have h := h _ rfl
  obtain ⟨hc24, h⟩ := h
  have h := h _ rfl
  refine g_last (pc' := 29) d_273_28 rfl hw22 hc24 ?_
  exact g_vret d_273_29 rt_273 h
-- 274 BernoulliWaysModel.sum(II)I
theorem S_274_0 {a0 : Nat} {i1 : Int32} {i2 : Int32} {w : xW} {r : Option Value × xW} (h : ∃ fs1, w[a0]? = some (.inr (12, fs1)) ∧ (0 < fs1.length) ∧ ∀ w4, w4 = w.set a0 (.inr (12, fs1.set 0 (.int (0 : Int32)))) → ∃ r7 w5, xCall 199 [.int i1, .int (0 : Int32), .int (24 : Int32)] w4 (some (.int r7), w5) ∧ (r7 = 0 → r = (some (.int (-1 : Int32)), w5)) ∧ (¬ (r7 = 0) → ∃ r10 w8, xCall 199 [.int i2, .int (0 : Int32), .int (1000000000 : Int32)] w5 (some (.int r10), w8) ∧ (¬ r10 = 0 → ∃ fs11, w8[a0]? = some (.inr (12, fs11)) ∧ ∃ x13, fs11[4]? = some (.int x13) ∧ (i1 ≤ x13 → ∃ r17 w15, xCall 275 [.ref a0, .int i1, .int i2] w8 (some (.long r17), w15) ∧ r = (some (.int (r17.toInt32)), w15)) ∧ (¬ (i1 ≤ x13) → r = (some (.int (-2 : Int32)), w8))) ∧ (¬ (¬ r10 = 0) → r = (some (.int (-1 : Int32)), w8)))) : xGo 274 0 [some (.ref a0), some (.int i1), some (.int i2)] [] w r := by
  refine g_aloadn (pc' := 1) d_274_0 rfl rfl ?_
  refine g_iconst (pc' := 2) d_274_1 rfl ci_0 ?_
  obtain ⟨fs1, hw2, h⟩ := h
  obtain ⟨hc3, h⟩ := h
  have h := h _ rfl
  refine g_putf (pc' := 5) d_274_2 rfl st_274_118 ft_12_0 ff_12_0 rfl (Or.inl rfl) hw2 hc3 ?_
  refine g_iloadn (pc' := 6) d_274_5 rfl rfl ?_
  refine g_iconst (pc' := 7) d_274_6 rfl ci_0 ?_
  refine g_bipush (pc' := 9) d_274_7 rfl cb_24 ?_
  obtain ⟨r7, w5, hk6, h⟩ := h
  refine g_callS (pc' := 12) d_274_9 rfl st_274_137 (Or.inl rfl) na_199 ml_199 rfl rfl rfl rm_274_199 rfl rfl hk6 ?_
  refine g_if_eq (pc' := 15) (pt := 26) d_274_12 (by decide) rfl (fun c => ?_) (fun c => ?_)
  · replace h := h.1 c
    refine g_iconst (pc' := 27) d_274_26 rfl ci_m1 ?_
    exact g_iret d_274_27 rt_274 h
  · replace h := h.2 c
    refine g_iloadn (pc' := 16) d_274_15 rfl rfl ?_
    refine g_iconst (pc' := 17) d_274_16 rfl ci_0 ?_
    refine g_ldcw (pc' := 20) d_274_17 rfl st_274_310 ci_1000000000 ?_
    obtain ⟨r10, w8, hk9, h⟩ := h
    refine g_callS (pc' := 23) d_274_20 rfl st_274_137 (Or.inl rfl) na_199 ml_199 rfl rfl rfl rm_274_199 rfl rfl hk9 ?_
    refine g_if_ne (pc' := 26) (pt := 28) d_274_23 (by decide) rfl (fun c => ?_) (fun c => ?_)
    · replace h := h.1 c
      refine g_iloadn (pc' := 29) d_274_28 rfl rfl ?_
      refine g_aloadn (pc' := 30) d_274_29 rfl rfl ?_
      obtain ⟨fs11, hw12, h⟩ := h
      obtain ⟨x13, hv14, h⟩ := h
      refine g_getf (pc' := 33) d_274_30 rfl st_274_20 hw12 hv14 ?_
      refine g_ic_le (pc' := 36) (pt := 39) d_274_33 (by decide) rfl (fun c => ?_) (fun c => ?_)
      · replace h := h.1 c
        refine g_aloadn (pc' := 40) d_274_39 rfl rfl ?_
        refine g_iloadn (pc' := 41) d_274_40 rfl rfl ?_
        refine g_iloadn (pc' := 42) d_274_41 rfl rfl ?_
        obtain ⟨r17, w15, hk16, h⟩ := h
        refine g_callV (pc' := 45) d_274_42 rfl st_274_311 na_275 ml_275 rfl rfl rfl rm_274_275 rfl rfl ow_275 hw12 hk16 ?_
        refine g_l2i (pc' := 46) d_274_45 rfl ?_
        exact g_iret d_274_46 rt_274 h
      · replace h := h.2 c
        refine g_bipush (pc' := 38) d_274_36 rfl cb_m2 ?_
        exact g_iret d_274_38 rt_274 h
    · replace h := h.2 c
      refine g_iconst (pc' := 27) d_274_26 rfl ci_m1 ?_
      exact g_iret d_274_27 rt_274 h
-- 275 BernoulliWaysModel.sumAt(II)J
theorem S_275_0 {a0 : Nat} {i1 : Int32} {i2 : Int32} {w : xW} {r : Option Value × xW} (h : ∃ fs1, w[a0]? = some (.inr (12, fs1)) ∧ ∃ w3, xCall 272 [.ref a0, .int i1] w (none, w3) ∧ ∀ v5 : Int32, v5 = (i1 + (1 : Int32)) → xGo 275 12 [some (.ref a0), some (.int i1), some (.int i2), some (.long (0 : Int64)), none, some (.int v5)] [] w3 r) : xGo 275 0 [some (.ref a0), some (.int i1), some (.int i2), none, none, none] [] w r := by
  refine g_aloadn (pc' := 1) d_275_0 rfl rfl ?_
  refine g_iloadn (pc' := 2) d_275_1 rfl rfl ?_
  obtain ⟨fs1, hw2, h⟩ := h
  obtain ⟨w3, hk4, h⟩ := h
  refine g_callV (pc' := 5) d_275_2 rfl st_275_299 na_272 ml_272 rfl rfl rfl rm_275_272 rfl rfl ow_272 hw2 hk4 ?_
  refine g_lconst (pc' := 6) d_275_5 rfl cl_0 ?_
  refine g_lstoren (pc' := 7) (l' := [some (.ref a0), some (.int i1), some (.int i2), some (.long (0 : Int64)), none, none]) d_275_6 rfl ml_275 rfl rfl ?_
  refine g_iloadn (pc' := 8) d_275_7 rfl rfl ?_
  refine g_iconst (pc' := 9) d_275_8 rfl ci_1 ?_
  refine g_iadd (pc' := 10) d_275_9 rfl ?_
  have h := h _ rfl
  refine g_istore (pc' := 12) (l' := [some (.ref a0), some (.int i1), some (.int i2), some (.long (0 : Int64)), none, some (.int ((i1 + (1 : Int32))))]) d_275_10 rfl ml_275 rfl rfl ?_
  exact h
theorem S_275_12 {a0 : Nat} {i1 : Int32} {i2 : Int32} {l3 : Int64} {i5 : Int32} {w : xW} {r : Option Value × xW} (h : (i5 < 0 → r = (some (.long l3), w)) ∧ (¬ (i5 < 0) → ∃ fs1, w[a0]? = some (.inr (12, fs1)) ∧ ∃ b3, fs1[21]? = some (.ref b3) ∧ ∃ n5 f6, w[b3]? = some (.inl (.inr (n5, f6))) ∧ (¬ (i5 < 0 ∨ n5 ≤ i5.toNatClampNeg)) ∧ ∃ r11 w9, xCall 276 [.long (f6 i5.toNatClampNeg)] w (some (.long r11), w9) ∧ ∃ fs12, w9[a0]? = some (.inr (12, fs12)) ∧ ∃ b14, fs12[22]? = some (.ref b14) ∧ ∃ n16 f17, w9[b14]? = some (.inl (.inr (n16, f17))) ∧ (¬ (i5 < 0 ∨ n16 ≤ i5.toNatClampNeg)) ∧ ∃ r22 w20, xCall 277 [.long (f17 i5.toNatClampNeg)] w9 (some (.long r22), w20) ∧ ∀ v23 : Int64, v23 = (lrem ((l3 * (i2.toInt64)) + (r11 * r22)) (1000000007 : Int64)) → ∀ v24 : Int32, v24 = i5 + (-1 : Int32) → xGo 275 12 [some (.ref a0), some (.int i1), some (.int i2), some (.long v23), none, some (.int v24)] [] w20 r)) : xGo 275 12 [some (.ref a0), some (.int i1), some (.int i2), some (.long l3), none, some (.int i5)] [] w r := by
  refine g_iload (pc' := 14) d_275_12 rfl rfl ?_
  refine g_if_lt (pc' := 17) (pt := 54) d_275_14 (by decide) rfl (fun c => ?_) (fun c => ?_)
  · replace h := h.1 c
    refine g_lloadn (pc' := 55) d_275_54 rfl rfl ?_
    exact g_lret d_275_55 rt_275 h
  · replace h := h.2 c
    refine g_lloadn (pc' := 18) d_275_17 rfl rfl ?_
    refine g_iloadn (pc' := 19) d_275_18 rfl rfl ?_
    refine g_i2l (pc' := 20) d_275_19 rfl ?_
    refine g_lmul (pc' := 21) d_275_20 rfl ?_
    refine g_aloadn (pc' := 22) d_275_21 rfl rfl ?_
    obtain ⟨fs1, hw2, h⟩ := h
    obtain ⟨b3, hv4, h⟩ := h
    refine g_getf (pc' := 25) d_275_22 rfl st_275_57 hw2 hv4 ?_
    refine g_iload (pc' := 27) d_275_25 rfl rfl ?_
    obtain ⟨n5, f6, hw7, h⟩ := h
    obtain ⟨hc8, h⟩ := h
    refine g_lald (pc' := 28) d_275_27 rfl hw7 hc8 ?_
    obtain ⟨r11, w9, hk10, h⟩ := h
    refine g_callS (pc' := 31) d_275_28 rfl st_275_304 (Or.inl rfl) na_276 ml_276 rfl rfl rfl rm_275_276 rfl rfl hk10 ?_
    refine g_aloadn (pc' := 32) d_275_31 rfl rfl ?_
    obtain ⟨fs12, hw13, h⟩ := h
    obtain ⟨b14, hv15, h⟩ := h
    refine g_getf (pc' := 35) d_275_32 rfl st_275_60 hw13 hv15 ?_
    refine g_iload (pc' := 37) d_275_35 rfl rfl ?_
    obtain ⟨n16, f17, hw18, h⟩ := h
    obtain ⟨hc19, h⟩ := h
    refine g_lald (pc' := 38) d_275_37 rfl hw18 hc19 ?_
    obtain ⟨r22, w20, hk21, h⟩ := h
    refine g_callS (pc' := 41) d_275_38 rfl st_275_315 (Or.inl rfl) na_277 ml_277 rfl rfl rfl rm_275_277 rfl rfl hk21 ?_
    refine g_lmul (pc' := 42) d_275_41 rfl ?_
    refine g_ladd (pc' := 43) d_275_42 rfl ?_
    refine g_ldc2 (pc' := 46) d_275_43 rfl st_275_302 cL_1000000007 ?_
    refine g_lrem (pc' := 47) d_275_46 rfl (by decide) ?_
    have h := h _ rfl
    refine g_lstoren (pc' := 48) (l' := [some (.ref a0), some (.int i1), some (.int i2), some (.long ((lrem ((l3 * (i2.toInt64)) + (r11 * r22)) (1000000007 : Int64)))), none, some (.int i5)]) d_275_47 rfl ml_275 rfl rfl ?_
    have h := h _ rfl
    refine g_iinc (pc' := 51) (l' := [some (.ref a0), some (.int i1), some (.int i2), some (.long ((lrem ((l3 * (i2.toInt64)) + (r11 * r22)) (1000000007 : Int64)))), none, some (.int (i5 + (-1 : Int32)))]) d_275_48 rfl rfl ci_m1 ml_275 rfl rfl ?_
    refine g_goto (pt := 12) d_275_51 (by decide) ?_
    exact h
-- 276 BernoulliWaysModel.bigRest(J)J
theorem S_276_0 {l0 : Int64} {w : xW} {r : Option Value × xW} (h : ∀ v1 : Int64, v1 = (lrem l0 (1000000007 : Int64)) → ((0 : Int64) ≤ v1 → r = (some (.long v1), w)) ∧ (¬ ((0 : Int64) ≤ v1) → r = (some (.long (v1 + (1000000007 : Int64))), w))) : xGo 276 0 [some (.long l0), none, none, none] [] w r := by
  refine g_lloadn (pc' := 1) d_276_0 rfl rfl ?_
  refine g_ldc2 (pc' := 4) d_276_1 rfl st_276_302 cL_1000000007 ?_
  refine g_lrem (pc' := 5) d_276_4 rfl (by decide) ?_
  have h := h _ rfl
  refine g_lstoren (pc' := 6) (l' := [some (.long l0), none, some (.long ((lrem l0 (1000000007 : Int64)))), none]) d_276_5 rfl ml_276 rfl rfl ?_
  refine g_lloadn (pc' := 7) d_276_6 rfl rfl ?_
  refine g_lconst (pc' := 8) d_276_7 rfl cl_0 ?_
  refine g_lc_ge (pc' := 12) (pm := 9) (pt := 20) d_276_8 rfl d_276_9 (by decide) rfl (fun c => ?_) (fun c => ?_)
  · replace h := h.1 c
    refine g_lloadn (pc' := 21) d_276_20 rfl rfl ?_
    exact g_lret d_276_21 rt_276 h
  · replace h := h.2 c
    refine g_lloadn (pc' := 13) d_276_12 rfl rfl ?_
    refine g_ldc2 (pc' := 16) d_276_13 rfl st_276_302 cL_1000000007 ?_
    refine g_ladd (pc' := 17) d_276_16 rfl ?_
    refine g_goto (pt := 21) d_276_17 (by decide) ?_
    exact g_lret d_276_21 rt_276 h
-- 277 BernoulliWaysModel.inverse(J)J
theorem S_277_0 {l0 : Int64} {w : xW} {r : Option Value × xW} (h : ∃ r3 w1, xCall 276 [.long l0] w (some (.long r3), w1) ∧ xGo 277 13 [some (.long l0), none, some (.long (1 : Int64)), none, some (.long r3), none, some (.long (1000000005 : Int64)), none] [] w1 r) : xGo 277 0 [some (.long l0), none, none, none, none, none, none, none] [] w r := by
  refine g_lconst (pc' := 1) d_277_0 rfl cl_1 ?_
  refine g_lstoren (pc' := 2) (l' := [some (.long l0), none, some (.long (1 : Int64)), none, none, none, none, none]) d_277_1 rfl ml_277 rfl rfl ?_
  refine g_lloadn (pc' := 3) d_277_2 rfl rfl ?_
  obtain ⟨r3, w1, hk2, h⟩ := h
  refine g_callS (pc' := 6) d_277_3 rfl st_277_304 (Or.inl rfl) na_276 ml_276 rfl rfl rfl rm_277_276 rfl rfl hk2 ?_
  refine g_lstore (pc' := 8) (l' := [some (.long l0), none, some (.long (1 : Int64)), none, some (.long r3), none, none, none]) d_277_6 rfl ml_277 rfl rfl ?_
  refine g_ldc2 (pc' := 11) d_277_8 rfl st_277_308 cL_1000000005 ?_
  refine g_lstore (pc' := 13) (l' := [some (.long l0), none, some (.long (1 : Int64)), none, some (.long r3), none, some (.long (1000000005 : Int64)), none]) d_277_11 rfl ml_277 rfl rfl ?_
  exact h
theorem S_277_13 {l0 : Int64} {l2 : Int64} {l4 : Int64} {l6 : Int64} {w : xW} {r : Option Value × xW} (h : (l6 ≤ (0 : Int64) → r = (some (.long l2), w)) ∧ (¬ (l6 ≤ (0 : Int64)) → (¬ (lrem l6 (2 : Int64)) = (1 : Int64) → ∀ v1 : Int64, v1 = (lrem (l4 * l4) (1000000007 : Int64)) → ∀ v2 : Int64, v2 = (l6 / (2 : Int64)) → xGo 277 13 [some (.long l0), none, some (.long l2), none, some (.long v1), none, some (.long v2), none] [] w r) ∧ (¬ (¬ (lrem l6 (2 : Int64)) = (1 : Int64)) → ∀ v3 : Int64, v3 = (lrem (l2 * l4) (1000000007 : Int64)) → ∀ v4 : Int64, v4 = (lrem (l4 * l4) (1000000007 : Int64)) → ∀ v5 : Int64, v5 = (l6 / (2 : Int64)) → xGo 277 13 [some (.long l0), none, some (.long v3), none, some (.long v4), none, some (.long v5), none] [] w r))) : xGo 277 13 [some (.long l0), none, some (.long l2), none, some (.long l4), none, some (.long l6), none] [] w r := by
  refine g_lload (pc' := 15) d_277_13 rfl rfl ?_
  refine g_lconst (pc' := 16) d_277_15 rfl cl_0 ?_
  refine g_lc_le (pc' := 20) (pm := 17) (pt := 62) d_277_16 rfl d_277_17 (by decide) rfl (fun c => ?_) (fun c => ?_)
  · replace h := h.1 c
    refine g_lloadn (pc' := 63) d_277_62 rfl rfl ?_
    exact g_lret d_277_63 rt_277 h
  · replace h := h.2 c
    refine g_lload (pc' := 22) d_277_20 rfl rfl ?_
    refine g_ldc2 (pc' := 25) d_277_22 rfl st_277_216 cL_2 ?_
    refine g_lrem (pc' := 26) d_277_25 rfl (by decide) ?_
    refine g_lconst (pc' := 27) d_277_26 rfl cl_1 ?_
    refine g_lc_ne (pc' := 31) (pm := 28) (pt := 40) d_277_27 rfl d_277_28 (by decide) rfl (fun c => ?_) (fun c => ?_)
    · replace h := h.1 c
      refine g_lload (pc' := 42) d_277_40 rfl rfl ?_
      refine g_lload (pc' := 44) d_277_42 rfl rfl ?_
      refine g_lmul (pc' := 45) d_277_44 rfl ?_
      refine g_ldc2 (pc' := 48) d_277_45 rfl st_277_302 cL_1000000007 ?_
      refine g_lrem (pc' := 49) d_277_48 rfl (by decide) ?_
      have h := h _ rfl
      refine g_lstore (pc' := 51) (l' := [some (.long l0), none, some (.long l2), none, some (.long ((lrem (l4 * l4) (1000000007 : Int64)))), none, some (.long l6), none]) d_277_49 rfl ml_277 rfl rfl ?_
      refine g_lload (pc' := 53) d_277_51 rfl rfl ?_
      refine g_ldc2 (pc' := 56) d_277_53 rfl st_277_216 cL_2 ?_
      refine g_ldiv (pc' := 57) d_277_56 rfl (by decide) ?_
      have h := h _ rfl
      refine g_lstore (pc' := 59) (l' := [some (.long l0), none, some (.long l2), none, some (.long ((lrem (l4 * l4) (1000000007 : Int64)))), none, some (.long ((l6 / (2 : Int64)))), none]) d_277_57 rfl ml_277 rfl rfl ?_
      refine g_goto (pt := 13) d_277_59 (by decide) ?_
      exact h
    · replace h := h.2 c
      refine g_lloadn (pc' := 32) d_277_31 rfl rfl ?_
      refine g_lload (pc' := 34) d_277_32 rfl rfl ?_
      refine g_lmul (pc' := 35) d_277_34 rfl ?_
      refine g_ldc2 (pc' := 38) d_277_35 rfl st_277_302 cL_1000000007 ?_
      refine g_lrem (pc' := 39) d_277_38 rfl (by decide) ?_
      have h := h _ rfl
      refine g_lstoren (pc' := 40) (l' := [some (.long l0), none, some (.long ((lrem (l2 * l4) (1000000007 : Int64)))), none, some (.long l4), none, some (.long l6), none]) d_277_39 rfl ml_277 rfl rfl ?_
      refine g_lload (pc' := 42) d_277_40 rfl rfl ?_
      refine g_lload (pc' := 44) d_277_42 rfl rfl ?_
      refine g_lmul (pc' := 45) d_277_44 rfl ?_
      refine g_ldc2 (pc' := 48) d_277_45 rfl st_277_302 cL_1000000007 ?_
      refine g_lrem (pc' := 49) d_277_48 rfl (by decide) ?_
      have h := h _ rfl
      refine g_lstore (pc' := 51) (l' := [some (.long l0), none, some (.long ((lrem (l2 * l4) (1000000007 : Int64)))), none, some (.long ((lrem (l4 * l4) (1000000007 : Int64)))), none, some (.long l6), none]) d_277_49 rfl ml_277 rfl rfl ?_
      refine g_lload (pc' := 53) d_277_51 rfl rfl ?_
      refine g_ldc2 (pc' := 56) d_277_53 rfl st_277_216 cL_2 ?_
      refine g_ldiv (pc' := 57) d_277_56 rfl (by decide) ?_
      have h := h _ rfl
      refine g_lstore (pc' := 59) (l' := [some (.long l0), none, some (.long ((lrem (l2 * l4) (1000000007 : Int64)))), none, some (.long ((lrem (l4 * l4) (1000000007 : Int64)))), none, some (.long ((l6 / (2 : Int64)))), none]) d_277_57 rfl ml_277 rfl rfl ?_
      refine g_goto (pt := 13) d_277_59 (by decide) ?_
      exact h
-- 278 BernoulliWaysModel.progression(IIII)I
theorem S_278_0 {a0 : Nat} {i1 : Int32} {i2 : Int32} {i3 : Int32} {i4 : Int32} {w : xW} {r : Option Value × xW} (h : ∃ fs1, w[a0]? = some (.inr (12, fs1)) ∧ (0 < fs1.length) ∧ ∀ w4, w4 = w.set a0 (.inr (12, fs1.set 0 (.int (0 : Int32)))) → ∃ r7 w5, xCall 199 [.int i1, .int (0 : Int32), .int (24 : Int32)] w4 (some (.int r7), w5) ∧ (r7 = 0 → r = (some (.int (-1 : Int32)), w5)) ∧ (¬ (r7 = 0) → ∃ r10 w8, xCall 199 [.int i2, .int (0 : Int32), .int (1000 : Int32)] w5 (some (.int r10), w8) ∧ (r10 = 0 → r = (some (.int (-1 : Int32)), w8)) ∧ (¬ (r10 = 0) → ∃ r13 w11, xCall 199 [.int i3, .int (1 : Int32), .int (1000 : Int32)] w8 (some (.int r13), w11) ∧ (r13 = 0 → r = (some (.int (-1 : Int32)), w11)) ∧ (¬ (r13 = 0) → ∃ r16 w14, xCall 199 [.int i4, .int (0 : Int32), .int (1000000000 : Int32)] w11 (some (.int r16), w14) ∧ (¬ r16 = 0 → ∃ fs17, w14[a0]? = some (.inr (12, fs17)) ∧ ∃ x19, fs17[4]? = some (.int x19) ∧ (i1 ≤ x19 → (¬ i4 = 0 → ∃ r23 w21, xCall 240 [.long (i2.toInt64), .int i1, .long (1000000007 : Int64)] w14 (some (.long r23), w21) ∧ ∀ v24 : Int64, v24 = (lrem (r23 * (i4.toInt64)) (1000000007 : Int64)) → xGo 278 91 [some (.ref a0), some (.int i1), some (.int i2), some (.int i3), some (.int i4), some (.long v24), none, some (.int (1 : Int32))] [] w21 r) ∧ (¬ (¬ i4 = 0) → r = (some (.int (0 : Int32)), w14))) ∧ (¬ (i1 ≤ x19) → r = (some (.int (-2 : Int32)), w14))) ∧ (¬ (¬ r16 = 0) → r = (some (.int (-1 : Int32)), w14)))))) : xGo 278 0 [some (.ref a0), some (.int i1), some (.int i2), some (.int i3), some (.int i4), none, none, none] [] w r := by
  refine g_aloadn (pc' := 1) d_278_0 rfl rfl ?_
  refine g_iconst (pc' := 2) d_278_1 rfl ci_0 ?_
  obtain ⟨fs1, hw2, h⟩ := h
  obtain ⟨hc3, h⟩ := h
  have h := h _ rfl
  refine g_putf (pc' := 5) d_278_2 rfl st_278_118 ft_12_0 ff_12_0 rfl (Or.inl rfl) hw2 hc3 ?_
  refine g_iloadn (pc' := 6) d_278_5 rfl rfl ?_
  refine g_iconst (pc' := 7) d_278_6 rfl ci_0 ?_
  refine g_bipush (pc' := 9) d_278_7 rfl cb_24 ?_
  obtain ⟨r7, w5, hk6, h⟩ := h
  refine g_callS (pc' := 12) d_278_9 rfl st_278_137 (Or.inl rfl) na_199 ml_199 rfl rfl rfl rm_278_199 rfl rfl hk6 ?_
  refine g_if_eq (pc' := 15) (pt := 49) d_278_12 (by decide) rfl (fun c => ?_) (fun c => ?_)
  · replace h := h.1 c
    refine g_iconst (pc' := 50) d_278_49 rfl ci_m1 ?_
    exact g_iret d_278_50 rt_278 h
  · replace h := h.2 c
    refine g_iloadn (pc' := 16) d_278_15 rfl rfl ?_
    refine g_iconst (pc' := 17) d_278_16 rfl ci_0 ?_
    refine g_sipush (pc' := 20) d_278_17 rfl cs_1000 ?_
    obtain ⟨r10, w8, hk9, h⟩ := h
    refine g_callS (pc' := 23) d_278_20 rfl st_278_137 (Or.inl rfl) na_199 ml_199 rfl rfl rfl rm_278_199 rfl rfl hk9 ?_
    refine g_if_eq (pc' := 26) (pt := 49) d_278_23 (by decide) rfl (fun c => ?_) (fun c => ?_)
    · replace h := h.1 c
      refine g_iconst (pc' := 50) d_278_49 rfl ci_m1 ?_
      exact g_iret d_278_50 rt_278 h
    · replace h := h.2 c
      refine g_iloadn (pc' := 27) d_278_26 rfl rfl ?_
      refine g_iconst (pc' := 28) d_278_27 rfl ci_1 ?_
      refine g_sipush (pc' := 31) d_278_28 rfl cs_1000 ?_
      obtain ⟨r13, w11, hk12, h⟩ := h
      refine g_callS (pc' := 34) d_278_31 rfl st_278_137 (Or.inl rfl) na_199 ml_199 rfl rfl rfl rm_278_199 rfl rfl hk12 ?_
      refine g_if_eq (pc' := 37) (pt := 49) d_278_34 (by decide) rfl (fun c => ?_) (fun c => ?_)
      · replace h := h.1 c
        refine g_iconst (pc' := 50) d_278_49 rfl ci_m1 ?_
        exact g_iret d_278_50 rt_278 h
      · replace h := h.2 c
        refine g_iload (pc' := 39) d_278_37 rfl rfl ?_
        refine g_iconst (pc' := 40) d_278_39 rfl ci_0 ?_
        refine g_ldcw (pc' := 43) d_278_40 rfl st_278_310 ci_1000000000 ?_
        obtain ⟨r16, w14, hk15, h⟩ := h
        refine g_callS (pc' := 46) d_278_43 rfl st_278_137 (Or.inl rfl) na_199 ml_199 rfl rfl rfl rm_278_199 rfl rfl hk15 ?_
        refine g_if_ne (pc' := 49) (pt := 51) d_278_46 (by decide) rfl (fun c => ?_) (fun c => ?_)
        · replace h := h.1 c
          refine g_iloadn (pc' := 52) d_278_51 rfl rfl ?_
          refine g_aloadn (pc' := 53) d_278_52 rfl rfl ?_
          obtain ⟨fs17, hw18, h⟩ := h
          obtain ⟨x19, hv20, h⟩ := h
          refine g_getf (pc' := 56) d_278_53 rfl st_278_20 hw18 hv20 ?_
          refine g_ic_le (pc' := 59) (pt := 62) d_278_56 (by decide) rfl (fun c => ?_) (fun c => ?_)
          · replace h := h.1 c
            refine g_iload (pc' := 64) d_278_62 rfl rfl ?_
            refine g_if_ne (pc' := 67) (pt := 69) d_278_64 (by decide) rfl (fun c => ?_) (fun c => ?_)
            · replace h := h.1 c
              refine g_iloadn (pc' := 70) d_278_69 rfl rfl ?_
              refine g_i2l (pc' := 71) d_278_70 rfl ?_
              refine g_iloadn (pc' := 72) d_278_71 rfl rfl ?_
              refine g_ldc2 (pc' := 75) d_278_72 rfl st_278_302 cL_1000000007 ?_
              obtain ⟨r23, w21, hk22, h⟩ := h
              refine g_callS (pc' := 78) d_278_75 rfl st_278_208 (Or.inl rfl) na_240 ml_240 rfl rfl rfl rm_278_240 rfl rfl hk22 ?_
              refine g_iload (pc' := 80) d_278_78 rfl rfl ?_
              refine g_i2l (pc' := 81) d_278_80 rfl ?_
              refine g_lmul (pc' := 82) d_278_81 rfl ?_
              refine g_ldc2 (pc' := 85) d_278_82 rfl st_278_302 cL_1000000007 ?_
              refine g_lrem (pc' := 86) d_278_85 rfl (by decide) ?_
              have h := h _ rfl
              refine g_lstore (pc' := 88) (l' := [some (.ref a0), some (.int i1), some (.int i2), some (.int i3), some (.int i4), some (.long ((lrem (r23 * (i4.toInt64)) (1000000007 : Int64)))), none, none]) d_278_86 rfl ml_278 rfl rfl ?_
              refine g_iconst (pc' := 89) d_278_88 rfl ci_1 ?_
              refine g_istore (pc' := 91) (l' := [some (.ref a0), some (.int i1), some (.int i2), some (.int i3), some (.int i4), some (.long ((lrem (r23 * (i4.toInt64)) (1000000007 : Int64)))), none, some (.int (1 : Int32))]) d_278_89 rfl ml_278 rfl rfl ?_
              exact h
            · replace h := h.2 c
              refine g_iconst (pc' := 68) d_278_67 rfl ci_0 ?_
              exact g_iret d_278_68 rt_278 h
          · replace h := h.2 c
            refine g_bipush (pc' := 61) d_278_59 rfl cb_m2 ?_
            exact g_iret d_278_61 rt_278 h
        · replace h := h.2 c
          refine g_iconst (pc' := 50) d_278_49 rfl ci_m1 ?_
          exact g_iret d_278_50 rt_278 h
theorem S_278_91 {a0 : Nat} {i1 : Int32} {i2 : Int32} {i3 : Int32} {i4 : Int32} {l5 : Int64} {i7 : Int32} {w : xW} {r : Option Value × xW} (h : (i1 < i7 → r = (some (.int (l5.toInt32)), w)) ∧ (¬ (i1 < i7) → ∃ fs1, w[a0]? = some (.inr (12, fs1)) ∧ ∃ b3, fs1[5]? = some (.ref b3) ∧ ∃ n5 f6, w[b3]? = some (.inl (.inr (n5, f6))) ∧ (¬ ((((40 : Int32) * i1) + i7) < 0 ∨ n5 ≤ (((40 : Int32) * i1) + i7).toNatClampNeg)) ∧ ∃ r11 w9, xCall 240 [.long (i2.toInt64), .int (i1 - i7), .long (1000000007 : Int64)] w (some (.long r11), w9) ∧ ∃ r14 w12, xCall 240 [.long (i3.toInt64), .int i7, .long (1000000007 : Int64)] w9 (some (.long r14), w12) ∧ ∃ fs15, w12[a0]? = some (.inr (12, fs15)) ∧ ∃ r19 w17, xCall 275 [.ref a0, .int i7, .int (i4 - (1 : Int32))] w12 (some (.long r19), w17) ∧ ∀ v20 : Int64, v20 = (lrem (l5 + ((lrem ((lrem ((f6 (((40 : Int32) * i1) + i7).toNatClampNeg) * r11) (1000000007 : Int64)) * r14) (1000000007 : Int64)) * r19)) (1000000007 : Int64)) → ∀ v21 : Int32, v21 = i7 + (1 : Int32) → xGo 278 91 [some (.ref a0), some (.int i1), some (.int i2), some (.int i3), some (.int i4), some (.long v20), none, some (.int v21)] [] w17 r)) : xGo 278 91 [some (.ref a0), some (.int i1), some (.int i2), some (.int i3), some (.int i4), some (.long l5), none, some (.int i7)] [] w r := by
  refine g_iload (pc' := 93) d_278_91 rfl rfl ?_
  refine g_iloadn (pc' := 94) d_278_93 rfl rfl ?_
  refine g_ic_gt (pc' := 97) (pt := 167) d_278_94 (by decide) rfl (fun c => ?_) (fun c => ?_)
  · replace h := h.1 c
    refine g_lload (pc' := 169) d_278_167 rfl rfl ?_
    refine g_l2i (pc' := 170) d_278_169 rfl ?_
    exact g_iret d_278_170 rt_278 h
  · replace h := h.2 c
    refine g_lload (pc' := 99) d_278_97 rfl rfl ?_
    refine g_aloadn (pc' := 100) d_278_99 rfl rfl ?_
    obtain ⟨fs1, hw2, h⟩ := h
    obtain ⟨b3, hv4, h⟩ := h
    refine g_getf (pc' := 103) d_278_100 rfl st_278_24 hw2 hv4 ?_
    refine g_bipush (pc' := 105) d_278_103 rfl cb_40 ?_
    refine g_iloadn (pc' := 106) d_278_105 rfl rfl ?_
    refine g_imul (pc' := 107) d_278_106 rfl ?_
    refine g_iload (pc' := 109) d_278_107 rfl rfl ?_
    refine g_iadd (pc' := 110) d_278_109 rfl ?_
    obtain ⟨n5, f6, hw7, h⟩ := h
    obtain ⟨hc8, h⟩ := h
    refine g_lald (pc' := 111) d_278_110 rfl hw7 hc8 ?_
    refine g_iloadn (pc' := 112) d_278_111 rfl rfl ?_
    refine g_i2l (pc' := 113) d_278_112 rfl ?_
    refine g_iloadn (pc' := 114) d_278_113 rfl rfl ?_
    refine g_iload (pc' := 116) d_278_114 rfl rfl ?_
    refine g_isub (pc' := 117) d_278_116 rfl ?_
    refine g_ldc2 (pc' := 120) d_278_117 rfl st_278_302 cL_1000000007 ?_
    obtain ⟨r11, w9, hk10, h⟩ := h
    refine g_callS (pc' := 123) d_278_120 rfl st_278_208 (Or.inl rfl) na_240 ml_240 rfl rfl rfl rm_278_240 rfl rfl hk10 ?_
    refine g_lmul (pc' := 124) d_278_123 rfl ?_
    refine g_ldc2 (pc' := 127) d_278_124 rfl st_278_302 cL_1000000007 ?_
    refine g_lrem (pc' := 128) d_278_127 rfl (by decide) ?_
    refine g_iloadn (pc' := 129) d_278_128 rfl rfl ?_
    refine g_i2l (pc' := 130) d_278_129 rfl ?_
    refine g_iload (pc' := 132) d_278_130 rfl rfl ?_
    refine g_ldc2 (pc' := 135) d_278_132 rfl st_278_302 cL_1000000007 ?_
    obtain ⟨r14, w12, hk13, h⟩ := h
    refine g_callS (pc' := 138) d_278_135 rfl st_278_208 (Or.inl rfl) na_240 ml_240 rfl rfl rfl rm_278_240 rfl rfl hk13 ?_
    refine g_lmul (pc' := 139) d_278_138 rfl ?_
    refine g_ldc2 (pc' := 142) d_278_139 rfl st_278_302 cL_1000000007 ?_
    refine g_lrem (pc' := 143) d_278_142 rfl (by decide) ?_
    refine g_aloadn (pc' := 144) d_278_143 rfl rfl ?_
    refine g_iload (pc' := 146) d_278_144 rfl rfl ?_
    refine g_iload (pc' := 148) d_278_146 rfl rfl ?_
    refine g_iconst (pc' := 149) d_278_148 rfl ci_1 ?_
    refine g_isub (pc' := 150) d_278_149 rfl ?_
    obtain ⟨fs15, hw16, h⟩ := h
    obtain ⟨r19, w17, hk18, h⟩ := h
    refine g_callV (pc' := 153) d_278_150 rfl st_278_311 na_275 ml_275 rfl rfl rfl rm_278_275 rfl rfl ow_275 hw16 hk18 ?_
    refine g_lmul (pc' := 154) d_278_153 rfl ?_
    refine g_ladd (pc' := 155) d_278_154 rfl ?_
    refine g_ldc2 (pc' := 158) d_278_155 rfl st_278_302 cL_1000000007 ?_
    refine g_lrem (pc' := 159) d_278_158 rfl (by decide) ?_
    have h := h _ rfl
    refine g_lstore (pc' := 161) (l' := [some (.ref a0), some (.int i1), some (.int i2), some (.int i3), some (.int i4), some (.long ((lrem (l5 + ((lrem ((lrem ((f6 (((40 : Int32) * i1) + i7).toNatClampNeg) * r11) (1000000007 : Int64)) * r14) (1000000007 : Int64)) * r19)) (1000000007 : Int64)))), none, some (.int i7)]) d_278_159 rfl ml_278 rfl rfl ?_
    have h := h _ rfl
    refine g_iinc (pc' := 164) (l' := [some (.ref a0), some (.int i1), some (.int i2), some (.int i3), some (.int i4), some (.long ((lrem (l5 + ((lrem ((lrem ((f6 (((40 : Int32) * i1) + i7).toNatClampNeg) * r11) (1000000007 : Int64)) * r14) (1000000007 : Int64)) * r19)) (1000000007 : Int64)))), none, some (.int (i7 + (1 : Int32)))]) d_278_161 rfl rfl ci_1 ml_278 rfl rfl ?_
    refine g_goto (pt := 91) d_278_164 (by decide) ?_
    exact h
-- 279 BernoulliWaysModel.digits(II)I
theorem S_279_0 {a0 : Nat} {i1 : Int32} {i2 : Int32} {w : xW} {r : Option Value × xW} (h : ∃ fs1, w[a0]? = some (.inr (12, fs1)) ∧ (0 < fs1.length) ∧ ∀ w4, w4 = w.set a0 (.inr (12, fs1.set 0 (.int (0 : Int32)))) → ∃ r7 w5, xCall 280 [.int i1, .int i2] w4 (some (.int r7), w5) ∧ (¬ r7 = 0 → ∃ fs8, w5[a0]? = some (.inr (12, fs8)) ∧ ∃ w10, xCall 281 [.ref a0, .int i1, .int i2] w5 (none, w10) ∧ ∃ fs12, w10[a0]? = some (.inr (12, fs12)) ∧ ∃ r16 w14, xCall 285 [.ref a0] w10 (some (.int r16), w14) ∧ r = (some (.int r16), w14)) ∧ (¬ (¬ r7 = 0) → r = (some (.int (-1 : Int32)), w5))) : xGo 279 0 [some (.ref a0), some (.int i1), some (.int i2)] [] w r := by
  refine g_aloadn (pc' := 1) d_279_0 rfl rfl ?_
  refine g_iconst (pc' := 2) d_279_1 rfl ci_0 ?_
  obtain ⟨fs1, hw2, h⟩ := h
  obtain ⟨hc3, h⟩ := h
  have h := h _ rfl
  refine g_putf (pc' := 5) d_279_2 rfl st_279_118 ft_12_0 ff_12_0 rfl (Or.inl rfl) hw2 hc3 ?_
  refine g_iloadn (pc' := 6) d_279_5 rfl rfl ?_
  refine g_iloadn (pc' := 7) d_279_6 rfl rfl ?_
  obtain ⟨r7, w5, hk6, h⟩ := h
  refine g_callS (pc' := 10) d_279_7 rfl st_279_333 (Or.inl rfl) na_280 ml_280 rfl rfl rfl rm_279_280 rfl rfl hk6 ?_
  refine g_if_ne (pc' := 13) (pt := 15) d_279_10 (by decide) rfl (fun c => ?_) (fun c => ?_)
  · replace h := h.1 c
    refine g_aloadn (pc' := 16) d_279_15 rfl rfl ?_
    refine g_iloadn (pc' := 17) d_279_16 rfl rfl ?_
    refine g_iloadn (pc' := 18) d_279_17 rfl rfl ?_
    obtain ⟨fs8, hw9, h⟩ := h
    obtain ⟨w10, hk11, h⟩ := h
    refine g_callV (pc' := 21) d_279_18 rfl st_279_336 na_281 ml_281 rfl rfl rfl rm_279_281 rfl rfl ow_281 hw9 hk11 ?_
    refine g_aloadn (pc' := 22) d_279_21 rfl rfl ?_
    obtain ⟨fs12, hw13, h⟩ := h
    obtain ⟨r16, w14, hk15, h⟩ := h
    refine g_callV (pc' := 25) d_279_22 rfl st_279_339 na_285 ml_285 rfl rfl rfl rm_279_285 rfl rfl ow_285 hw13 hk15 ?_
    exact g_iret d_279_25 rt_279 h
  · replace h := h.2 c
    refine g_iconst (pc' := 14) d_279_13 rfl ci_m1 ?_
    exact g_iret d_279_14 rt_279 h
-- 280 BernoulliWaysModel.isSum(II)Z
theorem S_280_0 {i0 : Int32} {i1 : Int32} {w : xW} {r : Option Value × xW} (h : ∃ r3 w1, xCall 199 [.int i0, .int (0 : Int32), .int (24 : Int32)] w (some (.int r3), w1) ∧ (r3 = 0 → r = (some (.int (0 : Int32)), w1)) ∧ (¬ (r3 = 0) → ∃ r6 w4, xCall 199 [.int i1, .int (0 : Int32), .int (1000000000 : Int32)] w1 (some (.int r6), w4) ∧ (r6 = 0 → r = (some (.int (0 : Int32)), w4)) ∧ (¬ (r6 = 0) → r = (some (.int (1 : Int32)), w4)))) : xGo 280 0 [some (.int i0), some (.int i1)] [] w r := by
  refine g_iloadn (pc' := 1) d_280_0 rfl rfl ?_
  refine g_iconst (pc' := 2) d_280_1 rfl ci_0 ?_
  refine g_bipush (pc' := 4) d_280_2 rfl cb_24 ?_
  obtain ⟨r3, w1, hk2, h⟩ := h
  refine g_callS (pc' := 7) d_280_4 rfl st_280_137 (Or.inl rfl) na_199 ml_199 rfl rfl rfl rm_280_199 rfl rfl hk2 ?_
  refine g_if_eq (pc' := 10) (pt := 25) d_280_7 (by decide) rfl (fun c => ?_) (fun c => ?_)
  · replace h := h.1 c
    refine g_iconst (pc' := 26) d_280_25 rfl ci_0 ?_
    exact g_zret d_280_26 rt_280 (Or.inl rfl) h
  · replace h := h.2 c
    refine g_iloadn (pc' := 11) d_280_10 rfl rfl ?_
    refine g_iconst (pc' := 12) d_280_11 rfl ci_0 ?_
    refine g_ldcw (pc' := 15) d_280_12 rfl st_280_310 ci_1000000000 ?_
    obtain ⟨r6, w4, hk5, h⟩ := h
    refine g_callS (pc' := 18) d_280_15 rfl st_280_137 (Or.inl rfl) na_199 ml_199 rfl rfl rfl rm_280_199 rfl rfl hk5 ?_
    refine g_if_eq (pc' := 21) (pt := 25) d_280_18 (by decide) rfl (fun c => ?_) (fun c => ?_)
    · replace h := h.1 c
      refine g_iconst (pc' := 26) d_280_25 rfl ci_0 ?_
      exact g_zret d_280_26 rt_280 (Or.inl rfl) h
    · replace h := h.2 c
      refine g_iconst (pc' := 22) d_280_21 rfl ci_1 ?_
      refine g_goto (pt := 26) d_280_22 (by decide) ?_
      exact g_zret d_280_26 rt_280 (Or.inr rfl) h
-- 281 BernoulliWaysModel.laysFull(II)V
theorem S_281_0 {a0 : Nat} {i1 : Int32} {i2 : Int32} {w : xW} {r : Option Value × xW} (h : xGo 281 2 [some (.ref a0), some (.int i1), some (.int i2), some (.int (0 : Int32))] [] w r) : xGo 281 0 [some (.ref a0), some (.int i1), some (.int i2), none] [] w r := by
  refine g_iconst (pc' := 1) d_281_0 rfl ci_0 ?_
  refine g_istoren (pc' := 2) (l' := [some (.ref a0), some (.int i1), some (.int i2), some (.int (0 : Int32))]) d_281_1 rfl ml_281 rfl rfl ?_
  exact h
theorem S_281_2 {a0 : Nat} {i1 : Int32} {i2 : Int32} {i3 : Int32} {w : xW} {r : Option Value × xW} (h : ((32 : Int32) ≤ i3 → (¬ i1 = 0 → ∃ fs1, w[a0]? = some (.inr (12, fs1)) ∧ ∃ w3, xCall 282 [.ref a0, .int i1] w (none, w3) ∧ ∃ fs5, w3[a0]? = some (.inr (12, fs5)) ∧ ∃ w7, xCall 283 [.ref a0, .long ((i2.toInt64) + (1 : Int64))] w3 (none, w7) ∧ xGo 281 80 [some (.ref a0), some (.int i1), some (.int i2), some (.int (1 : Int32))] [] w7 r) ∧ (¬ (¬ i1 = 0) → ∃ fs9, w[a0]? = some (.inr (12, fs9)) ∧ ∃ b11, fs9[23]? = some (.ref b11) ∧ ∃ n13 f14, w[b11]? = some (.inl (.inr (n13, f14))) ∧ ∀ v16 : Int64, v16 = (lrem (i2.toInt64) (1000000000 : Int64)) → (¬ ((0 : Int32) < 0 ∨ n13 ≤ (0 : Int32).toNatClampNeg)) ∧ ∀ w18, w18 = w.set b11 (.inl (.inr (n13, (vp_updL f14 (0 : Int32).toNatClampNeg v16)))) → ∃ fs19, w18[a0]? = some (.inr (12, fs19)) ∧ ∃ b21, fs19[23]? = some (.ref b21) ∧ ∃ n23 f24, w18[b21]? = some (.inl (.inr (n23, f24))) ∧ ∀ v26 : Int64, v26 = ((i2.toInt64) / (1000000000 : Int64)) → (¬ ((1 : Int32) < 0 ∨ n23 ≤ (1 : Int32).toNatClampNeg)) ∧ ∀ w28, w28 = w18.set b21 (.inl (.inr (n23, (vp_updL f24 (1 : Int32).toNatClampNeg v26)))) → r = (none, w28))) ∧ (¬ ((32 : Int32) ≤ i3) → ∃ fs29, w[a0]? = some (.inr (12, fs29)) ∧ ∃ b31, fs29[23]? = some (.ref b31) ∧ ∃ n33 f34, w[b31]? = some (.inl (.inr (n33, f34))) ∧ (¬ (i3 < 0 ∨ n33 ≤ i3.toNatClampNeg)) ∧ ∀ w37, w37 = w.set b31 (.inl (.inr (n33, (vp_updL f34 i3.toNatClampNeg (0 : Int64))))) → ∃ fs38, w37[a0]? = some (.inr (12, fs38)) ∧ ∃ b40, fs38[24]? = some (.ref b40) ∧ (¬ i3 = 0 → ∃ n42 f43, w37[b40]? = some (.inl (.inr (n42, f43))) ∧ (¬ (i3 < 0 ∨ n42 ≤ i3.toNatClampNeg)) ∧ ∀ w46, w46 = w37.set b40 (.inl (.inr (n42, (vp_updL f43 i3.toNatClampNeg (0 : Int64))))) → ∀ v47 : Int32, v47 = i3 + (1 : Int32) → xGo 281 2 [some (.ref a0), some (.int i1), some (.int i2), some (.int v47)] [] w46 r) ∧ (¬ (¬ i3 = 0) → ∃ n48 f49, w37[b40]? = some (.inl (.inr (n48, f49))) ∧ (¬ (i3 < 0 ∨ n48 ≤ i3.toNatClampNeg)) ∧ ∀ w52, w52 = w37.set b40 (.inl (.inr (n48, (vp_updL f49 i3.toNatClampNeg (1 : Int64))))) → ∀ v53 : Int32, v53 = i3 + (1 : Int32) → xGo 281 2 [some (.ref a0), some (.int i1), some (.int i2), some (.int v53)] [] w52 r))) : xGo 281 2 [some (.ref a0), some (.int i1), some (.int i2), some (.int i3)] [] w r := by
  refine g_iloadn (pc' := 3) d_281_2 rfl rfl ?_
  refine g_bipush (pc' := 5) d_281_3 rfl cb_32 ?_
  refine g_ic_ge (pc' := 8) (pt := 36) d_281_5 (by decide) rfl (fun c => ?_) (fun c => ?_)
  · replace h := h.1 c
    refine g_iloadn (pc' := 37) d_281_36 rfl rfl ?_
    refine g_if_ne (pc' := 40) (pt := 65) d_281_37 (by decide) rfl (fun c => ?_) (fun c => ?_)
    · replace h := h.1 c
      refine g_aloadn (pc' := 66) d_281_65 rfl rfl ?_
      refine g_iloadn (pc' := 67) d_281_66 rfl rfl ?_
      obtain ⟨fs1, hw2, h⟩ := h
      obtain ⟨w3, hk4, h⟩ := h
      refine g_callV (pc' := 70) d_281_67 rfl st_281_320 na_282 ml_282 rfl rfl rfl rm_281_282 rfl rfl ow_282 hw2 hk4 ?_
      refine g_aloadn (pc' := 71) d_281_70 rfl rfl ?_
      refine g_iloadn (pc' := 72) d_281_71 rfl rfl ?_
      refine g_i2l (pc' := 73) d_281_72 rfl ?_
      refine g_lconst (pc' := 74) d_281_73 rfl cl_1 ?_
      refine g_ladd (pc' := 75) d_281_74 rfl ?_
      obtain ⟨fs5, hw6, h⟩ := h
      obtain ⟨w7, hk8, h⟩ := h
      refine g_callV (pc' := 78) d_281_75 rfl st_281_323 na_283 ml_283 rfl rfl rfl rm_281_283 rfl rfl ow_283 hw6 hk8 ?_
      refine g_iconst (pc' := 79) d_281_78 rfl ci_1 ?_
      refine g_istoren (pc' := 80) (l' := [some (.ref a0), some (.int i1), some (.int i2), some (.int (1 : Int32))]) d_281_79 rfl ml_281 rfl rfl ?_
      exact h
    · replace h := h.2 c
      refine g_aloadn (pc' := 41) d_281_40 rfl rfl ?_
      obtain ⟨fs9, hw10, h⟩ := h
      obtain ⟨b11, hv12, h⟩ := h
      refine g_getf (pc' := 44) d_281_41 rfl st_281_63 hw10 hv12 ?_
      refine g_iconst (pc' := 45) d_281_44 rfl ci_0 ?_
      refine g_iloadn (pc' := 46) d_281_45 rfl rfl ?_
      refine g_i2l (pc' := 47) d_281_46 rfl ?_
      refine g_ldc2 (pc' := 50) d_281_47 rfl st_281_318 cL_1000000000 ?_
      refine g_lrem (pc' := 51) d_281_50 rfl (by decide) ?_
      obtain ⟨n13, f14, hw15, h⟩ := h
      have h := h _ rfl
      obtain ⟨hc17, h⟩ := h
      have h := h _ rfl
      refine g_last (pc' := 52) d_281_51 rfl hw15 hc17 ?_
      refine g_aloadn (pc' := 53) d_281_52 rfl rfl ?_
      obtain ⟨fs19, hw20, h⟩ := h
      obtain ⟨b21, hv22, h⟩ := h
      refine g_getf (pc' := 56) d_281_53 rfl st_281_63 hw20 hv22 ?_
      refine g_iconst (pc' := 57) d_281_56 rfl ci_1 ?_
      refine g_iloadn (pc' := 58) d_281_57 rfl rfl ?_
      refine g_i2l (pc' := 59) d_281_58 rfl ?_
      refine g_ldc2 (pc' := 62) d_281_59 rfl st_281_318 cL_1000000000 ?_
      refine g_ldiv (pc' := 63) d_281_62 rfl (by decide) ?_
      obtain ⟨n23, f24, hw25, h⟩ := h
      have h := h _ rfl
      obtain ⟨hc27, h⟩ := h
      have h := h _ rfl
      refine g_last (pc' := 64) d_281_63 rfl hw25 hc27 ?_
      exact g_vret d_281_64 rt_281 h
  · replace h := h.2 c
    refine g_aloadn (pc' := 9) d_281_8 rfl rfl ?_
    obtain ⟨fs29, hw30, h⟩ := h
    obtain ⟨b31, hv32, h⟩ := h
    refine g_getf (pc' := 12) d_281_9 rfl st_281_63 hw30 hv32 ?_
    refine g_iloadn (pc' := 13) d_281_12 rfl rfl ?_
    refine g_lconst (pc' := 14) d_281_13 rfl cl_0 ?_
    obtain ⟨n33, f34, hw35, h⟩ := h
    obtain ⟨hc36, h⟩ := h
    have h := h _ rfl
    refine g_last (pc' := 15) d_281_14 rfl hw35 hc36 ?_
    refine g_aloadn (pc' := 16) d_281_15 rfl rfl ?_
    obtain ⟨fs38, hw39, h⟩ := h
    obtain ⟨b40, hv41, h⟩ := h
    refine g_getf (pc' := 19) d_281_16 rfl st_281_66 hw39 hv41 ?_
    refine g_iloadn (pc' := 20) d_281_19 rfl rfl ?_
    refine g_iloadn (pc' := 21) d_281_20 rfl rfl ?_
    refine g_if_ne (pc' := 24) (pt := 28) d_281_21 (by decide) rfl (fun c => ?_) (fun c => ?_)
    · replace h := h.1 c
      refine g_lconst (pc' := 29) d_281_28 rfl cl_0 ?_
      obtain ⟨n42, f43, hw44, h⟩ := h
      obtain ⟨hc45, h⟩ := h
      have h := h _ rfl
      refine g_last (pc' := 30) d_281_29 rfl hw44 hc45 ?_
      have h := h _ rfl
      refine g_iinc (pc' := 33) (l' := [some (.ref a0), some (.int i1), some (.int i2), some (.int (i3 + (1 : Int32)))]) d_281_30 rfl rfl ci_1 ml_281 rfl rfl ?_
      refine g_goto (pt := 2) d_281_33 (by decide) ?_
      exact h
    · replace h := h.2 c
      refine g_lconst (pc' := 25) d_281_24 rfl cl_1 ?_
      refine g_goto (pt := 29) d_281_25 (by decide) ?_
      obtain ⟨n48, f49, hw50, h⟩ := h
      obtain ⟨hc51, h⟩ := h
      have h := h _ rfl
      refine g_last (pc' := 30) d_281_29 rfl hw50 hc51 ?_
      have h := h _ rfl
      refine g_iinc (pc' := 33) (l' := [some (.ref a0), some (.int i1), some (.int i2), some (.int (i3 + (1 : Int32)))]) d_281_30 rfl rfl ci_1 ml_281 rfl rfl ?_
      refine g_goto (pt := 2) d_281_33 (by decide) ?_
      exact h
theorem S_281_80 {a0 : Nat} {i1 : Int32} {i2 : Int32} {i3 : Int32} {w : xW} {r : Option Value × xW} (h : (i1 < i3 → r = (none, w)) ∧ (¬ (i1 < i3) → (i2 < i3 → r = (none, w)) ∧ (¬ (i2 < i3) → ∃ fs1, w[a0]? = some (.inr (12, fs1)) ∧ ∃ w3, xCall 283 [.ref a0, .long (((i2.toInt64) + (1 : Int64)) - (i3.toInt64))] w (none, w3) ∧ ∃ fs5, w3[a0]? = some (.inr (12, fs5)) ∧ ∃ b7, fs5[25]? = some (.ref b7) ∧ ∃ n9 f10, w3[b7]? = some (.inl (.inr (n9, f10))) ∧ (¬ (i3 < 0 ∨ n9 ≤ i3.toNatClampNeg)) ∧ ∃ w13, xCall 284 [.ref a0, .int (i3 + (1 : Int32)), .long (lrem (f10 i3.toNatClampNeg) (1000000000 : Int64)), .int (0 : Int32)] w3 (none, w13) ∧ ∃ fs15, w13[a0]? = some (.inr (12, fs15)) ∧ ∃ b17, fs15[25]? = some (.ref b17) ∧ ∃ n19 f20, w13[b17]? = some (.inl (.inr (n19, f20))) ∧ (¬ (i3 < 0 ∨ n19 ≤ i3.toNatClampNeg)) ∧ ∃ w23, xCall 284 [.ref a0, .int (i3 + (1 : Int32)), .long ((f20 i3.toNatClampNeg) / (1000000000 : Int64)), .int (1 : Int32)] w13 (none, w23) ∧ ∀ v25 : Int32, v25 = i3 + (1 : Int32) → xGo 281 80 [some (.ref a0), some (.int i1), some (.int i2), some (.int v25)] [] w23 r))) : xGo 281 80 [some (.ref a0), some (.int i1), some (.int i2), some (.int i3)] [] w r := by
  refine g_iloadn (pc' := 81) d_281_80 rfl rfl ?_
  refine g_iloadn (pc' := 82) d_281_81 rfl rfl ?_
  refine g_ic_gt (pc' := 85) (pt := 143) d_281_82 (by decide) rfl (fun c => ?_) (fun c => ?_)
  · replace h := h.1 c
    exact g_vret d_281_143 rt_281 h
  · replace h := h.2 c
    refine g_iloadn (pc' := 86) d_281_85 rfl rfl ?_
    refine g_iloadn (pc' := 87) d_281_86 rfl rfl ?_
    refine g_ic_gt (pc' := 90) (pt := 143) d_281_87 (by decide) rfl (fun c => ?_) (fun c => ?_)
    · replace h := h.1 c
      exact g_vret d_281_143 rt_281 h
    · replace h := h.2 c
      refine g_aloadn (pc' := 91) d_281_90 rfl rfl ?_
      refine g_iloadn (pc' := 92) d_281_91 rfl rfl ?_
      refine g_i2l (pc' := 93) d_281_92 rfl ?_
      refine g_lconst (pc' := 94) d_281_93 rfl cl_1 ?_
      refine g_ladd (pc' := 95) d_281_94 rfl ?_
      refine g_iloadn (pc' := 96) d_281_95 rfl rfl ?_
      refine g_i2l (pc' := 97) d_281_96 rfl ?_
      refine g_lsub (pc' := 98) d_281_97 rfl ?_
      obtain ⟨fs1, hw2, h⟩ := h
      obtain ⟨w3, hk4, h⟩ := h
      refine g_callV (pc' := 101) d_281_98 rfl st_281_323 na_283 ml_283 rfl rfl rfl rm_281_283 rfl rfl ow_283 hw2 hk4 ?_
      refine g_aloadn (pc' := 102) d_281_101 rfl rfl ?_
      refine g_iloadn (pc' := 103) d_281_102 rfl rfl ?_
      refine g_iconst (pc' := 104) d_281_103 rfl ci_1 ?_
      refine g_iadd (pc' := 105) d_281_104 rfl ?_
      refine g_aloadn (pc' := 106) d_281_105 rfl rfl ?_
      obtain ⟨fs5, hw6, h⟩ := h
      obtain ⟨b7, hv8, h⟩ := h
      refine g_getf (pc' := 109) d_281_106 rfl st_281_69 hw6 hv8 ?_
      refine g_iloadn (pc' := 110) d_281_109 rfl rfl ?_
      obtain ⟨n9, f10, hw11, h⟩ := h
      obtain ⟨hc12, h⟩ := h
      refine g_lald (pc' := 111) d_281_110 rfl hw11 hc12 ?_
      refine g_ldc2 (pc' := 114) d_281_111 rfl st_281_318 cL_1000000000 ?_
      refine g_lrem (pc' := 115) d_281_114 rfl (by decide) ?_
      refine g_iconst (pc' := 116) d_281_115 rfl ci_0 ?_
      obtain ⟨w13, hk14, h⟩ := h
      refine g_callV (pc' := 119) d_281_116 rfl st_281_327 na_284 ml_284 rfl rfl rfl rm_281_284 rfl rfl ow_284 hw6 hk14 ?_
      refine g_aloadn (pc' := 120) d_281_119 rfl rfl ?_
      refine g_iloadn (pc' := 121) d_281_120 rfl rfl ?_
      refine g_iconst (pc' := 122) d_281_121 rfl ci_1 ?_
      refine g_iadd (pc' := 123) d_281_122 rfl ?_
      refine g_aloadn (pc' := 124) d_281_123 rfl rfl ?_
      obtain ⟨fs15, hw16, h⟩ := h
      obtain ⟨b17, hv18, h⟩ := h
      refine g_getf (pc' := 127) d_281_124 rfl st_281_69 hw16 hv18 ?_
      refine g_iloadn (pc' := 128) d_281_127 rfl rfl ?_
      obtain ⟨n19, f20, hw21, h⟩ := h
      obtain ⟨hc22, h⟩ := h
      refine g_lald (pc' := 129) d_281_128 rfl hw21 hc22 ?_
      refine g_ldc2 (pc' := 132) d_281_129 rfl st_281_318 cL_1000000000 ?_
      refine g_ldiv (pc' := 133) d_281_132 rfl (by decide) ?_
      refine g_iconst (pc' := 134) d_281_133 rfl ci_1 ?_
      obtain ⟨w23, hk24, h⟩ := h
      refine g_callV (pc' := 137) d_281_134 rfl st_281_327 na_284 ml_284 rfl rfl rfl rm_281_284 rfl rfl ow_284 hw16 hk24 ?_
      have h := h _ rfl
      refine g_iinc (pc' := 140) (l' := [some (.ref a0), some (.int i1), some (.int i2), some (.int (i3 + (1 : Int32)))]) d_281_137 rfl rfl ci_1 ml_281 rfl rfl ?_
      refine g_goto (pt := 80) d_281_140 (by decide) ?_
      exact h
-- 282 BernoulliWaysModel.laysKinds(I)V
theorem S_282_0 {a0 : Nat} {i1 : Int32} {w : xW} {r : Option Value × xW} (h : xGo 282 2 [some (.ref a0), some (.int i1), some (.int (0 : Int32)), none] [] w r) : xGo 282 0 [some (.ref a0), some (.int i1), none, none] [] w r := by
  refine g_iconst (pc' := 1) d_282_0 rfl ci_0 ?_
  refine g_istoren (pc' := 2) (l' := [some (.ref a0), some (.int i1), some (.int (0 : Int32)), none]) d_282_1 rfl ml_282 rfl rfl ?_
  exact h
theorem S_282_2 {a0 : Nat} {i1 : Int32} {i2 : Int32} {w : xW} {r : Option Value × xW} (h : ((26 : Int32) ≤ i2 → xGo 282 31 [some (.ref a0), some (.int i1), some (.int (1 : Int32)), none] [] w r) ∧ (¬ ((26 : Int32) ≤ i2) → ∃ fs1, w[a0]? = some (.inr (12, fs1)) ∧ ∃ b3, fs1[25]? = some (.ref b3) ∧ (¬ i2 = 0 → ∃ n5 f6, w[b3]? = some (.inl (.inr (n5, f6))) ∧ (¬ (i2 < 0 ∨ n5 ≤ i2.toNatClampNeg)) ∧ ∀ w9, w9 = w.set b3 (.inl (.inr (n5, (vp_updL f6 i2.toNatClampNeg (0 : Int64))))) → ∀ v10 : Int32, v10 = i2 + (1 : Int32) → xGo 282 2 [some (.ref a0), some (.int i1), some (.int v10), none] [] w9 r) ∧ (¬ (¬ i2 = 0) → ∃ n11 f12, w[b3]? = some (.inl (.inr (n11, f12))) ∧ (¬ (i2 < 0 ∨ n11 ≤ i2.toNatClampNeg)) ∧ ∀ w15, w15 = w.set b3 (.inl (.inr (n11, (vp_updL f12 i2.toNatClampNeg (1 : Int64))))) → ∀ v16 : Int32, v16 = i2 + (1 : Int32) → xGo 282 2 [some (.ref a0), some (.int i1), some (.int v16), none] [] w15 r))) : xGo 282 2 [some (.ref a0), some (.int i1), some (.int i2), none] [] w r := by
  refine g_iloadn (pc' := 3) d_282_2 rfl rfl ?_
  refine g_bipush (pc' := 5) d_282_3 rfl cb_26 ?_
  refine g_ic_ge (pc' := 8) (pt := 29) d_282_5 (by decide) rfl (fun c => ?_) (fun c => ?_)
  · replace h := h.1 c
    refine g_iconst (pc' := 30) d_282_29 rfl ci_1 ?_
    refine g_istoren (pc' := 31) (l' := [some (.ref a0), some (.int i1), some (.int (1 : Int32)), none]) d_282_30 rfl ml_282 rfl rfl ?_
    exact h
  · replace h := h.2 c
    refine g_aloadn (pc' := 9) d_282_8 rfl rfl ?_
    obtain ⟨fs1, hw2, h⟩ := h
    obtain ⟨b3, hv4, h⟩ := h
    refine g_getf (pc' := 12) d_282_9 rfl st_282_69 hw2 hv4 ?_
    refine g_iloadn (pc' := 13) d_282_12 rfl rfl ?_
    refine g_iloadn (pc' := 14) d_282_13 rfl rfl ?_
    refine g_if_ne (pc' := 17) (pt := 21) d_282_14 (by decide) rfl (fun c => ?_) (fun c => ?_)
    · replace h := h.1 c
      refine g_lconst (pc' := 22) d_282_21 rfl cl_0 ?_
      obtain ⟨n5, f6, hw7, h⟩ := h
      obtain ⟨hc8, h⟩ := h
      have h := h _ rfl
      refine g_last (pc' := 23) d_282_22 rfl hw7 hc8 ?_
      have h := h _ rfl
      refine g_iinc (pc' := 26) (l' := [some (.ref a0), some (.int i1), some (.int (i2 + (1 : Int32))), none]) d_282_23 rfl rfl ci_1 ml_282 rfl rfl ?_
      refine g_goto (pt := 2) d_282_26 (by decide) ?_
      exact h
    · replace h := h.2 c
      refine g_lconst (pc' := 18) d_282_17 rfl cl_1 ?_
      refine g_goto (pt := 22) d_282_18 (by decide) ?_
      obtain ⟨n11, f12, hw13, h⟩ := h
      obtain ⟨hc14, h⟩ := h
      have h := h _ rfl
      refine g_last (pc' := 23) d_282_22 rfl hw13 hc14 ?_
      have h := h _ rfl
      refine g_iinc (pc' := 26) (l' := [some (.ref a0), some (.int i1), some (.int (i2 + (1 : Int32))), none]) d_282_23 rfl rfl ci_1 ml_282 rfl rfl ?_
      refine g_goto (pt := 2) d_282_26 (by decide) ?_
      exact h
theorem S_282_31 {a0 : Nat} {i1 : Int32} {i2 : Int32} {w : xW} {r : Option Value × xW} (h : (i1 < i2 → r = (none, w)) ∧ (¬ (i1 < i2) → xGo 282 38 [some (.ref a0), some (.int i1), some (.int i2), some (.int i2)] [] w r)) : xGo 282 31 [some (.ref a0), some (.int i1), some (.int i2), none] [] w r := by
  refine g_iloadn (pc' := 32) d_282_31 rfl rfl ?_
  refine g_iloadn (pc' := 33) d_282_32 rfl rfl ?_
  refine g_ic_gt (pc' := 36) (pt := 85) d_282_33 (by decide) rfl (fun c => ?_) (fun c => ?_)
  · replace h := h.1 c
    exact g_vret d_282_85 rt_282 h
  · replace h := h.2 c
    refine g_iloadn (pc' := 37) d_282_36 rfl rfl ?_
    refine g_istoren (pc' := 38) (l' := [some (.ref a0), some (.int i1), some (.int i2), some (.int i2)]) d_282_37 rfl ml_282 rfl rfl ?_
    exact h
theorem S_282_38 {a0 : Nat} {i1 : Int32} {i2 : Int32} {i3 : Int32} {w : xW} {r : Option Value × xW} (h : (i3 ≤ 0 → ∃ fs1, w[a0]? = some (.inr (12, fs1)) ∧ ∃ b3, fs1[25]? = some (.ref b3) ∧ ∃ n5 f6, w[b3]? = some (.inl (.inr (n5, f6))) ∧ (¬ ((0 : Int32) < 0 ∨ n5 ≤ (0 : Int32).toNatClampNeg)) ∧ ∀ w9, w9 = w.set b3 (.inl (.inr (n5, (vp_updL f6 (0 : Int32).toNatClampNeg (0 : Int64))))) → ∀ v10 : Int32, v10 = i2 + (1 : Int32) → xGo 282 31 [some (.ref a0), some (.int i1), some (.int v10), none] [] w9 r) ∧ (¬ (i3 ≤ 0) → ∃ fs11, w[a0]? = some (.inr (12, fs11)) ∧ ∃ b13, fs11[25]? = some (.ref b13) ∧ ∃ n15 f16, w[b13]? = some (.inl (.inr (n15, f16))) ∧ (¬ (i3 < 0 ∨ n15 ≤ i3.toNatClampNeg)) ∧ (¬ ((i3 - (1 : Int32)) < 0 ∨ n15 ≤ (i3 - (1 : Int32)).toNatClampNeg)) ∧ ∀ v20 : Int64, v20 = (((i3.toInt64) * (f16 i3.toNatClampNeg)) + (f16 (i3 - (1 : Int32)).toNatClampNeg)) → (¬ (i3 < 0 ∨ n15 ≤ i3.toNatClampNeg)) ∧ ∀ w22, w22 = w.set b13 (.inl (.inr (n15, (vp_updL f16 i3.toNatClampNeg v20)))) → ∀ v23 : Int32, v23 = i3 + (-1 : Int32) → xGo 282 38 [some (.ref a0), some (.int i1), some (.int i2), some (.int v23)] [] w22 r)) : xGo 282 38 [some (.ref a0), some (.int i1), some (.int i2), some (.int i3)] [] w r := by
  refine g_iloadn (pc' := 39) d_282_38 rfl rfl ?_
  refine g_if_le (pc' := 42) (pt := 72) d_282_39 (by decide) rfl (fun c => ?_) (fun c => ?_)
  · replace h := h.1 c
    refine g_aloadn (pc' := 73) d_282_72 rfl rfl ?_
    obtain ⟨fs1, hw2, h⟩ := h
    obtain ⟨b3, hv4, h⟩ := h
    refine g_getf (pc' := 76) d_282_73 rfl st_282_69 hw2 hv4 ?_
    refine g_iconst (pc' := 77) d_282_76 rfl ci_0 ?_
    refine g_lconst (pc' := 78) d_282_77 rfl cl_0 ?_
    obtain ⟨n5, f6, hw7, h⟩ := h
    obtain ⟨hc8, h⟩ := h
    have h := h _ rfl
    refine g_last (pc' := 79) d_282_78 rfl hw7 hc8 ?_
    have h := h _ rfl
    refine g_iinc (pc' := 82) (l' := [some (.ref a0), some (.int i1), some (.int (i2 + (1 : Int32))), some (.int i3)]) d_282_79 rfl rfl ci_1 ml_282 rfl rfl ?_
    refine g_goto (pt := 31) d_282_82 (by decide) ?_
    exact xGo.more (xle_s (xle_s (xle_s (xle_n xle_0)))) h
  · replace h := h.2 c
    refine g_aloadn (pc' := 43) d_282_42 rfl rfl ?_
    obtain ⟨fs11, hw12, h⟩ := h
    obtain ⟨b13, hv14, h⟩ := h
    refine g_getf (pc' := 46) d_282_43 rfl st_282_69 hw12 hv14 ?_
    refine g_iloadn (pc' := 47) d_282_46 rfl rfl ?_
    refine g_iloadn (pc' := 48) d_282_47 rfl rfl ?_
    refine g_i2l (pc' := 49) d_282_48 rfl ?_
    refine g_aloadn (pc' := 50) d_282_49 rfl rfl ?_
    refine g_getf (pc' := 53) d_282_50 rfl st_282_69 hw12 hv14 ?_
    refine g_iloadn (pc' := 54) d_282_53 rfl rfl ?_
    obtain ⟨n15, f16, hw17, h⟩ := h
    obtain ⟨hc18, h⟩ := h
    refine g_lald (pc' := 55) d_282_54 rfl hw17 hc18 ?_
    refine g_lmul (pc' := 56) d_282_55 rfl ?_
    refine g_aloadn (pc' := 57) d_282_56 rfl rfl ?_
    refine g_getf (pc' := 60) d_282_57 rfl st_282_69 hw12 hv14 ?_
    refine g_iloadn (pc' := 61) d_282_60 rfl rfl ?_
    refine g_iconst (pc' := 62) d_282_61 rfl ci_1 ?_
    refine g_isub (pc' := 63) d_282_62 rfl ?_
    obtain ⟨hc19, h⟩ := h
    refine g_lald (pc' := 64) d_282_63 rfl hw17 hc19 ?_
    refine g_ladd (pc' := 65) d_282_64 rfl ?_
    have h := h _ rfl
    obtain ⟨hc21, h⟩ := h
    have h := h _ rfl
    refine g_last (pc' := 66) d_282_65 rfl hw17 hc21 ?_
    have h := h _ rfl
    refine g_iinc (pc' := 69) (l' := [some (.ref a0), some (.int i1), some (.int i2), some (.int (i3 + (-1 : Int32)))]) d_282_66 rfl rfl ci_m1 ml_282 rfl rfl ?_
    refine g_goto (pt := 38) d_282_69 (by decide) ?_
    exact h
-- 283 BernoulliWaysModel.times(J)V
theorem S_283_0 {a0 : Nat} {l1 : Int64} {w : xW} {r : Option Value × xW} (h : xGo 283 5 [some (.ref a0), some (.long l1), none, some (.long (0 : Int64)), none, some (.int (0 : Int32)), none, none] [] w r) : xGo 283 0 [some (.ref a0), some (.long l1), none, none, none, none, none, none] [] w r := by
  refine g_lconst (pc' := 1) d_283_0 rfl cl_0 ?_
  refine g_lstoren (pc' := 2) (l' := [some (.ref a0), some (.long l1), none, some (.long (0 : Int64)), none, none, none, none]) d_283_1 rfl ml_283 rfl rfl ?_
  refine g_iconst (pc' := 3) d_283_2 rfl ci_0 ?_
  refine g_istore (pc' := 5) (l' := [some (.ref a0), some (.long l1), none, some (.long (0 : Int64)), none, some (.int (0 : Int32)), none, none]) d_283_3 rfl ml_283 rfl rfl ?_
  exact h
theorem S_283_5 {a0 : Nat} {l1 : Int64} {l3 : Int64} {i5 : Int32} {w : xW} {r : Option Value × xW} (h : ((32 : Int32) ≤ i5 → r = (none, w)) ∧ (¬ ((32 : Int32) ≤ i5) → ∃ fs1, w[a0]? = some (.inr (12, fs1)) ∧ ∃ b3, fs1[24]? = some (.ref b3) ∧ ∃ n5 f6, w[b3]? = some (.inl (.inr (n5, f6))) ∧ (¬ (i5 < 0 ∨ n5 ≤ i5.toNatClampNeg)) ∧ ∀ v9 : Int64, v9 = (((f6 i5.toNatClampNeg) * l1) + l3) → ∀ v10 : Int64, v10 = (lrem v9 (1000000000 : Int64)) → (¬ (i5 < 0 ∨ n5 ≤ i5.toNatClampNeg)) ∧ ∀ w12, w12 = w.set b3 (.inl (.inr (n5, (vp_updL f6 i5.toNatClampNeg v10)))) → ∀ v13 : Int64, v13 = (v9 / (1000000000 : Int64)) → ∀ v14 : Int32, v14 = i5 + (1 : Int32) → xGo 283 5 [some (.ref a0), some (.long l1), none, some (.long v13), none, some (.int v14), none, none] [] w12 r)) : xGo 283 5 [some (.ref a0), some (.long l1), none, some (.long l3), none, some (.int i5), none, none] [] w r := by
  refine g_iload (pc' := 7) d_283_5 rfl rfl ?_
  refine g_bipush (pc' := 9) d_283_7 rfl cb_32 ?_
  refine g_ic_ge (pc' := 12) (pt := 51) d_283_9 (by decide) rfl (fun c => ?_) (fun c => ?_)
  · replace h := h.1 c
    exact g_vret d_283_51 rt_283 h
  · replace h := h.2 c
    refine g_aloadn (pc' := 13) d_283_12 rfl rfl ?_
    obtain ⟨fs1, hw2, h⟩ := h
    obtain ⟨b3, hv4, h⟩ := h
    refine g_getf (pc' := 16) d_283_13 rfl st_283_66 hw2 hv4 ?_
    refine g_iload (pc' := 18) d_283_16 rfl rfl ?_
    obtain ⟨n5, f6, hw7, h⟩ := h
    obtain ⟨hc8, h⟩ := h
    refine g_lald (pc' := 19) d_283_18 rfl hw7 hc8 ?_
    refine g_lloadn (pc' := 20) d_283_19 rfl rfl ?_
    refine g_lmul (pc' := 21) d_283_20 rfl ?_
    refine g_lloadn (pc' := 22) d_283_21 rfl rfl ?_
    refine g_ladd (pc' := 23) d_283_22 rfl ?_
    have h := h _ rfl
    refine g_lstore (pc' := 25) (l' := [some (.ref a0), some (.long l1), none, some (.long l3), none, some (.int i5), some (.long ((((f6 i5.toNatClampNeg) * l1) + l3))), none]) d_283_23 rfl ml_283 rfl rfl ?_
    refine g_aloadn (pc' := 26) d_283_25 rfl rfl ?_
    refine g_getf (pc' := 29) d_283_26 rfl st_283_66 hw2 hv4 ?_
    refine g_iload (pc' := 31) d_283_29 rfl rfl ?_
    refine g_lload (pc' := 33) d_283_31 rfl rfl ?_
    refine g_ldc2 (pc' := 36) d_283_33 rfl st_283_318 cL_1000000000 ?_
    refine g_lrem (pc' := 37) d_283_36 rfl (by decide) ?_
    have h := h _ rfl
    obtain ⟨hc11, h⟩ := h
    have h := h _ rfl
    refine g_last (pc' := 38) d_283_37 rfl hw7 hc11 ?_
    refine g_lload (pc' := 40) d_283_38 rfl rfl ?_
    refine g_ldc2 (pc' := 43) d_283_40 rfl st_283_318 cL_1000000000 ?_
    refine g_ldiv (pc' := 44) d_283_43 rfl (by decide) ?_
    have h := h _ rfl
    refine g_lstoren (pc' := 45) (l' := [some (.ref a0), some (.long l1), none, some (.long ((((((f6 i5.toNatClampNeg) * l1) + l3)) / (1000000000 : Int64)))), none, some (.int i5), some (.long ((((f6 i5.toNatClampNeg) * l1) + l3))), none]) d_283_44 rfl ml_283 rfl rfl ?_
    have h := h _ rfl
    refine g_iinc (pc' := 48) (l' := [some (.ref a0), some (.long l1), none, some (.long ((((((f6 i5.toNatClampNeg) * l1) + l3)) / (1000000000 : Int64)))), none, some (.int (i5 + (1 : Int32))), some (.long ((((f6 i5.toNatClampNeg) * l1) + l3))), none]) d_283_45 rfl rfl ci_1 ml_283 rfl rfl ?_
    refine g_goto (pt := 5) d_283_48 (by decide) ?_
    exact xGo.more (xle_s (xle_s (xle_n (xle_s (xle_n (xle_s (xle_n (xle_n xle_0)))))))) h
-- 284 BernoulliWaysModel.addsRow(IJI)V
theorem S_284_0 {a0 : Nat} {i1 : Int32} {l2 : Int64} {i4 : Int32} {w : xW} {r : Option Value × xW} (h : xGo 284 10 [some (.ref a0), some (.int i1), some (.long l2), none, some (.int i4), some (.long (0 : Int64)), none, some (.long (0 : Int64)), none, some (.int (31 : Int32)), none, none] [] w r) : xGo 284 0 [some (.ref a0), some (.int i1), some (.long l2), none, some (.int i4), none, none, none, none, none, none, none] [] w r := by
  refine g_lconst (pc' := 1) d_284_0 rfl cl_0 ?_
  refine g_lstore (pc' := 3) (l' := [some (.ref a0), some (.int i1), some (.long l2), none, some (.int i4), some (.long (0 : Int64)), none, none, none, none, none, none]) d_284_1 rfl ml_284 rfl rfl ?_
  refine g_lconst (pc' := 4) d_284_3 rfl cl_0 ?_
  refine g_lstore (pc' := 6) (l' := [some (.ref a0), some (.int i1), some (.long l2), none, some (.int i4), some (.long (0 : Int64)), none, some (.long (0 : Int64)), none, none, none, none]) d_284_4 rfl ml_284 rfl rfl ?_
  refine g_bipush (pc' := 8) d_284_6 rfl cb_31 ?_
  refine g_istore (pc' := 10) (l' := [some (.ref a0), some (.int i1), some (.long l2), none, some (.int i4), some (.long (0 : Int64)), none, some (.long (0 : Int64)), none, some (.int (31 : Int32)), none, none]) d_284_8 rfl ml_284 rfl rfl ?_
  exact h
theorem S_284_10 {a0 : Nat} {i1 : Int32} {l2 : Int64} {i4 : Int32} {l5 : Int64} {l7 : Int64} {i9 : Int32} {w : xW} {r : Option Value × xW} (h : (i9 < 0 → xGo 284 59 [some (.ref a0), some (.int i1), some (.long l2), none, some (.int i4), some (.long l5), none, some (.long l7), none, some (.int (0 : Int32)), none, none] [] w r) ∧ (¬ (i9 < 0) → ∃ fs1, w[a0]? = some (.inr (12, fs1)) ∧ ∃ b3, fs1[24]? = some (.ref b3) ∧ ∃ n5 f6, w[b3]? = some (.inl (.inr (n5, f6))) ∧ (¬ (i9 < 0 ∨ n5 ≤ i9.toNatClampNeg)) ∧ ∀ v9 : Int64, v9 = ((l5 * (1000000000 : Int64)) + (f6 i9.toNatClampNeg)) → ∃ b10, fs1[26]? = some (.ref b10) ∧ (¬ (i1.toInt64) = 0) ∧ ∃ n13 f14, w[b10]? = some (.inl (.inr (n13, f14))) ∧ ∀ v16 : Int64, v16 = (v9 / (i1.toInt64)) → (¬ (i9 < 0 ∨ n13 ≤ i9.toNatClampNeg)) ∧ ∀ w18, w18 = w.set b10 (.inl (.inr (n13, (vp_updL f14 i9.toNatClampNeg v16)))) → (¬ (i1.toInt64) = 0) ∧ ∀ v20 : Int64, v20 = (lrem v9 (i1.toInt64)) → ∀ v21 : Int32, v21 = i9 + (-1 : Int32) → xGo 284 10 [some (.ref a0), some (.int i1), some (.long l2), none, some (.int i4), some (.long v20), none, some (.long l7), none, some (.int v21), none, none] [] w18 r)) : xGo 284 10 [some (.ref a0), some (.int i1), some (.long l2), none, some (.int i4), some (.long l5), none, some (.long l7), none, some (.int i9), none, none] [] w r := by
  refine g_iload (pc' := 12) d_284_10 rfl rfl ?_
  refine g_if_lt (pc' := 15) (pt := 56) d_284_12 (by decide) rfl (fun c => ?_) (fun c => ?_)
  · replace h := h.1 c
    refine g_iconst (pc' := 57) d_284_56 rfl ci_0 ?_
    refine g_istore (pc' := 59) (l' := [some (.ref a0), some (.int i1), some (.long l2), none, some (.int i4), some (.long l5), none, some (.long l7), none, some (.int (0 : Int32)), none, none]) d_284_57 rfl ml_284 rfl rfl ?_
    exact h
  · replace h := h.2 c
    refine g_lload (pc' := 17) d_284_15 rfl rfl ?_
    refine g_ldc2 (pc' := 20) d_284_17 rfl st_284_318 cL_1000000000 ?_
    refine g_lmul (pc' := 21) d_284_20 rfl ?_
    refine g_aloadn (pc' := 22) d_284_21 rfl rfl ?_
    obtain ⟨fs1, hw2, h⟩ := h
    obtain ⟨b3, hv4, h⟩ := h
    refine g_getf (pc' := 25) d_284_22 rfl st_284_66 hw2 hv4 ?_
    refine g_iload (pc' := 27) d_284_25 rfl rfl ?_
    obtain ⟨n5, f6, hw7, h⟩ := h
    obtain ⟨hc8, h⟩ := h
    refine g_lald (pc' := 28) d_284_27 rfl hw7 hc8 ?_
    refine g_ladd (pc' := 29) d_284_28 rfl ?_
    have h := h _ rfl
    refine g_lstore (pc' := 31) (l' := [some (.ref a0), some (.int i1), some (.long l2), none, some (.int i4), some (.long l5), none, some (.long l7), none, some (.int i9), some (.long (((l5 * (1000000000 : Int64)) + (f6 i9.toNatClampNeg)))), none]) d_284_29 rfl ml_284 rfl rfl ?_
    refine g_aloadn (pc' := 32) d_284_31 rfl rfl ?_
    obtain ⟨b10, hv11, h⟩ := h
    refine g_getf (pc' := 35) d_284_32 rfl st_284_72 hw2 hv11 ?_
    refine g_iload (pc' := 37) d_284_35 rfl rfl ?_
    refine g_lload (pc' := 39) d_284_37 rfl rfl ?_
    refine g_iloadn (pc' := 40) d_284_39 rfl rfl ?_
    refine g_i2l (pc' := 41) d_284_40 rfl ?_
    obtain ⟨hc12, h⟩ := h
    refine g_ldiv (pc' := 42) d_284_41 rfl hc12 ?_
    obtain ⟨n13, f14, hw15, h⟩ := h
    have h := h _ rfl
    obtain ⟨hc17, h⟩ := h
    have h := h _ rfl
    refine g_last (pc' := 43) d_284_42 rfl hw15 hc17 ?_
    refine g_lload (pc' := 45) d_284_43 rfl rfl ?_
    refine g_iloadn (pc' := 46) d_284_45 rfl rfl ?_
    refine g_i2l (pc' := 47) d_284_46 rfl ?_
    obtain ⟨hc19, h⟩ := h
    refine g_lrem (pc' := 48) d_284_47 rfl hc19 ?_
    have h := h _ rfl
    refine g_lstore (pc' := 50) (l' := [some (.ref a0), some (.int i1), some (.long l2), none, some (.int i4), some (.long ((lrem (((l5 * (1000000000 : Int64)) + (f6 i9.toNatClampNeg))) (i1.toInt64)))), none, some (.long l7), none, some (.int i9), some (.long (((l5 * (1000000000 : Int64)) + (f6 i9.toNatClampNeg)))), none]) d_284_48 rfl ml_284 rfl rfl ?_
    have h := h _ rfl
    refine g_iinc (pc' := 53) (l' := [some (.ref a0), some (.int i1), some (.long l2), none, some (.int i4), some (.long ((lrem (((l5 * (1000000000 : Int64)) + (f6 i9.toNatClampNeg))) (i1.toInt64)))), none, some (.long l7), none, some (.int (i9 + (-1 : Int32))), some (.long (((l5 * (1000000000 : Int64)) + (f6 i9.toNatClampNeg)))), none]) d_284_50 rfl rfl ci_m1 ml_284 rfl rfl ?_
    refine g_goto (pt := 10) d_284_53 (by decide) ?_
    exact xGo.more (xle_s (xle_s (xle_s (xle_n (xle_s (xle_s (xle_n (xle_s (xle_n (xle_s (xle_n (xle_n xle_0)))))))))))) h
theorem S_284_59 {a0 : Nat} {i1 : Int32} {l2 : Int64} {i4 : Int32} {l5 : Int64} {l7 : Int64} {i9 : Int32} {w : xW} {r : Option Value × xW} (h : ((32 : Int32) ≤ (i9 + i4) → r = (none, w)) ∧ (¬ ((32 : Int32) ≤ (i9 + i4)) → ∃ fs1, w[a0]? = some (.inr (12, fs1)) ∧ ∃ b3, fs1[23]? = some (.ref b3) ∧ ∃ n5 f6, w[b3]? = some (.inl (.inr (n5, f6))) ∧ (¬ ((i9 + i4) < 0 ∨ n5 ≤ (i9 + i4).toNatClampNeg)) ∧ ∃ b9, fs1[26]? = some (.ref b9) ∧ ∃ n11 f12, w[b9]? = some (.inl (.inr (n11, f12))) ∧ (¬ (i9 < 0 ∨ n11 ≤ i9.toNatClampNeg)) ∧ ∀ v15 : Int64, v15 = (((f6 (i9 + i4).toNatClampNeg) + ((f12 i9.toNatClampNeg) * l2)) + l7) → ∀ v16 : Int64, v16 = (lrem v15 (1000000000 : Int64)) → (¬ ((i9 + i4) < 0 ∨ n5 ≤ (i9 + i4).toNatClampNeg)) ∧ ∀ w18, w18 = w.set b3 (.inl (.inr (n5, (vp_updL f6 (i9 + i4).toNatClampNeg v16)))) → ∀ v19 : Int64, v19 = (v15 / (1000000000 : Int64)) → ∀ v20 : Int32, v20 = i9 + (1 : Int32) → xGo 284 59 [some (.ref a0), some (.int i1), some (.long l2), none, some (.int i4), some (.long l5), none, some (.long v19), none, some (.int v20), none, none] [] w18 r)) : xGo 284 59 [some (.ref a0), some (.int i1), some (.long l2), none, some (.int i4), some (.long l5), none, some (.long l7), none, some (.int i9), none, none] [] w r := by
  refine g_iload (pc' := 61) d_284_59 rfl rfl ?_
  refine g_iload (pc' := 63) d_284_61 rfl rfl ?_
  refine g_iadd (pc' := 64) d_284_63 rfl ?_
  refine g_bipush (pc' := 66) d_284_64 rfl cb_32 ?_
  refine g_ic_ge (pc' := 69) (pt := 124) d_284_66 (by decide) rfl (fun c => ?_) (fun c => ?_)
  · replace h := h.1 c
    exact g_vret d_284_124 rt_284 h
  · replace h := h.2 c
    refine g_aloadn (pc' := 70) d_284_69 rfl rfl ?_
    obtain ⟨fs1, hw2, h⟩ := h
    obtain ⟨b3, hv4, h⟩ := h
    refine g_getf (pc' := 73) d_284_70 rfl st_284_63 hw2 hv4 ?_
    refine g_iload (pc' := 75) d_284_73 rfl rfl ?_
    refine g_iload (pc' := 77) d_284_75 rfl rfl ?_
    refine g_iadd (pc' := 78) d_284_77 rfl ?_
    obtain ⟨n5, f6, hw7, h⟩ := h
    obtain ⟨hc8, h⟩ := h
    refine g_lald (pc' := 79) d_284_78 rfl hw7 hc8 ?_
    refine g_aloadn (pc' := 80) d_284_79 rfl rfl ?_
    obtain ⟨b9, hv10, h⟩ := h
    refine g_getf (pc' := 83) d_284_80 rfl st_284_72 hw2 hv10 ?_
    refine g_iload (pc' := 85) d_284_83 rfl rfl ?_
    obtain ⟨n11, f12, hw13, h⟩ := h
    obtain ⟨hc14, h⟩ := h
    refine g_lald (pc' := 86) d_284_85 rfl hw13 hc14 ?_
    refine g_lloadn (pc' := 87) d_284_86 rfl rfl ?_
    refine g_lmul (pc' := 88) d_284_87 rfl ?_
    refine g_ladd (pc' := 89) d_284_88 rfl ?_
    refine g_lload (pc' := 91) d_284_89 rfl rfl ?_
    refine g_ladd (pc' := 92) d_284_91 rfl ?_
    have h := h _ rfl
    refine g_lstore (pc' := 94) (l' := [some (.ref a0), some (.int i1), some (.long l2), none, some (.int i4), some (.long l5), none, some (.long l7), none, some (.int i9), some (.long ((((f6 (i9 + i4).toNatClampNeg) + ((f12 i9.toNatClampNeg) * l2)) + l7))), none]) d_284_92 rfl ml_284 rfl rfl ?_
    refine g_aloadn (pc' := 95) d_284_94 rfl rfl ?_
    refine g_getf (pc' := 98) d_284_95 rfl st_284_63 hw2 hv4 ?_
    refine g_iload (pc' := 100) d_284_98 rfl rfl ?_
    refine g_iload (pc' := 102) d_284_100 rfl rfl ?_
    refine g_iadd (pc' := 103) d_284_102 rfl ?_
    refine g_lload (pc' := 105) d_284_103 rfl rfl ?_
    refine g_ldc2 (pc' := 108) d_284_105 rfl st_284_318 cL_1000000000 ?_
    refine g_lrem (pc' := 109) d_284_108 rfl (by decide) ?_
    have h := h _ rfl
    obtain ⟨hc17, h⟩ := h
    have h := h _ rfl
    refine g_last (pc' := 110) d_284_109 rfl hw7 hc17 ?_
    refine g_lload (pc' := 112) d_284_110 rfl rfl ?_
    refine g_ldc2 (pc' := 115) d_284_112 rfl st_284_318 cL_1000000000 ?_
    refine g_ldiv (pc' := 116) d_284_115 rfl (by decide) ?_
    have h := h _ rfl
    refine g_lstore (pc' := 118) (l' := [some (.ref a0), some (.int i1), some (.long l2), none, some (.int i4), some (.long l5), none, some (.long ((((((f6 (i9 + i4).toNatClampNeg) + ((f12 i9.toNatClampNeg) * l2)) + l7)) / (1000000000 : Int64)))), none, some (.int i9), some (.long ((((f6 (i9 + i4).toNatClampNeg) + ((f12 i9.toNatClampNeg) * l2)) + l7))), none]) d_284_116 rfl ml_284 rfl rfl ?_
    have h := h _ rfl
    refine g_iinc (pc' := 121) (l' := [some (.ref a0), some (.int i1), some (.long l2), none, some (.int i4), some (.long l5), none, some (.long ((((((f6 (i9 + i4).toNatClampNeg) + ((f12 i9.toNatClampNeg) * l2)) + l7)) / (1000000000 : Int64)))), none, some (.int (i9 + (1 : Int32))), some (.long ((((f6 (i9 + i4).toNatClampNeg) + ((f12 i9.toNatClampNeg) * l2)) + l7))), none]) d_284_118 rfl rfl ci_1 ml_284 rfl rfl ?_
    refine g_goto (pt := 59) d_284_121 (by decide) ?_
    exact xGo.more (xle_s (xle_s (xle_s (xle_n (xle_s (xle_s (xle_n (xle_s (xle_n (xle_s (xle_n (xle_n xle_0)))))))))))) h
-- 285 BernoulliWaysModel.digitsOfFull()I
theorem S_285_0 {a0 : Nat} {w : xW} {r : Option Value × xW} (h : xGo 285 3 [some (.ref a0), some (.int (31 : Int32)), none, none, none] [] w r) : xGo 285 0 [some (.ref a0), none, none, none, none] [] w r := by
  refine g_bipush (pc' := 2) d_285_0 rfl cb_31 ?_
  refine g_istoren (pc' := 3) (l' := [some (.ref a0), some (.int (31 : Int32)), none, none, none]) d_285_2 rfl ml_285 rfl rfl ?_
  exact h
theorem S_285_3 {a0 : Nat} {i1 : Int32} {w : xW} {r : Option Value × xW} (h : (i1 ≤ 0 → ∃ fs1, w[a0]? = some (.inr (12, fs1)) ∧ ∃ b3, fs1[23]? = some (.ref b3) ∧ ∃ n5 f6, w[b3]? = some (.inl (.inr (n5, f6))) ∧ (¬ (i1 < 0 ∨ n5 ≤ i1.toNatClampNeg)) ∧ ∀ v9 : Int64, v9 = (f6 i1.toNatClampNeg) → xGo 285 33 [some (.ref a0), some (.int i1), some (.int (0 : Int32)), some (.long v9), none] [] w r) ∧ (¬ (i1 ≤ 0) → ∃ fs10, w[a0]? = some (.inr (12, fs10)) ∧ ∃ b12, fs10[23]? = some (.ref b12) ∧ ∃ n14 f15, w[b12]? = some (.inl (.inr (n14, f15))) ∧ (¬ (i1 < 0 ∨ n14 ≤ i1.toNatClampNeg)) ∧ (¬ (f15 i1.toNatClampNeg) = (0 : Int64) → (¬ (i1 < 0 ∨ n14 ≤ i1.toNatClampNeg)) ∧ ∀ v19 : Int64, v19 = (f15 i1.toNatClampNeg) → xGo 285 33 [some (.ref a0), some (.int i1), some (.int (0 : Int32)), some (.long v19), none] [] w r) ∧ (¬ (¬ (f15 i1.toNatClampNeg) = (0 : Int64)) → ∀ v20 : Int32, v20 = i1 + (-1 : Int32) → xGo 285 3 [some (.ref a0), some (.int v20), none, none, none] [] w r))) : xGo 285 3 [some (.ref a0), some (.int i1), none, none, none] [] w r := by
  refine g_iloadn (pc' := 4) d_285_3 rfl rfl ?_
  refine g_if_le (pc' := 7) (pt := 24) d_285_4 (by decide) rfl (fun c => ?_) (fun c => ?_)
  · replace h := h.1 c
    refine g_iconst (pc' := 25) d_285_24 rfl ci_0 ?_
    refine g_istoren (pc' := 26) (l' := [some (.ref a0), some (.int i1), some (.int (0 : Int32)), none, none]) d_285_25 rfl ml_285 rfl rfl ?_
    refine g_aloadn (pc' := 27) d_285_26 rfl rfl ?_
    obtain ⟨fs1, hw2, h⟩ := h
    obtain ⟨b3, hv4, h⟩ := h
    refine g_getf (pc' := 30) d_285_27 rfl st_285_63 hw2 hv4 ?_
    refine g_iloadn (pc' := 31) d_285_30 rfl rfl ?_
    obtain ⟨n5, f6, hw7, h⟩ := h
    obtain ⟨hc8, h⟩ := h
    refine g_lald (pc' := 32) d_285_31 rfl hw7 hc8 ?_
    have h := h _ rfl
    refine g_lstoren (pc' := 33) (l' := [some (.ref a0), some (.int i1), some (.int (0 : Int32)), some (.long ((f6 i1.toNatClampNeg))), none]) d_285_32 rfl ml_285 rfl rfl ?_
    exact h
  · replace h := h.2 c
    refine g_aloadn (pc' := 8) d_285_7 rfl rfl ?_
    obtain ⟨fs10, hw11, h⟩ := h
    obtain ⟨b12, hv13, h⟩ := h
    refine g_getf (pc' := 11) d_285_8 rfl st_285_63 hw11 hv13 ?_
    refine g_iloadn (pc' := 12) d_285_11 rfl rfl ?_
    obtain ⟨n14, f15, hw16, h⟩ := h
    obtain ⟨hc17, h⟩ := h
    refine g_lald (pc' := 13) d_285_12 rfl hw16 hc17 ?_
    refine g_lconst (pc' := 14) d_285_13 rfl cl_0 ?_
    refine g_lc_ne (pc' := 18) (pm := 15) (pt := 24) d_285_14 rfl d_285_15 (by decide) rfl (fun c => ?_) (fun c => ?_)
    · replace h := h.1 c
      refine g_iconst (pc' := 25) d_285_24 rfl ci_0 ?_
      refine g_istoren (pc' := 26) (l' := [some (.ref a0), some (.int i1), some (.int (0 : Int32)), none, none]) d_285_25 rfl ml_285 rfl rfl ?_
      refine g_aloadn (pc' := 27) d_285_26 rfl rfl ?_
      refine g_getf (pc' := 30) d_285_27 rfl st_285_63 hw11 hv13 ?_
      refine g_iloadn (pc' := 31) d_285_30 rfl rfl ?_
      obtain ⟨hc18, h⟩ := h
      refine g_lald (pc' := 32) d_285_31 rfl hw16 hc18 ?_
      have h := h _ rfl
      refine g_lstoren (pc' := 33) (l' := [some (.ref a0), some (.int i1), some (.int (0 : Int32)), some (.long ((f15 i1.toNatClampNeg))), none]) d_285_32 rfl ml_285 rfl rfl ?_
      exact h
    · replace h := h.2 c
      have h := h _ rfl
      refine g_iinc (pc' := 21) (l' := [some (.ref a0), some (.int (i1 + (-1 : Int32))), none, none, none]) d_285_18 rfl rfl ci_m1 ml_285 rfl rfl ?_
      refine g_goto (pt := 3) d_285_21 (by decide) ?_
      exact h
theorem S_285_33 {a0 : Nat} {i1 : Int32} {i2 : Int32} {l3 : Int64} {w : xW} {r : Option Value × xW} (h : (l3 ≤ (0 : Int64) → (¬ i2 = 0 → r = (some (.int (((9 : Int32) * i1) + i2)), w)) ∧ (¬ (¬ i2 = 0) → r = (some (.int (((9 : Int32) * i1) + (1 : Int32))), w))) ∧ (¬ (l3 ≤ (0 : Int64)) → ∀ v1 : Int32, v1 = i2 + (1 : Int32) → ∀ v2 : Int64, v2 = (l3 / (10 : Int64)) → xGo 285 33 [some (.ref a0), some (.int i1), some (.int v1), some (.long v2), none] [] w r)) : xGo 285 33 [some (.ref a0), some (.int i1), some (.int i2), some (.long l3), none] [] w r := by
  refine g_lloadn (pc' := 34) d_285_33 rfl rfl ?_
  refine g_lconst (pc' := 35) d_285_34 rfl cl_0 ?_
  refine g_lc_le (pc' := 39) (pm := 36) (pt := 51) d_285_35 rfl d_285_36 (by decide) rfl (fun c => ?_) (fun c => ?_)
  · replace h := h.1 c
    refine g_bipush (pc' := 53) d_285_51 rfl cb_9 ?_
    refine g_iloadn (pc' := 54) d_285_53 rfl rfl ?_
    refine g_imul (pc' := 55) d_285_54 rfl ?_
    refine g_iloadn (pc' := 56) d_285_55 rfl rfl ?_
    refine g_if_ne (pc' := 59) (pt := 63) d_285_56 (by decide) rfl (fun c => ?_) (fun c => ?_)
    · replace h := h.1 c
      refine g_iloadn (pc' := 64) d_285_63 rfl rfl ?_
      refine g_iadd (pc' := 65) d_285_64 rfl ?_
      exact g_iret d_285_65 rt_285 h
    · replace h := h.2 c
      refine g_iconst (pc' := 60) d_285_59 rfl ci_1 ?_
      refine g_goto (pt := 64) d_285_60 (by decide) ?_
      refine g_iadd (pc' := 65) d_285_64 rfl ?_
      exact g_iret d_285_65 rt_285 h
  · replace h := h.2 c
    have h := h _ rfl
    refine g_iinc (pc' := 42) (l' := [some (.ref a0), some (.int i1), some (.int (i2 + (1 : Int32))), some (.long l3), none]) d_285_39 rfl rfl ci_1 ml_285 rfl rfl ?_
    refine g_lloadn (pc' := 43) d_285_42 rfl rfl ?_
    refine g_ldc2 (pc' := 46) d_285_43 rfl st_285_331 cL_10 ?_
    refine g_ldiv (pc' := 47) d_285_46 rfl (by decide) ?_
    have h := h _ rfl
    refine g_lstoren (pc' := 48) (l' := [some (.ref a0), some (.int i1), some (.int (i2 + (1 : Int32))), some (.long ((l3 / (10 : Int64)))), none]) d_285_47 rfl ml_285 rfl rfl ?_
    refine g_goto (pt := 33) d_285_48 (by decide) ?_
    exact h
-- 286 BernoulliWaysModel.digit(III)I
theorem S_286_0 {a0 : Nat} {i1 : Int32} {i2 : Int32} {i3 : Int32} {w : xW} {r : Option Value × xW} (h : ∃ fs1, w[a0]? = some (.inr (12, fs1)) ∧ (0 < fs1.length) ∧ ∀ w4, w4 = w.set a0 (.inr (12, fs1.set 0 (.int (0 : Int32)))) → ∃ r7 w5, xCall 280 [.int i1, .int i2] w4 (some (.int r7), w5) ∧ (r7 = 0 → r = (some (.int (-1 : Int32)), w5)) ∧ (¬ (r7 = 0) → (0 ≤ i3 → ∃ fs8, w5[a0]? = some (.inr (12, fs8)) ∧ ∃ w10, xCall 281 [.ref a0, .int i1, .int i2] w5 (none, w10) ∧ ∃ fs12, w10[a0]? = some (.inr (12, fs12)) ∧ ∃ r16 w14, xCall 285 [.ref a0] w10 (some (.int r16), w14) ∧ ∀ v17 : Int32, v17 = ((r16 - (1 : Int32)) - i3) → (0 ≤ v17 → ∃ fs18, w14[a0]? = some (.inr (12, fs18)) ∧ ∃ b20, fs18[23]? = some (.ref b20) ∧ ∃ n22 f23, w14[b20]? = some (.inl (.inr (n22, f23))) ∧ (¬ ((v17 / (9 : Int32)) < 0 ∨ n22 ≤ (v17 / (9 : Int32)).toNatClampNeg)) ∧ ∀ v26 : Int64, v26 = (f23 (v17 / (9 : Int32)).toNatClampNeg) → xGo 286 58 [some (.ref a0), some (.int i1), some (.int i2), some (.int i3), some (.int v17), some (.long v26), none, some (.int (0 : Int32))] [] w14 r) ∧ (¬ (0 ≤ v17) → r = (some (.int (-2 : Int32)), w14))) ∧ (¬ (0 ≤ i3) → r = (some (.int (-1 : Int32)), w5)))) : xGo 286 0 [some (.ref a0), some (.int i1), some (.int i2), some (.int i3), none, none, none, none] [] w r := by
  refine g_aloadn (pc' := 1) d_286_0 rfl rfl ?_
  refine g_iconst (pc' := 2) d_286_1 rfl ci_0 ?_
  obtain ⟨fs1, hw2, h⟩ := h
  obtain ⟨hc3, h⟩ := h
  have h := h _ rfl
  refine g_putf (pc' := 5) d_286_2 rfl st_286_118 ft_12_0 ff_12_0 rfl (Or.inl rfl) hw2 hc3 ?_
  refine g_iloadn (pc' := 6) d_286_5 rfl rfl ?_
  refine g_iloadn (pc' := 7) d_286_6 rfl rfl ?_
  obtain ⟨r7, w5, hk6, h⟩ := h
  refine g_callS (pc' := 10) d_286_7 rfl st_286_333 (Or.inl rfl) na_280 ml_280 rfl rfl rfl rm_286_280 rfl rfl hk6 ?_
  refine g_if_eq (pc' := 13) (pt := 17) d_286_10 (by decide) rfl (fun c => ?_) (fun c => ?_)
  · replace h := h.1 c
    refine g_iconst (pc' := 18) d_286_17 rfl ci_m1 ?_
    exact g_iret d_286_18 rt_286 h
  · replace h := h.2 c
    refine g_iloadn (pc' := 14) d_286_13 rfl rfl ?_
    refine g_if_ge (pc' := 17) (pt := 19) d_286_14 (by decide) rfl (fun c => ?_) (fun c => ?_)
    · replace h := h.1 c
      refine g_aloadn (pc' := 20) d_286_19 rfl rfl ?_
      refine g_iloadn (pc' := 21) d_286_20 rfl rfl ?_
      refine g_iloadn (pc' := 22) d_286_21 rfl rfl ?_
      obtain ⟨fs8, hw9, h⟩ := h
      obtain ⟨w10, hk11, h⟩ := h
      refine g_callV (pc' := 25) d_286_22 rfl st_286_336 na_281 ml_281 rfl rfl rfl rm_286_281 rfl rfl ow_281 hw9 hk11 ?_
      refine g_aloadn (pc' := 26) d_286_25 rfl rfl ?_
      obtain ⟨fs12, hw13, h⟩ := h
      obtain ⟨r16, w14, hk15, h⟩ := h
      refine g_callV (pc' := 29) d_286_26 rfl st_286_339 na_285 ml_285 rfl rfl rfl rm_286_285 rfl rfl ow_285 hw13 hk15 ?_
      refine g_iconst (pc' := 30) d_286_29 rfl ci_1 ?_
      refine g_isub (pc' := 31) d_286_30 rfl ?_
      refine g_iloadn (pc' := 32) d_286_31 rfl rfl ?_
      refine g_isub (pc' := 33) d_286_32 rfl ?_
      have h := h _ rfl
      refine g_istore (pc' := 35) (l' := [some (.ref a0), some (.int i1), some (.int i2), some (.int i3), some (.int (((r16 - (1 : Int32)) - i3))), none, none, none]) d_286_33 rfl ml_286 rfl rfl ?_
      refine g_iload (pc' := 37) d_286_35 rfl rfl ?_
      refine g_if_ge (pc' := 40) (pt := 43) d_286_37 (by decide) rfl (fun c => ?_) (fun c => ?_)
      · replace h := h.1 c
        refine g_aloadn (pc' := 44) d_286_43 rfl rfl ?_
        obtain ⟨fs18, hw19, h⟩ := h
        obtain ⟨b20, hv21, h⟩ := h
        refine g_getf (pc' := 47) d_286_44 rfl st_286_63 hw19 hv21 ?_
        refine g_iload (pc' := 49) d_286_47 rfl rfl ?_
        refine g_bipush (pc' := 51) d_286_49 rfl cb_9 ?_
        refine g_idiv (pc' := 52) d_286_51 rfl (by decide) ?_
        obtain ⟨n22, f23, hw24, h⟩ := h
        obtain ⟨hc25, h⟩ := h
        refine g_lald (pc' := 53) d_286_52 rfl hw24 hc25 ?_
        have h := h _ rfl
        refine g_lstore (pc' := 55) (l' := [some (.ref a0), some (.int i1), some (.int i2), some (.int i3), some (.int (((r16 - (1 : Int32)) - i3))), some (.long ((f23 ((((r16 - (1 : Int32)) - i3)) / (9 : Int32)).toNatClampNeg))), none, none]) d_286_53 rfl ml_286 rfl rfl ?_
        refine g_iconst (pc' := 56) d_286_55 rfl ci_0 ?_
        refine g_istore (pc' := 58) (l' := [some (.ref a0), some (.int i1), some (.int i2), some (.int i3), some (.int (((r16 - (1 : Int32)) - i3))), some (.long ((f23 ((((r16 - (1 : Int32)) - i3)) / (9 : Int32)).toNatClampNeg))), none, some (.int (0 : Int32))]) d_286_56 rfl ml_286 rfl rfl ?_
        exact h
      · replace h := h.2 c
        refine g_bipush (pc' := 42) d_286_40 rfl cb_m2 ?_
        exact g_iret d_286_42 rt_286 h
    · replace h := h.2 c
      refine g_iconst (pc' := 18) d_286_17 rfl ci_m1 ?_
      exact g_iret d_286_18 rt_286 h
theorem S_286_58 {a0 : Nat} {i1 : Int32} {i2 : Int32} {i3 : Int32} {i4 : Int32} {l5 : Int64} {i7 : Int32} {w : xW} {r : Option Value × xW} (h : ((irem i4 (9 : Int32)) ≤ i7 → r = (some (.int ((lrem l5 (10 : Int64)).toInt32)), w)) ∧ (¬ ((irem i4 (9 : Int32)) ≤ i7) → ∀ v1 : Int64, v1 = (l5 / (10 : Int64)) → ∀ v2 : Int32, v2 = i7 + (1 : Int32) → xGo 286 58 [some (.ref a0), some (.int i1), some (.int i2), some (.int i3), some (.int i4), some (.long v1), none, some (.int v2)] [] w r)) : xGo 286 58 [some (.ref a0), some (.int i1), some (.int i2), some (.int i3), some (.int i4), some (.long l5), none, some (.int i7)] [] w r := by
  refine g_iload (pc' := 60) d_286_58 rfl rfl ?_
  refine g_iload (pc' := 62) d_286_60 rfl rfl ?_
  refine g_bipush (pc' := 64) d_286_62 rfl cb_9 ?_
  refine g_irem (pc' := 65) d_286_64 rfl (by decide) ?_
  refine g_ic_ge (pc' := 68) (pt := 82) d_286_65 (by decide) rfl (fun c => ?_) (fun c => ?_)
  · replace h := h.1 c
    refine g_lload (pc' := 84) d_286_82 rfl rfl ?_
    refine g_ldc2 (pc' := 87) d_286_84 rfl st_286_331 cL_10 ?_
    refine g_lrem (pc' := 88) d_286_87 rfl (by decide) ?_
    refine g_l2i (pc' := 89) d_286_88 rfl ?_
    exact g_iret d_286_89 rt_286 h
  · replace h := h.2 c
    refine g_lload (pc' := 70) d_286_68 rfl rfl ?_
    refine g_ldc2 (pc' := 73) d_286_70 rfl st_286_331 cL_10 ?_
    refine g_ldiv (pc' := 74) d_286_73 rfl (by decide) ?_
    have h := h _ rfl
    refine g_lstore (pc' := 76) (l' := [some (.ref a0), some (.int i1), some (.int i2), some (.int i3), some (.int i4), some (.long ((l5 / (10 : Int64)))), none, some (.int i7)]) d_286_74 rfl ml_286 rfl rfl ?_
    have h := h _ rfl
    refine g_iinc (pc' := 79) (l' := [some (.ref a0), some (.int i1), some (.int i2), some (.int i3), some (.int i4), some (.long ((l5 / (10 : Int64)))), none, some (.int (i7 + (1 : Int32)))]) d_286_76 rfl rfl ci_1 ml_286 rfl rfl ?_
    refine g_goto (pt := 58) d_286_79 (by decide) ?_
    exact h
-- 287 BernoulliWaysModel.triangular(III)J
theorem S_287_0 {a0 : Nat} {i1 : Int32} {i2 : Int32} {i3 : Int32} {w : xW} {r : Option Value × xW} (h : ∃ fs1, w[a0]? = some (.inr (12, fs1)) ∧ (0 < fs1.length) ∧ ∀ w4, w4 = w.set a0 (.inr (12, fs1.set 0 (.int (0 : Int32)))) → ∃ r7 w5, xCall 199 [.int i1, .int (1 : Int32), .int (15 : Int32)] w4 (some (.int r7), w5) ∧ (r7 = 0 → r = (some (.long (-9223372036854775808 : Int64)), w5)) ∧ (¬ (r7 = 0) → ((irem i1 (2 : Int32)) = 0 → r = (some (.long (-9223372036854775808 : Int64)), w5)) ∧ (¬ ((irem i1 (2 : Int32)) = 0) → ∃ r10 w8, xCall 199 [.int i2, .int (1 : Int32), .int ((i1 + (1 : Int32)) / (2 : Int32))] w5 (some (.int r10), w8) ∧ (r10 = 0 → r = (some (.long (-9223372036854775808 : Int64)), w8)) ∧ (¬ (r10 = 0) → ∃ r13 w11, xCall 199 [.int i3, .int (0 : Int32), .int (1 : Int32)] w8 (some (.int r13), w11) ∧ (¬ r13 = 0 → ∃ fs14, w11[a0]? = some (.inr (12, fs14)) ∧ ∃ x16, fs14[4]? = some (.int x16) ∧ (i1 ≤ x16 → ∃ r20 w18, xCall 288 [.ref a0, .int i1] w11 (some (.int r20), w18) ∧ (¬ r20 = 0 → (¬ i3 = 0 → ∃ fs21, w18[a0]? = some (.inr (12, fs21)) ∧ ∃ b23, fs21[28]? = some (.ref b23) ∧ ∃ n25 f26, w18[b23]? = some (.inl (.inr (n25, f26))) ∧ (¬ (i2 < 0 ∨ n25 ≤ i2.toNatClampNeg)) ∧ r = (some (.long (f26 i2.toNatClampNeg)), w18)) ∧ (¬ (¬ i3 = 0) → ∃ fs29, w18[a0]? = some (.inr (12, fs29)) ∧ ∃ b31, fs29[27]? = some (.ref b31) ∧ ∃ n33 f34, w18[b31]? = some (.inl (.inr (n33, f34))) ∧ (¬ (i2 < 0 ∨ n33 ≤ i2.toNatClampNeg)) ∧ r = (some (.long (f34 i2.toNatClampNeg)), w18))) ∧ (¬ (¬ r20 = 0) → r = (some (.long (-3 : Int64)), w18))) ∧ (¬ (i1 ≤ x16) → r = (some (.long (-2 : Int64)), w11))) ∧ (¬ (¬ r13 = 0) → r = (some (.long (-9223372036854775808 : Int64)), w11)))))) : xGo 287 0 [some (.ref a0), some (.int i1), some (.int i2), some (.int i3)] [] w r := by
  refine g_aloadn (pc' := 1) d_287_0 rfl rfl ?_
  refine g_iconst (pc' := 2) d_287_1 rfl ci_0 ?_
  obtain ⟨fs1, hw2, h⟩ := h
  obtain ⟨hc3, h⟩ := h
  have h := h _ rfl
  refine g_putf (pc' := 5) d_287_2 rfl st_287_118 ft_12_0 ff_12_0 rfl (Or.inl rfl) hw2 hc3 ?_
  refine g_iloadn (pc' := 6) d_287_5 rfl rfl ?_
  refine g_iconst (pc' := 7) d_287_6 rfl ci_1 ?_
  refine g_bipush (pc' := 9) d_287_7 rfl cb_15 ?_
  obtain ⟨r7, w5, hk6, h⟩ := h
  refine g_callS (pc' := 12) d_287_9 rfl st_287_137 (Or.inl rfl) na_199 ml_199 rfl rfl rfl rm_287_199 rfl rfl hk6 ?_
  refine g_if_eq (pc' := 15) (pt := 43) d_287_12 (by decide) rfl (fun c => ?_) (fun c => ?_)
  · replace h := h.1 c
    refine g_ldc2 (pc' := 46) d_287_43 rfl st_287_166 cL_m9223372036854775808 ?_
    exact g_lret d_287_46 rt_287 h
  · replace h := h.2 c
    refine g_iloadn (pc' := 16) d_287_15 rfl rfl ?_
    refine g_iconst (pc' := 17) d_287_16 rfl ci_2 ?_
    refine g_irem (pc' := 18) d_287_17 rfl (by decide) ?_
    refine g_if_eq (pc' := 21) (pt := 43) d_287_18 (by decide) rfl (fun c => ?_) (fun c => ?_)
    · replace h := h.1 c
      refine g_ldc2 (pc' := 46) d_287_43 rfl st_287_166 cL_m9223372036854775808 ?_
      exact g_lret d_287_46 rt_287 h
    · replace h := h.2 c
      refine g_iloadn (pc' := 22) d_287_21 rfl rfl ?_
      refine g_iconst (pc' := 23) d_287_22 rfl ci_1 ?_
      refine g_iloadn (pc' := 24) d_287_23 rfl rfl ?_
      refine g_iconst (pc' := 25) d_287_24 rfl ci_1 ?_
      refine g_iadd (pc' := 26) d_287_25 rfl ?_
      refine g_iconst (pc' := 27) d_287_26 rfl ci_2 ?_
      refine g_idiv (pc' := 28) d_287_27 rfl (by decide) ?_
      obtain ⟨r10, w8, hk9, h⟩ := h
      refine g_callS (pc' := 31) d_287_28 rfl st_287_137 (Or.inl rfl) na_199 ml_199 rfl rfl rfl rm_287_199 rfl rfl hk9 ?_
      refine g_if_eq (pc' := 34) (pt := 43) d_287_31 (by decide) rfl (fun c => ?_) (fun c => ?_)
      · replace h := h.1 c
        refine g_ldc2 (pc' := 46) d_287_43 rfl st_287_166 cL_m9223372036854775808 ?_
        exact g_lret d_287_46 rt_287 h
      · replace h := h.2 c
        refine g_iloadn (pc' := 35) d_287_34 rfl rfl ?_
        refine g_iconst (pc' := 36) d_287_35 rfl ci_0 ?_
        refine g_iconst (pc' := 37) d_287_36 rfl ci_1 ?_
        obtain ⟨r13, w11, hk12, h⟩ := h
        refine g_callS (pc' := 40) d_287_37 rfl st_287_137 (Or.inl rfl) na_199 ml_199 rfl rfl rfl rm_287_199 rfl rfl hk12 ?_
        refine g_if_ne (pc' := 43) (pt := 47) d_287_40 (by decide) rfl (fun c => ?_) (fun c => ?_)
        · replace h := h.1 c
          refine g_iloadn (pc' := 48) d_287_47 rfl rfl ?_
          refine g_aloadn (pc' := 49) d_287_48 rfl rfl ?_
          obtain ⟨fs14, hw15, h⟩ := h
          obtain ⟨x16, hv17, h⟩ := h
          refine g_getf (pc' := 52) d_287_49 rfl st_287_20 hw15 hv17 ?_
          refine g_ic_le (pc' := 55) (pt := 59) d_287_52 (by decide) rfl (fun c => ?_) (fun c => ?_)
          · replace h := h.1 c
            refine g_aloadn (pc' := 60) d_287_59 rfl rfl ?_
            refine g_iloadn (pc' := 61) d_287_60 rfl rfl ?_
            obtain ⟨r20, w18, hk19, h⟩ := h
            refine g_callV (pc' := 64) d_287_61 rfl st_287_346 na_288 ml_288 rfl rfl rfl rm_287_288 rfl rfl ow_288 hw15 hk19 ?_
            refine g_if_ne (pc' := 67) (pt := 71) d_287_64 (by decide) rfl (fun c => ?_) (fun c => ?_)
            · replace h := h.1 c
              refine g_iloadn (pc' := 72) d_287_71 rfl rfl ?_
              refine g_if_ne (pc' := 75) (pt := 84) d_287_72 (by decide) rfl (fun c => ?_) (fun c => ?_)
              · replace h := h.1 c
                refine g_aloadn (pc' := 85) d_287_84 rfl rfl ?_
                obtain ⟨fs21, hw22, h⟩ := h
                obtain ⟨b23, hv24, h⟩ := h
                refine g_getf (pc' := 88) d_287_85 rfl st_287_78 hw22 hv24 ?_
                refine g_iloadn (pc' := 89) d_287_88 rfl rfl ?_
                obtain ⟨n25, f26, hw27, h⟩ := h
                obtain ⟨hc28, h⟩ := h
                refine g_lald (pc' := 90) d_287_89 rfl hw27 hc28 ?_
                exact g_lret d_287_90 rt_287 h
              · replace h := h.2 c
                refine g_aloadn (pc' := 76) d_287_75 rfl rfl ?_
                obtain ⟨fs29, hw30, h⟩ := h
                obtain ⟨b31, hv32, h⟩ := h
                refine g_getf (pc' := 79) d_287_76 rfl st_287_75 hw30 hv32 ?_
                refine g_iloadn (pc' := 80) d_287_79 rfl rfl ?_
                obtain ⟨n33, f34, hw35, h⟩ := h
                obtain ⟨hc36, h⟩ := h
                refine g_lald (pc' := 81) d_287_80 rfl hw35 hc36 ?_
                refine g_goto (pt := 90) d_287_81 (by decide) ?_
                exact g_lret d_287_90 rt_287 h
            · replace h := h.2 c
              refine g_ldc2 (pc' := 70) d_287_67 rfl st_287_349 cL_m3 ?_
              exact g_lret d_287_70 rt_287 h
          · replace h := h.2 c
            refine g_ldc2 (pc' := 58) d_287_55 rfl st_287_297 cL_m2 ?_
            exact g_lret d_287_58 rt_287 h
        · replace h := h.2 c
          refine g_ldc2 (pc' := 46) d_287_43 rfl st_287_166 cL_m9223372036854775808 ?_
          exact g_lret d_287_46 rt_287 h
-- 288 BernoulliWaysModel.laysTriangles(I)Z
theorem S_288_0 {a0 : Nat} {i1 : Int32} {w : xW} {r : Option Value × xW} (h : ∃ fs1, w[a0]? = some (.inr (12, fs1)) ∧ ∃ w3, xCall 272 [.ref a0, .int i1] w (none, w3) ∧ ∀ v5 : Int32, v5 = ((i1 + (1 : Int32)) / (2 : Int32)) → xGo 288 11 [some (.ref a0), some (.int i1), some (.int v5), none, none, none, none, none, none, none, none, none, none, none, none, none] [] w3 r) : xGo 288 0 [some (.ref a0), some (.int i1), none, none, none, none, none, none, none, none, none, none, none, none, none, none] [] w r := by
  refine g_aloadn (pc' := 1) d_288_0 rfl rfl ?_
  refine g_iloadn (pc' := 2) d_288_1 rfl rfl ?_
  obtain ⟨fs1, hw2, h⟩ := h
  obtain ⟨w3, hk4, h⟩ := h
  refine g_callV (pc' := 5) d_288_2 rfl st_288_299 na_272 ml_272 rfl rfl rfl rm_288_272 rfl rfl ow_272 hw2 hk4 ?_
  refine g_iloadn (pc' := 6) d_288_5 rfl rfl ?_
  refine g_iconst (pc' := 7) d_288_6 rfl ci_1 ?_
  refine g_iadd (pc' := 8) d_288_7 rfl ?_
  refine g_iconst (pc' := 9) d_288_8 rfl ci_2 ?_
  refine g_idiv (pc' := 10) d_288_9 rfl (by decide) ?_
  have h := h _ rfl
  refine g_istoren (pc' := 11) (l' := [some (.ref a0), some (.int i1), some (.int (((i1 + (1 : Int32)) / (2 : Int32)))), none, none, none, none, none, none, none, none, none, none, none, none, none]) d_288_10 rfl ml_288 rfl rfl ?_
  exact h
theorem S_288_11 {a0 : Nat} {i1 : Int32} {i2 : Int32} {w : xW} {r : Option Value × xW} (h : (i2 ≤ 0 → xGo 288 154 [some (.ref a0), some (.int i1), some (.int (0 : Int32)), none, none, none, none, none, none, none, none, none, none, none, none, none] [] w r) ∧ (¬ (i2 ≤ 0) → ∀ v1 : Int64, v1 = ((1 : Int64) <<< (i2.toInt64 &&& 63)) → ∃ fs2, w[a0]? = some (.inr (12, fs2)) ∧ ∃ b4, fs2[22]? = some (.ref b4) ∧ ∃ n6 f7, w[b4]? = some (.inl (.inr (n6, f7))) ∧ (¬ (((2 : Int32) * i2) < 0 ∨ n6 ≤ ((2 : Int32) * i2).toNatClampNeg)) ∧ ∃ r12 w10, xCall 195 [.long v1, .long (f7 ((2 : Int32) * i2).toNatClampNeg)] w (some (.long r12), w10) ∧ ∃ fs13, w10[a0]? = some (.inr (12, fs13)) ∧ ∃ b15, fs13[27]? = some (.ref b15) ∧ ∃ b17, fs13[21]? = some (.ref b17) ∧ ∃ n19 f20, w10[b17]? = some (.inl (.inr (n19, f20))) ∧ (¬ (((2 : Int32) * i2) < 0 ∨ n19 ≤ ((2 : Int32) * i2).toNatClampNeg)) ∧ (¬ r12 = 0) ∧ ∃ n24 f25, w10[b15]? = some (.inl (.inr (n24, f25))) ∧ ∀ v27 : Int64, v27 = ((f20 ((2 : Int32) * i2).toNatClampNeg) * (v1 / r12)) → (¬ (i2 < 0 ∨ n24 ≤ i2.toNatClampNeg)) ∧ ∀ w29, w29 = w10.set b15 (.inl (.inr (n24, (vp_updL f25 i2.toNatClampNeg v27)))) → ∃ fs30, w29[a0]? = some (.inr (12, fs30)) ∧ ∃ b32, fs30[28]? = some (.ref b32) ∧ ∃ b34, fs30[22]? = some (.ref b34) ∧ ∃ n36 f37, w29[b34]? = some (.inl (.inr (n36, f37))) ∧ (¬ (((2 : Int32) * i2) < 0 ∨ n36 ≤ ((2 : Int32) * i2).toNatClampNeg)) ∧ (¬ r12 = 0) ∧ ∃ n41 f42, w29[b32]? = some (.inl (.inr (n41, f42))) ∧ ∀ v44 : Int64, v44 = ((f37 ((2 : Int32) * i2).toNatClampNeg) / r12) → (¬ (i2 < 0 ∨ n41 ≤ i2.toNatClampNeg)) ∧ ∀ w46, w46 = w29.set b32 (.inl (.inr (n41, (vp_updL f42 i2.toNatClampNeg v44)))) → xGo 288 72 [some (.ref a0), some (.int i1), some (.int i2), some (.long v1), none, some (.long r12), none, some (.int (0 : Int32)), none, none, none, none, none, none, none, none] [] w46 r)) : xGo 288 11 [some (.ref a0), some (.int i1), some (.int i2), none, none, none, none, none, none, none, none, none, none, none, none, none] [] w r := by
  refine g_iloadn (pc' := 12) d_288_11 rfl rfl ?_
  refine g_if_le (pc' := 15) (pt := 152) d_288_12 (by decide) rfl (fun c => ?_) (fun c => ?_)
  · replace h := h.1 c
    refine g_iconst (pc' := 153) d_288_152 rfl ci_0 ?_
    refine g_istoren (pc' := 154) (l' := [some (.ref a0), some (.int i1), some (.int (0 : Int32)), none, none, none, none, none, none, none, none, none, none, none, none, none]) d_288_153 rfl ml_288 rfl rfl ?_
    exact h
  · replace h := h.2 c
    refine g_lconst (pc' := 16) d_288_15 rfl cl_1 ?_
    refine g_iloadn (pc' := 17) d_288_16 rfl rfl ?_
    refine g_lshl (pc' := 18) d_288_17 rfl ?_
    have h := h _ rfl
    refine g_lstoren (pc' := 19) (l' := [some (.ref a0), some (.int i1), some (.int i2), some (.long (((1 : Int64) <<< (i2.toInt64 &&& 63)))), none, none, none, none, none, none, none, none, none, none, none, none]) d_288_18 rfl ml_288 rfl rfl ?_
    refine g_lloadn (pc' := 20) d_288_19 rfl rfl ?_
    refine g_aloadn (pc' := 21) d_288_20 rfl rfl ?_
    obtain ⟨fs2, hw3, h⟩ := h
    obtain ⟨b4, hv5, h⟩ := h
    refine g_getf (pc' := 24) d_288_21 rfl st_288_60 hw3 hv5 ?_
    refine g_iconst (pc' := 25) d_288_24 rfl ci_2 ?_
    refine g_iloadn (pc' := 26) d_288_25 rfl rfl ?_
    refine g_imul (pc' := 27) d_288_26 rfl ?_
    obtain ⟨n6, f7, hw8, h⟩ := h
    obtain ⟨hc9, h⟩ := h
    refine g_lald (pc' := 28) d_288_27 rfl hw8 hc9 ?_
    obtain ⟨r12, w10, hk11, h⟩ := h
    refine g_callS (pc' := 31) d_288_28 rfl st_288_121 (Or.inl rfl) na_195 ml_195 rfl rfl rfl rm_288_195 rfl rfl hk11 ?_
    refine g_lstore (pc' := 33) (l' := [some (.ref a0), some (.int i1), some (.int i2), some (.long (((1 : Int64) <<< (i2.toInt64 &&& 63)))), none, some (.long r12), none, none, none, none, none, none, none, none, none, none]) d_288_31 rfl ml_288 rfl rfl ?_
    refine g_aloadn (pc' := 34) d_288_33 rfl rfl ?_
    obtain ⟨fs13, hw14, h⟩ := h
    obtain ⟨b15, hv16, h⟩ := h
    refine g_getf (pc' := 37) d_288_34 rfl st_288_75 hw14 hv16 ?_
    refine g_iloadn (pc' := 38) d_288_37 rfl rfl ?_
    refine g_aloadn (pc' := 39) d_288_38 rfl rfl ?_
    obtain ⟨b17, hv18, h⟩ := h
    refine g_getf (pc' := 42) d_288_39 rfl st_288_57 hw14 hv18 ?_
    refine g_iconst (pc' := 43) d_288_42 rfl ci_2 ?_
    refine g_iloadn (pc' := 44) d_288_43 rfl rfl ?_
    refine g_imul (pc' := 45) d_288_44 rfl ?_
    obtain ⟨n19, f20, hw21, h⟩ := h
    obtain ⟨hc22, h⟩ := h
    refine g_lald (pc' := 46) d_288_45 rfl hw21 hc22 ?_
    refine g_lloadn (pc' := 47) d_288_46 rfl rfl ?_
    refine g_lload (pc' := 49) d_288_47 rfl rfl ?_
    obtain ⟨hc23, h⟩ := h
    refine g_ldiv (pc' := 50) d_288_49 rfl hc23 ?_
    refine g_lmul (pc' := 51) d_288_50 rfl ?_
    obtain ⟨n24, f25, hw26, h⟩ := h
    have h := h _ rfl
    obtain ⟨hc28, h⟩ := h
    have h := h _ rfl
    refine g_last (pc' := 52) d_288_51 rfl hw26 hc28 ?_
    refine g_aloadn (pc' := 53) d_288_52 rfl rfl ?_
    obtain ⟨fs30, hw31, h⟩ := h
    obtain ⟨b32, hv33, h⟩ := h
    refine g_getf (pc' := 56) d_288_53 rfl st_288_78 hw31 hv33 ?_
    refine g_iloadn (pc' := 57) d_288_56 rfl rfl ?_
    refine g_aloadn (pc' := 58) d_288_57 rfl rfl ?_
    obtain ⟨b34, hv35, h⟩ := h
    refine g_getf (pc' := 61) d_288_58 rfl st_288_60 hw31 hv35 ?_
    refine g_iconst (pc' := 62) d_288_61 rfl ci_2 ?_
    refine g_iloadn (pc' := 63) d_288_62 rfl rfl ?_
    refine g_imul (pc' := 64) d_288_63 rfl ?_
    obtain ⟨n36, f37, hw38, h⟩ := h
    obtain ⟨hc39, h⟩ := h
    refine g_lald (pc' := 65) d_288_64 rfl hw38 hc39 ?_
    refine g_lload (pc' := 67) d_288_65 rfl rfl ?_
    obtain ⟨hc40, h⟩ := h
    refine g_ldiv (pc' := 68) d_288_67 rfl hc40 ?_
    obtain ⟨n41, f42, hw43, h⟩ := h
    have h := h _ rfl
    obtain ⟨hc45, h⟩ := h
    have h := h _ rfl
    refine g_last (pc' := 69) d_288_68 rfl hw43 hc45 ?_
    refine g_iconst (pc' := 70) d_288_69 rfl ci_0 ?_
    refine g_istore (pc' := 72) (l' := [some (.ref a0), some (.int i1), some (.int i2), some (.long (((1 : Int64) <<< (i2.toInt64 &&& 63)))), none, some (.long r12), none, some (.int (0 : Int32)), none, none, none, none, none, none, none, none]) d_288_70 rfl ml_288 rfl rfl ?_
    exact h
theorem S_288_72 {a0 : Nat} {i1 : Int32} {i2 : Int32} {l3 : Int64} {l5 : Int64} {i7 : Int32} {w : xW} {r : Option Value × xW} (h : (i2 < i7 → ∀ v1 : Int32, v1 = i2 + (-1 : Int32) → xGo 288 11 [some (.ref a0), some (.int i1), some (.int v1), none, none, none, none, none, none, none, none, none, none, none, none, none] [] w r) ∧ (¬ (i2 < i7) → ∃ fs2, w[a0]? = some (.inr (12, fs2)) ∧ ∃ b4, fs2[5]? = some (.ref b4) ∧ ∃ n6 f7, w[b4]? = some (.inl (.inr (n6, f7))) ∧ (¬ ((((40 : Int32) * i2) + i7) < 0 ∨ n6 ≤ (((40 : Int32) * i2) + i7).toNatClampNeg)) ∧ ∀ v10 : Int64, v10 = (f7 (((40 : Int32) * i2) + i7).toNatClampNeg) → ∃ b11, fs2[27]? = some (.ref b11) ∧ ∃ n13 f14, w[b11]? = some (.inl (.inr (n13, f14))) ∧ (¬ (i2 < 0 ∨ n13 ≤ i2.toNatClampNeg)) ∧ ∀ v17 : Int64, v17 = ((f14 i2.toNatClampNeg) * v10) → ∃ b18, fs2[28]? = some (.ref b18) ∧ ∃ n20 f21, w[b18]? = some (.inl (.inr (n20, f21))) ∧ (¬ (i2 < 0 ∨ n20 ≤ i2.toNatClampNeg)) ∧ ∀ v24 : Int64, v24 = ((f21 i2.toNatClampNeg) * l3) → ∃ r27 w25, xCall 195 [.long v17, .long v24] w (some (.long r27), w25) ∧ (¬ r27 = 0) ∧ (¬ r27 = 0) ∧ ∃ fs30, w25[a0]? = some (.inr (12, fs30)) ∧ ∃ w32, xCall 289 [.ref a0, .int (i2 + i7), .long (v17 / r27), .long (v24 / r27)] w25 (none, w32) ∧ ∀ v34 : Int32, v34 = i7 + (1 : Int32) → xGo 288 72 [some (.ref a0), some (.int i1), some (.int i2), some (.long l3), none, some (.long l5), none, some (.int v34), none, none, none, none, none, none, none, none] [] w32 r)) : xGo 288 72 [some (.ref a0), some (.int i1), some (.int i2), some (.long l3), none, some (.long l5), none, some (.int i7), none, none, none, none, none, none, none, none] [] w r := by
  refine g_iload (pc' := 74) d_288_72 rfl rfl ?_
  refine g_iloadn (pc' := 75) d_288_74 rfl rfl ?_
  refine g_ic_gt (pc' := 78) (pt := 146) d_288_75 (by decide) rfl (fun c => ?_) (fun c => ?_)
  · replace h := h.1 c
    have h := h _ rfl
    refine g_iinc (pc' := 149) (l' := [some (.ref a0), some (.int i1), some (.int (i2 + (-1 : Int32))), some (.long l3), none, some (.long l5), none, some (.int i7), none, none, none, none, none, none, none, none]) d_288_146 rfl rfl ci_m1 ml_288 rfl rfl ?_
    refine g_goto (pt := 11) d_288_149 (by decide) ?_
    exact xGo.more (xle_s (xle_s (xle_s (xle_n (xle_n (xle_n (xle_n (xle_n (xle_n (xle_n (xle_n (xle_n (xle_n (xle_n (xle_n (xle_n xle_0)))))))))))))))) h
  · replace h := h.2 c
    refine g_aloadn (pc' := 79) d_288_78 rfl rfl ?_
    obtain ⟨fs2, hw3, h⟩ := h
    obtain ⟨b4, hv5, h⟩ := h
    refine g_getf (pc' := 82) d_288_79 rfl st_288_24 hw3 hv5 ?_
    refine g_bipush (pc' := 84) d_288_82 rfl cb_40 ?_
    refine g_iloadn (pc' := 85) d_288_84 rfl rfl ?_
    refine g_imul (pc' := 86) d_288_85 rfl ?_
    refine g_iload (pc' := 88) d_288_86 rfl rfl ?_
    refine g_iadd (pc' := 89) d_288_88 rfl ?_
    obtain ⟨n6, f7, hw8, h⟩ := h
    obtain ⟨hc9, h⟩ := h
    refine g_lald (pc' := 90) d_288_89 rfl hw8 hc9 ?_
    have h := h _ rfl
    refine g_lstore (pc' := 92) (l' := [some (.ref a0), some (.int i1), some (.int i2), some (.long l3), none, some (.long l5), none, some (.int i7), some (.long ((f7 (((40 : Int32) * i2) + i7).toNatClampNeg))), none, none, none, none, none, none, none]) d_288_90 rfl ml_288 rfl rfl ?_
    refine g_aloadn (pc' := 93) d_288_92 rfl rfl ?_
    obtain ⟨b11, hv12, h⟩ := h
    refine g_getf (pc' := 96) d_288_93 rfl st_288_75 hw3 hv12 ?_
    refine g_iloadn (pc' := 97) d_288_96 rfl rfl ?_
    obtain ⟨n13, f14, hw15, h⟩ := h
    obtain ⟨hc16, h⟩ := h
    refine g_lald (pc' := 98) d_288_97 rfl hw15 hc16 ?_
    refine g_lload (pc' := 100) d_288_98 rfl rfl ?_
    refine g_lmul (pc' := 101) d_288_100 rfl ?_
    have h := h _ rfl
    refine g_lstore (pc' := 103) (l' := [some (.ref a0), some (.int i1), some (.int i2), some (.long l3), none, some (.long l5), none, some (.int i7), some (.long ((f7 (((40 : Int32) * i2) + i7).toNatClampNeg))), none, some (.long (((f14 i2.toNatClampNeg) * ((f7 (((40 : Int32) * i2) + i7).toNatClampNeg))))), none, none, none, none, none]) d_288_101 rfl ml_288 rfl rfl ?_
    refine g_aloadn (pc' := 104) d_288_103 rfl rfl ?_
    obtain ⟨b18, hv19, h⟩ := h
    refine g_getf (pc' := 107) d_288_104 rfl st_288_78 hw3 hv19 ?_
    refine g_iloadn (pc' := 108) d_288_107 rfl rfl ?_
    obtain ⟨n20, f21, hw22, h⟩ := h
    obtain ⟨hc23, h⟩ := h
    refine g_lald (pc' := 109) d_288_108 rfl hw22 hc23 ?_
    refine g_lloadn (pc' := 110) d_288_109 rfl rfl ?_
    refine g_lmul (pc' := 111) d_288_110 rfl ?_
    have h := h _ rfl
    refine g_lstore (pc' := 113) (l' := [some (.ref a0), some (.int i1), some (.int i2), some (.long l3), none, some (.long l5), none, some (.int i7), some (.long ((f7 (((40 : Int32) * i2) + i7).toNatClampNeg))), none, some (.long (((f14 i2.toNatClampNeg) * ((f7 (((40 : Int32) * i2) + i7).toNatClampNeg))))), none, some (.long (((f21 i2.toNatClampNeg) * l3))), none, none, none]) d_288_111 rfl ml_288 rfl rfl ?_
    refine g_lload (pc' := 115) d_288_113 rfl rfl ?_
    refine g_lload (pc' := 117) d_288_115 rfl rfl ?_
    obtain ⟨r27, w25, hk26, h⟩ := h
    refine g_callS (pc' := 120) d_288_117 rfl st_288_121 (Or.inl rfl) na_195 ml_195 rfl rfl rfl rm_288_195 rfl rfl hk26 ?_
    refine g_lstore (pc' := 122) (l' := [some (.ref a0), some (.int i1), some (.int i2), some (.long l3), none, some (.long l5), none, some (.int i7), some (.long ((f7 (((40 : Int32) * i2) + i7).toNatClampNeg))), none, some (.long (((f14 i2.toNatClampNeg) * ((f7 (((40 : Int32) * i2) + i7).toNatClampNeg))))), none, some (.long (((f21 i2.toNatClampNeg) * l3))), none, some (.long r27), none]) d_288_120 rfl ml_288 rfl rfl ?_
    refine g_aloadn (pc' := 123) d_288_122 rfl rfl ?_
    refine g_iloadn (pc' := 124) d_288_123 rfl rfl ?_
    refine g_iload (pc' := 126) d_288_124 rfl rfl ?_
    refine g_iadd (pc' := 127) d_288_126 rfl ?_
    refine g_lload (pc' := 129) d_288_127 rfl rfl ?_
    refine g_lload (pc' := 131) d_288_129 rfl rfl ?_
    obtain ⟨hc28, h⟩ := h
    refine g_ldiv (pc' := 132) d_288_131 rfl hc28 ?_
    refine g_lload (pc' := 134) d_288_132 rfl rfl ?_
    refine g_lload (pc' := 136) d_288_134 rfl rfl ?_
    obtain ⟨hc29, h⟩ := h
    refine g_ldiv (pc' := 137) d_288_136 rfl hc29 ?_
    obtain ⟨fs30, hw31, h⟩ := h
    obtain ⟨w32, hk33, h⟩ := h
    refine g_callV (pc' := 140) d_288_137 rfl st_288_343 na_289 ml_289 rfl rfl rfl rm_288_289 rfl rfl ow_289 hw31 hk33 ?_
    have h := h _ rfl
    refine g_iinc (pc' := 143) (l' := [some (.ref a0), some (.int i1), some (.int i2), some (.long l3), none, some (.long l5), none, some (.int (i7 + (1 : Int32))), some (.long ((f7 (((40 : Int32) * i2) + i7).toNatClampNeg))), none, some (.long (((f14 i2.toNatClampNeg) * ((f7 (((40 : Int32) * i2) + i7).toNatClampNeg))))), none, some (.long (((f21 i2.toNatClampNeg) * l3))), none, some (.long r27), none]) d_288_140 rfl rfl ci_1 ml_288 rfl rfl ?_
    refine g_goto (pt := 72) d_288_143 (by decide) ?_
    exact xGo.more (xle_s (xle_s (xle_s (xle_s (xle_n (xle_s (xle_n (xle_s (xle_n (xle_n (xle_n (xle_n (xle_n (xle_n (xle_n (xle_n xle_0)))))))))))))))) h
theorem S_288_154 {a0 : Nat} {i1 : Int32} {i2 : Int32} {w : xW} {r : Option Value × xW} (h : ((i1 + (1 : Int32)) < i2 → r = (some (.int (1 : Int32)), w)) ∧ (¬ ((i1 + (1 : Int32)) < i2) → ∃ fs1, w[a0]? = some (.inr (12, fs1)) ∧ ∃ b3, fs1[21]? = some (.ref b3) ∧ ∃ n5 f6, w[b3]? = some (.inl (.inr (n5, f6))) ∧ (¬ (i2 < 0 ∨ n5 ≤ i2.toNatClampNeg)) ∧ ((f6 i2.toNatClampNeg) = (0 : Int64) → ∀ v9 : Int32, v9 = i2 + (1 : Int32) → xGo 288 154 [some (.ref a0), some (.int i1), some (.int v9), none, none, none, none, none, none, none, none, none, none, none, none, none] [] w r) ∧ (¬ ((f6 i2.toNatClampNeg) = (0 : Int64)) → r = (some (.int (0 : Int32)), w)))) : xGo 288 154 [some (.ref a0), some (.int i1), some (.int i2), none, none, none, none, none, none, none, none, none, none, none, none, none] [] w r := by
  refine g_iloadn (pc' := 155) d_288_154 rfl rfl ?_
  refine g_iloadn (pc' := 156) d_288_155 rfl rfl ?_
  refine g_iconst (pc' := 157) d_288_156 rfl ci_1 ?_
  refine g_iadd (pc' := 158) d_288_157 rfl ?_
  refine g_ic_gt (pc' := 161) (pt := 180) d_288_158 (by decide) rfl (fun c => ?_) (fun c => ?_)
  · replace h := h.1 c
    refine g_iconst (pc' := 181) d_288_180 rfl ci_1 ?_
    exact g_zret d_288_181 rt_288 (Or.inr rfl) h
  · replace h := h.2 c
    refine g_aloadn (pc' := 162) d_288_161 rfl rfl ?_
    obtain ⟨fs1, hw2, h⟩ := h
    obtain ⟨b3, hv4, h⟩ := h
    refine g_getf (pc' := 165) d_288_162 rfl st_288_57 hw2 hv4 ?_
    refine g_iloadn (pc' := 166) d_288_165 rfl rfl ?_
    obtain ⟨n5, f6, hw7, h⟩ := h
    obtain ⟨hc8, h⟩ := h
    refine g_lald (pc' := 167) d_288_166 rfl hw7 hc8 ?_
    refine g_lconst (pc' := 168) d_288_167 rfl cl_0 ?_
    refine g_lc_eq (pc' := 172) (pm := 169) (pt := 174) d_288_168 rfl d_288_169 (by decide) rfl (fun c => ?_) (fun c => ?_)
    · replace h := h.1 c
      have h := h _ rfl
      refine g_iinc (pc' := 177) (l' := [some (.ref a0), some (.int i1), some (.int (i2 + (1 : Int32))), none, none, none, none, none, none, none, none, none, none, none, none, none]) d_288_174 rfl rfl ci_1 ml_288 rfl rfl ?_
      refine g_goto (pt := 154) d_288_177 (by decide) ?_
      exact h
    · replace h := h.2 c
      refine g_iconst (pc' := 173) d_288_172 rfl ci_0 ?_
      exact g_zret d_288_173 rt_288 (Or.inl rfl) h
-- 289 BernoulliWaysModel.takes(IJJ)V
theorem S_289_0 {a0 : Nat} {i1 : Int32} {l2 : Int64} {l4 : Int64} {w : xW} {r : Option Value × xW} (h : ∃ fs1, w[a0]? = some (.inr (12, fs1)) ∧ ∃ b3, fs1[22]? = some (.ref b3) ∧ ∃ n5 f6, w[b3]? = some (.inl (.inr (n5, f6))) ∧ (¬ (i1 < 0 ∨ n5 ≤ i1.toNatClampNeg)) ∧ ∃ r11 w9, xCall 195 [.long (f6 i1.toNatClampNeg), .long l4] w (some (.long r11), w9) ∧ ∃ fs12, w9[a0]? = some (.inr (12, fs12)) ∧ ∃ b14, fs12[21]? = some (.ref b14) ∧ ∃ n16 f17, w9[b14]? = some (.inl (.inr (n16, f17))) ∧ (¬ (i1 < 0 ∨ n16 ≤ i1.toNatClampNeg)) ∧ (¬ r11 = 0) ∧ ∃ b21, fs12[22]? = some (.ref b21) ∧ ∃ n23 f24, w9[b21]? = some (.inl (.inr (n23, f24))) ∧ (¬ (i1 < 0 ∨ n23 ≤ i1.toNatClampNeg)) ∧ (¬ r11 = 0) ∧ (¬ (i1 < 0 ∨ n23 ≤ i1.toNatClampNeg)) ∧ (¬ r11 = 0) ∧ ∃ w30, xCall 273 [.ref a0, .int i1, .long (((f17 i1.toNatClampNeg) * (l4 / r11)) - (l2 * ((f24 i1.toNatClampNeg) / r11))), .long (((f24 i1.toNatClampNeg) / r11) * l4)] w9 (none, w30) ∧ r = (none, w30)) : xGo 289 0 [some (.ref a0), some (.int i1), some (.long l2), none, some (.long l4), none, none, none] [] w r := by
  refine g_aloadn (pc' := 1) d_289_0 rfl rfl ?_
  obtain ⟨fs1, hw2, h⟩ := h
  obtain ⟨b3, hv4, h⟩ := h
  refine g_getf (pc' := 4) d_289_1 rfl st_289_60 hw2 hv4 ?_
  refine g_iloadn (pc' := 5) d_289_4 rfl rfl ?_
  obtain ⟨n5, f6, hw7, h⟩ := h
  obtain ⟨hc8, h⟩ := h
  refine g_lald (pc' := 6) d_289_5 rfl hw7 hc8 ?_
  refine g_lload (pc' := 8) d_289_6 rfl rfl ?_
  obtain ⟨r11, w9, hk10, h⟩ := h
  refine g_callS (pc' := 11) d_289_8 rfl st_289_121 (Or.inl rfl) na_195 ml_195 rfl rfl rfl rm_289_195 rfl rfl hk10 ?_
  refine g_lstore (pc' := 13) (l' := [some (.ref a0), some (.int i1), some (.long l2), none, some (.long l4), none, some (.long r11), none]) d_289_11 rfl ml_289 rfl rfl ?_
  refine g_aloadn (pc' := 14) d_289_13 rfl rfl ?_
  refine g_iloadn (pc' := 15) d_289_14 rfl rfl ?_
  refine g_aloadn (pc' := 16) d_289_15 rfl rfl ?_
  obtain ⟨fs12, hw13, h⟩ := h
  obtain ⟨b14, hv15, h⟩ := h
  refine g_getf (pc' := 19) d_289_16 rfl st_289_57 hw13 hv15 ?_
  refine g_iloadn (pc' := 20) d_289_19 rfl rfl ?_
  obtain ⟨n16, f17, hw18, h⟩ := h
  obtain ⟨hc19, h⟩ := h
  refine g_lald (pc' := 21) d_289_20 rfl hw18 hc19 ?_
  refine g_lload (pc' := 23) d_289_21 rfl rfl ?_
  refine g_lload (pc' := 25) d_289_23 rfl rfl ?_
  obtain ⟨hc20, h⟩ := h
  refine g_ldiv (pc' := 26) d_289_25 rfl hc20 ?_
  refine g_lmul (pc' := 27) d_289_26 rfl ?_
  refine g_lloadn (pc' := 28) d_289_27 rfl rfl ?_
  refine g_aloadn (pc' := 29) d_289_28 rfl rfl ?_
  obtain ⟨b21, hv22, h⟩ := h
  refine g_getf (pc' := 32) d_289_29 rfl st_289_60 hw13 hv22 ?_
  refine g_iloadn (pc' := 33) d_289_32 rfl rfl ?_
  obtain ⟨n23, f24, hw25, h⟩ := h
  obtain ⟨hc26, h⟩ := h
  refine g_lald (pc' := 34) d_289_33 rfl hw25 hc26 ?_
  refine g_lload (pc' := 36) d_289_34 rfl rfl ?_
  obtain ⟨hc27, h⟩ := h
  refine g_ldiv (pc' := 37) d_289_36 rfl hc27 ?_
  refine g_lmul (pc' := 38) d_289_37 rfl ?_
  refine g_lsub (pc' := 39) d_289_38 rfl ?_
  refine g_aloadn (pc' := 40) d_289_39 rfl rfl ?_
  refine g_getf (pc' := 43) d_289_40 rfl st_289_60 hw13 hv22 ?_
  refine g_iloadn (pc' := 44) d_289_43 rfl rfl ?_
  obtain ⟨hc28, h⟩ := h
  refine g_lald (pc' := 45) d_289_44 rfl hw25 hc28 ?_
  refine g_lload (pc' := 47) d_289_45 rfl rfl ?_
  obtain ⟨hc29, h⟩ := h
  refine g_ldiv (pc' := 48) d_289_47 rfl hc29 ?_
  refine g_lload (pc' := 50) d_289_48 rfl rfl ?_
  refine g_lmul (pc' := 51) d_289_50 rfl ?_
  obtain ⟨w30, hk31, h⟩ := h
  refine g_callV (pc' := 54) d_289_51 rfl st_289_293 na_273 ml_273 rfl rfl rfl rm_289_273 rfl rfl ow_273 hw13 hk31 ?_
  exact g_vret d_289_54 rt_289 h
-- 290 BernoulliWaysModel.poly(III)J
theorem S_290_0 {a0 : Nat} {i1 : Int32} {i2 : Int32} {i3 : Int32} {w : xW} {r : Option Value × xW} (h : ∃ fs1, w[a0]? = some (.inr (12, fs1)) ∧ (0 < fs1.length) ∧ ∀ w4, w4 = w.set a0 (.inr (12, fs1.set 0 (.int (0 : Int32)))) → ∃ r7 w5, xCall 198 [.ref a0, .int i1] w4 (some (.int r7), w5) ∧ (r7 = 0 → r = (some (.long (-9223372036854775808 : Int64)), w5)) ∧ (¬ (r7 = 0) → ∃ r10 w8, xCall 199 [.int i2, .int (0 : Int32), .int i1] w5 (some (.int r10), w8) ∧ (r10 = 0 → r = (some (.long (-9223372036854775808 : Int64)), w8)) ∧ (¬ (r10 = 0) → ∃ r13 w11, xCall 199 [.int i3, .int (0 : Int32), .int (2 : Int32)] w8 (some (.int r13), w11) ∧ (r13 = 0 → r = (some (.long (-9223372036854775808 : Int64)), w11)) ∧ (¬ (r13 = 0) → ∃ fs14, w11[a0]? = some (.inr (12, fs14)) ∧ ∃ x16, fs14[4]? = some (.int x16) ∧ ((i1 - i2) ≤ x16 → ∀ v18 : Int32, v18 = ((3 : Int32) * (i1 - i2)) → ∃ b19, fs14[5]? = some (.ref b19) ∧ ∃ n21 f22, w11[b19]? = some (.inl (.inr (n21, f22))) ∧ (¬ ((((40 : Int32) * i1) + i2) < 0 ∨ n21 ≤ (((40 : Int32) * i1) + i2).toNatClampNeg)) ∧ ∀ v25 : Int64, v25 = (f22 (((40 : Int32) * i1) + i2).toNatClampNeg) → ∃ b26, fs14[2]? = some (.ref b26) ∧ ∃ n28 f29, w11[b26]? = some (.inl (.inr (n28, f29))) ∧ (¬ ((v18 + (1 : Int32)) < 0 ∨ n28 ≤ (v18 + (1 : Int32)).toNatClampNeg)) ∧ ∀ v32 : Int64, v32 = (v25 * (f29 (v18 + (1 : Int32)).toNatClampNeg)) → ∃ b33, fs14[29]? = some (.ref b33) ∧ (¬ (v18 < 0 ∨ n28 ≤ v18.toNatClampNeg)) ∧ (¬ ((v18 + (2 : Int32)) < 0 ∨ n28 ≤ (v18 + (2 : Int32)).toNatClampNeg)) ∧ (¬ (f29 (v18 + (2 : Int32)).toNatClampNeg) = 0) ∧ (¬ ((v18 + (2 : Int32)) < 0 ∨ n28 ≤ (v18 + (2 : Int32)).toNatClampNeg)) ∧ (¬ (f29 (v18 + (2 : Int32)).toNatClampNeg) = 0) ∧ (¬ ((v18 + (2 : Int32)) < 0 ∨ n28 ≤ (v18 + (2 : Int32)).toNatClampNeg)) ∧ ∃ w41, xCall 194 [.ref a0, .ref b33, .int (0 : Int32), .long ((v25 * (f29 v18.toNatClampNeg)) + (v32 / (f29 (v18 + (2 : Int32)).toNatClampNeg))), .long (lrem v32 (f29 (v18 + (2 : Int32)).toNatClampNeg)), .long (f29 (v18 + (2 : Int32)).toNatClampNeg)] w11 (none, w41) ∧ ∃ fs43, w41[a0]? = some (.inr (12, fs43)) ∧ ∃ b45, fs43[29]? = some (.ref b45) ∧ ∃ n47 f48, w41[b45]? = some (.inl (.inr (n47, f48))) ∧ (¬ (i3 < 0 ∨ n47 ≤ i3.toNatClampNeg)) ∧ r = (some (.long (f48 i3.toNatClampNeg)), w41)) ∧ (¬ ((i1 - i2) ≤ x16) → r = (some (.long (-9223372036854775808 : Int64)), w11)))))) : xGo 290 0 [some (.ref a0), some (.int i1), some (.int i2), some (.int i3), none, none, none, none, none] [] w r := by
  refine g_aloadn (pc' := 1) d_290_0 rfl rfl ?_
  refine g_iconst (pc' := 2) d_290_1 rfl ci_0 ?_
  obtain ⟨fs1, hw2, h⟩ := h
  obtain ⟨hc3, h⟩ := h
  have h := h _ rfl
  refine g_putf (pc' := 5) d_290_2 rfl st_290_118 ft_12_0 ff_12_0 rfl (Or.inl rfl) hw2 hc3 ?_
  refine g_aloadn (pc' := 6) d_290_5 rfl rfl ?_
  refine g_iloadn (pc' := 7) d_290_6 rfl rfl ?_
  obtain ⟨r7, w5, hk6, h⟩ := h
  refine g_callV (pc' := 10) d_290_7 rfl st_290_145 na_198 ml_198 rfl rfl rfl rm_290_198 rfl rfl ow_198 (x_gss hw2) hk6 ?_
  refine g_if_eq (pc' := 13) (pt := 41) d_290_10 (by decide) rfl (fun c => ?_) (fun c => ?_)
  · replace h := h.1 c
    refine g_ldc2 (pc' := 44) d_290_41 rfl st_290_166 cL_m9223372036854775808 ?_
    exact g_lret d_290_44 rt_290 h
  · replace h := h.2 c
    refine g_iloadn (pc' := 14) d_290_13 rfl rfl ?_
    refine g_iconst (pc' := 15) d_290_14 rfl ci_0 ?_
    refine g_iloadn (pc' := 16) d_290_15 rfl rfl ?_
    obtain ⟨r10, w8, hk9, h⟩ := h
    refine g_callS (pc' := 19) d_290_16 rfl st_290_137 (Or.inl rfl) na_199 ml_199 rfl rfl rfl rm_290_199 rfl rfl hk9 ?_
    refine g_if_eq (pc' := 22) (pt := 41) d_290_19 (by decide) rfl (fun c => ?_) (fun c => ?_)
    · replace h := h.1 c
      refine g_ldc2 (pc' := 44) d_290_41 rfl st_290_166 cL_m9223372036854775808 ?_
      exact g_lret d_290_44 rt_290 h
    · replace h := h.2 c
      refine g_iloadn (pc' := 23) d_290_22 rfl rfl ?_
      refine g_iconst (pc' := 24) d_290_23 rfl ci_0 ?_
      refine g_iconst (pc' := 25) d_290_24 rfl ci_2 ?_
      obtain ⟨r13, w11, hk12, h⟩ := h
      refine g_callS (pc' := 28) d_290_25 rfl st_290_137 (Or.inl rfl) na_199 ml_199 rfl rfl rfl rm_290_199 rfl rfl hk12 ?_
      refine g_if_eq (pc' := 31) (pt := 41) d_290_28 (by decide) rfl (fun c => ?_) (fun c => ?_)
      · replace h := h.1 c
        refine g_ldc2 (pc' := 44) d_290_41 rfl st_290_166 cL_m9223372036854775808 ?_
        exact g_lret d_290_44 rt_290 h
      · replace h := h.2 c
        refine g_iloadn (pc' := 32) d_290_31 rfl rfl ?_
        refine g_iloadn (pc' := 33) d_290_32 rfl rfl ?_
        refine g_isub (pc' := 34) d_290_33 rfl ?_
        refine g_aloadn (pc' := 35) d_290_34 rfl rfl ?_
        obtain ⟨fs14, hw15, h⟩ := h
        obtain ⟨x16, hv17, h⟩ := h
        refine g_getf (pc' := 38) d_290_35 rfl st_290_20 hw15 hv17 ?_
        refine g_ic_le (pc' := 41) (pt := 45) d_290_38 (by decide) rfl (fun c => ?_) (fun c => ?_)
        · replace h := h.1 c
          refine g_iconst (pc' := 46) d_290_45 rfl ci_3 ?_
          refine g_iloadn (pc' := 47) d_290_46 rfl rfl ?_
          refine g_iloadn (pc' := 48) d_290_47 rfl rfl ?_
          refine g_isub (pc' := 49) d_290_48 rfl ?_
          refine g_imul (pc' := 50) d_290_49 rfl ?_
          have h := h _ rfl
          refine g_istore (pc' := 52) (l' := [some (.ref a0), some (.int i1), some (.int i2), some (.int i3), some (.int (((3 : Int32) * (i1 - i2)))), none, none, none, none]) d_290_50 rfl ml_290 rfl rfl ?_
          refine g_aloadn (pc' := 53) d_290_52 rfl rfl ?_
          obtain ⟨b19, hv20, h⟩ := h
          refine g_getf (pc' := 56) d_290_53 rfl st_290_24 hw15 hv20 ?_
          refine g_bipush (pc' := 58) d_290_56 rfl cb_40 ?_
          refine g_iloadn (pc' := 59) d_290_58 rfl rfl ?_
          refine g_imul (pc' := 60) d_290_59 rfl ?_
          refine g_iloadn (pc' := 61) d_290_60 rfl rfl ?_
          refine g_iadd (pc' := 62) d_290_61 rfl ?_
          obtain ⟨n21, f22, hw23, h⟩ := h
          obtain ⟨hc24, h⟩ := h
          refine g_lald (pc' := 63) d_290_62 rfl hw23 hc24 ?_
          have h := h _ rfl
          refine g_lstore (pc' := 65) (l' := [some (.ref a0), some (.int i1), some (.int i2), some (.int i3), some (.int (((3 : Int32) * (i1 - i2)))), some (.long ((f22 (((40 : Int32) * i1) + i2).toNatClampNeg))), none, none, none]) d_290_63 rfl ml_290 rfl rfl ?_
          refine g_lload (pc' := 67) d_290_65 rfl rfl ?_
          refine g_aloadn (pc' := 68) d_290_67 rfl rfl ?_
          obtain ⟨b26, hv27, h⟩ := h
          refine g_getf (pc' := 71) d_290_68 rfl st_290_13 hw15 hv27 ?_
          refine g_iload (pc' := 73) d_290_71 rfl rfl ?_
          refine g_iconst (pc' := 74) d_290_73 rfl ci_1 ?_
          refine g_iadd (pc' := 75) d_290_74 rfl ?_
          obtain ⟨n28, f29, hw30, h⟩ := h
          obtain ⟨hc31, h⟩ := h
          refine g_lald (pc' := 76) d_290_75 rfl hw30 hc31 ?_
          refine g_lmul (pc' := 77) d_290_76 rfl ?_
          have h := h _ rfl
          refine g_lstore (pc' := 79) (l' := [some (.ref a0), some (.int i1), some (.int i2), some (.int i3), some (.int (((3 : Int32) * (i1 - i2)))), some (.long ((f22 (((40 : Int32) * i1) + i2).toNatClampNeg))), none, some (.long ((((f22 (((40 : Int32) * i1) + i2).toNatClampNeg)) * (f29 ((((3 : Int32) * (i1 - i2))) + (1 : Int32)).toNatClampNeg)))), none]) d_290_77 rfl ml_290 rfl rfl ?_
          refine g_aloadn (pc' := 80) d_290_79 rfl rfl ?_
          refine g_aloadn (pc' := 81) d_290_80 rfl rfl ?_
          obtain ⟨b33, hv34, h⟩ := h
          refine g_getf (pc' := 84) d_290_81 rfl st_290_81 hw15 hv34 ?_
          refine g_iconst (pc' := 85) d_290_84 rfl ci_0 ?_
          refine g_lload (pc' := 87) d_290_85 rfl rfl ?_
          refine g_aloadn (pc' := 88) d_290_87 rfl rfl ?_
          refine g_getf (pc' := 91) d_290_88 rfl st_290_13 hw15 hv27 ?_
          refine g_iload (pc' := 93) d_290_91 rfl rfl ?_
          obtain ⟨hc35, h⟩ := h
          refine g_lald (pc' := 94) d_290_93 rfl hw30 hc35 ?_
          refine g_lmul (pc' := 95) d_290_94 rfl ?_
          refine g_lload (pc' := 97) d_290_95 rfl rfl ?_
          refine g_aloadn (pc' := 98) d_290_97 rfl rfl ?_
          refine g_getf (pc' := 101) d_290_98 rfl st_290_13 hw15 hv27 ?_
          refine g_iload (pc' := 103) d_290_101 rfl rfl ?_
          refine g_iconst (pc' := 104) d_290_103 rfl ci_2 ?_
          refine g_iadd (pc' := 105) d_290_104 rfl ?_
          obtain ⟨hc36, h⟩ := h
          refine g_lald (pc' := 106) d_290_105 rfl hw30 hc36 ?_
          obtain ⟨hc37, h⟩ := h
          refine g_ldiv (pc' := 107) d_290_106 rfl hc37 ?_
          refine g_ladd (pc' := 108) d_290_107 rfl ?_
          refine g_lload (pc' := 110) d_290_108 rfl rfl ?_
          refine g_aloadn (pc' := 111) d_290_110 rfl rfl ?_
          refine g_getf (pc' := 114) d_290_111 rfl st_290_13 hw15 hv27 ?_
          refine g_iload (pc' := 116) d_290_114 rfl rfl ?_
          refine g_iconst (pc' := 117) d_290_116 rfl ci_2 ?_
          refine g_iadd (pc' := 118) d_290_117 rfl ?_
          obtain ⟨hc38, h⟩ := h
          refine g_lald (pc' := 119) d_290_118 rfl hw30 hc38 ?_
          obtain ⟨hc39, h⟩ := h
          refine g_lrem (pc' := 120) d_290_119 rfl hc39 ?_
          refine g_aloadn (pc' := 121) d_290_120 rfl rfl ?_
          refine g_getf (pc' := 124) d_290_121 rfl st_290_13 hw15 hv27 ?_
          refine g_iload (pc' := 126) d_290_124 rfl rfl ?_
          refine g_iconst (pc' := 127) d_290_126 rfl ci_2 ?_
          refine g_iadd (pc' := 128) d_290_127 rfl ?_
          obtain ⟨hc40, h⟩ := h
          refine g_lald (pc' := 129) d_290_128 rfl hw30 hc40 ?_
          obtain ⟨w41, hk42, h⟩ := h
          refine g_callV (pc' := 132) d_290_129 rfl st_290_134 na_194 ml_194 rfl rfl rfl rm_290_194 rfl rfl ow_194 hw15 hk42 ?_
          refine g_aloadn (pc' := 133) d_290_132 rfl rfl ?_
          obtain ⟨fs43, hw44, h⟩ := h
          obtain ⟨b45, hv46, h⟩ := h
          refine g_getf (pc' := 136) d_290_133 rfl st_290_81 hw44 hv46 ?_
          refine g_iloadn (pc' := 137) d_290_136 rfl rfl ?_
          obtain ⟨n47, f48, hw49, h⟩ := h
          obtain ⟨hc50, h⟩ := h
          refine g_lald (pc' := 138) d_290_137 rfl hw49 hc50 ?_
          exact g_lret d_290_138 rt_290 h
        · replace h := h.2 c
          refine g_ldc2 (pc' := 44) d_290_41 rfl st_290_166 cL_m9223372036854775808 ?_
          exact g_lret d_290_44 rt_290 h
-- 291 BernoulliWaysModel.value(IIII)J
theorem S_291_0 {a0 : Nat} {i1 : Int32} {i2 : Int32} {i3 : Int32} {i4 : Int32} {w : xW} {r : Option Value × xW} (h : ∃ fs1, w[a0]? = some (.inr (12, fs1)) ∧ (0 < fs1.length) ∧ ∀ w4, w4 = w.set a0 (.inr (12, fs1.set 0 (.int (0 : Int32)))) → ∃ r7 w5, xCall 199 [.int i1, .int (0 : Int32), .int (10 : Int32)] w4 (some (.int r7), w5) ∧ (r7 = 0 → r = (some (.long (-9223372036854775808 : Int64)), w5)) ∧ (¬ (r7 = 0) → ∃ r10 w8, xCall 199 [.int i2, .int (-9 : Int32), .int (9 : Int32)] w5 (some (.int r10), w8) ∧ (r10 = 0 → r = (some (.long (-9223372036854775808 : Int64)), w8)) ∧ (¬ (r10 = 0) → ∃ r13 w11, xCall 199 [.int i3, .int (1 : Int32), .int (6 : Int32)] w8 (some (.int r13), w11) ∧ (r13 = 0 → r = (some (.long (-9223372036854775808 : Int64)), w11)) ∧ (¬ (r13 = 0) → ∃ r16 w14, xCall 199 [.int i4, .int (0 : Int32), .int (2 : Int32)] w11 (some (.int r16), w14) ∧ (r16 = 0 → r = (some (.long (-9223372036854775808 : Int64)), w14)) ∧ (¬ (r16 = 0) → ∃ fs17, w14[a0]? = some (.inr (12, fs17)) ∧ ∃ x19, fs17[4]? = some (.int x19) ∧ (i1 ≤ x19 → xGo 291 64 [some (.ref a0), some (.int i1), some (.int i2), some (.int i3), some (.int i4), some (.long (0 : Int64)), none, some (.int (0 : Int32)), none, none, none] [] w14 r) ∧ (¬ (i1 ≤ x19) → r = (some (.long (-9223372036854775808 : Int64)), w14))))))) : xGo 291 0 [some (.ref a0), some (.int i1), some (.int i2), some (.int i3), some (.int i4), none, none, none, none, none, none] [] w r := by
  refine g_aloadn (pc' := 1) d_291_0 rfl rfl ?_
  refine g_iconst (pc' := 2) d_291_1 rfl ci_0 ?_
  obtain ⟨fs1, hw2, h⟩ := h
  obtain ⟨hc3, h⟩ := h
  have h := h _ rfl
  refine g_putf (pc' := 5) d_291_2 rfl st_291_118 ft_12_0 ff_12_0 rfl (Or.inl rfl) hw2 hc3 ?_
  refine g_iloadn (pc' := 6) d_291_5 rfl rfl ?_
  refine g_iconst (pc' := 7) d_291_6 rfl ci_0 ?_
  refine g_bipush (pc' := 9) d_291_7 rfl cb_10 ?_
  obtain ⟨r7, w5, hk6, h⟩ := h
  refine g_callS (pc' := 12) d_291_9 rfl st_291_137 (Or.inl rfl) na_199 ml_199 rfl rfl rfl rm_291_199 rfl rfl hk6 ?_
  refine g_if_eq (pc' := 15) (pt := 54) d_291_12 (by decide) rfl (fun c => ?_) (fun c => ?_)
  · replace h := h.1 c
    refine g_ldc2 (pc' := 57) d_291_54 rfl st_291_166 cL_m9223372036854775808 ?_
    exact g_lret d_291_57 rt_291 h
  · replace h := h.2 c
    refine g_iloadn (pc' := 16) d_291_15 rfl rfl ?_
    refine g_bipush (pc' := 18) d_291_16 rfl cb_m9 ?_
    refine g_bipush (pc' := 20) d_291_18 rfl cb_9 ?_
    obtain ⟨r10, w8, hk9, h⟩ := h
    refine g_callS (pc' := 23) d_291_20 rfl st_291_137 (Or.inl rfl) na_199 ml_199 rfl rfl rfl rm_291_199 rfl rfl hk9 ?_
    refine g_if_eq (pc' := 26) (pt := 54) d_291_23 (by decide) rfl (fun c => ?_) (fun c => ?_)
    · replace h := h.1 c
      refine g_ldc2 (pc' := 57) d_291_54 rfl st_291_166 cL_m9223372036854775808 ?_
      exact g_lret d_291_57 rt_291 h
    · replace h := h.2 c
      refine g_iloadn (pc' := 27) d_291_26 rfl rfl ?_
      refine g_iconst (pc' := 28) d_291_27 rfl ci_1 ?_
      refine g_bipush (pc' := 30) d_291_28 rfl cb_6 ?_
      obtain ⟨r13, w11, hk12, h⟩ := h
      refine g_callS (pc' := 33) d_291_30 rfl st_291_137 (Or.inl rfl) na_199 ml_199 rfl rfl rfl rm_291_199 rfl rfl hk12 ?_
      refine g_if_eq (pc' := 36) (pt := 54) d_291_33 (by decide) rfl (fun c => ?_) (fun c => ?_)
      · replace h := h.1 c
        refine g_ldc2 (pc' := 57) d_291_54 rfl st_291_166 cL_m9223372036854775808 ?_
        exact g_lret d_291_57 rt_291 h
      · replace h := h.2 c
        refine g_iload (pc' := 38) d_291_36 rfl rfl ?_
        refine g_iconst (pc' := 39) d_291_38 rfl ci_0 ?_
        refine g_iconst (pc' := 40) d_291_39 rfl ci_2 ?_
        obtain ⟨r16, w14, hk15, h⟩ := h
        refine g_callS (pc' := 43) d_291_40 rfl st_291_137 (Or.inl rfl) na_199 ml_199 rfl rfl rfl rm_291_199 rfl rfl hk15 ?_
        refine g_if_eq (pc' := 46) (pt := 54) d_291_43 (by decide) rfl (fun c => ?_) (fun c => ?_)
        · replace h := h.1 c
          refine g_ldc2 (pc' := 57) d_291_54 rfl st_291_166 cL_m9223372036854775808 ?_
          exact g_lret d_291_57 rt_291 h
        · replace h := h.2 c
          refine g_iloadn (pc' := 47) d_291_46 rfl rfl ?_
          refine g_aloadn (pc' := 48) d_291_47 rfl rfl ?_
          obtain ⟨fs17, hw18, h⟩ := h
          obtain ⟨x19, hv20, h⟩ := h
          refine g_getf (pc' := 51) d_291_48 rfl st_291_20 hw18 hv20 ?_
          refine g_ic_le (pc' := 54) (pt := 58) d_291_51 (by decide) rfl (fun c => ?_) (fun c => ?_)
          · replace h := h.1 c
            refine g_lconst (pc' := 59) d_291_58 rfl cl_0 ?_
            refine g_lstore (pc' := 61) (l' := [some (.ref a0), some (.int i1), some (.int i2), some (.int i3), some (.int i4), some (.long (0 : Int64)), none, none, none, none, none]) d_291_59 rfl ml_291 rfl rfl ?_
            refine g_iconst (pc' := 62) d_291_61 rfl ci_0 ?_
            refine g_istore (pc' := 64) (l' := [some (.ref a0), some (.int i1), some (.int i2), some (.int i3), some (.int i4), some (.long (0 : Int64)), none, some (.int (0 : Int32)), none, none, none]) d_291_62 rfl ml_291 rfl rfl ?_
            exact h
          · replace h := h.2 c
            refine g_ldc2 (pc' := 57) d_291_54 rfl st_291_166 cL_m9223372036854775808 ?_
            exact g_lret d_291_57 rt_291 h
theorem S_291_64 {a0 : Nat} {i1 : Int32} {i2 : Int32} {i3 : Int32} {i4 : Int32} {l5 : Int64} {i7 : Int32} {w : xW} {r : Option Value × xW} (h : (i1 < i7 → ∃ r3 w1, xCall 268 [.long (i3.toInt64), .int i1] w (some (.long r3), w1) ∧ ∀ v4 : Int64, v4 = ((2310 : Int64) * r3) → ∃ r7 w5, xCall 193 [.long l5, .long v4] w1 (some (.long r7), w5) ∧ ∃ fs8, w5[a0]? = some (.inr (12, fs8)) ∧ ∃ b10, fs8[29]? = some (.ref b10) ∧ ∃ w12, xCall 194 [.ref a0, .ref b10, .int (0 : Int32), .long r7, .long (l5 - (r7 * v4)), .long v4] w5 (none, w12) ∧ ∃ fs14, w12[a0]? = some (.inr (12, fs14)) ∧ ∃ b16, fs14[29]? = some (.ref b16) ∧ ∃ n18 f19, w12[b16]? = some (.inl (.inr (n18, f19))) ∧ (¬ (i4 < 0 ∨ n18 ≤ i4.toNatClampNeg)) ∧ r = (some (.long (f19 i4.toNatClampNeg)), w12)) ∧ (¬ (i1 < i7) → ∀ v22 : Int32, v22 = ((3 : Int32) * (i1 - i7)) → ∃ fs23, w[a0]? = some (.inr (12, fs23)) ∧ ∃ b25, fs23[5]? = some (.ref b25) ∧ ∃ n27 f28, w[b25]? = some (.inl (.inr (n27, f28))) ∧ (¬ ((((40 : Int32) * i1) + i7) < 0 ∨ n27 ≤ (((40 : Int32) * i1) + i7).toNatClampNeg)) ∧ ∃ b31, fs23[2]? = some (.ref b31) ∧ ∃ n33 f34, w[b31]? = some (.inl (.inr (n33, f34))) ∧ (¬ (v22 < 0 ∨ n33 ≤ v22.toNatClampNeg)) ∧ (¬ ((v22 + (2 : Int32)) < 0 ∨ n33 ≤ (v22 + (2 : Int32)).toNatClampNeg)) ∧ (¬ ((v22 + (1 : Int32)) < 0 ∨ n33 ≤ (v22 + (1 : Int32)).toNatClampNeg)) ∧ (¬ ((v22 + (2 : Int32)) < 0 ∨ n33 ≤ (v22 + (2 : Int32)).toNatClampNeg)) ∧ (¬ (f34 (v22 + (2 : Int32)).toNatClampNeg) = 0) ∧ ∃ r43 w41, xCall 268 [.long (i2.toInt64), .int i7] w (some (.long r43), w41) ∧ ∃ r46 w44, xCall 268 [.long (i3.toInt64), .int (i1 - i7)] w41 (some (.long r46), w44) ∧ ∀ v47 : Int64, v47 = (l5 + (((((f28 (((40 : Int32) * i1) + i7).toNatClampNeg) * (((f34 v22.toNatClampNeg) * (f34 (v22 + (2 : Int32)).toNatClampNeg)) + (f34 (v22 + (1 : Int32)).toNatClampNeg))) * ((2310 : Int64) / (f34 (v22 + (2 : Int32)).toNatClampNeg))) * r43) * r46)) → ∀ v48 : Int32, v48 = i7 + (1 : Int32) → xGo 291 64 [some (.ref a0), some (.int i1), some (.int i2), some (.int i3), some (.int i4), some (.long v47), none, some (.int v48), none, none, none] [] w44 r)) : xGo 291 64 [some (.ref a0), some (.int i1), some (.int i2), some (.int i3), some (.int i4), some (.long l5), none, some (.int i7), none, none, none] [] w r := by
  refine g_iload (pc' := 66) d_291_64 rfl rfl ?_
  refine g_iloadn (pc' := 67) d_291_66 rfl rfl ?_
  refine g_ic_gt (pc' := 70) (pt := 161) d_291_67 (by decide) rfl (fun c => ?_) (fun c => ?_)
  · replace h := h.1 c
    refine g_ldc2 (pc' := 164) d_291_161 rfl st_291_351 cL_2310 ?_
    refine g_iloadn (pc' := 165) d_291_164 rfl rfl ?_
    refine g_i2l (pc' := 166) d_291_165 rfl ?_
    refine g_iloadn (pc' := 167) d_291_166 rfl rfl ?_
    obtain ⟨r3, w1, hk2, h⟩ := h
    refine g_callS (pc' := 170) d_291_167 rfl st_291_287 (Or.inl rfl) na_268 ml_268 rfl rfl rfl rm_291_268 rfl rfl hk2 ?_
    refine g_lmul (pc' := 171) d_291_170 rfl ?_
    have h := h _ rfl
    refine g_lstore (pc' := 173) (l' := [some (.ref a0), some (.int i1), some (.int i2), some (.int i3), some (.int i4), some (.long l5), none, some (.long (((2310 : Int64) * r3))), none, none, none]) d_291_171 rfl ml_291 rfl rfl ?_
    refine g_lload (pc' := 175) d_291_173 rfl rfl ?_
    refine g_lload (pc' := 177) d_291_175 rfl rfl ?_
    obtain ⟨r7, w5, hk6, h⟩ := h
    refine g_callS (pc' := 180) d_291_177 rfl st_291_131 (Or.inl rfl) na_193 ml_193 rfl rfl rfl rm_291_193 rfl rfl hk6 ?_
    refine g_lstore (pc' := 182) (l' := [some (.ref a0), some (.int i1), some (.int i2), some (.int i3), some (.int i4), some (.long l5), none, some (.long (((2310 : Int64) * r3))), none, some (.long r7), none]) d_291_180 rfl ml_291 rfl rfl ?_
    refine g_aloadn (pc' := 183) d_291_182 rfl rfl ?_
    refine g_aloadn (pc' := 184) d_291_183 rfl rfl ?_
    obtain ⟨fs8, hw9, h⟩ := h
    obtain ⟨b10, hv11, h⟩ := h
    refine g_getf (pc' := 187) d_291_184 rfl st_291_81 hw9 hv11 ?_
    refine g_iconst (pc' := 188) d_291_187 rfl ci_0 ?_
    refine g_lload (pc' := 190) d_291_188 rfl rfl ?_
    refine g_lload (pc' := 192) d_291_190 rfl rfl ?_
    refine g_lload (pc' := 194) d_291_192 rfl rfl ?_
    refine g_lload (pc' := 196) d_291_194 rfl rfl ?_
    refine g_lmul (pc' := 197) d_291_196 rfl ?_
    refine g_lsub (pc' := 198) d_291_197 rfl ?_
    refine g_lload (pc' := 200) d_291_198 rfl rfl ?_
    obtain ⟨w12, hk13, h⟩ := h
    refine g_callV (pc' := 203) d_291_200 rfl st_291_134 na_194 ml_194 rfl rfl rfl rm_291_194 rfl rfl ow_194 hw9 hk13 ?_
    refine g_aloadn (pc' := 204) d_291_203 rfl rfl ?_
    obtain ⟨fs14, hw15, h⟩ := h
    obtain ⟨b16, hv17, h⟩ := h
    refine g_getf (pc' := 207) d_291_204 rfl st_291_81 hw15 hv17 ?_
    refine g_iload (pc' := 209) d_291_207 rfl rfl ?_
    obtain ⟨n18, f19, hw20, h⟩ := h
    obtain ⟨hc21, h⟩ := h
    refine g_lald (pc' := 210) d_291_209 rfl hw20 hc21 ?_
    exact g_lret d_291_210 rt_291 h
  · replace h := h.2 c
    refine g_iconst (pc' := 71) d_291_70 rfl ci_3 ?_
    refine g_iloadn (pc' := 72) d_291_71 rfl rfl ?_
    refine g_iload (pc' := 74) d_291_72 rfl rfl ?_
    refine g_isub (pc' := 75) d_291_74 rfl ?_
    refine g_imul (pc' := 76) d_291_75 rfl ?_
    have h := h _ rfl
    refine g_istore (pc' := 78) (l' := [some (.ref a0), some (.int i1), some (.int i2), some (.int i3), some (.int i4), some (.long l5), none, some (.int i7), some (.int (((3 : Int32) * (i1 - i7)))), none, none]) d_291_76 rfl ml_291 rfl rfl ?_
    refine g_lload (pc' := 80) d_291_78 rfl rfl ?_
    refine g_aloadn (pc' := 81) d_291_80 rfl rfl ?_
    obtain ⟨fs23, hw24, h⟩ := h
    obtain ⟨b25, hv26, h⟩ := h
    refine g_getf (pc' := 84) d_291_81 rfl st_291_24 hw24 hv26 ?_
    refine g_bipush (pc' := 86) d_291_84 rfl cb_40 ?_
    refine g_iloadn (pc' := 87) d_291_86 rfl rfl ?_
    refine g_imul (pc' := 88) d_291_87 rfl ?_
    refine g_iload (pc' := 90) d_291_88 rfl rfl ?_
    refine g_iadd (pc' := 91) d_291_90 rfl ?_
    obtain ⟨n27, f28, hw29, h⟩ := h
    obtain ⟨hc30, h⟩ := h
    refine g_lald (pc' := 92) d_291_91 rfl hw29 hc30 ?_
    refine g_aloadn (pc' := 93) d_291_92 rfl rfl ?_
    obtain ⟨b31, hv32, h⟩ := h
    refine g_getf (pc' := 96) d_291_93 rfl st_291_13 hw24 hv32 ?_
    refine g_iload (pc' := 98) d_291_96 rfl rfl ?_
    obtain ⟨n33, f34, hw35, h⟩ := h
    obtain ⟨hc36, h⟩ := h
    refine g_lald (pc' := 99) d_291_98 rfl hw35 hc36 ?_
    refine g_aloadn (pc' := 100) d_291_99 rfl rfl ?_
    refine g_getf (pc' := 103) d_291_100 rfl st_291_13 hw24 hv32 ?_
    refine g_iload (pc' := 105) d_291_103 rfl rfl ?_
    refine g_iconst (pc' := 106) d_291_105 rfl ci_2 ?_
    refine g_iadd (pc' := 107) d_291_106 rfl ?_
    obtain ⟨hc37, h⟩ := h
    refine g_lald (pc' := 108) d_291_107 rfl hw35 hc37 ?_
    refine g_lmul (pc' := 109) d_291_108 rfl ?_
    refine g_aloadn (pc' := 110) d_291_109 rfl rfl ?_
    refine g_getf (pc' := 113) d_291_110 rfl st_291_13 hw24 hv32 ?_
    refine g_iload (pc' := 115) d_291_113 rfl rfl ?_
    refine g_iconst (pc' := 116) d_291_115 rfl ci_1 ?_
    refine g_iadd (pc' := 117) d_291_116 rfl ?_
    obtain ⟨hc38, h⟩ := h
    refine g_lald (pc' := 118) d_291_117 rfl hw35 hc38 ?_
    refine g_ladd (pc' := 119) d_291_118 rfl ?_
    refine g_lmul (pc' := 120) d_291_119 rfl ?_
    refine g_ldc2 (pc' := 123) d_291_120 rfl st_291_351 cL_2310 ?_
    refine g_aloadn (pc' := 124) d_291_123 rfl rfl ?_
    refine g_getf (pc' := 127) d_291_124 rfl st_291_13 hw24 hv32 ?_
    refine g_iload (pc' := 129) d_291_127 rfl rfl ?_
    refine g_iconst (pc' := 130) d_291_129 rfl ci_2 ?_
    refine g_iadd (pc' := 131) d_291_130 rfl ?_
    obtain ⟨hc39, h⟩ := h
    refine g_lald (pc' := 132) d_291_131 rfl hw35 hc39 ?_
    obtain ⟨hc40, h⟩ := h
    refine g_ldiv (pc' := 133) d_291_132 rfl hc40 ?_
    refine g_lmul (pc' := 134) d_291_133 rfl ?_
    refine g_iloadn (pc' := 135) d_291_134 rfl rfl ?_
    refine g_i2l (pc' := 136) d_291_135 rfl ?_
    refine g_iload (pc' := 138) d_291_136 rfl rfl ?_
    obtain ⟨r43, w41, hk42, h⟩ := h
    refine g_callS (pc' := 141) d_291_138 rfl st_291_287 (Or.inl rfl) na_268 ml_268 rfl rfl rfl rm_291_268 rfl rfl hk42 ?_
    refine g_lmul (pc' := 142) d_291_141 rfl ?_
    refine g_iloadn (pc' := 143) d_291_142 rfl rfl ?_
    refine g_i2l (pc' := 144) d_291_143 rfl ?_
    refine g_iloadn (pc' := 145) d_291_144 rfl rfl ?_
    refine g_iload (pc' := 147) d_291_145 rfl rfl ?_
    refine g_isub (pc' := 148) d_291_147 rfl ?_
    obtain ⟨r46, w44, hk45, h⟩ := h
    refine g_callS (pc' := 151) d_291_148 rfl st_291_287 (Or.inl rfl) na_268 ml_268 rfl rfl rfl rm_291_268 rfl rfl hk45 ?_
    refine g_lmul (pc' := 152) d_291_151 rfl ?_
    refine g_ladd (pc' := 153) d_291_152 rfl ?_
    have h := h _ rfl
    refine g_lstore (pc' := 155) (l' := [some (.ref a0), some (.int i1), some (.int i2), some (.int i3), some (.int i4), some (.long ((l5 + (((((f28 (((40 : Int32) * i1) + i7).toNatClampNeg) * (((f34 (((3 : Int32) * (i1 - i7))).toNatClampNeg) * (f34 ((((3 : Int32) * (i1 - i7))) + (2 : Int32)).toNatClampNeg)) + (f34 ((((3 : Int32) * (i1 - i7))) + (1 : Int32)).toNatClampNeg))) * ((2310 : Int64) / (f34 ((((3 : Int32) * (i1 - i7))) + (2 : Int32)).toNatClampNeg))) * r43) * r46)))), none, some (.int i7), some (.int (((3 : Int32) * (i1 - i7)))), none, none]) d_291_153 rfl ml_291 rfl rfl ?_
    have h := h _ rfl
    refine g_iinc (pc' := 158) (l' := [some (.ref a0), some (.int i1), some (.int i2), some (.int i3), some (.int i4), some (.long ((l5 + (((((f28 (((40 : Int32) * i1) + i7).toNatClampNeg) * (((f34 (((3 : Int32) * (i1 - i7))).toNatClampNeg) * (f34 ((((3 : Int32) * (i1 - i7))) + (2 : Int32)).toNatClampNeg)) + (f34 ((((3 : Int32) * (i1 - i7))) + (1 : Int32)).toNatClampNeg))) * ((2310 : Int64) / (f34 ((((3 : Int32) * (i1 - i7))) + (2 : Int32)).toNatClampNeg))) * r43) * r46)))), none, some (.int (i7 + (1 : Int32))), some (.int (((3 : Int32) * (i1 - i7)))), none, none]) d_291_155 rfl rfl ci_1 ml_291 rfl rfl ?_
    refine g_goto (pt := 64) d_291_158 (by decide) ?_
    exact xGo.more (xle_s (xle_s (xle_s (xle_s (xle_s (xle_s (xle_n (xle_s (xle_n (xle_n (xle_n xle_0))))))))))) h
-- 292 BernoulliWaysModel.at(III)I
theorem S_292_0 {a0 : Nat} {i1 : Int32} {i2 : Int32} {i3 : Int32} {w : xW} {r : Option Value × xW} (h : ∃ fs1, w[a0]? = some (.inr (12, fs1)) ∧ (0 < fs1.length) ∧ ∀ w4, w4 = w.set a0 (.inr (12, fs1.set 0 (.int (0 : Int32)))) → ∃ r7 w5, xCall 198 [.ref a0, .int i1] w4 (some (.int r7), w5) ∧ (r7 = 0 → r = (some (.int (-1 : Int32)), w5)) ∧ (¬ (r7 = 0) → ∃ fs8, w5[a0]? = some (.inr (12, fs8)) ∧ ∃ r12 w10, xCall 228 [.ref a0, .int i3] w5 (some (.int r12), w10) ∧ (r12 = 0 → r = (some (.int (-1 : Int32)), w10)) ∧ (¬ (r12 = 0) → ∃ r15 w13, xCall 199 [.int i2, .int (0 : Int32), .int (i3 - (1 : Int32))] w10 (some (.int r15), w13) ∧ (¬ r15 = 0 → ∃ fs16, w13[a0]? = some (.inr (12, fs16)) ∧ ∃ r20 w18, xCall 293 [.ref a0, .int i1, .int i3] w13 (some (.int r20), w18) ∧ (0 ≤ r20 → ∃ fs21, w18[a0]? = some (.inr (12, fs21)) ∧ ∃ r25 w23, xCall 294 [.ref a0, .int i1, .int i2, .int i3] w18 (some (.int r25), w23) ∧ r = (some (.int r25), w23)) ∧ (¬ (0 ≤ r20) → r = (some (.int r20), w18))) ∧ (¬ (¬ r15 = 0) → r = (some (.int (-1 : Int32)), w13))))) : xGo 292 0 [some (.ref a0), some (.int i1), some (.int i2), some (.int i3), none] [] w r := by
  refine g_aloadn (pc' := 1) d_292_0 rfl rfl ?_
  refine g_iconst (pc' := 2) d_292_1 rfl ci_0 ?_
  obtain ⟨fs1, hw2, h⟩ := h
  obtain ⟨hc3, h⟩ := h
  have h := h _ rfl
  refine g_putf (pc' := 5) d_292_2 rfl st_292_118 ft_12_0 ff_12_0 rfl (Or.inl rfl) hw2 hc3 ?_
  refine g_aloadn (pc' := 6) d_292_5 rfl rfl ?_
  refine g_iloadn (pc' := 7) d_292_6 rfl rfl ?_
  obtain ⟨r7, w5, hk6, h⟩ := h
  refine g_callV (pc' := 10) d_292_7 rfl st_292_145 na_198 ml_198 rfl rfl rfl rm_292_198 rfl rfl ow_198 (x_gss hw2) hk6 ?_
  refine g_if_eq (pc' := 13) (pt := 32) d_292_10 (by decide) rfl (fun c => ?_) (fun c => ?_)
  · replace h := h.1 c
    refine g_iconst (pc' := 33) d_292_32 rfl ci_m1 ?_
    exact g_iret d_292_33 rt_292 h
  · replace h := h.2 c
    refine g_aloadn (pc' := 14) d_292_13 rfl rfl ?_
    refine g_iloadn (pc' := 15) d_292_14 rfl rfl ?_
    obtain ⟨fs8, hw9, h⟩ := h
    obtain ⟨r12, w10, hk11, h⟩ := h
    refine g_callV (pc' := 18) d_292_15 rfl st_292_185 na_228 ml_228 rfl rfl rfl rm_292_228 rfl rfl ow_228 hw9 hk11 ?_
    refine g_if_eq (pc' := 21) (pt := 32) d_292_18 (by decide) rfl (fun c => ?_) (fun c => ?_)
    · replace h := h.1 c
      refine g_iconst (pc' := 33) d_292_32 rfl ci_m1 ?_
      exact g_iret d_292_33 rt_292 h
    · replace h := h.2 c
      refine g_iloadn (pc' := 22) d_292_21 rfl rfl ?_
      refine g_iconst (pc' := 23) d_292_22 rfl ci_0 ?_
      refine g_iloadn (pc' := 24) d_292_23 rfl rfl ?_
      refine g_iconst (pc' := 25) d_292_24 rfl ci_1 ?_
      refine g_isub (pc' := 26) d_292_25 rfl ?_
      obtain ⟨r15, w13, hk14, h⟩ := h
      refine g_callS (pc' := 29) d_292_26 rfl st_292_137 (Or.inl rfl) na_199 ml_199 rfl rfl rfl rm_292_199 rfl rfl hk14 ?_
      refine g_if_ne (pc' := 32) (pt := 34) d_292_29 (by decide) rfl (fun c => ?_) (fun c => ?_)
      · replace h := h.1 c
        refine g_aloadn (pc' := 35) d_292_34 rfl rfl ?_
        refine g_iloadn (pc' := 36) d_292_35 rfl rfl ?_
        refine g_iloadn (pc' := 37) d_292_36 rfl rfl ?_
        obtain ⟨fs16, hw17, h⟩ := h
        obtain ⟨r20, w18, hk19, h⟩ := h
        refine g_callV (pc' := 40) d_292_37 rfl st_292_353 na_293 ml_293 rfl rfl rfl rm_292_293 rfl rfl ow_293 hw17 hk19 ?_
        refine g_istore (pc' := 42) (l' := [some (.ref a0), some (.int i1), some (.int i2), some (.int i3), some (.int r20)]) d_292_40 rfl ml_292 rfl rfl ?_
        refine g_iload (pc' := 44) d_292_42 rfl rfl ?_
        refine g_if_ge (pc' := 47) (pt := 52) d_292_44 (by decide) rfl (fun c => ?_) (fun c => ?_)
        · replace h := h.1 c
          refine g_aloadn (pc' := 53) d_292_52 rfl rfl ?_
          refine g_iloadn (pc' := 54) d_292_53 rfl rfl ?_
          refine g_iloadn (pc' := 55) d_292_54 rfl rfl ?_
          refine g_iloadn (pc' := 56) d_292_55 rfl rfl ?_
          obtain ⟨fs21, hw22, h⟩ := h
          obtain ⟨r25, w23, hk24, h⟩ := h
          refine g_callV (pc' := 59) d_292_56 rfl st_292_356 na_294 ml_294 rfl rfl rfl rm_292_294 rfl rfl ow_294 hw22 hk24 ?_
          exact g_iret d_292_59 rt_292 h
        · replace h := h.2 c
          refine g_iload (pc' := 49) d_292_47 rfl rfl ?_
          refine g_goto (pt := 59) d_292_49 (by decide) ?_
          exact g_iret d_292_59 rt_292 h
      · replace h := h.2 c
        refine g_iconst (pc' := 33) d_292_32 rfl ci_m1 ?_
        exact g_iret d_292_33 rt_292 h
-- 293 BernoulliWaysModel.laysPoly(II)I
theorem S_293_0 {a0 : Nat} {i1 : Int32} {i2 : Int32} {w : xW} {r : Option Value × xW} (h : ∃ fs1, w[a0]? = some (.inr (12, fs1)) ∧ ∃ x3, fs1[4]? = some (.int x3) ∧ (i1 ≤ x3 → xGo 293 13 [some (.ref a0), some (.int i1), some (.int i2), some (.int (0 : Int32)), none] [] w r) ∧ (¬ (i1 ≤ x3) → r = (some (.int (-2 : Int32)), w))) : xGo 293 0 [some (.ref a0), some (.int i1), some (.int i2), none, none] [] w r := by
  refine g_iloadn (pc' := 1) d_293_0 rfl rfl ?_
  refine g_aloadn (pc' := 2) d_293_1 rfl rfl ?_
  obtain ⟨fs1, hw2, h⟩ := h
  obtain ⟨x3, hv4, h⟩ := h
  refine g_getf (pc' := 5) d_293_2 rfl st_293_20 hw2 hv4 ?_
  refine g_ic_le (pc' := 8) (pt := 11) d_293_5 (by decide) rfl (fun c => ?_) (fun c => ?_)
  · replace h := h.1 c
    refine g_iconst (pc' := 12) d_293_11 rfl ci_0 ?_
    refine g_istoren (pc' := 13) (l' := [some (.ref a0), some (.int i1), some (.int i2), some (.int (0 : Int32)), none]) d_293_12 rfl ml_293 rfl rfl ?_
    exact h
  · replace h := h.2 c
    refine g_bipush (pc' := 10) d_293_8 rfl cb_m2 ?_
    exact g_iret d_293_10 rt_293 h
theorem S_293_13 {a0 : Nat} {i1 : Int32} {i2 : Int32} {i3 : Int32} {w : xW} {r : Option Value × xW} (h : (i1 < i3 → r = (some (.int (0 : Int32)), w)) ∧ (¬ (i1 < i3) → ∃ fs1, w[a0]? = some (.inr (12, fs1)) ∧ ∃ b3, fs1[2]? = some (.ref b3) ∧ ∃ r7 w5, xCall 214 [.ref a0, .ref b3, .int (i1 - i3), .int i2] w (some (.int r7), w5) ∧ (0 ≤ r7 → ∃ fs8, w5[a0]? = some (.inr (12, fs8)) ∧ ∃ b10, fs8[30]? = some (.ref b10) ∧ ∃ b12, fs8[5]? = some (.ref b12) ∧ ∃ n14 f15, w5[b12]? = some (.inl (.inr (n14, f15))) ∧ (¬ ((((40 : Int32) * i1) + i3) < 0 ∨ n14 ≤ (((40 : Int32) * i1) + i3).toNatClampNeg)) ∧ ∃ r20 w18, xCall 215 [.long (f15 (((40 : Int32) * i1) + i3).toNatClampNeg), .int i2] w5 (some (.int r20), w18) ∧ ∃ r23 w21, xCall 215 [.long ((r7.toInt64) * (r20.toInt64)), .int i2] w18 (some (.int r23), w21) ∧ ∃ n24 f25, w21[b10]? = some (.inl (.inl (n24, f25))) ∧ (¬ (i3 < 0 ∨ n24 ≤ i3.toNatClampNeg)) ∧ ∀ w28, w28 = w21.set b10 (.inl (.inl (n24, (upd f25 i3.toNatClampNeg r23)))) → ∀ v29 : Int32, v29 = i3 + (1 : Int32) → xGo 293 13 [some (.ref a0), some (.int i1), some (.int i2), some (.int v29), none] [] w28 r) ∧ (¬ (0 ≤ r7) → r = (some (.int (-3 : Int32)), w5)))) : xGo 293 13 [some (.ref a0), some (.int i1), some (.int i2), some (.int i3), none] [] w r := by
  refine g_iloadn (pc' := 14) d_293_13 rfl rfl ?_
  refine g_iloadn (pc' := 15) d_293_14 rfl rfl ?_
  refine g_ic_gt (pc' := 18) (pt := 76) d_293_15 (by decide) rfl (fun c => ?_) (fun c => ?_)
  · replace h := h.1 c
    refine g_iconst (pc' := 77) d_293_76 rfl ci_0 ?_
    exact g_iret d_293_77 rt_293 h
  · replace h := h.2 c
    refine g_aloadn (pc' := 19) d_293_18 rfl rfl ?_
    refine g_aloadn (pc' := 20) d_293_19 rfl rfl ?_
    obtain ⟨fs1, hw2, h⟩ := h
    obtain ⟨b3, hv4, h⟩ := h
    refine g_getf (pc' := 23) d_293_20 rfl st_293_13 hw2 hv4 ?_
    refine g_iloadn (pc' := 24) d_293_23 rfl rfl ?_
    refine g_iloadn (pc' := 25) d_293_24 rfl rfl ?_
    refine g_isub (pc' := 26) d_293_25 rfl ?_
    refine g_iloadn (pc' := 27) d_293_26 rfl rfl ?_
    obtain ⟨r7, w5, hk6, h⟩ := h
    refine g_callV (pc' := 30) d_293_27 rfl st_293_188 na_214 ml_214 rfl rfl rfl rm_293_214 rfl rfl ow_214 hw2 hk6 ?_
    refine g_istore (pc' := 32) (l' := [some (.ref a0), some (.int i1), some (.int i2), some (.int i3), some (.int r7)]) d_293_30 rfl ml_293 rfl rfl ?_
    refine g_iload (pc' := 34) d_293_32 rfl rfl ?_
    refine g_if_ge (pc' := 37) (pt := 40) d_293_34 (by decide) rfl (fun c => ?_) (fun c => ?_)
    · replace h := h.1 c
      refine g_aloadn (pc' := 41) d_293_40 rfl rfl ?_
      obtain ⟨fs8, hw9, h⟩ := h
      obtain ⟨b10, hv11, h⟩ := h
      refine g_getf (pc' := 44) d_293_41 rfl st_293_84 hw9 hv11 ?_
      refine g_iloadn (pc' := 45) d_293_44 rfl rfl ?_
      refine g_iload (pc' := 47) d_293_45 rfl rfl ?_
      refine g_i2l (pc' := 48) d_293_47 rfl ?_
      refine g_aloadn (pc' := 49) d_293_48 rfl rfl ?_
      obtain ⟨b12, hv13, h⟩ := h
      refine g_getf (pc' := 52) d_293_49 rfl st_293_24 hw9 hv13 ?_
      refine g_bipush (pc' := 54) d_293_52 rfl cb_40 ?_
      refine g_iloadn (pc' := 55) d_293_54 rfl rfl ?_
      refine g_imul (pc' := 56) d_293_55 rfl ?_
      refine g_iloadn (pc' := 57) d_293_56 rfl rfl ?_
      refine g_iadd (pc' := 58) d_293_57 rfl ?_
      obtain ⟨n14, f15, hw16, h⟩ := h
      obtain ⟨hc17, h⟩ := h
      refine g_lald (pc' := 59) d_293_58 rfl hw16 hc17 ?_
      refine g_iloadn (pc' := 60) d_293_59 rfl rfl ?_
      obtain ⟨r20, w18, hk19, h⟩ := h
      refine g_callS (pc' := 63) d_293_60 rfl st_293_170 (Or.inl rfl) na_215 ml_215 rfl rfl rfl rm_293_215 rfl rfl hk19 ?_
      refine g_i2l (pc' := 64) d_293_63 rfl ?_
      refine g_lmul (pc' := 65) d_293_64 rfl ?_
      refine g_iloadn (pc' := 66) d_293_65 rfl rfl ?_
      obtain ⟨r23, w21, hk22, h⟩ := h
      refine g_callS (pc' := 69) d_293_66 rfl st_293_170 (Or.inl rfl) na_215 ml_215 rfl rfl rfl rm_293_215 rfl rfl hk22 ?_
      obtain ⟨n24, f25, hw26, h⟩ := h
      obtain ⟨hc27, h⟩ := h
      have h := h _ rfl
      refine g_iast (pc' := 70) d_293_69 rfl hw26 hc27 ?_
      have h := h _ rfl
      refine g_iinc (pc' := 73) (l' := [some (.ref a0), some (.int i1), some (.int i2), some (.int (i3 + (1 : Int32))), some (.int r7)]) d_293_70 rfl rfl ci_1 ml_293 rfl rfl ?_
      refine g_goto (pt := 13) d_293_73 (by decide) ?_
      exact xGo.more (xle_s (xle_s (xle_s (xle_s (xle_n xle_0))))) h
    · replace h := h.2 c
      refine g_bipush (pc' := 39) d_293_37 rfl cb_m3 ?_
      exact g_iret d_293_39 rt_293 h
-- 294 BernoulliWaysModel.polyAt(III)I
theorem S_294_0 {a0 : Nat} {i1 : Int32} {i2 : Int32} {i3 : Int32} {w : xW} {r : Option Value × xW} (h : xGo 294 6 [some (.ref a0), some (.int i1), some (.int i2), some (.int i3), some (.int (0 : Int32)), some (.int i1)] [] w r) : xGo 294 0 [some (.ref a0), some (.int i1), some (.int i2), some (.int i3), none, none] [] w r := by
  refine g_iconst (pc' := 1) d_294_0 rfl ci_0 ?_
  refine g_istore (pc' := 3) (l' := [some (.ref a0), some (.int i1), some (.int i2), some (.int i3), some (.int (0 : Int32)), none]) d_294_1 rfl ml_294 rfl rfl ?_
  refine g_iloadn (pc' := 4) d_294_3 rfl rfl ?_
  refine g_istore (pc' := 6) (l' := [some (.ref a0), some (.int i1), some (.int i2), some (.int i3), some (.int (0 : Int32)), some (.int i1)]) d_294_4 rfl ml_294 rfl rfl ?_
  exact h
theorem S_294_6 {a0 : Nat} {i1 : Int32} {i2 : Int32} {i3 : Int32} {i4 : Int32} {i5 : Int32} {w : xW} {r : Option Value × xW} (h : (i5 < 0 → r = (some (.int i4), w)) ∧ (¬ (i5 < 0) → ∃ fs1, w[a0]? = some (.inr (12, fs1)) ∧ ∃ b3, fs1[30]? = some (.ref b3) ∧ ∃ n5 f6, w[b3]? = some (.inl (.inl (n5, f6))) ∧ (¬ (i5 < 0 ∨ n5 ≤ i5.toNatClampNeg)) ∧ (¬ i3 = 0) ∧ ∀ v10 : Int32, v10 = (irem ((i4 * i2) + (f6 i5.toNatClampNeg)) i3) → ∀ v11 : Int32, v11 = i5 + (-1 : Int32) → xGo 294 6 [some (.ref a0), some (.int i1), some (.int i2), some (.int i3), some (.int v10), some (.int v11)] [] w r)) : xGo 294 6 [some (.ref a0), some (.int i1), some (.int i2), some (.int i3), some (.int i4), some (.int i5)] [] w r := by
  refine g_iload (pc' := 8) d_294_6 rfl rfl ?_
  refine g_if_lt (pc' := 11) (pt := 33) d_294_8 (by decide) rfl (fun c => ?_) (fun c => ?_)
  · replace h := h.1 c
    refine g_iload (pc' := 35) d_294_33 rfl rfl ?_
    exact g_iret d_294_35 rt_294 h
  · replace h := h.2 c
    refine g_iload (pc' := 13) d_294_11 rfl rfl ?_
    refine g_iloadn (pc' := 14) d_294_13 rfl rfl ?_
    refine g_imul (pc' := 15) d_294_14 rfl ?_
    refine g_aloadn (pc' := 16) d_294_15 rfl rfl ?_
    obtain ⟨fs1, hw2, h⟩ := h
    obtain ⟨b3, hv4, h⟩ := h
    refine g_getf (pc' := 19) d_294_16 rfl st_294_84 hw2 hv4 ?_
    refine g_iload (pc' := 21) d_294_19 rfl rfl ?_
    obtain ⟨n5, f6, hw7, h⟩ := h
    obtain ⟨hc8, h⟩ := h
    refine g_iald (pc' := 22) d_294_21 rfl hw7 hc8 ?_
    refine g_iadd (pc' := 23) d_294_22 rfl ?_
    refine g_iloadn (pc' := 24) d_294_23 rfl rfl ?_
    obtain ⟨hc9, h⟩ := h
    refine g_irem (pc' := 25) d_294_24 rfl hc9 ?_
    have h := h _ rfl
    refine g_istore (pc' := 27) (l' := [some (.ref a0), some (.int i1), some (.int i2), some (.int i3), some (.int ((irem ((i4 * i2) + (f6 i5.toNatClampNeg)) i3))), some (.int i5)]) d_294_25 rfl ml_294 rfl rfl ?_
    have h := h _ rfl
    refine g_iinc (pc' := 30) (l' := [some (.ref a0), some (.int i1), some (.int i2), some (.int i3), some (.int ((irem ((i4 * i2) + (f6 i5.toNatClampNeg)) i3))), some (.int (i5 + (-1 : Int32)))]) d_294_27 rfl rfl ci_m1 ml_294 rfl rfl ?_
    refine g_goto (pt := 6) d_294_30 (by decide) ?_
    exact h
-- 295 BernoulliWaysModel.roots(II)I
theorem S_295_0 {a0 : Nat} {i1 : Int32} {i2 : Int32} {w : xW} {r : Option Value × xW} (h : ∃ fs1, w[a0]? = some (.inr (12, fs1)) ∧ (0 < fs1.length) ∧ ∀ w4, w4 = w.set a0 (.inr (12, fs1.set 0 (.int (0 : Int32)))) → ∃ r7 w5, xCall 198 [.ref a0, .int i1] w4 (some (.int r7), w5) ∧ (r7 = 0 → r = (some (.int (-1 : Int32)), w5)) ∧ (¬ (r7 = 0) → ∃ fs8, w5[a0]? = some (.inr (12, fs8)) ∧ ∃ r12 w10, xCall 228 [.ref a0, .int i2] w5 (some (.int r12), w10) ∧ (¬ r12 = 0 → ∃ fs13, w10[a0]? = some (.inr (12, fs13)) ∧ ∃ r17 w15, xCall 293 [.ref a0, .int i1, .int i2] w10 (some (.int r17), w15) ∧ (0 ≤ r17 → xGo 295 42 [some (.ref a0), some (.int i1), some (.int i2), some (.int r17), some (.int (0 : Int32)), some (.int (0 : Int32))] [] w15 r) ∧ (¬ (0 ≤ r17) → r = (some (.int r17), w15))) ∧ (¬ (¬ r12 = 0) → r = (some (.int (-1 : Int32)), w10)))) : xGo 295 0 [some (.ref a0), some (.int i1), some (.int i2), none, none, none] [] w r := by
  refine g_aloadn (pc' := 1) d_295_0 rfl rfl ?_
  refine g_iconst (pc' := 2) d_295_1 rfl ci_0 ?_
  obtain ⟨fs1, hw2, h⟩ := h
  obtain ⟨hc3, h⟩ := h
  have h := h _ rfl
  refine g_putf (pc' := 5) d_295_2 rfl st_295_118 ft_12_0 ff_12_0 rfl (Or.inl rfl) hw2 hc3 ?_
  refine g_aloadn (pc' := 6) d_295_5 rfl rfl ?_
  refine g_iloadn (pc' := 7) d_295_6 rfl rfl ?_
  obtain ⟨r7, w5, hk6, h⟩ := h
  refine g_callV (pc' := 10) d_295_7 rfl st_295_145 na_198 ml_198 rfl rfl rfl rm_295_198 rfl rfl ow_198 (x_gss hw2) hk6 ?_
  refine g_if_eq (pc' := 13) (pt := 21) d_295_10 (by decide) rfl (fun c => ?_) (fun c => ?_)
  · replace h := h.1 c
    refine g_iconst (pc' := 22) d_295_21 rfl ci_m1 ?_
    exact g_iret d_295_22 rt_295 h
  · replace h := h.2 c
    refine g_aloadn (pc' := 14) d_295_13 rfl rfl ?_
    refine g_iloadn (pc' := 15) d_295_14 rfl rfl ?_
    obtain ⟨fs8, hw9, h⟩ := h
    obtain ⟨r12, w10, hk11, h⟩ := h
    refine g_callV (pc' := 18) d_295_15 rfl st_295_185 na_228 ml_228 rfl rfl rfl rm_295_228 rfl rfl ow_228 hw9 hk11 ?_
    refine g_if_ne (pc' := 21) (pt := 23) d_295_18 (by decide) rfl (fun c => ?_) (fun c => ?_)
    · replace h := h.1 c
      refine g_aloadn (pc' := 24) d_295_23 rfl rfl ?_
      refine g_iloadn (pc' := 25) d_295_24 rfl rfl ?_
      refine g_iloadn (pc' := 26) d_295_25 rfl rfl ?_
      obtain ⟨fs13, hw14, h⟩ := h
      obtain ⟨r17, w15, hk16, h⟩ := h
      refine g_callV (pc' := 29) d_295_26 rfl st_295_353 na_293 ml_293 rfl rfl rfl rm_295_293 rfl rfl ow_293 hw14 hk16 ?_
      refine g_istoren (pc' := 30) (l' := [some (.ref a0), some (.int i1), some (.int i2), some (.int r17), none, none]) d_295_29 rfl ml_295 rfl rfl ?_
      refine g_iloadn (pc' := 31) d_295_30 rfl rfl ?_
      refine g_if_ge (pc' := 34) (pt := 36) d_295_31 (by decide) rfl (fun c => ?_) (fun c => ?_)
      · replace h := h.1 c
        refine g_iconst (pc' := 37) d_295_36 rfl ci_0 ?_
        refine g_istore (pc' := 39) (l' := [some (.ref a0), some (.int i1), some (.int i2), some (.int r17), some (.int (0 : Int32)), none]) d_295_37 rfl ml_295 rfl rfl ?_
        refine g_iconst (pc' := 40) d_295_39 rfl ci_0 ?_
        refine g_istore (pc' := 42) (l' := [some (.ref a0), some (.int i1), some (.int i2), some (.int r17), some (.int (0 : Int32)), some (.int (0 : Int32))]) d_295_40 rfl ml_295 rfl rfl ?_
        exact h
      · replace h := h.2 c
        refine g_iloadn (pc' := 35) d_295_34 rfl rfl ?_
        exact g_iret d_295_35 rt_295 h
    · replace h := h.2 c
      refine g_iconst (pc' := 22) d_295_21 rfl ci_m1 ?_
      exact g_iret d_295_22 rt_295 h
theorem S_295_42 {a0 : Nat} {i1 : Int32} {i2 : Int32} {i3 : Int32} {i4 : Int32} {i5 : Int32} {w : xW} {r : Option Value × xW} (h : (i2 ≤ i5 → r = (some (.int i4), w)) ∧ (¬ (i2 ≤ i5) → ∃ fs1, w[a0]? = some (.inr (12, fs1)) ∧ ∃ r5 w3, xCall 294 [.ref a0, .int i1, .int i5, .int i2] w (some (.int r5), w3) ∧ (¬ r5 = 0 → ∀ v6 : Int32, v6 = (i4 + (0 : Int32)) → ∀ v7 : Int32, v7 = i5 + (1 : Int32) → xGo 295 42 [some (.ref a0), some (.int i1), some (.int i2), some (.int i3), some (.int v6), some (.int v7)] [] w3 r) ∧ (¬ (¬ r5 = 0) → ∀ v8 : Int32, v8 = (i4 + (1 : Int32)) → ∀ v9 : Int32, v9 = i5 + (1 : Int32) → xGo 295 42 [some (.ref a0), some (.int i1), some (.int i2), some (.int i3), some (.int v8), some (.int v9)] [] w3 r))) : xGo 295 42 [some (.ref a0), some (.int i1), some (.int i2), some (.int i3), some (.int i4), some (.int i5)] [] w r := by
  refine g_iload (pc' := 44) d_295_42 rfl rfl ?_
  refine g_iloadn (pc' := 45) d_295_44 rfl rfl ?_
  refine g_ic_ge (pc' := 48) (pt := 75) d_295_45 (by decide) rfl (fun c => ?_) (fun c => ?_)
  · replace h := h.1 c
    refine g_iload (pc' := 77) d_295_75 rfl rfl ?_
    exact g_iret d_295_77 rt_295 h
  · replace h := h.2 c
    refine g_iload (pc' := 50) d_295_48 rfl rfl ?_
    refine g_aloadn (pc' := 51) d_295_50 rfl rfl ?_
    refine g_iloadn (pc' := 52) d_295_51 rfl rfl ?_
    refine g_iload (pc' := 54) d_295_52 rfl rfl ?_
    refine g_iloadn (pc' := 55) d_295_54 rfl rfl ?_
    obtain ⟨fs1, hw2, h⟩ := h
    obtain ⟨r5, w3, hk4, h⟩ := h
    refine g_callV (pc' := 58) d_295_55 rfl st_295_356 na_294 ml_294 rfl rfl rfl rm_295_294 rfl rfl ow_294 hw2 hk4 ?_
    refine g_if_ne (pc' := 61) (pt := 65) d_295_58 (by decide) rfl (fun c => ?_) (fun c => ?_)
    · replace h := h.1 c
      refine g_iconst (pc' := 66) d_295_65 rfl ci_0 ?_
      refine g_iadd (pc' := 67) d_295_66 rfl ?_
      have h := h _ rfl
      refine g_istore (pc' := 69) (l' := [some (.ref a0), some (.int i1), some (.int i2), some (.int i3), some (.int ((i4 + (0 : Int32)))), some (.int i5)]) d_295_67 rfl ml_295 rfl rfl ?_
      have h := h _ rfl
      refine g_iinc (pc' := 72) (l' := [some (.ref a0), some (.int i1), some (.int i2), some (.int i3), some (.int ((i4 + (0 : Int32)))), some (.int (i5 + (1 : Int32)))]) d_295_69 rfl rfl ci_1 ml_295 rfl rfl ?_
      refine g_goto (pt := 42) d_295_72 (by decide) ?_
      exact h
    · replace h := h.2 c
      refine g_iconst (pc' := 62) d_295_61 rfl ci_1 ?_
      refine g_goto (pt := 66) d_295_62 (by decide) ?_
      refine g_iadd (pc' := 67) d_295_66 rfl ?_
      have h := h _ rfl
      refine g_istore (pc' := 69) (l' := [some (.ref a0), some (.int i1), some (.int i2), some (.int i3), some (.int ((i4 + (1 : Int32)))), some (.int i5)]) d_295_67 rfl ml_295 rfl rfl ?_
      have h := h _ rfl
      refine g_iinc (pc' := 72) (l' := [some (.ref a0), some (.int i1), some (.int i2), some (.int i3), some (.int ((i4 + (1 : Int32)))), some (.int (i5 + (1 : Int32)))]) d_295_69 rfl rfl ci_1 ml_295 rfl rfl ?_
      refine g_goto (pt := 42) d_295_72 (by decide) ?_
      exact h
-- 296 BernoulliWaysModel.zeta(II)J
theorem S_296_0 {a0 : Nat} {i1 : Int32} {i2 : Int32} {w : xW} {r : Option Value × xW} (h : ∃ fs1, w[a0]? = some (.inr (12, fs1)) ∧ (0 < fs1.length) ∧ ∀ w4, w4 = w.set a0 (.inr (12, fs1.set 0 (.int (0 : Int32)))) → ∃ r7 w5, xCall 199 [.int i1, .int (0 : Int32), .int (37 : Int32)] w4 (some (.int r7), w5) ∧ (r7 = 0 → r = (some (.long (-9223372036854775808 : Int64)), w5)) ∧ (¬ (r7 = 0) → ∃ r10 w8, xCall 199 [.int i2, .int (0 : Int32), .int (2 : Int32)] w5 (some (.int r10), w8) ∧ (r10 = 0 → r = (some (.long (-9223372036854775808 : Int64)), w8)) ∧ (¬ (r10 = 0) → ∃ fs11, w8[a0]? = some (.inr (12, fs11)) ∧ ∃ x13, fs11[4]? = some (.int x13) ∧ ((i1 + (1 : Int32)) ≤ x13 → ∀ v15 : Int32, v15 = ((3 : Int32) * (i1 + (1 : Int32))) → (¬ i1 = 0 → ∃ b16, fs11[2]? = some (.ref b16) ∧ ∃ n18 f19, w8[b16]? = some (.inl (.inr (n18, f19))) ∧ (¬ (v15 < 0 ∨ n18 ≤ v15.toNatClampNeg)) ∧ ∀ v22 : Int64, v22 = (-(f19 v15.toNatClampNeg)) → (¬ ((v15 + (1 : Int32)) < 0 ∨ n18 ≤ (v15 + (1 : Int32)).toNatClampNeg)) ∧ ∀ v24 : Int64, v24 = (-(f19 (v15 + (1 : Int32)).toNatClampNeg)) → (¬ ((v15 + (2 : Int32)) < 0 ∨ n18 ≤ (v15 + (2 : Int32)).toNatClampNeg)) ∧ ∀ v26 : Int64, v26 = (f19 (v15 + (2 : Int32)).toNatClampNeg) → ((0 : Int64) ≤ v24 → ∃ r29 w27, xCall 193 [.long v22, .long ((i1 + (1 : Int32)).toInt64)] w8 (some (.long r29), w27) ∧ ∃ fs30, w27[a0]? = some (.inr (12, fs30)) ∧ ∃ b32, fs30[29]? = some (.ref b32) ∧ ∃ w34, xCall 194 [.ref a0, .ref b32, .int (0 : Int32), .long r29, .long (((v22 - (r29 * ((i1 + (1 : Int32)).toInt64))) * v26) + v24), .long (v26 * ((i1 + (1 : Int32)).toInt64))] w27 (none, w34) ∧ ∃ fs36, w34[a0]? = some (.inr (12, fs36)) ∧ ∃ b38, fs36[29]? = some (.ref b38) ∧ ∃ n40 f41, w34[b38]? = some (.inl (.inr (n40, f41))) ∧ (¬ (i2 < 0 ∨ n40 ≤ i2.toNatClampNeg)) ∧ r = (some (.long (f41 i2.toNatClampNeg)), w34)) ∧ (¬ ((0 : Int64) ≤ v24) → ∀ v44 : Int64, v44 = (v24 + v26) → ∀ v45 : Int64, v45 = (v22 - (1 : Int64)) → ∃ r48 w46, xCall 193 [.long v45, .long ((i1 + (1 : Int32)).toInt64)] w8 (some (.long r48), w46) ∧ ∃ fs49, w46[a0]? = some (.inr (12, fs49)) ∧ ∃ b51, fs49[29]? = some (.ref b51) ∧ ∃ w53, xCall 194 [.ref a0, .ref b51, .int (0 : Int32), .long r48, .long (((v45 - (r48 * ((i1 + (1 : Int32)).toInt64))) * v26) + v44), .long (v26 * ((i1 + (1 : Int32)).toInt64))] w46 (none, w53) ∧ ∃ fs55, w53[a0]? = some (.inr (12, fs55)) ∧ ∃ b57, fs55[29]? = some (.ref b57) ∧ ∃ n59 f60, w53[b57]? = some (.inl (.inr (n59, f60))) ∧ (¬ (i2 < 0 ∨ n59 ≤ i2.toNatClampNeg)) ∧ r = (some (.long (f60 i2.toNatClampNeg)), w53))) ∧ (¬ (¬ i1 = 0) → ∃ b63, fs11[2]? = some (.ref b63) ∧ ∃ n65 f66, w8[b63]? = some (.inl (.inr (n65, f66))) ∧ (¬ ((v15 + i2) < 0 ∨ n65 ≤ (v15 + i2).toNatClampNeg)) ∧ r = (some (.long (f66 (v15 + i2).toNatClampNeg)), w8))) ∧ (¬ ((i1 + (1 : Int32)) ≤ x13) → r = (some (.long (-9223372036854775808 : Int64)), w8))))) : xGo 296 0 [some (.ref a0), some (.int i1), some (.int i2), none, none, none, none, none, none, none, none, none] [] w r := by
  refine g_aloadn (pc' := 1) d_296_0 rfl rfl ?_
  refine g_iconst (pc' := 2) d_296_1 rfl ci_0 ?_
  obtain ⟨fs1, hw2, h⟩ := h
  obtain ⟨hc3, h⟩ := h
  have h := h _ rfl
  refine g_putf (pc' := 5) d_296_2 rfl st_296_118 ft_12_0 ff_12_0 rfl (Or.inl rfl) hw2 hc3 ?_
  refine g_iloadn (pc' := 6) d_296_5 rfl rfl ?_
  refine g_iconst (pc' := 7) d_296_6 rfl ci_0 ?_
  refine g_bipush (pc' := 9) d_296_7 rfl cb_37 ?_
  obtain ⟨r7, w5, hk6, h⟩ := h
  refine g_callS (pc' := 12) d_296_9 rfl st_296_137 (Or.inl rfl) na_199 ml_199 rfl rfl rfl rm_296_199 rfl rfl hk6 ?_
  refine g_if_eq (pc' := 15) (pt := 34) d_296_12 (by decide) rfl (fun c => ?_) (fun c => ?_)
  · replace h := h.1 c
    refine g_ldc2 (pc' := 37) d_296_34 rfl st_296_166 cL_m9223372036854775808 ?_
    exact g_lret d_296_37 rt_296 h
  · replace h := h.2 c
    refine g_iloadn (pc' := 16) d_296_15 rfl rfl ?_
    refine g_iconst (pc' := 17) d_296_16 rfl ci_0 ?_
    refine g_iconst (pc' := 18) d_296_17 rfl ci_2 ?_
    obtain ⟨r10, w8, hk9, h⟩ := h
    refine g_callS (pc' := 21) d_296_18 rfl st_296_137 (Or.inl rfl) na_199 ml_199 rfl rfl rfl rm_296_199 rfl rfl hk9 ?_
    refine g_if_eq (pc' := 24) (pt := 34) d_296_21 (by decide) rfl (fun c => ?_) (fun c => ?_)
    · replace h := h.1 c
      refine g_ldc2 (pc' := 37) d_296_34 rfl st_296_166 cL_m9223372036854775808 ?_
      exact g_lret d_296_37 rt_296 h
    · replace h := h.2 c
      refine g_iloadn (pc' := 25) d_296_24 rfl rfl ?_
      refine g_iconst (pc' := 26) d_296_25 rfl ci_1 ?_
      refine g_iadd (pc' := 27) d_296_26 rfl ?_
      refine g_aloadn (pc' := 28) d_296_27 rfl rfl ?_
      obtain ⟨fs11, hw12, h⟩ := h
      obtain ⟨x13, hv14, h⟩ := h
      refine g_getf (pc' := 31) d_296_28 rfl st_296_20 hw12 hv14 ?_
      refine g_ic_le (pc' := 34) (pt := 38) d_296_31 (by decide) rfl (fun c => ?_) (fun c => ?_)
      · replace h := h.1 c
        refine g_iconst (pc' := 39) d_296_38 rfl ci_3 ?_
        refine g_iloadn (pc' := 40) d_296_39 rfl rfl ?_
        refine g_iconst (pc' := 41) d_296_40 rfl ci_1 ?_
        refine g_iadd (pc' := 42) d_296_41 rfl ?_
        refine g_imul (pc' := 43) d_296_42 rfl ?_
        have h := h _ rfl
        refine g_istoren (pc' := 44) (l' := [some (.ref a0), some (.int i1), some (.int i2), some (.int (((3 : Int32) * (i1 + (1 : Int32))))), none, none, none, none, none, none, none, none]) d_296_43 rfl ml_296 rfl rfl ?_
        refine g_iloadn (pc' := 45) d_296_44 rfl rfl ?_
        refine g_if_ne (pc' := 48) (pt := 57) d_296_45 (by decide) rfl (fun c => ?_) (fun c => ?_)
        · replace h := h.1 c
          refine g_aloadn (pc' := 58) d_296_57 rfl rfl ?_
          obtain ⟨b16, hv17, h⟩ := h
          refine g_getf (pc' := 61) d_296_58 rfl st_296_13 hw12 hv17 ?_
          refine g_iloadn (pc' := 62) d_296_61 rfl rfl ?_
          obtain ⟨n18, f19, hw20, h⟩ := h
          obtain ⟨hc21, h⟩ := h
          refine g_lald (pc' := 63) d_296_62 rfl hw20 hc21 ?_
          refine g_lneg (pc' := 64) d_296_63 rfl ?_
          have h := h _ rfl
          refine g_lstore (pc' := 66) (l' := [some (.ref a0), some (.int i1), some (.int i2), some (.int (((3 : Int32) * (i1 + (1 : Int32))))), some (.long ((-(f19 (((3 : Int32) * (i1 + (1 : Int32)))).toNatClampNeg)))), none, none, none, none, none, none, none]) d_296_64 rfl ml_296 rfl rfl ?_
          refine g_aloadn (pc' := 67) d_296_66 rfl rfl ?_
          refine g_getf (pc' := 70) d_296_67 rfl st_296_13 hw12 hv17 ?_
          refine g_iloadn (pc' := 71) d_296_70 rfl rfl ?_
          refine g_iconst (pc' := 72) d_296_71 rfl ci_1 ?_
          refine g_iadd (pc' := 73) d_296_72 rfl ?_
          obtain ⟨hc23, h⟩ := h
          refine g_lald (pc' := 74) d_296_73 rfl hw20 hc23 ?_
          refine g_lneg (pc' := 75) d_296_74 rfl ?_
          have h := h _ rfl
          refine g_lstore (pc' := 77) (l' := [some (.ref a0), some (.int i1), some (.int i2), some (.int (((3 : Int32) * (i1 + (1 : Int32))))), some (.long ((-(f19 (((3 : Int32) * (i1 + (1 : Int32)))).toNatClampNeg)))), none, some (.long ((-(f19 ((((3 : Int32) * (i1 + (1 : Int32)))) + (1 : Int32)).toNatClampNeg)))), none, none, none, none, none]) d_296_75 rfl ml_296 rfl rfl ?_
          refine g_aloadn (pc' := 78) d_296_77 rfl rfl ?_
          refine g_getf (pc' := 81) d_296_78 rfl st_296_13 hw12 hv17 ?_
          refine g_iloadn (pc' := 82) d_296_81 rfl rfl ?_
          refine g_iconst (pc' := 83) d_296_82 rfl ci_2 ?_
          refine g_iadd (pc' := 84) d_296_83 rfl ?_
          obtain ⟨hc25, h⟩ := h
          refine g_lald (pc' := 85) d_296_84 rfl hw20 hc25 ?_
          have h := h _ rfl
          refine g_lstore (pc' := 87) (l' := [some (.ref a0), some (.int i1), some (.int i2), some (.int (((3 : Int32) * (i1 + (1 : Int32))))), some (.long ((-(f19 (((3 : Int32) * (i1 + (1 : Int32)))).toNatClampNeg)))), none, some (.long ((-(f19 ((((3 : Int32) * (i1 + (1 : Int32)))) + (1 : Int32)).toNatClampNeg)))), none, some (.long ((f19 ((((3 : Int32) * (i1 + (1 : Int32)))) + (2 : Int32)).toNatClampNeg))), none, none, none]) d_296_85 rfl ml_296 rfl rfl ?_
          refine g_lload (pc' := 89) d_296_87 rfl rfl ?_
          refine g_lconst (pc' := 90) d_296_89 rfl cl_0 ?_
          refine g_lc_ge (pc' := 94) (pm := 91) (pt := 107) d_296_90 rfl d_296_91 (by decide) rfl (fun c => ?_) (fun c => ?_)
          · replace h := h.1 c
            refine g_lload (pc' := 109) d_296_107 rfl rfl ?_
            refine g_iloadn (pc' := 110) d_296_109 rfl rfl ?_
            refine g_iconst (pc' := 111) d_296_110 rfl ci_1 ?_
            refine g_iadd (pc' := 112) d_296_111 rfl ?_
            refine g_i2l (pc' := 113) d_296_112 rfl ?_
            obtain ⟨r29, w27, hk28, h⟩ := h
            refine g_callS (pc' := 116) d_296_113 rfl st_296_131 (Or.inl rfl) na_193 ml_193 rfl rfl rfl rm_296_193 rfl rfl hk28 ?_
            refine g_lstore (pc' := 118) (l' := [some (.ref a0), some (.int i1), some (.int i2), some (.int (((3 : Int32) * (i1 + (1 : Int32))))), some (.long ((-(f19 (((3 : Int32) * (i1 + (1 : Int32)))).toNatClampNeg)))), none, some (.long ((-(f19 ((((3 : Int32) * (i1 + (1 : Int32)))) + (1 : Int32)).toNatClampNeg)))), none, some (.long ((f19 ((((3 : Int32) * (i1 + (1 : Int32)))) + (2 : Int32)).toNatClampNeg))), none, some (.long r29), none]) d_296_116 rfl ml_296 rfl rfl ?_
            refine g_aloadn (pc' := 119) d_296_118 rfl rfl ?_
            refine g_aloadn (pc' := 120) d_296_119 rfl rfl ?_
            obtain ⟨fs30, hw31, h⟩ := h
            obtain ⟨b32, hv33, h⟩ := h
            refine g_getf (pc' := 123) d_296_120 rfl st_296_81 hw31 hv33 ?_
            refine g_iconst (pc' := 124) d_296_123 rfl ci_0 ?_
            refine g_lload (pc' := 126) d_296_124 rfl rfl ?_
            refine g_lload (pc' := 128) d_296_126 rfl rfl ?_
            refine g_lload (pc' := 130) d_296_128 rfl rfl ?_
            refine g_iloadn (pc' := 131) d_296_130 rfl rfl ?_
            refine g_iconst (pc' := 132) d_296_131 rfl ci_1 ?_
            refine g_iadd (pc' := 133) d_296_132 rfl ?_
            refine g_i2l (pc' := 134) d_296_133 rfl ?_
            refine g_lmul (pc' := 135) d_296_134 rfl ?_
            refine g_lsub (pc' := 136) d_296_135 rfl ?_
            refine g_lload (pc' := 138) d_296_136 rfl rfl ?_
            refine g_lmul (pc' := 139) d_296_138 rfl ?_
            refine g_lload (pc' := 141) d_296_139 rfl rfl ?_
            refine g_ladd (pc' := 142) d_296_141 rfl ?_
            refine g_lload (pc' := 144) d_296_142 rfl rfl ?_
            refine g_iloadn (pc' := 145) d_296_144 rfl rfl ?_
            refine g_iconst (pc' := 146) d_296_145 rfl ci_1 ?_
            refine g_iadd (pc' := 147) d_296_146 rfl ?_
            refine g_i2l (pc' := 148) d_296_147 rfl ?_
            refine g_lmul (pc' := 149) d_296_148 rfl ?_
            obtain ⟨w34, hk35, h⟩ := h
            refine g_callV (pc' := 152) d_296_149 rfl st_296_134 na_194 ml_194 rfl rfl rfl rm_296_194 rfl rfl ow_194 hw31 hk35 ?_
            refine g_aloadn (pc' := 153) d_296_152 rfl rfl ?_
            obtain ⟨fs36, hw37, h⟩ := h
            obtain ⟨b38, hv39, h⟩ := h
            refine g_getf (pc' := 156) d_296_153 rfl st_296_81 hw37 hv39 ?_
            refine g_iloadn (pc' := 157) d_296_156 rfl rfl ?_
            obtain ⟨n40, f41, hw42, h⟩ := h
            obtain ⟨hc43, h⟩ := h
            refine g_lald (pc' := 158) d_296_157 rfl hw42 hc43 ?_
            exact g_lret d_296_158 rt_296 h
          · replace h := h.2 c
            refine g_lload (pc' := 96) d_296_94 rfl rfl ?_
            refine g_lload (pc' := 98) d_296_96 rfl rfl ?_
            refine g_ladd (pc' := 99) d_296_98 rfl ?_
            have h := h _ rfl
            refine g_lstore (pc' := 101) (l' := [some (.ref a0), some (.int i1), some (.int i2), some (.int (((3 : Int32) * (i1 + (1 : Int32))))), some (.long ((-(f19 (((3 : Int32) * (i1 + (1 : Int32)))).toNatClampNeg)))), none, some (.long ((((-(f19 ((((3 : Int32) * (i1 + (1 : Int32)))) + (1 : Int32)).toNatClampNeg))) + ((f19 ((((3 : Int32) * (i1 + (1 : Int32)))) + (2 : Int32)).toNatClampNeg))))), none, some (.long ((f19 ((((3 : Int32) * (i1 + (1 : Int32)))) + (2 : Int32)).toNatClampNeg))), none, none, none]) d_296_99 rfl ml_296 rfl rfl ?_
            refine g_lload (pc' := 103) d_296_101 rfl rfl ?_
            refine g_lconst (pc' := 104) d_296_103 rfl cl_1 ?_
            refine g_lsub (pc' := 105) d_296_104 rfl ?_
            have h := h _ rfl
            refine g_lstore (pc' := 107) (l' := [some (.ref a0), some (.int i1), some (.int i2), some (.int (((3 : Int32) * (i1 + (1 : Int32))))), some (.long ((((-(f19 (((3 : Int32) * (i1 + (1 : Int32)))).toNatClampNeg))) - (1 : Int64)))), none, some (.long ((((-(f19 ((((3 : Int32) * (i1 + (1 : Int32)))) + (1 : Int32)).toNatClampNeg))) + ((f19 ((((3 : Int32) * (i1 + (1 : Int32)))) + (2 : Int32)).toNatClampNeg))))), none, some (.long ((f19 ((((3 : Int32) * (i1 + (1 : Int32)))) + (2 : Int32)).toNatClampNeg))), none, none, none]) d_296_105 rfl ml_296 rfl rfl ?_
            refine g_lload (pc' := 109) d_296_107 rfl rfl ?_
            refine g_iloadn (pc' := 110) d_296_109 rfl rfl ?_
            refine g_iconst (pc' := 111) d_296_110 rfl ci_1 ?_
            refine g_iadd (pc' := 112) d_296_111 rfl ?_
            refine g_i2l (pc' := 113) d_296_112 rfl ?_
            obtain ⟨r48, w46, hk47, h⟩ := h
            refine g_callS (pc' := 116) d_296_113 rfl st_296_131 (Or.inl rfl) na_193 ml_193 rfl rfl rfl rm_296_193 rfl rfl hk47 ?_
            refine g_lstore (pc' := 118) (l' := [some (.ref a0), some (.int i1), some (.int i2), some (.int (((3 : Int32) * (i1 + (1 : Int32))))), some (.long ((((-(f19 (((3 : Int32) * (i1 + (1 : Int32)))).toNatClampNeg))) - (1 : Int64)))), none, some (.long ((((-(f19 ((((3 : Int32) * (i1 + (1 : Int32)))) + (1 : Int32)).toNatClampNeg))) + ((f19 ((((3 : Int32) * (i1 + (1 : Int32)))) + (2 : Int32)).toNatClampNeg))))), none, some (.long ((f19 ((((3 : Int32) * (i1 + (1 : Int32)))) + (2 : Int32)).toNatClampNeg))), none, some (.long r48), none]) d_296_116 rfl ml_296 rfl rfl ?_
            refine g_aloadn (pc' := 119) d_296_118 rfl rfl ?_
            refine g_aloadn (pc' := 120) d_296_119 rfl rfl ?_
            obtain ⟨fs49, hw50, h⟩ := h
            obtain ⟨b51, hv52, h⟩ := h
            refine g_getf (pc' := 123) d_296_120 rfl st_296_81 hw50 hv52 ?_
            refine g_iconst (pc' := 124) d_296_123 rfl ci_0 ?_
            refine g_lload (pc' := 126) d_296_124 rfl rfl ?_
            refine g_lload (pc' := 128) d_296_126 rfl rfl ?_
            refine g_lload (pc' := 130) d_296_128 rfl rfl ?_
            refine g_iloadn (pc' := 131) d_296_130 rfl rfl ?_
            refine g_iconst (pc' := 132) d_296_131 rfl ci_1 ?_
            refine g_iadd (pc' := 133) d_296_132 rfl ?_
            refine g_i2l (pc' := 134) d_296_133 rfl ?_
            refine g_lmul (pc' := 135) d_296_134 rfl ?_
            refine g_lsub (pc' := 136) d_296_135 rfl ?_
            refine g_lload (pc' := 138) d_296_136 rfl rfl ?_
            refine g_lmul (pc' := 139) d_296_138 rfl ?_
            refine g_lload (pc' := 141) d_296_139 rfl rfl ?_
            refine g_ladd (pc' := 142) d_296_141 rfl ?_
            refine g_lload (pc' := 144) d_296_142 rfl rfl ?_
            refine g_iloadn (pc' := 145) d_296_144 rfl rfl ?_
            refine g_iconst (pc' := 146) d_296_145 rfl ci_1 ?_
            refine g_iadd (pc' := 147) d_296_146 rfl ?_
            refine g_i2l (pc' := 148) d_296_147 rfl ?_
            refine g_lmul (pc' := 149) d_296_148 rfl ?_
            obtain ⟨w53, hk54, h⟩ := h
            refine g_callV (pc' := 152) d_296_149 rfl st_296_134 na_194 ml_194 rfl rfl rfl rm_296_194 rfl rfl ow_194 hw50 hk54 ?_
            refine g_aloadn (pc' := 153) d_296_152 rfl rfl ?_
            obtain ⟨fs55, hw56, h⟩ := h
            obtain ⟨b57, hv58, h⟩ := h
            refine g_getf (pc' := 156) d_296_153 rfl st_296_81 hw56 hv58 ?_
            refine g_iloadn (pc' := 157) d_296_156 rfl rfl ?_
            obtain ⟨n59, f60, hw61, h⟩ := h
            obtain ⟨hc62, h⟩ := h
            refine g_lald (pc' := 158) d_296_157 rfl hw61 hc62 ?_
            exact g_lret d_296_158 rt_296 h
        · replace h := h.2 c
          refine g_aloadn (pc' := 49) d_296_48 rfl rfl ?_
          obtain ⟨b63, hv64, h⟩ := h
          refine g_getf (pc' := 52) d_296_49 rfl st_296_13 hw12 hv64 ?_
          refine g_iloadn (pc' := 53) d_296_52 rfl rfl ?_
          refine g_iloadn (pc' := 54) d_296_53 rfl rfl ?_
          refine g_iadd (pc' := 55) d_296_54 rfl ?_
          obtain ⟨n65, f66, hw67, h⟩ := h
          obtain ⟨hc68, h⟩ := h
          refine g_lald (pc' := 56) d_296_55 rfl hw67 hc68 ?_
          exact g_lret d_296_56 rt_296 h
      · replace h := h.2 c
        refine g_ldc2 (pc' := 37) d_296_34 rfl st_296_166 cL_m9223372036854775808 ?_
        exact g_lret d_296_37 rt_296 h
-- 297 BernoulliWaysModel.genocchi(I)J
theorem S_297_0 {a0 : Nat} {i1 : Int32} {w : xW} {r : Option Value × xW} (h : ∃ fs1, w[a0]? = some (.inr (12, fs1)) ∧ (0 < fs1.length) ∧ ∀ w4, w4 = w.set a0 (.inr (12, fs1.set 0 (.int (0 : Int32)))) → ∃ r7 w5, xCall 199 [.int i1, .int (0 : Int32), .int (20 : Int32)] w4 (some (.int r7), w5) ∧ (r7 = 0 → r = (some (.long (-9223372036854775808 : Int64)), w5)) ∧ (¬ (r7 = 0) → ∃ fs8, w5[a0]? = some (.inr (12, fs8)) ∧ ∃ x10, fs8[4]? = some (.int x10) ∧ (i1 ≤ x10 → ∀ v12 : Int64, v12 = ((2 : Int64) * ((1 : Int64) - ((1 : Int64) <<< (i1.toInt64 &&& 63)))) → ∃ b13, fs8[2]? = some (.ref b13) ∧ ∃ n15 f16, w5[b13]? = some (.inl (.inr (n15, f16))) ∧ (¬ ((((3 : Int32) * i1) + (1 : Int32)) < 0 ∨ n15 ≤ (((3 : Int32) * i1) + (1 : Int32)).toNatClampNeg)) ∧ ∀ v19 : Int64, v19 = (v12 * (f16 (((3 : Int32) * i1) + (1 : Int32)).toNatClampNeg)) → (¬ ((((3 : Int32) * i1) + (2 : Int32)) < 0 ∨ n15 ≤ (((3 : Int32) * i1) + (2 : Int32)).toNatClampNeg)) ∧ (¬ (f16 (((3 : Int32) * i1) + (2 : Int32)).toNatClampNeg) = 0) ∧ (¬ (lrem v19 (f16 (((3 : Int32) * i1) + (2 : Int32)).toNatClampNeg)) = (0 : Int64) → r = (some (.long (-9223372036854775808 : Int64)), w5)) ∧ (¬ (¬ (lrem v19 (f16 (((3 : Int32) * i1) + (2 : Int32)).toNatClampNeg)) = (0 : Int64)) → (¬ (((3 : Int32) * i1) < 0 ∨ n15 ≤ ((3 : Int32) * i1).toNatClampNeg)) ∧ (¬ ((((3 : Int32) * i1) + (2 : Int32)) < 0 ∨ n15 ≤ (((3 : Int32) * i1) + (2 : Int32)).toNatClampNeg)) ∧ (¬ (f16 (((3 : Int32) * i1) + (2 : Int32)).toNatClampNeg) = 0) ∧ r = (some (.long ((v12 * (f16 ((3 : Int32) * i1).toNatClampNeg)) + (v19 / (f16 (((3 : Int32) * i1) + (2 : Int32)).toNatClampNeg)))), w5))) ∧ (¬ (i1 ≤ x10) → r = (some (.long (-9223372036854775808 : Int64)), w5)))) : xGo 297 0 [some (.ref a0), some (.int i1), none, none, none, none] [] w r := by
  refine g_aloadn (pc' := 1) d_297_0 rfl rfl ?_
  refine g_iconst (pc' := 2) d_297_1 rfl ci_0 ?_
  obtain ⟨fs1, hw2, h⟩ := h
  obtain ⟨hc3, h⟩ := h
  have h := h _ rfl
  refine g_putf (pc' := 5) d_297_2 rfl st_297_118 ft_12_0 ff_12_0 rfl (Or.inl rfl) hw2 hc3 ?_
  refine g_iloadn (pc' := 6) d_297_5 rfl rfl ?_
  refine g_iconst (pc' := 7) d_297_6 rfl ci_0 ?_
  refine g_bipush (pc' := 9) d_297_7 rfl cb_20 ?_
  obtain ⟨r7, w5, hk6, h⟩ := h
  refine g_callS (pc' := 12) d_297_9 rfl st_297_137 (Or.inl rfl) na_199 ml_199 rfl rfl rfl rm_297_199 rfl rfl hk6 ?_
  refine g_if_eq (pc' := 15) (pt := 23) d_297_12 (by decide) rfl (fun c => ?_) (fun c => ?_)
  · replace h := h.1 c
    refine g_ldc2 (pc' := 26) d_297_23 rfl st_297_166 cL_m9223372036854775808 ?_
    exact g_lret d_297_26 rt_297 h
  · replace h := h.2 c
    refine g_iloadn (pc' := 16) d_297_15 rfl rfl ?_
    refine g_aloadn (pc' := 17) d_297_16 rfl rfl ?_
    obtain ⟨fs8, hw9, h⟩ := h
    obtain ⟨x10, hv11, h⟩ := h
    refine g_getf (pc' := 20) d_297_17 rfl st_297_20 hw9 hv11 ?_
    refine g_ic_le (pc' := 23) (pt := 27) d_297_20 (by decide) rfl (fun c => ?_) (fun c => ?_)
    · replace h := h.1 c
      refine g_ldc2 (pc' := 30) d_297_27 rfl st_297_216 cL_2 ?_
      refine g_lconst (pc' := 31) d_297_30 rfl cl_1 ?_
      refine g_lconst (pc' := 32) d_297_31 rfl cl_1 ?_
      refine g_iloadn (pc' := 33) d_297_32 rfl rfl ?_
      refine g_lshl (pc' := 34) d_297_33 rfl ?_
      refine g_lsub (pc' := 35) d_297_34 rfl ?_
      refine g_lmul (pc' := 36) d_297_35 rfl ?_
      have h := h _ rfl
      refine g_lstoren (pc' := 37) (l' := [some (.ref a0), some (.int i1), some (.long (((2 : Int64) * ((1 : Int64) - ((1 : Int64) <<< (i1.toInt64 &&& 63)))))), none, none, none]) d_297_36 rfl ml_297 rfl rfl ?_
      refine g_lloadn (pc' := 38) d_297_37 rfl rfl ?_
      refine g_aloadn (pc' := 39) d_297_38 rfl rfl ?_
      obtain ⟨b13, hv14, h⟩ := h
      refine g_getf (pc' := 42) d_297_39 rfl st_297_13 hw9 hv14 ?_
      refine g_iconst (pc' := 43) d_297_42 rfl ci_3 ?_
      refine g_iloadn (pc' := 44) d_297_43 rfl rfl ?_
      refine g_imul (pc' := 45) d_297_44 rfl ?_
      refine g_iconst (pc' := 46) d_297_45 rfl ci_1 ?_
      refine g_iadd (pc' := 47) d_297_46 rfl ?_
      obtain ⟨n15, f16, hw17, h⟩ := h
      obtain ⟨hc18, h⟩ := h
      refine g_lald (pc' := 48) d_297_47 rfl hw17 hc18 ?_
      refine g_lmul (pc' := 49) d_297_48 rfl ?_
      have h := h _ rfl
      refine g_lstore (pc' := 51) (l' := [some (.ref a0), some (.int i1), some (.long (((2 : Int64) * ((1 : Int64) - ((1 : Int64) <<< (i1.toInt64 &&& 63)))))), none, some (.long (((((2 : Int64) * ((1 : Int64) - ((1 : Int64) <<< (i1.toInt64 &&& 63))))) * (f16 (((3 : Int32) * i1) + (1 : Int32)).toNatClampNeg)))), none]) d_297_49 rfl ml_297 rfl rfl ?_
      refine g_lload (pc' := 53) d_297_51 rfl rfl ?_
      refine g_aloadn (pc' := 54) d_297_53 rfl rfl ?_
      refine g_getf (pc' := 57) d_297_54 rfl st_297_13 hw9 hv14 ?_
      refine g_iconst (pc' := 58) d_297_57 rfl ci_3 ?_
      refine g_iloadn (pc' := 59) d_297_58 rfl rfl ?_
      refine g_imul (pc' := 60) d_297_59 rfl ?_
      refine g_iconst (pc' := 61) d_297_60 rfl ci_2 ?_
      refine g_iadd (pc' := 62) d_297_61 rfl ?_
      obtain ⟨hc20, h⟩ := h
      refine g_lald (pc' := 63) d_297_62 rfl hw17 hc20 ?_
      obtain ⟨hc21, h⟩ := h
      refine g_lrem (pc' := 64) d_297_63 rfl hc21 ?_
      refine g_lconst (pc' := 65) d_297_64 rfl cl_0 ?_
      refine g_lc_ne (pc' := 69) (pm := 66) (pt := 96) d_297_65 rfl d_297_66 (by decide) rfl (fun c => ?_) (fun c => ?_)
      · replace h := h.1 c
        refine g_ldc2 (pc' := 99) d_297_96 rfl st_297_166 cL_m9223372036854775808 ?_
        exact g_lret d_297_99 rt_297 h
      · replace h := h.2 c
        refine g_lloadn (pc' := 70) d_297_69 rfl rfl ?_
        refine g_aloadn (pc' := 71) d_297_70 rfl rfl ?_
        refine g_getf (pc' := 74) d_297_71 rfl st_297_13 hw9 hv14 ?_
        refine g_iconst (pc' := 75) d_297_74 rfl ci_3 ?_
        refine g_iloadn (pc' := 76) d_297_75 rfl rfl ?_
        refine g_imul (pc' := 77) d_297_76 rfl ?_
        obtain ⟨hc22, h⟩ := h
        refine g_lald (pc' := 78) d_297_77 rfl hw17 hc22 ?_
        refine g_lmul (pc' := 79) d_297_78 rfl ?_
        refine g_lload (pc' := 81) d_297_79 rfl rfl ?_
        refine g_aloadn (pc' := 82) d_297_81 rfl rfl ?_
        refine g_getf (pc' := 85) d_297_82 rfl st_297_13 hw9 hv14 ?_
        refine g_iconst (pc' := 86) d_297_85 rfl ci_3 ?_
        refine g_iloadn (pc' := 87) d_297_86 rfl rfl ?_
        refine g_imul (pc' := 88) d_297_87 rfl ?_
        refine g_iconst (pc' := 89) d_297_88 rfl ci_2 ?_
        refine g_iadd (pc' := 90) d_297_89 rfl ?_
        obtain ⟨hc23, h⟩ := h
        refine g_lald (pc' := 91) d_297_90 rfl hw17 hc23 ?_
        obtain ⟨hc24, h⟩ := h
        refine g_ldiv (pc' := 92) d_297_91 rfl hc24 ?_
        refine g_ladd (pc' := 93) d_297_92 rfl ?_
        refine g_goto (pt := 99) d_297_93 (by decide) ?_
        exact g_lret d_297_99 rt_297 h
    · replace h := h.2 c
      refine g_ldc2 (pc' := 26) d_297_23 rfl st_297_166 cL_m9223372036854775808 ?_
      exact g_lret d_297_26 rt_297 h
-- 298 BernoulliWaysModel.onto(II)J
theorem S_298_0 {a0 : Nat} {i1 : Int32} {i2 : Int32} {w : xW} {r : Option Value × xW} (h : ∃ fs1, w[a0]? = some (.inr (12, fs1)) ∧ (0 < fs1.length) ∧ ∀ w4, w4 = w.set a0 (.inr (12, fs1.set 0 (.int (0 : Int32)))) → ∃ r7 w5, xCall 199 [.int i1, .int (0 : Int32), .int (30 : Int32)] w4 (some (.int r7), w5) ∧ (r7 = 0 → r = (some (.long (-9223372036854775808 : Int64)), w5)) ∧ (¬ (r7 = 0) → ∃ r10 w8, xCall 199 [.int i2, .int (0 : Int32), .int (30 : Int32)] w5 (some (.int r10), w8) ∧ (¬ r10 = 0 → ∃ fs11, w8[a0]? = some (.inr (12, fs11)) ∧ ∃ w13, xCall 299 [.ref a0, .int i1] w8 (none, w13) ∧ ∃ fs15, w13[a0]? = some (.inr (12, fs15)) ∧ ∃ b17, fs15[31]? = some (.ref b17) ∧ ∃ n19 f20, w13[b17]? = some (.inl (.inr (n19, f20))) ∧ (¬ (i2 < 0 ∨ n19 ≤ i2.toNatClampNeg)) ∧ r = (some (.long (f20 i2.toNatClampNeg)), w13)) ∧ (¬ (¬ r10 = 0) → r = (some (.long (-9223372036854775808 : Int64)), w8)))) : xGo 298 0 [some (.ref a0), some (.int i1), some (.int i2)] [] w r := by
  refine g_aloadn (pc' := 1) d_298_0 rfl rfl ?_
  refine g_iconst (pc' := 2) d_298_1 rfl ci_0 ?_
  obtain ⟨fs1, hw2, h⟩ := h
  obtain ⟨hc3, h⟩ := h
  have h := h _ rfl
  refine g_putf (pc' := 5) d_298_2 rfl st_298_118 ft_12_0 ff_12_0 rfl (Or.inl rfl) hw2 hc3 ?_
  refine g_iloadn (pc' := 6) d_298_5 rfl rfl ?_
  refine g_iconst (pc' := 7) d_298_6 rfl ci_0 ?_
  refine g_bipush (pc' := 9) d_298_7 rfl cb_30 ?_
  obtain ⟨r7, w5, hk6, h⟩ := h
  refine g_callS (pc' := 12) d_298_9 rfl st_298_137 (Or.inl rfl) na_199 ml_199 rfl rfl rfl rm_298_199 rfl rfl hk6 ?_
  refine g_if_eq (pc' := 15) (pt := 25) d_298_12 (by decide) rfl (fun c => ?_) (fun c => ?_)
  · replace h := h.1 c
    refine g_ldc2 (pc' := 28) d_298_25 rfl st_298_166 cL_m9223372036854775808 ?_
    exact g_lret d_298_28 rt_298 h
  · replace h := h.2 c
    refine g_iloadn (pc' := 16) d_298_15 rfl rfl ?_
    refine g_iconst (pc' := 17) d_298_16 rfl ci_0 ?_
    refine g_bipush (pc' := 19) d_298_17 rfl cb_30 ?_
    obtain ⟨r10, w8, hk9, h⟩ := h
    refine g_callS (pc' := 22) d_298_19 rfl st_298_137 (Or.inl rfl) na_199 ml_199 rfl rfl rfl rm_298_199 rfl rfl hk9 ?_
    refine g_if_ne (pc' := 25) (pt := 29) d_298_22 (by decide) rfl (fun c => ?_) (fun c => ?_)
    · replace h := h.1 c
      refine g_aloadn (pc' := 30) d_298_29 rfl rfl ?_
      refine g_iloadn (pc' := 31) d_298_30 rfl rfl ?_
      obtain ⟨fs11, hw12, h⟩ := h
      obtain ⟨w13, hk14, h⟩ := h
      refine g_callV (pc' := 34) d_298_31 rfl st_298_365 na_299 ml_299 rfl rfl rfl rm_298_299 rfl rfl ow_299 hw12 hk14 ?_
      refine g_aloadn (pc' := 35) d_298_34 rfl rfl ?_
      obtain ⟨fs15, hw16, h⟩ := h
      obtain ⟨b17, hv18, h⟩ := h
      refine g_getf (pc' := 38) d_298_35 rfl st_298_87 hw16 hv18 ?_
      refine g_iloadn (pc' := 39) d_298_38 rfl rfl ?_
      obtain ⟨n19, f20, hw21, h⟩ := h
      obtain ⟨hc22, h⟩ := h
      refine g_lald (pc' := 40) d_298_39 rfl hw21 hc22 ?_
      exact g_lret d_298_40 rt_298 h
    · replace h := h.2 c
      refine g_ldc2 (pc' := 28) d_298_25 rfl st_298_166 cL_m9223372036854775808 ?_
      exact g_lret d_298_28 rt_298 h
-- 299 BernoulliWaysModel.laysBoxes(I)V
theorem S_299_0 {a0 : Nat} {i1 : Int32} {w : xW} {r : Option Value × xW} (h : xGo 299 2 [some (.ref a0), some (.int i1), some (.int (0 : Int32)), none] [] w r) : xGo 299 0 [some (.ref a0), some (.int i1), none, none] [] w r := by
  refine g_iconst (pc' := 1) d_299_0 rfl ci_0 ?_
  refine g_istoren (pc' := 2) (l' := [some (.ref a0), some (.int i1), some (.int (0 : Int32)), none]) d_299_1 rfl ml_299 rfl rfl ?_
  exact h
theorem S_299_2 {a0 : Nat} {i1 : Int32} {i2 : Int32} {w : xW} {r : Option Value × xW} (h : ((32 : Int32) ≤ i2 → xGo 299 31 [some (.ref a0), some (.int i1), some (.int (1 : Int32)), none] [] w r) ∧ (¬ ((32 : Int32) ≤ i2) → ∃ fs1, w[a0]? = some (.inr (12, fs1)) ∧ ∃ b3, fs1[31]? = some (.ref b3) ∧ (¬ i2 = 0 → ∃ n5 f6, w[b3]? = some (.inl (.inr (n5, f6))) ∧ (¬ (i2 < 0 ∨ n5 ≤ i2.toNatClampNeg)) ∧ ∀ w9, w9 = w.set b3 (.inl (.inr (n5, (vp_updL f6 i2.toNatClampNeg (0 : Int64))))) → ∀ v10 : Int32, v10 = i2 + (1 : Int32) → xGo 299 2 [some (.ref a0), some (.int i1), some (.int v10), none] [] w9 r) ∧ (¬ (¬ i2 = 0) → ∃ n11 f12, w[b3]? = some (.inl (.inr (n11, f12))) ∧ (¬ (i2 < 0 ∨ n11 ≤ i2.toNatClampNeg)) ∧ ∀ w15, w15 = w.set b3 (.inl (.inr (n11, (vp_updL f12 i2.toNatClampNeg (1 : Int64))))) → ∀ v16 : Int32, v16 = i2 + (1 : Int32) → xGo 299 2 [some (.ref a0), some (.int i1), some (.int v16), none] [] w15 r))) : xGo 299 2 [some (.ref a0), some (.int i1), some (.int i2), none] [] w r := by
  refine g_iloadn (pc' := 3) d_299_2 rfl rfl ?_
  refine g_bipush (pc' := 5) d_299_3 rfl cb_32 ?_
  refine g_ic_ge (pc' := 8) (pt := 29) d_299_5 (by decide) rfl (fun c => ?_) (fun c => ?_)
  · replace h := h.1 c
    refine g_iconst (pc' := 30) d_299_29 rfl ci_1 ?_
    refine g_istoren (pc' := 31) (l' := [some (.ref a0), some (.int i1), some (.int (1 : Int32)), none]) d_299_30 rfl ml_299 rfl rfl ?_
    exact h
  · replace h := h.2 c
    refine g_aloadn (pc' := 9) d_299_8 rfl rfl ?_
    obtain ⟨fs1, hw2, h⟩ := h
    obtain ⟨b3, hv4, h⟩ := h
    refine g_getf (pc' := 12) d_299_9 rfl st_299_87 hw2 hv4 ?_
    refine g_iloadn (pc' := 13) d_299_12 rfl rfl ?_
    refine g_iloadn (pc' := 14) d_299_13 rfl rfl ?_
    refine g_if_ne (pc' := 17) (pt := 21) d_299_14 (by decide) rfl (fun c => ?_) (fun c => ?_)
    · replace h := h.1 c
      refine g_lconst (pc' := 22) d_299_21 rfl cl_0 ?_
      obtain ⟨n5, f6, hw7, h⟩ := h
      obtain ⟨hc8, h⟩ := h
      have h := h _ rfl
      refine g_last (pc' := 23) d_299_22 rfl hw7 hc8 ?_
      have h := h _ rfl
      refine g_iinc (pc' := 26) (l' := [some (.ref a0), some (.int i1), some (.int (i2 + (1 : Int32))), none]) d_299_23 rfl rfl ci_1 ml_299 rfl rfl ?_
      refine g_goto (pt := 2) d_299_26 (by decide) ?_
      exact h
    · replace h := h.2 c
      refine g_lconst (pc' := 18) d_299_17 rfl cl_1 ?_
      refine g_goto (pt := 22) d_299_18 (by decide) ?_
      obtain ⟨n11, f12, hw13, h⟩ := h
      obtain ⟨hc14, h⟩ := h
      have h := h _ rfl
      refine g_last (pc' := 23) d_299_22 rfl hw13 hc14 ?_
      have h := h _ rfl
      refine g_iinc (pc' := 26) (l' := [some (.ref a0), some (.int i1), some (.int (i2 + (1 : Int32))), none]) d_299_23 rfl rfl ci_1 ml_299 rfl rfl ?_
      refine g_goto (pt := 2) d_299_26 (by decide) ?_
      exact h
theorem S_299_31 {a0 : Nat} {i1 : Int32} {i2 : Int32} {w : xW} {r : Option Value × xW} (h : (i1 < i2 → r = (none, w)) ∧ (¬ (i1 < i2) → xGo 299 38 [some (.ref a0), some (.int i1), some (.int i2), some (.int i2)] [] w r)) : xGo 299 31 [some (.ref a0), some (.int i1), some (.int i2), none] [] w r := by
  refine g_iloadn (pc' := 32) d_299_31 rfl rfl ?_
  refine g_iloadn (pc' := 33) d_299_32 rfl rfl ?_
  refine g_ic_gt (pc' := 36) (pt := 85) d_299_33 (by decide) rfl (fun c => ?_) (fun c => ?_)
  · replace h := h.1 c
    exact g_vret d_299_85 rt_299 h
  · replace h := h.2 c
    refine g_iloadn (pc' := 37) d_299_36 rfl rfl ?_
    refine g_istoren (pc' := 38) (l' := [some (.ref a0), some (.int i1), some (.int i2), some (.int i2)]) d_299_37 rfl ml_299 rfl rfl ?_
    exact h
theorem S_299_38 {a0 : Nat} {i1 : Int32} {i2 : Int32} {i3 : Int32} {w : xW} {r : Option Value × xW} (h : (i3 ≤ 0 → ∃ fs1, w[a0]? = some (.inr (12, fs1)) ∧ ∃ b3, fs1[31]? = some (.ref b3) ∧ ∃ n5 f6, w[b3]? = some (.inl (.inr (n5, f6))) ∧ (¬ ((0 : Int32) < 0 ∨ n5 ≤ (0 : Int32).toNatClampNeg)) ∧ ∀ w9, w9 = w.set b3 (.inl (.inr (n5, (vp_updL f6 (0 : Int32).toNatClampNeg (0 : Int64))))) → ∀ v10 : Int32, v10 = i2 + (1 : Int32) → xGo 299 31 [some (.ref a0), some (.int i1), some (.int v10), none] [] w9 r) ∧ (¬ (i3 ≤ 0) → ∃ fs11, w[a0]? = some (.inr (12, fs11)) ∧ ∃ b13, fs11[31]? = some (.ref b13) ∧ ∃ n15 f16, w[b13]? = some (.inl (.inr (n15, f16))) ∧ (¬ (i3 < 0 ∨ n15 ≤ i3.toNatClampNeg)) ∧ (¬ ((i3 - (1 : Int32)) < 0 ∨ n15 ≤ (i3 - (1 : Int32)).toNatClampNeg)) ∧ ∃ r22 w20, xCall 300 [.int i3, .long (f16 i3.toNatClampNeg), .long (f16 (i3 - (1 : Int32)).toNatClampNeg)] w (some (.long r22), w20) ∧ ∃ n23 f24, w20[b13]? = some (.inl (.inr (n23, f24))) ∧ (¬ (i3 < 0 ∨ n23 ≤ i3.toNatClampNeg)) ∧ ∀ w27, w27 = w20.set b13 (.inl (.inr (n23, (vp_updL f24 i3.toNatClampNeg r22)))) → ∀ v28 : Int32, v28 = i3 + (-1 : Int32) → xGo 299 38 [some (.ref a0), some (.int i1), some (.int i2), some (.int v28)] [] w27 r)) : xGo 299 38 [some (.ref a0), some (.int i1), some (.int i2), some (.int i3)] [] w r := by
  refine g_iloadn (pc' := 39) d_299_38 rfl rfl ?_
  refine g_if_le (pc' := 42) (pt := 72) d_299_39 (by decide) rfl (fun c => ?_) (fun c => ?_)
  · replace h := h.1 c
    refine g_aloadn (pc' := 73) d_299_72 rfl rfl ?_
    obtain ⟨fs1, hw2, h⟩ := h
    obtain ⟨b3, hv4, h⟩ := h
    refine g_getf (pc' := 76) d_299_73 rfl st_299_87 hw2 hv4 ?_
    refine g_iconst (pc' := 77) d_299_76 rfl ci_0 ?_
    refine g_lconst (pc' := 78) d_299_77 rfl cl_0 ?_
    obtain ⟨n5, f6, hw7, h⟩ := h
    obtain ⟨hc8, h⟩ := h
    have h := h _ rfl
    refine g_last (pc' := 79) d_299_78 rfl hw7 hc8 ?_
    have h := h _ rfl
    refine g_iinc (pc' := 82) (l' := [some (.ref a0), some (.int i1), some (.int (i2 + (1 : Int32))), some (.int i3)]) d_299_79 rfl rfl ci_1 ml_299 rfl rfl ?_
    refine g_goto (pt := 31) d_299_82 (by decide) ?_
    exact xGo.more (xle_s (xle_s (xle_s (xle_n xle_0)))) h
  · replace h := h.2 c
    refine g_aloadn (pc' := 43) d_299_42 rfl rfl ?_
    obtain ⟨fs11, hw12, h⟩ := h
    obtain ⟨b13, hv14, h⟩ := h
    refine g_getf (pc' := 46) d_299_43 rfl st_299_87 hw12 hv14 ?_
    refine g_iloadn (pc' := 47) d_299_46 rfl rfl ?_
    refine g_iloadn (pc' := 48) d_299_47 rfl rfl ?_
    refine g_aloadn (pc' := 49) d_299_48 rfl rfl ?_
    refine g_getf (pc' := 52) d_299_49 rfl st_299_87 hw12 hv14 ?_
    refine g_iloadn (pc' := 53) d_299_52 rfl rfl ?_
    obtain ⟨n15, f16, hw17, h⟩ := h
    obtain ⟨hc18, h⟩ := h
    refine g_lald (pc' := 54) d_299_53 rfl hw17 hc18 ?_
    refine g_aloadn (pc' := 55) d_299_54 rfl rfl ?_
    refine g_getf (pc' := 58) d_299_55 rfl st_299_87 hw12 hv14 ?_
    refine g_iloadn (pc' := 59) d_299_58 rfl rfl ?_
    refine g_iconst (pc' := 60) d_299_59 rfl ci_1 ?_
    refine g_isub (pc' := 61) d_299_60 rfl ?_
    obtain ⟨hc19, h⟩ := h
    refine g_lald (pc' := 62) d_299_61 rfl hw17 hc19 ?_
    obtain ⟨r22, w20, hk21, h⟩ := h
    refine g_callS (pc' := 65) d_299_62 rfl st_299_361 (Or.inl rfl) na_300 ml_300 rfl rfl rfl rm_299_300 rfl rfl hk21 ?_
    obtain ⟨n23, f24, hw25, h⟩ := h
    obtain ⟨hc26, h⟩ := h
    have h := h _ rfl
    refine g_last (pc' := 66) d_299_65 rfl hw25 hc26 ?_
    have h := h _ rfl
    refine g_iinc (pc' := 69) (l' := [some (.ref a0), some (.int i1), some (.int i2), some (.int (i3 + (-1 : Int32)))]) d_299_66 rfl rfl ci_m1 ml_299 rfl rfl ?_
    refine g_goto (pt := 38) d_299_69 (by decide) ?_
    exact h
-- 300 BernoulliWaysModel.timesUpTo(IJJ)J
theorem S_300_0 {i0 : Int32} {l1 : Int64} {l3 : Int64} {w : xW} {r : Option Value × xW} (h : (l1 = (-9223372036854775808 : Int64) → r = (some (.long (-9223372036854775808 : Int64)), w)) ∧ (¬ (l1 = (-9223372036854775808 : Int64)) → (¬ l3 = (-9223372036854775808 : Int64) → (l1 ≤ ((9223372036854775807 : Int64) - l3) → (¬ (l1 + l3) = (0 : Int64) → (¬ (i0.toInt64) = 0) ∧ ((l1 + l3) ≤ ((9223372036854775807 : Int64) / (i0.toInt64)) → r = (some (.long ((i0.toInt64) * (l1 + l3))), w)) ∧ (¬ ((l1 + l3) ≤ ((9223372036854775807 : Int64) / (i0.toInt64))) → r = (some (.long (-9223372036854775808 : Int64)), w))) ∧ (¬ (¬ (l1 + l3) = (0 : Int64)) → r = (some (.long (0 : Int64)), w))) ∧ (¬ (l1 ≤ ((9223372036854775807 : Int64) - l3)) → r = (some (.long (-9223372036854775808 : Int64)), w))) ∧ (¬ (¬ l3 = (-9223372036854775808 : Int64)) → r = (some (.long (-9223372036854775808 : Int64)), w)))) : xGo 300 0 [some (.int i0), some (.long l1), none, some (.long l3), none] [] w r := by
  refine g_lloadn (pc' := 1) d_300_0 rfl rfl ?_
  refine g_ldc2 (pc' := 4) d_300_1 rfl st_300_166 cL_m9223372036854775808 ?_
  refine g_lc_eq (pc' := 8) (pm := 5) (pt := 16) d_300_4 rfl d_300_5 (by decide) rfl (fun c => ?_) (fun c => ?_)
  · replace h := h.1 c
    refine g_ldc2 (pc' := 19) d_300_16 rfl st_300_166 cL_m9223372036854775808 ?_
    exact g_lret d_300_19 rt_300 h
  · replace h := h.2 c
    refine g_lloadn (pc' := 9) d_300_8 rfl rfl ?_
    refine g_ldc2 (pc' := 12) d_300_9 rfl st_300_166 cL_m9223372036854775808 ?_
    refine g_lc_ne (pc' := 16) (pm := 13) (pt := 20) d_300_12 rfl d_300_13 (by decide) rfl (fun c => ?_) (fun c => ?_)
    · replace h := h.1 c
      refine g_lloadn (pc' := 21) d_300_20 rfl rfl ?_
      refine g_ldc2 (pc' := 24) d_300_21 rfl st_300_359 cL_9223372036854775807 ?_
      refine g_lloadn (pc' := 25) d_300_24 rfl rfl ?_
      refine g_lsub (pc' := 26) d_300_25 rfl ?_
      refine g_lc_le (pc' := 30) (pm := 27) (pt := 34) d_300_26 rfl d_300_27 (by decide) rfl (fun c => ?_) (fun c => ?_)
      · replace h := h.1 c
        refine g_lloadn (pc' := 35) d_300_34 rfl rfl ?_
        refine g_lloadn (pc' := 36) d_300_35 rfl rfl ?_
        refine g_ladd (pc' := 37) d_300_36 rfl ?_
        refine g_lconst (pc' := 38) d_300_37 rfl cl_0 ?_
        refine g_lc_ne (pc' := 42) (pm := 39) (pt := 46) d_300_38 rfl d_300_39 (by decide) rfl (fun c => ?_) (fun c => ?_)
        · replace h := h.1 c
          refine g_lloadn (pc' := 47) d_300_46 rfl rfl ?_
          refine g_lloadn (pc' := 48) d_300_47 rfl rfl ?_
          refine g_ladd (pc' := 49) d_300_48 rfl ?_
          refine g_ldc2 (pc' := 52) d_300_49 rfl st_300_359 cL_9223372036854775807 ?_
          refine g_iloadn (pc' := 53) d_300_52 rfl rfl ?_
          refine g_i2l (pc' := 54) d_300_53 rfl ?_
          obtain ⟨hc1, h⟩ := h
          refine g_ldiv (pc' := 55) d_300_54 rfl hc1 ?_
          refine g_lc_le (pc' := 59) (pm := 56) (pt := 65) d_300_55 rfl d_300_56 (by decide) rfl (fun c => ?_) (fun c => ?_)
          · replace h := h.1 c
            refine g_iloadn (pc' := 66) d_300_65 rfl rfl ?_
            refine g_i2l (pc' := 67) d_300_66 rfl ?_
            refine g_lloadn (pc' := 68) d_300_67 rfl rfl ?_
            refine g_lloadn (pc' := 69) d_300_68 rfl rfl ?_
            refine g_ladd (pc' := 70) d_300_69 rfl ?_
            refine g_lmul (pc' := 71) d_300_70 rfl ?_
            exact g_lret d_300_71 rt_300 h
          · replace h := h.2 c
            refine g_ldc2 (pc' := 62) d_300_59 rfl st_300_166 cL_m9223372036854775808 ?_
            refine g_goto (pt := 71) d_300_62 (by decide) ?_
            exact g_lret d_300_71 rt_300 h
        · replace h := h.2 c
          refine g_lconst (pc' := 43) d_300_42 rfl cl_0 ?_
          refine g_goto (pt := 71) d_300_43 (by decide) ?_
          exact g_lret d_300_71 rt_300 h
      · replace h := h.2 c
        refine g_ldc2 (pc' := 33) d_300_30 rfl st_300_166 cL_m9223372036854775808 ?_
        exact g_lret d_300_33 rt_300 h
    · replace h := h.2 c
      refine g_ldc2 (pc' := 19) d_300_16 rfl st_300_166 cL_m9223372036854775808 ?_
      exact g_lret d_300_19 rt_300 h
-- 301 BernoulliWaysModel.byBoxes(II)J
theorem S_301_0 {a0 : Nat} {i1 : Int32} {i2 : Int32} {w : xW} {r : Option Value × xW} (h : ∃ fs1, w[a0]? = some (.inr (12, fs1)) ∧ (0 < fs1.length) ∧ ∀ w4, w4 = w.set a0 (.inr (12, fs1.set 0 (.int (0 : Int32)))) → ∃ r7 w5, xCall 199 [.int i1, .int (0 : Int32), .int (20 : Int32)] w4 (some (.int r7), w5) ∧ (r7 = 0 → r = (some (.long (-9223372036854775808 : Int64)), w5)) ∧ (¬ (r7 = 0) → ∃ r10 w8, xCall 199 [.int i2, .int (0 : Int32), .int (2 : Int32)] w5 (some (.int r10), w8) ∧ (¬ r10 = 0 → ∃ fs11, w8[a0]? = some (.inr (12, fs11)) ∧ ∃ w13, xCall 299 [.ref a0, .int i1] w8 (none, w13) ∧ xGo 301 41 [some (.ref a0), some (.int i1), some (.int i2), some (.long (0 : Int64)), none, some (.long (0 : Int64)), none, some (.int (0 : Int32)), none, none, none, none] [] w13 r) ∧ (¬ (¬ r10 = 0) → r = (some (.long (-9223372036854775808 : Int64)), w8)))) : xGo 301 0 [some (.ref a0), some (.int i1), some (.int i2), none, none, none, none, none, none, none, none, none] [] w r := by
  refine g_aloadn (pc' := 1) d_301_0 rfl rfl ?_
  refine g_iconst (pc' := 2) d_301_1 rfl ci_0 ?_
  obtain ⟨fs1, hw2, h⟩ := h
  obtain ⟨hc3, h⟩ := h
  have h := h _ rfl
  refine g_putf (pc' := 5) d_301_2 rfl st_301_118 ft_12_0 ff_12_0 rfl (Or.inl rfl) hw2 hc3 ?_
  refine g_iloadn (pc' := 6) d_301_5 rfl rfl ?_
  refine g_iconst (pc' := 7) d_301_6 rfl ci_0 ?_
  refine g_bipush (pc' := 9) d_301_7 rfl cb_20 ?_
  obtain ⟨r7, w5, hk6, h⟩ := h
  refine g_callS (pc' := 12) d_301_9 rfl st_301_137 (Or.inl rfl) na_199 ml_199 rfl rfl rfl rm_301_199 rfl rfl hk6 ?_
  refine g_if_eq (pc' := 15) (pt := 24) d_301_12 (by decide) rfl (fun c => ?_) (fun c => ?_)
  · replace h := h.1 c
    refine g_ldc2 (pc' := 27) d_301_24 rfl st_301_166 cL_m9223372036854775808 ?_
    exact g_lret d_301_27 rt_301 h
  · replace h := h.2 c
    refine g_iloadn (pc' := 16) d_301_15 rfl rfl ?_
    refine g_iconst (pc' := 17) d_301_16 rfl ci_0 ?_
    refine g_iconst (pc' := 18) d_301_17 rfl ci_2 ?_
    obtain ⟨r10, w8, hk9, h⟩ := h
    refine g_callS (pc' := 21) d_301_18 rfl st_301_137 (Or.inl rfl) na_199 ml_199 rfl rfl rfl rm_301_199 rfl rfl hk9 ?_
    refine g_if_ne (pc' := 24) (pt := 28) d_301_21 (by decide) rfl (fun c => ?_) (fun c => ?_)
    · replace h := h.1 c
      refine g_aloadn (pc' := 29) d_301_28 rfl rfl ?_
      refine g_iloadn (pc' := 30) d_301_29 rfl rfl ?_
      obtain ⟨fs11, hw12, h⟩ := h
      obtain ⟨w13, hk14, h⟩ := h
      refine g_callV (pc' := 33) d_301_30 rfl st_301_365 na_299 ml_299 rfl rfl rfl rm_301_299 rfl rfl ow_299 hw12 hk14 ?_
      refine g_lconst (pc' := 34) d_301_33 rfl cl_0 ?_
      refine g_lstoren (pc' := 35) (l' := [some (.ref a0), some (.int i1), some (.int i2), some (.long (0 : Int64)), none, none, none, none, none, none, none, none]) d_301_34 rfl ml_301 rfl rfl ?_
      refine g_lconst (pc' := 36) d_301_35 rfl cl_0 ?_
      refine g_lstore (pc' := 38) (l' := [some (.ref a0), some (.int i1), some (.int i2), some (.long (0 : Int64)), none, some (.long (0 : Int64)), none, none, none, none, none, none]) d_301_36 rfl ml_301 rfl rfl ?_
      refine g_iconst (pc' := 39) d_301_38 rfl ci_0 ?_
      refine g_istore (pc' := 41) (l' := [some (.ref a0), some (.int i1), some (.int i2), some (.long (0 : Int64)), none, some (.long (0 : Int64)), none, some (.int (0 : Int32)), none, none, none, none]) d_301_39 rfl ml_301 rfl rfl ?_
      exact h
    · replace h := h.2 c
      refine g_ldc2 (pc' := 27) d_301_24 rfl st_301_166 cL_m9223372036854775808 ?_
      exact g_lret d_301_27 rt_301 h
theorem S_301_41 {a0 : Nat} {i1 : Int32} {i2 : Int32} {l3 : Int64} {l5 : Int64} {i7 : Int32} {w : xW} {r : Option Value × xW} (h : (i1 < i7 → ∃ r3 w1, xCall 193 [.long l5, .long (232792560 : Int64)] w (some (.long r3), w1) ∧ ∃ fs4, w1[a0]? = some (.inr (12, fs4)) ∧ ∃ b6, fs4[29]? = some (.ref b6) ∧ ∃ w8, xCall 194 [.ref a0, .ref b6, .int (0 : Int32), .long (l3 + r3), .long (l5 - (r3 * (232792560 : Int64))), .long (232792560 : Int64)] w1 (none, w8) ∧ ∃ fs10, w8[a0]? = some (.inr (12, fs10)) ∧ ∃ b12, fs10[29]? = some (.ref b12) ∧ ∃ n14 f15, w8[b12]? = some (.inl (.inr (n14, f15))) ∧ (¬ (i2 < 0 ∨ n14 ≤ i2.toNatClampNeg)) ∧ r = (some (.long (f15 i2.toNatClampNeg)), w8)) ∧ (¬ (i1 < i7) → ∃ fs18, w[a0]? = some (.inr (12, fs18)) ∧ ∃ b20, fs18[31]? = some (.ref b20) ∧ ∃ n22 f23, w[b20]? = some (.inl (.inr (n22, f23))) ∧ (¬ (i7 < 0 ∨ n22 ≤ i7.toNatClampNeg)) ∧ (¬ (f23 i7.toNatClampNeg) = (-9223372036854775808 : Int64) → (¬ (i7 < 0 ∨ n22 ≤ i7.toNatClampNeg)) ∧ (¬ ((i7 + (1 : Int32)).toInt64) = 0) ∧ ∀ v28 : Int64, v28 = ((f23 i7.toNatClampNeg) / ((i7 + (1 : Int32)).toInt64)) → (¬ (i7 < 0 ∨ n22 ≤ i7.toNatClampNeg)) ∧ (¬ ((i7 + (1 : Int32)).toInt64) = 0) ∧ (¬ ((i7 + (1 : Int32)).toInt64) = 0) ∧ ∀ v32 : Int64, v32 = ((lrem (f23 i7.toNatClampNeg) ((i7 + (1 : Int32)).toInt64)) * ((232792560 : Int64) / ((i7 + (1 : Int32)).toInt64))) → (¬ (irem i7 (2 : Int32)) = 0 → ∀ v33 : Int64, v33 = (l3 + (-v28)) → (¬ (irem i7 (2 : Int32)) = 0 → ∀ v34 : Int64, v34 = (l5 + (-v32)) → ∀ v35 : Int32, v35 = i7 + (1 : Int32) → xGo 301 41 [some (.ref a0), some (.int i1), some (.int i2), some (.long v33), none, some (.long v34), none, some (.int v35), none, none, none, none] [] w r) ∧ (¬ (¬ (irem i7 (2 : Int32)) = 0) → ∀ v36 : Int64, v36 = (l5 + v32) → ∀ v37 : Int32, v37 = i7 + (1 : Int32) → xGo 301 41 [some (.ref a0), some (.int i1), some (.int i2), some (.long v33), none, some (.long v36), none, some (.int v37), none, none, none, none] [] w r)) ∧ (¬ (¬ (irem i7 (2 : Int32)) = 0) → ∀ v38 : Int64, v38 = (l3 + v28) → (¬ (irem i7 (2 : Int32)) = 0 → ∀ v39 : Int64, v39 = (l5 + (-v32)) → ∀ v40 : Int32, v40 = i7 + (1 : Int32) → xGo 301 41 [some (.ref a0), some (.int i1), some (.int i2), some (.long v38), none, some (.long v39), none, some (.int v40), none, none, none, none] [] w r) ∧ (¬ (¬ (irem i7 (2 : Int32)) = 0) → ∀ v41 : Int64, v41 = (l5 + v32) → ∀ v42 : Int32, v42 = i7 + (1 : Int32) → xGo 301 41 [some (.ref a0), some (.int i1), some (.int i2), some (.long v38), none, some (.long v41), none, some (.int v42), none, none, none, none] [] w r))) ∧ (¬ (¬ (f23 i7.toNatClampNeg) = (-9223372036854775808 : Int64)) → r = (some (.long (-9223372036854775808 : Int64)), w)))) : xGo 301 41 [some (.ref a0), some (.int i1), some (.int i2), some (.long l3), none, some (.long l5), none, some (.int i7), none, none, none, none] [] w r := by
  refine g_iload (pc' := 43) d_301_41 rfl rfl ?_
  refine g_iloadn (pc' := 44) d_301_43 rfl rfl ?_
  refine g_ic_gt (pc' := 47) (pt := 149) d_301_44 (by decide) rfl (fun c => ?_) (fun c => ?_)
  · replace h := h.1 c
    refine g_lload (pc' := 151) d_301_149 rfl rfl ?_
    refine g_ldc2 (pc' := 154) d_301_151 rfl st_301_368 cL_232792560 ?_
    obtain ⟨r3, w1, hk2, h⟩ := h
    refine g_callS (pc' := 157) d_301_154 rfl st_301_131 (Or.inl rfl) na_193 ml_193 rfl rfl rfl rm_301_193 rfl rfl hk2 ?_
    refine g_lstore (pc' := 159) (l' := [some (.ref a0), some (.int i1), some (.int i2), some (.long l3), none, some (.long l5), none, some (.long r3), none, none, none, none]) d_301_157 rfl ml_301 rfl rfl ?_
    refine g_aloadn (pc' := 160) d_301_159 rfl rfl ?_
    refine g_aloadn (pc' := 161) d_301_160 rfl rfl ?_
    obtain ⟨fs4, hw5, h⟩ := h
    obtain ⟨b6, hv7, h⟩ := h
    refine g_getf (pc' := 164) d_301_161 rfl st_301_81 hw5 hv7 ?_
    refine g_iconst (pc' := 165) d_301_164 rfl ci_0 ?_
    refine g_lloadn (pc' := 166) d_301_165 rfl rfl ?_
    refine g_lload (pc' := 168) d_301_166 rfl rfl ?_
    refine g_ladd (pc' := 169) d_301_168 rfl ?_
    refine g_lload (pc' := 171) d_301_169 rfl rfl ?_
    refine g_lload (pc' := 173) d_301_171 rfl rfl ?_
    refine g_ldc2 (pc' := 176) d_301_173 rfl st_301_368 cL_232792560 ?_
    refine g_lmul (pc' := 177) d_301_176 rfl ?_
    refine g_lsub (pc' := 178) d_301_177 rfl ?_
    refine g_ldc2 (pc' := 181) d_301_178 rfl st_301_368 cL_232792560 ?_
    obtain ⟨w8, hk9, h⟩ := h
    refine g_callV (pc' := 184) d_301_181 rfl st_301_134 na_194 ml_194 rfl rfl rfl rm_301_194 rfl rfl ow_194 hw5 hk9 ?_
    refine g_aloadn (pc' := 185) d_301_184 rfl rfl ?_
    obtain ⟨fs10, hw11, h⟩ := h
    obtain ⟨b12, hv13, h⟩ := h
    refine g_getf (pc' := 188) d_301_185 rfl st_301_81 hw11 hv13 ?_
    refine g_iloadn (pc' := 189) d_301_188 rfl rfl ?_
    obtain ⟨n14, f15, hw16, h⟩ := h
    obtain ⟨hc17, h⟩ := h
    refine g_lald (pc' := 190) d_301_189 rfl hw16 hc17 ?_
    exact g_lret d_301_190 rt_301 h
  · replace h := h.2 c
    refine g_aloadn (pc' := 48) d_301_47 rfl rfl ?_
    obtain ⟨fs18, hw19, h⟩ := h
    obtain ⟨b20, hv21, h⟩ := h
    refine g_getf (pc' := 51) d_301_48 rfl st_301_87 hw19 hv21 ?_
    refine g_iload (pc' := 53) d_301_51 rfl rfl ?_
    obtain ⟨n22, f23, hw24, h⟩ := h
    obtain ⟨hc25, h⟩ := h
    refine g_lald (pc' := 54) d_301_53 rfl hw24 hc25 ?_
    refine g_ldc2 (pc' := 57) d_301_54 rfl st_301_166 cL_m9223372036854775808 ?_
    refine g_lc_ne (pc' := 61) (pm := 58) (pt := 65) d_301_57 rfl d_301_58 (by decide) rfl (fun c => ?_) (fun c => ?_)
    · replace h := h.1 c
      refine g_aloadn (pc' := 66) d_301_65 rfl rfl ?_
      refine g_getf (pc' := 69) d_301_66 rfl st_301_87 hw19 hv21 ?_
      refine g_iload (pc' := 71) d_301_69 rfl rfl ?_
      obtain ⟨hc26, h⟩ := h
      refine g_lald (pc' := 72) d_301_71 rfl hw24 hc26 ?_
      refine g_iload (pc' := 74) d_301_72 rfl rfl ?_
      refine g_iconst (pc' := 75) d_301_74 rfl ci_1 ?_
      refine g_iadd (pc' := 76) d_301_75 rfl ?_
      refine g_i2l (pc' := 77) d_301_76 rfl ?_
      obtain ⟨hc27, h⟩ := h
      refine g_ldiv (pc' := 78) d_301_77 rfl hc27 ?_
      have h := h _ rfl
      refine g_lstore (pc' := 80) (l' := [some (.ref a0), some (.int i1), some (.int i2), some (.long l3), none, some (.long l5), none, some (.int i7), some (.long (((f23 i7.toNatClampNeg) / ((i7 + (1 : Int32)).toInt64)))), none, none, none]) d_301_78 rfl ml_301 rfl rfl ?_
      refine g_aloadn (pc' := 81) d_301_80 rfl rfl ?_
      refine g_getf (pc' := 84) d_301_81 rfl st_301_87 hw19 hv21 ?_
      refine g_iload (pc' := 86) d_301_84 rfl rfl ?_
      obtain ⟨hc29, h⟩ := h
      refine g_lald (pc' := 87) d_301_86 rfl hw24 hc29 ?_
      refine g_iload (pc' := 89) d_301_87 rfl rfl ?_
      refine g_iconst (pc' := 90) d_301_89 rfl ci_1 ?_
      refine g_iadd (pc' := 91) d_301_90 rfl ?_
      refine g_i2l (pc' := 92) d_301_91 rfl ?_
      obtain ⟨hc30, h⟩ := h
      refine g_lrem (pc' := 93) d_301_92 rfl hc30 ?_
      refine g_ldc2 (pc' := 96) d_301_93 rfl st_301_368 cL_232792560 ?_
      refine g_iload (pc' := 98) d_301_96 rfl rfl ?_
      refine g_iconst (pc' := 99) d_301_98 rfl ci_1 ?_
      refine g_iadd (pc' := 100) d_301_99 rfl ?_
      refine g_i2l (pc' := 101) d_301_100 rfl ?_
      obtain ⟨hc31, h⟩ := h
      refine g_ldiv (pc' := 102) d_301_101 rfl hc31 ?_
      refine g_lmul (pc' := 103) d_301_102 rfl ?_
      have h := h _ rfl
      refine g_lstore (pc' := 105) (l' := [some (.ref a0), some (.int i1), some (.int i2), some (.long l3), none, some (.long l5), none, some (.int i7), some (.long (((f23 i7.toNatClampNeg) / ((i7 + (1 : Int32)).toInt64)))), none, some (.long (((lrem (f23 i7.toNatClampNeg) ((i7 + (1 : Int32)).toInt64)) * ((232792560 : Int64) / ((i7 + (1 : Int32)).toInt64))))), none]) d_301_103 rfl ml_301 rfl rfl ?_
      refine g_lloadn (pc' := 106) d_301_105 rfl rfl ?_
      refine g_iload (pc' := 108) d_301_106 rfl rfl ?_
      refine g_iconst (pc' := 109) d_301_108 rfl ci_2 ?_
      refine g_irem (pc' := 110) d_301_109 rfl (by decide) ?_
      refine g_if_ne (pc' := 113) (pt := 118) d_301_110 (by decide) rfl (fun c => ?_) (fun c => ?_)
      · replace h := h.1 c
        refine g_lload (pc' := 120) d_301_118 rfl rfl ?_
        refine g_lneg (pc' := 121) d_301_120 rfl ?_
        refine g_ladd (pc' := 122) d_301_121 rfl ?_
        have h := h _ rfl
        refine g_lstoren (pc' := 123) (l' := [some (.ref a0), some (.int i1), some (.int i2), some (.long ((l3 + (-(((f23 i7.toNatClampNeg) / ((i7 + (1 : Int32)).toInt64))))))), none, some (.long l5), none, some (.int i7), some (.long (((f23 i7.toNatClampNeg) / ((i7 + (1 : Int32)).toInt64)))), none, some (.long (((lrem (f23 i7.toNatClampNeg) ((i7 + (1 : Int32)).toInt64)) * ((232792560 : Int64) / ((i7 + (1 : Int32)).toInt64))))), none]) d_301_122 rfl ml_301 rfl rfl ?_
        refine g_lload (pc' := 125) d_301_123 rfl rfl ?_
        refine g_iload (pc' := 127) d_301_125 rfl rfl ?_
        refine g_iconst (pc' := 128) d_301_127 rfl ci_2 ?_
        refine g_irem (pc' := 129) d_301_128 rfl (by decide) ?_
        refine g_if_ne (pc' := 132) (pt := 137) d_301_129 (by decide) rfl (fun c => ?_) (fun c => ?_)
        · replace h := h.1 c
          refine g_lload (pc' := 139) d_301_137 rfl rfl ?_
          refine g_lneg (pc' := 140) d_301_139 rfl ?_
          refine g_ladd (pc' := 141) d_301_140 rfl ?_
          have h := h _ rfl
          refine g_lstore (pc' := 143) (l' := [some (.ref a0), some (.int i1), some (.int i2), some (.long ((l3 + (-(((f23 i7.toNatClampNeg) / ((i7 + (1 : Int32)).toInt64))))))), none, some (.long ((l5 + (-(((lrem (f23 i7.toNatClampNeg) ((i7 + (1 : Int32)).toInt64)) * ((232792560 : Int64) / ((i7 + (1 : Int32)).toInt64)))))))), none, some (.int i7), some (.long (((f23 i7.toNatClampNeg) / ((i7 + (1 : Int32)).toInt64)))), none, some (.long (((lrem (f23 i7.toNatClampNeg) ((i7 + (1 : Int32)).toInt64)) * ((232792560 : Int64) / ((i7 + (1 : Int32)).toInt64))))), none]) d_301_141 rfl ml_301 rfl rfl ?_
          have h := h _ rfl
          refine g_iinc (pc' := 146) (l' := [some (.ref a0), some (.int i1), some (.int i2), some (.long ((l3 + (-(((f23 i7.toNatClampNeg) / ((i7 + (1 : Int32)).toInt64))))))), none, some (.long ((l5 + (-(((lrem (f23 i7.toNatClampNeg) ((i7 + (1 : Int32)).toInt64)) * ((232792560 : Int64) / ((i7 + (1 : Int32)).toInt64)))))))), none, some (.int (i7 + (1 : Int32))), some (.long (((f23 i7.toNatClampNeg) / ((i7 + (1 : Int32)).toInt64)))), none, some (.long (((lrem (f23 i7.toNatClampNeg) ((i7 + (1 : Int32)).toInt64)) * ((232792560 : Int64) / ((i7 + (1 : Int32)).toInt64))))), none]) d_301_143 rfl rfl ci_1 ml_301 rfl rfl ?_
          refine g_goto (pt := 41) d_301_146 (by decide) ?_
          exact xGo.more (xle_s (xle_s (xle_s (xle_s (xle_n (xle_s (xle_n (xle_s (xle_n (xle_n (xle_n (xle_n xle_0)))))))))))) h
        · replace h := h.2 c
          refine g_lload (pc' := 134) d_301_132 rfl rfl ?_
          refine g_goto (pt := 140) d_301_134 (by decide) ?_
          refine g_ladd (pc' := 141) d_301_140 rfl ?_
          have h := h _ rfl
          refine g_lstore (pc' := 143) (l' := [some (.ref a0), some (.int i1), some (.int i2), some (.long ((l3 + (-(((f23 i7.toNatClampNeg) / ((i7 + (1 : Int32)).toInt64))))))), none, some (.long ((l5 + (((lrem (f23 i7.toNatClampNeg) ((i7 + (1 : Int32)).toInt64)) * ((232792560 : Int64) / ((i7 + (1 : Int32)).toInt64))))))), none, some (.int i7), some (.long (((f23 i7.toNatClampNeg) / ((i7 + (1 : Int32)).toInt64)))), none, some (.long (((lrem (f23 i7.toNatClampNeg) ((i7 + (1 : Int32)).toInt64)) * ((232792560 : Int64) / ((i7 + (1 : Int32)).toInt64))))), none]) d_301_141 rfl ml_301 rfl rfl ?_
          have h := h _ rfl
          refine g_iinc (pc' := 146) (l' := [some (.ref a0), some (.int i1), some (.int i2), some (.long ((l3 + (-(((f23 i7.toNatClampNeg) / ((i7 + (1 : Int32)).toInt64))))))), none, some (.long ((l5 + (((lrem (f23 i7.toNatClampNeg) ((i7 + (1 : Int32)).toInt64)) * ((232792560 : Int64) / ((i7 + (1 : Int32)).toInt64))))))), none, some (.int (i7 + (1 : Int32))), some (.long (((f23 i7.toNatClampNeg) / ((i7 + (1 : Int32)).toInt64)))), none, some (.long (((lrem (f23 i7.toNatClampNeg) ((i7 + (1 : Int32)).toInt64)) * ((232792560 : Int64) / ((i7 + (1 : Int32)).toInt64))))), none]) d_301_143 rfl rfl ci_1 ml_301 rfl rfl ?_
          refine g_goto (pt := 41) d_301_146 (by decide) ?_
          exact xGo.more (xle_s (xle_s (xle_s (xle_s (xle_n (xle_s (xle_n (xle_s (xle_n (xle_n (xle_n (xle_n xle_0)))))))))))) h
      · replace h := h.2 c
        refine g_lload (pc' := 115) d_301_113 rfl rfl ?_
        refine g_goto (pt := 121) d_301_115 (by decide) ?_
        refine g_ladd (pc' := 122) d_301_121 rfl ?_
        have h := h _ rfl
        refine g_lstoren (pc' := 123) (l' := [some (.ref a0), some (.int i1), some (.int i2), some (.long ((l3 + (((f23 i7.toNatClampNeg) / ((i7 + (1 : Int32)).toInt64)))))), none, some (.long l5), none, some (.int i7), some (.long (((f23 i7.toNatClampNeg) / ((i7 + (1 : Int32)).toInt64)))), none, some (.long (((lrem (f23 i7.toNatClampNeg) ((i7 + (1 : Int32)).toInt64)) * ((232792560 : Int64) / ((i7 + (1 : Int32)).toInt64))))), none]) d_301_122 rfl ml_301 rfl rfl ?_
        refine g_lload (pc' := 125) d_301_123 rfl rfl ?_
        refine g_iload (pc' := 127) d_301_125 rfl rfl ?_
        refine g_iconst (pc' := 128) d_301_127 rfl ci_2 ?_
        refine g_irem (pc' := 129) d_301_128 rfl (by decide) ?_
        refine g_if_ne (pc' := 132) (pt := 137) d_301_129 (by decide) rfl (fun c => ?_) (fun c => ?_)
        · replace h := h.1 c
          refine g_lload (pc' := 139) d_301_137 rfl rfl ?_
          refine g_lneg (pc' := 140) d_301_139 rfl ?_
          refine g_ladd (pc' := 141) d_301_140 rfl ?_
          have h := h _ rfl
          refine g_lstore (pc' := 143) (l' := [some (.ref a0), some (.int i1), some (.int i2), some (.long ((l3 + (((f23 i7.toNatClampNeg) / ((i7 + (1 : Int32)).toInt64)))))), none, some (.long ((l5 + (-(((lrem (f23 i7.toNatClampNeg) ((i7 + (1 : Int32)).toInt64)) * ((232792560 : Int64) / ((i7 + (1 : Int32)).toInt64)))))))), none, some (.int i7), some (.long (((f23 i7.toNatClampNeg) / ((i7 + (1 : Int32)).toInt64)))), none, some (.long (((lrem (f23 i7.toNatClampNeg) ((i7 + (1 : Int32)).toInt64)) * ((232792560 : Int64) / ((i7 + (1 : Int32)).toInt64))))), none]) d_301_141 rfl ml_301 rfl rfl ?_
          have h := h _ rfl
          refine g_iinc (pc' := 146) (l' := [some (.ref a0), some (.int i1), some (.int i2), some (.long ((l3 + (((f23 i7.toNatClampNeg) / ((i7 + (1 : Int32)).toInt64)))))), none, some (.long ((l5 + (-(((lrem (f23 i7.toNatClampNeg) ((i7 + (1 : Int32)).toInt64)) * ((232792560 : Int64) / ((i7 + (1 : Int32)).toInt64)))))))), none, some (.int (i7 + (1 : Int32))), some (.long (((f23 i7.toNatClampNeg) / ((i7 + (1 : Int32)).toInt64)))), none, some (.long (((lrem (f23 i7.toNatClampNeg) ((i7 + (1 : Int32)).toInt64)) * ((232792560 : Int64) / ((i7 + (1 : Int32)).toInt64))))), none]) d_301_143 rfl rfl ci_1 ml_301 rfl rfl ?_
          refine g_goto (pt := 41) d_301_146 (by decide) ?_
          exact xGo.more (xle_s (xle_s (xle_s (xle_s (xle_n (xle_s (xle_n (xle_s (xle_n (xle_n (xle_n (xle_n xle_0)))))))))))) h
        · replace h := h.2 c
          refine g_lload (pc' := 134) d_301_132 rfl rfl ?_
          refine g_goto (pt := 140) d_301_134 (by decide) ?_
          refine g_ladd (pc' := 141) d_301_140 rfl ?_
          have h := h _ rfl
          refine g_lstore (pc' := 143) (l' := [some (.ref a0), some (.int i1), some (.int i2), some (.long ((l3 + (((f23 i7.toNatClampNeg) / ((i7 + (1 : Int32)).toInt64)))))), none, some (.long ((l5 + (((lrem (f23 i7.toNatClampNeg) ((i7 + (1 : Int32)).toInt64)) * ((232792560 : Int64) / ((i7 + (1 : Int32)).toInt64))))))), none, some (.int i7), some (.long (((f23 i7.toNatClampNeg) / ((i7 + (1 : Int32)).toInt64)))), none, some (.long (((lrem (f23 i7.toNatClampNeg) ((i7 + (1 : Int32)).toInt64)) * ((232792560 : Int64) / ((i7 + (1 : Int32)).toInt64))))), none]) d_301_141 rfl ml_301 rfl rfl ?_
          have h := h _ rfl
          refine g_iinc (pc' := 146) (l' := [some (.ref a0), some (.int i1), some (.int i2), some (.long ((l3 + (((f23 i7.toNatClampNeg) / ((i7 + (1 : Int32)).toInt64)))))), none, some (.long ((l5 + (((lrem (f23 i7.toNatClampNeg) ((i7 + (1 : Int32)).toInt64)) * ((232792560 : Int64) / ((i7 + (1 : Int32)).toInt64))))))), none, some (.int (i7 + (1 : Int32))), some (.long (((f23 i7.toNatClampNeg) / ((i7 + (1 : Int32)).toInt64)))), none, some (.long (((lrem (f23 i7.toNatClampNeg) ((i7 + (1 : Int32)).toInt64)) * ((232792560 : Int64) / ((i7 + (1 : Int32)).toInt64))))), none]) d_301_143 rfl rfl ci_1 ml_301 rfl rfl ?_
          refine g_goto (pt := 41) d_301_146 (by decide) ?_
          exact xGo.more (xle_s (xle_s (xle_s (xle_s (xle_n (xle_s (xle_n (xle_s (xle_n (xle_n (xle_n (xle_n xle_0)))))))))))) h
    · replace h := h.2 c
      refine g_ldc2 (pc' := 64) d_301_61 rfl st_301_166 cL_m9223372036854775808 ?_
      exact g_lret d_301_64 rt_301 h
-- 302 BernoulliWaysModel.zigzag(I)J
theorem S_302_0 {a0 : Nat} {i1 : Int32} {w : xW} {r : Option Value × xW} (h : ∃ fs1, w[a0]? = some (.inr (12, fs1)) ∧ (0 < fs1.length) ∧ ∀ w4, w4 = w.set a0 (.inr (12, fs1.set 0 (.int (0 : Int32)))) → ∃ r7 w5, xCall 199 [.int i1, .int (0 : Int32), .int (23 : Int32)] w4 (some (.int r7), w5) ∧ (¬ r7 = 0 → ∃ fs8, w5[a0]? = some (.inr (12, fs8)) ∧ ∃ b10, fs8[33]? = some (.ref b10) ∧ ∃ n12 f13, w5[b10]? = some (.inl (.inr (n12, f13))) ∧ (¬ ((0 : Int32) < 0 ∨ n12 ≤ (0 : Int32).toNatClampNeg)) ∧ ∀ w16, w16 = w5.set b10 (.inl (.inr (n12, (vp_updL f13 (0 : Int32).toNatClampNeg (1 : Int64))))) → xGo 302 28 [some (.ref a0), some (.int i1), some (.int (1 : Int32)), none] [] w16 r) ∧ (¬ (¬ r7 = 0) → r = (some (.long (-9223372036854775808 : Int64)), w5))) : xGo 302 0 [some (.ref a0), some (.int i1), none, none] [] w r := by
  refine g_aloadn (pc' := 1) d_302_0 rfl rfl ?_
  refine g_iconst (pc' := 2) d_302_1 rfl ci_0 ?_
  obtain ⟨fs1, hw2, h⟩ := h
  obtain ⟨hc3, h⟩ := h
  have h := h _ rfl
  refine g_putf (pc' := 5) d_302_2 rfl st_302_118 ft_12_0 ff_12_0 rfl (Or.inl rfl) hw2 hc3 ?_
  refine g_iloadn (pc' := 6) d_302_5 rfl rfl ?_
  refine g_iconst (pc' := 7) d_302_6 rfl ci_0 ?_
  refine g_bipush (pc' := 9) d_302_7 rfl cb_23 ?_
  obtain ⟨r7, w5, hk6, h⟩ := h
  refine g_callS (pc' := 12) d_302_9 rfl st_302_137 (Or.inl rfl) na_199 ml_199 rfl rfl rfl rm_302_199 rfl rfl hk6 ?_
  refine g_if_ne (pc' := 15) (pt := 19) d_302_12 (by decide) rfl (fun c => ?_) (fun c => ?_)
  · replace h := h.1 c
    refine g_aloadn (pc' := 20) d_302_19 rfl rfl ?_
    obtain ⟨fs8, hw9, h⟩ := h
    obtain ⟨b10, hv11, h⟩ := h
    refine g_getf (pc' := 23) d_302_20 rfl st_302_93 hw9 hv11 ?_
    refine g_iconst (pc' := 24) d_302_23 rfl ci_0 ?_
    refine g_lconst (pc' := 25) d_302_24 rfl cl_1 ?_
    obtain ⟨n12, f13, hw14, h⟩ := h
    obtain ⟨hc15, h⟩ := h
    have h := h _ rfl
    refine g_last (pc' := 26) d_302_25 rfl hw14 hc15 ?_
    refine g_iconst (pc' := 27) d_302_26 rfl ci_1 ?_
    refine g_istoren (pc' := 28) (l' := [some (.ref a0), some (.int i1), some (.int (1 : Int32)), none]) d_302_27 rfl ml_302 rfl rfl ?_
    exact h
  · replace h := h.2 c
    refine g_ldc2 (pc' := 18) d_302_15 rfl st_302_166 cL_m9223372036854775808 ?_
    exact g_lret d_302_18 rt_302 h
theorem S_302_28 {a0 : Nat} {i1 : Int32} {i2 : Int32} {w : xW} {r : Option Value × xW} (h : (i1 < i2 → ∃ fs1, w[a0]? = some (.inr (12, fs1)) ∧ ∃ b3, fs1[33]? = some (.ref b3) ∧ ∃ n5 f6, w[b3]? = some (.inl (.inr (n5, f6))) ∧ (¬ (i1 < 0 ∨ n5 ≤ i1.toNatClampNeg)) ∧ r = (some (.long (f6 i1.toNatClampNeg)), w)) ∧ (¬ (i1 < i2) → ∃ fs9, w[a0]? = some (.inr (12, fs9)) ∧ ∃ b11, fs9[32]? = some (.ref b11) ∧ ∃ n13 f14, w[b11]? = some (.inl (.inr (n13, f14))) ∧ (¬ ((0 : Int32) < 0 ∨ n13 ≤ (0 : Int32).toNatClampNeg)) ∧ ∀ w17, w17 = w.set b11 (.inl (.inr (n13, (vp_updL f14 (0 : Int32).toNatClampNeg (0 : Int64))))) → xGo 302 42 [some (.ref a0), some (.int i1), some (.int i2), some (.int (1 : Int32))] [] w17 r)) : xGo 302 28 [some (.ref a0), some (.int i1), some (.int i2), none] [] w r := by
  refine g_iloadn (pc' := 29) d_302_28 rfl rfl ?_
  refine g_iloadn (pc' := 30) d_302_29 rfl rfl ?_
  refine g_ic_gt (pc' := 33) (pt := 107) d_302_30 (by decide) rfl (fun c => ?_) (fun c => ?_)
  · replace h := h.1 c
    refine g_aloadn (pc' := 108) d_302_107 rfl rfl ?_
    obtain ⟨fs1, hw2, h⟩ := h
    obtain ⟨b3, hv4, h⟩ := h
    refine g_getf (pc' := 111) d_302_108 rfl st_302_93 hw2 hv4 ?_
    refine g_iloadn (pc' := 112) d_302_111 rfl rfl ?_
    obtain ⟨n5, f6, hw7, h⟩ := h
    obtain ⟨hc8, h⟩ := h
    refine g_lald (pc' := 113) d_302_112 rfl hw7 hc8 ?_
    exact g_lret d_302_113 rt_302 h
  · replace h := h.2 c
    refine g_aloadn (pc' := 34) d_302_33 rfl rfl ?_
    obtain ⟨fs9, hw10, h⟩ := h
    obtain ⟨b11, hv12, h⟩ := h
    refine g_getf (pc' := 37) d_302_34 rfl st_302_90 hw10 hv12 ?_
    refine g_iconst (pc' := 38) d_302_37 rfl ci_0 ?_
    refine g_lconst (pc' := 39) d_302_38 rfl cl_0 ?_
    obtain ⟨n13, f14, hw15, h⟩ := h
    obtain ⟨hc16, h⟩ := h
    have h := h _ rfl
    refine g_last (pc' := 40) d_302_39 rfl hw15 hc16 ?_
    refine g_iconst (pc' := 41) d_302_40 rfl ci_1 ?_
    refine g_istoren (pc' := 42) (l' := [some (.ref a0), some (.int i1), some (.int i2), some (.int (1 : Int32))]) d_302_41 rfl ml_302 rfl rfl ?_
    exact h
theorem S_302_42 {a0 : Nat} {i1 : Int32} {i2 : Int32} {i3 : Int32} {w : xW} {r : Option Value × xW} (h : (i2 < i3 → xGo 302 78 [some (.ref a0), some (.int i1), some (.int i2), some (.int (0 : Int32))] [] w r) ∧ (¬ (i2 < i3) → ∃ fs1, w[a0]? = some (.inr (12, fs1)) ∧ ∃ b3, fs1[32]? = some (.ref b3) ∧ ∃ n5 f6, w[b3]? = some (.inl (.inr (n5, f6))) ∧ (¬ ((i3 - (1 : Int32)) < 0 ∨ n5 ≤ (i3 - (1 : Int32)).toNatClampNeg)) ∧ ∃ b9, fs1[33]? = some (.ref b9) ∧ ∃ n11 f12, w[b9]? = some (.inl (.inr (n11, f12))) ∧ (¬ ((i2 - i3) < 0 ∨ n11 ≤ (i2 - i3).toNatClampNeg)) ∧ ∀ v15 : Int64, v15 = ((f6 (i3 - (1 : Int32)).toNatClampNeg) + (f12 (i2 - i3).toNatClampNeg)) → (¬ (i3 < 0 ∨ n5 ≤ i3.toNatClampNeg)) ∧ ∀ w17, w17 = w.set b3 (.inl (.inr (n5, (vp_updL f6 i3.toNatClampNeg v15)))) → ∀ v18 : Int32, v18 = i3 + (1 : Int32) → xGo 302 42 [some (.ref a0), some (.int i1), some (.int i2), some (.int v18)] [] w17 r)) : xGo 302 42 [some (.ref a0), some (.int i1), some (.int i2), some (.int i3)] [] w r := by
  refine g_iloadn (pc' := 43) d_302_42 rfl rfl ?_
  refine g_iloadn (pc' := 44) d_302_43 rfl rfl ?_
  refine g_ic_gt (pc' := 47) (pt := 76) d_302_44 (by decide) rfl (fun c => ?_) (fun c => ?_)
  · replace h := h.1 c
    refine g_iconst (pc' := 77) d_302_76 rfl ci_0 ?_
    refine g_istoren (pc' := 78) (l' := [some (.ref a0), some (.int i1), some (.int i2), some (.int (0 : Int32))]) d_302_77 rfl ml_302 rfl rfl ?_
    exact h
  · replace h := h.2 c
    refine g_aloadn (pc' := 48) d_302_47 rfl rfl ?_
    obtain ⟨fs1, hw2, h⟩ := h
    obtain ⟨b3, hv4, h⟩ := h
    refine g_getf (pc' := 51) d_302_48 rfl st_302_90 hw2 hv4 ?_
    refine g_iloadn (pc' := 52) d_302_51 rfl rfl ?_
    refine g_aloadn (pc' := 53) d_302_52 rfl rfl ?_
    refine g_getf (pc' := 56) d_302_53 rfl st_302_90 hw2 hv4 ?_
    refine g_iloadn (pc' := 57) d_302_56 rfl rfl ?_
    refine g_iconst (pc' := 58) d_302_57 rfl ci_1 ?_
    refine g_isub (pc' := 59) d_302_58 rfl ?_
    obtain ⟨n5, f6, hw7, h⟩ := h
    obtain ⟨hc8, h⟩ := h
    refine g_lald (pc' := 60) d_302_59 rfl hw7 hc8 ?_
    refine g_aloadn (pc' := 61) d_302_60 rfl rfl ?_
    obtain ⟨b9, hv10, h⟩ := h
    refine g_getf (pc' := 64) d_302_61 rfl st_302_93 hw2 hv10 ?_
    refine g_iloadn (pc' := 65) d_302_64 rfl rfl ?_
    refine g_iloadn (pc' := 66) d_302_65 rfl rfl ?_
    refine g_isub (pc' := 67) d_302_66 rfl ?_
    obtain ⟨n11, f12, hw13, h⟩ := h
    obtain ⟨hc14, h⟩ := h
    refine g_lald (pc' := 68) d_302_67 rfl hw13 hc14 ?_
    refine g_ladd (pc' := 69) d_302_68 rfl ?_
    have h := h _ rfl
    obtain ⟨hc16, h⟩ := h
    have h := h _ rfl
    refine g_last (pc' := 70) d_302_69 rfl hw7 hc16 ?_
    have h := h _ rfl
    refine g_iinc (pc' := 73) (l' := [some (.ref a0), some (.int i1), some (.int i2), some (.int (i3 + (1 : Int32)))]) d_302_70 rfl rfl ci_1 ml_302 rfl rfl ?_
    refine g_goto (pt := 42) d_302_73 (by decide) ?_
    exact h
theorem S_302_78 {a0 : Nat} {i1 : Int32} {i2 : Int32} {i3 : Int32} {w : xW} {r : Option Value × xW} (h : (i2 < i3 → ∀ v1 : Int32, v1 = i2 + (1 : Int32) → xGo 302 28 [some (.ref a0), some (.int i1), some (.int v1), none] [] w r) ∧ (¬ (i2 < i3) → ∃ fs2, w[a0]? = some (.inr (12, fs2)) ∧ ∃ b4, fs2[33]? = some (.ref b4) ∧ ∃ b6, fs2[32]? = some (.ref b6) ∧ ∃ n8 f9, w[b6]? = some (.inl (.inr (n8, f9))) ∧ (¬ (i3 < 0 ∨ n8 ≤ i3.toNatClampNeg)) ∧ ∃ n12 f13, w[b4]? = some (.inl (.inr (n12, f13))) ∧ ∀ v15 : Int64, v15 = (f9 i3.toNatClampNeg) → (¬ (i3 < 0 ∨ n12 ≤ i3.toNatClampNeg)) ∧ ∀ w17, w17 = w.set b4 (.inl (.inr (n12, (vp_updL f13 i3.toNatClampNeg v15)))) → ∀ v18 : Int32, v18 = i3 + (1 : Int32) → xGo 302 78 [some (.ref a0), some (.int i1), some (.int i2), some (.int v18)] [] w17 r)) : xGo 302 78 [some (.ref a0), some (.int i1), some (.int i2), some (.int i3)] [] w r := by
  refine g_iloadn (pc' := 79) d_302_78 rfl rfl ?_
  refine g_iloadn (pc' := 80) d_302_79 rfl rfl ?_
  refine g_ic_gt (pc' := 83) (pt := 101) d_302_80 (by decide) rfl (fun c => ?_) (fun c => ?_)
  · replace h := h.1 c
    have h := h _ rfl
    refine g_iinc (pc' := 104) (l' := [some (.ref a0), some (.int i1), some (.int (i2 + (1 : Int32))), some (.int i3)]) d_302_101 rfl rfl ci_1 ml_302 rfl rfl ?_
    refine g_goto (pt := 28) d_302_104 (by decide) ?_
    exact xGo.more (xle_s (xle_s (xle_s (xle_n xle_0)))) h
  · replace h := h.2 c
    refine g_aloadn (pc' := 84) d_302_83 rfl rfl ?_
    obtain ⟨fs2, hw3, h⟩ := h
    obtain ⟨b4, hv5, h⟩ := h
    refine g_getf (pc' := 87) d_302_84 rfl st_302_93 hw3 hv5 ?_
    refine g_iloadn (pc' := 88) d_302_87 rfl rfl ?_
    refine g_aloadn (pc' := 89) d_302_88 rfl rfl ?_
    obtain ⟨b6, hv7, h⟩ := h
    refine g_getf (pc' := 92) d_302_89 rfl st_302_90 hw3 hv7 ?_
    refine g_iloadn (pc' := 93) d_302_92 rfl rfl ?_
    obtain ⟨n8, f9, hw10, h⟩ := h
    obtain ⟨hc11, h⟩ := h
    refine g_lald (pc' := 94) d_302_93 rfl hw10 hc11 ?_
    obtain ⟨n12, f13, hw14, h⟩ := h
    have h := h _ rfl
    obtain ⟨hc16, h⟩ := h
    have h := h _ rfl
    refine g_last (pc' := 95) d_302_94 rfl hw14 hc16 ?_
    have h := h _ rfl
    refine g_iinc (pc' := 98) (l' := [some (.ref a0), some (.int i1), some (.int i2), some (.int (i3 + (1 : Int32)))]) d_302_95 rfl rfl ci_1 ml_302 rfl rfl ?_
    refine g_goto (pt := 78) d_302_98 (by decide) ?_
    exact h
