/-! segments of methods, laid by wip/whole/wp.py -/
-- 239 BernoulliWaysModel.twiceOf([JII)J
theorem S_239_0 {a0 : Nat} {i1 : Int32} {i2 : Int32} {w : xW} {r : Option Value × xW} (h : ∀ v1 : Int64, v1 = ((i2.toInt64) * (i2.toInt64)) → ∃ n2 f3, w[a0]? = some (.inl (.inr (n2, f3))) ∧ (¬ ((((3 : Int32) * i1) + (2 : Int32)) < 0 ∨ n2 ≤ (((3 : Int32) * i1) + (2 : Int32)).toNatClampNeg)) ∧ (¬ v1 = 0) ∧ ∃ r9 w7, xCall 240 [.long (lrem (f3 (((3 : Int32) * i1) + (2 : Int32)).toNatClampNeg) v1), .int ((i2 * (i2 - (1 : Int32))) - (1 : Int32)), .long v1] w (some (.long r9), w7) ∧ ∃ n10 f11, w7[a0]? = some (.inl (.inr (n10, f11))) ∧ (¬ (((3 : Int32) * i1) < 0 ∨ n10 ≤ ((3 : Int32) * i1).toNatClampNeg)) ∧ (¬ v1 = 0) ∧ (¬ v1 = 0) ∧ (¬ ((((3 : Int32) * i1) + (1 : Int32)) < 0 ∨ n10 ≤ (((3 : Int32) * i1) + (1 : Int32)).toNatClampNeg)) ∧ (¬ v1 = 0) ∧ (¬ v1 = 0) ∧ ∀ v19 : Int64, v19 = ((lrem ((lrem (f11 ((3 : Int32) * i1).toNatClampNeg) v1) + v1) v1) + (lrem ((lrem (f11 (((3 : Int32) * i1) + (1 : Int32)).toNatClampNeg) v1) * r9) v1)) → (¬ v1 = 0) ∧ ∃ r23 w21, xCall 240 [.long (i1.toInt64), .int ((i2 * (i2 - (1 : Int32))) - (1 : Int32)), .long v1] w7 (some (.long r23), w21) ∧ (¬ v1 = 0) ∧ r = (some (.long (lrem ((lrem v19 v1) * r23) v1)), w21)) : xGo 239 0 [some (.ref a0), some (.int i1), some (.int i2), none, none, none, none, none, none] [] w r := by
  refine g_iloadn (pc' := 1) d_239_0 rfl rfl ?_
  refine g_i2l (pc' := 2) d_239_1 rfl ?_
  refine g_iloadn (pc' := 3) d_239_2 rfl rfl ?_
  refine g_i2l (pc' := 4) d_239_3 rfl ?_
  refine g_lmul (pc' := 5) d_239_4 rfl ?_
  have h := h _ rfl
  refine g_lstoren (pc' := 6) (l' := [some (.ref a0), some (.int i1), some (.int i2), some (.long (((i2.toInt64) * (i2.toInt64)))), none, none, none, none, none]) d_239_5 rfl ml_239 rfl rfl ?_
  refine g_aloadn (pc' := 7) d_239_6 rfl rfl ?_
  refine g_iconst (pc' := 8) d_239_7 rfl ci_3 ?_
  refine g_iloadn (pc' := 9) d_239_8 rfl rfl ?_
  refine g_imul (pc' := 10) d_239_9 rfl ?_
  refine g_iconst (pc' := 11) d_239_10 rfl ci_2 ?_
  refine g_iadd (pc' := 12) d_239_11 rfl ?_
  obtain ⟨n2, f3, hw4, h⟩ := h
  obtain ⟨hc5, h⟩ := h
  refine g_lald (pc' := 13) d_239_12 rfl hw4 hc5 ?_
  refine g_lloadn (pc' := 14) d_239_13 rfl rfl ?_
  obtain ⟨hc6, h⟩ := h
  refine g_lrem (pc' := 15) d_239_14 rfl hc6 ?_
  refine g_iloadn (pc' := 16) d_239_15 rfl rfl ?_
  refine g_iloadn (pc' := 17) d_239_16 rfl rfl ?_
  refine g_iconst (pc' := 18) d_239_17 rfl ci_1 ?_
  refine g_isub (pc' := 19) d_239_18 rfl ?_
  refine g_imul (pc' := 20) d_239_19 rfl ?_
  refine g_iconst (pc' := 21) d_239_20 rfl ci_1 ?_
  refine g_isub (pc' := 22) d_239_21 rfl ?_
  refine g_lloadn (pc' := 23) d_239_22 rfl rfl ?_
  obtain ⟨r9, w7, hk8, h⟩ := h
  refine g_callS (pc' := 26) d_239_23 rfl st_239_208 (Or.inl rfl) na_240 ml_240 rfl rfl rfl rm_239_240 rfl rfl hk8 ?_
  refine g_lstore (pc' := 28) (l' := [some (.ref a0), some (.int i1), some (.int i2), some (.long (((i2.toInt64) * (i2.toInt64)))), none, some (.long r9), none, none, none]) d_239_26 rfl ml_239 rfl rfl ?_
  refine g_aloadn (pc' := 29) d_239_28 rfl rfl ?_
  refine g_iconst (pc' := 30) d_239_29 rfl ci_3 ?_
  refine g_iloadn (pc' := 31) d_239_30 rfl rfl ?_
  refine g_imul (pc' := 32) d_239_31 rfl ?_
  obtain ⟨n10, f11, hw12, h⟩ := h
  obtain ⟨hc13, h⟩ := h
  refine g_lald (pc' := 33) d_239_32 rfl hw12 hc13 ?_
  refine g_lloadn (pc' := 34) d_239_33 rfl rfl ?_
  obtain ⟨hc14, h⟩ := h
  refine g_lrem (pc' := 35) d_239_34 rfl hc14 ?_
  refine g_lloadn (pc' := 36) d_239_35 rfl rfl ?_
  refine g_ladd (pc' := 37) d_239_36 rfl ?_
  refine g_lloadn (pc' := 38) d_239_37 rfl rfl ?_
  obtain ⟨hc15, h⟩ := h
  refine g_lrem (pc' := 39) d_239_38 rfl hc15 ?_
  refine g_aloadn (pc' := 40) d_239_39 rfl rfl ?_
  refine g_iconst (pc' := 41) d_239_40 rfl ci_3 ?_
  refine g_iloadn (pc' := 42) d_239_41 rfl rfl ?_
  refine g_imul (pc' := 43) d_239_42 rfl ?_
  refine g_iconst (pc' := 44) d_239_43 rfl ci_1 ?_
  refine g_iadd (pc' := 45) d_239_44 rfl ?_
  obtain ⟨hc16, h⟩ := h
  refine g_lald (pc' := 46) d_239_45 rfl hw12 hc16 ?_
  refine g_lloadn (pc' := 47) d_239_46 rfl rfl ?_
  obtain ⟨hc17, h⟩ := h
  refine g_lrem (pc' := 48) d_239_47 rfl hc17 ?_
  refine g_lload (pc' := 50) d_239_48 rfl rfl ?_
  refine g_lmul (pc' := 51) d_239_50 rfl ?_
  refine g_lloadn (pc' := 52) d_239_51 rfl rfl ?_
  obtain ⟨hc18, h⟩ := h
  refine g_lrem (pc' := 53) d_239_52 rfl hc18 ?_
  refine g_ladd (pc' := 54) d_239_53 rfl ?_
  have h := h _ rfl
  refine g_lstore (pc' := 56) (l' := [some (.ref a0), some (.int i1), some (.int i2), some (.long (((i2.toInt64) * (i2.toInt64)))), none, some (.long r9), none, some (.long (((lrem ((lrem (f11 ((3 : Int32) * i1).toNatClampNeg) (((i2.toInt64) * (i2.toInt64)))) + (((i2.toInt64) * (i2.toInt64)))) (((i2.toInt64) * (i2.toInt64)))) + (lrem ((lrem (f11 (((3 : Int32) * i1) + (1 : Int32)).toNatClampNeg) (((i2.toInt64) * (i2.toInt64)))) * r9) (((i2.toInt64) * (i2.toInt64))))))), none]) d_239_54 rfl ml_239 rfl rfl ?_
  refine g_lload (pc' := 58) d_239_56 rfl rfl ?_
  refine g_lloadn (pc' := 59) d_239_58 rfl rfl ?_
  obtain ⟨hc20, h⟩ := h
  refine g_lrem (pc' := 60) d_239_59 rfl hc20 ?_
  refine g_iloadn (pc' := 61) d_239_60 rfl rfl ?_
  refine g_i2l (pc' := 62) d_239_61 rfl ?_
  refine g_iloadn (pc' := 63) d_239_62 rfl rfl ?_
  refine g_iloadn (pc' := 64) d_239_63 rfl rfl ?_
  refine g_iconst (pc' := 65) d_239_64 rfl ci_1 ?_
  refine g_isub (pc' := 66) d_239_65 rfl ?_
  refine g_imul (pc' := 67) d_239_66 rfl ?_
  refine g_iconst (pc' := 68) d_239_67 rfl ci_1 ?_
  refine g_isub (pc' := 69) d_239_68 rfl ?_
  refine g_lloadn (pc' := 70) d_239_69 rfl rfl ?_
  obtain ⟨r23, w21, hk22, h⟩ := h
  refine g_callS (pc' := 73) d_239_70 rfl st_239_208 (Or.inl rfl) na_240 ml_240 rfl rfl rfl rm_239_240 rfl rfl hk22 ?_
  refine g_lmul (pc' := 74) d_239_73 rfl ?_
  refine g_lloadn (pc' := 75) d_239_74 rfl rfl ?_
  obtain ⟨hc24, h⟩ := h
  refine g_lrem (pc' := 76) d_239_75 rfl hc24 ?_
  exact g_lret d_239_76 rt_239 h
-- 240 BernoulliWaysModel.bigPower(JIJ)J
theorem S_240_0 {l0 : Int64} {i2 : Int32} {l3 : Int64} {w : xW} {r : Option Value × xW} (h : (¬ l3 = 0) ∧ ∀ v2 : Int64, v2 = (lrem l0 l3) → xGo 240 11 [some (.long l0), none, some (.int i2), some (.long l3), none, some (.long (1 : Int64)), none, some (.long v2), none, some (.int i2)] [] w r) : xGo 240 0 [some (.long l0), none, some (.int i2), some (.long l3), none, none, none, none, none, none] [] w r := by
  refine g_lconst (pc' := 1) d_240_0 rfl cl_1 ?_
  refine g_lstore (pc' := 3) (l' := [some (.long l0), none, some (.int i2), some (.long l3), none, some (.long (1 : Int64)), none, none, none, none]) d_240_1 rfl ml_240 rfl rfl ?_
  refine g_lloadn (pc' := 4) d_240_3 rfl rfl ?_
  refine g_lloadn (pc' := 5) d_240_4 rfl rfl ?_
  obtain ⟨hc1, h⟩ := h
  refine g_lrem (pc' := 6) d_240_5 rfl hc1 ?_
  have h := h _ rfl
  refine g_lstore (pc' := 8) (l' := [some (.long l0), none, some (.int i2), some (.long l3), none, some (.long (1 : Int64)), none, some (.long ((lrem l0 l3))), none, none]) d_240_6 rfl ml_240 rfl rfl ?_
  refine g_iloadn (pc' := 9) d_240_8 rfl rfl ?_
  refine g_istore (pc' := 11) (l' := [some (.long l0), none, some (.int i2), some (.long l3), none, some (.long (1 : Int64)), none, some (.long ((lrem l0 l3))), none, some (.int i2)]) d_240_9 rfl ml_240 rfl rfl ?_
  exact h
theorem S_240_11 {l0 : Int64} {i2 : Int32} {l3 : Int64} {l5 : Int64} {l7 : Int64} {i9 : Int32} {w : xW} {r : Option Value × xW} (h : (i9 ≤ 0 → r = (some (.long l5), w)) ∧ (¬ (i9 ≤ 0) → (¬ (irem i9 (2 : Int32)) = (1 : Int32) → (¬ l3 = 0) ∧ ∀ v2 : Int64, v2 = (lrem (l7 * l7) l3) → ∀ v3 : Int32, v3 = (i9 / (2 : Int32)) → xGo 240 11 [some (.long l0), none, some (.int i2), some (.long l3), none, some (.long l5), none, some (.long v2), none, some (.int v3)] [] w r) ∧ (¬ (¬ (irem i9 (2 : Int32)) = (1 : Int32)) → (¬ l3 = 0) ∧ ∀ v5 : Int64, v5 = (lrem (l5 * l7) l3) → (¬ l3 = 0) ∧ ∀ v7 : Int64, v7 = (lrem (l7 * l7) l3) → ∀ v8 : Int32, v8 = (i9 / (2 : Int32)) → xGo 240 11 [some (.long l0), none, some (.int i2), some (.long l3), none, some (.long v5), none, some (.long v7), none, some (.int v8)] [] w r))) : xGo 240 11 [some (.long l0), none, some (.int i2), some (.long l3), none, some (.long l5), none, some (.long l7), none, some (.int i9)] [] w r := by
  refine g_iload (pc' := 13) d_240_11 rfl rfl ?_
  refine g_if_le (pc' := 16) (pt := 51) d_240_13 (by decide) rfl (fun c => ?_) (fun c => ?_)
  · replace h := h.1 c
    refine g_lload (pc' := 53) d_240_51 rfl rfl ?_
    exact g_lret d_240_53 rt_240 h
  · replace h := h.2 c
    refine g_iload (pc' := 18) d_240_16 rfl rfl ?_
    refine g_iconst (pc' := 19) d_240_18 rfl ci_2 ?_
    refine g_irem (pc' := 20) d_240_19 rfl (by decide) ?_
    refine g_iconst (pc' := 21) d_240_20 rfl ci_1 ?_
    refine g_ic_ne (pc' := 24) (pt := 33) d_240_21 (by decide) rfl (fun c => ?_) (fun c => ?_)
    · replace h := h.1 c
      refine g_lload (pc' := 35) d_240_33 rfl rfl ?_
      refine g_lload (pc' := 37) d_240_35 rfl rfl ?_
      refine g_lmul (pc' := 38) d_240_37 rfl ?_
      refine g_lloadn (pc' := 39) d_240_38 rfl rfl ?_
      obtain ⟨hc1, h⟩ := h
      refine g_lrem (pc' := 40) d_240_39 rfl hc1 ?_
      have h := h _ rfl
      refine g_lstore (pc' := 42) (l' := [some (.long l0), none, some (.int i2), some (.long l3), none, some (.long l5), none, some (.long ((lrem (l7 * l7) l3))), none, some (.int i9)]) d_240_40 rfl ml_240 rfl rfl ?_
      refine g_iload (pc' := 44) d_240_42 rfl rfl ?_
      refine g_iconst (pc' := 45) d_240_44 rfl ci_2 ?_
      refine g_idiv (pc' := 46) d_240_45 rfl (by decide) ?_
      have h := h _ rfl
      refine g_istore (pc' := 48) (l' := [some (.long l0), none, some (.int i2), some (.long l3), none, some (.long l5), none, some (.long ((lrem (l7 * l7) l3))), none, some (.int ((i9 / (2 : Int32))))]) d_240_46 rfl ml_240 rfl rfl ?_
      refine g_goto (pt := 11) d_240_48 (by decide) ?_
      exact h
    · replace h := h.2 c
      refine g_lload (pc' := 26) d_240_24 rfl rfl ?_
      refine g_lload (pc' := 28) d_240_26 rfl rfl ?_
      refine g_lmul (pc' := 29) d_240_28 rfl ?_
      refine g_lloadn (pc' := 30) d_240_29 rfl rfl ?_
      obtain ⟨hc4, h⟩ := h
      refine g_lrem (pc' := 31) d_240_30 rfl hc4 ?_
      have h := h _ rfl
      refine g_lstore (pc' := 33) (l' := [some (.long l0), none, some (.int i2), some (.long l3), none, some (.long ((lrem (l5 * l7) l3))), none, some (.long l7), none, some (.int i9)]) d_240_31 rfl ml_240 rfl rfl ?_
      refine g_lload (pc' := 35) d_240_33 rfl rfl ?_
      refine g_lload (pc' := 37) d_240_35 rfl rfl ?_
      refine g_lmul (pc' := 38) d_240_37 rfl ?_
      refine g_lloadn (pc' := 39) d_240_38 rfl rfl ?_
      obtain ⟨hc6, h⟩ := h
      refine g_lrem (pc' := 40) d_240_39 rfl hc6 ?_
      have h := h _ rfl
      refine g_lstore (pc' := 42) (l' := [some (.long l0), none, some (.int i2), some (.long l3), none, some (.long ((lrem (l5 * l7) l3))), none, some (.long ((lrem (l7 * l7) l3))), none, some (.int i9)]) d_240_40 rfl ml_240 rfl rfl ?_
      refine g_iload (pc' := 44) d_240_42 rfl rfl ?_
      refine g_iconst (pc' := 45) d_240_44 rfl ci_2 ?_
      refine g_idiv (pc' := 46) d_240_45 rfl (by decide) ?_
      have h := h _ rfl
      refine g_istore (pc' := 48) (l' := [some (.long l0), none, some (.int i2), some (.long l3), none, some (.long ((lrem (l5 * l7) l3))), none, some (.long ((lrem (l7 * l7) l3))), none, some (.int ((i9 / (2 : Int32))))]) d_240_46 rfl ml_240 rfl rfl ?_
      refine g_goto (pt := 11) d_240_48 (by decide) ?_
      exact h
-- 241 BernoulliWaysModel.tests(I)I
theorem S_241_0 {a0 : Nat} {i1 : Int32} {w : xW} {r : Option Value × xW} (h : ∃ fs1, w[a0]? = some (.inr (12, fs1)) ∧ (0 < fs1.length) ∧ ∀ w4, w4 = w.set a0 (.inr (12, fs1.set 0 (.int (0 : Int32)))) → ∃ r7 w5, xCall 198 [.ref a0, .int i1] w4 (some (.int r7), w5) ∧ (¬ r7 = 0 → ∃ fs8, w5[a0]? = some (.inr (12, fs8)) ∧ ∃ x10, fs8[4]? = some (.int x10) ∧ (i1 ≤ x10 → ∃ r14 w12, xCall 206 [.ref a0, .int i1] w5 (some (.int r14), w12) ∧ r = (some (.int r14), w12)) ∧ (¬ (i1 ≤ x10) → r = (some (.int (-2 : Int32)), w5))) ∧ (¬ (¬ r7 = 0) → r = (some (.int (-1 : Int32)), w5))) : xGo 241 0 [some (.ref a0), some (.int i1)] [] w r := by
  refine g_aloadn (pc' := 1) d_241_0 rfl rfl ?_
  refine g_iconst (pc' := 2) d_241_1 rfl ci_0 ?_
  obtain ⟨fs1, hw2, h⟩ := h
  obtain ⟨hc3, h⟩ := h
  have h := h _ rfl
  refine g_putf (pc' := 5) d_241_2 rfl st_241_118 ft_12_0 ff_12_0 rfl (Or.inl rfl) hw2 hc3 ?_
  refine g_aloadn (pc' := 6) d_241_5 rfl rfl ?_
  refine g_iloadn (pc' := 7) d_241_6 rfl rfl ?_
  obtain ⟨r7, w5, hk6, h⟩ := h
  refine g_callV (pc' := 10) d_241_7 rfl st_241_145 na_198 ml_198 rfl rfl rfl rm_241_198 rfl rfl ow_198 (x_gss hw2) hk6 ?_
  refine g_if_ne (pc' := 13) (pt := 17) d_241_10 (by decide) rfl (fun c => ?_) (fun c => ?_)
  · replace h := h.1 c
    refine g_iloadn (pc' := 18) d_241_17 rfl rfl ?_
    refine g_aloadn (pc' := 19) d_241_18 rfl rfl ?_
    obtain ⟨fs8, hw9, h⟩ := h
    obtain ⟨x10, hv11, h⟩ := h
    refine g_getf (pc' := 22) d_241_19 rfl st_241_20 hw9 hv11 ?_
    refine g_ic_le (pc' := 25) (pt := 30) d_241_22 (by decide) rfl (fun c => ?_) (fun c => ?_)
    · replace h := h.1 c
      refine g_aloadn (pc' := 31) d_241_30 rfl rfl ?_
      refine g_iloadn (pc' := 32) d_241_31 rfl rfl ?_
      obtain ⟨r14, w12, hk13, h⟩ := h
      refine g_callV (pc' := 35) d_241_32 rfl st_241_158 na_206 ml_206 rfl rfl rfl rm_241_206 rfl rfl ow_206 hw9 hk13 ?_
      exact g_iret d_241_35 rt_241 h
    · replace h := h.2 c
      refine g_bipush (pc' := 27) d_241_25 rfl cb_m2 ?_
      refine g_goto (pt := 35) d_241_27 (by decide) ?_
      exact g_iret d_241_35 rt_241 h
  · replace h := h.2 c
    refine g_iconst (pc' := 14) d_241_13 rfl ci_m1 ?_
    refine g_goto (pt := 35) d_241_14 (by decide) ?_
    exact g_iret d_241_35 rt_241 h
-- 242 BernoulliWaysModel.suspects(I)J
theorem S_242_0 {a0 : Nat} {i1 : Int32} {w : xW} {r : Option Value × xW} (h : ∃ fs1, w[a0]? = some (.inr (12, fs1)) ∧ (0 < fs1.length) ∧ ∀ w4, w4 = w.set a0 (.inr (12, fs1.set 0 (.int (0 : Int32)))) → ∃ r7 w5, xCall 199 [.int i1, .int (0 : Int32), .int (63 : Int32)] w4 (some (.int r7), w5) ∧ (¬ r7 = 0 → xGo 242 24 [some (.ref a0), some (.int i1), some (.long (0 : Int64)), none, some (.int (0 : Int32))] [] w5 r) ∧ (¬ (¬ r7 = 0) → r = (some (.long (-9223372036854775808 : Int64)), w5))) : xGo 242 0 [some (.ref a0), some (.int i1), none, none, none] [] w r := by
  refine g_aloadn (pc' := 1) d_242_0 rfl rfl ?_
  refine g_iconst (pc' := 2) d_242_1 rfl ci_0 ?_
  obtain ⟨fs1, hw2, h⟩ := h
  obtain ⟨hc3, h⟩ := h
  have h := h _ rfl
  refine g_putf (pc' := 5) d_242_2 rfl st_242_118 ft_12_0 ff_12_0 rfl (Or.inl rfl) hw2 hc3 ?_
  refine g_iloadn (pc' := 6) d_242_5 rfl rfl ?_
  refine g_iconst (pc' := 7) d_242_6 rfl ci_0 ?_
  refine g_bipush (pc' := 9) d_242_7 rfl cb_63 ?_
  obtain ⟨r7, w5, hk6, h⟩ := h
  refine g_callS (pc' := 12) d_242_9 rfl st_242_137 (Or.inl rfl) na_199 ml_199 rfl rfl rfl rm_242_199 rfl rfl hk6 ?_
  refine g_if_ne (pc' := 15) (pt := 19) d_242_12 (by decide) rfl (fun c => ?_) (fun c => ?_)
  · replace h := h.1 c
    refine g_lconst (pc' := 20) d_242_19 rfl cl_0 ?_
    refine g_lstoren (pc' := 21) (l' := [some (.ref a0), some (.int i1), some (.long (0 : Int64)), none, none]) d_242_20 rfl ml_242 rfl rfl ?_
    refine g_iconst (pc' := 22) d_242_21 rfl ci_0 ?_
    refine g_istore (pc' := 24) (l' := [some (.ref a0), some (.int i1), some (.long (0 : Int64)), none, some (.int (0 : Int32))]) d_242_22 rfl ml_242 rfl rfl ?_
    exact h
  · replace h := h.2 c
    refine g_ldc2 (pc' := 18) d_242_15 rfl st_242_166 cL_m9223372036854775808 ?_
    exact g_lret d_242_18 rt_242 h
theorem S_242_24 {a0 : Nat} {i1 : Int32} {l2 : Int64} {i4 : Int32} {w : xW} {r : Option Value × xW} (h : ∃ fs1, w[a0]? = some (.inr (12, fs1)) ∧ ∃ x3, fs1[4]? = some (.int x3) ∧ (x3 < i4 → r = (some (.long l2), w)) ∧ (¬ (x3 < i4) → ∃ r7 w5, xCall 206 [.ref a0, .int i4] w (some (.int r7), w5) ∧ ((r7 &&& i1) = 0 → ∀ v8 : Int32, v8 = i4 + (1 : Int32) → xGo 242 24 [some (.ref a0), some (.int i1), some (.long l2), none, some (.int v8)] [] w5 r) ∧ (¬ ((r7 &&& i1) = 0) → ∀ v9 : Int64, v9 = (l2 ||| ((1 : Int64) <<< (i4.toInt64 &&& 63))) → ∀ v10 : Int32, v10 = i4 + (1 : Int32) → xGo 242 24 [some (.ref a0), some (.int i1), some (.long v9), none, some (.int v10)] [] w5 r))) : xGo 242 24 [some (.ref a0), some (.int i1), some (.long l2), none, some (.int i4)] [] w r := by
  refine g_iload (pc' := 26) d_242_24 rfl rfl ?_
  refine g_aloadn (pc' := 27) d_242_26 rfl rfl ?_
  obtain ⟨fs1, hw2, h⟩ := h
  obtain ⟨x3, hv4, h⟩ := h
  refine g_getf (pc' := 30) d_242_27 rfl st_242_20 hw2 hv4 ?_
  refine g_ic_gt (pc' := 33) (pt := 57) d_242_30 (by decide) rfl (fun c => ?_) (fun c => ?_)
  · replace h := h.1 c
    refine g_lloadn (pc' := 58) d_242_57 rfl rfl ?_
    exact g_lret d_242_58 rt_242 h
  · replace h := h.2 c
    refine g_aloadn (pc' := 34) d_242_33 rfl rfl ?_
    refine g_iload (pc' := 36) d_242_34 rfl rfl ?_
    obtain ⟨r7, w5, hk6, h⟩ := h
    refine g_callV (pc' := 39) d_242_36 rfl st_242_158 na_206 ml_206 rfl rfl rfl rm_242_206 rfl rfl ow_206 hw2 hk6 ?_
    refine g_iloadn (pc' := 40) d_242_39 rfl rfl ?_
    refine g_iand (pc' := 41) d_242_40 rfl ?_
    refine g_if_eq (pc' := 44) (pt := 51) d_242_41 (by decide) rfl (fun c => ?_) (fun c => ?_)
    · replace h := h.1 c
      have h := h _ rfl
      refine g_iinc (pc' := 54) (l' := [some (.ref a0), some (.int i1), some (.long l2), none, some (.int (i4 + (1 : Int32)))]) d_242_51 rfl rfl ci_1 ml_242 rfl rfl ?_
      refine g_goto (pt := 24) d_242_54 (by decide) ?_
      exact h
    · replace h := h.2 c
      refine g_lloadn (pc' := 45) d_242_44 rfl rfl ?_
      refine g_lconst (pc' := 46) d_242_45 rfl cl_1 ?_
      refine g_iload (pc' := 48) d_242_46 rfl rfl ?_
      refine g_lshl (pc' := 49) d_242_48 rfl ?_
      refine g_lor (pc' := 50) d_242_49 rfl ?_
      have h := h _ rfl
      refine g_lstoren (pc' := 51) (l' := [some (.ref a0), some (.int i1), some (.long ((l2 ||| ((1 : Int64) <<< (i4.toInt64 &&& 63))))), none, some (.int i4)]) d_242_50 rfl ml_242 rfl rfl ?_
      have h := h _ rfl
      refine g_iinc (pc' := 54) (l' := [some (.ref a0), some (.int i1), some (.long ((l2 ||| ((1 : Int64) <<< (i4.toInt64 &&& 63))))), none, some (.int (i4 + (1 : Int32)))]) d_242_51 rfl rfl ci_1 ml_242 rfl rfl ?_
      refine g_goto (pt := 24) d_242_54 (by decide) ?_
      exact h
-- 243 BernoulliWaysModel.heal(I)I
theorem S_243_0 {a0 : Nat} {i1 : Int32} {w : xW} {r : Option Value × xW} (h : ∃ fs1, w[a0]? = some (.inr (12, fs1)) ∧ (0 < fs1.length) ∧ ∀ w4, w4 = w.set a0 (.inr (12, fs1.set 0 (.int (0 : Int32)))) → ∃ r7 w5, xCall 199 [.int i1, .int (0 : Int32), .int (63 : Int32)] w4 (some (.int r7), w5) ∧ (¬ r7 = 0 → xGo 243 22 [some (.ref a0), some (.int i1), some (.long (0 : Int64)), none, some (.int (0 : Int32)), none] [] w5 r) ∧ (¬ (¬ r7 = 0) → r = (some (.int (-1 : Int32)), w5))) : xGo 243 0 [some (.ref a0), some (.int i1), none, none, none, none] [] w r := by
  refine g_aloadn (pc' := 1) d_243_0 rfl rfl ?_
  refine g_iconst (pc' := 2) d_243_1 rfl ci_0 ?_
  obtain ⟨fs1, hw2, h⟩ := h
  obtain ⟨hc3, h⟩ := h
  have h := h _ rfl
  refine g_putf (pc' := 5) d_243_2 rfl st_243_118 ft_12_0 ff_12_0 rfl (Or.inl rfl) hw2 hc3 ?_
  refine g_iloadn (pc' := 6) d_243_5 rfl rfl ?_
  refine g_iconst (pc' := 7) d_243_6 rfl ci_0 ?_
  refine g_bipush (pc' := 9) d_243_7 rfl cb_63 ?_
  obtain ⟨r7, w5, hk6, h⟩ := h
  refine g_callS (pc' := 12) d_243_9 rfl st_243_137 (Or.inl rfl) na_199 ml_199 rfl rfl rfl rm_243_199 rfl rfl hk6 ?_
  refine g_if_ne (pc' := 15) (pt := 17) d_243_12 (by decide) rfl (fun c => ?_) (fun c => ?_)
  · replace h := h.1 c
    refine g_lconst (pc' := 18) d_243_17 rfl cl_0 ?_
    refine g_lstoren (pc' := 19) (l' := [some (.ref a0), some (.int i1), some (.long (0 : Int64)), none, none, none]) d_243_18 rfl ml_243 rfl rfl ?_
    refine g_iconst (pc' := 20) d_243_19 rfl ci_0 ?_
    refine g_istore (pc' := 22) (l' := [some (.ref a0), some (.int i1), some (.long (0 : Int64)), none, some (.int (0 : Int32)), none]) d_243_20 rfl ml_243 rfl rfl ?_
    exact h
  · replace h := h.2 c
    refine g_iconst (pc' := 16) d_243_15 rfl ci_m1 ?_
    exact g_iret d_243_16 rt_243 h
theorem S_243_22 {a0 : Nat} {i1 : Int32} {l2 : Int64} {i4 : Int32} {w : xW} {r : Option Value × xW} (h : ∃ fs1, w[a0]? = some (.inr (12, fs1)) ∧ ∃ x3, fs1[4]? = some (.int x3) ∧ (x3 < i4 → xGo 243 61 [some (.ref a0), some (.int i1), some (.long l2), none, some (.int (0 : Int32)), some (.int (0 : Int32))] [] w r) ∧ (¬ (x3 < i4) → ∃ r7 w5, xCall 206 [.ref a0, .int i4] w (some (.int r7), w5) ∧ ((r7 &&& i1) = 0 → ∀ v8 : Int32, v8 = i4 + (1 : Int32) → xGo 243 22 [some (.ref a0), some (.int i1), some (.long l2), none, some (.int v8), none] [] w5 r) ∧ (¬ ((r7 &&& i1) = 0) → ∀ v9 : Int64, v9 = (l2 ||| ((1 : Int64) <<< (i4.toInt64 &&& 63))) → ∀ v10 : Int32, v10 = i4 + (1 : Int32) → xGo 243 22 [some (.ref a0), some (.int i1), some (.long v9), none, some (.int v10), none] [] w5 r))) : xGo 243 22 [some (.ref a0), some (.int i1), some (.long l2), none, some (.int i4), none] [] w r := by
  refine g_iload (pc' := 24) d_243_22 rfl rfl ?_
  refine g_aloadn (pc' := 25) d_243_24 rfl rfl ?_
  obtain ⟨fs1, hw2, h⟩ := h
  obtain ⟨x3, hv4, h⟩ := h
  refine g_getf (pc' := 28) d_243_25 rfl st_243_20 hw2 hv4 ?_
  refine g_ic_gt (pc' := 31) (pt := 55) d_243_28 (by decide) rfl (fun c => ?_) (fun c => ?_)
  · replace h := h.1 c
    refine g_iconst (pc' := 56) d_243_55 rfl ci_0 ?_
    refine g_istore (pc' := 58) (l' := [some (.ref a0), some (.int i1), some (.long l2), none, some (.int (0 : Int32)), none]) d_243_56 rfl ml_243 rfl rfl ?_
    refine g_iconst (pc' := 59) d_243_58 rfl ci_0 ?_
    refine g_istore (pc' := 61) (l' := [some (.ref a0), some (.int i1), some (.long l2), none, some (.int (0 : Int32)), some (.int (0 : Int32))]) d_243_59 rfl ml_243 rfl rfl ?_
    exact h
  · replace h := h.2 c
    refine g_aloadn (pc' := 32) d_243_31 rfl rfl ?_
    refine g_iload (pc' := 34) d_243_32 rfl rfl ?_
    obtain ⟨r7, w5, hk6, h⟩ := h
    refine g_callV (pc' := 37) d_243_34 rfl st_243_158 na_206 ml_206 rfl rfl rfl rm_243_206 rfl rfl ow_206 hw2 hk6 ?_
    refine g_iloadn (pc' := 38) d_243_37 rfl rfl ?_
    refine g_iand (pc' := 39) d_243_38 rfl ?_
    refine g_if_eq (pc' := 42) (pt := 49) d_243_39 (by decide) rfl (fun c => ?_) (fun c => ?_)
    · replace h := h.1 c
      have h := h _ rfl
      refine g_iinc (pc' := 52) (l' := [some (.ref a0), some (.int i1), some (.long l2), none, some (.int (i4 + (1 : Int32))), none]) d_243_49 rfl rfl ci_1 ml_243 rfl rfl ?_
      refine g_goto (pt := 22) d_243_52 (by decide) ?_
      exact h
    · replace h := h.2 c
      refine g_lloadn (pc' := 43) d_243_42 rfl rfl ?_
      refine g_lconst (pc' := 44) d_243_43 rfl cl_1 ?_
      refine g_iload (pc' := 46) d_243_44 rfl rfl ?_
      refine g_lshl (pc' := 47) d_243_46 rfl ?_
      refine g_lor (pc' := 48) d_243_47 rfl ?_
      have h := h _ rfl
      refine g_lstoren (pc' := 49) (l' := [some (.ref a0), some (.int i1), some (.long ((l2 ||| ((1 : Int64) <<< (i4.toInt64 &&& 63))))), none, some (.int i4), none]) d_243_48 rfl ml_243 rfl rfl ?_
      have h := h _ rfl
      refine g_iinc (pc' := 52) (l' := [some (.ref a0), some (.int i1), some (.long ((l2 ||| ((1 : Int64) <<< (i4.toInt64 &&& 63))))), none, some (.int (i4 + (1 : Int32))), none]) d_243_49 rfl rfl ci_1 ml_243 rfl rfl ?_
      refine g_goto (pt := 22) d_243_52 (by decide) ?_
      exact h
theorem S_243_61 {a0 : Nat} {i1 : Int32} {l2 : Int64} {i4 : Int32} {i5 : Int32} {w : xW} {r : Option Value × xW} (h : ∃ fs1, w[a0]? = some (.inr (12, fs1)) ∧ ∃ x3, fs1[4]? = some (.int x3) ∧ (x3 < i5 → r = (some (.int i4), w)) ∧ (¬ (x3 < i5) → (¬ ((l2 >>> (i5.toInt64 &&& 63)) &&& (1 : Int64)) = (0 : Int64) → ∃ r7 w5, xCall 201 [.ref a0, .int i5] w (some (.int r7), w5) ∧ (r7 = 0 → ∀ v8 : Int32, v8 = (i4 + (1 : Int32)) → ∃ fs9, w5[a0]? = some (.inr (12, fs9)) ∧ ∃ w11, xCall 202 [.ref a0, .int i5, .int (1 : Int32)] w5 (none, w11) ∧ ∀ v13 : Int32, v13 = i5 + (1 : Int32) → xGo 243 61 [some (.ref a0), some (.int i1), some (.long l2), none, some (.int v8), some (.int v13)] [] w11 r) ∧ (¬ (r7 = 0) → ∀ v14 : Int32, v14 = (i4 + (0 : Int32)) → ∃ fs15, w5[a0]? = some (.inr (12, fs15)) ∧ ∃ w17, xCall 202 [.ref a0, .int i5, .int (1 : Int32)] w5 (none, w17) ∧ ∀ v19 : Int32, v19 = i5 + (1 : Int32) → xGo 243 61 [some (.ref a0), some (.int i1), some (.long l2), none, some (.int v14), some (.int v19)] [] w17 r)) ∧ (¬ (¬ ((l2 >>> (i5.toInt64 &&& 63)) &&& (1 : Int64)) = (0 : Int64)) → ∀ v20 : Int32, v20 = i5 + (1 : Int32) → xGo 243 61 [some (.ref a0), some (.int i1), some (.long l2), none, some (.int i4), some (.int v20)] [] w r))) : xGo 243 61 [some (.ref a0), some (.int i1), some (.long l2), none, some (.int i4), some (.int i5)] [] w r := by
  refine g_iload (pc' := 63) d_243_61 rfl rfl ?_
  refine g_aloadn (pc' := 64) d_243_63 rfl rfl ?_
  obtain ⟨fs1, hw2, h⟩ := h
  obtain ⟨x3, hv4, h⟩ := h
  refine g_getf (pc' := 67) d_243_64 rfl st_243_20 hw2 hv4 ?_
  refine g_ic_gt (pc' := 70) (pt := 116) d_243_67 (by decide) rfl (fun c => ?_) (fun c => ?_)
  · replace h := h.1 c
    refine g_iload (pc' := 118) d_243_116 rfl rfl ?_
    exact g_iret d_243_118 rt_243 h
  · replace h := h.2 c
    refine g_lloadn (pc' := 71) d_243_70 rfl rfl ?_
    refine g_iload (pc' := 73) d_243_71 rfl rfl ?_
    refine g_lshr (pc' := 74) d_243_73 rfl ?_
    refine g_lconst (pc' := 75) d_243_74 rfl cl_1 ?_
    refine g_land (pc' := 76) d_243_75 rfl ?_
    refine g_lconst (pc' := 77) d_243_76 rfl cl_0 ?_
    refine g_lc_ne (pc' := 81) (pm := 78) (pt := 84) d_243_77 rfl d_243_78 (by decide) rfl (fun c => ?_) (fun c => ?_)
    · replace h := h.1 c
      refine g_iload (pc' := 86) d_243_84 rfl rfl ?_
      refine g_aloadn (pc' := 87) d_243_86 rfl rfl ?_
      refine g_iload (pc' := 89) d_243_87 rfl rfl ?_
      obtain ⟨r7, w5, hk6, h⟩ := h
      refine g_callV (pc' := 92) d_243_89 rfl st_243_141 na_201 ml_201 rfl rfl rfl rm_243_201 rfl rfl ow_201 hw2 hk6 ?_
      refine g_if_eq (pc' := 95) (pt := 99) d_243_92 (by decide) rfl (fun c => ?_) (fun c => ?_)
      · replace h := h.1 c
        refine g_iconst (pc' := 100) d_243_99 rfl ci_1 ?_
        refine g_iadd (pc' := 101) d_243_100 rfl ?_
        have h := h _ rfl
        refine g_istore (pc' := 103) (l' := [some (.ref a0), some (.int i1), some (.long l2), none, some (.int ((i4 + (1 : Int32)))), some (.int i5)]) d_243_101 rfl ml_243 rfl rfl ?_
        refine g_aloadn (pc' := 104) d_243_103 rfl rfl ?_
        refine g_iload (pc' := 106) d_243_104 rfl rfl ?_
        refine g_iconst (pc' := 107) d_243_106 rfl ci_1 ?_
        obtain ⟨fs9, hw10, h⟩ := h
        obtain ⟨w11, hk12, h⟩ := h
        refine g_callV (pc' := 110) d_243_107 rfl st_243_151 na_202 ml_202 rfl rfl rfl rm_243_202 rfl rfl ow_202 hw10 hk12 ?_
        have h := h _ rfl
        refine g_iinc (pc' := 113) (l' := [some (.ref a0), some (.int i1), some (.long l2), none, some (.int ((i4 + (1 : Int32)))), some (.int (i5 + (1 : Int32)))]) d_243_110 rfl rfl ci_1 ml_243 rfl rfl ?_
        refine g_goto (pt := 61) d_243_113 (by decide) ?_
        exact h
      · replace h := h.2 c
        refine g_iconst (pc' := 96) d_243_95 rfl ci_0 ?_
        refine g_goto (pt := 100) d_243_96 (by decide) ?_
        refine g_iadd (pc' := 101) d_243_100 rfl ?_
        have h := h _ rfl
        refine g_istore (pc' := 103) (l' := [some (.ref a0), some (.int i1), some (.long l2), none, some (.int ((i4 + (0 : Int32)))), some (.int i5)]) d_243_101 rfl ml_243 rfl rfl ?_
        refine g_aloadn (pc' := 104) d_243_103 rfl rfl ?_
        refine g_iload (pc' := 106) d_243_104 rfl rfl ?_
        refine g_iconst (pc' := 107) d_243_106 rfl ci_1 ?_
        obtain ⟨fs15, hw16, h⟩ := h
        obtain ⟨w17, hk18, h⟩ := h
        refine g_callV (pc' := 110) d_243_107 rfl st_243_151 na_202 ml_202 rfl rfl rfl rm_243_202 rfl rfl ow_202 hw16 hk18 ?_
        have h := h _ rfl
        refine g_iinc (pc' := 113) (l' := [some (.ref a0), some (.int i1), some (.long l2), none, some (.int ((i4 + (0 : Int32)))), some (.int (i5 + (1 : Int32)))]) d_243_110 rfl rfl ci_1 ml_243 rfl rfl ?_
        refine g_goto (pt := 61) d_243_113 (by decide) ?_
        exact h
    · replace h := h.2 c
      refine g_goto (pt := 110) d_243_81 (by decide) ?_
      have h := h _ rfl
      refine g_iinc (pc' := 113) (l' := [some (.ref a0), some (.int i1), some (.long l2), none, some (.int i4), some (.int (i5 + (1 : Int32)))]) d_243_110 rfl rfl ci_1 ml_243 rfl rfl ?_
      refine g_goto (pt := 61) d_243_113 (by decide) ?_
      exact h
-- 244 BernoulliWaysModel.culprit(I)I
theorem S_244_0 {a0 : Nat} {i1 : Int32} {w : xW} {r : Option Value × xW} (h : ∃ fs1, w[a0]? = some (.inr (12, fs1)) ∧ (0 < fs1.length) ∧ ∀ w4, w4 = w.set a0 (.inr (12, fs1.set 0 (.int (0 : Int32)))) → ∃ r7 w5, xCall 199 [.int i1, .int (0 : Int32), .int (63 : Int32)] w4 (some (.int r7), w5) ∧ (¬ r7 = 0 → xGo 244 19 [some (.ref a0), some (.int i1), some (.int (0 : Int32)), none, none, none, none, none, none, none] [] w5 r) ∧ (¬ (¬ r7 = 0) → r = (some (.int (-1 : Int32)), w5))) : xGo 244 0 [some (.ref a0), some (.int i1), none, none, none, none, none, none, none, none] [] w r := by
  refine g_aloadn (pc' := 1) d_244_0 rfl rfl ?_
  refine g_iconst (pc' := 2) d_244_1 rfl ci_0 ?_
  obtain ⟨fs1, hw2, h⟩ := h
  obtain ⟨hc3, h⟩ := h
  have h := h _ rfl
  refine g_putf (pc' := 5) d_244_2 rfl st_244_118 ft_12_0 ff_12_0 rfl (Or.inl rfl) hw2 hc3 ?_
  refine g_iloadn (pc' := 6) d_244_5 rfl rfl ?_
  refine g_iconst (pc' := 7) d_244_6 rfl ci_0 ?_
  refine g_bipush (pc' := 9) d_244_7 rfl cb_63 ?_
  obtain ⟨r7, w5, hk6, h⟩ := h
  refine g_callS (pc' := 12) d_244_9 rfl st_244_137 (Or.inl rfl) na_199 ml_199 rfl rfl rfl rm_244_199 rfl rfl hk6 ?_
  refine g_if_ne (pc' := 15) (pt := 17) d_244_12 (by decide) rfl (fun c => ?_) (fun c => ?_)
  · replace h := h.1 c
    refine g_iconst (pc' := 18) d_244_17 rfl ci_0 ?_
    refine g_istoren (pc' := 19) (l' := [some (.ref a0), some (.int i1), some (.int (0 : Int32)), none, none, none, none, none, none, none]) d_244_18 rfl ml_244 rfl rfl ?_
    exact h
  · replace h := h.2 c
    refine g_iconst (pc' := 16) d_244_15 rfl ci_m1 ?_
    exact g_iret d_244_16 rt_244 h
theorem S_244_19 {a0 : Nat} {i1 : Int32} {i2 : Int32} {w : xW} {r : Option Value × xW} (h : ∃ fs1, w[a0]? = some (.inr (12, fs1)) ∧ ∃ x3, fs1[4]? = some (.int x3) ∧ (x3 < i2 → r = (some (.int (-2 : Int32)), w)) ∧ (¬ (x3 < i2) → ∃ b5, fs1[2]? = some (.ref b5) ∧ ∃ n7 f8, w[b5]? = some (.inl (.inr (n7, f8))) ∧ (¬ (((3 : Int32) * i2) < 0 ∨ n7 ≤ ((3 : Int32) * i2).toNatClampNeg)) ∧ ∀ v11 : Int64, v11 = (f8 ((3 : Int32) * i2).toNatClampNeg) → (¬ ((((3 : Int32) * i2) + (1 : Int32)) < 0 ∨ n7 ≤ (((3 : Int32) * i2) + (1 : Int32)).toNatClampNeg)) ∧ ∀ v13 : Int64, v13 = (f8 (((3 : Int32) * i2) + (1 : Int32)).toNatClampNeg) → (¬ ((((3 : Int32) * i2) + (2 : Int32)) < 0 ∨ n7 ≤ (((3 : Int32) * i2) + (2 : Int32)).toNatClampNeg)) ∧ ∀ v15 : Int64, v15 = (f8 (((3 : Int32) * i2) + (2 : Int32)).toNatClampNeg) → ∃ b16, fs1[1]? = some (.ref b16) ∧ ∃ n18 f19, w[b16]? = some (.inl (.inr (n18, f19))) ∧ (¬ (((3 : Int32) * i2) < 0 ∨ n18 ≤ ((3 : Int32) * i2).toNatClampNeg)) ∧ (¬ ((((3 : Int32) * i2) + (1 : Int32)) < 0 ∨ n18 ≤ (((3 : Int32) * i2) + (1 : Int32)).toNatClampNeg)) ∧ (¬ ((((3 : Int32) * i2) + (2 : Int32)) < 0 ∨ n18 ≤ (((3 : Int32) * i2) + (2 : Int32)).toNatClampNeg)) ∧ ∃ w24, xCall 189 [.ref b5, .int i2, .long (f19 ((3 : Int32) * i2).toNatClampNeg), .long (f19 (((3 : Int32) * i2) + (1 : Int32)).toNatClampNeg), .long (f19 (((3 : Int32) * i2) + (2 : Int32)).toNatClampNeg)] w (none, w24) ∧ ∃ fs26, w24[a0]? = some (.inr (12, fs26)) ∧ ∃ r30 w28, xCall 245 [.ref a0, .int i1] w24 (some (.int r30), w28) ∧ ∃ fs31, w28[a0]? = some (.inr (12, fs31)) ∧ ∃ b33, fs31[2]? = some (.ref b33) ∧ ∃ w35, xCall 189 [.ref b33, .int i2, .long v11, .long v13, .long v15] w28 (none, w35) ∧ (¬ r30 = 0 → ∀ v37 : Int32, v37 = i2 + (1 : Int32) → xGo 244 19 [some (.ref a0), some (.int i1), some (.int v37), none, none, none, none, none, none, none] [] w35 r) ∧ (¬ (¬ r30 = 0) → r = (some (.int i2), w35)))) : xGo 244 19 [some (.ref a0), some (.int i1), some (.int i2), none, none, none, none, none, none, none] [] w r := by
  refine g_iloadn (pc' := 20) d_244_19 rfl rfl ?_
  refine g_aloadn (pc' := 21) d_244_20 rfl rfl ?_
  obtain ⟨fs1, hw2, h⟩ := h
  obtain ⟨x3, hv4, h⟩ := h
  refine g_getf (pc' := 24) d_244_21 rfl st_244_20 hw2 hv4 ?_
  refine g_ic_gt (pc' := 27) (pt := 129) d_244_24 (by decide) rfl (fun c => ?_) (fun c => ?_)
  · replace h := h.1 c
    refine g_bipush (pc' := 131) d_244_129 rfl cb_m2 ?_
    exact g_iret d_244_131 rt_244 h
  · replace h := h.2 c
    refine g_aloadn (pc' := 28) d_244_27 rfl rfl ?_
    obtain ⟨b5, hv6, h⟩ := h
    refine g_getf (pc' := 31) d_244_28 rfl st_244_13 hw2 hv6 ?_
    refine g_iconst (pc' := 32) d_244_31 rfl ci_3 ?_
    refine g_iloadn (pc' := 33) d_244_32 rfl rfl ?_
    refine g_imul (pc' := 34) d_244_33 rfl ?_
    obtain ⟨n7, f8, hw9, h⟩ := h
    obtain ⟨hc10, h⟩ := h
    refine g_lald (pc' := 35) d_244_34 rfl hw9 hc10 ?_
    have h := h _ rfl
    refine g_lstoren (pc' := 36) (l' := [some (.ref a0), some (.int i1), some (.int i2), some (.long ((f8 ((3 : Int32) * i2).toNatClampNeg))), none, none, none, none, none, none]) d_244_35 rfl ml_244 rfl rfl ?_
    refine g_aloadn (pc' := 37) d_244_36 rfl rfl ?_
    refine g_getf (pc' := 40) d_244_37 rfl st_244_13 hw2 hv6 ?_
    refine g_iconst (pc' := 41) d_244_40 rfl ci_3 ?_
    refine g_iloadn (pc' := 42) d_244_41 rfl rfl ?_
    refine g_imul (pc' := 43) d_244_42 rfl ?_
    refine g_iconst (pc' := 44) d_244_43 rfl ci_1 ?_
    refine g_iadd (pc' := 45) d_244_44 rfl ?_
    obtain ⟨hc12, h⟩ := h
    refine g_lald (pc' := 46) d_244_45 rfl hw9 hc12 ?_
    have h := h _ rfl
    refine g_lstore (pc' := 48) (l' := [some (.ref a0), some (.int i1), some (.int i2), some (.long ((f8 ((3 : Int32) * i2).toNatClampNeg))), none, some (.long ((f8 (((3 : Int32) * i2) + (1 : Int32)).toNatClampNeg))), none, none, none, none]) d_244_46 rfl ml_244 rfl rfl ?_
    refine g_aloadn (pc' := 49) d_244_48 rfl rfl ?_
    refine g_getf (pc' := 52) d_244_49 rfl st_244_13 hw2 hv6 ?_
    refine g_iconst (pc' := 53) d_244_52 rfl ci_3 ?_
    refine g_iloadn (pc' := 54) d_244_53 rfl rfl ?_
    refine g_imul (pc' := 55) d_244_54 rfl ?_
    refine g_iconst (pc' := 56) d_244_55 rfl ci_2 ?_
    refine g_iadd (pc' := 57) d_244_56 rfl ?_
    obtain ⟨hc14, h⟩ := h
    refine g_lald (pc' := 58) d_244_57 rfl hw9 hc14 ?_
    have h := h _ rfl
    refine g_lstore (pc' := 60) (l' := [some (.ref a0), some (.int i1), some (.int i2), some (.long ((f8 ((3 : Int32) * i2).toNatClampNeg))), none, some (.long ((f8 (((3 : Int32) * i2) + (1 : Int32)).toNatClampNeg))), none, some (.long ((f8 (((3 : Int32) * i2) + (2 : Int32)).toNatClampNeg))), none, none]) d_244_58 rfl ml_244 rfl rfl ?_
    refine g_aloadn (pc' := 61) d_244_60 rfl rfl ?_
    refine g_getf (pc' := 64) d_244_61 rfl st_244_13 hw2 hv6 ?_
    refine g_iloadn (pc' := 65) d_244_64 rfl rfl ?_
    refine g_aloadn (pc' := 66) d_244_65 rfl rfl ?_
    obtain ⟨b16, hv17, h⟩ := h
    refine g_getf (pc' := 69) d_244_66 rfl st_244_7 hw2 hv17 ?_
    refine g_iconst (pc' := 70) d_244_69 rfl ci_3 ?_
    refine g_iloadn (pc' := 71) d_244_70 rfl rfl ?_
    refine g_imul (pc' := 72) d_244_71 rfl ?_
    obtain ⟨n18, f19, hw20, h⟩ := h
    obtain ⟨hc21, h⟩ := h
    refine g_lald (pc' := 73) d_244_72 rfl hw20 hc21 ?_
    refine g_aloadn (pc' := 74) d_244_73 rfl rfl ?_
    refine g_getf (pc' := 77) d_244_74 rfl st_244_7 hw2 hv17 ?_
    refine g_iconst (pc' := 78) d_244_77 rfl ci_3 ?_
    refine g_iloadn (pc' := 79) d_244_78 rfl rfl ?_
    refine g_imul (pc' := 80) d_244_79 rfl ?_
    refine g_iconst (pc' := 81) d_244_80 rfl ci_1 ?_
    refine g_iadd (pc' := 82) d_244_81 rfl ?_
    obtain ⟨hc22, h⟩ := h
    refine g_lald (pc' := 83) d_244_82 rfl hw20 hc22 ?_
    refine g_aloadn (pc' := 84) d_244_83 rfl rfl ?_
    refine g_getf (pc' := 87) d_244_84 rfl st_244_7 hw2 hv17 ?_
    refine g_iconst (pc' := 88) d_244_87 rfl ci_3 ?_
    refine g_iloadn (pc' := 89) d_244_88 rfl rfl ?_
    refine g_imul (pc' := 90) d_244_89 rfl ?_
    refine g_iconst (pc' := 91) d_244_90 rfl ci_2 ?_
    refine g_iadd (pc' := 92) d_244_91 rfl ?_
    obtain ⟨hc23, h⟩ := h
    refine g_lald (pc' := 93) d_244_92 rfl hw20 hc23 ?_
    obtain ⟨w24, hk25, h⟩ := h
    refine g_callS (pc' := 96) d_244_93 rfl st_244_99 (Or.inl rfl) na_189 ml_189 rfl rfl rfl rm_244_189 rfl rfl hk25 ?_
    refine g_aloadn (pc' := 97) d_244_96 rfl rfl ?_
    refine g_iloadn (pc' := 98) d_244_97 rfl rfl ?_
    obtain ⟨fs26, hw27, h⟩ := h
    obtain ⟨r30, w28, hk29, h⟩ := h
    refine g_callV (pc' := 101) d_244_98 rfl st_244_240 na_245 ml_245 rfl rfl rfl rm_244_245 rfl rfl ow_245 hw27 hk29 ?_
    refine g_istore (pc' := 103) (l' := [some (.ref a0), some (.int i1), some (.int i2), some (.long ((f8 ((3 : Int32) * i2).toNatClampNeg))), none, some (.long ((f8 (((3 : Int32) * i2) + (1 : Int32)).toNatClampNeg))), none, some (.long ((f8 (((3 : Int32) * i2) + (2 : Int32)).toNatClampNeg))), none, some (.int r30)]) d_244_101 rfl ml_244 rfl rfl ?_
    refine g_aloadn (pc' := 104) d_244_103 rfl rfl ?_
    obtain ⟨fs31, hw32, h⟩ := h
    obtain ⟨b33, hv34, h⟩ := h
    refine g_getf (pc' := 107) d_244_104 rfl st_244_13 hw32 hv34 ?_
    refine g_iloadn (pc' := 108) d_244_107 rfl rfl ?_
    refine g_lloadn (pc' := 109) d_244_108 rfl rfl ?_
    refine g_lload (pc' := 111) d_244_109 rfl rfl ?_
    refine g_lload (pc' := 113) d_244_111 rfl rfl ?_
    obtain ⟨w35, hk36, h⟩ := h
    refine g_callS (pc' := 116) d_244_113 rfl st_244_99 (Or.inl rfl) na_189 ml_189 rfl rfl rfl rm_244_189 rfl rfl hk36 ?_
    refine g_iload (pc' := 118) d_244_116 rfl rfl ?_
    refine g_if_ne (pc' := 121) (pt := 123) d_244_118 (by decide) rfl (fun c => ?_) (fun c => ?_)
    · replace h := h.1 c
      have h := h _ rfl
      refine g_iinc (pc' := 126) (l' := [some (.ref a0), some (.int i1), some (.int (i2 + (1 : Int32))), some (.long ((f8 ((3 : Int32) * i2).toNatClampNeg))), none, some (.long ((f8 (((3 : Int32) * i2) + (1 : Int32)).toNatClampNeg))), none, some (.long ((f8 (((3 : Int32) * i2) + (2 : Int32)).toNatClampNeg))), none, some (.int r30)]) d_244_123 rfl rfl ci_1 ml_244 rfl rfl ?_
      refine g_goto (pt := 19) d_244_126 (by decide) ?_
      exact xGo.more (xle_s (xle_s (xle_s (xle_n (xle_n (xle_n (xle_n (xle_n (xle_n (xle_n xle_0)))))))))) h
    · replace h := h.2 c
      refine g_iloadn (pc' := 122) d_244_121 rfl rfl ?_
      exact g_iret d_244_122 rt_244 h
-- 245 BernoulliWaysModel.fails(I)Z
theorem S_245_0 {a0 : Nat} {i1 : Int32} {w : xW} {r : Option Value × xW} (h : xGo 245 2 [some (.ref a0), some (.int i1), some (.int (0 : Int32))] [] w r) : xGo 245 0 [some (.ref a0), some (.int i1), none] [] w r := by
  refine g_iconst (pc' := 1) d_245_0 rfl ci_0 ?_
  refine g_istoren (pc' := 2) (l' := [some (.ref a0), some (.int i1), some (.int (0 : Int32))]) d_245_1 rfl ml_245 rfl rfl ?_
  exact h
theorem S_245_2 {a0 : Nat} {i1 : Int32} {i2 : Int32} {w : xW} {r : Option Value × xW} (h : ∃ fs1, w[a0]? = some (.inr (12, fs1)) ∧ ∃ x3, fs1[4]? = some (.int x3) ∧ (x3 < i2 → r = (some (.int (0 : Int32)), w)) ∧ (¬ (x3 < i2) → ∃ r7 w5, xCall 206 [.ref a0, .int i2] w (some (.int r7), w5) ∧ ((r7 &&& i1) = 0 → ∀ v8 : Int32, v8 = i2 + (1 : Int32) → xGo 245 2 [some (.ref a0), some (.int i1), some (.int v8)] [] w5 r) ∧ (¬ ((r7 &&& i1) = 0) → r = (some (.int (1 : Int32)), w5)))) : xGo 245 2 [some (.ref a0), some (.int i1), some (.int i2)] [] w r := by
  refine g_iloadn (pc' := 3) d_245_2 rfl rfl ?_
  refine g_aloadn (pc' := 4) d_245_3 rfl rfl ?_
  obtain ⟨fs1, hw2, h⟩ := h
  obtain ⟨x3, hv4, h⟩ := h
  refine g_getf (pc' := 7) d_245_4 rfl st_245_20 hw2 hv4 ?_
  refine g_ic_gt (pc' := 10) (pt := 28) d_245_7 (by decide) rfl (fun c => ?_) (fun c => ?_)
  · replace h := h.1 c
    refine g_iconst (pc' := 29) d_245_28 rfl ci_0 ?_
    exact g_zret d_245_29 rt_245 (Or.inl rfl) h
  · replace h := h.2 c
    refine g_aloadn (pc' := 11) d_245_10 rfl rfl ?_
    refine g_iloadn (pc' := 12) d_245_11 rfl rfl ?_
    obtain ⟨r7, w5, hk6, h⟩ := h
    refine g_callV (pc' := 15) d_245_12 rfl st_245_158 na_206 ml_206 rfl rfl rfl rm_245_206 rfl rfl ow_206 hw2 hk6 ?_
    refine g_iloadn (pc' := 16) d_245_15 rfl rfl ?_
    refine g_iand (pc' := 17) d_245_16 rfl ?_
    refine g_if_eq (pc' := 20) (pt := 22) d_245_17 (by decide) rfl (fun c => ?_) (fun c => ?_)
    · replace h := h.1 c
      have h := h _ rfl
      refine g_iinc (pc' := 25) (l' := [some (.ref a0), some (.int i1), some (.int (i2 + (1 : Int32)))]) d_245_22 rfl rfl ci_1 ml_245 rfl rfl ?_
      refine g_goto (pt := 2) d_245_25 (by decide) ?_
      exact h
    · replace h := h.2 c
      refine g_iconst (pc' := 21) d_245_20 rfl ci_1 ?_
      exact g_zret d_245_21 rt_245 (Or.inr rfl) h
-- 246 BernoulliWaysModel.trial(III)I
theorem S_246_0 {a0 : Nat} {i1 : Int32} {i2 : Int32} {i3 : Int32} {w : xW} {r : Option Value × xW} (h : ∃ fs1, w[a0]? = some (.inr (12, fs1)) ∧ (0 < fs1.length) ∧ ∀ w4, w4 = w.set a0 (.inr (12, fs1.set 0 (.int (0 : Int32)))) → (i1 < 0 → r = (some (.int (-1 : Int32)), w4)) ∧ (¬ (i1 < 0) → ∃ r7 w5, xCall 199 [.int i2, .int (1 : Int32), .int (20 : Int32)] w4 (some (.int r7), w5) ∧ (r7 = 0 → r = (some (.int (-1 : Int32)), w5)) ∧ (¬ (r7 = 0) → ∃ r10 w8, xCall 199 [.int i3, .int (0 : Int32), .int (63 : Int32)] w5 (some (.int r10), w8) ∧ (¬ r10 = 0 → ∃ fs11, w8[a0]? = some (.inr (12, fs11)) ∧ ∃ x13, fs11[4]? = some (.int x13) ∧ (0 ≤ x13 → ∀ v15 : Int64, v15 = (i1.toInt64) → (14 < fs11.length) ∧ ∀ w17, w17 = w8.set a0 (.inr (12, fs11.set 14 (.long v15))) → xGo 246 50 [some (.ref a0), some (.int i1), some (.int i2), some (.int i3), some (.int (0 : Int32)), none, none] [] w17 r) ∧ (¬ (0 ≤ x13) → r = (some (.int (-2 : Int32)), w8))) ∧ (¬ (¬ r10 = 0) → r = (some (.int (-1 : Int32)), w8))))) : xGo 246 0 [some (.ref a0), some (.int i1), some (.int i2), some (.int i3), none, none, none] [] w r := by
  refine g_aloadn (pc' := 1) d_246_0 rfl rfl ?_
  refine g_iconst (pc' := 2) d_246_1 rfl ci_0 ?_
  obtain ⟨fs1, hw2, h⟩ := h
  obtain ⟨hc3, h⟩ := h
  have h := h _ rfl
  refine g_putf (pc' := 5) d_246_2 rfl st_246_118 ft_12_0 ff_12_0 rfl (Or.inl rfl) hw2 hc3 ?_
  refine g_iloadn (pc' := 6) d_246_5 rfl rfl ?_
  refine g_if_lt (pc' := 9) (pt := 29) d_246_6 (by decide) rfl (fun c => ?_) (fun c => ?_)
  · replace h := h.1 c
    refine g_iconst (pc' := 30) d_246_29 rfl ci_m1 ?_
    exact g_iret d_246_30 rt_246 h
  · replace h := h.2 c
    refine g_iloadn (pc' := 10) d_246_9 rfl rfl ?_
    refine g_iconst (pc' := 11) d_246_10 rfl ci_1 ?_
    refine g_bipush (pc' := 13) d_246_11 rfl cb_20 ?_
    obtain ⟨r7, w5, hk6, h⟩ := h
    refine g_callS (pc' := 16) d_246_13 rfl st_246_137 (Or.inl rfl) na_199 ml_199 rfl rfl rfl rm_246_199 rfl rfl hk6 ?_
    refine g_if_eq (pc' := 19) (pt := 29) d_246_16 (by decide) rfl (fun c => ?_) (fun c => ?_)
    · replace h := h.1 c
      refine g_iconst (pc' := 30) d_246_29 rfl ci_m1 ?_
      exact g_iret d_246_30 rt_246 h
    · replace h := h.2 c
      refine g_iloadn (pc' := 20) d_246_19 rfl rfl ?_
      refine g_iconst (pc' := 21) d_246_20 rfl ci_0 ?_
      refine g_bipush (pc' := 23) d_246_21 rfl cb_63 ?_
      obtain ⟨r10, w8, hk9, h⟩ := h
      refine g_callS (pc' := 26) d_246_23 rfl st_246_137 (Or.inl rfl) na_199 ml_199 rfl rfl rfl rm_246_199 rfl rfl hk9 ?_
      refine g_if_ne (pc' := 29) (pt := 31) d_246_26 (by decide) rfl (fun c => ?_) (fun c => ?_)
      · replace h := h.1 c
        refine g_aloadn (pc' := 32) d_246_31 rfl rfl ?_
        obtain ⟨fs11, hw12, h⟩ := h
        obtain ⟨x13, hv14, h⟩ := h
        refine g_getf (pc' := 35) d_246_32 rfl st_246_20 hw12 hv14 ?_
        refine g_if_ge (pc' := 38) (pt := 41) d_246_35 (by decide) rfl (fun c => ?_) (fun c => ?_)
        · replace h := h.1 c
          refine g_aloadn (pc' := 42) d_246_41 rfl rfl ?_
          refine g_iloadn (pc' := 43) d_246_42 rfl rfl ?_
          refine g_i2l (pc' := 44) d_246_43 rfl ?_
          have h := h _ rfl
          obtain ⟨hc16, h⟩ := h
          have h := h _ rfl
          refine g_putf (pc' := 47) d_246_44 rfl st_246_243 ft_12_14 ff_12_14 rfl (Or.inl rfl) hw12 hc16 ?_
          refine g_iconst (pc' := 48) d_246_47 rfl ci_0 ?_
          refine g_istore (pc' := 50) (l' := [some (.ref a0), some (.int i1), some (.int i2), some (.int i3), some (.int (0 : Int32)), none, none]) d_246_48 rfl ml_246 rfl rfl ?_
          exact h
        · replace h := h.2 c
          refine g_bipush (pc' := 40) d_246_38 rfl cb_m2 ?_
          exact g_iret d_246_40 rt_246 h
      · replace h := h.2 c
        refine g_iconst (pc' := 30) d_246_29 rfl ci_m1 ?_
        exact g_iret d_246_30 rt_246 h
theorem S_246_50 {a0 : Nat} {i1 : Int32} {i2 : Int32} {i3 : Int32} {i4 : Int32} {w : xW} {r : Option Value × xW} (h : ((117 : Int32) ≤ i4 → xGo 246 80 [some (.ref a0), some (.int i1), some (.int i2), some (.int i3), some (.int (0 : Int32)), none, none] [] w r) ∧ (¬ ((117 : Int32) ≤ i4) → ∃ fs1, w[a0]? = some (.inr (12, fs1)) ∧ ∃ b3, fs1[15]? = some (.ref b3) ∧ ∃ b5, fs1[2]? = some (.ref b5) ∧ ∃ n7 f8, w[b5]? = some (.inl (.inr (n7, f8))) ∧ (¬ (i4 < 0 ∨ n7 ≤ i4.toNatClampNeg)) ∧ ∃ n11 f12, w[b3]? = some (.inl (.inr (n11, f12))) ∧ ∀ v14 : Int64, v14 = (f8 i4.toNatClampNeg) → (¬ (i4 < 0 ∨ n11 ≤ i4.toNatClampNeg)) ∧ ∀ w16, w16 = w.set b3 (.inl (.inr (n11, (vp_updL f12 i4.toNatClampNeg v14)))) → ∀ v17 : Int32, v17 = i4 + (1 : Int32) → xGo 246 50 [some (.ref a0), some (.int i1), some (.int i2), some (.int i3), some (.int v17), none, none] [] w16 r)) : xGo 246 50 [some (.ref a0), some (.int i1), some (.int i2), some (.int i3), some (.int i4), none, none] [] w r := by
  refine g_iload (pc' := 52) d_246_50 rfl rfl ?_
  refine g_bipush (pc' := 54) d_246_52 rfl cb_117 ?_
  refine g_ic_ge (pc' := 57) (pt := 77) d_246_54 (by decide) rfl (fun c => ?_) (fun c => ?_)
  · replace h := h.1 c
    refine g_iconst (pc' := 78) d_246_77 rfl ci_0 ?_
    refine g_istore (pc' := 80) (l' := [some (.ref a0), some (.int i1), some (.int i2), some (.int i3), some (.int (0 : Int32)), none, none]) d_246_78 rfl ml_246 rfl rfl ?_
    exact h
  · replace h := h.2 c
    refine g_aloadn (pc' := 58) d_246_57 rfl rfl ?_
    obtain ⟨fs1, hw2, h⟩ := h
    obtain ⟨b3, hv4, h⟩ := h
    refine g_getf (pc' := 61) d_246_58 rfl st_246_39 hw2 hv4 ?_
    refine g_iload (pc' := 63) d_246_61 rfl rfl ?_
    refine g_aloadn (pc' := 64) d_246_63 rfl rfl ?_
    obtain ⟨b5, hv6, h⟩ := h
    refine g_getf (pc' := 67) d_246_64 rfl st_246_13 hw2 hv6 ?_
    refine g_iload (pc' := 69) d_246_67 rfl rfl ?_
    obtain ⟨n7, f8, hw9, h⟩ := h
    obtain ⟨hc10, h⟩ := h
    refine g_lald (pc' := 70) d_246_69 rfl hw9 hc10 ?_
    obtain ⟨n11, f12, hw13, h⟩ := h
    have h := h _ rfl
    obtain ⟨hc15, h⟩ := h
    have h := h _ rfl
    refine g_last (pc' := 71) d_246_70 rfl hw13 hc15 ?_
    have h := h _ rfl
    refine g_iinc (pc' := 74) (l' := [some (.ref a0), some (.int i1), some (.int i2), some (.int i3), some (.int (i4 + (1 : Int32))), none, none]) d_246_71 rfl rfl ci_1 ml_246 rfl rfl ?_
    refine g_goto (pt := 50) d_246_74 (by decide) ?_
    exact h
theorem S_246_80 {a0 : Nat} {i1 : Int32} {i2 : Int32} {i3 : Int32} {i4 : Int32} {w : xW} {r : Option Value × xW} (h : (i2 ≤ i4 → xGo 246 143 [some (.ref a0), some (.int i1), some (.int i2), some (.int i3), some (.int (0 : Int32)), some (.int (0 : Int32)), none] [] w r) ∧ (¬ (i2 ≤ i4) → ∃ fs1, w[a0]? = some (.inr (12, fs1)) ∧ ∃ x3, fs1[4]? = some (.int x3) ∧ ∃ r7 w5, xCall 247 [.ref a0, .int (x3 + (1 : Int32))] w (some (.int r7), w5) ∧ ∃ fs8, w5[a0]? = some (.inr (12, fs8)) ∧ ∃ r12 w10, xCall 247 [.ref a0, .int (9 : Int32)] w5 (some (.int r12), w10) ∧ ∀ v13 : Int32, v13 = (r12 + (1 : Int32)) → ∃ fs14, w10[a0]? = some (.inr (12, fs14)) ∧ ∃ r18 w16, xCall 247 [.ref a0, .int (2 : Int32)] w10 (some (.int r18), w16) ∧ (¬ r18 = (1 : Int32) → ∃ fs19, w16[a0]? = some (.inr (12, fs19)) ∧ ∃ w21, xCall 205 [.ref a0, .int r7, .int v13] w16 (none, w21) ∧ ∀ v23 : Int32, v23 = i4 + (1 : Int32) → xGo 246 80 [some (.ref a0), some (.int i1), some (.int i2), some (.int i3), some (.int v23), none, none] [] w21 r) ∧ (¬ (¬ r18 = (1 : Int32)) → ∃ fs24, w16[a0]? = some (.inr (12, fs24)) ∧ ∃ w26, xCall 205 [.ref a0, .int r7, .int (-v13)] w16 (none, w26) ∧ ∀ v28 : Int32, v28 = i4 + (1 : Int32) → xGo 246 80 [some (.ref a0), some (.int i1), some (.int i2), some (.int i3), some (.int v28), none, none] [] w26 r))) : xGo 246 80 [some (.ref a0), some (.int i1), some (.int i2), some (.int i3), some (.int i4), none, none] [] w r := by
  refine g_iload (pc' := 82) d_246_80 rfl rfl ?_
  refine g_iloadn (pc' := 83) d_246_82 rfl rfl ?_
  refine g_ic_ge (pc' := 86) (pt := 137) d_246_83 (by decide) rfl (fun c => ?_) (fun c => ?_)
  · replace h := h.1 c
    refine g_iconst (pc' := 138) d_246_137 rfl ci_0 ?_
    refine g_istore (pc' := 140) (l' := [some (.ref a0), some (.int i1), some (.int i2), some (.int i3), some (.int (0 : Int32)), none, none]) d_246_138 rfl ml_246 rfl rfl ?_
    refine g_iconst (pc' := 141) d_246_140 rfl ci_0 ?_
    refine g_istore (pc' := 143) (l' := [some (.ref a0), some (.int i1), some (.int i2), some (.int i3), some (.int (0 : Int32)), some (.int (0 : Int32)), none]) d_246_141 rfl ml_246 rfl rfl ?_
    exact h
  · replace h := h.2 c
    refine g_aloadn (pc' := 87) d_246_86 rfl rfl ?_
    refine g_aloadn (pc' := 88) d_246_87 rfl rfl ?_
    obtain ⟨fs1, hw2, h⟩ := h
    obtain ⟨x3, hv4, h⟩ := h
    refine g_getf (pc' := 91) d_246_88 rfl st_246_20 hw2 hv4 ?_
    refine g_iconst (pc' := 92) d_246_91 rfl ci_1 ?_
    refine g_iadd (pc' := 93) d_246_92 rfl ?_
    obtain ⟨r7, w5, hk6, h⟩ := h
    refine g_callV (pc' := 96) d_246_93 rfl st_246_254 na_247 ml_247 rfl rfl rfl rm_246_247 rfl rfl ow_247 hw2 hk6 ?_
    refine g_istore (pc' := 98) (l' := [some (.ref a0), some (.int i1), some (.int i2), some (.int i3), some (.int i4), some (.int r7), none]) d_246_96 rfl ml_246 rfl rfl ?_
    refine g_aloadn (pc' := 99) d_246_98 rfl rfl ?_
    refine g_bipush (pc' := 101) d_246_99 rfl cb_9 ?_
    obtain ⟨fs8, hw9, h⟩ := h
    obtain ⟨r12, w10, hk11, h⟩ := h
    refine g_callV (pc' := 104) d_246_101 rfl st_246_254 na_247 ml_247 rfl rfl rfl rm_246_247 rfl rfl ow_247 hw9 hk11 ?_
    refine g_iconst (pc' := 105) d_246_104 rfl ci_1 ?_
    refine g_iadd (pc' := 106) d_246_105 rfl ?_
    have h := h _ rfl
    refine g_istore (pc' := 108) (l' := [some (.ref a0), some (.int i1), some (.int i2), some (.int i3), some (.int i4), some (.int r7), some (.int ((r12 + (1 : Int32))))]) d_246_106 rfl ml_246 rfl rfl ?_
    refine g_aloadn (pc' := 109) d_246_108 rfl rfl ?_
    refine g_iload (pc' := 111) d_246_109 rfl rfl ?_
    refine g_aloadn (pc' := 112) d_246_111 rfl rfl ?_
    refine g_iconst (pc' := 113) d_246_112 rfl ci_2 ?_
    obtain ⟨fs14, hw15, h⟩ := h
    obtain ⟨r18, w16, hk17, h⟩ := h
    refine g_callV (pc' := 116) d_246_113 rfl st_246_254 na_247 ml_247 rfl rfl rfl rm_246_247 rfl rfl ow_247 hw15 hk17 ?_
    refine g_iconst (pc' := 117) d_246_116 rfl ci_1 ?_
    refine g_ic_ne (pc' := 120) (pt := 126) d_246_117 (by decide) rfl (fun c => ?_) (fun c => ?_)
    · replace h := h.1 c
      refine g_iload (pc' := 128) d_246_126 rfl rfl ?_
      obtain ⟨fs19, hw20, h⟩ := h
      obtain ⟨w21, hk22, h⟩ := h
      refine g_callV (pc' := 131) d_246_128 rfl st_246_155 na_205 ml_205 rfl rfl rfl rm_246_205 rfl rfl ow_205 hw20 hk22 ?_
      have h := h _ rfl
      refine g_iinc (pc' := 134) (l' := [some (.ref a0), some (.int i1), some (.int i2), some (.int i3), some (.int (i4 + (1 : Int32))), some (.int r7), some (.int ((r12 + (1 : Int32))))]) d_246_131 rfl rfl ci_1 ml_246 rfl rfl ?_
      refine g_goto (pt := 80) d_246_134 (by decide) ?_
      exact xGo.more (xle_s (xle_s (xle_s (xle_s (xle_s (xle_n (xle_n xle_0))))))) h
    · replace h := h.2 c
      refine g_iload (pc' := 122) d_246_120 rfl rfl ?_
      refine g_ineg (pc' := 123) d_246_122 rfl ?_
      refine g_goto (pt := 128) d_246_123 (by decide) ?_
      obtain ⟨fs24, hw25, h⟩ := h
      obtain ⟨w26, hk27, h⟩ := h
      refine g_callV (pc' := 131) d_246_128 rfl st_246_155 na_205 ml_205 rfl rfl rfl rm_246_205 rfl rfl ow_205 hw25 hk27 ?_
      have h := h _ rfl
      refine g_iinc (pc' := 134) (l' := [some (.ref a0), some (.int i1), some (.int i2), some (.int i3), some (.int (i4 + (1 : Int32))), some (.int r7), some (.int ((r12 + (1 : Int32))))]) d_246_131 rfl rfl ci_1 ml_246 rfl rfl ?_
      refine g_goto (pt := 80) d_246_134 (by decide) ?_
      exact xGo.more (xle_s (xle_s (xle_s (xle_s (xle_s (xle_n (xle_n xle_0))))))) h
theorem S_246_143 {a0 : Nat} {i1 : Int32} {i2 : Int32} {i3 : Int32} {i4 : Int32} {i5 : Int32} {w : xW} {r : Option Value × xW} (h : ∃ fs1, w[a0]? = some (.inr (12, fs1)) ∧ ∃ x3, fs1[4]? = some (.int x3) ∧ (x3 < i5 → xGo 246 191 [some (.ref a0), some (.int i1), some (.int i2), some (.int i3), some (.int i4), some (.int (0 : Int32)), none] [] w r) ∧ (¬ (x3 < i5) → ∃ r7 w5, xCall 201 [.ref a0, .int i5] w (some (.int r7), w5) ∧ (¬ r7 = 0 → ∀ v8 : Int32, v8 = (i4 + (0 : Int32)) → ∀ v9 : Int32, v9 = i5 + (1 : Int32) → xGo 246 143 [some (.ref a0), some (.int i1), some (.int i2), some (.int i3), some (.int v8), some (.int v9), none] [] w5 r) ∧ (¬ (¬ r7 = 0) → ∃ fs10, w5[a0]? = some (.inr (12, fs10)) ∧ ∃ r14 w12, xCall 206 [.ref a0, .int i5] w5 (some (.int r14), w12) ∧ ((r14 &&& i3) = 0 → ∀ v15 : Int32, v15 = (i4 + (0 : Int32)) → ∀ v16 : Int32, v16 = i5 + (1 : Int32) → xGo 246 143 [some (.ref a0), some (.int i1), some (.int i2), some (.int i3), some (.int v15), some (.int v16), none] [] w12 r) ∧ (¬ ((r14 &&& i3) = 0) → ∀ v17 : Int32, v17 = (i4 + (1 : Int32)) → ∀ v18 : Int32, v18 = i5 + (1 : Int32) → xGo 246 143 [some (.ref a0), some (.int i1), some (.int i2), some (.int i3), some (.int v17), some (.int v18), none] [] w12 r)))) : xGo 246 143 [some (.ref a0), some (.int i1), some (.int i2), some (.int i3), some (.int i4), some (.int i5), none] [] w r := by
  refine g_iload (pc' := 145) d_246_143 rfl rfl ?_
  refine g_aloadn (pc' := 146) d_246_145 rfl rfl ?_
  obtain ⟨fs1, hw2, h⟩ := h
  obtain ⟨x3, hv4, h⟩ := h
  refine g_getf (pc' := 149) d_246_146 rfl st_246_20 hw2 hv4 ?_
  refine g_ic_gt (pc' := 152) (pt := 188) d_246_149 (by decide) rfl (fun c => ?_) (fun c => ?_)
  · replace h := h.1 c
    refine g_iconst (pc' := 189) d_246_188 rfl ci_0 ?_
    refine g_istore (pc' := 191) (l' := [some (.ref a0), some (.int i1), some (.int i2), some (.int i3), some (.int i4), some (.int (0 : Int32)), none]) d_246_189 rfl ml_246 rfl rfl ?_
    exact h
  · replace h := h.2 c
    refine g_iload (pc' := 154) d_246_152 rfl rfl ?_
    refine g_aloadn (pc' := 155) d_246_154 rfl rfl ?_
    refine g_iload (pc' := 157) d_246_155 rfl rfl ?_
    obtain ⟨r7, w5, hk6, h⟩ := h
    refine g_callV (pc' := 160) d_246_157 rfl st_246_141 na_201 ml_201 rfl rfl rfl rm_246_201 rfl rfl ow_201 hw2 hk6 ?_
    refine g_if_ne (pc' := 163) (pt := 178) d_246_160 (by decide) rfl (fun c => ?_) (fun c => ?_)
    · replace h := h.1 c
      refine g_iconst (pc' := 179) d_246_178 rfl ci_0 ?_
      refine g_iadd (pc' := 180) d_246_179 rfl ?_
      have h := h _ rfl
      refine g_istore (pc' := 182) (l' := [some (.ref a0), some (.int i1), some (.int i2), some (.int i3), some (.int ((i4 + (0 : Int32)))), some (.int i5), none]) d_246_180 rfl ml_246 rfl rfl ?_
      have h := h _ rfl
      refine g_iinc (pc' := 185) (l' := [some (.ref a0), some (.int i1), some (.int i2), some (.int i3), some (.int ((i4 + (0 : Int32)))), some (.int (i5 + (1 : Int32))), none]) d_246_182 rfl rfl ci_1 ml_246 rfl rfl ?_
      refine g_goto (pt := 143) d_246_185 (by decide) ?_
      exact h
    · replace h := h.2 c
      refine g_aloadn (pc' := 164) d_246_163 rfl rfl ?_
      refine g_iload (pc' := 166) d_246_164 rfl rfl ?_
      obtain ⟨fs10, hw11, h⟩ := h
      obtain ⟨r14, w12, hk13, h⟩ := h
      refine g_callV (pc' := 169) d_246_166 rfl st_246_158 na_206 ml_206 rfl rfl rfl rm_246_206 rfl rfl ow_206 hw11 hk13 ?_
      refine g_iloadn (pc' := 170) d_246_169 rfl rfl ?_
      refine g_iand (pc' := 171) d_246_170 rfl ?_
      refine g_if_eq (pc' := 174) (pt := 178) d_246_171 (by decide) rfl (fun c => ?_) (fun c => ?_)
      · replace h := h.1 c
        refine g_iconst (pc' := 179) d_246_178 rfl ci_0 ?_
        refine g_iadd (pc' := 180) d_246_179 rfl ?_
        have h := h _ rfl
        refine g_istore (pc' := 182) (l' := [some (.ref a0), some (.int i1), some (.int i2), some (.int i3), some (.int ((i4 + (0 : Int32)))), some (.int i5), none]) d_246_180 rfl ml_246 rfl rfl ?_
        have h := h _ rfl
        refine g_iinc (pc' := 185) (l' := [some (.ref a0), some (.int i1), some (.int i2), some (.int i3), some (.int ((i4 + (0 : Int32)))), some (.int (i5 + (1 : Int32))), none]) d_246_182 rfl rfl ci_1 ml_246 rfl rfl ?_
        refine g_goto (pt := 143) d_246_185 (by decide) ?_
        exact h
      · replace h := h.2 c
        refine g_iconst (pc' := 175) d_246_174 rfl ci_1 ?_
        refine g_goto (pt := 179) d_246_175 (by decide) ?_
        refine g_iadd (pc' := 180) d_246_179 rfl ?_
        have h := h _ rfl
        refine g_istore (pc' := 182) (l' := [some (.ref a0), some (.int i1), some (.int i2), some (.int i3), some (.int ((i4 + (1 : Int32)))), some (.int i5), none]) d_246_180 rfl ml_246 rfl rfl ?_
        have h := h _ rfl
        refine g_iinc (pc' := 185) (l' := [some (.ref a0), some (.int i1), some (.int i2), some (.int i3), some (.int ((i4 + (1 : Int32)))), some (.int (i5 + (1 : Int32))), none]) d_246_182 rfl rfl ci_1 ml_246 rfl rfl ?_
        refine g_goto (pt := 143) d_246_185 (by decide) ?_
        exact h
theorem S_246_191 {a0 : Nat} {i1 : Int32} {i2 : Int32} {i3 : Int32} {i4 : Int32} {i5 : Int32} {w : xW} {r : Option Value × xW} (h : ((117 : Int32) ≤ i5 → r = (some (.int i4), w)) ∧ (¬ ((117 : Int32) ≤ i5) → ∃ fs1, w[a0]? = some (.inr (12, fs1)) ∧ ∃ b3, fs1[2]? = some (.ref b3) ∧ ∃ b5, fs1[15]? = some (.ref b5) ∧ ∃ n7 f8, w[b5]? = some (.inl (.inr (n7, f8))) ∧ (¬ (i5 < 0 ∨ n7 ≤ i5.toNatClampNeg)) ∧ ∃ n11 f12, w[b3]? = some (.inl (.inr (n11, f12))) ∧ ∀ v14 : Int64, v14 = (f8 i5.toNatClampNeg) → (¬ (i5 < 0 ∨ n11 ≤ i5.toNatClampNeg)) ∧ ∀ w16, w16 = w.set b3 (.inl (.inr (n11, (vp_updL f12 i5.toNatClampNeg v14)))) → ∀ v17 : Int32, v17 = i5 + (1 : Int32) → xGo 246 191 [some (.ref a0), some (.int i1), some (.int i2), some (.int i3), some (.int i4), some (.int v17), none] [] w16 r)) : xGo 246 191 [some (.ref a0), some (.int i1), some (.int i2), some (.int i3), some (.int i4), some (.int i5), none] [] w r := by
  refine g_iload (pc' := 193) d_246_191 rfl rfl ?_
  refine g_bipush (pc' := 195) d_246_193 rfl cb_117 ?_
  refine g_ic_ge (pc' := 198) (pt := 218) d_246_195 (by decide) rfl (fun c => ?_) (fun c => ?_)
  · replace h := h.1 c
    refine g_iload (pc' := 220) d_246_218 rfl rfl ?_
    exact g_iret d_246_220 rt_246 h
  · replace h := h.2 c
    refine g_aloadn (pc' := 199) d_246_198 rfl rfl ?_
    obtain ⟨fs1, hw2, h⟩ := h
    obtain ⟨b3, hv4, h⟩ := h
    refine g_getf (pc' := 202) d_246_199 rfl st_246_13 hw2 hv4 ?_
    refine g_iload (pc' := 204) d_246_202 rfl rfl ?_
    refine g_aloadn (pc' := 205) d_246_204 rfl rfl ?_
    obtain ⟨b5, hv6, h⟩ := h
    refine g_getf (pc' := 208) d_246_205 rfl st_246_39 hw2 hv6 ?_
    refine g_iload (pc' := 210) d_246_208 rfl rfl ?_
    obtain ⟨n7, f8, hw9, h⟩ := h
    obtain ⟨hc10, h⟩ := h
    refine g_lald (pc' := 211) d_246_210 rfl hw9 hc10 ?_
    obtain ⟨n11, f12, hw13, h⟩ := h
    have h := h _ rfl
    obtain ⟨hc15, h⟩ := h
    have h := h _ rfl
    refine g_last (pc' := 212) d_246_211 rfl hw13 hc15 ?_
    have h := h _ rfl
    refine g_iinc (pc' := 215) (l' := [some (.ref a0), some (.int i1), some (.int i2), some (.int i3), some (.int i4), some (.int (i5 + (1 : Int32))), none]) d_246_212 rfl rfl ci_1 ml_246 rfl rfl ?_
    refine g_goto (pt := 191) d_246_215 (by decide) ?_
    exact h
-- 247 BernoulliWaysModel.draw(I)I
theorem S_247_0 {a0 : Nat} {i1 : Int32} {w : xW} {r : Option Value × xW} (h : ∃ fs1, w[a0]? = some (.inr (12, fs1)) ∧ ∃ x3, fs1[14]? = some (.long x3) ∧ ∀ v5 : Int64, v5 = (((x3 * (1103515245 : Int64)) + (12345 : Int64)) &&& (2147483647 : Int64)) → (14 < fs1.length) ∧ ∀ w7, w7 = w.set a0 (.inr (12, fs1.set 14 (.long v5))) → ∃ x8, (fs1.set 14 (.long v5))[14]? = some (.long x8) ∧ (¬ (i1.toInt64) = 0) ∧ r = (some (.int ((lrem (x8 / (65536 : Int64)) (i1.toInt64)).toInt32)), w7)) : xGo 247 0 [some (.ref a0), some (.int i1)] [] w r := by
  refine g_aloadn (pc' := 1) d_247_0 rfl rfl ?_
  refine g_aloadn (pc' := 2) d_247_1 rfl rfl ?_
  obtain ⟨fs1, hw2, h⟩ := h
  obtain ⟨x3, hv4, h⟩ := h
  refine g_getf (pc' := 5) d_247_2 rfl st_247_243 hw2 hv4 ?_
  refine g_ldc2 (pc' := 8) d_247_5 rfl st_247_246 cL_1103515245 ?_
  refine g_lmul (pc' := 9) d_247_8 rfl ?_
  refine g_ldc2 (pc' := 12) d_247_9 rfl st_247_248 cL_12345 ?_
  refine g_ladd (pc' := 13) d_247_12 rfl ?_
  refine g_ldc2 (pc' := 16) d_247_13 rfl st_247_250 cL_2147483647 ?_
  refine g_land (pc' := 17) d_247_16 rfl ?_
  have h := h _ rfl
  obtain ⟨hc6, h⟩ := h
  have h := h _ rfl
  refine g_putf (pc' := 20) d_247_17 rfl st_247_243 ft_12_14 ff_12_14 rfl (Or.inl rfl) hw2 hc6 ?_
  refine g_aloadn (pc' := 21) d_247_20 rfl rfl ?_
  obtain ⟨x8, hv9, h⟩ := h
  refine g_getf (pc' := 24) d_247_21 rfl st_247_243 (x_gss hw2) hv9 ?_
  refine g_ldc2 (pc' := 27) d_247_24 rfl st_247_252 cL_65536 ?_
  refine g_ldiv (pc' := 28) d_247_27 rfl (by decide) ?_
  refine g_iloadn (pc' := 29) d_247_28 rfl rfl ?_
  refine g_i2l (pc' := 30) d_247_29 rfl ?_
  obtain ⟨hc10, h⟩ := h
  refine g_lrem (pc' := 31) d_247_30 rfl hc10 ?_
  refine g_l2i (pc' := 32) d_247_31 rfl ?_
  exact g_iret d_247_32 rt_247 h
-- 248 BernoulliWaysModel.remainder(II)J
theorem S_248_0 {a0 : Nat} {i1 : Int32} {i2 : Int32} {w : xW} {r : Option Value × xW} (h : ∃ fs1, w[a0]? = some (.inr (12, fs1)) ∧ (0 < fs1.length) ∧ ∀ w4, w4 = w.set a0 (.inr (12, fs1.set 0 (.int (0 : Int32)))) → ∃ r7 w5, xCall 199 [.int i1, .int (1 : Int32), .int (38 : Int32)] w4 (some (.int r7), w5) ∧ (r7 = 0 → r = (some (.long (-9223372036854775808 : Int64)), w5)) ∧ (¬ (r7 = 0) → ∃ r10 w8, xCall 199 [.int i2, .int (0 : Int32), .int (2 : Int32)] w5 (some (.int r10), w8) ∧ (r10 = 0 → r = (some (.long (-9223372036854775808 : Int64)), w8)) ∧ (¬ (r10 = 0) → ∃ fs11, w8[a0]? = some (.inr (12, fs11)) ∧ ∃ x13, fs11[4]? = some (.int x13) ∧ (i1 ≤ x13 → ∃ b15, fs11[2]? = some (.ref b15) ∧ ∃ w17, xCall 190 [.ref a0, .ref b15, .int (i1 + (1 : Int32)), .int i1] w8 (none, w17) ∧ ∃ fs19, w17[a0]? = some (.inr (12, fs19)) ∧ ∃ b21, fs19[29]? = some (.ref b21) ∧ ∃ x23, fs19[8]? = some (.long x23) ∧ ∃ x25, fs19[9]? = some (.long x25) ∧ ∃ w27, xCall 194 [.ref a0, .ref b21, .int (0 : Int32), .long x23, .long x25, .long (7420738134810 : Int64)] w17 (none, w27) ∧ ∃ fs29, w27[a0]? = some (.inr (12, fs29)) ∧ ∃ b31, fs29[29]? = some (.ref b31) ∧ ∃ n33 f34, w27[b31]? = some (.inl (.inr (n33, f34))) ∧ (¬ (i2 < 0 ∨ n33 ≤ i2.toNatClampNeg)) ∧ r = (some (.long (f34 i2.toNatClampNeg)), w27)) ∧ (¬ (i1 ≤ x13) → r = (some (.long (-9223372036854775808 : Int64)), w8))))) : xGo 248 0 [some (.ref a0), some (.int i1), some (.int i2)] [] w r := by
  refine g_aloadn (pc' := 1) d_248_0 rfl rfl ?_
  refine g_iconst (pc' := 2) d_248_1 rfl ci_0 ?_
  obtain ⟨fs1, hw2, h⟩ := h
  obtain ⟨hc3, h⟩ := h
  have h := h _ rfl
  refine g_putf (pc' := 5) d_248_2 rfl st_248_118 ft_12_0 ff_12_0 rfl (Or.inl rfl) hw2 hc3 ?_
  refine g_iloadn (pc' := 6) d_248_5 rfl rfl ?_
  refine g_iconst (pc' := 7) d_248_6 rfl ci_1 ?_
  refine g_bipush (pc' := 9) d_248_7 rfl cb_38 ?_
  obtain ⟨r7, w5, hk6, h⟩ := h
  refine g_callS (pc' := 12) d_248_9 rfl st_248_137 (Or.inl rfl) na_199 ml_199 rfl rfl rfl rm_248_199 rfl rfl hk6 ?_
  refine g_if_eq (pc' := 15) (pt := 32) d_248_12 (by decide) rfl (fun c => ?_) (fun c => ?_)
  · replace h := h.1 c
    refine g_ldc2 (pc' := 35) d_248_32 rfl st_248_166 cL_m9223372036854775808 ?_
    exact g_lret d_248_35 rt_248 h
  · replace h := h.2 c
    refine g_iloadn (pc' := 16) d_248_15 rfl rfl ?_
    refine g_iconst (pc' := 17) d_248_16 rfl ci_0 ?_
    refine g_iconst (pc' := 18) d_248_17 rfl ci_2 ?_
    obtain ⟨r10, w8, hk9, h⟩ := h
    refine g_callS (pc' := 21) d_248_18 rfl st_248_137 (Or.inl rfl) na_199 ml_199 rfl rfl rfl rm_248_199 rfl rfl hk9 ?_
    refine g_if_eq (pc' := 24) (pt := 32) d_248_21 (by decide) rfl (fun c => ?_) (fun c => ?_)
    · replace h := h.1 c
      refine g_ldc2 (pc' := 35) d_248_32 rfl st_248_166 cL_m9223372036854775808 ?_
      exact g_lret d_248_35 rt_248 h
    · replace h := h.2 c
      refine g_iloadn (pc' := 25) d_248_24 rfl rfl ?_
      refine g_aloadn (pc' := 26) d_248_25 rfl rfl ?_
      obtain ⟨fs11, hw12, h⟩ := h
      obtain ⟨x13, hv14, h⟩ := h
      refine g_getf (pc' := 29) d_248_26 rfl st_248_20 hw12 hv14 ?_
      refine g_ic_le (pc' := 32) (pt := 36) d_248_29 (by decide) rfl (fun c => ?_) (fun c => ?_)
      · replace h := h.1 c
        refine g_aloadn (pc' := 37) d_248_36 rfl rfl ?_
        refine g_aloadn (pc' := 38) d_248_37 rfl rfl ?_
        obtain ⟨b15, hv16, h⟩ := h
        refine g_getf (pc' := 41) d_248_38 rfl st_248_13 hw12 hv16 ?_
        refine g_iloadn (pc' := 42) d_248_41 rfl rfl ?_
        refine g_iconst (pc' := 43) d_248_42 rfl ci_1 ?_
        refine g_iadd (pc' := 44) d_248_43 rfl ?_
        refine g_iloadn (pc' := 45) d_248_44 rfl rfl ?_
        obtain ⟨w17, hk18, h⟩ := h
        refine g_callV (pc' := 48) d_248_45 rfl st_248_103 na_190 ml_190 rfl rfl rfl rm_248_190 rfl rfl ow_190 hw12 hk18 ?_
        refine g_aloadn (pc' := 49) d_248_48 rfl rfl ?_
        refine g_aloadn (pc' := 50) d_248_49 rfl rfl ?_
        obtain ⟨fs19, hw20, h⟩ := h
        obtain ⟨b21, hv22, h⟩ := h
        refine g_getf (pc' := 53) d_248_50 rfl st_248_81 hw20 hv22 ?_
        refine g_iconst (pc' := 54) d_248_53 rfl ci_0 ?_
        refine g_aloadn (pc' := 55) d_248_54 rfl rfl ?_
        obtain ⟨x23, hv24, h⟩ := h
        refine g_getf (pc' := 58) d_248_55 rfl st_248_107 hw20 hv24 ?_
        refine g_aloadn (pc' := 59) d_248_58 rfl rfl ?_
        obtain ⟨x25, hv26, h⟩ := h
        refine g_getf (pc' := 62) d_248_59 rfl st_248_111 hw20 hv26 ?_
        refine g_ldc2 (pc' := 65) d_248_62 rfl st_248_125 cL_7420738134810 ?_
        obtain ⟨w27, hk28, h⟩ := h
        refine g_callV (pc' := 68) d_248_65 rfl st_248_134 na_194 ml_194 rfl rfl rfl rm_248_194 rfl rfl ow_194 hw20 hk28 ?_
        refine g_aloadn (pc' := 69) d_248_68 rfl rfl ?_
        obtain ⟨fs29, hw30, h⟩ := h
        obtain ⟨b31, hv32, h⟩ := h
        refine g_getf (pc' := 72) d_248_69 rfl st_248_81 hw30 hv32 ?_
        refine g_iloadn (pc' := 73) d_248_72 rfl rfl ?_
        obtain ⟨n33, f34, hw35, h⟩ := h
        obtain ⟨hc36, h⟩ := h
        refine g_lald (pc' := 74) d_248_73 rfl hw35 hc36 ?_
        exact g_lret d_248_74 rt_248 h
      · replace h := h.2 c
        refine g_ldc2 (pc' := 35) d_248_32 rfl st_248_166 cL_m9223372036854775808 ?_
        exact g_lret d_248_35 rt_248 h
-- 249 BernoulliWaysModel.broken(I)I
theorem S_249_0 {a0 : Nat} {i1 : Int32} {w : xW} {r : Option Value × xW} (h : ∃ fs1, w[a0]? = some (.inr (12, fs1)) ∧ (0 < fs1.length) ∧ ∀ w4, w4 = w.set a0 (.inr (12, fs1.set 0 (.int (0 : Int32)))) → ∃ r7 w5, xCall 199 [.int i1, .int (0 : Int32), .int (1 : Int32)] w4 (some (.int r7), w5) ∧ (¬ r7 = 0 → xGo 249 24 [some (.ref a0), some (.int i1), some (.int (-2 : Int32)), some (.int (0 : Int32)), some (.int (1 : Int32))] [] w5 r) ∧ (¬ (¬ r7 = 0) → r = (some (.int (-1 : Int32)), w5))) : xGo 249 0 [some (.ref a0), some (.int i1), none, none, none] [] w r := by
  refine g_aloadn (pc' := 1) d_249_0 rfl rfl ?_
  refine g_iconst (pc' := 2) d_249_1 rfl ci_0 ?_
  obtain ⟨fs1, hw2, h⟩ := h
  obtain ⟨hc3, h⟩ := h
  have h := h _ rfl
  refine g_putf (pc' := 5) d_249_2 rfl st_249_118 ft_12_0 ff_12_0 rfl (Or.inl rfl) hw2 hc3 ?_
  refine g_iloadn (pc' := 6) d_249_5 rfl rfl ?_
  refine g_iconst (pc' := 7) d_249_6 rfl ci_0 ?_
  refine g_iconst (pc' := 8) d_249_7 rfl ci_1 ?_
  obtain ⟨r7, w5, hk6, h⟩ := h
  refine g_callS (pc' := 11) d_249_8 rfl st_249_137 (Or.inl rfl) na_199 ml_199 rfl rfl rfl rm_249_199 rfl rfl hk6 ?_
  refine g_if_ne (pc' := 14) (pt := 16) d_249_11 (by decide) rfl (fun c => ?_) (fun c => ?_)
  · replace h := h.1 c
    refine g_bipush (pc' := 18) d_249_16 rfl cb_m2 ?_
    refine g_istoren (pc' := 19) (l' := [some (.ref a0), some (.int i1), some (.int (-2 : Int32)), none, none]) d_249_18 rfl ml_249 rfl rfl ?_
    refine g_iconst (pc' := 20) d_249_19 rfl ci_0 ?_
    refine g_istoren (pc' := 21) (l' := [some (.ref a0), some (.int i1), some (.int (-2 : Int32)), some (.int (0 : Int32)), none]) d_249_20 rfl ml_249 rfl rfl ?_
    refine g_iconst (pc' := 22) d_249_21 rfl ci_1 ?_
    refine g_istore (pc' := 24) (l' := [some (.ref a0), some (.int i1), some (.int (-2 : Int32)), some (.int (0 : Int32)), some (.int (1 : Int32))]) d_249_22 rfl ml_249 rfl rfl ?_
    exact h
  · replace h := h.2 c
    refine g_iconst (pc' := 15) d_249_14 rfl ci_m1 ?_
    exact g_iret d_249_15 rt_249 h
theorem S_249_24 {a0 : Nat} {i1 : Int32} {i2 : Int32} {i3 : Int32} {i4 : Int32} {w : xW} {r : Option Value × xW} (h : ∃ fs1, w[a0]? = some (.inr (12, fs1)) ∧ ∃ x3, fs1[4]? = some (.int x3) ∧ (x3 < i4 → (¬ i1 = 0 → r = (some (.int i3), w)) ∧ (¬ (¬ i1 = 0) → r = (some (.int i2), w))) ∧ (¬ (x3 < i4) → ∃ r7 w5, xCall 211 [.ref a0, .int i4] w (some (.int r7), w5) ∧ (¬ r7 = 0 → (0 ≤ i2 → ∀ v8 : Int32, v8 = i3 + (1 : Int32) → ∀ v9 : Int32, v9 = i4 + (1 : Int32) → xGo 249 24 [some (.ref a0), some (.int i1), some (.int i2), some (.int v8), some (.int v9)] [] w5 r) ∧ (¬ (0 ≤ i2) → ∀ v10 : Int32, v10 = i3 + (1 : Int32) → ∀ v11 : Int32, v11 = i4 + (1 : Int32) → xGo 249 24 [some (.ref a0), some (.int i1), some (.int i4), some (.int v10), some (.int v11)] [] w5 r)) ∧ (¬ (¬ r7 = 0) → ∀ v12 : Int32, v12 = i4 + (1 : Int32) → xGo 249 24 [some (.ref a0), some (.int i1), some (.int i2), some (.int i3), some (.int v12)] [] w5 r))) : xGo 249 24 [some (.ref a0), some (.int i1), some (.int i2), some (.int i3), some (.int i4)] [] w r := by
  refine g_iload (pc' := 26) d_249_24 rfl rfl ?_
  refine g_aloadn (pc' := 27) d_249_26 rfl rfl ?_
  obtain ⟨fs1, hw2, h⟩ := h
  obtain ⟨x3, hv4, h⟩ := h
  refine g_getf (pc' := 30) d_249_27 rfl st_249_20 hw2 hv4 ?_
  refine g_ic_gt (pc' := 33) (pt := 65) d_249_30 (by decide) rfl (fun c => ?_) (fun c => ?_)
  · replace h := h.1 c
    refine g_iloadn (pc' := 66) d_249_65 rfl rfl ?_
    refine g_if_ne (pc' := 69) (pt := 73) d_249_66 (by decide) rfl (fun c => ?_) (fun c => ?_)
    · replace h := h.1 c
      refine g_iloadn (pc' := 74) d_249_73 rfl rfl ?_
      exact g_iret d_249_74 rt_249 h
    · replace h := h.2 c
      refine g_iloadn (pc' := 70) d_249_69 rfl rfl ?_
      refine g_goto (pt := 74) d_249_70 (by decide) ?_
      exact g_iret d_249_74 rt_249 h
  · replace h := h.2 c
    refine g_aloadn (pc' := 34) d_249_33 rfl rfl ?_
    refine g_iload (pc' := 36) d_249_34 rfl rfl ?_
    obtain ⟨r7, w5, hk6, h⟩ := h
    refine g_callV (pc' := 39) d_249_36 rfl st_249_231 na_211 ml_211 rfl rfl rfl rm_249_211 rfl rfl ow_211 hw2 hk6 ?_
    refine g_if_ne (pc' := 42) (pt := 45) d_249_39 (by decide) rfl (fun c => ?_) (fun c => ?_)
    · replace h := h.1 c
      refine g_iloadn (pc' := 46) d_249_45 rfl rfl ?_
      refine g_if_ge (pc' := 49) (pt := 54) d_249_46 (by decide) rfl (fun c => ?_) (fun c => ?_)
      · replace h := h.1 c
        refine g_iloadn (pc' := 55) d_249_54 rfl rfl ?_
        refine g_istoren (pc' := 56) (l' := [some (.ref a0), some (.int i1), some (.int i2), some (.int i3), some (.int i4)]) d_249_55 rfl ml_249 rfl rfl ?_
        have h := h _ rfl
        refine g_iinc (pc' := 59) (l' := [some (.ref a0), some (.int i1), some (.int i2), some (.int (i3 + (1 : Int32))), some (.int i4)]) d_249_56 rfl rfl ci_1 ml_249 rfl rfl ?_
        have h := h _ rfl
        refine g_iinc (pc' := 62) (l' := [some (.ref a0), some (.int i1), some (.int i2), some (.int (i3 + (1 : Int32))), some (.int (i4 + (1 : Int32)))]) d_249_59 rfl rfl ci_1 ml_249 rfl rfl ?_
        refine g_goto (pt := 24) d_249_62 (by decide) ?_
        exact h
      · replace h := h.2 c
        refine g_iload (pc' := 51) d_249_49 rfl rfl ?_
        refine g_goto (pt := 55) d_249_51 (by decide) ?_
        refine g_istoren (pc' := 56) (l' := [some (.ref a0), some (.int i1), some (.int i4), some (.int i3), some (.int i4)]) d_249_55 rfl ml_249 rfl rfl ?_
        have h := h _ rfl
        refine g_iinc (pc' := 59) (l' := [some (.ref a0), some (.int i1), some (.int i4), some (.int (i3 + (1 : Int32))), some (.int i4)]) d_249_56 rfl rfl ci_1 ml_249 rfl rfl ?_
        have h := h _ rfl
        refine g_iinc (pc' := 62) (l' := [some (.ref a0), some (.int i1), some (.int i4), some (.int (i3 + (1 : Int32))), some (.int (i4 + (1 : Int32)))]) d_249_59 rfl rfl ci_1 ml_249 rfl rfl ?_
        refine g_goto (pt := 24) d_249_62 (by decide) ?_
        exact h
    · replace h := h.2 c
      refine g_goto (pt := 59) d_249_42 (by decide) ?_
      have h := h _ rfl
      refine g_iinc (pc' := 62) (l' := [some (.ref a0), some (.int i1), some (.int i2), some (.int i3), some (.int (i4 + (1 : Int32)))]) d_249_59 rfl rfl ci_1 ml_249 rfl rfl ?_
      refine g_goto (pt := 24) d_249_62 (by decide) ?_
      exact h
-- 250 BernoulliWaysModel.byWay(III)I
theorem S_250_0 {a0 : Nat} {i1 : Int32} {i2 : Int32} {i3 : Int32} {w : xW} {r : Option Value × xW} (h : ∃ fs1, w[a0]? = some (.inr (12, fs1)) ∧ (0 < fs1.length) ∧ ∀ w4, w4 = w.set a0 (.inr (12, fs1.set 0 (.int (0 : Int32)))) → ∃ r7 w5, xCall 228 [.ref a0, .int i1] w4 (some (.int r7), w5) ∧ (r7 = 0 → r = (some (.int (-1 : Int32)), w5)) ∧ (¬ (r7 = 0) → ∃ r10 w8, xCall 199 [.int i2, .int (0 : Int32), .int (2 : Int32)] w5 (some (.int r10), w8) ∧ (r10 = 0 → r = (some (.int (-1 : Int32)), w8)) ∧ (¬ (r10 = 0) → ∃ r13 w11, xCall 199 [.int i3, .int (0 : Int32), .int (i1 - (2 : Int32))] w8 (some (.int r13), w11) ∧ (¬ r13 = 0 → ∃ fs14, w11[a0]? = some (.inr (12, fs14)) ∧ ∃ w16, xCall 251 [.ref a0, .int i1, .int i2] w11 (none, w16) ∧ ∃ fs18, w16[a0]? = some (.inr (12, fs18)) ∧ ∃ b20, fs18[18]? = some (.ref b20) ∧ ∃ n22 f23, w16[b20]? = some (.inl (.inl (n22, f23))) ∧ (¬ (i3 < 0 ∨ n22 ≤ i3.toNatClampNeg)) ∧ r = (some (.int (f23 i3.toNatClampNeg)), w16)) ∧ (¬ (¬ r13 = 0) → r = (some (.int (-1 : Int32)), w11))))) : xGo 250 0 [some (.ref a0), some (.int i1), some (.int i2), some (.int i3)] [] w r := by
  refine g_aloadn (pc' := 1) d_250_0 rfl rfl ?_
  refine g_iconst (pc' := 2) d_250_1 rfl ci_0 ?_
  obtain ⟨fs1, hw2, h⟩ := h
  obtain ⟨hc3, h⟩ := h
  have h := h _ rfl
  refine g_putf (pc' := 5) d_250_2 rfl st_250_118 ft_12_0 ff_12_0 rfl (Or.inl rfl) hw2 hc3 ?_
  refine g_aloadn (pc' := 6) d_250_5 rfl rfl ?_
  refine g_iloadn (pc' := 7) d_250_6 rfl rfl ?_
  obtain ⟨r7, w5, hk6, h⟩ := h
  refine g_callV (pc' := 10) d_250_7 rfl st_250_185 na_228 ml_228 rfl rfl rfl rm_250_228 rfl rfl ow_228 (x_gss hw2) hk6 ?_
  refine g_if_eq (pc' := 13) (pt := 33) d_250_10 (by decide) rfl (fun c => ?_) (fun c => ?_)
  · replace h := h.1 c
    refine g_iconst (pc' := 34) d_250_33 rfl ci_m1 ?_
    exact g_iret d_250_34 rt_250 h
  · replace h := h.2 c
    refine g_iloadn (pc' := 14) d_250_13 rfl rfl ?_
    refine g_iconst (pc' := 15) d_250_14 rfl ci_0 ?_
    refine g_iconst (pc' := 16) d_250_15 rfl ci_2 ?_
    obtain ⟨r10, w8, hk9, h⟩ := h
    refine g_callS (pc' := 19) d_250_16 rfl st_250_137 (Or.inl rfl) na_199 ml_199 rfl rfl rfl rm_250_199 rfl rfl hk9 ?_
    refine g_if_eq (pc' := 22) (pt := 33) d_250_19 (by decide) rfl (fun c => ?_) (fun c => ?_)
    · replace h := h.1 c
      refine g_iconst (pc' := 34) d_250_33 rfl ci_m1 ?_
      exact g_iret d_250_34 rt_250 h
    · replace h := h.2 c
      refine g_iloadn (pc' := 23) d_250_22 rfl rfl ?_
      refine g_iconst (pc' := 24) d_250_23 rfl ci_0 ?_
      refine g_iloadn (pc' := 25) d_250_24 rfl rfl ?_
      refine g_iconst (pc' := 26) d_250_25 rfl ci_2 ?_
      refine g_isub (pc' := 27) d_250_26 rfl ?_
      obtain ⟨r13, w11, hk12, h⟩ := h
      refine g_callS (pc' := 30) d_250_27 rfl st_250_137 (Or.inl rfl) na_199 ml_199 rfl rfl rfl rm_250_199 rfl rfl hk12 ?_
      refine g_if_ne (pc' := 33) (pt := 35) d_250_30 (by decide) rfl (fun c => ?_) (fun c => ?_)
      · replace h := h.1 c
        refine g_aloadn (pc' := 36) d_250_35 rfl rfl ?_
        refine g_iloadn (pc' := 37) d_250_36 rfl rfl ?_
        refine g_iloadn (pc' := 38) d_250_37 rfl rfl ?_
        obtain ⟨fs14, hw15, h⟩ := h
        obtain ⟨w16, hk17, h⟩ := h
        refine g_callV (pc' := 41) d_250_38 rfl st_250_271 na_251 ml_251 rfl rfl rfl rm_250_251 rfl rfl ow_251 hw15 hk17 ?_
        refine g_aloadn (pc' := 42) d_250_41 rfl rfl ?_
        obtain ⟨fs18, hw19, h⟩ := h
        obtain ⟨b20, hv21, h⟩ := h
        refine g_getf (pc' := 45) d_250_42 rfl st_250_48 hw19 hv21 ?_
        refine g_iloadn (pc' := 46) d_250_45 rfl rfl ?_
        obtain ⟨n22, f23, hw24, h⟩ := h
        obtain ⟨hc25, h⟩ := h
        refine g_iald (pc' := 47) d_250_46 rfl hw24 hc25 ?_
        exact g_iret d_250_47 rt_250 h
      · replace h := h.2 c
        refine g_iconst (pc' := 34) d_250_33 rfl ci_m1 ?_
        exact g_iret d_250_34 rt_250 h
-- 251 BernoulliWaysModel.laysWay(II)V
theorem S_251_0 {a0 : Nat} {i1 : Int32} {i2 : Int32} {w : xW} {r : Option Value × xW} (h : (¬ i2 = 0 → (¬ i2 = (1 : Int32) → xGo 251 27 [some (.ref a0), some (.int i1), some (.int i2), some (.int (0 : Int32))] [] w r) ∧ (¬ (¬ i2 = (1 : Int32)) → ∃ fs1, w[a0]? = some (.inr (12, fs1)) ∧ ∃ w3, xCall 254 [.ref a0, .int i1] w (none, w3) ∧ r = (none, w3))) ∧ (¬ (¬ i2 = 0) → ∃ fs5, w[a0]? = some (.inr (12, fs5)) ∧ ∃ w7, xCall 252 [.ref a0, .int i1] w (none, w7) ∧ r = (none, w7))) : xGo 251 0 [some (.ref a0), some (.int i1), some (.int i2), none] [] w r := by
  refine g_iloadn (pc' := 1) d_251_0 rfl rfl ?_
  refine g_if_ne (pc' := 4) (pt := 12) d_251_1 (by decide) rfl (fun c => ?_) (fun c => ?_)
  · replace h := h.1 c
    refine g_iloadn (pc' := 13) d_251_12 rfl rfl ?_
    refine g_iconst (pc' := 14) d_251_13 rfl ci_1 ?_
    refine g_ic_ne (pc' := 17) (pt := 25) d_251_14 (by decide) rfl (fun c => ?_) (fun c => ?_)
    · replace h := h.1 c
      refine g_iconst (pc' := 26) d_251_25 rfl ci_0 ?_
      refine g_istoren (pc' := 27) (l' := [some (.ref a0), some (.int i1), some (.int i2), some (.int (0 : Int32))]) d_251_26 rfl ml_251 rfl rfl ?_
      exact h
    · replace h := h.2 c
      refine g_aloadn (pc' := 18) d_251_17 rfl rfl ?_
      refine g_iloadn (pc' := 19) d_251_18 rfl rfl ?_
      obtain ⟨fs1, hw2, h⟩ := h
      obtain ⟨w3, hk4, h⟩ := h
      refine g_callV (pc' := 22) d_251_19 rfl st_251_261 na_254 ml_254 rfl rfl rfl rm_251_254 rfl rfl ow_254 hw2 hk4 ?_
      refine g_goto (pt := 88) d_251_22 (by decide) ?_
      exact g_vret d_251_88 rt_251 h
  · replace h := h.2 c
    refine g_aloadn (pc' := 5) d_251_4 rfl rfl ?_
    refine g_iloadn (pc' := 6) d_251_5 rfl rfl ?_
    obtain ⟨fs5, hw6, h⟩ := h
    obtain ⟨w7, hk8, h⟩ := h
    refine g_callV (pc' := 9) d_251_6 rfl st_251_257 na_252 ml_252 rfl rfl rfl rm_251_252 rfl rfl ow_252 hw6 hk8 ?_
    refine g_goto (pt := 88) d_251_9 (by decide) ?_
    exact g_vret d_251_88 rt_251 h
theorem S_251_27 {a0 : Nat} {i1 : Int32} {i2 : Int32} {i3 : Int32} {w : xW} {r : Option Value × xW} (h : ((i1 - (2 : Int32)) < i3 → r = (none, w)) ∧ (¬ ((i1 - (2 : Int32)) < i3) → ∃ fs1, w[a0]? = some (.inr (12, fs1)) ∧ ∃ b3, fs1[18]? = some (.ref b3) ∧ (¬ i3 = 0 → (¬ i3 = (1 : Int32) → (¬ (irem i3 (2 : Int32)) = (1 : Int32) → ∃ r7 w5, xCall 255 [.int i3, .int i1, .long ((i1 * i1).toInt64)] w (some (.long r7), w5) ∧ ∃ n8 f9, w5[b3]? = some (.inl (.inl (n8, f9))) ∧ ∀ v11 : Int32, v11 = (r7.toInt32) → (¬ (i3 < 0 ∨ n8 ≤ i3.toNatClampNeg)) ∧ ∀ w13, w13 = w5.set b3 (.inl (.inl (n8, (upd f9 i3.toNatClampNeg v11)))) → ∀ v14 : Int32, v14 = i3 + (1 : Int32) → xGo 251 27 [some (.ref a0), some (.int i1), some (.int i2), some (.int v14)] [] w13 r) ∧ (¬ (¬ (irem i3 (2 : Int32)) = (1 : Int32)) → ∃ n15 f16, w[b3]? = some (.inl (.inl (n15, f16))) ∧ (¬ (i3 < 0 ∨ n15 ≤ i3.toNatClampNeg)) ∧ ∀ w19, w19 = w.set b3 (.inl (.inl (n15, (upd f16 i3.toNatClampNeg (0 : Int32))))) → ∀ v20 : Int32, v20 = i3 + (1 : Int32) → xGo 251 27 [some (.ref a0), some (.int i1), some (.int i2), some (.int v20)] [] w19 r)) ∧ (¬ (¬ i3 = (1 : Int32)) → ∃ n21 f22, w[b3]? = some (.inl (.inl (n21, f22))) ∧ ∀ v24 : Int32, v24 = ((i1 - (1 : Int32)) / (2 : Int32)) → (¬ (i3 < 0 ∨ n21 ≤ i3.toNatClampNeg)) ∧ ∀ w26, w26 = w.set b3 (.inl (.inl (n21, (upd f22 i3.toNatClampNeg v24)))) → ∀ v27 : Int32, v27 = i3 + (1 : Int32) → xGo 251 27 [some (.ref a0), some (.int i1), some (.int i2), some (.int v27)] [] w26 r)) ∧ (¬ (¬ i3 = 0) → ∃ n28 f29, w[b3]? = some (.inl (.inl (n28, f29))) ∧ (¬ (i3 < 0 ∨ n28 ≤ i3.toNatClampNeg)) ∧ ∀ w32, w32 = w.set b3 (.inl (.inl (n28, (upd f29 i3.toNatClampNeg (1 : Int32))))) → ∀ v33 : Int32, v33 = i3 + (1 : Int32) → xGo 251 27 [some (.ref a0), some (.int i1), some (.int i2), some (.int v33)] [] w32 r))) : xGo 251 27 [some (.ref a0), some (.int i1), some (.int i2), some (.int i3)] [] w r := by
  refine g_iloadn (pc' := 28) d_251_27 rfl rfl ?_
  refine g_iloadn (pc' := 29) d_251_28 rfl rfl ?_
  refine g_iconst (pc' := 30) d_251_29 rfl ci_2 ?_
  refine g_isub (pc' := 31) d_251_30 rfl ?_
  refine g_ic_gt (pc' := 34) (pt := 88) d_251_31 (by decide) rfl (fun c => ?_) (fun c => ?_)
  · replace h := h.1 c
    exact g_vret d_251_88 rt_251 h
  · replace h := h.2 c
    refine g_aloadn (pc' := 35) d_251_34 rfl rfl ?_
    obtain ⟨fs1, hw2, h⟩ := h
    obtain ⟨b3, hv4, h⟩ := h
    refine g_getf (pc' := 38) d_251_35 rfl st_251_48 hw2 hv4 ?_
    refine g_iloadn (pc' := 39) d_251_38 rfl rfl ?_
    refine g_iloadn (pc' := 40) d_251_39 rfl rfl ?_
    refine g_if_ne (pc' := 43) (pt := 47) d_251_40 (by decide) rfl (fun c => ?_) (fun c => ?_)
    · replace h := h.1 c
      refine g_iloadn (pc' := 48) d_251_47 rfl rfl ?_
      refine g_iconst (pc' := 49) d_251_48 rfl ci_1 ?_
      refine g_ic_ne (pc' := 52) (pt := 60) d_251_49 (by decide) rfl (fun c => ?_) (fun c => ?_)
      · replace h := h.1 c
        refine g_iloadn (pc' := 61) d_251_60 rfl rfl ?_
        refine g_iconst (pc' := 62) d_251_61 rfl ci_2 ?_
        refine g_irem (pc' := 63) d_251_62 rfl (by decide) ?_
        refine g_iconst (pc' := 64) d_251_63 rfl ci_1 ?_
        refine g_ic_ne (pc' := 67) (pt := 71) d_251_64 (by decide) rfl (fun c => ?_) (fun c => ?_)
        · replace h := h.1 c
          refine g_iloadn (pc' := 72) d_251_71 rfl rfl ?_
          refine g_iloadn (pc' := 73) d_251_72 rfl rfl ?_
          refine g_iloadn (pc' := 74) d_251_73 rfl rfl ?_
          refine g_iloadn (pc' := 75) d_251_74 rfl rfl ?_
          refine g_imul (pc' := 76) d_251_75 rfl ?_
          refine g_i2l (pc' := 77) d_251_76 rfl ?_
          obtain ⟨r7, w5, hk6, h⟩ := h
          refine g_callS (pc' := 80) d_251_77 rfl st_251_264 (Or.inl rfl) na_255 ml_255 rfl rfl rfl rm_251_255 rfl rfl hk6 ?_
          refine g_l2i (pc' := 81) d_251_80 rfl ?_
          obtain ⟨n8, f9, hw10, h⟩ := h
          have h := h _ rfl
          obtain ⟨hc12, h⟩ := h
          have h := h _ rfl
          refine g_iast (pc' := 82) d_251_81 rfl hw10 hc12 ?_
          have h := h _ rfl
          refine g_iinc (pc' := 85) (l' := [some (.ref a0), some (.int i1), some (.int i2), some (.int (i3 + (1 : Int32)))]) d_251_82 rfl rfl ci_1 ml_251 rfl rfl ?_
          refine g_goto (pt := 27) d_251_85 (by decide) ?_
          exact h
        · replace h := h.2 c
          refine g_iconst (pc' := 68) d_251_67 rfl ci_0 ?_
          refine g_goto (pt := 81) d_251_68 (by decide) ?_
          obtain ⟨n15, f16, hw17, h⟩ := h
          obtain ⟨hc18, h⟩ := h
          have h := h _ rfl
          refine g_iast (pc' := 82) d_251_81 rfl hw17 hc18 ?_
          have h := h _ rfl
          refine g_iinc (pc' := 85) (l' := [some (.ref a0), some (.int i1), some (.int i2), some (.int (i3 + (1 : Int32)))]) d_251_82 rfl rfl ci_1 ml_251 rfl rfl ?_
          refine g_goto (pt := 27) d_251_85 (by decide) ?_
          exact h
      · replace h := h.2 c
        refine g_iloadn (pc' := 53) d_251_52 rfl rfl ?_
        refine g_iconst (pc' := 54) d_251_53 rfl ci_1 ?_
        refine g_isub (pc' := 55) d_251_54 rfl ?_
        refine g_iconst (pc' := 56) d_251_55 rfl ci_2 ?_
        refine g_idiv (pc' := 57) d_251_56 rfl (by decide) ?_
        refine g_goto (pt := 81) d_251_57 (by decide) ?_
        obtain ⟨n21, f22, hw23, h⟩ := h
        have h := h _ rfl
        obtain ⟨hc25, h⟩ := h
        have h := h _ rfl
        refine g_iast (pc' := 82) d_251_81 rfl hw23 hc25 ?_
        have h := h _ rfl
        refine g_iinc (pc' := 85) (l' := [some (.ref a0), some (.int i1), some (.int i2), some (.int (i3 + (1 : Int32)))]) d_251_82 rfl rfl ci_1 ml_251 rfl rfl ?_
        refine g_goto (pt := 27) d_251_85 (by decide) ?_
        exact h
    · replace h := h.2 c
      refine g_iconst (pc' := 44) d_251_43 rfl ci_1 ?_
      refine g_goto (pt := 81) d_251_44 (by decide) ?_
      obtain ⟨n28, f29, hw30, h⟩ := h
      obtain ⟨hc31, h⟩ := h
      have h := h _ rfl
      refine g_iast (pc' := 82) d_251_81 rfl hw30 hc31 ?_
      have h := h _ rfl
      refine g_iinc (pc' := 85) (l' := [some (.ref a0), some (.int i1), some (.int i2), some (.int (i3 + (1 : Int32)))]) d_251_82 rfl rfl ci_1 ml_251 rfl rfl ?_
      refine g_goto (pt := 27) d_251_85 (by decide) ?_
      exact h
-- 252 BernoulliWaysModel.laysAll(I)V
theorem S_252_0 {a0 : Nat} {i1 : Int32} {w : xW} {r : Option Value × xW} (h : ∃ fs1, w[a0]? = some (.inr (12, fs1)) ∧ ∃ w3, xCall 253 [.ref a0, .int i1] w (none, w3) ∧ xGo 252 7 [some (.ref a0), some (.int i1), some (.int (0 : Int32))] [] w3 r) : xGo 252 0 [some (.ref a0), some (.int i1), none] [] w r := by
  refine g_aloadn (pc' := 1) d_252_0 rfl rfl ?_
  refine g_iloadn (pc' := 2) d_252_1 rfl rfl ?_
  obtain ⟨fs1, hw2, h⟩ := h
  obtain ⟨w3, hk4, h⟩ := h
  refine g_callV (pc' := 5) d_252_2 rfl st_252_268 na_253 ml_253 rfl rfl rfl rm_252_253 rfl rfl ow_253 hw2 hk4 ?_
  refine g_iconst (pc' := 6) d_252_5 rfl ci_0 ?_
  refine g_istoren (pc' := 7) (l' := [some (.ref a0), some (.int i1), some (.int (0 : Int32))]) d_252_6 rfl ml_252 rfl rfl ?_
  exact h
theorem S_252_7 {a0 : Nat} {i1 : Int32} {i2 : Int32} {w : xW} {r : Option Value × xW} (h : ((i1 - (3 : Int32)) < i2 → ∃ fs1, w[a0]? = some (.inr (12, fs1)) ∧ ∃ b3, fs1[18]? = some (.ref b3) ∧ (¬ i1 = (3 : Int32) → ∃ n5 f6, w[b3]? = some (.inl (.inl (n5, f6))) ∧ (¬ ((i1 - (2 : Int32)) < 0 ∨ n5 ≤ (i1 - (2 : Int32)).toNatClampNeg)) ∧ ∀ w9, w9 = w.set b3 (.inl (.inl (n5, (upd f6 (i1 - (2 : Int32)).toNatClampNeg (0 : Int32))))) → r = (none, w9)) ∧ (¬ (¬ i1 = (3 : Int32)) → ∃ n10 f11, w[b3]? = some (.inl (.inl (n10, f11))) ∧ (¬ ((i1 - (2 : Int32)) < 0 ∨ n10 ≤ (i1 - (2 : Int32)).toNatClampNeg)) ∧ ∀ w14, w14 = w.set b3 (.inl (.inl (n10, (upd f11 (i1 - (2 : Int32)).toNatClampNeg (1 : Int32))))) → r = (none, w14))) ∧ (¬ ((i1 - (3 : Int32)) < i2) → ∃ fs15, w[a0]? = some (.inr (12, fs15)) ∧ ∃ b17, fs15[18]? = some (.ref b17) ∧ ∃ b19, fs15[16]? = some (.ref b19) ∧ ∃ n21 f22, w[b19]? = some (.inl (.inl (n21, f22))) ∧ (¬ (i2 < 0 ∨ n21 ≤ i2.toNatClampNeg)) ∧ ∃ n25 f26, w[b17]? = some (.inl (.inl (n25, f26))) ∧ ∀ v28 : Int32, v28 = (f22 i2.toNatClampNeg) → (¬ (i2 < 0 ∨ n25 ≤ i2.toNatClampNeg)) ∧ ∀ w30, w30 = w.set b17 (.inl (.inl (n25, (upd f26 i2.toNatClampNeg v28)))) → ∀ v31 : Int32, v31 = i2 + (1 : Int32) → xGo 252 7 [some (.ref a0), some (.int i1), some (.int v31)] [] w30 r)) : xGo 252 7 [some (.ref a0), some (.int i1), some (.int i2)] [] w r := by
  refine g_iloadn (pc' := 8) d_252_7 rfl rfl ?_
  refine g_iloadn (pc' := 9) d_252_8 rfl rfl ?_
  refine g_iconst (pc' := 10) d_252_9 rfl ci_3 ?_
  refine g_isub (pc' := 11) d_252_10 rfl ?_
  refine g_ic_gt (pc' := 14) (pt := 32) d_252_11 (by decide) rfl (fun c => ?_) (fun c => ?_)
  · replace h := h.1 c
    refine g_aloadn (pc' := 33) d_252_32 rfl rfl ?_
    obtain ⟨fs1, hw2, h⟩ := h
    obtain ⟨b3, hv4, h⟩ := h
    refine g_getf (pc' := 36) d_252_33 rfl st_252_48 hw2 hv4 ?_
    refine g_iloadn (pc' := 37) d_252_36 rfl rfl ?_
    refine g_iconst (pc' := 38) d_252_37 rfl ci_2 ?_
    refine g_isub (pc' := 39) d_252_38 rfl ?_
    refine g_iloadn (pc' := 40) d_252_39 rfl rfl ?_
    refine g_iconst (pc' := 41) d_252_40 rfl ci_3 ?_
    refine g_ic_ne (pc' := 44) (pt := 48) d_252_41 (by decide) rfl (fun c => ?_) (fun c => ?_)
    · replace h := h.1 c
      refine g_iconst (pc' := 49) d_252_48 rfl ci_0 ?_
      obtain ⟨n5, f6, hw7, h⟩ := h
      obtain ⟨hc8, h⟩ := h
      have h := h _ rfl
      refine g_iast (pc' := 50) d_252_49 rfl hw7 hc8 ?_
      exact g_vret d_252_50 rt_252 h
    · replace h := h.2 c
      refine g_iconst (pc' := 45) d_252_44 rfl ci_1 ?_
      refine g_goto (pt := 49) d_252_45 (by decide) ?_
      obtain ⟨n10, f11, hw12, h⟩ := h
      obtain ⟨hc13, h⟩ := h
      have h := h _ rfl
      refine g_iast (pc' := 50) d_252_49 rfl hw12 hc13 ?_
      exact g_vret d_252_50 rt_252 h
  · replace h := h.2 c
    refine g_aloadn (pc' := 15) d_252_14 rfl rfl ?_
    obtain ⟨fs15, hw16, h⟩ := h
    obtain ⟨b17, hv18, h⟩ := h
    refine g_getf (pc' := 18) d_252_15 rfl st_252_48 hw16 hv18 ?_
    refine g_iloadn (pc' := 19) d_252_18 rfl rfl ?_
    refine g_aloadn (pc' := 20) d_252_19 rfl rfl ?_
    obtain ⟨b19, hv20, h⟩ := h
    refine g_getf (pc' := 23) d_252_20 rfl st_252_42 hw16 hv20 ?_
    refine g_iloadn (pc' := 24) d_252_23 rfl rfl ?_
    obtain ⟨n21, f22, hw23, h⟩ := h
    obtain ⟨hc24, h⟩ := h
    refine g_iald (pc' := 25) d_252_24 rfl hw23 hc24 ?_
    obtain ⟨n25, f26, hw27, h⟩ := h
    have h := h _ rfl
    obtain ⟨hc29, h⟩ := h
    have h := h _ rfl
    refine g_iast (pc' := 26) d_252_25 rfl hw27 hc29 ?_
    have h := h _ rfl
    refine g_iinc (pc' := 29) (l' := [some (.ref a0), some (.int i1), some (.int (i2 + (1 : Int32)))]) d_252_26 rfl rfl ci_1 ml_252 rfl rfl ?_
    refine g_goto (pt := 7) d_252_29 (by decide) ?_
    exact h
-- 253 BernoulliWaysModel.laysRests(I)V
theorem S_253_0 {a0 : Nat} {i1 : Int32} {w : xW} {r : Option Value × xW} (h : ∃ fs1, w[a0]? = some (.inr (12, fs1)) ∧ ∃ b3, fs1[16]? = some (.ref b3) ∧ ∃ n5 f6, w[b3]? = some (.inl (.inl (n5, f6))) ∧ (¬ ((0 : Int32) < 0 ∨ n5 ≤ (0 : Int32).toNatClampNeg)) ∧ ∀ w9, w9 = w.set b3 (.inl (.inl (n5, (upd f6 (0 : Int32).toNatClampNeg (1 : Int32))))) → xGo 253 9 [some (.ref a0), some (.int i1), some (.int (0 : Int32)), none, none] [] w9 r) : xGo 253 0 [some (.ref a0), some (.int i1), none, none, none] [] w r := by
  refine g_aloadn (pc' := 1) d_253_0 rfl rfl ?_
  obtain ⟨fs1, hw2, h⟩ := h
  obtain ⟨b3, hv4, h⟩ := h
  refine g_getf (pc' := 4) d_253_1 rfl st_253_42 hw2 hv4 ?_
  refine g_iconst (pc' := 5) d_253_4 rfl ci_0 ?_
  refine g_iconst (pc' := 6) d_253_5 rfl ci_1 ?_
  obtain ⟨n5, f6, hw7, h⟩ := h
  obtain ⟨hc8, h⟩ := h
  have h := h _ rfl
  refine g_iast (pc' := 7) d_253_6 rfl hw7 hc8 ?_
  refine g_iconst (pc' := 8) d_253_7 rfl ci_0 ?_
  refine g_istoren (pc' := 9) (l' := [some (.ref a0), some (.int i1), some (.int (0 : Int32)), none, none]) d_253_8 rfl ml_253 rfl rfl ?_
  exact h
theorem S_253_9 {a0 : Nat} {i1 : Int32} {i2 : Int32} {w : xW} {r : Option Value × xW} (h : ((200 : Int32) ≤ i2 → ∃ fs1, w[a0]? = some (.inr (12, fs1)) ∧ ∃ b3, fs1[17]? = some (.ref b3) ∧ ∃ n5 f6, w[b3]? = some (.inl (.inl (n5, f6))) ∧ (¬ ((1 : Int32) < 0 ∨ n5 ≤ (1 : Int32).toNatClampNeg)) ∧ ∀ w9, w9 = w.set b3 (.inl (.inl (n5, (upd f6 (1 : Int32).toNatClampNeg (1 : Int32))))) → xGo 253 46 [some (.ref a0), some (.int i1), some (.int (1 : Int32)), none, none] [] w9 r) ∧ (¬ ((200 : Int32) ≤ i2) → ∃ fs10, w[a0]? = some (.inr (12, fs10)) ∧ ∃ b12, fs10[17]? = some (.ref b12) ∧ (¬ i2 = 0 → ∃ n14 f15, w[b12]? = some (.inl (.inl (n14, f15))) ∧ (¬ (i2 < 0 ∨ n14 ≤ i2.toNatClampNeg)) ∧ ∀ w18, w18 = w.set b12 (.inl (.inl (n14, (upd f15 i2.toNatClampNeg (0 : Int32))))) → ∀ v19 : Int32, v19 = i2 + (1 : Int32) → xGo 253 9 [some (.ref a0), some (.int i1), some (.int v19), none, none] [] w18 r) ∧ (¬ (¬ i2 = 0) → ∃ n20 f21, w[b12]? = some (.inl (.inl (n20, f21))) ∧ (¬ (i2 < 0 ∨ n20 ≤ i2.toNatClampNeg)) ∧ ∀ w24, w24 = w.set b12 (.inl (.inl (n20, (upd f21 i2.toNatClampNeg (1 : Int32))))) → ∀ v25 : Int32, v25 = i2 + (1 : Int32) → xGo 253 9 [some (.ref a0), some (.int i1), some (.int v25), none, none] [] w24 r))) : xGo 253 9 [some (.ref a0), some (.int i1), some (.int i2), none, none] [] w r := by
  refine g_iloadn (pc' := 10) d_253_9 rfl rfl ?_
  refine g_sipush (pc' := 13) d_253_10 rfl cs_200 ?_
  refine g_ic_ge (pc' := 16) (pt := 37) d_253_13 (by decide) rfl (fun c => ?_) (fun c => ?_)
  · replace h := h.1 c
    refine g_aloadn (pc' := 38) d_253_37 rfl rfl ?_
    obtain ⟨fs1, hw2, h⟩ := h
    obtain ⟨b3, hv4, h⟩ := h
    refine g_getf (pc' := 41) d_253_38 rfl st_253_45 hw2 hv4 ?_
    refine g_iconst (pc' := 42) d_253_41 rfl ci_1 ?_
    refine g_iconst (pc' := 43) d_253_42 rfl ci_1 ?_
    obtain ⟨n5, f6, hw7, h⟩ := h
    obtain ⟨hc8, h⟩ := h
    have h := h _ rfl
    refine g_iast (pc' := 44) d_253_43 rfl hw7 hc8 ?_
    refine g_iconst (pc' := 45) d_253_44 rfl ci_1 ?_
    refine g_istoren (pc' := 46) (l' := [some (.ref a0), some (.int i1), some (.int (1 : Int32)), none, none]) d_253_45 rfl ml_253 rfl rfl ?_
    exact h
  · replace h := h.2 c
    refine g_aloadn (pc' := 17) d_253_16 rfl rfl ?_
    obtain ⟨fs10, hw11, h⟩ := h
    obtain ⟨b12, hv13, h⟩ := h
    refine g_getf (pc' := 20) d_253_17 rfl st_253_45 hw11 hv13 ?_
    refine g_iloadn (pc' := 21) d_253_20 rfl rfl ?_
    refine g_iloadn (pc' := 22) d_253_21 rfl rfl ?_
    refine g_if_ne (pc' := 25) (pt := 29) d_253_22 (by decide) rfl (fun c => ?_) (fun c => ?_)
    · replace h := h.1 c
      refine g_iconst (pc' := 30) d_253_29 rfl ci_0 ?_
      obtain ⟨n14, f15, hw16, h⟩ := h
      obtain ⟨hc17, h⟩ := h
      have h := h _ rfl
      refine g_iast (pc' := 31) d_253_30 rfl hw16 hc17 ?_
      have h := h _ rfl
      refine g_iinc (pc' := 34) (l' := [some (.ref a0), some (.int i1), some (.int (i2 + (1 : Int32))), none, none]) d_253_31 rfl rfl ci_1 ml_253 rfl rfl ?_
      refine g_goto (pt := 9) d_253_34 (by decide) ?_
      exact h
    · replace h := h.2 c
      refine g_iconst (pc' := 26) d_253_25 rfl ci_1 ?_
      refine g_goto (pt := 30) d_253_26 (by decide) ?_
      obtain ⟨n20, f21, hw22, h⟩ := h
      obtain ⟨hc23, h⟩ := h
      have h := h _ rfl
      refine g_iast (pc' := 31) d_253_30 rfl hw22 hc23 ?_
      have h := h _ rfl
      refine g_iinc (pc' := 34) (l' := [some (.ref a0), some (.int i1), some (.int (i2 + (1 : Int32))), none, none]) d_253_31 rfl rfl ci_1 ml_253 rfl rfl ?_
      refine g_goto (pt := 9) d_253_34 (by decide) ?_
      exact h
theorem S_253_46 {a0 : Nat} {i1 : Int32} {i2 : Int32} {w : xW} {r : Option Value × xW} (h : ((i1 - (3 : Int32)) < i2 → r = (none, w)) ∧ (¬ ((i1 - (3 : Int32)) < i2) → ∀ v1 : Int32, v1 = (i2 + (1 : Int32)) → xGo 253 57 [some (.ref a0), some (.int i1), some (.int i2), some (.int v1), none] [] w r)) : xGo 253 46 [some (.ref a0), some (.int i1), some (.int i2), none, none] [] w r := by
  refine g_iloadn (pc' := 47) d_253_46 rfl rfl ?_
  refine g_iloadn (pc' := 48) d_253_47 rfl rfl ?_
  refine g_iconst (pc' := 49) d_253_48 rfl ci_3 ?_
  refine g_isub (pc' := 50) d_253_49 rfl ?_
  refine g_ic_gt (pc' := 53) (pt := 158) d_253_50 (by decide) rfl (fun c => ?_) (fun c => ?_)
  · replace h := h.1 c
    exact g_vret d_253_158 rt_253 h
  · replace h := h.2 c
    refine g_iloadn (pc' := 54) d_253_53 rfl rfl ?_
    refine g_iconst (pc' := 55) d_253_54 rfl ci_1 ?_
    refine g_iadd (pc' := 56) d_253_55 rfl ?_
    have h := h _ rfl
    refine g_istoren (pc' := 57) (l' := [some (.ref a0), some (.int i1), some (.int i2), some (.int ((i2 + (1 : Int32)))), none]) d_253_56 rfl ml_253 rfl rfl ?_
    exact h
theorem S_253_57 {a0 : Nat} {i1 : Int32} {i2 : Int32} {i3 : Int32} {w : xW} {r : Option Value × xW} (h : (i3 ≤ 0 → xGo 253 95 [some (.ref a0), some (.int i1), some (.int i2), some (.int (0 : Int32)), some (.int (0 : Int32))] [] w r) ∧ (¬ (i3 ≤ 0) → ∃ fs1, w[a0]? = some (.inr (12, fs1)) ∧ ∃ b3, fs1[17]? = some (.ref b3) ∧ ∃ n5 f6, w[b3]? = some (.inl (.inl (n5, f6))) ∧ (¬ (i3 < 0 ∨ n5 ≤ i3.toNatClampNeg)) ∧ (¬ ((i3 - (1 : Int32)) < 0 ∨ n5 ≤ (i3 - (1 : Int32)).toNatClampNeg)) ∧ (¬ i1 = 0) ∧ ∀ v11 : Int32, v11 = (irem ((f6 i3.toNatClampNeg) + (f6 (i3 - (1 : Int32)).toNatClampNeg)) i1) → (¬ (i3 < 0 ∨ n5 ≤ i3.toNatClampNeg)) ∧ ∀ w13, w13 = w.set b3 (.inl (.inl (n5, (upd f6 i3.toNatClampNeg v11)))) → ∀ v14 : Int32, v14 = i3 + (-1 : Int32) → xGo 253 57 [some (.ref a0), some (.int i1), some (.int i2), some (.int v14), none] [] w13 r)) : xGo 253 57 [some (.ref a0), some (.int i1), some (.int i2), some (.int i3), none] [] w r := by
  refine g_iloadn (pc' := 58) d_253_57 rfl rfl ?_
  refine g_if_le (pc' := 61) (pt := 90) d_253_58 (by decide) rfl (fun c => ?_) (fun c => ?_)
  · replace h := h.1 c
    refine g_iconst (pc' := 91) d_253_90 rfl ci_0 ?_
    refine g_istoren (pc' := 92) (l' := [some (.ref a0), some (.int i1), some (.int i2), some (.int (0 : Int32)), none]) d_253_91 rfl ml_253 rfl rfl ?_
    refine g_iconst (pc' := 93) d_253_92 rfl ci_0 ?_
    refine g_istore (pc' := 95) (l' := [some (.ref a0), some (.int i1), some (.int i2), some (.int (0 : Int32)), some (.int (0 : Int32))]) d_253_93 rfl ml_253 rfl rfl ?_
    exact h
  · replace h := h.2 c
    refine g_aloadn (pc' := 62) d_253_61 rfl rfl ?_
    obtain ⟨fs1, hw2, h⟩ := h
    obtain ⟨b3, hv4, h⟩ := h
    refine g_getf (pc' := 65) d_253_62 rfl st_253_45 hw2 hv4 ?_
    refine g_iloadn (pc' := 66) d_253_65 rfl rfl ?_
    refine g_aloadn (pc' := 67) d_253_66 rfl rfl ?_
    refine g_getf (pc' := 70) d_253_67 rfl st_253_45 hw2 hv4 ?_
    refine g_iloadn (pc' := 71) d_253_70 rfl rfl ?_
    obtain ⟨n5, f6, hw7, h⟩ := h
    obtain ⟨hc8, h⟩ := h
    refine g_iald (pc' := 72) d_253_71 rfl hw7 hc8 ?_
    refine g_aloadn (pc' := 73) d_253_72 rfl rfl ?_
    refine g_getf (pc' := 76) d_253_73 rfl st_253_45 hw2 hv4 ?_
    refine g_iloadn (pc' := 77) d_253_76 rfl rfl ?_
    refine g_iconst (pc' := 78) d_253_77 rfl ci_1 ?_
    refine g_isub (pc' := 79) d_253_78 rfl ?_
    obtain ⟨hc9, h⟩ := h
    refine g_iald (pc' := 80) d_253_79 rfl hw7 hc9 ?_
    refine g_iadd (pc' := 81) d_253_80 rfl ?_
    refine g_iloadn (pc' := 82) d_253_81 rfl rfl ?_
    obtain ⟨hc10, h⟩ := h
    refine g_irem (pc' := 83) d_253_82 rfl hc10 ?_
    have h := h _ rfl
    obtain ⟨hc12, h⟩ := h
    have h := h _ rfl
    refine g_iast (pc' := 84) d_253_83 rfl hw7 hc12 ?_
    have h := h _ rfl
    refine g_iinc (pc' := 87) (l' := [some (.ref a0), some (.int i1), some (.int i2), some (.int (i3 + (-1 : Int32))), none]) d_253_84 rfl rfl ci_m1 ml_253 rfl rfl ?_
    refine g_goto (pt := 57) d_253_87 (by decide) ?_
    exact h
theorem S_253_95 {a0 : Nat} {i1 : Int32} {i2 : Int32} {i3 : Int32} {i4 : Int32} {w : xW} {r : Option Value × xW} (h : (i2 ≤ i4 → ∃ fs1, w[a0]? = some (.inr (12, fs1)) ∧ ∃ b3, fs1[16]? = some (.ref b3) ∧ ∃ r7 w5, xCall 216 [.int (i2 + (1 : Int32)), .int (i1 - (2 : Int32)), .int i1] w (some (.int r7), w5) ∧ ∃ r10 w8, xCall 215 [.long ((-(i3.toInt64)) * (r7.toInt64)), .int i1] w5 (some (.int r10), w8) ∧ ∃ n11 f12, w8[b3]? = some (.inl (.inl (n11, f12))) ∧ (¬ (i2 < 0 ∨ n11 ≤ i2.toNatClampNeg)) ∧ ∀ w15, w15 = w8.set b3 (.inl (.inl (n11, (upd f12 i2.toNatClampNeg r10)))) → ∀ v16 : Int32, v16 = i2 + (1 : Int32) → xGo 253 46 [some (.ref a0), some (.int i1), some (.int v16), none, none] [] w15 r) ∧ (¬ (i2 ≤ i4) → ∃ fs17, w[a0]? = some (.inr (12, fs17)) ∧ ∃ b19, fs17[17]? = some (.ref b19) ∧ ∃ n21 f22, w[b19]? = some (.inl (.inl (n21, f22))) ∧ (¬ (i4 < 0 ∨ n21 ≤ i4.toNatClampNeg)) ∧ ∃ b25, fs17[16]? = some (.ref b25) ∧ ∃ n27 f28, w[b25]? = some (.inl (.inl (n27, f28))) ∧ (¬ (i4 < 0 ∨ n27 ≤ i4.toNatClampNeg)) ∧ (¬ i1 = 0) ∧ ∀ v32 : Int32, v32 = (irem (i3 + ((f22 i4.toNatClampNeg) * (f28 i4.toNatClampNeg))) i1) → ∀ v33 : Int32, v33 = i4 + (1 : Int32) → xGo 253 95 [some (.ref a0), some (.int i1), some (.int i2), some (.int v32), some (.int v33)] [] w r)) : xGo 253 95 [some (.ref a0), some (.int i1), some (.int i2), some (.int i3), some (.int i4)] [] w r := by
  refine g_iload (pc' := 97) d_253_95 rfl rfl ?_
  refine g_iloadn (pc' := 98) d_253_97 rfl rfl ?_
  refine g_ic_ge (pc' := 101) (pt := 127) d_253_98 (by decide) rfl (fun c => ?_) (fun c => ?_)
  · replace h := h.1 c
    refine g_aloadn (pc' := 128) d_253_127 rfl rfl ?_
    obtain ⟨fs1, hw2, h⟩ := h
    obtain ⟨b3, hv4, h⟩ := h
    refine g_getf (pc' := 131) d_253_128 rfl st_253_42 hw2 hv4 ?_
    refine g_iloadn (pc' := 132) d_253_131 rfl rfl ?_
    refine g_iloadn (pc' := 133) d_253_132 rfl rfl ?_
    refine g_i2l (pc' := 134) d_253_133 rfl ?_
    refine g_lneg (pc' := 135) d_253_134 rfl ?_
    refine g_iloadn (pc' := 136) d_253_135 rfl rfl ?_
    refine g_iconst (pc' := 137) d_253_136 rfl ci_1 ?_
    refine g_iadd (pc' := 138) d_253_137 rfl ?_
    refine g_iloadn (pc' := 139) d_253_138 rfl rfl ?_
    refine g_iconst (pc' := 140) d_253_139 rfl ci_2 ?_
    refine g_isub (pc' := 141) d_253_140 rfl ?_
    refine g_iloadn (pc' := 142) d_253_141 rfl rfl ?_
    obtain ⟨r7, w5, hk6, h⟩ := h
    refine g_callS (pc' := 145) d_253_142 rfl st_253_174 (Or.inl rfl) na_216 ml_216 rfl rfl rfl rm_253_216 rfl rfl hk6 ?_
    refine g_i2l (pc' := 146) d_253_145 rfl ?_
    refine g_lmul (pc' := 147) d_253_146 rfl ?_
    refine g_iloadn (pc' := 148) d_253_147 rfl rfl ?_
    obtain ⟨r10, w8, hk9, h⟩ := h
    refine g_callS (pc' := 151) d_253_148 rfl st_253_170 (Or.inl rfl) na_215 ml_215 rfl rfl rfl rm_253_215 rfl rfl hk9 ?_
    obtain ⟨n11, f12, hw13, h⟩ := h
    obtain ⟨hc14, h⟩ := h
    have h := h _ rfl
    refine g_iast (pc' := 152) d_253_151 rfl hw13 hc14 ?_
    have h := h _ rfl
    refine g_iinc (pc' := 155) (l' := [some (.ref a0), some (.int i1), some (.int (i2 + (1 : Int32))), some (.int i3), some (.int i4)]) d_253_152 rfl rfl ci_1 ml_253 rfl rfl ?_
    refine g_goto (pt := 46) d_253_155 (by decide) ?_
    exact xGo.more (xle_s (xle_s (xle_s (xle_n (xle_n xle_0))))) h
  · replace h := h.2 c
    refine g_iloadn (pc' := 102) d_253_101 rfl rfl ?_
    refine g_aloadn (pc' := 103) d_253_102 rfl rfl ?_
    obtain ⟨fs17, hw18, h⟩ := h
    obtain ⟨b19, hv20, h⟩ := h
    refine g_getf (pc' := 106) d_253_103 rfl st_253_45 hw18 hv20 ?_
    refine g_iload (pc' := 108) d_253_106 rfl rfl ?_
    obtain ⟨n21, f22, hw23, h⟩ := h
    obtain ⟨hc24, h⟩ := h
    refine g_iald (pc' := 109) d_253_108 rfl hw23 hc24 ?_
    refine g_aloadn (pc' := 110) d_253_109 rfl rfl ?_
    obtain ⟨b25, hv26, h⟩ := h
    refine g_getf (pc' := 113) d_253_110 rfl st_253_42 hw18 hv26 ?_
    refine g_iload (pc' := 115) d_253_113 rfl rfl ?_
    obtain ⟨n27, f28, hw29, h⟩ := h
    obtain ⟨hc30, h⟩ := h
    refine g_iald (pc' := 116) d_253_115 rfl hw29 hc30 ?_
    refine g_imul (pc' := 117) d_253_116 rfl ?_
    refine g_iadd (pc' := 118) d_253_117 rfl ?_
    refine g_iloadn (pc' := 119) d_253_118 rfl rfl ?_
    obtain ⟨hc31, h⟩ := h
    refine g_irem (pc' := 120) d_253_119 rfl hc31 ?_
    have h := h _ rfl
    refine g_istoren (pc' := 121) (l' := [some (.ref a0), some (.int i1), some (.int i2), some (.int ((irem (i3 + ((f22 i4.toNatClampNeg) * (f28 i4.toNatClampNeg))) i1))), some (.int i4)]) d_253_120 rfl ml_253 rfl rfl ?_
    have h := h _ rfl
    refine g_iinc (pc' := 124) (l' := [some (.ref a0), some (.int i1), some (.int i2), some (.int ((irem (i3 + ((f22 i4.toNatClampNeg) * (f28 i4.toNatClampNeg))) i1))), some (.int (i4 + (1 : Int32)))]) d_253_121 rfl rfl ci_1 ml_253 rfl rfl ?_
    refine g_goto (pt := 95) d_253_124 (by decide) ?_
    exact h
-- 254 BernoulliWaysModel.laysTriangle(I)V
theorem S_254_0 {a0 : Nat} {i1 : Int32} {w : xW} {r : Option Value × xW} (h : xGo 254 2 [some (.ref a0), some (.int i1), some (.int (0 : Int32)), none] [] w r) : xGo 254 0 [some (.ref a0), some (.int i1), none, none] [] w r := by
  refine g_iconst (pc' := 1) d_254_0 rfl ci_0 ?_
  refine g_istoren (pc' := 2) (l' := [some (.ref a0), some (.int i1), some (.int (0 : Int32)), none]) d_254_1 rfl ml_254 rfl rfl ?_
  exact h
theorem S_254_2 {a0 : Nat} {i1 : Int32} {i2 : Int32} {w : xW} {r : Option Value × xW} (h : ((i1 - (2 : Int32)) < i2 → xGo 254 33 [some (.ref a0), some (.int i1), some (.int (0 : Int32)), none] [] w r) ∧ (¬ ((i1 - (2 : Int32)) < i2) → ∃ fs1, w[a0]? = some (.inr (12, fs1)) ∧ ∃ b3, fs1[19]? = some (.ref b3) ∧ ∃ r7 w5, xCall 216 [.int (i2 + (1 : Int32)), .int (i1 - (2 : Int32)), .int i1] w (some (.int r7), w5) ∧ ∃ n8 f9, w5[b3]? = some (.inl (.inl (n8, f9))) ∧ (¬ (i2 < 0 ∨ n8 ≤ i2.toNatClampNeg)) ∧ ∀ w12, w12 = w5.set b3 (.inl (.inl (n8, (upd f9 i2.toNatClampNeg r7)))) → ∀ v13 : Int32, v13 = i2 + (1 : Int32) → xGo 254 2 [some (.ref a0), some (.int i1), some (.int v13), none] [] w12 r)) : xGo 254 2 [some (.ref a0), some (.int i1), some (.int i2), none] [] w r := by
  refine g_iloadn (pc' := 3) d_254_2 rfl rfl ?_
  refine g_iloadn (pc' := 4) d_254_3 rfl rfl ?_
  refine g_iconst (pc' := 5) d_254_4 rfl ci_2 ?_
  refine g_isub (pc' := 6) d_254_5 rfl ?_
  refine g_ic_gt (pc' := 9) (pt := 31) d_254_6 (by decide) rfl (fun c => ?_) (fun c => ?_)
  · replace h := h.1 c
    refine g_iconst (pc' := 32) d_254_31 rfl ci_0 ?_
    refine g_istoren (pc' := 33) (l' := [some (.ref a0), some (.int i1), some (.int (0 : Int32)), none]) d_254_32 rfl ml_254 rfl rfl ?_
    exact h
  · replace h := h.2 c
    refine g_aloadn (pc' := 10) d_254_9 rfl rfl ?_
    obtain ⟨fs1, hw2, h⟩ := h
    obtain ⟨b3, hv4, h⟩ := h
    refine g_getf (pc' := 13) d_254_10 rfl st_254_51 hw2 hv4 ?_
    refine g_iloadn (pc' := 14) d_254_13 rfl rfl ?_
    refine g_iloadn (pc' := 15) d_254_14 rfl rfl ?_
    refine g_iconst (pc' := 16) d_254_15 rfl ci_1 ?_
    refine g_iadd (pc' := 17) d_254_16 rfl ?_
    refine g_iloadn (pc' := 18) d_254_17 rfl rfl ?_
    refine g_iconst (pc' := 19) d_254_18 rfl ci_2 ?_
    refine g_isub (pc' := 20) d_254_19 rfl ?_
    refine g_iloadn (pc' := 21) d_254_20 rfl rfl ?_
    obtain ⟨r7, w5, hk6, h⟩ := h
    refine g_callS (pc' := 24) d_254_21 rfl st_254_174 (Or.inl rfl) na_216 ml_216 rfl rfl rfl rm_254_216 rfl rfl hk6 ?_
    obtain ⟨n8, f9, hw10, h⟩ := h
    obtain ⟨hc11, h⟩ := h
    have h := h _ rfl
    refine g_iast (pc' := 25) d_254_24 rfl hw10 hc11 ?_
    have h := h _ rfl
    refine g_iinc (pc' := 28) (l' := [some (.ref a0), some (.int i1), some (.int (i2 + (1 : Int32))), none]) d_254_25 rfl rfl ci_1 ml_254 rfl rfl ?_
    refine g_goto (pt := 2) d_254_28 (by decide) ?_
    exact h
theorem S_254_33 {a0 : Nat} {i1 : Int32} {i2 : Int32} {w : xW} {r : Option Value × xW} (h : ((i1 - (2 : Int32)) < i2 → r = (none, w)) ∧ (¬ ((i1 - (2 : Int32)) < i2) → ∃ fs1, w[a0]? = some (.inr (12, fs1)) ∧ ∃ b3, fs1[18]? = some (.ref b3) ∧ (¬ i2 = (1 : Int32) → ∃ b5, fs1[19]? = some (.ref b5) ∧ ∃ n7 f8, w[b5]? = some (.inl (.inl (n7, f8))) ∧ (¬ ((0 : Int32) < 0 ∨ n7 ≤ (0 : Int32).toNatClampNeg)) ∧ ∃ n11 f12, w[b3]? = some (.inl (.inl (n11, f12))) ∧ ∀ v14 : Int32, v14 = (f8 (0 : Int32).toNatClampNeg) → (¬ (i2 < 0 ∨ n11 ≤ i2.toNatClampNeg)) ∧ ∀ w16, w16 = w.set b3 (.inl (.inl (n11, (upd f12 i2.toNatClampNeg v14)))) → xGo 254 75 [some (.ref a0), some (.int i1), some (.int i2), some (.int (0 : Int32))] [] w16 r) ∧ (¬ (¬ i2 = (1 : Int32)) → ∃ b17, fs1[19]? = some (.ref b17) ∧ ∃ n19 f20, w[b17]? = some (.inl (.inl (n19, f20))) ∧ (¬ ((0 : Int32) < 0 ∨ n19 ≤ (0 : Int32).toNatClampNeg)) ∧ ∃ r25 w23, xCall 215 [.long (((f20 (0 : Int32).toNatClampNeg).toInt64) - (1 : Int64)), .int i1] w (some (.int r25), w23) ∧ ∃ n26 f27, w23[b3]? = some (.inl (.inl (n26, f27))) ∧ (¬ (i2 < 0 ∨ n26 ≤ i2.toNatClampNeg)) ∧ ∀ w30, w30 = w23.set b3 (.inl (.inl (n26, (upd f27 i2.toNatClampNeg r25)))) → xGo 254 75 [some (.ref a0), some (.int i1), some (.int i2), some (.int (0 : Int32))] [] w30 r))) : xGo 254 33 [some (.ref a0), some (.int i1), some (.int i2), none] [] w r := by
  refine g_iloadn (pc' := 34) d_254_33 rfl rfl ?_
  refine g_iloadn (pc' := 35) d_254_34 rfl rfl ?_
  refine g_iconst (pc' := 36) d_254_35 rfl ci_2 ?_
  refine g_isub (pc' := 37) d_254_36 rfl ?_
  refine g_ic_gt (pc' := 40) (pt := 127) d_254_37 (by decide) rfl (fun c => ?_) (fun c => ?_)
  · replace h := h.1 c
    exact g_vret d_254_127 rt_254 h
  · replace h := h.2 c
    refine g_aloadn (pc' := 41) d_254_40 rfl rfl ?_
    obtain ⟨fs1, hw2, h⟩ := h
    obtain ⟨b3, hv4, h⟩ := h
    refine g_getf (pc' := 44) d_254_41 rfl st_254_48 hw2 hv4 ?_
    refine g_iloadn (pc' := 45) d_254_44 rfl rfl ?_
    refine g_iloadn (pc' := 46) d_254_45 rfl rfl ?_
    refine g_iconst (pc' := 47) d_254_46 rfl ci_1 ?_
    refine g_ic_ne (pc' := 50) (pt := 66) d_254_47 (by decide) rfl (fun c => ?_) (fun c => ?_)
    · replace h := h.1 c
      refine g_aloadn (pc' := 67) d_254_66 rfl rfl ?_
      obtain ⟨b5, hv6, h⟩ := h
      refine g_getf (pc' := 70) d_254_67 rfl st_254_51 hw2 hv6 ?_
      refine g_iconst (pc' := 71) d_254_70 rfl ci_0 ?_
      obtain ⟨n7, f8, hw9, h⟩ := h
      obtain ⟨hc10, h⟩ := h
      refine g_iald (pc' := 72) d_254_71 rfl hw9 hc10 ?_
      obtain ⟨n11, f12, hw13, h⟩ := h
      have h := h _ rfl
      obtain ⟨hc15, h⟩ := h
      have h := h _ rfl
      refine g_iast (pc' := 73) d_254_72 rfl hw13 hc15 ?_
      refine g_iconst (pc' := 74) d_254_73 rfl ci_0 ?_
      refine g_istoren (pc' := 75) (l' := [some (.ref a0), some (.int i1), some (.int i2), some (.int (0 : Int32))]) d_254_74 rfl ml_254 rfl rfl ?_
      exact h
    · replace h := h.2 c
      refine g_aloadn (pc' := 51) d_254_50 rfl rfl ?_
      obtain ⟨b17, hv18, h⟩ := h
      refine g_getf (pc' := 54) d_254_51 rfl st_254_51 hw2 hv18 ?_
      refine g_iconst (pc' := 55) d_254_54 rfl ci_0 ?_
      obtain ⟨n19, f20, hw21, h⟩ := h
      obtain ⟨hc22, h⟩ := h
      refine g_iald (pc' := 56) d_254_55 rfl hw21 hc22 ?_
      refine g_i2l (pc' := 57) d_254_56 rfl ?_
      refine g_lconst (pc' := 58) d_254_57 rfl cl_1 ?_
      refine g_lsub (pc' := 59) d_254_58 rfl ?_
      refine g_iloadn (pc' := 60) d_254_59 rfl rfl ?_
      obtain ⟨r25, w23, hk24, h⟩ := h
      refine g_callS (pc' := 63) d_254_60 rfl st_254_170 (Or.inl rfl) na_215 ml_215 rfl rfl rfl rm_254_215 rfl rfl hk24 ?_
      refine g_goto (pt := 72) d_254_63 (by decide) ?_
      obtain ⟨n26, f27, hw28, h⟩ := h
      obtain ⟨hc29, h⟩ := h
      have h := h _ rfl
      refine g_iast (pc' := 73) d_254_72 rfl hw28 hc29 ?_
      refine g_iconst (pc' := 74) d_254_73 rfl ci_0 ?_
      refine g_istoren (pc' := 75) (l' := [some (.ref a0), some (.int i1), some (.int i2), some (.int (0 : Int32))]) d_254_74 rfl ml_254 rfl rfl ?_
      exact h
theorem S_254_75 {a0 : Nat} {i1 : Int32} {i2 : Int32} {i3 : Int32} {w : xW} {r : Option Value × xW} (h : ((i1 - (2 : Int32)) ≤ (i3 + i2) → ∀ v1 : Int32, v1 = i2 + (1 : Int32) → xGo 254 33 [some (.ref a0), some (.int i1), some (.int v1), none] [] w r) ∧ (¬ ((i1 - (2 : Int32)) ≤ (i3 + i2)) → ∃ fs2, w[a0]? = some (.inr (12, fs2)) ∧ ∃ b4, fs2[19]? = some (.ref b4) ∧ ∃ n6 f7, w[b4]? = some (.inl (.inl (n6, f7))) ∧ (¬ (i3 < 0 ∨ n6 ≤ i3.toNatClampNeg)) ∧ (¬ ((i3 + (1 : Int32)) < 0 ∨ n6 ≤ (i3 + (1 : Int32)).toNatClampNeg)) ∧ ∃ r13 w11, xCall 215 [.long (((i3.toInt64) + (1 : Int64)) * (((f7 i3.toNatClampNeg) - (f7 (i3 + (1 : Int32)).toNatClampNeg)).toInt64)), .int i1] w (some (.int r13), w11) ∧ ∃ n14 f15, w11[b4]? = some (.inl (.inl (n14, f15))) ∧ (¬ (i3 < 0 ∨ n14 ≤ i3.toNatClampNeg)) ∧ ∀ w18, w18 = w11.set b4 (.inl (.inl (n14, (upd f15 i3.toNatClampNeg r13)))) → ∀ v19 : Int32, v19 = i3 + (1 : Int32) → xGo 254 75 [some (.ref a0), some (.int i1), some (.int i2), some (.int v19)] [] w18 r)) : xGo 254 75 [some (.ref a0), some (.int i1), some (.int i2), some (.int i3)] [] w r := by
  refine g_iloadn (pc' := 76) d_254_75 rfl rfl ?_
  refine g_iloadn (pc' := 77) d_254_76 rfl rfl ?_
  refine g_iadd (pc' := 78) d_254_77 rfl ?_
  refine g_iloadn (pc' := 79) d_254_78 rfl rfl ?_
  refine g_iconst (pc' := 80) d_254_79 rfl ci_2 ?_
  refine g_isub (pc' := 81) d_254_80 rfl ?_
  refine g_ic_ge (pc' := 84) (pt := 121) d_254_81 (by decide) rfl (fun c => ?_) (fun c => ?_)
  · replace h := h.1 c
    have h := h _ rfl
    refine g_iinc (pc' := 124) (l' := [some (.ref a0), some (.int i1), some (.int (i2 + (1 : Int32))), some (.int i3)]) d_254_121 rfl rfl ci_1 ml_254 rfl rfl ?_
    refine g_goto (pt := 33) d_254_124 (by decide) ?_
    exact xGo.more (xle_s (xle_s (xle_s (xle_n xle_0)))) h
  · replace h := h.2 c
    refine g_aloadn (pc' := 85) d_254_84 rfl rfl ?_
    obtain ⟨fs2, hw3, h⟩ := h
    obtain ⟨b4, hv5, h⟩ := h
    refine g_getf (pc' := 88) d_254_85 rfl st_254_51 hw3 hv5 ?_
    refine g_iloadn (pc' := 89) d_254_88 rfl rfl ?_
    refine g_iloadn (pc' := 90) d_254_89 rfl rfl ?_
    refine g_i2l (pc' := 91) d_254_90 rfl ?_
    refine g_lconst (pc' := 92) d_254_91 rfl cl_1 ?_
    refine g_ladd (pc' := 93) d_254_92 rfl ?_
    refine g_aloadn (pc' := 94) d_254_93 rfl rfl ?_
    refine g_getf (pc' := 97) d_254_94 rfl st_254_51 hw3 hv5 ?_
    refine g_iloadn (pc' := 98) d_254_97 rfl rfl ?_
    obtain ⟨n6, f7, hw8, h⟩ := h
    obtain ⟨hc9, h⟩ := h
    refine g_iald (pc' := 99) d_254_98 rfl hw8 hc9 ?_
    refine g_aloadn (pc' := 100) d_254_99 rfl rfl ?_
    refine g_getf (pc' := 103) d_254_100 rfl st_254_51 hw3 hv5 ?_
    refine g_iloadn (pc' := 104) d_254_103 rfl rfl ?_
    refine g_iconst (pc' := 105) d_254_104 rfl ci_1 ?_
    refine g_iadd (pc' := 106) d_254_105 rfl ?_
    obtain ⟨hc10, h⟩ := h
    refine g_iald (pc' := 107) d_254_106 rfl hw8 hc10 ?_
    refine g_isub (pc' := 108) d_254_107 rfl ?_
    refine g_i2l (pc' := 109) d_254_108 rfl ?_
    refine g_lmul (pc' := 110) d_254_109 rfl ?_
    refine g_iloadn (pc' := 111) d_254_110 rfl rfl ?_
    obtain ⟨r13, w11, hk12, h⟩ := h
    refine g_callS (pc' := 114) d_254_111 rfl st_254_170 (Or.inl rfl) na_215 ml_215 rfl rfl rfl rm_254_215 rfl rfl hk12 ?_
    obtain ⟨n14, f15, hw16, h⟩ := h
    obtain ⟨hc17, h⟩ := h
    have h := h _ rfl
    refine g_iast (pc' := 115) d_254_114 rfl hw16 hc17 ?_
    have h := h _ rfl
    refine g_iinc (pc' := 118) (l' := [some (.ref a0), some (.int i1), some (.int i2), some (.int (i3 + (1 : Int32)))]) d_254_115 rfl rfl ci_1 ml_254 rfl rfl ?_
    refine g_goto (pt := 75) d_254_118 (by decide) ?_
    exact h
-- 255 BernoulliWaysModel.powersBy(IIJ)J
theorem S_255_0 {i0 : Int32} {i1 : Int32} {l2 : Int64} {w : xW} {r : Option Value × xW} (h : xGo 255 6 [some (.int i0), some (.int i1), some (.long l2), none, some (.long (0 : Int64)), none, some (.int (1 : Int32))] [] w r) : xGo 255 0 [some (.int i0), some (.int i1), some (.long l2), none, none, none, none] [] w r := by
  refine g_lconst (pc' := 1) d_255_0 rfl cl_0 ?_
  refine g_lstore (pc' := 3) (l' := [some (.int i0), some (.int i1), some (.long l2), none, some (.long (0 : Int64)), none, none]) d_255_1 rfl ml_255 rfl rfl ?_
  refine g_iconst (pc' := 4) d_255_3 rfl ci_1 ?_
  refine g_istore (pc' := 6) (l' := [some (.int i0), some (.int i1), some (.long l2), none, some (.long (0 : Int64)), none, some (.int (1 : Int32))]) d_255_4 rfl ml_255 rfl rfl ?_
  exact h
theorem S_255_6 {i0 : Int32} {i1 : Int32} {l2 : Int64} {l4 : Int64} {i6 : Int32} {w : xW} {r : Option Value × xW} (h : (i1 ≤ i6 → (¬ (i1.toInt64) = 0) ∧ r = (some (.long (l4 / (i1.toInt64))), w)) ∧ (¬ (i1 ≤ i6) → ∃ r4 w2, xCall 240 [.long (i6.toInt64), .int i0, .long l2] w (some (.long r4), w2) ∧ (¬ l2 = 0) ∧ ∀ v6 : Int64, v6 = (lrem (l4 + r4) l2) → ∀ v7 : Int32, v7 = i6 + (1 : Int32) → xGo 255 6 [some (.int i0), some (.int i1), some (.long l2), none, some (.long v6), none, some (.int v7)] [] w2 r)) : xGo 255 6 [some (.int i0), some (.int i1), some (.long l2), none, some (.long l4), none, some (.int i6)] [] w r := by
  refine g_iload (pc' := 8) d_255_6 rfl rfl ?_
  refine g_iloadn (pc' := 9) d_255_8 rfl rfl ?_
  refine g_ic_ge (pc' := 12) (pt := 33) d_255_9 (by decide) rfl (fun c => ?_) (fun c => ?_)
  · replace h := h.1 c
    refine g_lload (pc' := 35) d_255_33 rfl rfl ?_
    refine g_iloadn (pc' := 36) d_255_35 rfl rfl ?_
    refine g_i2l (pc' := 37) d_255_36 rfl ?_
    obtain ⟨hc1, h⟩ := h
    refine g_ldiv (pc' := 38) d_255_37 rfl hc1 ?_
    exact g_lret d_255_38 rt_255 h
  · replace h := h.2 c
    refine g_lload (pc' := 14) d_255_12 rfl rfl ?_
    refine g_iload (pc' := 16) d_255_14 rfl rfl ?_
    refine g_i2l (pc' := 17) d_255_16 rfl ?_
    refine g_iloadn (pc' := 18) d_255_17 rfl rfl ?_
    refine g_lloadn (pc' := 19) d_255_18 rfl rfl ?_
    obtain ⟨r4, w2, hk3, h⟩ := h
    refine g_callS (pc' := 22) d_255_19 rfl st_255_208 (Or.inl rfl) na_240 ml_240 rfl rfl rfl rm_255_240 rfl rfl hk3 ?_
    refine g_ladd (pc' := 23) d_255_22 rfl ?_
    refine g_lloadn (pc' := 24) d_255_23 rfl rfl ?_
    obtain ⟨hc5, h⟩ := h
    refine g_lrem (pc' := 25) d_255_24 rfl hc5 ?_
    have h := h _ rfl
    refine g_lstore (pc' := 27) (l' := [some (.int i0), some (.int i1), some (.long l2), none, some (.long ((lrem (l4 + r4) l2))), none, some (.int i6)]) d_255_25 rfl ml_255 rfl rfl ?_
    have h := h _ rfl
    refine g_iinc (pc' := 30) (l' := [some (.int i0), some (.int i1), some (.long l2), none, some (.long ((lrem (l4 + r4) l2))), none, some (.int (i6 + (1 : Int32)))]) d_255_27 rfl rfl ci_1 ml_255 rfl rfl ?_
    refine g_goto (pt := 6) d_255_30 (by decide) ?_
    exact h
-- 256 BernoulliWaysModel.nothings(II)I
theorem S_256_0 {a0 : Nat} {i1 : Int32} {i2 : Int32} {w : xW} {r : Option Value × xW} (h : ∃ fs1, w[a0]? = some (.inr (12, fs1)) ∧ (0 < fs1.length) ∧ ∀ w4, w4 = w.set a0 (.inr (12, fs1.set 0 (.int (0 : Int32)))) → ∃ r7 w5, xCall 228 [.ref a0, .int i1] w4 (some (.int r7), w5) ∧ (r7 = 0 → r = (some (.int (-1 : Int32)), w5)) ∧ (¬ (r7 = 0) → ∃ r10 w8, xCall 199 [.int i2, .int (0 : Int32), .int (2 : Int32)] w5 (some (.int r10), w8) ∧ (¬ r10 = 0 → ∃ fs11, w8[a0]? = some (.inr (12, fs11)) ∧ ∃ w13, xCall 251 [.ref a0, .int i1, .int i2] w8 (none, w13) ∧ xGo 256 35 [some (.ref a0), some (.int i1), some (.int i2), some (.int (0 : Int32)), some (.int (2 : Int32))] [] w13 r) ∧ (¬ (¬ r10 = 0) → r = (some (.int (-1 : Int32)), w8)))) : xGo 256 0 [some (.ref a0), some (.int i1), some (.int i2), none, none] [] w r := by
  refine g_aloadn (pc' := 1) d_256_0 rfl rfl ?_
  refine g_iconst (pc' := 2) d_256_1 rfl ci_0 ?_
  obtain ⟨fs1, hw2, h⟩ := h
  obtain ⟨hc3, h⟩ := h
  have h := h _ rfl
  refine g_putf (pc' := 5) d_256_2 rfl st_256_118 ft_12_0 ff_12_0 rfl (Or.inl rfl) hw2 hc3 ?_
  refine g_aloadn (pc' := 6) d_256_5 rfl rfl ?_
  refine g_iloadn (pc' := 7) d_256_6 rfl rfl ?_
  obtain ⟨r7, w5, hk6, h⟩ := h
  refine g_callV (pc' := 10) d_256_7 rfl st_256_185 na_228 ml_228 rfl rfl rfl rm_256_228 rfl rfl ow_228 (x_gss hw2) hk6 ?_
  refine g_if_eq (pc' := 13) (pt := 22) d_256_10 (by decide) rfl (fun c => ?_) (fun c => ?_)
  · replace h := h.1 c
    refine g_iconst (pc' := 23) d_256_22 rfl ci_m1 ?_
    exact g_iret d_256_23 rt_256 h
  · replace h := h.2 c
    refine g_iloadn (pc' := 14) d_256_13 rfl rfl ?_
    refine g_iconst (pc' := 15) d_256_14 rfl ci_0 ?_
    refine g_iconst (pc' := 16) d_256_15 rfl ci_2 ?_
    obtain ⟨r10, w8, hk9, h⟩ := h
    refine g_callS (pc' := 19) d_256_16 rfl st_256_137 (Or.inl rfl) na_199 ml_199 rfl rfl rfl rm_256_199 rfl rfl hk9 ?_
    refine g_if_ne (pc' := 22) (pt := 24) d_256_19 (by decide) rfl (fun c => ?_) (fun c => ?_)
    · replace h := h.1 c
      refine g_aloadn (pc' := 25) d_256_24 rfl rfl ?_
      refine g_iloadn (pc' := 26) d_256_25 rfl rfl ?_
      refine g_iloadn (pc' := 27) d_256_26 rfl rfl ?_
      obtain ⟨fs11, hw12, h⟩ := h
      obtain ⟨w13, hk14, h⟩ := h
      refine g_callV (pc' := 30) d_256_27 rfl st_256_271 na_251 ml_251 rfl rfl rfl rm_256_251 rfl rfl ow_251 hw12 hk14 ?_
      refine g_iconst (pc' := 31) d_256_30 rfl ci_0 ?_
      refine g_istoren (pc' := 32) (l' := [some (.ref a0), some (.int i1), some (.int i2), some (.int (0 : Int32)), none]) d_256_31 rfl ml_256 rfl rfl ?_
      refine g_iconst (pc' := 33) d_256_32 rfl ci_2 ?_
      refine g_istore (pc' := 35) (l' := [some (.ref a0), some (.int i1), some (.int i2), some (.int (0 : Int32)), some (.int (2 : Int32))]) d_256_33 rfl ml_256 rfl rfl ?_
      exact h
    · replace h := h.2 c
      refine g_iconst (pc' := 23) d_256_22 rfl ci_m1 ?_
      exact g_iret d_256_23 rt_256 h
theorem S_256_35 {a0 : Nat} {i1 : Int32} {i2 : Int32} {i3 : Int32} {i4 : Int32} {w : xW} {r : Option Value × xW} (h : ((i1 - (3 : Int32)) < i4 → r = (some (.int i3), w)) ∧ (¬ ((i1 - (3 : Int32)) < i4) → ∃ fs1, w[a0]? = some (.inr (12, fs1)) ∧ ∃ b3, fs1[18]? = some (.ref b3) ∧ ∃ n5 f6, w[b3]? = some (.inl (.inl (n5, f6))) ∧ (¬ (i4 < 0 ∨ n5 ≤ i4.toNatClampNeg)) ∧ (¬ (f6 i4.toNatClampNeg) = 0 → ∀ v9 : Int32, v9 = (i3 + (0 : Int32)) → ∀ v10 : Int32, v10 = i4 + (2 : Int32) → xGo 256 35 [some (.ref a0), some (.int i1), some (.int i2), some (.int v9), some (.int v10)] [] w r) ∧ (¬ (¬ (f6 i4.toNatClampNeg) = 0) → ∀ v11 : Int32, v11 = (i3 + (1 : Int32)) → ∀ v12 : Int32, v12 = i4 + (2 : Int32) → xGo 256 35 [some (.ref a0), some (.int i1), some (.int i2), some (.int v11), some (.int v12)] [] w r))) : xGo 256 35 [some (.ref a0), some (.int i1), some (.int i2), some (.int i3), some (.int i4)] [] w r := by
  refine g_iload (pc' := 37) d_256_35 rfl rfl ?_
  refine g_iloadn (pc' := 38) d_256_37 rfl rfl ?_
  refine g_iconst (pc' := 39) d_256_38 rfl ci_3 ?_
  refine g_isub (pc' := 40) d_256_39 rfl ?_
  refine g_ic_gt (pc' := 43) (pt := 67) d_256_40 (by decide) rfl (fun c => ?_) (fun c => ?_)
  · replace h := h.1 c
    refine g_iloadn (pc' := 68) d_256_67 rfl rfl ?_
    exact g_iret d_256_68 rt_256 h
  · replace h := h.2 c
    refine g_iloadn (pc' := 44) d_256_43 rfl rfl ?_
    refine g_aloadn (pc' := 45) d_256_44 rfl rfl ?_
    obtain ⟨fs1, hw2, h⟩ := h
    obtain ⟨b3, hv4, h⟩ := h
    refine g_getf (pc' := 48) d_256_45 rfl st_256_48 hw2 hv4 ?_
    refine g_iload (pc' := 50) d_256_48 rfl rfl ?_
    obtain ⟨n5, f6, hw7, h⟩ := h
    obtain ⟨hc8, h⟩ := h
    refine g_iald (pc' := 51) d_256_50 rfl hw7 hc8 ?_
    refine g_if_ne (pc' := 54) (pt := 58) d_256_51 (by decide) rfl (fun c => ?_) (fun c => ?_)
    · replace h := h.1 c
      refine g_iconst (pc' := 59) d_256_58 rfl ci_0 ?_
      refine g_iadd (pc' := 60) d_256_59 rfl ?_
      have h := h _ rfl
      refine g_istoren (pc' := 61) (l' := [some (.ref a0), some (.int i1), some (.int i2), some (.int ((i3 + (0 : Int32)))), some (.int i4)]) d_256_60 rfl ml_256 rfl rfl ?_
      have h := h _ rfl
      refine g_iinc (pc' := 64) (l' := [some (.ref a0), some (.int i1), some (.int i2), some (.int ((i3 + (0 : Int32)))), some (.int (i4 + (2 : Int32)))]) d_256_61 rfl rfl ci_2 ml_256 rfl rfl ?_
      refine g_goto (pt := 35) d_256_64 (by decide) ?_
      exact h
    · replace h := h.2 c
      refine g_iconst (pc' := 55) d_256_54 rfl ci_1 ?_
      refine g_goto (pt := 59) d_256_55 (by decide) ?_
      refine g_iadd (pc' := 60) d_256_59 rfl ?_
      have h := h _ rfl
      refine g_istoren (pc' := 61) (l' := [some (.ref a0), some (.int i1), some (.int i2), some (.int ((i3 + (1 : Int32)))), some (.int i4)]) d_256_60 rfl ml_256 rfl rfl ?_
      have h := h _ rfl
      refine g_iinc (pc' := 64) (l' := [some (.ref a0), some (.int i1), some (.int i2), some (.int ((i3 + (1 : Int32)))), some (.int (i4 + (2 : Int32)))]) d_256_61 rfl rfl ci_2 ml_256 rfl rfl ?_
      refine g_goto (pt := 35) d_256_64 (by decide) ?_
      exact h
-- 257 BernoulliWaysModel.irregular(I)I
theorem S_257_0 {a0 : Nat} {i1 : Int32} {w : xW} {r : Option Value × xW} (h : ∃ fs1, w[a0]? = some (.inr (12, fs1)) ∧ (0 < fs1.length) ∧ ∀ w4, w4 = w.set a0 (.inr (12, fs1.set 0 (.int (0 : Int32)))) → ∃ r7 w5, xCall 228 [.ref a0, .int i1] w4 (some (.int r7), w5) ∧ (r7 = 0 → r = (some (.int (-1 : Int32)), w5)) ∧ (¬ (r7 = 0) → ∃ fs8, w5[a0]? = some (.inr (12, fs8)) ∧ ∃ r12 w10, xCall 258 [.ref a0, .int i1] w5 (some (.int r12), w10) ∧ r = (some (.int r12), w10))) : xGo 257 0 [some (.ref a0), some (.int i1)] [] w r := by
  refine g_aloadn (pc' := 1) d_257_0 rfl rfl ?_
  refine g_iconst (pc' := 2) d_257_1 rfl ci_0 ?_
  obtain ⟨fs1, hw2, h⟩ := h
  obtain ⟨hc3, h⟩ := h
  have h := h _ rfl
  refine g_putf (pc' := 5) d_257_2 rfl st_257_118 ft_12_0 ff_12_0 rfl (Or.inl rfl) hw2 hc3 ?_
  refine g_aloadn (pc' := 6) d_257_5 rfl rfl ?_
  refine g_iloadn (pc' := 7) d_257_6 rfl rfl ?_
  obtain ⟨r7, w5, hk6, h⟩ := h
  refine g_callV (pc' := 10) d_257_7 rfl st_257_185 na_228 ml_228 rfl rfl rfl rm_257_228 rfl rfl ow_228 (x_gss hw2) hk6 ?_
  refine g_if_eq (pc' := 13) (pt := 21) d_257_10 (by decide) rfl (fun c => ?_) (fun c => ?_)
  · replace h := h.1 c
    refine g_iconst (pc' := 22) d_257_21 rfl ci_m1 ?_
    exact g_iret d_257_22 rt_257 h
  · replace h := h.2 c
    refine g_aloadn (pc' := 14) d_257_13 rfl rfl ?_
    refine g_iloadn (pc' := 15) d_257_14 rfl rfl ?_
    obtain ⟨fs8, hw9, h⟩ := h
    obtain ⟨r12, w10, hk11, h⟩ := h
    refine g_callV (pc' := 18) d_257_15 rfl st_257_274 na_258 ml_258 rfl rfl rfl rm_257_258 rfl rfl ow_258 hw9 hk11 ?_
    refine g_goto (pt := 22) d_257_18 (by decide) ?_
    exact g_iret d_257_22 rt_257 h
-- 258 BernoulliWaysModel.irregularOf(I)I
theorem S_258_0 {a0 : Nat} {i1 : Int32} {w : xW} {r : Option Value × xW} (h : ∃ fs1, w[a0]? = some (.inr (12, fs1)) ∧ ∃ w3, xCall 253 [.ref a0, .int i1] w (none, w3) ∧ xGo 258 9 [some (.ref a0), some (.int i1), some (.int (0 : Int32)), some (.int (2 : Int32))] [] w3 r) : xGo 258 0 [some (.ref a0), some (.int i1), none, none] [] w r := by
  refine g_aloadn (pc' := 1) d_258_0 rfl rfl ?_
  refine g_iloadn (pc' := 2) d_258_1 rfl rfl ?_
  obtain ⟨fs1, hw2, h⟩ := h
  obtain ⟨w3, hk4, h⟩ := h
  refine g_callV (pc' := 5) d_258_2 rfl st_258_268 na_253 ml_253 rfl rfl rfl rm_258_253 rfl rfl ow_253 hw2 hk4 ?_
  refine g_iconst (pc' := 6) d_258_5 rfl ci_0 ?_
  refine g_istoren (pc' := 7) (l' := [some (.ref a0), some (.int i1), some (.int (0 : Int32)), none]) d_258_6 rfl ml_258 rfl rfl ?_
  refine g_iconst (pc' := 8) d_258_7 rfl ci_2 ?_
  refine g_istoren (pc' := 9) (l' := [some (.ref a0), some (.int i1), some (.int (0 : Int32)), some (.int (2 : Int32))]) d_258_8 rfl ml_258 rfl rfl ?_
  exact h
theorem S_258_9 {a0 : Nat} {i1 : Int32} {i2 : Int32} {i3 : Int32} {w : xW} {r : Option Value × xW} (h : ((i1 - (3 : Int32)) < i3 → r = (some (.int i2), w)) ∧ (¬ ((i1 - (3 : Int32)) < i3) → ∃ fs1, w[a0]? = some (.inr (12, fs1)) ∧ ∃ b3, fs1[16]? = some (.ref b3) ∧ ∃ n5 f6, w[b3]? = some (.inl (.inl (n5, f6))) ∧ (¬ (i3 < 0 ∨ n5 ≤ i3.toNatClampNeg)) ∧ (¬ (f6 i3.toNatClampNeg) = 0 → ∀ v9 : Int32, v9 = (i2 + (0 : Int32)) → ∀ v10 : Int32, v10 = i3 + (2 : Int32) → xGo 258 9 [some (.ref a0), some (.int i1), some (.int v9), some (.int v10)] [] w r) ∧ (¬ (¬ (f6 i3.toNatClampNeg) = 0) → ∀ v11 : Int32, v11 = (i2 + (1 : Int32)) → ∀ v12 : Int32, v12 = i3 + (2 : Int32) → xGo 258 9 [some (.ref a0), some (.int i1), some (.int v11), some (.int v12)] [] w r))) : xGo 258 9 [some (.ref a0), some (.int i1), some (.int i2), some (.int i3)] [] w r := by
  refine g_iloadn (pc' := 10) d_258_9 rfl rfl ?_
  refine g_iloadn (pc' := 11) d_258_10 rfl rfl ?_
  refine g_iconst (pc' := 12) d_258_11 rfl ci_3 ?_
  refine g_isub (pc' := 13) d_258_12 rfl ?_
  refine g_ic_gt (pc' := 16) (pt := 39) d_258_13 (by decide) rfl (fun c => ?_) (fun c => ?_)
  · replace h := h.1 c
    refine g_iloadn (pc' := 40) d_258_39 rfl rfl ?_
    exact g_iret d_258_40 rt_258 h
  · replace h := h.2 c
    refine g_iloadn (pc' := 17) d_258_16 rfl rfl ?_
    refine g_aloadn (pc' := 18) d_258_17 rfl rfl ?_
    obtain ⟨fs1, hw2, h⟩ := h
    obtain ⟨b3, hv4, h⟩ := h
    refine g_getf (pc' := 21) d_258_18 rfl st_258_42 hw2 hv4 ?_
    refine g_iloadn (pc' := 22) d_258_21 rfl rfl ?_
    obtain ⟨n5, f6, hw7, h⟩ := h
    obtain ⟨hc8, h⟩ := h
    refine g_iald (pc' := 23) d_258_22 rfl hw7 hc8 ?_
    refine g_if_ne (pc' := 26) (pt := 30) d_258_23 (by decide) rfl (fun c => ?_) (fun c => ?_)
    · replace h := h.1 c
      refine g_iconst (pc' := 31) d_258_30 rfl ci_0 ?_
      refine g_iadd (pc' := 32) d_258_31 rfl ?_
      have h := h _ rfl
      refine g_istoren (pc' := 33) (l' := [some (.ref a0), some (.int i1), some (.int ((i2 + (0 : Int32)))), some (.int i3)]) d_258_32 rfl ml_258 rfl rfl ?_
      have h := h _ rfl
      refine g_iinc (pc' := 36) (l' := [some (.ref a0), some (.int i1), some (.int ((i2 + (0 : Int32)))), some (.int (i3 + (2 : Int32)))]) d_258_33 rfl rfl ci_2 ml_258 rfl rfl ?_
      refine g_goto (pt := 9) d_258_36 (by decide) ?_
      exact h
    · replace h := h.2 c
      refine g_iconst (pc' := 27) d_258_26 rfl ci_1 ?_
      refine g_goto (pt := 31) d_258_27 (by decide) ?_
      refine g_iadd (pc' := 32) d_258_31 rfl ?_
      have h := h _ rfl
      refine g_istoren (pc' := 33) (l' := [some (.ref a0), some (.int i1), some (.int ((i2 + (1 : Int32)))), some (.int i3)]) d_258_32 rfl ml_258 rfl rfl ?_
      have h := h _ rfl
      refine g_iinc (pc' := 36) (l' := [some (.ref a0), some (.int i1), some (.int ((i2 + (1 : Int32)))), some (.int (i3 + (2 : Int32)))]) d_258_33 rfl rfl ci_2 ml_258 rfl rfl ?_
      refine g_goto (pt := 9) d_258_36 (by decide) ?_
      exact h
-- 259 BernoulliWaysModel.pair(II)I
theorem S_259_0 {a0 : Nat} {i1 : Int32} {i2 : Int32} {w : xW} {r : Option Value × xW} (h : ∃ fs1, w[a0]? = some (.inr (12, fs1)) ∧ (0 < fs1.length) ∧ ∀ w4, w4 = w.set a0 (.inr (12, fs1.set 0 (.int (0 : Int32)))) → (i1 < 0 → r = (some (.int (-1 : Int32)), w4)) ∧ (¬ (i1 < 0) → ∃ r7 w5, xCall 199 [.int i2, .int (0 : Int32), .int (1 : Int32)] w4 (some (.int r7), w5) ∧ (¬ r7 = 0 → xGo 259 25 [some (.ref a0), some (.int i1), some (.int i2), some (.int i1), some (.int (1 : Int32)), none] [] w5 r) ∧ (¬ (¬ r7 = 0) → r = (some (.int (-1 : Int32)), w5)))) : xGo 259 0 [some (.ref a0), some (.int i1), some (.int i2), none, none, none] [] w r := by
  refine g_aloadn (pc' := 1) d_259_0 rfl rfl ?_
  refine g_iconst (pc' := 2) d_259_1 rfl ci_0 ?_
  obtain ⟨fs1, hw2, h⟩ := h
  obtain ⟨hc3, h⟩ := h
  have h := h _ rfl
  refine g_putf (pc' := 5) d_259_2 rfl st_259_118 ft_12_0 ff_12_0 rfl (Or.inl rfl) hw2 hc3 ?_
  refine g_iloadn (pc' := 6) d_259_5 rfl rfl ?_
  refine g_if_lt (pc' := 9) (pt := 18) d_259_6 (by decide) rfl (fun c => ?_) (fun c => ?_)
  · replace h := h.1 c
    refine g_iconst (pc' := 19) d_259_18 rfl ci_m1 ?_
    exact g_iret d_259_19 rt_259 h
  · replace h := h.2 c
    refine g_iloadn (pc' := 10) d_259_9 rfl rfl ?_
    refine g_iconst (pc' := 11) d_259_10 rfl ci_0 ?_
    refine g_iconst (pc' := 12) d_259_11 rfl ci_1 ?_
    obtain ⟨r7, w5, hk6, h⟩ := h
    refine g_callS (pc' := 15) d_259_12 rfl st_259_137 (Or.inl rfl) na_199 ml_199 rfl rfl rfl rm_259_199 rfl rfl hk6 ?_
    refine g_if_ne (pc' := 18) (pt := 20) d_259_15 (by decide) rfl (fun c => ?_) (fun c => ?_)
    · replace h := h.1 c
      refine g_iloadn (pc' := 21) d_259_20 rfl rfl ?_
      refine g_istoren (pc' := 22) (l' := [some (.ref a0), some (.int i1), some (.int i2), some (.int i1), none, none]) d_259_21 rfl ml_259 rfl rfl ?_
      refine g_iconst (pc' := 23) d_259_22 rfl ci_1 ?_
      refine g_istore (pc' := 25) (l' := [some (.ref a0), some (.int i1), some (.int i2), some (.int i1), some (.int (1 : Int32)), none]) d_259_23 rfl ml_259 rfl rfl ?_
      exact h
    · replace h := h.2 c
      refine g_iconst (pc' := 19) d_259_18 rfl ci_m1 ?_
      exact g_iret d_259_19 rt_259 h
theorem S_259_25 {a0 : Nat} {i1 : Int32} {i2 : Int32} {i3 : Int32} {i4 : Int32} {w : xW} {r : Option Value × xW} (h : ∃ fs1, w[a0]? = some (.inr (12, fs1)) ∧ ∃ x3, fs1[7]? = some (.int x3) ∧ (x3 ≤ i4 → r = (some (.int (-2 : Int32)), w)) ∧ (¬ (x3 ≤ i4) → ∃ b5, fs1[6]? = some (.ref b5) ∧ ∃ n7 f8, w[b5]? = some (.inl (.inl (n7, f8))) ∧ (¬ (i4 < 0 ∨ n7 ≤ i4.toNatClampNeg)) ∧ ∃ w11, xCall 253 [.ref a0, .int (f8 i4.toNatClampNeg)] w (none, w11) ∧ xGo 259 48 [some (.ref a0), some (.int i1), some (.int i2), some (.int i3), some (.int i4), some (.int (2 : Int32))] [] w11 r)) : xGo 259 25 [some (.ref a0), some (.int i1), some (.int i2), some (.int i3), some (.int i4), none] [] w r := by
  refine g_iload (pc' := 27) d_259_25 rfl rfl ?_
  refine g_aloadn (pc' := 28) d_259_27 rfl rfl ?_
  obtain ⟨fs1, hw2, h⟩ := h
  obtain ⟨x3, hv4, h⟩ := h
  refine g_getf (pc' := 31) d_259_28 rfl st_259_96 hw2 hv4 ?_
  refine g_ic_ge (pc' := 34) (pt := 111) d_259_31 (by decide) rfl (fun c => ?_) (fun c => ?_)
  · replace h := h.1 c
    refine g_bipush (pc' := 113) d_259_111 rfl cb_m2 ?_
    exact g_iret d_259_113 rt_259 h
  · replace h := h.2 c
    refine g_aloadn (pc' := 35) d_259_34 rfl rfl ?_
    refine g_aloadn (pc' := 36) d_259_35 rfl rfl ?_
    obtain ⟨b5, hv6, h⟩ := h
    refine g_getf (pc' := 39) d_259_36 rfl st_259_27 hw2 hv6 ?_
    refine g_iload (pc' := 41) d_259_39 rfl rfl ?_
    obtain ⟨n7, f8, hw9, h⟩ := h
    obtain ⟨hc10, h⟩ := h
    refine g_iald (pc' := 42) d_259_41 rfl hw9 hc10 ?_
    obtain ⟨w11, hk12, h⟩ := h
    refine g_callV (pc' := 45) d_259_42 rfl st_259_268 na_253 ml_253 rfl rfl rfl rm_259_253 rfl rfl ow_253 hw2 hk12 ?_
    refine g_iconst (pc' := 46) d_259_45 rfl ci_2 ?_
    refine g_istore (pc' := 48) (l' := [some (.ref a0), some (.int i1), some (.int i2), some (.int i3), some (.int i4), some (.int (2 : Int32))]) d_259_46 rfl ml_259 rfl rfl ?_
    exact h
theorem S_259_48 {a0 : Nat} {i1 : Int32} {i2 : Int32} {i3 : Int32} {i4 : Int32} {i5 : Int32} {w : xW} {r : Option Value × xW} (h : ∃ fs1, w[a0]? = some (.inr (12, fs1)) ∧ ∃ b3, fs1[6]? = some (.ref b3) ∧ ∃ n5 f6, w[b3]? = some (.inl (.inl (n5, f6))) ∧ (¬ (i4 < 0 ∨ n5 ≤ i4.toNatClampNeg)) ∧ (((f6 i4.toNatClampNeg) - (3 : Int32)) < i5 → ∀ v9 : Int32, v9 = i4 + (1 : Int32) → xGo 259 25 [some (.ref a0), some (.int i1), some (.int i2), some (.int i3), some (.int v9), none] [] w r) ∧ (¬ (((f6 i4.toNatClampNeg) - (3 : Int32)) < i5) → ∃ b10, fs1[16]? = some (.ref b10) ∧ ∃ n12 f13, w[b10]? = some (.inl (.inl (n12, f13))) ∧ (¬ (i5 < 0 ∨ n12 ≤ i5.toNatClampNeg)) ∧ ((f13 i5.toNatClampNeg) = 0 → (¬ i3 = 0 → ∀ v16 : Int32, v16 = i3 + (-1 : Int32) → ∀ v17 : Int32, v17 = i5 + (2 : Int32) → xGo 259 48 [some (.ref a0), some (.int i1), some (.int i2), some (.int v16), some (.int i4), some (.int v17)] [] w r) ∧ (¬ (¬ i3 = 0) → (¬ i2 = 0 → r = (some (.int i5), w)) ∧ (¬ (¬ i2 = 0) → (¬ (i4 < 0 ∨ n5 ≤ i4.toNatClampNeg)) ∧ r = (some (.int (f6 i4.toNatClampNeg)), w)))) ∧ (¬ ((f13 i5.toNatClampNeg) = 0) → ∀ v19 : Int32, v19 = i5 + (2 : Int32) → xGo 259 48 [some (.ref a0), some (.int i1), some (.int i2), some (.int i3), some (.int i4), some (.int v19)] [] w r))) : xGo 259 48 [some (.ref a0), some (.int i1), some (.int i2), some (.int i3), some (.int i4), some (.int i5)] [] w r := by
  refine g_iload (pc' := 50) d_259_48 rfl rfl ?_
  refine g_aloadn (pc' := 51) d_259_50 rfl rfl ?_
  obtain ⟨fs1, hw2, h⟩ := h
  obtain ⟨b3, hv4, h⟩ := h
  refine g_getf (pc' := 54) d_259_51 rfl st_259_27 hw2 hv4 ?_
  refine g_iload (pc' := 56) d_259_54 rfl rfl ?_
  obtain ⟨n5, f6, hw7, h⟩ := h
  obtain ⟨hc8, h⟩ := h
  refine g_iald (pc' := 57) d_259_56 rfl hw7 hc8 ?_
  refine g_iconst (pc' := 58) d_259_57 rfl ci_3 ?_
  refine g_isub (pc' := 59) d_259_58 rfl ?_
  refine g_ic_gt (pc' := 62) (pt := 105) d_259_59 (by decide) rfl (fun c => ?_) (fun c => ?_)
  · replace h := h.1 c
    have h := h _ rfl
    refine g_iinc (pc' := 108) (l' := [some (.ref a0), some (.int i1), some (.int i2), some (.int i3), some (.int (i4 + (1 : Int32))), some (.int i5)]) d_259_105 rfl rfl ci_1 ml_259 rfl rfl ?_
    refine g_goto (pt := 25) d_259_108 (by decide) ?_
    exact xGo.more (xle_s (xle_s (xle_s (xle_s (xle_s (xle_n xle_0)))))) h
  · replace h := h.2 c
    refine g_aloadn (pc' := 63) d_259_62 rfl rfl ?_
    obtain ⟨b10, hv11, h⟩ := h
    refine g_getf (pc' := 66) d_259_63 rfl st_259_42 hw2 hv11 ?_
    refine g_iload (pc' := 68) d_259_66 rfl rfl ?_
    obtain ⟨n12, f13, hw14, h⟩ := h
    obtain ⟨hc15, h⟩ := h
    refine g_iald (pc' := 69) d_259_68 rfl hw14 hc15 ?_
    refine g_if_eq (pc' := 72) (pt := 75) d_259_69 (by decide) rfl (fun c => ?_) (fun c => ?_)
    · replace h := h.1 c
      refine g_iloadn (pc' := 76) d_259_75 rfl rfl ?_
      refine g_if_ne (pc' := 79) (pt := 96) d_259_76 (by decide) rfl (fun c => ?_) (fun c => ?_)
      · replace h := h.1 c
        have h := h _ rfl
        refine g_iinc (pc' := 99) (l' := [some (.ref a0), some (.int i1), some (.int i2), some (.int (i3 + (-1 : Int32))), some (.int i4), some (.int i5)]) d_259_96 rfl rfl ci_m1 ml_259 rfl rfl ?_
        have h := h _ rfl
        refine g_iinc (pc' := 102) (l' := [some (.ref a0), some (.int i1), some (.int i2), some (.int (i3 + (-1 : Int32))), some (.int i4), some (.int (i5 + (2 : Int32)))]) d_259_99 rfl rfl ci_2 ml_259 rfl rfl ?_
        refine g_goto (pt := 48) d_259_102 (by decide) ?_
        exact h
      · replace h := h.2 c
        refine g_iloadn (pc' := 80) d_259_79 rfl rfl ?_
        refine g_if_ne (pc' := 83) (pt := 93) d_259_80 (by decide) rfl (fun c => ?_) (fun c => ?_)
        · replace h := h.1 c
          refine g_iload (pc' := 95) d_259_93 rfl rfl ?_
          exact g_iret d_259_95 rt_259 h
        · replace h := h.2 c
          refine g_aloadn (pc' := 84) d_259_83 rfl rfl ?_
          refine g_getf (pc' := 87) d_259_84 rfl st_259_27 hw2 hv4 ?_
          refine g_iload (pc' := 89) d_259_87 rfl rfl ?_
          obtain ⟨hc18, h⟩ := h
          refine g_iald (pc' := 90) d_259_89 rfl hw7 hc18 ?_
          refine g_goto (pt := 95) d_259_90 (by decide) ?_
          exact g_iret d_259_95 rt_259 h
    · replace h := h.2 c
      refine g_goto (pt := 99) d_259_72 (by decide) ?_
      have h := h _ rfl
      refine g_iinc (pc' := 102) (l' := [some (.ref a0), some (.int i1), some (.int i2), some (.int i3), some (.int i4), some (.int (i5 + (2 : Int32)))]) d_259_99 rfl rfl ci_2 ml_259 rfl rfl ?_
      refine g_goto (pt := 48) d_259_102 (by decide) ?_
      exact h
-- 260 BernoulliWaysModel.second(I)I
theorem S_260_0 {a0 : Nat} {i1 : Int32} {w : xW} {r : Option Value × xW} (h : ∃ fs1, w[a0]? = some (.inr (12, fs1)) ∧ (0 < fs1.length) ∧ ∀ w4, w4 = w.set a0 (.inr (12, fs1.set 0 (.int (0 : Int32)))) → (0 ≤ i1 → ∃ r7 w5, xCall 259 [.ref a0, .int i1, .int (0 : Int32)] w4 (some (.int r7), w5) ∧ (0 ≤ r7 → ∃ fs8, w5[a0]? = some (.inr (12, fs8)) ∧ ∃ r12 w10, xCall 259 [.ref a0, .int i1, .int (1 : Int32)] w5 (some (.int r12), w10) ∧ xGo 260 35 [some (.ref a0), some (.int i1), some (.int r7), some (.int r12), some (.int (0 : Int32))] [] w10 r) ∧ (¬ (0 ≤ r7) → r = (some (.int (-2 : Int32)), w5))) ∧ (¬ (0 ≤ i1) → r = (some (.int (-1 : Int32)), w4))) : xGo 260 0 [some (.ref a0), some (.int i1), none, none, none] [] w r := by
  refine g_aloadn (pc' := 1) d_260_0 rfl rfl ?_
  refine g_iconst (pc' := 2) d_260_1 rfl ci_0 ?_
  obtain ⟨fs1, hw2, h⟩ := h
  obtain ⟨hc3, h⟩ := h
  have h := h _ rfl
  refine g_putf (pc' := 5) d_260_2 rfl st_260_118 ft_12_0 ff_12_0 rfl (Or.inl rfl) hw2 hc3 ?_
  refine g_iloadn (pc' := 6) d_260_5 rfl rfl ?_
  refine g_if_ge (pc' := 9) (pt := 11) d_260_6 (by decide) rfl (fun c => ?_) (fun c => ?_)
  · replace h := h.1 c
    refine g_aloadn (pc' := 12) d_260_11 rfl rfl ?_
    refine g_iloadn (pc' := 13) d_260_12 rfl rfl ?_
    refine g_iconst (pc' := 14) d_260_13 rfl ci_0 ?_
    obtain ⟨r7, w5, hk6, h⟩ := h
    refine g_callV (pc' := 17) d_260_14 rfl st_260_277 na_259 ml_259 rfl rfl rfl rm_260_259 rfl rfl ow_259 (x_gss hw2) hk6 ?_
    refine g_istoren (pc' := 18) (l' := [some (.ref a0), some (.int i1), some (.int r7), none, none]) d_260_17 rfl ml_260 rfl rfl ?_
    refine g_iloadn (pc' := 19) d_260_18 rfl rfl ?_
    refine g_if_ge (pc' := 22) (pt := 25) d_260_19 (by decide) rfl (fun c => ?_) (fun c => ?_)
    · replace h := h.1 c
      refine g_aloadn (pc' := 26) d_260_25 rfl rfl ?_
      refine g_iloadn (pc' := 27) d_260_26 rfl rfl ?_
      refine g_iconst (pc' := 28) d_260_27 rfl ci_1 ?_
      obtain ⟨fs8, hw9, h⟩ := h
      obtain ⟨r12, w10, hk11, h⟩ := h
      refine g_callV (pc' := 31) d_260_28 rfl st_260_277 na_259 ml_259 rfl rfl rfl rm_260_259 rfl rfl ow_259 hw9 hk11 ?_
      refine g_istoren (pc' := 32) (l' := [some (.ref a0), some (.int i1), some (.int r7), some (.int r12), none]) d_260_31 rfl ml_260 rfl rfl ?_
      refine g_iconst (pc' := 33) d_260_32 rfl ci_0 ?_
      refine g_istore (pc' := 35) (l' := [some (.ref a0), some (.int i1), some (.int r7), some (.int r12), some (.int (0 : Int32))]) d_260_33 rfl ml_260 rfl rfl ?_
      exact h
    · replace h := h.2 c
      refine g_bipush (pc' := 24) d_260_22 rfl cb_m2 ?_
      exact g_iret d_260_24 rt_260 h
  · replace h := h.2 c
    refine g_iconst (pc' := 10) d_260_9 rfl ci_m1 ?_
    exact g_iret d_260_10 rt_260 h
theorem S_260_35 {a0 : Nat} {i1 : Int32} {i2 : Int32} {i3 : Int32} {i4 : Int32} {w : xW} {r : Option Value × xW} (h : (i2 ≤ i4 → r = (some (.int (-3 : Int32)), w)) ∧ (¬ (i2 ≤ i4) → ∃ r3 w1, xCall 261 [.int (i3 + (i4 * (i2 - (1 : Int32)))), .int i2] w (some (.int r3), w1) ∧ (r3 = 0 → ∀ v4 : Int32, v4 = i4 + (1 : Int32) → xGo 260 35 [some (.ref a0), some (.int i1), some (.int i2), some (.int i3), some (.int v4)] [] w1 r) ∧ (¬ (r3 = 0) → r = (some (.int (i3 + (i4 * (i2 - (1 : Int32))))), w1)))) : xGo 260 35 [some (.ref a0), some (.int i1), some (.int i2), some (.int i3), some (.int i4)] [] w r := by
  refine g_iload (pc' := 37) d_260_35 rfl rfl ?_
  refine g_iloadn (pc' := 38) d_260_37 rfl rfl ?_
  refine g_ic_ge (pc' := 41) (pt := 71) d_260_38 (by decide) rfl (fun c => ?_) (fun c => ?_)
  · replace h := h.1 c
    refine g_bipush (pc' := 73) d_260_71 rfl cb_m3 ?_
    exact g_iret d_260_73 rt_260 h
  · replace h := h.2 c
    refine g_iloadn (pc' := 42) d_260_41 rfl rfl ?_
    refine g_iload (pc' := 44) d_260_42 rfl rfl ?_
    refine g_iloadn (pc' := 45) d_260_44 rfl rfl ?_
    refine g_iconst (pc' := 46) d_260_45 rfl ci_1 ?_
    refine g_isub (pc' := 47) d_260_46 rfl ?_
    refine g_imul (pc' := 48) d_260_47 rfl ?_
    refine g_iadd (pc' := 49) d_260_48 rfl ?_
    refine g_iloadn (pc' := 50) d_260_49 rfl rfl ?_
    obtain ⟨r3, w1, hk2, h⟩ := h
    refine g_callS (pc' := 53) d_260_50 rfl st_260_280 (Or.inl rfl) na_261 ml_261 rfl rfl rfl rm_260_261 rfl rfl hk2 ?_
    refine g_if_eq (pc' := 56) (pt := 65) d_260_53 (by decide) rfl (fun c => ?_) (fun c => ?_)
    · replace h := h.1 c
      have h := h _ rfl
      refine g_iinc (pc' := 68) (l' := [some (.ref a0), some (.int i1), some (.int i2), some (.int i3), some (.int (i4 + (1 : Int32)))]) d_260_65 rfl rfl ci_1 ml_260 rfl rfl ?_
      refine g_goto (pt := 35) d_260_68 (by decide) ?_
      exact h
    · replace h := h.2 c
      refine g_iloadn (pc' := 57) d_260_56 rfl rfl ?_
      refine g_iload (pc' := 59) d_260_57 rfl rfl ?_
      refine g_iloadn (pc' := 60) d_260_59 rfl rfl ?_
      refine g_iconst (pc' := 61) d_260_60 rfl ci_1 ?_
      refine g_isub (pc' := 62) d_260_61 rfl ?_
      refine g_imul (pc' := 63) d_260_62 rfl ?_
      refine g_iadd (pc' := 64) d_260_63 rfl ?_
      exact g_iret d_260_64 rt_260 h
-- 261 BernoulliWaysModel.hasSquare(II)Z
theorem S_261_0 {i0 : Int32} {i1 : Int32} {w : xW} {r : Option Value × xW} (h : ∀ v1 : Int64, v1 = (((i1.toInt64) * (i1.toInt64)) * (i1.toInt64)) → (¬ i1 = 0) ∧ (¬ (irem i0 i1) = 0 → ∃ r5 w3, xCall 255 [.int i0, .int i1, .long v1] w (some (.long r5), w3) ∧ (¬ ((i1.toInt64) * (i1.toInt64)) = 0) ∧ (¬ (lrem r5 ((i1.toInt64) * (i1.toInt64))) = (0 : Int64) → r = (some (.int (0 : Int32)), w3)) ∧ (¬ (¬ (lrem r5 ((i1.toInt64) * (i1.toInt64))) = (0 : Int64)) → r = (some (.int (1 : Int32)), w3))) ∧ (¬ (¬ (irem i0 i1) = 0) → ∃ r9 w7, xCall 255 [.int i0, .int i1, .long (v1 * (i1.toInt64))] w (some (.long r9), w7) ∧ (¬ v1 = 0) ∧ (¬ (lrem r9 v1) = (0 : Int64) → r = (some (.int (0 : Int32)), w7)) ∧ (¬ (¬ (lrem r9 v1) = (0 : Int64)) → r = (some (.int (1 : Int32)), w7)))) : xGo 261 0 [some (.int i0), some (.int i1), none, none] [] w r := by
  refine g_iloadn (pc' := 1) d_261_0 rfl rfl ?_
  refine g_i2l (pc' := 2) d_261_1 rfl ?_
  refine g_iloadn (pc' := 3) d_261_2 rfl rfl ?_
  refine g_i2l (pc' := 4) d_261_3 rfl ?_
  refine g_lmul (pc' := 5) d_261_4 rfl ?_
  refine g_iloadn (pc' := 6) d_261_5 rfl rfl ?_
  refine g_i2l (pc' := 7) d_261_6 rfl ?_
  refine g_lmul (pc' := 8) d_261_7 rfl ?_
  have h := h _ rfl
  refine g_lstoren (pc' := 9) (l' := [some (.int i0), some (.int i1), some (.long ((((i1.toInt64) * (i1.toInt64)) * (i1.toInt64)))), none]) d_261_8 rfl ml_261 rfl rfl ?_
  refine g_iloadn (pc' := 10) d_261_9 rfl rfl ?_
  refine g_iloadn (pc' := 11) d_261_10 rfl rfl ?_
  obtain ⟨hc2, h⟩ := h
  refine g_irem (pc' := 12) d_261_11 rfl hc2 ?_
  refine g_if_ne (pc' := 15) (pt := 39) d_261_12 (by decide) rfl (fun c => ?_) (fun c => ?_)
  · replace h := h.1 c
    refine g_iloadn (pc' := 40) d_261_39 rfl rfl ?_
    refine g_iloadn (pc' := 41) d_261_40 rfl rfl ?_
    refine g_lloadn (pc' := 42) d_261_41 rfl rfl ?_
    obtain ⟨r5, w3, hk4, h⟩ := h
    refine g_callS (pc' := 45) d_261_42 rfl st_261_264 (Or.inl rfl) na_255 ml_255 rfl rfl rfl rm_261_255 rfl rfl hk4 ?_
    refine g_iloadn (pc' := 46) d_261_45 rfl rfl ?_
    refine g_i2l (pc' := 47) d_261_46 rfl ?_
    refine g_iloadn (pc' := 48) d_261_47 rfl rfl ?_
    refine g_i2l (pc' := 49) d_261_48 rfl ?_
    refine g_lmul (pc' := 50) d_261_49 rfl ?_
    obtain ⟨hc6, h⟩ := h
    refine g_lrem (pc' := 51) d_261_50 rfl hc6 ?_
    refine g_lconst (pc' := 52) d_261_51 rfl cl_0 ?_
    refine g_lc_ne (pc' := 56) (pm := 53) (pt := 60) d_261_52 rfl d_261_53 (by decide) rfl (fun c => ?_) (fun c => ?_)
    · replace h := h.1 c
      refine g_iconst (pc' := 61) d_261_60 rfl ci_0 ?_
      exact g_zret d_261_61 rt_261 (Or.inl rfl) h
    · replace h := h.2 c
      refine g_iconst (pc' := 57) d_261_56 rfl ci_1 ?_
      refine g_goto (pt := 61) d_261_57 (by decide) ?_
      exact g_zret d_261_61 rt_261 (Or.inr rfl) h
  · replace h := h.2 c
    refine g_iloadn (pc' := 16) d_261_15 rfl rfl ?_
    refine g_iloadn (pc' := 17) d_261_16 rfl rfl ?_
    refine g_lloadn (pc' := 18) d_261_17 rfl rfl ?_
    refine g_iloadn (pc' := 19) d_261_18 rfl rfl ?_
    refine g_i2l (pc' := 20) d_261_19 rfl ?_
    refine g_lmul (pc' := 21) d_261_20 rfl ?_
    obtain ⟨r9, w7, hk8, h⟩ := h
    refine g_callS (pc' := 24) d_261_21 rfl st_261_264 (Or.inl rfl) na_255 ml_255 rfl rfl rfl rm_261_255 rfl rfl hk8 ?_
    refine g_lloadn (pc' := 25) d_261_24 rfl rfl ?_
    obtain ⟨hc10, h⟩ := h
    refine g_lrem (pc' := 26) d_261_25 rfl hc10 ?_
    refine g_lconst (pc' := 27) d_261_26 rfl cl_0 ?_
    refine g_lc_ne (pc' := 31) (pm := 28) (pt := 35) d_261_27 rfl d_261_28 (by decide) rfl (fun c => ?_) (fun c => ?_)
    · replace h := h.1 c
      refine g_iconst (pc' := 36) d_261_35 rfl ci_0 ?_
      refine g_goto (pt := 61) d_261_36 (by decide) ?_
      exact g_zret d_261_61 rt_261 (Or.inl rfl) h
    · replace h := h.2 c
      refine g_iconst (pc' := 32) d_261_31 rfl ci_1 ?_
      refine g_goto (pt := 61) d_261_32 (by decide) ?_
      exact g_zret d_261_61 rt_261 (Or.inr rfl) h
-- 262 BernoulliWaysModel.far(II)I
theorem S_262_0 {a0 : Nat} {i1 : Int32} {i2 : Int32} {w : xW} {r : Option Value × xW} (h : ∃ fs1, w[a0]? = some (.inr (12, fs1)) ∧ (0 < fs1.length) ∧ ∀ w4, w4 = w.set a0 (.inr (12, fs1.set 0 (.int (0 : Int32)))) → ∃ r7 w5, xCall 199 [.int i1, .int (2 : Int32), .int (1000000 : Int32)] w4 (some (.int r7), w5) ∧ (r7 = 0 → r = (some (.int (-1 : Int32)), w5)) ∧ (¬ (r7 = 0) → ((irem i1 (2 : Int32)) = (1 : Int32) → r = (some (.int (-1 : Int32)), w5)) ∧ (¬ ((irem i1 (2 : Int32)) = (1 : Int32)) → ∃ fs8, w5[a0]? = some (.inr (12, fs8)) ∧ ∃ r12 w10, xCall 228 [.ref a0, .int i2] w5 (some (.int r12), w10) ∧ (¬ r12 = 0 → (¬ (i2 - (1 : Int32)) = 0) ∧ (¬ (irem i1 (i2 - (1 : Int32))) = 0 → ∃ r16 w14, xCall 255 [.int i1, .int i2, .long ((i2 * i2).toInt64)] w10 (some (.long r16), w14) ∧ r = (some (.int (r16.toInt32)), w14)) ∧ (¬ (¬ (irem i1 (i2 - (1 : Int32))) = 0) → r = (some (.int (-3 : Int32)), w10))) ∧ (¬ (¬ r12 = 0) → r = (some (.int (-1 : Int32)), w10))))) : xGo 262 0 [some (.ref a0), some (.int i1), some (.int i2)] [] w r := by
  refine g_aloadn (pc' := 1) d_262_0 rfl rfl ?_
  refine g_iconst (pc' := 2) d_262_1 rfl ci_0 ?_
  obtain ⟨fs1, hw2, h⟩ := h
  obtain ⟨hc3, h⟩ := h
  have h := h _ rfl
  refine g_putf (pc' := 5) d_262_2 rfl st_262_118 ft_12_0 ff_12_0 rfl (Or.inl rfl) hw2 hc3 ?_
  refine g_iloadn (pc' := 6) d_262_5 rfl rfl ?_
  refine g_iconst (pc' := 7) d_262_6 rfl ci_2 ?_
  refine g_ldcw (pc' := 10) d_262_7 rfl st_262_284 ci_1000000 ?_
  obtain ⟨r7, w5, hk6, h⟩ := h
  refine g_callS (pc' := 13) d_262_10 rfl st_262_137 (Or.inl rfl) na_199 ml_199 rfl rfl rfl rm_262_199 rfl rfl hk6 ?_
  refine g_if_eq (pc' := 16) (pt := 31) d_262_13 (by decide) rfl (fun c => ?_) (fun c => ?_)
  · replace h := h.1 c
    refine g_iconst (pc' := 32) d_262_31 rfl ci_m1 ?_
    exact g_iret d_262_32 rt_262 h
  · replace h := h.2 c
    refine g_iloadn (pc' := 17) d_262_16 rfl rfl ?_
    refine g_iconst (pc' := 18) d_262_17 rfl ci_2 ?_
    refine g_irem (pc' := 19) d_262_18 rfl (by decide) ?_
    refine g_iconst (pc' := 20) d_262_19 rfl ci_1 ?_
    refine g_ic_eq (pc' := 23) (pt := 31) d_262_20 (by decide) rfl (fun c => ?_) (fun c => ?_)
    · replace h := h.1 c
      refine g_iconst (pc' := 32) d_262_31 rfl ci_m1 ?_
      exact g_iret d_262_32 rt_262 h
    · replace h := h.2 c
      refine g_aloadn (pc' := 24) d_262_23 rfl rfl ?_
      refine g_iloadn (pc' := 25) d_262_24 rfl rfl ?_
      obtain ⟨fs8, hw9, h⟩ := h
      obtain ⟨r12, w10, hk11, h⟩ := h
      refine g_callV (pc' := 28) d_262_25 rfl st_262_185 na_228 ml_228 rfl rfl rfl rm_262_228 rfl rfl ow_228 hw9 hk11 ?_
      refine g_if_ne (pc' := 31) (pt := 33) d_262_28 (by decide) rfl (fun c => ?_) (fun c => ?_)
      · replace h := h.1 c
        refine g_iloadn (pc' := 34) d_262_33 rfl rfl ?_
        refine g_iloadn (pc' := 35) d_262_34 rfl rfl ?_
        refine g_iconst (pc' := 36) d_262_35 rfl ci_1 ?_
        refine g_isub (pc' := 37) d_262_36 rfl ?_
        obtain ⟨hc13, h⟩ := h
        refine g_irem (pc' := 38) d_262_37 rfl hc13 ?_
        refine g_if_ne (pc' := 41) (pt := 46) d_262_38 (by decide) rfl (fun c => ?_) (fun c => ?_)
        · replace h := h.1 c
          refine g_iloadn (pc' := 47) d_262_46 rfl rfl ?_
          refine g_iloadn (pc' := 48) d_262_47 rfl rfl ?_
          refine g_iloadn (pc' := 49) d_262_48 rfl rfl ?_
          refine g_iloadn (pc' := 50) d_262_49 rfl rfl ?_
          refine g_imul (pc' := 51) d_262_50 rfl ?_
          refine g_i2l (pc' := 52) d_262_51 rfl ?_
          obtain ⟨r16, w14, hk15, h⟩ := h
          refine g_callS (pc' := 55) d_262_52 rfl st_262_264 (Or.inl rfl) na_255 ml_255 rfl rfl rfl rm_262_255 rfl rfl hk15 ?_
          refine g_l2i (pc' := 56) d_262_55 rfl ?_
          exact g_iret d_262_56 rt_262 h
        · replace h := h.2 c
          refine g_bipush (pc' := 43) d_262_41 rfl cb_m3 ?_
          refine g_goto (pt := 56) d_262_43 (by decide) ?_
          exact g_iret d_262_56 rt_262 h
      · replace h := h.2 c
        refine g_iconst (pc' := 32) d_262_31 rfl ci_m1 ?_
        exact g_iret d_262_32 rt_262 h
-- 263 BernoulliWaysModel.harmonic(I)I
theorem S_263_0 {a0 : Nat} {i1 : Int32} {w : xW} {r : Option Value × xW} (h : ∃ fs1, w[a0]? = some (.inr (12, fs1)) ∧ (0 < fs1.length) ∧ ∀ w4, w4 = w.set a0 (.inr (12, fs1.set 0 (.int (0 : Int32)))) → ∃ r7 w5, xCall 228 [.ref a0, .int i1] w4 (some (.int r7), w5) ∧ (r7 = 0 → r = (some (.int (-1 : Int32)), w5)) ∧ (¬ (r7 = 0) → ((5 : Int32) ≤ i1 → ∀ v8 : Int64, v8 = (((i1.toInt64) * (i1.toInt64)) * (i1.toInt64)) → xGo 263 35 [some (.ref a0), some (.int i1), some (.long v8), none, some (.long (0 : Int64)), none, some (.int (1 : Int32))] [] w5 r) ∧ (¬ ((5 : Int32) ≤ i1) → r = (some (.int (-1 : Int32)), w5)))) : xGo 263 0 [some (.ref a0), some (.int i1), none, none, none, none, none] [] w r := by
  refine g_aloadn (pc' := 1) d_263_0 rfl rfl ?_
  refine g_iconst (pc' := 2) d_263_1 rfl ci_0 ?_
  obtain ⟨fs1, hw2, h⟩ := h
  obtain ⟨hc3, h⟩ := h
  have h := h _ rfl
  refine g_putf (pc' := 5) d_263_2 rfl st_263_118 ft_12_0 ff_12_0 rfl (Or.inl rfl) hw2 hc3 ?_
  refine g_aloadn (pc' := 6) d_263_5 rfl rfl ?_
  refine g_iloadn (pc' := 7) d_263_6 rfl rfl ?_
  obtain ⟨r7, w5, hk6, h⟩ := h
  refine g_callV (pc' := 10) d_263_7 rfl st_263_185 na_228 ml_228 rfl rfl rfl rm_263_228 rfl rfl ow_228 (x_gss hw2) hk6 ?_
  refine g_if_eq (pc' := 13) (pt := 18) d_263_10 (by decide) rfl (fun c => ?_) (fun c => ?_)
  · replace h := h.1 c
    refine g_iconst (pc' := 19) d_263_18 rfl ci_m1 ?_
    exact g_iret d_263_19 rt_263 h
  · replace h := h.2 c
    refine g_iloadn (pc' := 14) d_263_13 rfl rfl ?_
    refine g_iconst (pc' := 15) d_263_14 rfl ci_5 ?_
    refine g_ic_ge (pc' := 18) (pt := 20) d_263_15 (by decide) rfl (fun c => ?_) (fun c => ?_)
    · replace h := h.1 c
      refine g_iloadn (pc' := 21) d_263_20 rfl rfl ?_
      refine g_i2l (pc' := 22) d_263_21 rfl ?_
      refine g_iloadn (pc' := 23) d_263_22 rfl rfl ?_
      refine g_i2l (pc' := 24) d_263_23 rfl ?_
      refine g_lmul (pc' := 25) d_263_24 rfl ?_
      refine g_iloadn (pc' := 26) d_263_25 rfl rfl ?_
      refine g_i2l (pc' := 27) d_263_26 rfl ?_
      refine g_lmul (pc' := 28) d_263_27 rfl ?_
      have h := h _ rfl
      refine g_lstoren (pc' := 29) (l' := [some (.ref a0), some (.int i1), some (.long ((((i1.toInt64) * (i1.toInt64)) * (i1.toInt64)))), none, none, none, none]) d_263_28 rfl ml_263 rfl rfl ?_
      refine g_lconst (pc' := 30) d_263_29 rfl cl_0 ?_
      refine g_lstore (pc' := 32) (l' := [some (.ref a0), some (.int i1), some (.long ((((i1.toInt64) * (i1.toInt64)) * (i1.toInt64)))), none, some (.long (0 : Int64)), none, none]) d_263_30 rfl ml_263 rfl rfl ?_
      refine g_iconst (pc' := 33) d_263_32 rfl ci_1 ?_
      refine g_istore (pc' := 35) (l' := [some (.ref a0), some (.int i1), some (.long ((((i1.toInt64) * (i1.toInt64)) * (i1.toInt64)))), none, some (.long (0 : Int64)), none, some (.int (1 : Int32))]) d_263_33 rfl ml_263 rfl rfl ?_
      exact h
    · replace h := h.2 c
      refine g_iconst (pc' := 19) d_263_18 rfl ci_m1 ?_
      exact g_iret d_263_19 rt_263 h
theorem S_263_35 {a0 : Nat} {i1 : Int32} {l2 : Int64} {l4 : Int64} {i6 : Int32} {w : xW} {r : Option Value × xW} (h : (i1 ≤ i6 → (¬ ((i1.toInt64) * (i1.toInt64)) = 0) ∧ r = (some (.int ((l4 / ((i1.toInt64) * (i1.toInt64))).toInt32)), w)) ∧ (¬ (i1 ≤ i6) → ∃ r4 w2, xCall 240 [.long (i6.toInt64), .int (((i1 * i1) * (i1 - (1 : Int32))) - (1 : Int32)), .long l2] w (some (.long r4), w2) ∧ (¬ l2 = 0) ∧ ∀ v6 : Int64, v6 = (lrem (l4 + r4) l2) → ∀ v7 : Int32, v7 = i6 + (1 : Int32) → xGo 263 35 [some (.ref a0), some (.int i1), some (.long l2), none, some (.long v6), none, some (.int v7)] [] w2 r)) : xGo 263 35 [some (.ref a0), some (.int i1), some (.long l2), none, some (.long l4), none, some (.int i6)] [] w r := by
  refine g_iload (pc' := 37) d_263_35 rfl rfl ?_
  refine g_iloadn (pc' := 38) d_263_37 rfl rfl ?_
  refine g_ic_ge (pc' := 41) (pt := 70) d_263_38 (by decide) rfl (fun c => ?_) (fun c => ?_)
  · replace h := h.1 c
    refine g_lload (pc' := 72) d_263_70 rfl rfl ?_
    refine g_iloadn (pc' := 73) d_263_72 rfl rfl ?_
    refine g_i2l (pc' := 74) d_263_73 rfl ?_
    refine g_iloadn (pc' := 75) d_263_74 rfl rfl ?_
    refine g_i2l (pc' := 76) d_263_75 rfl ?_
    refine g_lmul (pc' := 77) d_263_76 rfl ?_
    obtain ⟨hc1, h⟩ := h
    refine g_ldiv (pc' := 78) d_263_77 rfl hc1 ?_
    refine g_l2i (pc' := 79) d_263_78 rfl ?_
    exact g_iret d_263_79 rt_263 h
  · replace h := h.2 c
    refine g_lload (pc' := 43) d_263_41 rfl rfl ?_
    refine g_iload (pc' := 45) d_263_43 rfl rfl ?_
    refine g_i2l (pc' := 46) d_263_45 rfl ?_
    refine g_iloadn (pc' := 47) d_263_46 rfl rfl ?_
    refine g_iloadn (pc' := 48) d_263_47 rfl rfl ?_
    refine g_imul (pc' := 49) d_263_48 rfl ?_
    refine g_iloadn (pc' := 50) d_263_49 rfl rfl ?_
    refine g_iconst (pc' := 51) d_263_50 rfl ci_1 ?_
    refine g_isub (pc' := 52) d_263_51 rfl ?_
    refine g_imul (pc' := 53) d_263_52 rfl ?_
    refine g_iconst (pc' := 54) d_263_53 rfl ci_1 ?_
    refine g_isub (pc' := 55) d_263_54 rfl ?_
    refine g_lloadn (pc' := 56) d_263_55 rfl rfl ?_
    obtain ⟨r4, w2, hk3, h⟩ := h
    refine g_callS (pc' := 59) d_263_56 rfl st_263_208 (Or.inl rfl) na_240 ml_240 rfl rfl rfl rm_263_240 rfl rfl hk3 ?_
    refine g_ladd (pc' := 60) d_263_59 rfl ?_
    refine g_lloadn (pc' := 61) d_263_60 rfl rfl ?_
    obtain ⟨hc5, h⟩ := h
    refine g_lrem (pc' := 62) d_263_61 rfl hc5 ?_
    have h := h _ rfl
    refine g_lstore (pc' := 64) (l' := [some (.ref a0), some (.int i1), some (.long l2), none, some (.long ((lrem (l4 + r4) l2))), none, some (.int i6)]) d_263_62 rfl ml_263 rfl rfl ?_
    have h := h _ rfl
    refine g_iinc (pc' := 67) (l' := [some (.ref a0), some (.int i1), some (.long l2), none, some (.long ((lrem (l4 + r4) l2))), none, some (.int (i6 + (1 : Int32)))]) d_263_64 rfl rfl ci_1 ml_263 rfl rfl ?_
    refine g_goto (pt := 35) d_263_67 (by decide) ?_
    exact h
-- 264 BernoulliWaysModel.wilson(I)I
theorem S_264_0 {a0 : Nat} {i1 : Int32} {w : xW} {r : Option Value × xW} (h : ∃ fs1, w[a0]? = some (.inr (12, fs1)) ∧ (0 < fs1.length) ∧ ∀ w4, w4 = w.set a0 (.inr (12, fs1.set 0 (.int (0 : Int32)))) → ∃ r7 w5, xCall 228 [.ref a0, .int i1] w4 (some (.int r7), w5) ∧ (¬ r7 = 0 → xGo 264 20 [some (.ref a0), some (.int i1), some (.long (1 : Int64)), none, some (.int (2 : Int32))] [] w5 r) ∧ (¬ (¬ r7 = 0) → r = (some (.int (-1 : Int32)), w5))) : xGo 264 0 [some (.ref a0), some (.int i1), none, none, none] [] w r := by
  refine g_aloadn (pc' := 1) d_264_0 rfl rfl ?_
  refine g_iconst (pc' := 2) d_264_1 rfl ci_0 ?_
  obtain ⟨fs1, hw2, h⟩ := h
  obtain ⟨hc3, h⟩ := h
  have h := h _ rfl
  refine g_putf (pc' := 5) d_264_2 rfl st_264_118 ft_12_0 ff_12_0 rfl (Or.inl rfl) hw2 hc3 ?_
  refine g_aloadn (pc' := 6) d_264_5 rfl rfl ?_
  refine g_iloadn (pc' := 7) d_264_6 rfl rfl ?_
  obtain ⟨r7, w5, hk6, h⟩ := h
  refine g_callV (pc' := 10) d_264_7 rfl st_264_185 na_228 ml_228 rfl rfl rfl rm_264_228 rfl rfl ow_228 (x_gss hw2) hk6 ?_
  refine g_if_ne (pc' := 13) (pt := 15) d_264_10 (by decide) rfl (fun c => ?_) (fun c => ?_)
  · replace h := h.1 c
    refine g_lconst (pc' := 16) d_264_15 rfl cl_1 ?_
    refine g_lstoren (pc' := 17) (l' := [some (.ref a0), some (.int i1), some (.long (1 : Int64)), none, none]) d_264_16 rfl ml_264 rfl rfl ?_
    refine g_iconst (pc' := 18) d_264_17 rfl ci_2 ?_
    refine g_istore (pc' := 20) (l' := [some (.ref a0), some (.int i1), some (.long (1 : Int64)), none, some (.int (2 : Int32))]) d_264_18 rfl ml_264 rfl rfl ?_
    exact h
  · replace h := h.2 c
    refine g_iconst (pc' := 14) d_264_13 rfl ci_m1 ?_
    exact g_iret d_264_14 rt_264 h
theorem S_264_20 {a0 : Nat} {i1 : Int32} {l2 : Int64} {i4 : Int32} {w : xW} {r : Option Value × xW} (h : (i1 ≤ i4 → (¬ (i1.toInt64) = 0) ∧ (¬ (i1.toInt64) = 0) ∧ r = (some (.int ((lrem ((l2 + (1 : Int64)) / (i1.toInt64)) (i1.toInt64)).toInt32)), w)) ∧ (¬ (i1 ≤ i4) → (¬ ((i1 * i1).toInt64) = 0) ∧ ∀ v4 : Int64, v4 = (lrem (l2 * (i4.toInt64)) ((i1 * i1).toInt64)) → ∀ v5 : Int32, v5 = i4 + (1 : Int32) → xGo 264 20 [some (.ref a0), some (.int i1), some (.long v4), none, some (.int v5)] [] w r)) : xGo 264 20 [some (.ref a0), some (.int i1), some (.long l2), none, some (.int i4)] [] w r := by
  refine g_iload (pc' := 22) d_264_20 rfl rfl ?_
  refine g_iloadn (pc' := 23) d_264_22 rfl rfl ?_
  refine g_ic_ge (pc' := 26) (pt := 43) d_264_23 (by decide) rfl (fun c => ?_) (fun c => ?_)
  · replace h := h.1 c
    refine g_lloadn (pc' := 44) d_264_43 rfl rfl ?_
    refine g_lconst (pc' := 45) d_264_44 rfl cl_1 ?_
    refine g_ladd (pc' := 46) d_264_45 rfl ?_
    refine g_iloadn (pc' := 47) d_264_46 rfl rfl ?_
    refine g_i2l (pc' := 48) d_264_47 rfl ?_
    obtain ⟨hc1, h⟩ := h
    refine g_ldiv (pc' := 49) d_264_48 rfl hc1 ?_
    refine g_iloadn (pc' := 50) d_264_49 rfl rfl ?_
    refine g_i2l (pc' := 51) d_264_50 rfl ?_
    obtain ⟨hc2, h⟩ := h
    refine g_lrem (pc' := 52) d_264_51 rfl hc2 ?_
    refine g_l2i (pc' := 53) d_264_52 rfl ?_
    exact g_iret d_264_53 rt_264 h
  · replace h := h.2 c
    refine g_lloadn (pc' := 27) d_264_26 rfl rfl ?_
    refine g_iload (pc' := 29) d_264_27 rfl rfl ?_
    refine g_i2l (pc' := 30) d_264_29 rfl ?_
    refine g_lmul (pc' := 31) d_264_30 rfl ?_
    refine g_iloadn (pc' := 32) d_264_31 rfl rfl ?_
    refine g_iloadn (pc' := 33) d_264_32 rfl rfl ?_
    refine g_imul (pc' := 34) d_264_33 rfl ?_
    refine g_i2l (pc' := 35) d_264_34 rfl ?_
    obtain ⟨hc3, h⟩ := h
    refine g_lrem (pc' := 36) d_264_35 rfl hc3 ?_
    have h := h _ rfl
    refine g_lstoren (pc' := 37) (l' := [some (.ref a0), some (.int i1), some (.long ((lrem (l2 * (i4.toInt64)) ((i1 * i1).toInt64)))), none, some (.int i4)]) d_264_36 rfl ml_264 rfl rfl ?_
    have h := h _ rfl
    refine g_iinc (pc' := 40) (l' := [some (.ref a0), some (.int i1), some (.long ((lrem (l2 * (i4.toInt64)) ((i1 * i1).toInt64)))), none, some (.int (i4 + (1 : Int32)))]) d_264_37 rfl rfl ci_1 ml_264 rfl rfl ?_
    refine g_goto (pt := 20) d_264_40 (by decide) ?_
    exact h
-- 265 BernoulliWaysModel.classNumber(I)I
theorem S_265_0 {a0 : Nat} {i1 : Int32} {w : xW} {r : Option Value × xW} (h : ∃ fs1, w[a0]? = some (.inr (12, fs1)) ∧ (0 < fs1.length) ∧ ∀ w4, w4 = w.set a0 (.inr (12, fs1.set 0 (.int (0 : Int32)))) → ∃ r7 w5, xCall 228 [.ref a0, .int i1] w4 (some (.int r7), w5) ∧ (r7 = 0 → r = (some (.int (-1 : Int32)), w5)) ∧ (¬ (r7 = 0) → (i1 < (7 : Int32) → r = (some (.int (-1 : Int32)), w5)) ∧ (¬ (i1 < (7 : Int32)) → ((irem i1 (4 : Int32)) = (3 : Int32) → xGo 265 32 [some (.ref a0), some (.int i1), some (.int (0 : Int32)), some (.int (1 : Int32))] [] w5 r) ∧ (¬ ((irem i1 (4 : Int32)) = (3 : Int32)) → r = (some (.int (-1 : Int32)), w5))))) : xGo 265 0 [some (.ref a0), some (.int i1), none, none] [] w r := by
  refine g_aloadn (pc' := 1) d_265_0 rfl rfl ?_
  refine g_iconst (pc' := 2) d_265_1 rfl ci_0 ?_
  obtain ⟨fs1, hw2, h⟩ := h
  obtain ⟨hc3, h⟩ := h
  have h := h _ rfl
  refine g_putf (pc' := 5) d_265_2 rfl st_265_118 ft_12_0 ff_12_0 rfl (Or.inl rfl) hw2 hc3 ?_
  refine g_aloadn (pc' := 6) d_265_5 rfl rfl ?_
  refine g_iloadn (pc' := 7) d_265_6 rfl rfl ?_
  obtain ⟨r7, w5, hk6, h⟩ := h
  refine g_callV (pc' := 10) d_265_7 rfl st_265_185 na_228 ml_228 rfl rfl rfl rm_265_228 rfl rfl ow_228 (x_gss hw2) hk6 ?_
  refine g_if_eq (pc' := 13) (pt := 26) d_265_10 (by decide) rfl (fun c => ?_) (fun c => ?_)
  · replace h := h.1 c
    refine g_iconst (pc' := 27) d_265_26 rfl ci_m1 ?_
    exact g_iret d_265_27 rt_265 h
  · replace h := h.2 c
    refine g_iloadn (pc' := 14) d_265_13 rfl rfl ?_
    refine g_bipush (pc' := 16) d_265_14 rfl cb_7 ?_
    refine g_ic_lt (pc' := 19) (pt := 26) d_265_16 (by decide) rfl (fun c => ?_) (fun c => ?_)
    · replace h := h.1 c
      refine g_iconst (pc' := 27) d_265_26 rfl ci_m1 ?_
      exact g_iret d_265_27 rt_265 h
    · replace h := h.2 c
      refine g_iloadn (pc' := 20) d_265_19 rfl rfl ?_
      refine g_iconst (pc' := 21) d_265_20 rfl ci_4 ?_
      refine g_irem (pc' := 22) d_265_21 rfl (by decide) ?_
      refine g_iconst (pc' := 23) d_265_22 rfl ci_3 ?_
      refine g_ic_eq (pc' := 26) (pt := 28) d_265_23 (by decide) rfl (fun c => ?_) (fun c => ?_)
      · replace h := h.1 c
        refine g_iconst (pc' := 29) d_265_28 rfl ci_0 ?_
        refine g_istoren (pc' := 30) (l' := [some (.ref a0), some (.int i1), some (.int (0 : Int32)), none]) d_265_29 rfl ml_265 rfl rfl ?_
        refine g_iconst (pc' := 31) d_265_30 rfl ci_1 ?_
        refine g_istoren (pc' := 32) (l' := [some (.ref a0), some (.int i1), some (.int (0 : Int32)), some (.int (1 : Int32))]) d_265_31 rfl ml_265 rfl rfl ?_
        exact h
      · replace h := h.2 c
        refine g_iconst (pc' := 27) d_265_26 rfl ci_m1 ?_
        exact g_iret d_265_27 rt_265 h
theorem S_265_32 {a0 : Nat} {i1 : Int32} {i2 : Int32} {i3 : Int32} {w : xW} {r : Option Value × xW} (h : (i1 ≤ i3 → (¬ i1 = 0) ∧ r = (some (.int (i2 / i1)), w)) ∧ (¬ (i1 ≤ i3) → ∃ r4 w2, xCall 266 [.int i3, .int i1] w (some (.int r4), w2) ∧ ∀ v5 : Int32, v5 = (i2 - (i3 * r4)) → ∀ v6 : Int32, v6 = i3 + (1 : Int32) → xGo 265 32 [some (.ref a0), some (.int i1), some (.int v5), some (.int v6)] [] w2 r)) : xGo 265 32 [some (.ref a0), some (.int i1), some (.int i2), some (.int i3)] [] w r := by
  refine g_iloadn (pc' := 33) d_265_32 rfl rfl ?_
  refine g_iloadn (pc' := 34) d_265_33 rfl rfl ?_
  refine g_ic_ge (pc' := 37) (pt := 53) d_265_34 (by decide) rfl (fun c => ?_) (fun c => ?_)
  · replace h := h.1 c
    refine g_iloadn (pc' := 54) d_265_53 rfl rfl ?_
    refine g_iloadn (pc' := 55) d_265_54 rfl rfl ?_
    obtain ⟨hc1, h⟩ := h
    refine g_idiv (pc' := 56) d_265_55 rfl hc1 ?_
    exact g_iret d_265_56 rt_265 h
  · replace h := h.2 c
    refine g_iloadn (pc' := 38) d_265_37 rfl rfl ?_
    refine g_iloadn (pc' := 39) d_265_38 rfl rfl ?_
    refine g_iloadn (pc' := 40) d_265_39 rfl rfl ?_
    refine g_iloadn (pc' := 41) d_265_40 rfl rfl ?_
    obtain ⟨r4, w2, hk3, h⟩ := h
    refine g_callS (pc' := 44) d_265_41 rfl st_265_285 (Or.inl rfl) na_266 ml_266 rfl rfl rfl rm_265_266 rfl rfl hk3 ?_
    refine g_imul (pc' := 45) d_265_44 rfl ?_
    refine g_isub (pc' := 46) d_265_45 rfl ?_
    have h := h _ rfl
    refine g_istoren (pc' := 47) (l' := [some (.ref a0), some (.int i1), some (.int ((i2 - (i3 * r4)))), some (.int i3)]) d_265_46 rfl ml_265 rfl rfl ?_
    have h := h _ rfl
    refine g_iinc (pc' := 50) (l' := [some (.ref a0), some (.int i1), some (.int ((i2 - (i3 * r4)))), some (.int (i3 + (1 : Int32)))]) d_265_47 rfl rfl ci_1 ml_265 rfl rfl ?_
    refine g_goto (pt := 32) d_265_50 (by decide) ?_
    exact h
-- 266 BernoulliWaysModel.signOf(II)I
theorem S_266_0 {i0 : Int32} {i1 : Int32} {w : xW} {r : Option Value × xW} (h : (¬ i1 = 0) ∧ ∃ r4 w2, xCall 216 [.int (irem i0 i1), .int ((i1 - (1 : Int32)) / (2 : Int32)), .int i1] w (some (.int r4), w2) ∧ (¬ r4 = (i1 - (1 : Int32)) → r = (some (.int r4), w2)) ∧ (¬ (¬ r4 = (i1 - (1 : Int32))) → r = (some (.int (-1 : Int32)), w2))) : xGo 266 0 [some (.int i0), some (.int i1), none] [] w r := by
  refine g_iloadn (pc' := 1) d_266_0 rfl rfl ?_
  refine g_iloadn (pc' := 2) d_266_1 rfl rfl ?_
  obtain ⟨hc1, h⟩ := h
  refine g_irem (pc' := 3) d_266_2 rfl hc1 ?_
  refine g_iloadn (pc' := 4) d_266_3 rfl rfl ?_
  refine g_iconst (pc' := 5) d_266_4 rfl ci_1 ?_
  refine g_isub (pc' := 6) d_266_5 rfl ?_
  refine g_iconst (pc' := 7) d_266_6 rfl ci_2 ?_
  refine g_idiv (pc' := 8) d_266_7 rfl (by decide) ?_
  refine g_iloadn (pc' := 9) d_266_8 rfl rfl ?_
  obtain ⟨r4, w2, hk3, h⟩ := h
  refine g_callS (pc' := 12) d_266_9 rfl st_266_174 (Or.inl rfl) na_216 ml_216 rfl rfl rfl rm_266_216 rfl rfl hk3 ?_
  refine g_istoren (pc' := 13) (l' := [some (.int i0), some (.int i1), some (.int r4)]) d_266_12 rfl ml_266 rfl rfl ?_
  refine g_iloadn (pc' := 14) d_266_13 rfl rfl ?_
  refine g_iloadn (pc' := 15) d_266_14 rfl rfl ?_
  refine g_iconst (pc' := 16) d_266_15 rfl ci_1 ?_
  refine g_isub (pc' := 17) d_266_16 rfl ?_
  refine g_ic_ne (pc' := 20) (pt := 24) d_266_17 (by decide) rfl (fun c => ?_) (fun c => ?_)
  · replace h := h.1 c
    refine g_iloadn (pc' := 25) d_266_24 rfl rfl ?_
    exact g_iret d_266_25 rt_266 h
  · replace h := h.2 c
    refine g_iconst (pc' := 21) d_266_20 rfl ci_m1 ?_
    refine g_goto (pt := 25) d_266_21 (by decide) ?_
    exact g_iret d_266_25 rt_266 h
-- 267 BernoulliWaysModel.quadratic(III)J
theorem S_267_0 {a0 : Nat} {i1 : Int32} {i2 : Int32} {i3 : Int32} {w : xW} {r : Option Value × xW} (h : ∃ fs1, w[a0]? = some (.inr (12, fs1)) ∧ (0 < fs1.length) ∧ ∀ w4, w4 = w.set a0 (.inr (12, fs1.set 0 (.int (0 : Int32)))) → ∃ r7 w5, xCall 228 [.ref a0, .int i1] w4 (some (.int r7), w5) ∧ (r7 = 0 → r = (some (.long (-9223372036854775808 : Int64)), w5)) ∧ (¬ (r7 = 0) → ∃ r10 w8, xCall 199 [.int i2, .int (1 : Int32), .int (4 : Int32)] w5 (some (.int r10), w8) ∧ (r10 = 0 → r = (some (.long (-9223372036854775808 : Int64)), w8)) ∧ (¬ (r10 = 0) → ∃ r13 w11, xCall 199 [.int i3, .int (0 : Int32), .int (2 : Int32)] w8 (some (.int r13), w11) ∧ (¬ r13 = 0 → xGo 267 41 [some (.ref a0), some (.int i1), some (.int i2), some (.int i3), some (.long (0 : Int64)), none, some (.int (1 : Int32)), none, none, none] [] w11 r) ∧ (¬ (¬ r13 = 0) → r = (some (.long (-9223372036854775808 : Int64)), w11))))) : xGo 267 0 [some (.ref a0), some (.int i1), some (.int i2), some (.int i3), none, none, none, none, none, none] [] w r := by
  refine g_aloadn (pc' := 1) d_267_0 rfl rfl ?_
  refine g_iconst (pc' := 2) d_267_1 rfl ci_0 ?_
  obtain ⟨fs1, hw2, h⟩ := h
  obtain ⟨hc3, h⟩ := h
  have h := h _ rfl
  refine g_putf (pc' := 5) d_267_2 rfl st_267_118 ft_12_0 ff_12_0 rfl (Or.inl rfl) hw2 hc3 ?_
  refine g_aloadn (pc' := 6) d_267_5 rfl rfl ?_
  refine g_iloadn (pc' := 7) d_267_6 rfl rfl ?_
  obtain ⟨r7, w5, hk6, h⟩ := h
  refine g_callV (pc' := 10) d_267_7 rfl st_267_185 na_228 ml_228 rfl rfl rfl rm_267_228 rfl rfl ow_228 (x_gss hw2) hk6 ?_
  refine g_if_eq (pc' := 13) (pt := 31) d_267_10 (by decide) rfl (fun c => ?_) (fun c => ?_)
  · replace h := h.1 c
    refine g_ldc2 (pc' := 34) d_267_31 rfl st_267_166 cL_m9223372036854775808 ?_
    exact g_lret d_267_34 rt_267 h
  · replace h := h.2 c
    refine g_iloadn (pc' := 14) d_267_13 rfl rfl ?_
    refine g_iconst (pc' := 15) d_267_14 rfl ci_1 ?_
    refine g_iconst (pc' := 16) d_267_15 rfl ci_4 ?_
    obtain ⟨r10, w8, hk9, h⟩ := h
    refine g_callS (pc' := 19) d_267_16 rfl st_267_137 (Or.inl rfl) na_199 ml_199 rfl rfl rfl rm_267_199 rfl rfl hk9 ?_
    refine g_if_eq (pc' := 22) (pt := 31) d_267_19 (by decide) rfl (fun c => ?_) (fun c => ?_)
    · replace h := h.1 c
      refine g_ldc2 (pc' := 34) d_267_31 rfl st_267_166 cL_m9223372036854775808 ?_
      exact g_lret d_267_34 rt_267 h
    · replace h := h.2 c
      refine g_iloadn (pc' := 23) d_267_22 rfl rfl ?_
      refine g_iconst (pc' := 24) d_267_23 rfl ci_0 ?_
      refine g_iconst (pc' := 25) d_267_24 rfl ci_2 ?_
      obtain ⟨r13, w11, hk12, h⟩ := h
      refine g_callS (pc' := 28) d_267_25 rfl st_267_137 (Or.inl rfl) na_199 ml_199 rfl rfl rfl rm_267_199 rfl rfl hk12 ?_
      refine g_if_ne (pc' := 31) (pt := 35) d_267_28 (by decide) rfl (fun c => ?_) (fun c => ?_)
      · replace h := h.1 c
        refine g_lconst (pc' := 36) d_267_35 rfl cl_0 ?_
        refine g_lstore (pc' := 38) (l' := [some (.ref a0), some (.int i1), some (.int i2), some (.int i3), some (.long (0 : Int64)), none, none, none, none, none]) d_267_36 rfl ml_267 rfl rfl ?_
        refine g_iconst (pc' := 39) d_267_38 rfl ci_1 ?_
        refine g_istore (pc' := 41) (l' := [some (.ref a0), some (.int i1), some (.int i2), some (.int i3), some (.long (0 : Int64)), none, some (.int (1 : Int32)), none, none, none]) d_267_39 rfl ml_267 rfl rfl ?_
        exact h
      · replace h := h.2 c
        refine g_ldc2 (pc' := 34) d_267_31 rfl st_267_166 cL_m9223372036854775808 ?_
        exact g_lret d_267_34 rt_267 h
theorem S_267_41 {a0 : Nat} {i1 : Int32} {i2 : Int32} {i3 : Int32} {l4 : Int64} {i6 : Int32} {w : xW} {r : Option Value × xW} (h : (i1 ≤ i6 → ∀ v1 : Int64, v1 = ((30 : Int64) * (i1.toInt64)) → ∃ r4 w2, xCall 193 [.long l4, .long v1] w (some (.long r4), w2) ∧ ∃ fs5, w2[a0]? = some (.inr (12, fs5)) ∧ ∃ b7, fs5[29]? = some (.ref b7) ∧ ∃ w9, xCall 194 [.ref a0, .ref b7, .int (0 : Int32), .long r4, .long (l4 - (r4 * v1)), .long v1] w2 (none, w9) ∧ ∃ fs11, w9[a0]? = some (.inr (12, fs11)) ∧ ∃ b13, fs11[29]? = some (.ref b13) ∧ ∃ n15 f16, w9[b13]? = some (.inl (.inr (n15, f16))) ∧ (¬ (i3 < 0 ∨ n15 ≤ i3.toNatClampNeg)) ∧ r = (some (.long (f16 i3.toNatClampNeg)), w9)) ∧ (¬ (i1 ≤ i6) → xGo 267 53 [some (.ref a0), some (.int i1), some (.int i2), some (.int i3), some (.long l4), none, some (.int i6), some (.long (0 : Int64)), none, some (.int (0 : Int32))] [] w r)) : xGo 267 41 [some (.ref a0), some (.int i1), some (.int i2), some (.int i3), some (.long l4), none, some (.int i6), none, none, none] [] w r := by
  refine g_iload (pc' := 43) d_267_41 rfl rfl ?_
  refine g_iloadn (pc' := 44) d_267_43 rfl rfl ?_
  refine g_ic_ge (pc' := 47) (pt := 133) d_267_44 (by decide) rfl (fun c => ?_) (fun c => ?_)
  · replace h := h.1 c
    refine g_ldc2 (pc' := 136) d_267_133 rfl st_267_291 cL_30 ?_
    refine g_iloadn (pc' := 137) d_267_136 rfl rfl ?_
    refine g_i2l (pc' := 138) d_267_137 rfl ?_
    refine g_lmul (pc' := 139) d_267_138 rfl ?_
    have h := h _ rfl
    refine g_lstore (pc' := 141) (l' := [some (.ref a0), some (.int i1), some (.int i2), some (.int i3), some (.long l4), none, some (.long (((30 : Int64) * (i1.toInt64)))), none, none, none]) d_267_139 rfl ml_267 rfl rfl ?_
    refine g_lload (pc' := 143) d_267_141 rfl rfl ?_
    refine g_lload (pc' := 145) d_267_143 rfl rfl ?_
    obtain ⟨r4, w2, hk3, h⟩ := h
    refine g_callS (pc' := 148) d_267_145 rfl st_267_131 (Or.inl rfl) na_193 ml_193 rfl rfl rfl rm_267_193 rfl rfl hk3 ?_
    refine g_lstore (pc' := 150) (l' := [some (.ref a0), some (.int i1), some (.int i2), some (.int i3), some (.long l4), none, some (.long (((30 : Int64) * (i1.toInt64)))), none, some (.long r4), none]) d_267_148 rfl ml_267 rfl rfl ?_
    refine g_aloadn (pc' := 151) d_267_150 rfl rfl ?_
    refine g_aloadn (pc' := 152) d_267_151 rfl rfl ?_
    obtain ⟨fs5, hw6, h⟩ := h
    obtain ⟨b7, hv8, h⟩ := h
    refine g_getf (pc' := 155) d_267_152 rfl st_267_81 hw6 hv8 ?_
    refine g_iconst (pc' := 156) d_267_155 rfl ci_0 ?_
    refine g_lload (pc' := 158) d_267_156 rfl rfl ?_
    refine g_lload (pc' := 160) d_267_158 rfl rfl ?_
    refine g_lload (pc' := 162) d_267_160 rfl rfl ?_
    refine g_lload (pc' := 164) d_267_162 rfl rfl ?_
    refine g_lmul (pc' := 165) d_267_164 rfl ?_
    refine g_lsub (pc' := 166) d_267_165 rfl ?_
    refine g_lload (pc' := 168) d_267_166 rfl rfl ?_
    obtain ⟨w9, hk10, h⟩ := h
    refine g_callV (pc' := 171) d_267_168 rfl st_267_134 na_194 ml_194 rfl rfl rfl rm_267_194 rfl rfl ow_194 hw6 hk10 ?_
    refine g_aloadn (pc' := 172) d_267_171 rfl rfl ?_
    obtain ⟨fs11, hw12, h⟩ := h
    obtain ⟨b13, hv14, h⟩ := h
    refine g_getf (pc' := 175) d_267_172 rfl st_267_81 hw12 hv14 ?_
    refine g_iloadn (pc' := 176) d_267_175 rfl rfl ?_
    obtain ⟨n15, f16, hw17, h⟩ := h
    obtain ⟨hc18, h⟩ := h
    refine g_lald (pc' := 177) d_267_176 rfl hw17 hc18 ?_
    exact g_lret d_267_177 rt_267 h
  · replace h := h.2 c
    refine g_lconst (pc' := 48) d_267_47 rfl cl_0 ?_
    refine g_lstore (pc' := 50) (l' := [some (.ref a0), some (.int i1), some (.int i2), some (.int i3), some (.long l4), none, some (.int i6), some (.long (0 : Int64)), none, none]) d_267_48 rfl ml_267 rfl rfl ?_
    refine g_iconst (pc' := 51) d_267_50 rfl ci_0 ?_
    refine g_istore (pc' := 53) (l' := [some (.ref a0), some (.int i1), some (.int i2), some (.int i3), some (.long l4), none, some (.int i6), some (.long (0 : Int64)), none, some (.int (0 : Int32))]) d_267_51 rfl ml_267 rfl rfl ?_
    exact h
theorem S_267_53 {a0 : Nat} {i1 : Int32} {i2 : Int32} {i3 : Int32} {l4 : Int64} {i6 : Int32} {l7 : Int64} {i9 : Int32} {w : xW} {r : Option Value × xW} (h : (i2 < i9 → ∃ r3 w1, xCall 266 [.int i6, .int i1] w (some (.int r3), w1) ∧ ∀ v4 : Int64, v4 = (l4 + ((r3.toInt64) * l7)) → ∀ v5 : Int32, v5 = i6 + (1 : Int32) → xGo 267 41 [some (.ref a0), some (.int i1), some (.int i2), some (.int i3), some (.long v4), none, some (.int v5), none, none, none] [] w1 r) ∧ (¬ (i2 < i9) → ∃ fs6, w[a0]? = some (.inr (12, fs6)) ∧ ∃ b8, fs6[5]? = some (.ref b8) ∧ ∃ n10 f11, w[b8]? = some (.inl (.inr (n10, f11))) ∧ (¬ ((((40 : Int32) * i2) + i9) < 0 ∨ n10 ≤ (((40 : Int32) * i2) + i9).toNatClampNeg)) ∧ ∃ b14, fs6[20]? = some (.ref b14) ∧ ∃ n16 f17, w[b14]? = some (.inl (.inl (n16, f17))) ∧ (¬ ((i2 - i9) < 0 ∨ n16 ≤ (i2 - i9).toNatClampNeg)) ∧ ∃ r22 w20, xCall 268 [.long (i6.toInt64), .int i9] w (some (.long r22), w20) ∧ ∃ r25 w23, xCall 268 [.long (i1.toInt64), .int (i2 - i9)] w20 (some (.long r25), w23) ∧ ∀ v26 : Int64, v26 = (l7 + ((((f11 (((40 : Int32) * i2) + i9).toNatClampNeg) * ((f17 (i2 - i9).toNatClampNeg).toInt64)) * r22) * r25)) → ∀ v27 : Int32, v27 = i9 + (1 : Int32) → xGo 267 53 [some (.ref a0), some (.int i1), some (.int i2), some (.int i3), some (.long l4), none, some (.int i6), some (.long v26), none, some (.int v27)] [] w23 r)) : xGo 267 53 [some (.ref a0), some (.int i1), some (.int i2), some (.int i3), some (.long l4), none, some (.int i6), some (.long l7), none, some (.int i9)] [] w r := by
  refine g_iload (pc' := 55) d_267_53 rfl rfl ?_
  refine g_iloadn (pc' := 56) d_267_55 rfl rfl ?_
  refine g_ic_gt (pc' := 59) (pt := 112) d_267_56 (by decide) rfl (fun c => ?_) (fun c => ?_)
  · replace h := h.1 c
    refine g_lload (pc' := 114) d_267_112 rfl rfl ?_
    refine g_iload (pc' := 116) d_267_114 rfl rfl ?_
    refine g_iloadn (pc' := 117) d_267_116 rfl rfl ?_
    obtain ⟨r3, w1, hk2, h⟩ := h
    refine g_callS (pc' := 120) d_267_117 rfl st_267_285 (Or.inl rfl) na_266 ml_266 rfl rfl rfl rm_267_266 rfl rfl hk2 ?_
    refine g_i2l (pc' := 121) d_267_120 rfl ?_
    refine g_lload (pc' := 123) d_267_121 rfl rfl ?_
    refine g_lmul (pc' := 124) d_267_123 rfl ?_
    refine g_ladd (pc' := 125) d_267_124 rfl ?_
    have h := h _ rfl
    refine g_lstore (pc' := 127) (l' := [some (.ref a0), some (.int i1), some (.int i2), some (.int i3), some (.long ((l4 + ((r3.toInt64) * l7)))), none, some (.int i6), some (.long l7), none, some (.int i9)]) d_267_125 rfl ml_267 rfl rfl ?_
    have h := h _ rfl
    refine g_iinc (pc' := 130) (l' := [some (.ref a0), some (.int i1), some (.int i2), some (.int i3), some (.long ((l4 + ((r3.toInt64) * l7)))), none, some (.int (i6 + (1 : Int32))), some (.long l7), none, some (.int i9)]) d_267_127 rfl rfl ci_1 ml_267 rfl rfl ?_
    refine g_goto (pt := 41) d_267_130 (by decide) ?_
    exact xGo.more (xle_s (xle_s (xle_s (xle_s (xle_s (xle_n (xle_s (xle_n (xle_n (xle_n xle_0)))))))))) h
  · replace h := h.2 c
    refine g_lload (pc' := 61) d_267_59 rfl rfl ?_
    refine g_aloadn (pc' := 62) d_267_61 rfl rfl ?_
    obtain ⟨fs6, hw7, h⟩ := h
    obtain ⟨b8, hv9, h⟩ := h
    refine g_getf (pc' := 65) d_267_62 rfl st_267_24 hw7 hv9 ?_
    refine g_bipush (pc' := 67) d_267_65 rfl cb_40 ?_
    refine g_iloadn (pc' := 68) d_267_67 rfl rfl ?_
    refine g_imul (pc' := 69) d_267_68 rfl ?_
    refine g_iload (pc' := 71) d_267_69 rfl rfl ?_
    refine g_iadd (pc' := 72) d_267_71 rfl ?_
    obtain ⟨n10, f11, hw12, h⟩ := h
    obtain ⟨hc13, h⟩ := h
    refine g_lald (pc' := 73) d_267_72 rfl hw12 hc13 ?_
    refine g_aloadn (pc' := 74) d_267_73 rfl rfl ?_
    obtain ⟨b14, hv15, h⟩ := h
    refine g_getf (pc' := 77) d_267_74 rfl st_267_54 hw7 hv15 ?_
    refine g_iloadn (pc' := 78) d_267_77 rfl rfl ?_
    refine g_iload (pc' := 80) d_267_78 rfl rfl ?_
    refine g_isub (pc' := 81) d_267_80 rfl ?_
    obtain ⟨n16, f17, hw18, h⟩ := h
    obtain ⟨hc19, h⟩ := h
    refine g_iald (pc' := 82) d_267_81 rfl hw18 hc19 ?_
    refine g_i2l (pc' := 83) d_267_82 rfl ?_
    refine g_lmul (pc' := 84) d_267_83 rfl ?_
    refine g_iload (pc' := 86) d_267_84 rfl rfl ?_
    refine g_i2l (pc' := 87) d_267_86 rfl ?_
    refine g_iload (pc' := 89) d_267_87 rfl rfl ?_
    obtain ⟨r22, w20, hk21, h⟩ := h
    refine g_callS (pc' := 92) d_267_89 rfl st_267_287 (Or.inl rfl) na_268 ml_268 rfl rfl rfl rm_267_268 rfl rfl hk21 ?_
    refine g_lmul (pc' := 93) d_267_92 rfl ?_
    refine g_iloadn (pc' := 94) d_267_93 rfl rfl ?_
    refine g_i2l (pc' := 95) d_267_94 rfl ?_
    refine g_iloadn (pc' := 96) d_267_95 rfl rfl ?_
    refine g_iload (pc' := 98) d_267_96 rfl rfl ?_
    refine g_isub (pc' := 99) d_267_98 rfl ?_
    obtain ⟨r25, w23, hk24, h⟩ := h
    refine g_callS (pc' := 102) d_267_99 rfl st_267_287 (Or.inl rfl) na_268 ml_268 rfl rfl rfl rm_267_268 rfl rfl hk24 ?_
    refine g_lmul (pc' := 103) d_267_102 rfl ?_
    refine g_ladd (pc' := 104) d_267_103 rfl ?_
    have h := h _ rfl
    refine g_lstore (pc' := 106) (l' := [some (.ref a0), some (.int i1), some (.int i2), some (.int i3), some (.long l4), none, some (.int i6), some (.long ((l7 + ((((f11 (((40 : Int32) * i2) + i9).toNatClampNeg) * ((f17 (i2 - i9).toNatClampNeg).toInt64)) * r22) * r25)))), none, some (.int i9)]) d_267_104 rfl ml_267 rfl rfl ?_
    have h := h _ rfl
    refine g_iinc (pc' := 109) (l' := [some (.ref a0), some (.int i1), some (.int i2), some (.int i3), some (.long l4), none, some (.int i6), some (.long ((l7 + ((((f11 (((40 : Int32) * i2) + i9).toNatClampNeg) * ((f17 (i2 - i9).toNatClampNeg).toInt64)) * r22) * r25)))), none, some (.int (i9 + (1 : Int32)))]) d_267_106 rfl rfl ci_1 ml_267 rfl rfl ?_
    refine g_goto (pt := 53) d_267_109 (by decide) ?_
    exact h
-- 268 BernoulliWaysModel.raised(JI)J
theorem S_268_0 {l0 : Int64} {i2 : Int32} {w : xW} {r : Option Value × xW} (h : xGo 268 5 [some (.long l0), none, some (.int i2), some (.long (1 : Int64)), none, some (.int (0 : Int32))] [] w r) : xGo 268 0 [some (.long l0), none, some (.int i2), none, none, none] [] w r := by
  refine g_lconst (pc' := 1) d_268_0 rfl cl_1 ?_
  refine g_lstoren (pc' := 2) (l' := [some (.long l0), none, some (.int i2), some (.long (1 : Int64)), none, none]) d_268_1 rfl ml_268 rfl rfl ?_
  refine g_iconst (pc' := 3) d_268_2 rfl ci_0 ?_
  refine g_istore (pc' := 5) (l' := [some (.long l0), none, some (.int i2), some (.long (1 : Int64)), none, some (.int (0 : Int32))]) d_268_3 rfl ml_268 rfl rfl ?_
  exact h
theorem S_268_5 {l0 : Int64} {i2 : Int32} {l3 : Int64} {i5 : Int32} {w : xW} {r : Option Value × xW} (h : (i2 ≤ i5 → r = (some (.long l3), w)) ∧ (¬ (i2 ≤ i5) → ∀ v1 : Int64, v1 = (l3 * l0) → ∀ v2 : Int32, v2 = i5 + (1 : Int32) → xGo 268 5 [some (.long l0), none, some (.int i2), some (.long v1), none, some (.int v2)] [] w r)) : xGo 268 5 [some (.long l0), none, some (.int i2), some (.long l3), none, some (.int i5)] [] w r := by
  refine g_iload (pc' := 7) d_268_5 rfl rfl ?_
  refine g_iloadn (pc' := 8) d_268_7 rfl rfl ?_
  refine g_ic_ge (pc' := 11) (pt := 21) d_268_8 (by decide) rfl (fun c => ?_) (fun c => ?_)
  · replace h := h.1 c
    refine g_lloadn (pc' := 22) d_268_21 rfl rfl ?_
    exact g_lret d_268_22 rt_268 h
  · replace h := h.2 c
    refine g_lloadn (pc' := 12) d_268_11 rfl rfl ?_
    refine g_lloadn (pc' := 13) d_268_12 rfl rfl ?_
    refine g_lmul (pc' := 14) d_268_13 rfl ?_
    have h := h _ rfl
    refine g_lstoren (pc' := 15) (l' := [some (.long l0), none, some (.int i2), some (.long ((l3 * l0))), none, some (.int i5)]) d_268_14 rfl ml_268 rfl rfl ?_
    have h := h _ rfl
    refine g_iinc (pc' := 18) (l' := [some (.long l0), none, some (.int i2), some (.long ((l3 * l0))), none, some (.int (i5 + (1 : Int32)))]) d_268_15 rfl rfl ci_1 ml_268 rfl rfl ?_
    refine g_goto (pt := 5) d_268_18 (by decide) ?_
    exact h
-- 269 BernoulliWaysModel.voronoi(III)I
theorem S_269_0 {a0 : Nat} {i1 : Int32} {i2 : Int32} {i3 : Int32} {w : xW} {r : Option Value × xW} (h : ∃ fs1, w[a0]? = some (.inr (12, fs1)) ∧ (0 < fs1.length) ∧ ∀ w4, w4 = w.set a0 (.inr (12, fs1.set 0 (.int (0 : Int32)))) → ∃ r7 w5, xCall 199 [.int i1, .int (2 : Int32), .int (38 : Int32)] w4 (some (.int r7), w5) ∧ (r7 = 0 → r = (some (.int (-1 : Int32)), w5)) ∧ (¬ (r7 = 0) → ((irem i1 (2 : Int32)) = (1 : Int32) → r = (some (.int (-1 : Int32)), w5)) ∧ (¬ ((irem i1 (2 : Int32)) = (1 : Int32)) → ∃ fs8, w5[a0]? = some (.inr (12, fs8)) ∧ ∃ r12 w10, xCall 228 [.ref a0, .int i3] w5 (some (.int r12), w10) ∧ (r12 = 0 → r = (some (.int (-1 : Int32)), w10)) ∧ (¬ (r12 = 0) → ∃ r15 w13, xCall 199 [.int i2, .int (1 : Int32), .int (i3 - (1 : Int32))] w10 (some (.int r15), w13) ∧ (¬ r15 = 0 → xGo 269 49 [some (.ref a0), some (.int i1), some (.int i2), some (.int i3), some (.long (0 : Int64)), none, some (.int (1 : Int32))] [] w13 r) ∧ (¬ (¬ r15 = 0) → r = (some (.int (-1 : Int32)), w13)))))) : xGo 269 0 [some (.ref a0), some (.int i1), some (.int i2), some (.int i3), none, none, none] [] w r := by
  refine g_aloadn (pc' := 1) d_269_0 rfl rfl ?_
  refine g_iconst (pc' := 2) d_269_1 rfl ci_0 ?_
  obtain ⟨fs1, hw2, h⟩ := h
  obtain ⟨hc3, h⟩ := h
  have h := h _ rfl
  refine g_putf (pc' := 5) d_269_2 rfl st_269_118 ft_12_0 ff_12_0 rfl (Or.inl rfl) hw2 hc3 ?_
  refine g_iloadn (pc' := 6) d_269_5 rfl rfl ?_
  refine g_iconst (pc' := 7) d_269_6 rfl ci_2 ?_
  refine g_bipush (pc' := 9) d_269_7 rfl cb_38 ?_
  obtain ⟨r7, w5, hk6, h⟩ := h
  refine g_callS (pc' := 12) d_269_9 rfl st_269_137 (Or.inl rfl) na_199 ml_199 rfl rfl rfl rm_269_199 rfl rfl hk6 ?_
  refine g_if_eq (pc' := 15) (pt := 41) d_269_12 (by decide) rfl (fun c => ?_) (fun c => ?_)
  · replace h := h.1 c
    refine g_iconst (pc' := 42) d_269_41 rfl ci_m1 ?_
    exact g_iret d_269_42 rt_269 h
  · replace h := h.2 c
    refine g_iloadn (pc' := 16) d_269_15 rfl rfl ?_
    refine g_iconst (pc' := 17) d_269_16 rfl ci_2 ?_
    refine g_irem (pc' := 18) d_269_17 rfl (by decide) ?_
    refine g_iconst (pc' := 19) d_269_18 rfl ci_1 ?_
    refine g_ic_eq (pc' := 22) (pt := 41) d_269_19 (by decide) rfl (fun c => ?_) (fun c => ?_)
    · replace h := h.1 c
      refine g_iconst (pc' := 42) d_269_41 rfl ci_m1 ?_
      exact g_iret d_269_42 rt_269 h
    · replace h := h.2 c
      refine g_aloadn (pc' := 23) d_269_22 rfl rfl ?_
      refine g_iloadn (pc' := 24) d_269_23 rfl rfl ?_
      obtain ⟨fs8, hw9, h⟩ := h
      obtain ⟨r12, w10, hk11, h⟩ := h
      refine g_callV (pc' := 27) d_269_24 rfl st_269_185 na_228 ml_228 rfl rfl rfl rm_269_228 rfl rfl ow_228 hw9 hk11 ?_
      refine g_if_eq (pc' := 30) (pt := 41) d_269_27 (by decide) rfl (fun c => ?_) (fun c => ?_)
      · replace h := h.1 c
        refine g_iconst (pc' := 42) d_269_41 rfl ci_m1 ?_
        exact g_iret d_269_42 rt_269 h
      · replace h := h.2 c
        refine g_iloadn (pc' := 31) d_269_30 rfl rfl ?_
        refine g_iconst (pc' := 32) d_269_31 rfl ci_1 ?_
        refine g_iloadn (pc' := 33) d_269_32 rfl rfl ?_
        refine g_iconst (pc' := 34) d_269_33 rfl ci_1 ?_
        refine g_isub (pc' := 35) d_269_34 rfl ?_
        obtain ⟨r15, w13, hk14, h⟩ := h
        refine g_callS (pc' := 38) d_269_35 rfl st_269_137 (Or.inl rfl) na_199 ml_199 rfl rfl rfl rm_269_199 rfl rfl hk14 ?_
        refine g_if_ne (pc' := 41) (pt := 43) d_269_38 (by decide) rfl (fun c => ?_) (fun c => ?_)
        · replace h := h.1 c
          refine g_lconst (pc' := 44) d_269_43 rfl cl_0 ?_
          refine g_lstore (pc' := 46) (l' := [some (.ref a0), some (.int i1), some (.int i2), some (.int i3), some (.long (0 : Int64)), none, none]) d_269_44 rfl ml_269 rfl rfl ?_
          refine g_iconst (pc' := 47) d_269_46 rfl ci_1 ?_
          refine g_istore (pc' := 49) (l' := [some (.ref a0), some (.int i1), some (.int i2), some (.int i3), some (.long (0 : Int64)), none, some (.int (1 : Int32))]) d_269_47 rfl ml_269 rfl rfl ?_
          exact h
        · replace h := h.2 c
          refine g_iconst (pc' := 42) d_269_41 rfl ci_m1 ?_
          exact g_iret d_269_42 rt_269 h
theorem S_269_49 {a0 : Nat} {i1 : Int32} {i2 : Int32} {i3 : Int32} {l4 : Int64} {i6 : Int32} {w : xW} {r : Option Value × xW} (h : (i3 ≤ i6 → ∃ r3 w1, xCall 215 [.long l4, .int i3] w (some (.int r3), w1) ∧ (¬ (i3.toInt64) = 0) ∧ ∃ r7 w5, xCall 216 [.int i2, .int (i1 - (1 : Int32)), .int i3] w1 (some (.int r7), w5) ∧ ∃ r10 w8, xCall 215 [.long ((lrem ((r3.toInt64) * (i1.toInt64)) (i3.toInt64)) * (r7.toInt64)), .int i3] w5 (some (.int r10), w8) ∧ r = (some (.int r10), w8)) ∧ (¬ (i3 ≤ i6) → ∃ r13 w11, xCall 216 [.int i6, .int (i1 - (1 : Int32)), .int i3] w (some (.int r13), w11) ∧ (¬ i3 = 0) ∧ ∀ v15 : Int64, v15 = (l4 + ((r13 * ((i6 * i2) / i3)).toInt64)) → ∀ v16 : Int32, v16 = i6 + (1 : Int32) → xGo 269 49 [some (.ref a0), some (.int i1), some (.int i2), some (.int i3), some (.long v15), none, some (.int v16)] [] w11 r)) : xGo 269 49 [some (.ref a0), some (.int i1), some (.int i2), some (.int i3), some (.long l4), none, some (.int i6)] [] w r := by
  refine g_iload (pc' := 51) d_269_49 rfl rfl ?_
  refine g_iloadn (pc' := 52) d_269_51 rfl rfl ?_
  refine g_ic_ge (pc' := 55) (pt := 83) d_269_52 (by decide) rfl (fun c => ?_) (fun c => ?_)
  · replace h := h.1 c
    refine g_lload (pc' := 85) d_269_83 rfl rfl ?_
    refine g_iloadn (pc' := 86) d_269_85 rfl rfl ?_
    obtain ⟨r3, w1, hk2, h⟩ := h
    refine g_callS (pc' := 89) d_269_86 rfl st_269_170 (Or.inl rfl) na_215 ml_215 rfl rfl rfl rm_269_215 rfl rfl hk2 ?_
    refine g_i2l (pc' := 90) d_269_89 rfl ?_
    refine g_iloadn (pc' := 91) d_269_90 rfl rfl ?_
    refine g_i2l (pc' := 92) d_269_91 rfl ?_
    refine g_lmul (pc' := 93) d_269_92 rfl ?_
    refine g_iloadn (pc' := 94) d_269_93 rfl rfl ?_
    refine g_i2l (pc' := 95) d_269_94 rfl ?_
    obtain ⟨hc4, h⟩ := h
    refine g_lrem (pc' := 96) d_269_95 rfl hc4 ?_
    refine g_iloadn (pc' := 97) d_269_96 rfl rfl ?_
    refine g_iloadn (pc' := 98) d_269_97 rfl rfl ?_
    refine g_iconst (pc' := 99) d_269_98 rfl ci_1 ?_
    refine g_isub (pc' := 100) d_269_99 rfl ?_
    refine g_iloadn (pc' := 101) d_269_100 rfl rfl ?_
    obtain ⟨r7, w5, hk6, h⟩ := h
    refine g_callS (pc' := 104) d_269_101 rfl st_269_174 (Or.inl rfl) na_216 ml_216 rfl rfl rfl rm_269_216 rfl rfl hk6 ?_
    refine g_i2l (pc' := 105) d_269_104 rfl ?_
    refine g_lmul (pc' := 106) d_269_105 rfl ?_
    refine g_iloadn (pc' := 107) d_269_106 rfl rfl ?_
    obtain ⟨r10, w8, hk9, h⟩ := h
    refine g_callS (pc' := 110) d_269_107 rfl st_269_170 (Or.inl rfl) na_215 ml_215 rfl rfl rfl rm_269_215 rfl rfl hk9 ?_
    exact g_iret d_269_110 rt_269 h
  · replace h := h.2 c
    refine g_lload (pc' := 57) d_269_55 rfl rfl ?_
    refine g_iload (pc' := 59) d_269_57 rfl rfl ?_
    refine g_iloadn (pc' := 60) d_269_59 rfl rfl ?_
    refine g_iconst (pc' := 61) d_269_60 rfl ci_1 ?_
    refine g_isub (pc' := 62) d_269_61 rfl ?_
    refine g_iloadn (pc' := 63) d_269_62 rfl rfl ?_
    obtain ⟨r13, w11, hk12, h⟩ := h
    refine g_callS (pc' := 66) d_269_63 rfl st_269_174 (Or.inl rfl) na_216 ml_216 rfl rfl rfl rm_269_216 rfl rfl hk12 ?_
    refine g_iload (pc' := 68) d_269_66 rfl rfl ?_
    refine g_iloadn (pc' := 69) d_269_68 rfl rfl ?_
    refine g_imul (pc' := 70) d_269_69 rfl ?_
    refine g_iloadn (pc' := 71) d_269_70 rfl rfl ?_
    obtain ⟨hc14, h⟩ := h
    refine g_idiv (pc' := 72) d_269_71 rfl hc14 ?_
    refine g_imul (pc' := 73) d_269_72 rfl ?_
    refine g_i2l (pc' := 74) d_269_73 rfl ?_
    refine g_ladd (pc' := 75) d_269_74 rfl ?_
    have h := h _ rfl
    refine g_lstore (pc' := 77) (l' := [some (.ref a0), some (.int i1), some (.int i2), some (.int i3), some (.long ((l4 + ((r13 * ((i6 * i2) / i3)).toInt64)))), none, some (.int i6)]) d_269_75 rfl ml_269 rfl rfl ?_
    have h := h _ rfl
    refine g_iinc (pc' := 80) (l' := [some (.ref a0), some (.int i1), some (.int i2), some (.int i3), some (.long ((l4 + ((r13 * ((i6 * i2) / i3)).toInt64)))), none, some (.int (i6 + (1 : Int32)))]) d_269_77 rfl rfl ci_1 ml_269 rfl rfl ?_
    refine g_goto (pt := 49) d_269_80 (by decide) ?_
    exact h
-- 270 BernoulliWaysModel.regulars(I)I
theorem S_270_0 {a0 : Nat} {i1 : Int32} {w : xW} {r : Option Value × xW} (h : ∃ fs1, w[a0]? = some (.inr (12, fs1)) ∧ (0 < fs1.length) ∧ ∀ w4, w4 = w.set a0 (.inr (12, fs1.set 0 (.int (0 : Int32)))) → ∃ r7 w5, xCall 199 [.int i1, .int (3 : Int32), .int (199 : Int32)] w4 (some (.int r7), w5) ∧ (¬ r7 = 0 → xGo 270 22 [some (.ref a0), some (.int i1), some (.int (0 : Int32)), some (.int (1 : Int32))] [] w5 r) ∧ (¬ (¬ r7 = 0) → r = (some (.int (-1 : Int32)), w5))) : xGo 270 0 [some (.ref a0), some (.int i1), none, none] [] w r := by
  refine g_aloadn (pc' := 1) d_270_0 rfl rfl ?_
  refine g_iconst (pc' := 2) d_270_1 rfl ci_0 ?_
  obtain ⟨fs1, hw2, h⟩ := h
  obtain ⟨hc3, h⟩ := h
  have h := h _ rfl
  refine g_putf (pc' := 5) d_270_2 rfl st_270_118 ft_12_0 ff_12_0 rfl (Or.inl rfl) hw2 hc3 ?_
  refine g_iloadn (pc' := 6) d_270_5 rfl rfl ?_
  refine g_iconst (pc' := 7) d_270_6 rfl ci_3 ?_
  refine g_sipush (pc' := 10) d_270_7 rfl cs_199 ?_
  obtain ⟨r7, w5, hk6, h⟩ := h
  refine g_callS (pc' := 13) d_270_10 rfl st_270_137 (Or.inl rfl) na_199 ml_199 rfl rfl rfl rm_270_199 rfl rfl hk6 ?_
  refine g_if_ne (pc' := 16) (pt := 18) d_270_13 (by decide) rfl (fun c => ?_) (fun c => ?_)
  · replace h := h.1 c
    refine g_iconst (pc' := 19) d_270_18 rfl ci_0 ?_
    refine g_istoren (pc' := 20) (l' := [some (.ref a0), some (.int i1), some (.int (0 : Int32)), none]) d_270_19 rfl ml_270 rfl rfl ?_
    refine g_iconst (pc' := 21) d_270_20 rfl ci_1 ?_
    refine g_istoren (pc' := 22) (l' := [some (.ref a0), some (.int i1), some (.int (0 : Int32)), some (.int (1 : Int32))]) d_270_21 rfl ml_270 rfl rfl ?_
    exact h
  · replace h := h.2 c
    refine g_iconst (pc' := 17) d_270_16 rfl ci_m1 ?_
    exact g_iret d_270_17 rt_270 h
theorem S_270_22 {a0 : Nat} {i1 : Int32} {i2 : Int32} {i3 : Int32} {w : xW} {r : Option Value × xW} (h : ∃ fs1, w[a0]? = some (.inr (12, fs1)) ∧ ∃ x3, fs1[7]? = some (.int x3) ∧ (x3 ≤ i3 → r = (some (.int i2), w)) ∧ (¬ (x3 ≤ i3) → ∃ b5, fs1[6]? = some (.ref b5) ∧ ∃ n7 f8, w[b5]? = some (.inl (.inl (n7, f8))) ∧ (¬ (i3 < 0 ∨ n7 ≤ i3.toNatClampNeg)) ∧ (i1 < (f8 i3.toNatClampNeg) → ∀ v11 : Int32, v11 = (i2 + (0 : Int32)) → ∀ v12 : Int32, v12 = i3 + (1 : Int32) → xGo 270 22 [some (.ref a0), some (.int i1), some (.int v11), some (.int v12)] [] w r) ∧ (¬ (i1 < (f8 i3.toNatClampNeg)) → (¬ (i3 < 0 ∨ n7 ≤ i3.toNatClampNeg)) ∧ ∃ r16 w14, xCall 258 [.ref a0, .int (f8 i3.toNatClampNeg)] w (some (.int r16), w14) ∧ (¬ r16 = 0 → ∀ v17 : Int32, v17 = (i2 + (0 : Int32)) → ∀ v18 : Int32, v18 = i3 + (1 : Int32) → xGo 270 22 [some (.ref a0), some (.int i1), some (.int v17), some (.int v18)] [] w14 r) ∧ (¬ (¬ r16 = 0) → ∀ v19 : Int32, v19 = (i2 + (1 : Int32)) → ∀ v20 : Int32, v20 = i3 + (1 : Int32) → xGo 270 22 [some (.ref a0), some (.int i1), some (.int v19), some (.int v20)] [] w14 r)))) : xGo 270 22 [some (.ref a0), some (.int i1), some (.int i2), some (.int i3)] [] w r := by
  refine g_iloadn (pc' := 23) d_270_22 rfl rfl ?_
  refine g_aloadn (pc' := 24) d_270_23 rfl rfl ?_
  obtain ⟨fs1, hw2, h⟩ := h
  obtain ⟨x3, hv4, h⟩ := h
  refine g_getf (pc' := 27) d_270_24 rfl st_270_96 hw2 hv4 ?_
  refine g_ic_ge (pc' := 30) (pt := 67) d_270_27 (by decide) rfl (fun c => ?_) (fun c => ?_)
  · replace h := h.1 c
    refine g_iloadn (pc' := 68) d_270_67 rfl rfl ?_
    exact g_iret d_270_68 rt_270 h
  · replace h := h.2 c
    refine g_iloadn (pc' := 31) d_270_30 rfl rfl ?_
    refine g_aloadn (pc' := 32) d_270_31 rfl rfl ?_
    obtain ⟨b5, hv6, h⟩ := h
    refine g_getf (pc' := 35) d_270_32 rfl st_270_27 hw2 hv6 ?_
    refine g_iloadn (pc' := 36) d_270_35 rfl rfl ?_
    obtain ⟨n7, f8, hw9, h⟩ := h
    obtain ⟨hc10, h⟩ := h
    refine g_iald (pc' := 37) d_270_36 rfl hw9 hc10 ?_
    refine g_iloadn (pc' := 38) d_270_37 rfl rfl ?_
    refine g_ic_gt (pc' := 41) (pt := 58) d_270_38 (by decide) rfl (fun c => ?_) (fun c => ?_)
    · replace h := h.1 c
      refine g_iconst (pc' := 59) d_270_58 rfl ci_0 ?_
      refine g_iadd (pc' := 60) d_270_59 rfl ?_
      have h := h _ rfl
      refine g_istoren (pc' := 61) (l' := [some (.ref a0), some (.int i1), some (.int ((i2 + (0 : Int32)))), some (.int i3)]) d_270_60 rfl ml_270 rfl rfl ?_
      have h := h _ rfl
      refine g_iinc (pc' := 64) (l' := [some (.ref a0), some (.int i1), some (.int ((i2 + (0 : Int32)))), some (.int (i3 + (1 : Int32)))]) d_270_61 rfl rfl ci_1 ml_270 rfl rfl ?_
      refine g_goto (pt := 22) d_270_64 (by decide) ?_
      exact h
    · replace h := h.2 c
      refine g_aloadn (pc' := 42) d_270_41 rfl rfl ?_
      refine g_aloadn (pc' := 43) d_270_42 rfl rfl ?_
      refine g_getf (pc' := 46) d_270_43 rfl st_270_27 hw2 hv6 ?_
      refine g_iloadn (pc' := 47) d_270_46 rfl rfl ?_
      obtain ⟨hc13, h⟩ := h
      refine g_iald (pc' := 48) d_270_47 rfl hw9 hc13 ?_
      obtain ⟨r16, w14, hk15, h⟩ := h
      refine g_callV (pc' := 51) d_270_48 rfl st_270_274 na_258 ml_258 rfl rfl rfl rm_270_258 rfl rfl ow_258 hw2 hk15 ?_
      refine g_if_ne (pc' := 54) (pt := 58) d_270_51 (by decide) rfl (fun c => ?_) (fun c => ?_)
      · replace h := h.1 c
        refine g_iconst (pc' := 59) d_270_58 rfl ci_0 ?_
        refine g_iadd (pc' := 60) d_270_59 rfl ?_
        have h := h _ rfl
        refine g_istoren (pc' := 61) (l' := [some (.ref a0), some (.int i1), some (.int ((i2 + (0 : Int32)))), some (.int i3)]) d_270_60 rfl ml_270 rfl rfl ?_
        have h := h _ rfl
        refine g_iinc (pc' := 64) (l' := [some (.ref a0), some (.int i1), some (.int ((i2 + (0 : Int32)))), some (.int (i3 + (1 : Int32)))]) d_270_61 rfl rfl ci_1 ml_270 rfl rfl ?_
        refine g_goto (pt := 22) d_270_64 (by decide) ?_
        exact h
      · replace h := h.2 c
        refine g_iconst (pc' := 55) d_270_54 rfl ci_1 ?_
        refine g_goto (pt := 59) d_270_55 (by decide) ?_
        refine g_iadd (pc' := 60) d_270_59 rfl ?_
        have h := h _ rfl
        refine g_istoren (pc' := 61) (l' := [some (.ref a0), some (.int i1), some (.int ((i2 + (1 : Int32)))), some (.int i3)]) d_270_60 rfl ml_270 rfl rfl ?_
        have h := h _ rfl
        refine g_iinc (pc' := 64) (l' := [some (.ref a0), some (.int i1), some (.int ((i2 + (1 : Int32)))), some (.int (i3 + (1 : Int32)))]) d_270_61 rfl rfl ci_1 ml_270 rfl rfl ?_
        refine g_goto (pt := 22) d_270_64 (by decide) ?_
        exact h
-- 271 BernoulliWaysModel.coefficient(III)J
theorem S_271_0 {a0 : Nat} {i1 : Int32} {i2 : Int32} {i3 : Int32} {w : xW} {r : Option Value × xW} (h : ∃ fs1, w[a0]? = some (.inr (12, fs1)) ∧ (0 < fs1.length) ∧ ∀ w4, w4 = w.set a0 (.inr (12, fs1.set 0 (.int (0 : Int32)))) → ∃ r7 w5, xCall 199 [.int i1, .int (0 : Int32), .int (24 : Int32)] w4 (some (.int r7), w5) ∧ (r7 = 0 → r = (some (.long (-9223372036854775808 : Int64)), w5)) ∧ (¬ (r7 = 0) → ∃ r10 w8, xCall 199 [.int i2, .int (0 : Int32), .int (i1 + (1 : Int32))] w5 (some (.int r10), w8) ∧ (r10 = 0 → r = (some (.long (-9223372036854775808 : Int64)), w8)) ∧ (¬ (r10 = 0) → ∃ r13 w11, xCall 199 [.int i3, .int (0 : Int32), .int (1 : Int32)] w8 (some (.int r13), w11) ∧ (¬ r13 = 0 → ∃ fs14, w11[a0]? = some (.inr (12, fs14)) ∧ ∃ x16, fs14[4]? = some (.int x16) ∧ (i1 ≤ x16 → ∃ w18, xCall 272 [.ref a0, .int i1] w11 (none, w18) ∧ (¬ i3 = 0 → ∃ fs20, w18[a0]? = some (.inr (12, fs20)) ∧ ∃ b22, fs20[22]? = some (.ref b22) ∧ ∃ n24 f25, w18[b22]? = some (.inl (.inr (n24, f25))) ∧ (¬ (i2 < 0 ∨ n24 ≤ i2.toNatClampNeg)) ∧ r = (some (.long (f25 i2.toNatClampNeg)), w18)) ∧ (¬ (¬ i3 = 0) → ∃ fs28, w18[a0]? = some (.inr (12, fs28)) ∧ ∃ b30, fs28[21]? = some (.ref b30) ∧ ∃ n32 f33, w18[b30]? = some (.inl (.inr (n32, f33))) ∧ (¬ (i2 < 0 ∨ n32 ≤ i2.toNatClampNeg)) ∧ r = (some (.long (f33 i2.toNatClampNeg)), w18))) ∧ (¬ (i1 ≤ x16) → r = (some (.long (-2 : Int64)), w11))) ∧ (¬ (¬ r13 = 0) → r = (some (.long (-9223372036854775808 : Int64)), w11))))) : xGo 271 0 [some (.ref a0), some (.int i1), some (.int i2), some (.int i3)] [] w r := by
  refine g_aloadn (pc' := 1) d_271_0 rfl rfl ?_
  refine g_iconst (pc' := 2) d_271_1 rfl ci_0 ?_
  obtain ⟨fs1, hw2, h⟩ := h
  obtain ⟨hc3, h⟩ := h
  have h := h _ rfl
  refine g_putf (pc' := 5) d_271_2 rfl st_271_118 ft_12_0 ff_12_0 rfl (Or.inl rfl) hw2 hc3 ?_
  refine g_iloadn (pc' := 6) d_271_5 rfl rfl ?_
  refine g_iconst (pc' := 7) d_271_6 rfl ci_0 ?_
  refine g_bipush (pc' := 9) d_271_7 rfl cb_24 ?_
  obtain ⟨r7, w5, hk6, h⟩ := h
  refine g_callS (pc' := 12) d_271_9 rfl st_271_137 (Or.inl rfl) na_199 ml_199 rfl rfl rfl rm_271_199 rfl rfl hk6 ?_
  refine g_if_eq (pc' := 15) (pt := 35) d_271_12 (by decide) rfl (fun c => ?_) (fun c => ?_)
  · replace h := h.1 c
    refine g_ldc2 (pc' := 38) d_271_35 rfl st_271_166 cL_m9223372036854775808 ?_
    exact g_lret d_271_38 rt_271 h
  · replace h := h.2 c
    refine g_iloadn (pc' := 16) d_271_15 rfl rfl ?_
    refine g_iconst (pc' := 17) d_271_16 rfl ci_0 ?_
    refine g_iloadn (pc' := 18) d_271_17 rfl rfl ?_
    refine g_iconst (pc' := 19) d_271_18 rfl ci_1 ?_
    refine g_iadd (pc' := 20) d_271_19 rfl ?_
    obtain ⟨r10, w8, hk9, h⟩ := h
    refine g_callS (pc' := 23) d_271_20 rfl st_271_137 (Or.inl rfl) na_199 ml_199 rfl rfl rfl rm_271_199 rfl rfl hk9 ?_
    refine g_if_eq (pc' := 26) (pt := 35) d_271_23 (by decide) rfl (fun c => ?_) (fun c => ?_)
    · replace h := h.1 c
      refine g_ldc2 (pc' := 38) d_271_35 rfl st_271_166 cL_m9223372036854775808 ?_
      exact g_lret d_271_38 rt_271 h
    · replace h := h.2 c
      refine g_iloadn (pc' := 27) d_271_26 rfl rfl ?_
      refine g_iconst (pc' := 28) d_271_27 rfl ci_0 ?_
      refine g_iconst (pc' := 29) d_271_28 rfl ci_1 ?_
      obtain ⟨r13, w11, hk12, h⟩ := h
      refine g_callS (pc' := 32) d_271_29 rfl st_271_137 (Or.inl rfl) na_199 ml_199 rfl rfl rfl rm_271_199 rfl rfl hk12 ?_
      refine g_if_ne (pc' := 35) (pt := 39) d_271_32 (by decide) rfl (fun c => ?_) (fun c => ?_)
      · replace h := h.1 c
        refine g_iloadn (pc' := 40) d_271_39 rfl rfl ?_
        refine g_aloadn (pc' := 41) d_271_40 rfl rfl ?_
        obtain ⟨fs14, hw15, h⟩ := h
        obtain ⟨x16, hv17, h⟩ := h
        refine g_getf (pc' := 44) d_271_41 rfl st_271_20 hw15 hv17 ?_
        refine g_ic_le (pc' := 47) (pt := 51) d_271_44 (by decide) rfl (fun c => ?_) (fun c => ?_)
        · replace h := h.1 c
          refine g_aloadn (pc' := 52) d_271_51 rfl rfl ?_
          refine g_iloadn (pc' := 53) d_271_52 rfl rfl ?_
          obtain ⟨w18, hk19, h⟩ := h
          refine g_callV (pc' := 56) d_271_53 rfl st_271_299 na_272 ml_272 rfl rfl rfl rm_271_272 rfl rfl ow_272 hw15 hk19 ?_
          refine g_iloadn (pc' := 57) d_271_56 rfl rfl ?_
          refine g_if_ne (pc' := 60) (pt := 69) d_271_57 (by decide) rfl (fun c => ?_) (fun c => ?_)
          · replace h := h.1 c
            refine g_aloadn (pc' := 70) d_271_69 rfl rfl ?_
            obtain ⟨fs20, hw21, h⟩ := h
            obtain ⟨b22, hv23, h⟩ := h
            refine g_getf (pc' := 73) d_271_70 rfl st_271_60 hw21 hv23 ?_
            refine g_iloadn (pc' := 74) d_271_73 rfl rfl ?_
            obtain ⟨n24, f25, hw26, h⟩ := h
            obtain ⟨hc27, h⟩ := h
            refine g_lald (pc' := 75) d_271_74 rfl hw26 hc27 ?_
            exact g_lret d_271_75 rt_271 h
          · replace h := h.2 c
            refine g_aloadn (pc' := 61) d_271_60 rfl rfl ?_
            obtain ⟨fs28, hw29, h⟩ := h
            obtain ⟨b30, hv31, h⟩ := h
            refine g_getf (pc' := 64) d_271_61 rfl st_271_57 hw29 hv31 ?_
            refine g_iloadn (pc' := 65) d_271_64 rfl rfl ?_
            obtain ⟨n32, f33, hw34, h⟩ := h
            obtain ⟨hc35, h⟩ := h
            refine g_lald (pc' := 66) d_271_65 rfl hw34 hc35 ?_
            refine g_goto (pt := 75) d_271_66 (by decide) ?_
            exact g_lret d_271_75 rt_271 h
        · replace h := h.2 c
          refine g_ldc2 (pc' := 50) d_271_47 rfl st_271_297 cL_m2 ?_
          exact g_lret d_271_50 rt_271 h
      · replace h := h.2 c
        refine g_ldc2 (pc' := 38) d_271_35 rfl st_271_166 cL_m9223372036854775808 ?_
        exact g_lret d_271_38 rt_271 h
-- 272 BernoulliWaysModel.laysSums(I)V
theorem S_272_0 {a0 : Nat} {i1 : Int32} {w : xW} {r : Option Value × xW} (h : ∃ fs1, w[a0]? = some (.inr (12, fs1)) ∧ ∃ w3, xCall 273 [.ref a0, .int (0 : Int32), .long (0 : Int64), .long (1 : Int64)] w (none, w3) ∧ xGo 272 9 [some (.ref a0), some (.int i1), some (.int (1 : Int32)), none, none, none, none, none, none, none, none, none, none, none, none, none] [] w3 r) : xGo 272 0 [some (.ref a0), some (.int i1), none, none, none, none, none, none, none, none, none, none, none, none, none, none] [] w r := by
  refine g_aloadn (pc' := 1) d_272_0 rfl rfl ?_
  refine g_iconst (pc' := 2) d_272_1 rfl ci_0 ?_
  refine g_lconst (pc' := 3) d_272_2 rfl cl_0 ?_
  refine g_lconst (pc' := 4) d_272_3 rfl cl_1 ?_
  obtain ⟨fs1, hw2, h⟩ := h
  obtain ⟨w3, hk4, h⟩ := h
  refine g_callV (pc' := 7) d_272_4 rfl st_272_293 na_273 ml_273 rfl rfl rfl rm_272_273 rfl rfl ow_273 hw2 hk4 ?_
  refine g_iconst (pc' := 8) d_272_7 rfl ci_1 ?_
  refine g_istoren (pc' := 9) (l' := [some (.ref a0), some (.int i1), some (.int (1 : Int32)), none, none, none, none, none, none, none, none, none, none, none, none, none]) d_272_8 rfl ml_272 rfl rfl ?_
  exact h
theorem S_272_9 {a0 : Nat} {i1 : Int32} {i2 : Int32} {w : xW} {r : Option Value × xW} (h : ((i1 + (1 : Int32)) < i2 → r = (none, w)) ∧ (¬ ((i1 + (1 : Int32)) < i2) → ∀ v1 : Int32, v1 = ((i1 + (1 : Int32)) - i2) → ∃ fs2, w[a0]? = some (.inr (12, fs2)) ∧ ∃ b4, fs2[2]? = some (.ref b4) ∧ ∃ n6 f7, w[b4]? = some (.inl (.inr (n6, f7))) ∧ (¬ (((3 : Int32) * v1) < 0 ∨ n6 ≤ ((3 : Int32) * v1).toNatClampNeg)) ∧ (¬ ((((3 : Int32) * v1) + (2 : Int32)) < 0 ∨ n6 ≤ (((3 : Int32) * v1) + (2 : Int32)).toNatClampNeg)) ∧ (¬ ((((3 : Int32) * v1) + (1 : Int32)) < 0 ∨ n6 ≤ (((3 : Int32) * v1) + (1 : Int32)).toNatClampNeg)) ∧ ∀ v12 : Int64, v12 = (((f7 ((3 : Int32) * v1).toNatClampNeg) * (f7 (((3 : Int32) * v1) + (2 : Int32)).toNatClampNeg)) + (f7 (((3 : Int32) * v1) + (1 : Int32)).toNatClampNeg)) → (¬ ((((3 : Int32) * v1) + (2 : Int32)) < 0 ∨ n6 ≤ (((3 : Int32) * v1) + (2 : Int32)).toNatClampNeg)) ∧ ∀ v14 : Int64, v14 = (f7 (((3 : Int32) * v1) + (2 : Int32)).toNatClampNeg) → (¬ v1 = (1 : Int32) → ∃ b15, fs2[5]? = some (.ref b15) ∧ ∃ n17 f18, w[b15]? = some (.inl (.inr (n17, f18))) ∧ (¬ ((((40 : Int32) * (i1 + (1 : Int32))) + i2) < 0 ∨ n17 ≤ (((40 : Int32) * (i1 + (1 : Int32))) + i2).toNatClampNeg)) ∧ ∃ r23 w21, xCall 195 [.long (f18 (((40 : Int32) * (i1 + (1 : Int32))) + i2).toNatClampNeg), .long ((i1 + (1 : Int32)).toInt64)] w (some (.long r23), w21) ∧ ∃ fs24, w21[a0]? = some (.inr (12, fs24)) ∧ ∃ b26, fs24[5]? = some (.ref b26) ∧ ∃ n28 f29, w21[b26]? = some (.inl (.inr (n28, f29))) ∧ (¬ ((((40 : Int32) * (i1 + (1 : Int32))) + i2) < 0 ∨ n28 ≤ (((40 : Int32) * (i1 + (1 : Int32))) + i2).toNatClampNeg)) ∧ (¬ r23 = 0) ∧ ∀ v33 : Int64, v33 = ((f29 (((40 : Int32) * (i1 + (1 : Int32))) + i2).toNatClampNeg) / r23) → (¬ r23 = 0) ∧ ∀ v35 : Int64, v35 = (((i1 + (1 : Int32)).toInt64) / r23) → ∃ r38 w36, xCall 195 [.long v33, .long v14] w21 (some (.long r38), w36) ∧ (¬ r38 = 0) ∧ (¬ r38 = 0) ∧ ∃ fs41, w36[a0]? = some (.inr (12, fs41)) ∧ ∃ w43, xCall 273 [.ref a0, .int i2, .long (v12 * (v33 / r38)), .long ((v14 / r38) * v35)] w36 (none, w43) ∧ ∀ v45 : Int32, v45 = i2 + (1 : Int32) → xGo 272 9 [some (.ref a0), some (.int i1), some (.int v45), none, none, none, none, none, none, none, none, none, none, none, none, none] [] w43 r) ∧ (¬ (¬ v1 = (1 : Int32)) → ∀ v46 : Int64, v46 = (v12 + v14) → ∃ b47, fs2[5]? = some (.ref b47) ∧ ∃ n49 f50, w[b47]? = some (.inl (.inr (n49, f50))) ∧ (¬ ((((40 : Int32) * (i1 + (1 : Int32))) + i2) < 0 ∨ n49 ≤ (((40 : Int32) * (i1 + (1 : Int32))) + i2).toNatClampNeg)) ∧ ∃ r55 w53, xCall 195 [.long (f50 (((40 : Int32) * (i1 + (1 : Int32))) + i2).toNatClampNeg), .long ((i1 + (1 : Int32)).toInt64)] w (some (.long r55), w53) ∧ ∃ fs56, w53[a0]? = some (.inr (12, fs56)) ∧ ∃ b58, fs56[5]? = some (.ref b58) ∧ ∃ n60 f61, w53[b58]? = some (.inl (.inr (n60, f61))) ∧ (¬ ((((40 : Int32) * (i1 + (1 : Int32))) + i2) < 0 ∨ n60 ≤ (((40 : Int32) * (i1 + (1 : Int32))) + i2).toNatClampNeg)) ∧ (¬ r55 = 0) ∧ ∀ v65 : Int64, v65 = ((f61 (((40 : Int32) * (i1 + (1 : Int32))) + i2).toNatClampNeg) / r55) → (¬ r55 = 0) ∧ ∀ v67 : Int64, v67 = (((i1 + (1 : Int32)).toInt64) / r55) → ∃ r70 w68, xCall 195 [.long v65, .long v14] w53 (some (.long r70), w68) ∧ (¬ r70 = 0) ∧ (¬ r70 = 0) ∧ ∃ fs73, w68[a0]? = some (.inr (12, fs73)) ∧ ∃ w75, xCall 273 [.ref a0, .int i2, .long (v46 * (v65 / r70)), .long ((v14 / r70) * v67)] w68 (none, w75) ∧ ∀ v77 : Int32, v77 = i2 + (1 : Int32) → xGo 272 9 [some (.ref a0), some (.int i1), some (.int v77), none, none, none, none, none, none, none, none, none, none, none, none, none] [] w75 r))) : xGo 272 9 [some (.ref a0), some (.int i1), some (.int i2), none, none, none, none, none, none, none, none, none, none, none, none, none] [] w r := by
  refine g_iloadn (pc' := 10) d_272_9 rfl rfl ?_
  refine g_iloadn (pc' := 11) d_272_10 rfl rfl ?_
  refine g_iconst (pc' := 12) d_272_11 rfl ci_1 ?_
  refine g_iadd (pc' := 13) d_272_12 rfl ?_
  refine g_ic_gt (pc' := 16) (pt := 163) d_272_13 (by decide) rfl (fun c => ?_) (fun c => ?_)
  · replace h := h.1 c
    exact g_vret d_272_163 rt_272 h
  · replace h := h.2 c
    refine g_iloadn (pc' := 17) d_272_16 rfl rfl ?_
    refine g_iconst (pc' := 18) d_272_17 rfl ci_1 ?_
    refine g_iadd (pc' := 19) d_272_18 rfl ?_
    refine g_iloadn (pc' := 20) d_272_19 rfl rfl ?_
    refine g_isub (pc' := 21) d_272_20 rfl ?_
    have h := h _ rfl
    refine g_istoren (pc' := 22) (l' := [some (.ref a0), some (.int i1), some (.int i2), some (.int (((i1 + (1 : Int32)) - i2))), none, none, none, none, none, none, none, none, none, none, none, none]) d_272_21 rfl ml_272 rfl rfl ?_
    refine g_aloadn (pc' := 23) d_272_22 rfl rfl ?_
    obtain ⟨fs2, hw3, h⟩ := h
    obtain ⟨b4, hv5, h⟩ := h
    refine g_getf (pc' := 26) d_272_23 rfl st_272_13 hw3 hv5 ?_
    refine g_iconst (pc' := 27) d_272_26 rfl ci_3 ?_
    refine g_iloadn (pc' := 28) d_272_27 rfl rfl ?_
    refine g_imul (pc' := 29) d_272_28 rfl ?_
    obtain ⟨n6, f7, hw8, h⟩ := h
    obtain ⟨hc9, h⟩ := h
    refine g_lald (pc' := 30) d_272_29 rfl hw8 hc9 ?_
    refine g_aloadn (pc' := 31) d_272_30 rfl rfl ?_
    refine g_getf (pc' := 34) d_272_31 rfl st_272_13 hw3 hv5 ?_
    refine g_iconst (pc' := 35) d_272_34 rfl ci_3 ?_
    refine g_iloadn (pc' := 36) d_272_35 rfl rfl ?_
    refine g_imul (pc' := 37) d_272_36 rfl ?_
    refine g_iconst (pc' := 38) d_272_37 rfl ci_2 ?_
    refine g_iadd (pc' := 39) d_272_38 rfl ?_
    obtain ⟨hc10, h⟩ := h
    refine g_lald (pc' := 40) d_272_39 rfl hw8 hc10 ?_
    refine g_lmul (pc' := 41) d_272_40 rfl ?_
    refine g_aloadn (pc' := 42) d_272_41 rfl rfl ?_
    refine g_getf (pc' := 45) d_272_42 rfl st_272_13 hw3 hv5 ?_
    refine g_iconst (pc' := 46) d_272_45 rfl ci_3 ?_
    refine g_iloadn (pc' := 47) d_272_46 rfl rfl ?_
    refine g_imul (pc' := 48) d_272_47 rfl ?_
    refine g_iconst (pc' := 49) d_272_48 rfl ci_1 ?_
    refine g_iadd (pc' := 50) d_272_49 rfl ?_
    obtain ⟨hc11, h⟩ := h
    refine g_lald (pc' := 51) d_272_50 rfl hw8 hc11 ?_
    refine g_ladd (pc' := 52) d_272_51 rfl ?_
    have h := h _ rfl
    refine g_lstore (pc' := 54) (l' := [some (.ref a0), some (.int i1), some (.int i2), some (.int (((i1 + (1 : Int32)) - i2))), some (.long ((((f7 ((3 : Int32) * (((i1 + (1 : Int32)) - i2))).toNatClampNeg) * (f7 (((3 : Int32) * (((i1 + (1 : Int32)) - i2))) + (2 : Int32)).toNatClampNeg)) + (f7 (((3 : Int32) * (((i1 + (1 : Int32)) - i2))) + (1 : Int32)).toNatClampNeg)))), none, none, none, none, none, none, none, none, none, none, none]) d_272_52 rfl ml_272 rfl rfl ?_
    refine g_aloadn (pc' := 55) d_272_54 rfl rfl ?_
    refine g_getf (pc' := 58) d_272_55 rfl st_272_13 hw3 hv5 ?_
    refine g_iconst (pc' := 59) d_272_58 rfl ci_3 ?_
    refine g_iloadn (pc' := 60) d_272_59 rfl rfl ?_
    refine g_imul (pc' := 61) d_272_60 rfl ?_
    refine g_iconst (pc' := 62) d_272_61 rfl ci_2 ?_
    refine g_iadd (pc' := 63) d_272_62 rfl ?_
    obtain ⟨hc13, h⟩ := h
    refine g_lald (pc' := 64) d_272_63 rfl hw8 hc13 ?_
    have h := h _ rfl
    refine g_lstore (pc' := 66) (l' := [some (.ref a0), some (.int i1), some (.int i2), some (.int (((i1 + (1 : Int32)) - i2))), some (.long ((((f7 ((3 : Int32) * (((i1 + (1 : Int32)) - i2))).toNatClampNeg) * (f7 (((3 : Int32) * (((i1 + (1 : Int32)) - i2))) + (2 : Int32)).toNatClampNeg)) + (f7 (((3 : Int32) * (((i1 + (1 : Int32)) - i2))) + (1 : Int32)).toNatClampNeg)))), none, some (.long ((f7 (((3 : Int32) * (((i1 + (1 : Int32)) - i2))) + (2 : Int32)).toNatClampNeg))), none, none, none, none, none, none, none, none, none]) d_272_64 rfl ml_272 rfl rfl ?_
    refine g_iloadn (pc' := 67) d_272_66 rfl rfl ?_
    refine g_iconst (pc' := 68) d_272_67 rfl ci_1 ?_
    refine g_ic_ne (pc' := 71) (pt := 78) d_272_68 (by decide) rfl (fun c => ?_) (fun c => ?_)
    · replace h := h.1 c
      refine g_aloadn (pc' := 79) d_272_78 rfl rfl ?_
      obtain ⟨b15, hv16, h⟩ := h
      refine g_getf (pc' := 82) d_272_79 rfl st_272_24 hw3 hv16 ?_
      refine g_bipush (pc' := 84) d_272_82 rfl cb_40 ?_
      refine g_iloadn (pc' := 85) d_272_84 rfl rfl ?_
      refine g_iconst (pc' := 86) d_272_85 rfl ci_1 ?_
      refine g_iadd (pc' := 87) d_272_86 rfl ?_
      refine g_imul (pc' := 88) d_272_87 rfl ?_
      refine g_iloadn (pc' := 89) d_272_88 rfl rfl ?_
      refine g_iadd (pc' := 90) d_272_89 rfl ?_
      obtain ⟨n17, f18, hw19, h⟩ := h
      obtain ⟨hc20, h⟩ := h
      refine g_lald (pc' := 91) d_272_90 rfl hw19 hc20 ?_
      refine g_iloadn (pc' := 92) d_272_91 rfl rfl ?_
      refine g_iconst (pc' := 93) d_272_92 rfl ci_1 ?_
      refine g_iadd (pc' := 94) d_272_93 rfl ?_
      refine g_i2l (pc' := 95) d_272_94 rfl ?_
      obtain ⟨r23, w21, hk22, h⟩ := h
      refine g_callS (pc' := 98) d_272_95 rfl st_272_121 (Or.inl rfl) na_195 ml_195 rfl rfl rfl rm_272_195 rfl rfl hk22 ?_
      refine g_lstore (pc' := 100) (l' := [some (.ref a0), some (.int i1), some (.int i2), some (.int (((i1 + (1 : Int32)) - i2))), some (.long ((((f7 ((3 : Int32) * (((i1 + (1 : Int32)) - i2))).toNatClampNeg) * (f7 (((3 : Int32) * (((i1 + (1 : Int32)) - i2))) + (2 : Int32)).toNatClampNeg)) + (f7 (((3 : Int32) * (((i1 + (1 : Int32)) - i2))) + (1 : Int32)).toNatClampNeg)))), none, some (.long ((f7 (((3 : Int32) * (((i1 + (1 : Int32)) - i2))) + (2 : Int32)).toNatClampNeg))), none, some (.long r23), none, none, none, none, none, none, none]) d_272_98 rfl ml_272 rfl rfl ?_
      refine g_aloadn (pc' := 101) d_272_100 rfl rfl ?_
      obtain ⟨fs24, hw25, h⟩ := h
      obtain ⟨b26, hv27, h⟩ := h
      refine g_getf (pc' := 104) d_272_101 rfl st_272_24 hw25 hv27 ?_
      refine g_bipush (pc' := 106) d_272_104 rfl cb_40 ?_
      refine g_iloadn (pc' := 107) d_272_106 rfl rfl ?_
      refine g_iconst (pc' := 108) d_272_107 rfl ci_1 ?_
      refine g_iadd (pc' := 109) d_272_108 rfl ?_
      refine g_imul (pc' := 110) d_272_109 rfl ?_
      refine g_iloadn (pc' := 111) d_272_110 rfl rfl ?_
      refine g_iadd (pc' := 112) d_272_111 rfl ?_
      obtain ⟨n28, f29, hw30, h⟩ := h
      obtain ⟨hc31, h⟩ := h
      refine g_lald (pc' := 113) d_272_112 rfl hw30 hc31 ?_
      refine g_lload (pc' := 115) d_272_113 rfl rfl ?_
      obtain ⟨hc32, h⟩ := h
      refine g_ldiv (pc' := 116) d_272_115 rfl hc32 ?_
      have h := h _ rfl
      refine g_lstore (pc' := 118) (l' := [some (.ref a0), some (.int i1), some (.int i2), some (.int (((i1 + (1 : Int32)) - i2))), some (.long ((((f7 ((3 : Int32) * (((i1 + (1 : Int32)) - i2))).toNatClampNeg) * (f7 (((3 : Int32) * (((i1 + (1 : Int32)) - i2))) + (2 : Int32)).toNatClampNeg)) + (f7 (((3 : Int32) * (((i1 + (1 : Int32)) - i2))) + (1 : Int32)).toNatClampNeg)))), none, some (.long ((f7 (((3 : Int32) * (((i1 + (1 : Int32)) - i2))) + (2 : Int32)).toNatClampNeg))), none, some (.long r23), none, some (.long (((f29 (((40 : Int32) * (i1 + (1 : Int32))) + i2).toNatClampNeg) / r23))), none, none, none, none, none]) d_272_116 rfl ml_272 rfl rfl ?_
      refine g_iloadn (pc' := 119) d_272_118 rfl rfl ?_
      refine g_iconst (pc' := 120) d_272_119 rfl ci_1 ?_
      refine g_iadd (pc' := 121) d_272_120 rfl ?_
      refine g_i2l (pc' := 122) d_272_121 rfl ?_
      refine g_lload (pc' := 124) d_272_122 rfl rfl ?_
      obtain ⟨hc34, h⟩ := h
      refine g_ldiv (pc' := 125) d_272_124 rfl hc34 ?_
      have h := h _ rfl
      refine g_lstore (pc' := 127) (l' := [some (.ref a0), some (.int i1), some (.int i2), some (.int (((i1 + (1 : Int32)) - i2))), some (.long ((((f7 ((3 : Int32) * (((i1 + (1 : Int32)) - i2))).toNatClampNeg) * (f7 (((3 : Int32) * (((i1 + (1 : Int32)) - i2))) + (2 : Int32)).toNatClampNeg)) + (f7 (((3 : Int32) * (((i1 + (1 : Int32)) - i2))) + (1 : Int32)).toNatClampNeg)))), none, some (.long ((f7 (((3 : Int32) * (((i1 + (1 : Int32)) - i2))) + (2 : Int32)).toNatClampNeg))), none, some (.long r23), none, some (.long (((f29 (((40 : Int32) * (i1 + (1 : Int32))) + i2).toNatClampNeg) / r23))), none, some (.long ((((i1 + (1 : Int32)).toInt64) / r23))), none, none, none]) d_272_125 rfl ml_272 rfl rfl ?_
      refine g_lload (pc' := 129) d_272_127 rfl rfl ?_
      refine g_lload (pc' := 131) d_272_129 rfl rfl ?_
      obtain ⟨r38, w36, hk37, h⟩ := h
      refine g_callS (pc' := 134) d_272_131 rfl st_272_121 (Or.inl rfl) na_195 ml_195 rfl rfl rfl rm_272_195 rfl rfl hk37 ?_
      refine g_lstore (pc' := 136) (l' := [some (.ref a0), some (.int i1), some (.int i2), some (.int (((i1 + (1 : Int32)) - i2))), some (.long ((((f7 ((3 : Int32) * (((i1 + (1 : Int32)) - i2))).toNatClampNeg) * (f7 (((3 : Int32) * (((i1 + (1 : Int32)) - i2))) + (2 : Int32)).toNatClampNeg)) + (f7 (((3 : Int32) * (((i1 + (1 : Int32)) - i2))) + (1 : Int32)).toNatClampNeg)))), none, some (.long ((f7 (((3 : Int32) * (((i1 + (1 : Int32)) - i2))) + (2 : Int32)).toNatClampNeg))), none, some (.long r23), none, some (.long (((f29 (((40 : Int32) * (i1 + (1 : Int32))) + i2).toNatClampNeg) / r23))), none, some (.long ((((i1 + (1 : Int32)).toInt64) / r23))), none, some (.long r38), none]) d_272_134 rfl ml_272 rfl rfl ?_
      refine g_aloadn (pc' := 137) d_272_136 rfl rfl ?_
      refine g_iloadn (pc' := 138) d_272_137 rfl rfl ?_
      refine g_lload (pc' := 140) d_272_138 rfl rfl ?_
      refine g_lload (pc' := 142) d_272_140 rfl rfl ?_
      refine g_lload (pc' := 144) d_272_142 rfl rfl ?_
      obtain ⟨hc39, h⟩ := h
      refine g_ldiv (pc' := 145) d_272_144 rfl hc39 ?_
      refine g_lmul (pc' := 146) d_272_145 rfl ?_
      refine g_lload (pc' := 148) d_272_146 rfl rfl ?_
      refine g_lload (pc' := 150) d_272_148 rfl rfl ?_
      obtain ⟨hc40, h⟩ := h
      refine g_ldiv (pc' := 151) d_272_150 rfl hc40 ?_
      refine g_lload (pc' := 153) d_272_151 rfl rfl ?_
      refine g_lmul (pc' := 154) d_272_153 rfl ?_
      obtain ⟨fs41, hw42, h⟩ := h
      obtain ⟨w43, hk44, h⟩ := h
      refine g_callV (pc' := 157) d_272_154 rfl st_272_293 na_273 ml_273 rfl rfl rfl rm_272_273 rfl rfl ow_273 hw42 hk44 ?_
      have h := h _ rfl
      refine g_iinc (pc' := 160) (l' := [some (.ref a0), some (.int i1), some (.int (i2 + (1 : Int32))), some (.int (((i1 + (1 : Int32)) - i2))), some (.long ((((f7 ((3 : Int32) * (((i1 + (1 : Int32)) - i2))).toNatClampNeg) * (f7 (((3 : Int32) * (((i1 + (1 : Int32)) - i2))) + (2 : Int32)).toNatClampNeg)) + (f7 (((3 : Int32) * (((i1 + (1 : Int32)) - i2))) + (1 : Int32)).toNatClampNeg)))), none, some (.long ((f7 (((3 : Int32) * (((i1 + (1 : Int32)) - i2))) + (2 : Int32)).toNatClampNeg))), none, some (.long r23), none, some (.long (((f29 (((40 : Int32) * (i1 + (1 : Int32))) + i2).toNatClampNeg) / r23))), none, some (.long ((((i1 + (1 : Int32)).toInt64) / r23))), none, some (.long r38), none]) d_272_157 rfl rfl ci_1 ml_272 rfl rfl ?_
      refine g_goto (pt := 9) d_272_160 (by decide) ?_
      exact xGo.more (xle_s (xle_s (xle_s (xle_n (xle_n (xle_n (xle_n (xle_n (xle_n (xle_n (xle_n (xle_n (xle_n (xle_n (xle_n (xle_n xle_0)))))))))))))))) h
    · replace h := h.2 c
      refine g_lload (pc' := 73) d_272_71 rfl rfl ?_
      refine g_lload (pc' := 75) d_272_73 rfl rfl ?_
      refine g_ladd (pc' := 76) d_272_75 rfl ?_
      have h := h _ rfl
      refine g_lstore (pc' := 78) (l' := [some (.ref a0), some (.int i1), some (.int i2), some (.int (((i1 + (1 : Int32)) - i2))), some (.long ((((((f7 ((3 : Int32) * (((i1 + (1 : Int32)) - i2))).toNatClampNeg) * (f7 (((3 : Int32) * (((i1 + (1 : Int32)) - i2))) + (2 : Int32)).toNatClampNeg)) + (f7 (((3 : Int32) * (((i1 + (1 : Int32)) - i2))) + (1 : Int32)).toNatClampNeg))) + ((f7 (((3 : Int32) * (((i1 + (1 : Int32)) - i2))) + (2 : Int32)).toNatClampNeg))))), none, some (.long ((f7 (((3 : Int32) * (((i1 + (1 : Int32)) - i2))) + (2 : Int32)).toNatClampNeg))), none, none, none, none, none, none, none, none, none]) d_272_76 rfl ml_272 rfl rfl ?_
      refine g_aloadn (pc' := 79) d_272_78 rfl rfl ?_
      obtain ⟨b47, hv48, h⟩ := h
      refine g_getf (pc' := 82) d_272_79 rfl st_272_24 hw3 hv48 ?_
      refine g_bipush (pc' := 84) d_272_82 rfl cb_40 ?_
      refine g_iloadn (pc' := 85) d_272_84 rfl rfl ?_
      refine g_iconst (pc' := 86) d_272_85 rfl ci_1 ?_
      refine g_iadd (pc' := 87) d_272_86 rfl ?_
      refine g_imul (pc' := 88) d_272_87 rfl ?_
      refine g_iloadn (pc' := 89) d_272_88 rfl rfl ?_
      refine g_iadd (pc' := 90) d_272_89 rfl ?_
      obtain ⟨n49, f50, hw51, h⟩ := h
      obtain ⟨hc52, h⟩ := h
      refine g_lald (pc' := 91) d_272_90 rfl hw51 hc52 ?_
      refine g_iloadn (pc' := 92) d_272_91 rfl rfl ?_
      refine g_iconst (pc' := 93) d_272_92 rfl ci_1 ?_
      refine g_iadd (pc' := 94) d_272_93 rfl ?_
      refine g_i2l (pc' := 95) d_272_94 rfl ?_
      obtain ⟨r55, w53, hk54, h⟩ := h
      refine g_callS (pc' := 98) d_272_95 rfl st_272_121 (Or.inl rfl) na_195 ml_195 rfl rfl rfl rm_272_195 rfl rfl hk54 ?_
      refine g_lstore (pc' := 100) (l' := [some (.ref a0), some (.int i1), some (.int i2), some (.int (((i1 + (1 : Int32)) - i2))), some (.long ((((((f7 ((3 : Int32) * (((i1 + (1 : Int32)) - i2))).toNatClampNeg) * (f7 (((3 : Int32) * (((i1 + (1 : Int32)) - i2))) + (2 : Int32)).toNatClampNeg)) + (f7 (((3 : Int32) * (((i1 + (1 : Int32)) - i2))) + (1 : Int32)).toNatClampNeg))) + ((f7 (((3 : Int32) * (((i1 + (1 : Int32)) - i2))) + (2 : Int32)).toNatClampNeg))))), none, some (.long ((f7 (((3 : Int32) * (((i1 + (1 : Int32)) - i2))) + (2 : Int32)).toNatClampNeg))), none, some (.long r55), none, none, none, none, none, none, none]) d_272_98 rfl ml_272 rfl rfl ?_
      refine g_aloadn (pc' := 101) d_272_100 rfl rfl ?_
      obtain ⟨fs56, hw57, h⟩ := h
      obtain ⟨b58, hv59, h⟩ := h
      refine g_getf (pc' := 104) d_272_101 rfl st_272_24 hw57 hv59 ?_
      refine g_bipush (pc' := 106) d_272_104 rfl cb_40 ?_
      refine g_iloadn (pc' := 107) d_272_106 rfl rfl ?_
      refine g_iconst (pc' := 108) d_272_107 rfl ci_1 ?_
      refine g_iadd (pc' := 109) d_272_108 rfl ?_
      refine g_imul (pc' := 110) d_272_109 rfl ?_
      refine g_iloadn (pc' := 111) d_272_110 rfl rfl ?_
      refine g_iadd (pc' := 112) d_272_111 rfl ?_
      obtain ⟨n60, f61, hw62, h⟩ := h
      obtain ⟨hc63, h⟩ := h
      refine g_lald (pc' := 113) d_272_112 rfl hw62 hc63 ?_
      refine g_lload (pc' := 115) d_272_113 rfl rfl ?_
      obtain ⟨hc64, h⟩ := h
      refine g_ldiv (pc' := 116) d_272_115 rfl hc64 ?_
      have h := h _ rfl
      refine g_lstore (pc' := 118) (l' := [some (.ref a0), some (.int i1), some (.int i2), some (.int (((i1 + (1 : Int32)) - i2))), some (.long ((((((f7 ((3 : Int32) * (((i1 + (1 : Int32)) - i2))).toNatClampNeg) * (f7 (((3 : Int32) * (((i1 + (1 : Int32)) - i2))) + (2 : Int32)).toNatClampNeg)) + (f7 (((3 : Int32) * (((i1 + (1 : Int32)) - i2))) + (1 : Int32)).toNatClampNeg))) + ((f7 (((3 : Int32) * (((i1 + (1 : Int32)) - i2))) + (2 : Int32)).toNatClampNeg))))), none, some (.long ((f7 (((3 : Int32) * (((i1 + (1 : Int32)) - i2))) + (2 : Int32)).toNatClampNeg))), none, some (.long r55), none, some (.long (((f61 (((40 : Int32) * (i1 + (1 : Int32))) + i2).toNatClampNeg) / r55))), none, none, none, none, none]) d_272_116 rfl ml_272 rfl rfl ?_
      refine g_iloadn (pc' := 119) d_272_118 rfl rfl ?_
      refine g_iconst (pc' := 120) d_272_119 rfl ci_1 ?_
      refine g_iadd (pc' := 121) d_272_120 rfl ?_
      refine g_i2l (pc' := 122) d_272_121 rfl ?_
      refine g_lload (pc' := 124) d_272_122 rfl rfl ?_
      obtain ⟨hc66, h⟩ := h
      refine g_ldiv (pc' := 125) d_272_124 rfl hc66 ?_
      have h := h _ rfl
      refine g_lstore (pc' := 127) (l' := [some (.ref a0), some (.int i1), some (.int i2), some (.int (((i1 + (1 : Int32)) - i2))), some (.long ((((((f7 ((3 : Int32) * (((i1 + (1 : Int32)) - i2))).toNatClampNeg) * (f7 (((3 : Int32) * (((i1 + (1 : Int32)) - i2))) + (2 : Int32)).toNatClampNeg)) + (f7 (((3 : Int32) * (((i1 + (1 : Int32)) - i2))) + (1 : Int32)).toNatClampNeg))) + ((f7 (((3 : Int32) * (((i1 + (1 : Int32)) - i2))) + (2 : Int32)).toNatClampNeg))))), none, some (.long ((f7 (((3 : Int32) * (((i1 + (1 : Int32)) - i2))) + (2 : Int32)).toNatClampNeg))), none, some (.long r55), none, some (.long (((f61 (((40 : Int32) * (i1 + (1 : Int32))) + i2).toNatClampNeg) / r55))), none, some (.long ((((i1 + (1 : Int32)).toInt64) / r55))), none, none, none]) d_272_125 rfl ml_272 rfl rfl ?_
      refine g_lload (pc' := 129) d_272_127 rfl rfl ?_
      refine g_lload (pc' := 131) d_272_129 rfl rfl ?_
      obtain ⟨r70, w68, hk69, h⟩ := h
      refine g_callS (pc' := 134) d_272_131 rfl st_272_121 (Or.inl rfl) na_195 ml_195 rfl rfl rfl rm_272_195 rfl rfl hk69 ?_
      refine g_lstore (pc' := 136) (l' := [some (.ref a0), some (.int i1), some (.int i2), some (.int (((i1 + (1 : Int32)) - i2))), some (.long ((((((f7 ((3 : Int32) * (((i1 + (1 : Int32)) - i2))).toNatClampNeg) * (f7 (((3 : Int32) * (((i1 + (1 : Int32)) - i2))) + (2 : Int32)).toNatClampNeg)) + (f7 (((3 : Int32) * (((i1 + (1 : Int32)) - i2))) + (1 : Int32)).toNatClampNeg))) + ((f7 (((3 : Int32) * (((i1 + (1 : Int32)) - i2))) + (2 : Int32)).toNatClampNeg))))), none, some (.long ((f7 (((3 : Int32) * (((i1 + (1 : Int32)) - i2))) + (2 : Int32)).toNatClampNeg))), none, some (.long r55), none, some (.long (((f61 (((40 : Int32) * (i1 + (1 : Int32))) + i2).toNatClampNeg) / r55))), none, some (.long ((((i1 + (1 : Int32)).toInt64) / r55))), none, some (.long r70), none]) d_272_134 rfl ml_272 rfl rfl ?_
      refine g_aloadn (pc' := 137) d_272_136 rfl rfl ?_
      refine g_iloadn (pc' := 138) d_272_137 rfl rfl ?_
      refine g_lload (pc' := 140) d_272_138 rfl rfl ?_
      refine g_lload (pc' := 142) d_272_140 rfl rfl ?_
      refine g_lload (pc' := 144) d_272_142 rfl rfl ?_
      obtain ⟨hc71, h⟩ := h
      refine g_ldiv (pc' := 145) d_272_144 rfl hc71 ?_
      refine g_lmul (pc' := 146) d_272_145 rfl ?_
      refine g_lload (pc' := 148) d_272_146 rfl rfl ?_
      refine g_lload (pc' := 150) d_272_148 rfl rfl ?_
      obtain ⟨hc72, h⟩ := h
      refine g_ldiv (pc' := 151) d_272_150 rfl hc72 ?_
      refine g_lload (pc' := 153) d_272_151 rfl rfl ?_
      refine g_lmul (pc' := 154) d_272_153 rfl ?_
      obtain ⟨fs73, hw74, h⟩ := h
      obtain ⟨w75, hk76, h⟩ := h
      refine g_callV (pc' := 157) d_272_154 rfl st_272_293 na_273 ml_273 rfl rfl rfl rm_272_273 rfl rfl ow_273 hw74 hk76 ?_
      have h := h _ rfl
      refine g_iinc (pc' := 160) (l' := [some (.ref a0), some (.int i1), some (.int (i2 + (1 : Int32))), some (.int (((i1 + (1 : Int32)) - i2))), some (.long ((((((f7 ((3 : Int32) * (((i1 + (1 : Int32)) - i2))).toNatClampNeg) * (f7 (((3 : Int32) * (((i1 + (1 : Int32)) - i2))) + (2 : Int32)).toNatClampNeg)) + (f7 (((3 : Int32) * (((i1 + (1 : Int32)) - i2))) + (1 : Int32)).toNatClampNeg))) + ((f7 (((3 : Int32) * (((i1 + (1 : Int32)) - i2))) + (2 : Int32)).toNatClampNeg))))), none, some (.long ((f7 (((3 : Int32) * (((i1 + (1 : Int32)) - i2))) + (2 : Int32)).toNatClampNeg))), none, some (.long r55), none, some (.long (((f61 (((40 : Int32) * (i1 + (1 : Int32))) + i2).toNatClampNeg) / r55))), none, some (.long ((((i1 + (1 : Int32)).toInt64) / r55))), none, some (.long r70), none]) d_272_157 rfl rfl ci_1 ml_272 rfl rfl ?_
      refine g_goto (pt := 9) d_272_160 (by decide) ?_
      exact xGo.more (xle_s (xle_s (xle_s (xle_n (xle_n (xle_n (xle_n (xle_n (xle_n (xle_n (xle_n (xle_n (xle_n (xle_n (xle_n (xle_n xle_0)))))))))))))))) h
