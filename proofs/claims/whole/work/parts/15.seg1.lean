/-! segments of methods, laid by wip/whole/wp.py -/
-- 64 BernoulliWays$Checks.dueSign(I)I
theorem S_64_0 {i0 : Int32} {w : xW} {r : Option Value × xW} (h : (¬ i0 = 0 → ((irem i0 (2 : Int32)) = 0 → (¬ (irem i0 (4 : Int32)) = (2 : Int32) → r = (some (.int (-1 : Int32)), w)) ∧ (¬ (¬ (irem i0 (4 : Int32)) = (2 : Int32)) → r = (some (.int (1 : Int32)), w))) ∧ (¬ ((irem i0 (2 : Int32)) = 0) → (¬ i0 = (1 : Int32) → r = (some (.int (0 : Int32)), w)) ∧ (¬ (¬ i0 = (1 : Int32)) → r = (some (.int (-1 : Int32)), w)))) ∧ (¬ (¬ i0 = 0) → r = (some (.int (1 : Int32)), w))) : xGo 64 0 [some (.int i0)] [] w r := by
  refine g_iloadn (pc' := 1) d_64_0 rfl rfl ?_
  refine g_if_ne (pc' := 4) (pt := 6) d_64_1 (by decide) rfl (fun c => ?_) (fun c => ?_)
  · replace h := h.1 c
    refine g_iloadn (pc' := 7) d_64_6 rfl rfl ?_
    refine g_iconst (pc' := 8) d_64_7 rfl ci_2 ?_
    refine g_irem (pc' := 9) d_64_8 rfl (by decide) ?_
    refine g_if_eq (pc' := 12) (pt := 23) d_64_9 (by decide) rfl (fun c => ?_) (fun c => ?_)
    · replace h := h.1 c
      refine g_iloadn (pc' := 24) d_64_23 rfl rfl ?_
      refine g_iconst (pc' := 25) d_64_24 rfl ci_4 ?_
      refine g_irem (pc' := 26) d_64_25 rfl (by decide) ?_
      refine g_iconst (pc' := 27) d_64_26 rfl ci_2 ?_
      refine g_ic_ne (pc' := 30) (pt := 34) d_64_27 (by decide) rfl (fun c => ?_) (fun c => ?_)
      · replace h := h.1 c
        refine g_iconst (pc' := 35) d_64_34 rfl ci_m1 ?_
        exact g_iret d_64_35 rt_64 h
      · replace h := h.2 c
        refine g_iconst (pc' := 31) d_64_30 rfl ci_1 ?_
        refine g_goto (pt := 35) d_64_31 (by decide) ?_
        exact g_iret d_64_35 rt_64 h
    · replace h := h.2 c
      refine g_iloadn (pc' := 13) d_64_12 rfl rfl ?_
      refine g_iconst (pc' := 14) d_64_13 rfl ci_1 ?_
      refine g_ic_ne (pc' := 17) (pt := 21) d_64_14 (by decide) rfl (fun c => ?_) (fun c => ?_)
      · replace h := h.1 c
        refine g_iconst (pc' := 22) d_64_21 rfl ci_0 ?_
        exact g_iret d_64_22 rt_64 h
      · replace h := h.2 c
        refine g_iconst (pc' := 18) d_64_17 rfl ci_m1 ?_
        refine g_goto (pt := 22) d_64_18 (by decide) ?_
        exact g_iret d_64_22 rt_64 h
  · replace h := h.2 c
    refine g_iconst (pc' := 5) d_64_4 rfl ci_1 ?_
    exact g_iret d_64_5 rt_64 h
-- 65 BernoulliWays$Checks.failsRecurrence(I)Z
theorem S_65_0 {a0 : Nat} {i1 : Int32} {w : xW} {r : Option Value × xW} (h : ((1 : Int32) ≤ i1 → ∃ fs1, w[a0]? = some (.inr (6, fs1)) ∧ ∃ w3, xCall 36 [.ref a0, .int i1, .int i1] w (none, w3) ∧ ∃ fs5, w3[a0]? = some (.inr (6, fs5)) ∧ ∃ b7, fs5[2]? = some (.ref b7) ∧ ∃ fs9, w3[b7]? = some (.inr (2, fs9)) ∧ ∃ r13 w11, xCall 66 [.ref b7] w3 (some (.int r13), w11) ∧ (¬ r13 = 0 → r = (some (.int (0 : Int32)), w11)) ∧ (¬ (¬ r13 = 0) → r = (some (.int (1 : Int32)), w11))) ∧ (¬ ((1 : Int32) ≤ i1) → r = (some (.int (0 : Int32)), w))) : xGo 65 0 [some (.ref a0), some (.int i1)] [] w r := by
  refine g_iloadn (pc' := 1) d_65_0 rfl rfl ?_
  refine g_iconst (pc' := 2) d_65_1 rfl ci_1 ?_
  refine g_ic_ge (pc' := 5) (pt := 7) d_65_2 (by decide) rfl (fun c => ?_) (fun c => ?_)
  · replace h := h.1 c
    refine g_aloadn (pc' := 8) d_65_7 rfl rfl ?_
    refine g_iloadn (pc' := 9) d_65_8 rfl rfl ?_
    refine g_iloadn (pc' := 10) d_65_9 rfl rfl ?_
    obtain ⟨fs1, hw2, h⟩ := h
    obtain ⟨w3, hk4, h⟩ := h
    refine g_callV (pc' := 13) d_65_10 rfl st_65_111 na_36 ml_36 rfl rfl rfl rm_65_36 rfl rfl ow_36 hw2 hk4 ?_
    refine g_aloadn (pc' := 14) d_65_13 rfl rfl ?_
    obtain ⟨fs5, hw6, h⟩ := h
    obtain ⟨b7, hv8, h⟩ := h
    refine g_getf (pc' := 17) d_65_14 rfl st_65_19 hw6 hv8 ?_
    obtain ⟨fs9, hw10, h⟩ := h
    obtain ⟨r13, w11, hk12, h⟩ := h
    refine g_callV (pc' := 20) d_65_17 rfl st_65_115 na_66 ml_66 rfl rfl rfl rm_65_66 rfl rfl ow_66 hw10 hk12 ?_
    refine g_if_ne (pc' := 23) (pt := 27) d_65_20 (by decide) rfl (fun c => ?_) (fun c => ?_)
    · replace h := h.1 c
      refine g_iconst (pc' := 28) d_65_27 rfl ci_0 ?_
      exact g_zret d_65_28 rt_65 (Or.inl rfl) h
    · replace h := h.2 c
      refine g_iconst (pc' := 24) d_65_23 rfl ci_1 ?_
      refine g_goto (pt := 28) d_65_24 (by decide) ?_
      exact g_zret d_65_28 rt_65 (Or.inr rfl) h
  · replace h := h.2 c
    refine g_iconst (pc' := 6) d_65_5 rfl ci_0 ?_
    exact g_zret d_65_6 rt_65 (Or.inl rfl) h
-- 66 BernoulliWays$Total.isNothing()Z
theorem S_66_0 {a0 : Nat} {w : xW} {r : Option Value × xW} (h : ∃ fs1, w[a0]? = some (.inr (2, fs1)) ∧ ∃ x3, fs1[1]? = some (.long x3) ∧ (¬ x3 = (0 : Int64) → r = (some (.int (0 : Int32)), w)) ∧ (¬ (¬ x3 = (0 : Int64)) → ∃ x5, fs1[2]? = some (.long x5) ∧ (¬ x5 = (0 : Int64) → r = (some (.int (0 : Int32)), w)) ∧ (¬ (¬ x5 = (0 : Int64)) → r = (some (.int (1 : Int32)), w)))) : xGo 66 0 [some (.ref a0)] [] w r := by
  refine g_aloadn (pc' := 1) d_66_0 rfl rfl ?_
  obtain ⟨fs1, hw2, h⟩ := h
  obtain ⟨x3, hv4, h⟩ := h
  refine g_getf (pc' := 4) d_66_1 rfl st_66_19 hw2 hv4 ?_
  refine g_lconst (pc' := 5) d_66_4 rfl cl_0 ?_
  refine g_lc_ne (pc' := 9) (pm := 6) (pt := 22) d_66_5 rfl d_66_6 (by decide) rfl (fun c => ?_) (fun c => ?_)
  · replace h := h.1 c
    refine g_iconst (pc' := 23) d_66_22 rfl ci_0 ?_
    exact g_zret d_66_23 rt_66 (Or.inl rfl) h
  · replace h := h.2 c
    refine g_aloadn (pc' := 10) d_66_9 rfl rfl ?_
    obtain ⟨x5, hv6, h⟩ := h
    refine g_getf (pc' := 13) d_66_10 rfl st_66_22 hw2 hv6 ?_
    refine g_lconst (pc' := 14) d_66_13 rfl cl_0 ?_
    refine g_lc_ne (pc' := 18) (pm := 15) (pt := 22) d_66_14 rfl d_66_15 (by decide) rfl (fun c => ?_) (fun c => ?_)
    · replace h := h.1 c
      refine g_iconst (pc' := 23) d_66_22 rfl ci_0 ?_
      exact g_zret d_66_23 rt_66 (Or.inl rfl) h
    · replace h := h.2 c
      refine g_iconst (pc' := 19) d_66_18 rfl ci_1 ?_
      refine g_goto (pt := 23) d_66_19 (by decide) ?_
      exact g_zret d_66_23 rt_66 (Or.inr rfl) h
-- 67 BernoulliWays$Checks.failsKummer(I)Z
theorem S_67_0 {a0 : Nat} {i1 : Int32} {w : xW} {r : Option Value × xW} (h : xGo 67 2 [some (.ref a0), some (.int i1), some (.int (2 : Int32)), none, none] [] w r) : xGo 67 0 [some (.ref a0), some (.int i1), none, none, none] [] w r := by
  refine g_iconst (pc' := 1) d_67_0 rfl ci_2 ?_
  refine g_istoren (pc' := 2) (l' := [some (.ref a0), some (.int i1), some (.int (2 : Int32)), none, none]) d_67_1 rfl ml_67 rfl rfl ?_
  exact h
theorem S_67_2 {a0 : Nat} {i1 : Int32} {i2 : Int32} {w : xW} {r : Option Value × xW} (h : ((11 : Int32) < i2 → r = (some (.int (0 : Int32)), w)) ∧ (¬ ((11 : Int32) < i2) → (w[xP]? = none) ∧ ((46 : Int32) ≤ i2 → r = (some (.int (0 : Int32)), w)) ∧ (¬ ((46 : Int32) ≤ i2) → (w[xP]? = none) ∧ (¬ (i2 < 0 ∨ 46 ≤ i2.toNatClampNeg)) ∧ ∀ v4 : Int32, v4 = (xpr i2.toNatClampNeg) → ∀ v5 : Int32, v5 = ((i1 - v4) + (1 : Int32)) → xGo 67 29 [some (.ref a0), some (.int i1), some (.int i2), some (.int v4), some (.int v5)] [] w r))) : xGo 67 2 [some (.ref a0), some (.int i1), some (.int i2), none, none] [] w r := by
  refine g_iloadn (pc' := 3) d_67_2 rfl rfl ?_
  refine g_bipush (pc' := 5) d_67_3 rfl cb_11 ?_
  refine g_ic_gt (pc' := 8) (pt := 69) d_67_5 (by decide) rfl (fun c => ?_) (fun c => ?_)
  · replace h := h.1 c
    refine g_iconst (pc' := 70) d_67_69 rfl ci_0 ?_
    exact g_zret d_67_70 rt_67 (Or.inl rfl) h
  · replace h := h.2 c
    refine g_iloadn (pc' := 9) d_67_8 rfl rfl ?_
    refine g_gets (pc' := 12) d_67_9 rfl st_67_104 (Or.inr rfl) ?_
    obtain ⟨hc1, h⟩ := h
    refine g_lenp (pc' := 13) d_67_12 rfl hc1 ?_
    refine g_ic_ge (pc' := 16) (pt := 69) d_67_13 (by decide) rfl (fun c => ?_) (fun c => ?_)
    · replace h := h.1 c
      refine g_iconst (pc' := 70) d_67_69 rfl ci_0 ?_
      exact g_zret d_67_70 rt_67 (Or.inl rfl) h
    · replace h := h.2 c
      refine g_gets (pc' := 19) d_67_16 rfl st_67_104 (Or.inr rfl) ?_
      refine g_iloadn (pc' := 20) d_67_19 rfl rfl ?_
      obtain ⟨hc2, h⟩ := h
      obtain ⟨hc3, h⟩ := h
      refine g_pald (pc' := 21) d_67_20 rfl hc2 hc3 ?_
      have h := h _ rfl
      refine g_istoren (pc' := 22) (l' := [some (.ref a0), some (.int i1), some (.int i2), some (.int ((xpr i2.toNatClampNeg))), none]) d_67_21 rfl ml_67 rfl rfl ?_
      refine g_iloadn (pc' := 23) d_67_22 rfl rfl ?_
      refine g_iloadn (pc' := 24) d_67_23 rfl rfl ?_
      refine g_isub (pc' := 25) d_67_24 rfl ?_
      refine g_iconst (pc' := 26) d_67_25 rfl ci_1 ?_
      refine g_iadd (pc' := 27) d_67_26 rfl ?_
      have h := h _ rfl
      refine g_istore (pc' := 29) (l' := [some (.ref a0), some (.int i1), some (.int i2), some (.int ((xpr i2.toNatClampNeg))), some (.int (((i1 - ((xpr i2.toNatClampNeg))) + (1 : Int32))))]) d_67_27 rfl ml_67 rfl rfl ?_
      exact h
theorem S_67_29 {a0 : Nat} {i1 : Int32} {i2 : Int32} {i3 : Int32} {i4 : Int32} {w : xW} {r : Option Value × xW} (h : (i4 < (2 : Int32) → ∀ v1 : Int32, v1 = i2 + (1 : Int32) → xGo 67 2 [some (.ref a0), some (.int i1), some (.int v1), none, none] [] w r) ∧ (¬ (i4 < (2 : Int32)) → ∃ fs2, w[a0]? = some (.inr (6, fs2)) ∧ ∃ r6 w4, xCall 68 [.ref a0, .int i3, .int i4, .int i1] w (some (.int r6), w4) ∧ (r6 ≤ 0 → ∃ r9 w7, xCall 71 [.int (i3 - (1 : Int32)), .int (1 : Int32)] w4 (some (.int r9), w7) ∧ ∀ v10 : Int32, v10 = (i4 - r9) → xGo 67 29 [some (.ref a0), some (.int i1), some (.int i2), some (.int i3), some (.int v10)] [] w7 r) ∧ (¬ (r6 ≤ 0) → r = (some (.int (1 : Int32)), w4)))) : xGo 67 29 [some (.ref a0), some (.int i1), some (.int i2), some (.int i3), some (.int i4)] [] w r := by
  refine g_iload (pc' := 31) d_67_29 rfl rfl ?_
  refine g_iconst (pc' := 32) d_67_31 rfl ci_2 ?_
  refine g_ic_lt (pc' := 35) (pt := 63) d_67_32 (by decide) rfl (fun c => ?_) (fun c => ?_)
  · replace h := h.1 c
    have h := h _ rfl
    refine g_iinc (pc' := 66) (l' := [some (.ref a0), some (.int i1), some (.int (i2 + (1 : Int32))), some (.int i3), some (.int i4)]) d_67_63 rfl rfl ci_1 ml_67 rfl rfl ?_
    refine g_goto (pt := 2) d_67_66 (by decide) ?_
    exact xGo.more (xle_s (xle_s (xle_s (xle_n (xle_n xle_0))))) h
  · replace h := h.2 c
    refine g_aloadn (pc' := 36) d_67_35 rfl rfl ?_
    refine g_iloadn (pc' := 37) d_67_36 rfl rfl ?_
    refine g_iload (pc' := 39) d_67_37 rfl rfl ?_
    refine g_iloadn (pc' := 40) d_67_39 rfl rfl ?_
    obtain ⟨fs2, hw3, h⟩ := h
    obtain ⟨r6, w4, hk5, h⟩ := h
    refine g_callV (pc' := 43) d_67_40 rfl st_67_119 na_68 ml_68 rfl rfl rfl rm_67_68 rfl rfl ow_68 hw3 hk5 ?_
    refine g_if_le (pc' := 46) (pt := 48) d_67_43 (by decide) rfl (fun c => ?_) (fun c => ?_)
    · replace h := h.1 c
      refine g_iload (pc' := 50) d_67_48 rfl rfl ?_
      refine g_iloadn (pc' := 51) d_67_50 rfl rfl ?_
      refine g_iconst (pc' := 52) d_67_51 rfl ci_1 ?_
      refine g_isub (pc' := 53) d_67_52 rfl ?_
      refine g_iconst (pc' := 54) d_67_53 rfl ci_1 ?_
      obtain ⟨r9, w7, hk8, h⟩ := h
      refine g_callS (pc' := 57) d_67_54 rfl st_67_123 (Or.inl rfl) na_71 ml_71 rfl rfl rfl rm_67_71 rfl rfl hk8 ?_
      refine g_isub (pc' := 58) d_67_57 rfl ?_
      have h := h _ rfl
      refine g_istore (pc' := 60) (l' := [some (.ref a0), some (.int i1), some (.int i2), some (.int i3), some (.int ((i4 - r9)))]) d_67_58 rfl ml_67 rfl rfl ?_
      refine g_goto (pt := 29) d_67_60 (by decide) ?_
      exact h
    · replace h := h.2 c
      refine g_iconst (pc' := 47) d_67_46 rfl ci_1 ?_
      exact g_zret d_67_47 rt_67 (Or.inr rfl) h
-- 68 BernoulliWays$Checks.kummerOf(III)I
theorem S_68_0 {a0 : Nat} {i1 : Int32} {i2 : Int32} {i3 : Int32} {w : xW} {r : Option Value × xW} (h : ∃ fs1, w[a0]? = some (.inr (6, fs1)) ∧ ∃ r5 w3, xCall 69 [.ref a0, .int i1, .int i2] w (some (.int r5), w3) ∧ (r5 = 0 → r = (some (.int (-3 : Int32)), w3)) ∧ (¬ (r5 = 0) → ∃ fs6, w3[a0]? = some (.inr (6, fs6)) ∧ ∃ r10 w8, xCall 69 [.ref a0, .int i1, .int i3] w3 (some (.int r10), w8) ∧ (r10 = 0 → r = (some (.int (-3 : Int32)), w8)) ∧ (¬ (r10 = 0) → (¬ (i1 - (1 : Int32)) = 0) ∧ ((irem (i2 - i3) (i1 - (1 : Int32))) = 0 → ∃ fs12, w8[a0]? = some (.inr (6, fs12)) ∧ ∃ r16 w14, xCall 70 [.ref a0, .int i2, .long (i1.toInt64)] w8 (some (.long r16), w14) ∧ ∃ fs17, w14[a0]? = some (.inr (6, fs17)) ∧ ∃ r21 w19, xCall 70 [.ref a0, .int i3, .long (i1.toInt64)] w14 (some (.long r21), w19) ∧ ∃ r24 w22, xCall 54 [.long (r16 - r21), .long (i1.toInt64)] w19 (some (.long r24), w22) ∧ r = (some (.int (r24.toInt32)), w22)) ∧ (¬ ((irem (i2 - i3) (i1 - (1 : Int32))) = 0) → r = (some (.int (-3 : Int32)), w8))))) : xGo 68 0 [some (.ref a0), some (.int i1), some (.int i2), some (.int i3)] [] w r := by
  refine g_aloadn (pc' := 1) d_68_0 rfl rfl ?_
  refine g_iloadn (pc' := 2) d_68_1 rfl rfl ?_
  refine g_iloadn (pc' := 3) d_68_2 rfl rfl ?_
  obtain ⟨fs1, hw2, h⟩ := h
  obtain ⟨r5, w3, hk4, h⟩ := h
  refine g_callV (pc' := 6) d_68_3 rfl st_68_66 na_69 ml_69 rfl rfl rfl rm_68_69 rfl rfl ow_69 hw2 hk4 ?_
  refine g_if_eq (pc' := 9) (pt := 28) d_68_6 (by decide) rfl (fun c => ?_) (fun c => ?_)
  · replace h := h.1 c
    refine g_bipush (pc' := 30) d_68_28 rfl cb_m3 ?_
    exact g_iret d_68_30 rt_68 h
  · replace h := h.2 c
    refine g_aloadn (pc' := 10) d_68_9 rfl rfl ?_
    refine g_iloadn (pc' := 11) d_68_10 rfl rfl ?_
    refine g_iloadn (pc' := 12) d_68_11 rfl rfl ?_
    obtain ⟨fs6, hw7, h⟩ := h
    obtain ⟨r10, w8, hk9, h⟩ := h
    refine g_callV (pc' := 15) d_68_12 rfl st_68_66 na_69 ml_69 rfl rfl rfl rm_68_69 rfl rfl ow_69 hw7 hk9 ?_
    refine g_if_eq (pc' := 18) (pt := 28) d_68_15 (by decide) rfl (fun c => ?_) (fun c => ?_)
    · replace h := h.1 c
      refine g_bipush (pc' := 30) d_68_28 rfl cb_m3 ?_
      exact g_iret d_68_30 rt_68 h
    · replace h := h.2 c
      refine g_iloadn (pc' := 19) d_68_18 rfl rfl ?_
      refine g_iloadn (pc' := 20) d_68_19 rfl rfl ?_
      refine g_isub (pc' := 21) d_68_20 rfl ?_
      refine g_iloadn (pc' := 22) d_68_21 rfl rfl ?_
      refine g_iconst (pc' := 23) d_68_22 rfl ci_1 ?_
      refine g_isub (pc' := 24) d_68_23 rfl ?_
      obtain ⟨hc11, h⟩ := h
      refine g_irem (pc' := 25) d_68_24 rfl hc11 ?_
      refine g_if_eq (pc' := 28) (pt := 31) d_68_25 (by decide) rfl (fun c => ?_) (fun c => ?_)
      · replace h := h.1 c
        refine g_aloadn (pc' := 32) d_68_31 rfl rfl ?_
        refine g_iloadn (pc' := 33) d_68_32 rfl rfl ?_
        refine g_iloadn (pc' := 34) d_68_33 rfl rfl ?_
        refine g_i2l (pc' := 35) d_68_34 rfl ?_
        obtain ⟨fs12, hw13, h⟩ := h
        obtain ⟨r16, w14, hk15, h⟩ := h
        refine g_callV (pc' := 38) d_68_35 rfl st_68_70 na_70 ml_70 rfl rfl rfl rm_68_70 rfl rfl ow_70 hw13 hk15 ?_
        refine g_aloadn (pc' := 39) d_68_38 rfl rfl ?_
        refine g_iloadn (pc' := 40) d_68_39 rfl rfl ?_
        refine g_iloadn (pc' := 41) d_68_40 rfl rfl ?_
        refine g_i2l (pc' := 42) d_68_41 rfl ?_
        obtain ⟨fs17, hw18, h⟩ := h
        obtain ⟨r21, w19, hk20, h⟩ := h
        refine g_callV (pc' := 45) d_68_42 rfl st_68_70 na_70 ml_70 rfl rfl rfl rm_68_70 rfl rfl ow_70 hw18 hk20 ?_
        refine g_lsub (pc' := 46) d_68_45 rfl ?_
        refine g_iloadn (pc' := 47) d_68_46 rfl rfl ?_
        refine g_i2l (pc' := 48) d_68_47 rfl ?_
        obtain ⟨r24, w22, hk23, h⟩ := h
        refine g_callS (pc' := 51) d_68_48 rfl st_68_74 (Or.inl rfl) na_54 ml_54 rfl rfl rfl rm_68_54 rfl rfl hk23 ?_
        refine g_l2i (pc' := 52) d_68_51 rfl ?_
        exact g_iret d_68_52 rt_68 h
      · replace h := h.2 c
        refine g_bipush (pc' := 30) d_68_28 rfl cb_m3 ?_
        exact g_iret d_68_30 rt_68 h
-- 69 BernoulliWays$Checks.isTold(II)Z
theorem S_69_0 {a0 : Nat} {i1 : Int32} {i2 : Int32} {w : xW} {r : Option Value × xW} (h : (i1 ≤ (1 : Int32) → r = (some (.int (0 : Int32)), w)) ∧ (¬ (i1 ≤ (1 : Int32)) → ∃ r3 w1, xCall 47 [.int i2] w (some (.int r3), w1) ∧ (r3 = 0 → r = (some (.int (0 : Int32)), w1)) ∧ (¬ (r3 = 0) → (¬ (i1 - (1 : Int32)) = 0) ∧ ((irem i2 (i1 - (1 : Int32))) = 0 → r = (some (.int (0 : Int32)), w1)) ∧ (¬ ((irem i2 (i1 - (1 : Int32))) = 0) → (¬ i1 = 0) ∧ ((irem i2 i1) = 0 → r = (some (.int (0 : Int32)), w1)) ∧ (¬ ((irem i2 i1) = 0) → ∃ fs6, w1[a0]? = some (.inr (6, fs6)) ∧ ∃ b8, fs6[0]? = some (.ref b8) ∧ ∃ fs10, w1[b8]? = some (.inr (4, fs10)) ∧ ∃ r14 w12, xCall 31 [.ref b8, .int i2] w1 (some (.long r14), w12) ∧ (¬ (i1.toInt64) = 0) ∧ ((lrem r14 (i1.toInt64)) = (0 : Int64) → r = (some (.int (0 : Int32)), w12)) ∧ (¬ ((lrem r14 (i1.toInt64)) = (0 : Int64)) → r = (some (.int (1 : Int32)), w12))))))) : xGo 69 0 [some (.ref a0), some (.int i1), some (.int i2)] [] w r := by
  refine g_iloadn (pc' := 1) d_69_0 rfl rfl ?_
  refine g_iconst (pc' := 2) d_69_1 rfl ci_1 ?_
  refine g_ic_le (pc' := 5) (pt := 46) d_69_2 (by decide) rfl (fun c => ?_) (fun c => ?_)
  · replace h := h.1 c
    refine g_iconst (pc' := 47) d_69_46 rfl ci_0 ?_
    exact g_zret d_69_47 rt_69 (Or.inl rfl) h
  · replace h := h.2 c
    refine g_iloadn (pc' := 6) d_69_5 rfl rfl ?_
    obtain ⟨r3, w1, hk2, h⟩ := h
    refine g_callS (pc' := 9) d_69_6 rfl st_69_84 (Or.inr rfl) na_47 ml_47 rfl rfl rfl rm_69_47 rfl rfl hk2 ?_
    refine g_if_eq (pc' := 12) (pt := 46) d_69_9 (by decide) rfl (fun c => ?_) (fun c => ?_)
    · replace h := h.1 c
      refine g_iconst (pc' := 47) d_69_46 rfl ci_0 ?_
      exact g_zret d_69_47 rt_69 (Or.inl rfl) h
    · replace h := h.2 c
      refine g_iloadn (pc' := 13) d_69_12 rfl rfl ?_
      refine g_iloadn (pc' := 14) d_69_13 rfl rfl ?_
      refine g_iconst (pc' := 15) d_69_14 rfl ci_1 ?_
      refine g_isub (pc' := 16) d_69_15 rfl ?_
      obtain ⟨hc4, h⟩ := h
      refine g_irem (pc' := 17) d_69_16 rfl hc4 ?_
      refine g_if_eq (pc' := 20) (pt := 46) d_69_17 (by decide) rfl (fun c => ?_) (fun c => ?_)
      · replace h := h.1 c
        refine g_iconst (pc' := 47) d_69_46 rfl ci_0 ?_
        exact g_zret d_69_47 rt_69 (Or.inl rfl) h
      · replace h := h.2 c
        refine g_iloadn (pc' := 21) d_69_20 rfl rfl ?_
        refine g_iloadn (pc' := 22) d_69_21 rfl rfl ?_
        obtain ⟨hc5, h⟩ := h
        refine g_irem (pc' := 23) d_69_22 rfl hc5 ?_
        refine g_if_eq (pc' := 26) (pt := 46) d_69_23 (by decide) rfl (fun c => ?_) (fun c => ?_)
        · replace h := h.1 c
          refine g_iconst (pc' := 47) d_69_46 rfl ci_0 ?_
          exact g_zret d_69_47 rt_69 (Or.inl rfl) h
        · replace h := h.2 c
          refine g_aloadn (pc' := 27) d_69_26 rfl rfl ?_
          obtain ⟨fs6, hw7, h⟩ := h
          obtain ⟨b8, hv9, h⟩ := h
          refine g_getf (pc' := 30) d_69_27 rfl st_69_9 hw7 hv9 ?_
          refine g_iloadn (pc' := 31) d_69_30 rfl rfl ?_
          obtain ⟨fs10, hw11, h⟩ := h
          obtain ⟨r14, w12, hk13, h⟩ := h
          refine g_callV (pc' := 34) d_69_31 rfl st_69_87 na_31 ml_31 rfl rfl rfl rm_69_31 rfl rfl ow_31 hw11 hk13 ?_
          refine g_iloadn (pc' := 35) d_69_34 rfl rfl ?_
          refine g_i2l (pc' := 36) d_69_35 rfl ?_
          obtain ⟨hc15, h⟩ := h
          refine g_lrem (pc' := 37) d_69_36 rfl hc15 ?_
          refine g_lconst (pc' := 38) d_69_37 rfl cl_0 ?_
          refine g_lc_eq (pc' := 42) (pm := 39) (pt := 46) d_69_38 rfl d_69_39 (by decide) rfl (fun c => ?_) (fun c => ?_)
          · replace h := h.1 c
            refine g_iconst (pc' := 47) d_69_46 rfl ci_0 ?_
            exact g_zret d_69_47 rt_69 (Or.inl rfl) h
          · replace h := h.2 c
            refine g_iconst (pc' := 43) d_69_42 rfl ci_1 ?_
            refine g_goto (pt := 47) d_69_43 (by decide) ?_
            exact g_zret d_69_47 rt_69 (Or.inr rfl) h
-- 70 BernoulliWays$Checks.byNumber(IJ)J
theorem S_70_0 {a0 : Nat} {i1 : Int32} {l2 : Int64} {w : xW} {r : Option Value × xW} (h : ((0 : Int64) < l2 → ∃ fs1, w[a0]? = some (.inr (6, fs1)) ∧ ∃ b3, fs1[0]? = some (.ref b3) ∧ ∃ fs5, w[b3]? = some (.inr (4, fs5)) ∧ ∃ r9 w7, xCall 31 [.ref b3, .int i1] w (some (.long r9), w7) ∧ ∃ fs10, w7[a0]? = some (.inr (6, fs10)) ∧ ∃ b12, fs10[0]? = some (.ref b12) ∧ ∃ fs14, w7[b12]? = some (.inr (4, fs14)) ∧ ∃ r18 w16, xCall 29 [.ref b12, .int i1] w7 (some (.long r18), w16) ∧ (¬ l2 = 0) ∧ ∃ fs20, w16[a0]? = some (.inr (6, fs20)) ∧ ∃ b22, fs20[0]? = some (.ref b22) ∧ ∃ fs24, w16[b22]? = some (.inr (4, fs24)) ∧ ∃ r28 w26, xCall 30 [.ref b22, .int i1] w16 (some (.long r28), w26) ∧ ∀ v29 : Int64, v29 = (((lrem r18 l2) * r9) + r28) → (¬ l2 = 0) ∧ ∃ r33 w31, xCall 53 [.long ((i1.toInt64) * r9), .long l2] w26 (some (.long r33), w31) ∧ (¬ l2 = 0) ∧ r = (some (.long (lrem ((lrem v29 l2) * r33) l2)), w31)) ∧ (¬ ((0 : Int64) < l2) → r = (some (.long (0 : Int64)), w))) : xGo 70 0 [some (.ref a0), some (.int i1), some (.long l2), none, none, none, none, none] [] w r := by
  refine g_lloadn (pc' := 1) d_70_0 rfl rfl ?_
  refine g_lconst (pc' := 2) d_70_1 rfl cl_0 ?_
  refine g_lc_gt (pc' := 6) (pm := 3) (pt := 8) d_70_2 rfl d_70_3 (by decide) rfl (fun c => ?_) (fun c => ?_)
  · replace h := h.1 c
    refine g_aloadn (pc' := 9) d_70_8 rfl rfl ?_
    obtain ⟨fs1, hw2, h⟩ := h
    obtain ⟨b3, hv4, h⟩ := h
    refine g_getf (pc' := 12) d_70_9 rfl st_70_9 hw2 hv4 ?_
    refine g_iloadn (pc' := 13) d_70_12 rfl rfl ?_
    obtain ⟨fs5, hw6, h⟩ := h
    obtain ⟨r9, w7, hk8, h⟩ := h
    refine g_callV (pc' := 16) d_70_13 rfl st_70_87 na_31 ml_31 rfl rfl rfl rm_70_31 rfl rfl ow_31 hw6 hk8 ?_
    refine g_lstore (pc' := 18) (l' := [some (.ref a0), some (.int i1), some (.long l2), none, some (.long r9), none, none, none]) d_70_16 rfl ml_70 rfl rfl ?_
    refine g_aloadn (pc' := 19) d_70_18 rfl rfl ?_
    obtain ⟨fs10, hw11, h⟩ := h
    obtain ⟨b12, hv13, h⟩ := h
    refine g_getf (pc' := 22) d_70_19 rfl st_70_9 hw11 hv13 ?_
    refine g_iloadn (pc' := 23) d_70_22 rfl rfl ?_
    obtain ⟨fs14, hw15, h⟩ := h
    obtain ⟨r18, w16, hk17, h⟩ := h
    refine g_callV (pc' := 26) d_70_23 rfl st_70_91 na_29 ml_29 rfl rfl rfl rm_70_29 rfl rfl ow_29 hw15 hk17 ?_
    refine g_lloadn (pc' := 27) d_70_26 rfl rfl ?_
    obtain ⟨hc19, h⟩ := h
    refine g_lrem (pc' := 28) d_70_27 rfl hc19 ?_
    refine g_lload (pc' := 30) d_70_28 rfl rfl ?_
    refine g_lmul (pc' := 31) d_70_30 rfl ?_
    refine g_aloadn (pc' := 32) d_70_31 rfl rfl ?_
    obtain ⟨fs20, hw21, h⟩ := h
    obtain ⟨b22, hv23, h⟩ := h
    refine g_getf (pc' := 35) d_70_32 rfl st_70_9 hw21 hv23 ?_
    refine g_iloadn (pc' := 36) d_70_35 rfl rfl ?_
    obtain ⟨fs24, hw25, h⟩ := h
    obtain ⟨r28, w26, hk27, h⟩ := h
    refine g_callV (pc' := 39) d_70_36 rfl st_70_94 na_30 ml_30 rfl rfl rfl rm_70_30 rfl rfl ow_30 hw25 hk27 ?_
    refine g_ladd (pc' := 40) d_70_39 rfl ?_
    have h := h _ rfl
    refine g_lstore (pc' := 42) (l' := [some (.ref a0), some (.int i1), some (.long l2), none, some (.long r9), none, some (.long ((((lrem r18 l2) * r9) + r28))), none]) d_70_40 rfl ml_70 rfl rfl ?_
    refine g_lload (pc' := 44) d_70_42 rfl rfl ?_
    refine g_lloadn (pc' := 45) d_70_44 rfl rfl ?_
    obtain ⟨hc30, h⟩ := h
    refine g_lrem (pc' := 46) d_70_45 rfl hc30 ?_
    refine g_iloadn (pc' := 47) d_70_46 rfl rfl ?_
    refine g_i2l (pc' := 48) d_70_47 rfl ?_
    refine g_lload (pc' := 50) d_70_48 rfl rfl ?_
    refine g_lmul (pc' := 51) d_70_50 rfl ?_
    refine g_lloadn (pc' := 52) d_70_51 rfl rfl ?_
    obtain ⟨r33, w31, hk32, h⟩ := h
    refine g_callS (pc' := 55) d_70_52 rfl st_70_97 (Or.inl rfl) na_53 ml_53 rfl rfl rfl rm_70_53 rfl rfl hk32 ?_
    refine g_lmul (pc' := 56) d_70_55 rfl ?_
    refine g_lloadn (pc' := 57) d_70_56 rfl rfl ?_
    obtain ⟨hc34, h⟩ := h
    refine g_lrem (pc' := 58) d_70_57 rfl hc34 ?_
    exact g_lret d_70_58 rt_70 h
  · replace h := h.2 c
    refine g_lconst (pc' := 7) d_70_6 rfl cl_0 ?_
    exact g_lret d_70_7 rt_70 h
-- 71 java/lang/Math.max(II)I
theorem S_71_0 {i0 : Int32} {i1 : Int32} {w : xW} {r : Option Value × xW} (h : (i0 < i1 → r = (some (.int i1), w)) ∧ (¬ (i0 < i1) → r = (some (.int i0), w))) : xGo 71 0 [some (.int i0), some (.int i1)] [] w r := by
  refine g_iloadn (pc' := 1) d_71_0 rfl rfl ?_
  refine g_iloadn (pc' := 2) d_71_1 rfl rfl ?_
  refine g_ic_lt (pc' := 5) (pt := 9) d_71_2 (by decide) rfl (fun c => ?_) (fun c => ?_)
  · replace h := h.1 c
    refine g_iloadn (pc' := 10) d_71_9 rfl rfl ?_
    exact g_iret d_71_10 rt_71 h
  · replace h := h.2 c
    refine g_iloadn (pc' := 6) d_71_5 rfl rfl ?_
    refine g_goto (pt := 10) d_71_6 (by decide) ?_
    exact g_iret d_71_10 rt_71 h
-- 72 BernoulliWays$Checks.failsDivisor(I)Z
theorem S_72_0 {a0 : Nat} {i1 : Int32} {w : xW} {r : Option Value × xW} (h : ∃ r3 w1, xCall 47 [.int i1] w (some (.int r3), w1) ∧ (¬ r3 = 0 → xGo 72 11 [some (.ref a0), some (.int i1), some (.int (2 : Int32)), none] [] w1 r) ∧ (¬ (¬ r3 = 0) → r = (some (.int (0 : Int32)), w1))) : xGo 72 0 [some (.ref a0), some (.int i1), none, none] [] w r := by
  refine g_iloadn (pc' := 1) d_72_0 rfl rfl ?_
  obtain ⟨r3, w1, hk2, h⟩ := h
  refine g_callS (pc' := 4) d_72_1 rfl st_72_84 (Or.inr rfl) na_47 ml_47 rfl rfl rfl rm_72_47 rfl rfl hk2 ?_
  refine g_if_ne (pc' := 7) (pt := 9) d_72_4 (by decide) rfl (fun c => ?_) (fun c => ?_)
  · replace h := h.1 c
    refine g_iconst (pc' := 10) d_72_9 rfl ci_2 ?_
    refine g_istoren (pc' := 11) (l' := [some (.ref a0), some (.int i1), some (.int (2 : Int32)), none]) d_72_10 rfl ml_72 rfl rfl ?_
    exact h
  · replace h := h.2 c
    refine g_iconst (pc' := 8) d_72_7 rfl ci_0 ?_
    exact g_zret d_72_8 rt_72 (Or.inl rfl) h
theorem S_72_11 {a0 : Nat} {i1 : Int32} {i2 : Int32} {w : xW} {r : Option Value × xW} (h : (w[xP]? = none) ∧ ((46 : Int32) ≤ i2 → r = (some (.int (0 : Int32)), w)) ∧ (¬ ((46 : Int32) ≤ i2) → (w[xP]? = none) ∧ (¬ (i2 < 0 ∨ 46 ≤ i2.toNatClampNeg)) ∧ ∀ v4 : Int32, v4 = (xpr i2.toNatClampNeg) → (v4 < (2 : Int32) → ∀ v5 : Int32, v5 = i2 + (1 : Int32) → xGo 72 11 [some (.ref a0), some (.int i1), some (.int v5), none] [] w r) ∧ (¬ (v4 < (2 : Int32)) → (i1 < v4 → ∀ v6 : Int32, v6 = i2 + (1 : Int32) → xGo 72 11 [some (.ref a0), some (.int i1), some (.int v6), none] [] w r) ∧ (¬ (i1 < v4) → (¬ v4 = 0) ∧ (¬ (irem i1 v4) = 0 → ∀ v8 : Int32, v8 = i2 + (1 : Int32) → xGo 72 11 [some (.ref a0), some (.int i1), some (.int v8), none] [] w r) ∧ (¬ (¬ (irem i1 v4) = 0) → (¬ (v4 - (1 : Int32)) = 0) ∧ (¬ (irem i1 (v4 - (1 : Int32))) = 0 → ∃ fs10, w[a0]? = some (.inr (6, fs10)) ∧ ∃ b12, fs10[0]? = some (.ref b12) ∧ ∃ fs14, w[b12]? = some (.inr (4, fs14)) ∧ ∃ r18 w16, xCall 31 [.ref b12, .int i1] w (some (.long r18), w16) ∧ (¬ (v4.toInt64) = 0) ∧ ((lrem r18 (v4.toInt64)) = (0 : Int64) → r = (some (.int (1 : Int32)), w16)) ∧ (¬ ((lrem r18 (v4.toInt64)) = (0 : Int64)) → ∃ fs20, w16[a0]? = some (.inr (6, fs20)) ∧ ∃ b22, fs20[0]? = some (.ref b22) ∧ ∃ fs24, w16[b22]? = some (.inr (4, fs24)) ∧ ∃ r28 w26, xCall 73 [.ref b22, .int i1, .long (v4.toInt64)] w16 (some (.long r28), w26) ∧ (r28 = (0 : Int64) → ∀ v29 : Int32, v29 = i2 + (1 : Int32) → xGo 72 11 [some (.ref a0), some (.int i1), some (.int v29), none] [] w26 r) ∧ (¬ (r28 = (0 : Int64)) → r = (some (.int (1 : Int32)), w26)))) ∧ (¬ (¬ (irem i1 (v4 - (1 : Int32))) = 0) → ∀ v30 : Int32, v30 = i2 + (1 : Int32) → xGo 72 11 [some (.ref a0), some (.int i1), some (.int v30), none] [] w r)))))) : xGo 72 11 [some (.ref a0), some (.int i1), some (.int i2), none] [] w r := by
  refine g_iloadn (pc' := 12) d_72_11 rfl rfl ?_
  refine g_gets (pc' := 15) d_72_12 rfl st_72_104 (Or.inr rfl) ?_
  obtain ⟨hc1, h⟩ := h
  refine g_lenp (pc' := 16) d_72_15 rfl hc1 ?_
  refine g_ic_ge (pc' := 19) (pt := 91) d_72_16 (by decide) rfl (fun c => ?_) (fun c => ?_)
  · replace h := h.1 c
    refine g_iconst (pc' := 92) d_72_91 rfl ci_0 ?_
    exact g_zret d_72_92 rt_72 (Or.inl rfl) h
  · replace h := h.2 c
    refine g_gets (pc' := 22) d_72_19 rfl st_72_104 (Or.inr rfl) ?_
    refine g_iloadn (pc' := 23) d_72_22 rfl rfl ?_
    obtain ⟨hc2, h⟩ := h
    obtain ⟨hc3, h⟩ := h
    refine g_pald (pc' := 24) d_72_23 rfl hc2 hc3 ?_
    have h := h _ rfl
    refine g_istoren (pc' := 25) (l' := [some (.ref a0), some (.int i1), some (.int i2), some (.int ((xpr i2.toNatClampNeg)))]) d_72_24 rfl ml_72 rfl rfl ?_
    refine g_iloadn (pc' := 26) d_72_25 rfl rfl ?_
    refine g_iconst (pc' := 27) d_72_26 rfl ci_2 ?_
    refine g_ic_lt (pc' := 30) (pt := 85) d_72_27 (by decide) rfl (fun c => ?_) (fun c => ?_)
    · replace h := h.1 c
      have h := h _ rfl
      refine g_iinc (pc' := 88) (l' := [some (.ref a0), some (.int i1), some (.int (i2 + (1 : Int32))), some (.int ((xpr i2.toNatClampNeg)))]) d_72_85 rfl rfl ci_1 ml_72 rfl rfl ?_
      refine g_goto (pt := 11) d_72_88 (by decide) ?_
      exact xGo.more (xle_s (xle_s (xle_s (xle_n xle_0)))) h
    · replace h := h.2 c
      refine g_iloadn (pc' := 31) d_72_30 rfl rfl ?_
      refine g_iloadn (pc' := 32) d_72_31 rfl rfl ?_
      refine g_ic_gt (pc' := 35) (pt := 85) d_72_32 (by decide) rfl (fun c => ?_) (fun c => ?_)
      · replace h := h.1 c
        have h := h _ rfl
        refine g_iinc (pc' := 88) (l' := [some (.ref a0), some (.int i1), some (.int (i2 + (1 : Int32))), some (.int ((xpr i2.toNatClampNeg)))]) d_72_85 rfl rfl ci_1 ml_72 rfl rfl ?_
        refine g_goto (pt := 11) d_72_88 (by decide) ?_
        exact xGo.more (xle_s (xle_s (xle_s (xle_n xle_0)))) h
      · replace h := h.2 c
        refine g_iloadn (pc' := 36) d_72_35 rfl rfl ?_
        refine g_iloadn (pc' := 37) d_72_36 rfl rfl ?_
        obtain ⟨hc7, h⟩ := h
        refine g_irem (pc' := 38) d_72_37 rfl hc7 ?_
        refine g_if_ne (pc' := 41) (pt := 85) d_72_38 (by decide) rfl (fun c => ?_) (fun c => ?_)
        · replace h := h.1 c
          have h := h _ rfl
          refine g_iinc (pc' := 88) (l' := [some (.ref a0), some (.int i1), some (.int (i2 + (1 : Int32))), some (.int ((xpr i2.toNatClampNeg)))]) d_72_85 rfl rfl ci_1 ml_72 rfl rfl ?_
          refine g_goto (pt := 11) d_72_88 (by decide) ?_
          exact xGo.more (xle_s (xle_s (xle_s (xle_n xle_0)))) h
        · replace h := h.2 c
          refine g_iloadn (pc' := 42) d_72_41 rfl rfl ?_
          refine g_iloadn (pc' := 43) d_72_42 rfl rfl ?_
          refine g_iconst (pc' := 44) d_72_43 rfl ci_1 ?_
          refine g_isub (pc' := 45) d_72_44 rfl ?_
          obtain ⟨hc9, h⟩ := h
          refine g_irem (pc' := 46) d_72_45 rfl hc9 ?_
          refine g_if_ne (pc' := 49) (pt := 52) d_72_46 (by decide) rfl (fun c => ?_) (fun c => ?_)
          · replace h := h.1 c
            refine g_aloadn (pc' := 53) d_72_52 rfl rfl ?_
            obtain ⟨fs10, hw11, h⟩ := h
            obtain ⟨b12, hv13, h⟩ := h
            refine g_getf (pc' := 56) d_72_53 rfl st_72_9 hw11 hv13 ?_
            refine g_iloadn (pc' := 57) d_72_56 rfl rfl ?_
            obtain ⟨fs14, hw15, h⟩ := h
            obtain ⟨r18, w16, hk17, h⟩ := h
            refine g_callV (pc' := 60) d_72_57 rfl st_72_87 na_31 ml_31 rfl rfl rfl rm_72_31 rfl rfl ow_31 hw15 hk17 ?_
            refine g_iloadn (pc' := 61) d_72_60 rfl rfl ?_
            refine g_i2l (pc' := 62) d_72_61 rfl ?_
            obtain ⟨hc19, h⟩ := h
            refine g_lrem (pc' := 63) d_72_62 rfl hc19 ?_
            refine g_lconst (pc' := 64) d_72_63 rfl cl_0 ?_
            refine g_lc_eq (pc' := 68) (pm := 65) (pt := 83) d_72_64 rfl d_72_65 (by decide) rfl (fun c => ?_) (fun c => ?_)
            · replace h := h.1 c
              refine g_iconst (pc' := 84) d_72_83 rfl ci_1 ?_
              exact g_zret d_72_84 rt_72 (Or.inr rfl) h
            · replace h := h.2 c
              refine g_aloadn (pc' := 69) d_72_68 rfl rfl ?_
              obtain ⟨fs20, hw21, h⟩ := h
              obtain ⟨b22, hv23, h⟩ := h
              refine g_getf (pc' := 72) d_72_69 rfl st_72_9 hw21 hv23 ?_
              refine g_iloadn (pc' := 73) d_72_72 rfl rfl ?_
              refine g_iloadn (pc' := 74) d_72_73 rfl rfl ?_
              refine g_i2l (pc' := 75) d_72_74 rfl ?_
              obtain ⟨fs24, hw25, h⟩ := h
              obtain ⟨r28, w26, hk27, h⟩ := h
              refine g_callV (pc' := 78) d_72_75 rfl st_72_129 na_73 ml_73 rfl rfl rfl rm_72_73 rfl rfl ow_73 hw25 hk27 ?_
              refine g_lconst (pc' := 79) d_72_78 rfl cl_0 ?_
              refine g_lc_eq (pc' := 83) (pm := 80) (pt := 85) d_72_79 rfl d_72_80 (by decide) rfl (fun c => ?_) (fun c => ?_)
              · replace h := h.1 c
                have h := h _ rfl
                refine g_iinc (pc' := 88) (l' := [some (.ref a0), some (.int i1), some (.int (i2 + (1 : Int32))), some (.int ((xpr i2.toNatClampNeg)))]) d_72_85 rfl rfl ci_1 ml_72 rfl rfl ?_
                refine g_goto (pt := 11) d_72_88 (by decide) ?_
                exact xGo.more (xle_s (xle_s (xle_s (xle_n xle_0)))) h
              · replace h := h.2 c
                refine g_iconst (pc' := 84) d_72_83 rfl ci_1 ?_
                exact g_zret d_72_84 rt_72 (Or.inr rfl) h
          · replace h := h.2 c
            refine g_goto (pt := 85) d_72_49 (by decide) ?_
            have h := h _ rfl
            refine g_iinc (pc' := 88) (l' := [some (.ref a0), some (.int i1), some (.int (i2 + (1 : Int32))), some (.int ((xpr i2.toNatClampNeg)))]) d_72_85 rfl rfl ci_1 ml_72 rfl rfl ?_
            refine g_goto (pt := 11) d_72_88 (by decide) ?_
            exact xGo.more (xle_s (xle_s (xle_s (xle_n xle_0)))) h
-- 73 BernoulliWays$Entries.modulo(IJ)J
theorem S_73_0 {a0 : Nat} {i1 : Int32} {l2 : Int64} {w : xW} {r : Option Value × xW} (h : ∃ fs1, w[a0]? = some (.inr (4, fs1)) ∧ ∃ r5 w3, xCall 29 [.ref a0, .int i1] w (some (.long r5), w3) ∧ ∃ fs6, w3[a0]? = some (.inr (4, fs6)) ∧ ∃ r10 w8, xCall 30 [.ref a0, .int i1] w3 (some (.long r10), w8) ∧ ∃ fs11, w8[a0]? = some (.inr (4, fs11)) ∧ ∃ r15 w13, xCall 31 [.ref a0, .int i1] w8 (some (.long r15), w13) ∧ ∃ r18 w16, xCall 53 [.long r15, .long l2] w13 (some (.long r18), w16) ∧ ∃ r21 w19, xCall 54 [.long (r5 + (r10 * r18)), .long l2] w16 (some (.long r21), w19) ∧ r = (some (.long r21), w19)) : xGo 73 0 [some (.ref a0), some (.int i1), some (.long l2), none] [] w r := by
  refine g_aloadn (pc' := 1) d_73_0 rfl rfl ?_
  refine g_iloadn (pc' := 2) d_73_1 rfl rfl ?_
  obtain ⟨fs1, hw2, h⟩ := h
  obtain ⟨r5, w3, hk4, h⟩ := h
  refine g_callV (pc' := 5) d_73_2 rfl st_73_38 na_29 ml_29 rfl rfl rfl rm_73_29 rfl rfl ow_29 hw2 hk4 ?_
  refine g_aloadn (pc' := 6) d_73_5 rfl rfl ?_
  refine g_iloadn (pc' := 7) d_73_6 rfl rfl ?_
  obtain ⟨fs6, hw7, h⟩ := h
  obtain ⟨r10, w8, hk9, h⟩ := h
  refine g_callV (pc' := 10) d_73_7 rfl st_73_42 na_30 ml_30 rfl rfl rfl rm_73_30 rfl rfl ow_30 hw7 hk9 ?_
  refine g_aloadn (pc' := 11) d_73_10 rfl rfl ?_
  refine g_iloadn (pc' := 12) d_73_11 rfl rfl ?_
  obtain ⟨fs11, hw12, h⟩ := h
  obtain ⟨r15, w13, hk14, h⟩ := h
  refine g_callV (pc' := 15) d_73_12 rfl st_73_55 na_31 ml_31 rfl rfl rfl rm_73_31 rfl rfl ow_31 hw12 hk14 ?_
  refine g_lloadn (pc' := 16) d_73_15 rfl rfl ?_
  obtain ⟨r18, w16, hk17, h⟩ := h
  refine g_callS (pc' := 19) d_73_16 rfl st_73_72 (Or.inl rfl) na_53 ml_53 rfl rfl rfl rm_73_53 rfl rfl hk17 ?_
  refine g_lmul (pc' := 20) d_73_19 rfl ?_
  refine g_ladd (pc' := 21) d_73_20 rfl ?_
  refine g_lloadn (pc' := 22) d_73_21 rfl rfl ?_
  obtain ⟨r21, w19, hk20, h⟩ := h
  refine g_callS (pc' := 25) d_73_22 rfl st_73_78 (Or.inl rfl) na_54 ml_54 rfl rfl rfl rm_73_54 rfl rfl hk20 ?_
  exact g_lret d_73_25 rt_73 h
-- 74 BernoulliWays$Checks.failsSixth(I)Z
theorem S_74_0 {a0 : Nat} {i1 : Int32} {w : xW} {r : Option Value × xW} (h : ((irem i1 (2 : Int32)) = 0 → ∃ fs1, w[a0]? = some (.inr (6, fs1)) ∧ ∃ b3, fs1[2]? = some (.ref b3) ∧ ∃ fs5, w[b3]? = some (.inr (2, fs5)) ∧ ∃ w7, xCall 37 [.ref b3, .long (7420738134810 : Int64)] w (none, w7) ∧ xGo 74 20 [some (.ref a0), some (.int i1), some (.int i1)] [] w7 r) ∧ (¬ ((irem i1 (2 : Int32)) = 0) → r = (some (.int (0 : Int32)), w))) : xGo 74 0 [some (.ref a0), some (.int i1), none] [] w r := by
  refine g_iloadn (pc' := 1) d_74_0 rfl rfl ?_
  refine g_iconst (pc' := 2) d_74_1 rfl ci_2 ?_
  refine g_irem (pc' := 3) d_74_2 rfl (by decide) ?_
  refine g_if_eq (pc' := 6) (pt := 8) d_74_3 (by decide) rfl (fun c => ?_) (fun c => ?_)
  · replace h := h.1 c
    refine g_aloadn (pc' := 9) d_74_8 rfl rfl ?_
    obtain ⟨fs1, hw2, h⟩ := h
    obtain ⟨b3, hv4, h⟩ := h
    refine g_getf (pc' := 12) d_74_9 rfl st_74_19 hw2 hv4 ?_
    refine g_ldc2 (pc' := 15) d_74_12 rfl st_74_48 cL_7420738134810 ?_
    obtain ⟨fs5, hw6, h⟩ := h
    obtain ⟨w7, hk8, h⟩ := h
    refine g_callV (pc' := 18) d_74_15 rfl st_74_50 na_37 ml_37 rfl rfl rfl rm_74_37 rfl rfl ow_37 hw6 hk8 ?_
    refine g_iloadn (pc' := 19) d_74_18 rfl rfl ?_
    refine g_istoren (pc' := 20) (l' := [some (.ref a0), some (.int i1), some (.int i1)]) d_74_19 rfl ml_74 rfl rfl ?_
    exact h
  · replace h := h.2 c
    refine g_iconst (pc' := 7) d_74_6 rfl ci_0 ?_
    exact g_zret d_74_7 rt_74 (Or.inl rfl) h
theorem S_74_20 {a0 : Nat} {i1 : Int32} {i2 : Int32} {w : xW} {r : Option Value × xW} (h : (i2 < 0 → (¬ (irem i1 (6 : Int32)) = (4 : Int32) → ∃ fs1, w[a0]? = some (.inr (6, fs1)) ∧ ∃ b3, fs1[2]? = some (.ref b3) ∧ ∃ fs5, w[b3]? = some (.inr (2, fs5)) ∧ ∃ w7, xCall 41 [.ref b3, .long ((-(i1 + (3 : Int32))).toInt64), .long (0 : Int64), .long (1 : Int64), .long (3 : Int64)] w (none, w7) ∧ ∃ fs9, w7[a0]? = some (.inr (6, fs9)) ∧ ∃ b11, fs9[2]? = some (.ref b11) ∧ ∃ fs13, w7[b11]? = some (.inr (2, fs13)) ∧ ∃ r17 w15, xCall 66 [.ref b11] w7 (some (.int r17), w15) ∧ (¬ r17 = 0 → r = (some (.int (0 : Int32)), w15)) ∧ (¬ (¬ r17 = 0) → r = (some (.int (1 : Int32)), w15))) ∧ (¬ (¬ (irem i1 (6 : Int32)) = (4 : Int32)) → ∃ fs18, w[a0]? = some (.inr (6, fs18)) ∧ ∃ b20, fs18[2]? = some (.ref b20) ∧ ∃ fs22, w[b20]? = some (.inr (2, fs22)) ∧ ∃ w24, xCall 41 [.ref b20, .long ((i1 + (3 : Int32)).toInt64), .long (0 : Int64), .long (1 : Int64), .long (6 : Int64)] w (none, w24) ∧ ∃ fs26, w24[a0]? = some (.inr (6, fs26)) ∧ ∃ b28, fs26[2]? = some (.ref b28) ∧ ∃ fs30, w24[b28]? = some (.inr (2, fs30)) ∧ ∃ r34 w32, xCall 66 [.ref b28] w24 (some (.int r34), w32) ∧ (¬ r34 = 0 → r = (some (.int (0 : Int32)), w32)) ∧ (¬ (¬ r34 = 0) → r = (some (.int (1 : Int32)), w32)))) ∧ (¬ (i2 < 0) → ∃ fs35, w[a0]? = some (.inr (6, fs35)) ∧ ∃ b37, fs35[1]? = some (.ref b37) ∧ ∃ fs39, w[b37]? = some (.inr (1, fs39)) ∧ ∃ r43 w41, xCall 39 [.ref b37, .int (i1 + (3 : Int32)), .int i2] w (some (.long r43), w41) ∧ ∃ fs44, w41[a0]? = some (.inr (6, fs44)) ∧ ∃ w46, xCall 40 [.ref a0, .long r43, .int i2] w41 (none, w46) ∧ ∀ v48 : Int32, v48 = i2 + (-6 : Int32) → xGo 74 20 [some (.ref a0), some (.int i1), some (.int v48)] [] w46 r)) : xGo 74 20 [some (.ref a0), some (.int i1), some (.int i2)] [] w r := by
  refine g_iloadn (pc' := 21) d_74_20 rfl rfl ?_
  refine g_if_lt (pc' := 24) (pt := 46) d_74_21 (by decide) rfl (fun c => ?_) (fun c => ?_)
  · replace h := h.1 c
    refine g_iloadn (pc' := 47) d_74_46 rfl rfl ?_
    refine g_bipush (pc' := 49) d_74_47 rfl cb_6 ?_
    refine g_irem (pc' := 50) d_74_49 rfl (by decide) ?_
    refine g_iconst (pc' := 51) d_74_50 rfl ci_4 ?_
    refine g_ic_ne (pc' := 54) (pt := 73) d_74_51 (by decide) rfl (fun c => ?_) (fun c => ?_)
    · replace h := h.1 c
      refine g_aloadn (pc' := 74) d_74_73 rfl rfl ?_
      obtain ⟨fs1, hw2, h⟩ := h
      obtain ⟨b3, hv4, h⟩ := h
      refine g_getf (pc' := 77) d_74_74 rfl st_74_19 hw2 hv4 ?_
      refine g_iloadn (pc' := 78) d_74_77 rfl rfl ?_
      refine g_iconst (pc' := 79) d_74_78 rfl ci_3 ?_
      refine g_iadd (pc' := 80) d_74_79 rfl ?_
      refine g_ineg (pc' := 81) d_74_80 rfl ?_
      refine g_i2l (pc' := 82) d_74_81 rfl ?_
      refine g_lconst (pc' := 83) d_74_82 rfl cl_0 ?_
      refine g_lconst (pc' := 84) d_74_83 rfl cl_1 ?_
      refine g_ldc2 (pc' := 87) d_74_84 rfl st_74_134 cL_3 ?_
      obtain ⟨fs5, hw6, h⟩ := h
      obtain ⟨w7, hk8, h⟩ := h
      refine g_callV (pc' := 90) d_74_87 rfl st_74_100 na_41 ml_41 rfl rfl rfl rm_74_41 rfl rfl ow_41 hw6 hk8 ?_
      refine g_aloadn (pc' := 91) d_74_90 rfl rfl ?_
      obtain ⟨fs9, hw10, h⟩ := h
      obtain ⟨b11, hv12, h⟩ := h
      refine g_getf (pc' := 94) d_74_91 rfl st_74_19 hw10 hv12 ?_
      obtain ⟨fs13, hw14, h⟩ := h
      obtain ⟨r17, w15, hk16, h⟩ := h
      refine g_callV (pc' := 97) d_74_94 rfl st_74_115 na_66 ml_66 rfl rfl rfl rm_74_66 rfl rfl ow_66 hw14 hk16 ?_
      refine g_if_ne (pc' := 100) (pt := 104) d_74_97 (by decide) rfl (fun c => ?_) (fun c => ?_)
      · replace h := h.1 c
        refine g_iconst (pc' := 105) d_74_104 rfl ci_0 ?_
        exact g_zret d_74_105 rt_74 (Or.inl rfl) h
      · replace h := h.2 c
        refine g_iconst (pc' := 101) d_74_100 rfl ci_1 ?_
        refine g_goto (pt := 105) d_74_101 (by decide) ?_
        exact g_zret d_74_105 rt_74 (Or.inr rfl) h
    · replace h := h.2 c
      refine g_aloadn (pc' := 55) d_74_54 rfl rfl ?_
      obtain ⟨fs18, hw19, h⟩ := h
      obtain ⟨b20, hv21, h⟩ := h
      refine g_getf (pc' := 58) d_74_55 rfl st_74_19 hw19 hv21 ?_
      refine g_iloadn (pc' := 59) d_74_58 rfl rfl ?_
      refine g_iconst (pc' := 60) d_74_59 rfl ci_3 ?_
      refine g_iadd (pc' := 61) d_74_60 rfl ?_
      refine g_i2l (pc' := 62) d_74_61 rfl ?_
      refine g_lconst (pc' := 63) d_74_62 rfl cl_0 ?_
      refine g_lconst (pc' := 64) d_74_63 rfl cl_1 ?_
      refine g_ldc2 (pc' := 67) d_74_64 rfl st_74_132 cL_6 ?_
      obtain ⟨fs22, hw23, h⟩ := h
      obtain ⟨w24, hk25, h⟩ := h
      refine g_callV (pc' := 70) d_74_67 rfl st_74_100 na_41 ml_41 rfl rfl rfl rm_74_41 rfl rfl ow_41 hw23 hk25 ?_
      refine g_goto (pt := 90) d_74_70 (by decide) ?_
      refine g_aloadn (pc' := 91) d_74_90 rfl rfl ?_
      obtain ⟨fs26, hw27, h⟩ := h
      obtain ⟨b28, hv29, h⟩ := h
      refine g_getf (pc' := 94) d_74_91 rfl st_74_19 hw27 hv29 ?_
      obtain ⟨fs30, hw31, h⟩ := h
      obtain ⟨r34, w32, hk33, h⟩ := h
      refine g_callV (pc' := 97) d_74_94 rfl st_74_115 na_66 ml_66 rfl rfl rfl rm_74_66 rfl rfl ow_66 hw31 hk33 ?_
      refine g_if_ne (pc' := 100) (pt := 104) d_74_97 (by decide) rfl (fun c => ?_) (fun c => ?_)
      · replace h := h.1 c
        refine g_iconst (pc' := 105) d_74_104 rfl ci_0 ?_
        exact g_zret d_74_105 rt_74 (Or.inl rfl) h
      · replace h := h.2 c
        refine g_iconst (pc' := 101) d_74_100 rfl ci_1 ?_
        refine g_goto (pt := 105) d_74_101 (by decide) ?_
        exact g_zret d_74_105 rt_74 (Or.inr rfl) h
  · replace h := h.2 c
    refine g_aloadn (pc' := 25) d_74_24 rfl rfl ?_
    refine g_aloadn (pc' := 26) d_74_25 rfl rfl ?_
    obtain ⟨fs35, hw36, h⟩ := h
    obtain ⟨b37, hv38, h⟩ := h
    refine g_getf (pc' := 29) d_74_26 rfl st_74_15 hw36 hv38 ?_
    refine g_iloadn (pc' := 30) d_74_29 rfl rfl ?_
    refine g_iconst (pc' := 31) d_74_30 rfl ci_3 ?_
    refine g_iadd (pc' := 32) d_74_31 rfl ?_
    refine g_iloadn (pc' := 33) d_74_32 rfl rfl ?_
    obtain ⟨fs39, hw40, h⟩ := h
    obtain ⟨r43, w41, hk42, h⟩ := h
    refine g_callV (pc' := 36) d_74_33 rfl st_74_56 na_39 ml_39 rfl rfl rfl rm_74_39 rfl rfl ow_39 hw40 hk42 ?_
    refine g_iloadn (pc' := 37) d_74_36 rfl rfl ?_
    obtain ⟨fs44, hw45, h⟩ := h
    obtain ⟨w46, hk47, h⟩ := h
    refine g_callV (pc' := 40) d_74_37 rfl st_74_62 na_40 ml_40 rfl rfl rfl rm_74_40 rfl rfl ow_40 hw45 hk47 ?_
    have h := h _ rfl
    refine g_iinc (pc' := 43) (l' := [some (.ref a0), some (.int i1), some (.int (i2 + (-6 : Int32)))]) d_74_40 rfl rfl ci_m6 ml_74 rfl rfl ?_
    refine g_goto (pt := 20) d_74_43 (by decide) ?_
    exact h
-- 75 BernoulliWays.heal(I)I
theorem S_75_0 {a0 : Nat} {i1 : Int32} {w : xW} {r : Option Value × xW} (h : ∃ r3 w1, xCall 76 [.int i1] w (some (.int r3), w1) ∧ (¬ r3 = 0 → ∃ fs4, w1[a0]? = some (.inr (0, fs4)) ∧ ∃ r8 w6, xCall 77 [.ref a0, .int i1] w1 (some (.long r8), w6) ∧ xGo 75 21 [some (.ref a0), some (.int i1), some (.long r8), none, some (.int (0 : Int32)), some (.int (0 : Int32))] [] w6 r) ∧ (¬ (¬ r3 = 0) → r = (some (.int (-1 : Int32)), w1))) : xGo 75 0 [some (.ref a0), some (.int i1), none, none, none, none] [] w r := by
  refine g_iloadn (pc' := 1) d_75_0 rfl rfl ?_
  obtain ⟨r3, w1, hk2, h⟩ := h
  refine g_callS (pc' := 4) d_75_1 rfl st_75_146 (Or.inl rfl) na_76 ml_76 rfl rfl rfl rm_75_76 rfl rfl hk2 ?_
  refine g_if_ne (pc' := 7) (pt := 9) d_75_4 (by decide) rfl (fun c => ?_) (fun c => ?_)
  · replace h := h.1 c
    refine g_aloadn (pc' := 10) d_75_9 rfl rfl ?_
    refine g_iloadn (pc' := 11) d_75_10 rfl rfl ?_
    obtain ⟨fs4, hw5, h⟩ := h
    obtain ⟨r8, w6, hk7, h⟩ := h
    refine g_callV (pc' := 14) d_75_11 rfl st_75_149 na_77 ml_77 rfl rfl rfl rm_75_77 rfl rfl ow_77 hw5 hk7 ?_
    refine g_lstoren (pc' := 15) (l' := [some (.ref a0), some (.int i1), some (.long r8), none, none, none]) d_75_14 rfl ml_75 rfl rfl ?_
    refine g_iconst (pc' := 16) d_75_15 rfl ci_0 ?_
    refine g_istore (pc' := 18) (l' := [some (.ref a0), some (.int i1), some (.long r8), none, some (.int (0 : Int32)), none]) d_75_16 rfl ml_75 rfl rfl ?_
    refine g_iconst (pc' := 19) d_75_18 rfl ci_0 ?_
    refine g_istore (pc' := 21) (l' := [some (.ref a0), some (.int i1), some (.long r8), none, some (.int (0 : Int32)), some (.int (0 : Int32))]) d_75_19 rfl ml_75 rfl rfl ?_
    exact h
  · replace h := h.2 c
    refine g_iconst (pc' := 8) d_75_7 rfl ci_m1 ?_
    exact g_iret d_75_8 rt_75 h
theorem S_75_21 {a0 : Nat} {i1 : Int32} {l2 : Int64} {i4 : Int32} {i5 : Int32} {w : xW} {r : Option Value × xW} (h : ∃ fs1, w[a0]? = some (.inr (0, fs1)) ∧ ∃ x3, fs1[7]? = some (.int x3) ∧ (x3 < i5 → r = (some (.int i4), w)) ∧ (¬ (x3 < i5) → (¬ ((l2 >>> (i5.toInt64 &&& 63)) &&& (1 : Int64)) = (1 : Int64) → ∀ v5 : Int32, v5 = i5 + (1 : Int32) → xGo 75 21 [some (.ref a0), some (.int i1), some (.long l2), none, some (.int i4), some (.int v5)] [] w r) ∧ (¬ (¬ ((l2 >>> (i5.toInt64 &&& 63)) &&& (1 : Int64)) = (1 : Int64)) → ∃ r8 w6, xCall 32 [.ref a0, .int i5, .int (1 : Int32)] w (some (.int r8), w6) ∧ (r8 = 0 → ∀ v9 : Int32, v9 = i5 + (1 : Int32) → xGo 75 21 [some (.ref a0), some (.int i1), some (.long l2), none, some (.int i4), some (.int v9)] [] w6 r) ∧ (¬ (r8 = 0) → ∀ v10 : Int32, v10 = i4 + (1 : Int32) → ∀ v11 : Int32, v11 = i5 + (1 : Int32) → xGo 75 21 [some (.ref a0), some (.int i1), some (.long l2), none, some (.int v10), some (.int v11)] [] w6 r)))) : xGo 75 21 [some (.ref a0), some (.int i1), some (.long l2), none, some (.int i4), some (.int i5)] [] w r := by
  refine g_iload (pc' := 23) d_75_21 rfl rfl ?_
  refine g_aloadn (pc' := 24) d_75_23 rfl rfl ?_
  obtain ⟨fs1, hw2, h⟩ := h
  obtain ⟨x3, hv4, h⟩ := h
  refine g_getf (pc' := 27) d_75_24 rfl st_75_49 hw2 hv4 ?_
  refine g_ic_gt (pc' := 30) (pt := 60) d_75_27 (by decide) rfl (fun c => ?_) (fun c => ?_)
  · replace h := h.1 c
    refine g_iload (pc' := 62) d_75_60 rfl rfl ?_
    exact g_iret d_75_62 rt_75 h
  · replace h := h.2 c
    refine g_lloadn (pc' := 31) d_75_30 rfl rfl ?_
    refine g_iload (pc' := 33) d_75_31 rfl rfl ?_
    refine g_lshr (pc' := 34) d_75_33 rfl ?_
    refine g_lconst (pc' := 35) d_75_34 rfl cl_1 ?_
    refine g_land (pc' := 36) d_75_35 rfl ?_
    refine g_lconst (pc' := 37) d_75_36 rfl cl_1 ?_
    refine g_lc_ne (pc' := 41) (pm := 38) (pt := 54) d_75_37 rfl d_75_38 (by decide) rfl (fun c => ?_) (fun c => ?_)
    · replace h := h.1 c
      have h := h _ rfl
      refine g_iinc (pc' := 57) (l' := [some (.ref a0), some (.int i1), some (.long l2), none, some (.int i4), some (.int (i5 + (1 : Int32)))]) d_75_54 rfl rfl ci_1 ml_75 rfl rfl ?_
      refine g_goto (pt := 21) d_75_57 (by decide) ?_
      exact h
    · replace h := h.2 c
      refine g_aloadn (pc' := 42) d_75_41 rfl rfl ?_
      refine g_iload (pc' := 44) d_75_42 rfl rfl ?_
      refine g_iconst (pc' := 45) d_75_44 rfl ci_1 ?_
      obtain ⟨r8, w6, hk7, h⟩ := h
      refine g_callV (pc' := 48) d_75_45 rfl st_75_130 na_32 ml_32 rfl rfl rfl rm_75_32 rfl rfl ow_32 hw2 hk7 ?_
      refine g_if_eq (pc' := 51) (pt := 54) d_75_48 (by decide) rfl (fun c => ?_) (fun c => ?_)
      · replace h := h.1 c
        have h := h _ rfl
        refine g_iinc (pc' := 57) (l' := [some (.ref a0), some (.int i1), some (.long l2), none, some (.int i4), some (.int (i5 + (1 : Int32)))]) d_75_54 rfl rfl ci_1 ml_75 rfl rfl ?_
        refine g_goto (pt := 21) d_75_57 (by decide) ?_
        exact h
      · replace h := h.2 c
        have h := h _ rfl
        refine g_iinc (pc' := 54) (l' := [some (.ref a0), some (.int i1), some (.long l2), none, some (.int (i4 + (1 : Int32))), some (.int i5)]) d_75_51 rfl rfl ci_1 ml_75 rfl rfl ?_
        have h := h _ rfl
        refine g_iinc (pc' := 57) (l' := [some (.ref a0), some (.int i1), some (.long l2), none, some (.int (i4 + (1 : Int32))), some (.int (i5 + (1 : Int32)))]) d_75_54 rfl rfl ci_1 ml_75 rfl rfl ?_
        refine g_goto (pt := 21) d_75_57 (by decide) ?_
        exact h
-- 76 BernoulliWays.areTests(I)Z
theorem S_76_0 {i0 : Int32} {w : xW} {r : Option Value × xW} (h : (i0 < 0 → r = (some (.int (0 : Int32)), w)) ∧ (¬ (i0 < 0) → ((63 : Int32) < i0 → r = (some (.int (0 : Int32)), w)) ∧ (¬ ((63 : Int32) < i0) → r = (some (.int (1 : Int32)), w)))) : xGo 76 0 [some (.int i0)] [] w r := by
  refine g_iloadn (pc' := 1) d_76_0 rfl rfl ?_
  refine g_if_lt (pc' := 4) (pt := 14) d_76_1 (by decide) rfl (fun c => ?_) (fun c => ?_)
  · replace h := h.1 c
    refine g_iconst (pc' := 15) d_76_14 rfl ci_0 ?_
    exact g_zret d_76_15 rt_76 (Or.inl rfl) h
  · replace h := h.2 c
    refine g_iloadn (pc' := 5) d_76_4 rfl rfl ?_
    refine g_bipush (pc' := 7) d_76_5 rfl cb_63 ?_
    refine g_ic_gt (pc' := 10) (pt := 14) d_76_7 (by decide) rfl (fun c => ?_) (fun c => ?_)
    · replace h := h.1 c
      refine g_iconst (pc' := 15) d_76_14 rfl ci_0 ?_
      exact g_zret d_76_15 rt_76 (Or.inl rfl) h
    · replace h := h.2 c
      refine g_iconst (pc' := 11) d_76_10 rfl ci_1 ?_
      refine g_goto (pt := 15) d_76_11 (by decide) ?_
      exact g_zret d_76_15 rt_76 (Or.inr rfl) h
-- 77 BernoulliWays.failingOnes(I)J
theorem S_77_0 {a0 : Nat} {i1 : Int32} {w : xW} {r : Option Value × xW} (h : xGo 77 5 [some (.ref a0), some (.int i1), some (.long (0 : Int64)), none, some (.int (0 : Int32))] [] w r) : xGo 77 0 [some (.ref a0), some (.int i1), none, none, none] [] w r := by
  refine g_lconst (pc' := 1) d_77_0 rfl cl_0 ?_
  refine g_lstoren (pc' := 2) (l' := [some (.ref a0), some (.int i1), some (.long (0 : Int64)), none, none]) d_77_1 rfl ml_77 rfl rfl ?_
  refine g_iconst (pc' := 3) d_77_2 rfl ci_0 ?_
  refine g_istore (pc' := 5) (l' := [some (.ref a0), some (.int i1), some (.long (0 : Int64)), none, some (.int (0 : Int32))]) d_77_3 rfl ml_77 rfl rfl ?_
  exact h
theorem S_77_5 {a0 : Nat} {i1 : Int32} {l2 : Int64} {i4 : Int32} {w : xW} {r : Option Value × xW} (h : ∃ fs1, w[a0]? = some (.inr (0, fs1)) ∧ ∃ x3, fs1[7]? = some (.int x3) ∧ (x3 < i4 → r = (some (.long l2), w)) ∧ (¬ (x3 < i4) → ∃ b5, fs1[8]? = some (.ref b5) ∧ ∃ fs7, w[b5]? = some (.inr (6, fs7)) ∧ ∃ r11 w9, xCall 61 [.ref b5, .int i4, .int i1] w (some (.int r11), w9) ∧ (r11 = 0 → ∀ v12 : Int32, v12 = i4 + (1 : Int32) → xGo 77 5 [some (.ref a0), some (.int i1), some (.long l2), none, some (.int v12)] [] w9 r) ∧ (¬ (r11 = 0) → ∀ v13 : Int64, v13 = (l2 ||| ((1 : Int64) <<< (i4.toInt64 &&& 63))) → ∀ v14 : Int32, v14 = i4 + (1 : Int32) → xGo 77 5 [some (.ref a0), some (.int i1), some (.long v13), none, some (.int v14)] [] w9 r))) : xGo 77 5 [some (.ref a0), some (.int i1), some (.long l2), none, some (.int i4)] [] w r := by
  refine g_iload (pc' := 7) d_77_5 rfl rfl ?_
  refine g_aloadn (pc' := 8) d_77_7 rfl rfl ?_
  obtain ⟨fs1, hw2, h⟩ := h
  obtain ⟨x3, hv4, h⟩ := h
  refine g_getf (pc' := 11) d_77_8 rfl st_77_49 hw2 hv4 ?_
  refine g_ic_gt (pc' := 14) (pt := 40) d_77_11 (by decide) rfl (fun c => ?_) (fun c => ?_)
  · replace h := h.1 c
    refine g_lloadn (pc' := 41) d_77_40 rfl rfl ?_
    exact g_lret d_77_41 rt_77 h
  · replace h := h.2 c
    refine g_aloadn (pc' := 15) d_77_14 rfl rfl ?_
    obtain ⟨b5, hv6, h⟩ := h
    refine g_getf (pc' := 18) d_77_15 rfl st_77_58 hw2 hv6 ?_
    refine g_iload (pc' := 20) d_77_18 rfl rfl ?_
    refine g_iloadn (pc' := 21) d_77_20 rfl rfl ?_
    obtain ⟨fs7, hw8, h⟩ := h
    obtain ⟨r11, w9, hk10, h⟩ := h
    refine g_callV (pc' := 24) d_77_21 rfl st_77_142 na_61 ml_61 rfl rfl rfl rm_77_61 rfl rfl ow_61 hw8 hk10 ?_
    refine g_if_eq (pc' := 27) (pt := 34) d_77_24 (by decide) rfl (fun c => ?_) (fun c => ?_)
    · replace h := h.1 c
      have h := h _ rfl
      refine g_iinc (pc' := 37) (l' := [some (.ref a0), some (.int i1), some (.long l2), none, some (.int (i4 + (1 : Int32)))]) d_77_34 rfl rfl ci_1 ml_77 rfl rfl ?_
      refine g_goto (pt := 5) d_77_37 (by decide) ?_
      exact h
    · replace h := h.2 c
      refine g_lloadn (pc' := 28) d_77_27 rfl rfl ?_
      refine g_lconst (pc' := 29) d_77_28 rfl cl_1 ?_
      refine g_iload (pc' := 31) d_77_29 rfl rfl ?_
      refine g_lshl (pc' := 32) d_77_31 rfl ?_
      refine g_lor (pc' := 33) d_77_32 rfl ?_
      have h := h _ rfl
      refine g_lstoren (pc' := 34) (l' := [some (.ref a0), some (.int i1), some (.long ((l2 ||| ((1 : Int64) <<< (i4.toInt64 &&& 63))))), none, some (.int i4)]) d_77_33 rfl ml_77 rfl rfl ?_
      have h := h _ rfl
      refine g_iinc (pc' := 37) (l' := [some (.ref a0), some (.int i1), some (.long ((l2 ||| ((1 : Int64) <<< (i4.toInt64 &&& 63))))), none, some (.int (i4 + (1 : Int32)))]) d_77_34 rfl rfl ci_1 ml_77 rfl rfl ?_
      refine g_goto (pt := 5) d_77_37 (by decide) ?_
      exact h
-- 78 BernoulliWays.way(I)I
theorem S_78_0 {a0 : Nat} {i1 : Int32} {w : xW} {r : Option Value × xW} (h : ∃ r3 w1, xCall 24 [.int i1] w (some (.int r3), w1) ∧ (¬ r3 = 0 → ∃ fs4, w1[a0]? = some (.inr (0, fs4)) ∧ ∃ x6, fs4[7]? = some (.int x6) ∧ (i1 ≤ x6 → ∃ b8, fs4[6]? = some (.ref b8) ∧ ∃ n10 f11, w1[b8]? = some (.inl (.inl (n10, f11))) ∧ (¬ (i1 < 0 ∨ n10 ≤ i1.toNatClampNeg)) ∧ r = (some (.int (f11 i1.toNatClampNeg)), w1)) ∧ (¬ (i1 ≤ x6) → r = (some (.int (-2 : Int32)), w1))) ∧ (¬ (¬ r3 = 0) → r = (some (.int (-1 : Int32)), w1))) : xGo 78 0 [some (.ref a0), some (.int i1)] [] w r := by
  refine g_iloadn (pc' := 1) d_78_0 rfl rfl ?_
  obtain ⟨r3, w1, hk2, h⟩ := h
  refine g_callS (pc' := 4) d_78_1 rfl st_78_120 (Or.inl rfl) na_24 ml_24 rfl rfl rfl rm_78_24 rfl rfl hk2 ?_
  refine g_if_ne (pc' := 7) (pt := 9) d_78_4 (by decide) rfl (fun c => ?_) (fun c => ?_)
  · replace h := h.1 c
    refine g_iloadn (pc' := 10) d_78_9 rfl rfl ?_
    refine g_aloadn (pc' := 11) d_78_10 rfl rfl ?_
    obtain ⟨fs4, hw5, h⟩ := h
    obtain ⟨x6, hv7, h⟩ := h
    refine g_getf (pc' := 14) d_78_11 rfl st_78_49 hw5 hv7 ?_
    refine g_ic_le (pc' := 17) (pt := 22) d_78_14 (by decide) rfl (fun c => ?_) (fun c => ?_)
    · replace h := h.1 c
      refine g_aloadn (pc' := 23) d_78_22 rfl rfl ?_
      obtain ⟨b8, hv9, h⟩ := h
      refine g_getf (pc' := 26) d_78_23 rfl st_78_45 hw5 hv9 ?_
      refine g_iloadn (pc' := 27) d_78_26 rfl rfl ?_
      obtain ⟨n10, f11, hw12, h⟩ := h
      obtain ⟨hc13, h⟩ := h
      refine g_iald (pc' := 28) d_78_27 rfl hw12 hc13 ?_
      exact g_iret d_78_28 rt_78 h
    · replace h := h.2 c
      refine g_bipush (pc' := 19) d_78_17 rfl cb_m2 ?_
      refine g_goto (pt := 28) d_78_19 (by decide) ?_
      exact g_iret d_78_28 rt_78 h
  · replace h := h.2 c
    refine g_iconst (pc' := 8) d_78_7 rfl ci_m1 ?_
    exact g_iret d_78_8 rt_78 h
-- 79 BernoulliWays.right(I)I
theorem S_79_0 {a0 : Nat} {i1 : Int32} {w : xW} {r : Option Value × xW} (h : ∃ r3 w1, xCall 24 [.int i1] w (some (.int r3), w1) ∧ (¬ r3 = 0 → ∃ fs4, w1[a0]? = some (.inr (0, fs4)) ∧ ∃ x6, fs4[7]? = some (.int x6) ∧ (i1 ≤ x6 → ∃ r10 w8, xCall 27 [.ref a0, .int i1] w1 (some (.int r10), w8) ∧ (r10 = 0 → r = (some (.int (0 : Int32)), w8)) ∧ (¬ (r10 = 0) → r = (some (.int (1 : Int32)), w8))) ∧ (¬ (i1 ≤ x6) → r = (some (.int (-2 : Int32)), w1))) ∧ (¬ (¬ r3 = 0) → r = (some (.int (-1 : Int32)), w1))) : xGo 79 0 [some (.ref a0), some (.int i1)] [] w r := by
  refine g_iloadn (pc' := 1) d_79_0 rfl rfl ?_
  obtain ⟨r3, w1, hk2, h⟩ := h
  refine g_callS (pc' := 4) d_79_1 rfl st_79_120 (Or.inl rfl) na_24 ml_24 rfl rfl rfl rm_79_24 rfl rfl hk2 ?_
  refine g_if_ne (pc' := 7) (pt := 9) d_79_4 (by decide) rfl (fun c => ?_) (fun c => ?_)
  · replace h := h.1 c
    refine g_iloadn (pc' := 10) d_79_9 rfl rfl ?_
    refine g_aloadn (pc' := 11) d_79_10 rfl rfl ?_
    obtain ⟨fs4, hw5, h⟩ := h
    obtain ⟨x6, hv7, h⟩ := h
    refine g_getf (pc' := 14) d_79_11 rfl st_79_49 hw5 hv7 ?_
    refine g_ic_le (pc' := 17) (pt := 20) d_79_14 (by decide) rfl (fun c => ?_) (fun c => ?_)
    · replace h := h.1 c
      refine g_aloadn (pc' := 21) d_79_20 rfl rfl ?_
      refine g_iloadn (pc' := 22) d_79_21 rfl rfl ?_
      obtain ⟨r10, w8, hk9, h⟩ := h
      refine g_callV (pc' := 25) d_79_22 rfl st_79_174 na_27 ml_27 rfl rfl rfl rm_79_27 rfl rfl ow_27 hw5 hk9 ?_
      refine g_if_eq (pc' := 28) (pt := 32) d_79_25 (by decide) rfl (fun c => ?_) (fun c => ?_)
      · replace h := h.1 c
        refine g_iconst (pc' := 33) d_79_32 rfl ci_0 ?_
        exact g_iret d_79_33 rt_79 h
      · replace h := h.2 c
        refine g_iconst (pc' := 29) d_79_28 rfl ci_1 ?_
        refine g_goto (pt := 33) d_79_29 (by decide) ?_
        exact g_iret d_79_33 rt_79 h
    · replace h := h.2 c
      refine g_bipush (pc' := 19) d_79_17 rfl cb_m2 ?_
      exact g_iret d_79_19 rt_79 h
  · replace h := h.2 c
    refine g_iconst (pc' := 8) d_79_7 rfl ci_m1 ?_
    exact g_iret d_79_8 rt_79 h
-- 80 BernoulliWays.agree(I)I
theorem S_80_0 {a0 : Nat} {i1 : Int32} {w : xW} {r : Option Value × xW} (h : ∃ r3 w1, xCall 24 [.int i1] w (some (.int r3), w1) ∧ (¬ r3 = 0 → ∃ fs4, w1[a0]? = some (.inr (0, fs4)) ∧ ∃ x6, fs4[7]? = some (.int x6) ∧ (i1 ≤ x6 → xGo 80 24 [some (.ref a0), some (.int i1), some (.int (0 : Int32)), some (.int (0 : Int32))] [] w1 r) ∧ (¬ (i1 ≤ x6) → r = (some (.int (-2 : Int32)), w1))) ∧ (¬ (¬ r3 = 0) → r = (some (.int (-1 : Int32)), w1))) : xGo 80 0 [some (.ref a0), some (.int i1), none, none] [] w r := by
  refine g_iloadn (pc' := 1) d_80_0 rfl rfl ?_
  obtain ⟨r3, w1, hk2, h⟩ := h
  refine g_callS (pc' := 4) d_80_1 rfl st_80_120 (Or.inl rfl) na_24 ml_24 rfl rfl rfl rm_80_24 rfl rfl hk2 ?_
  refine g_if_ne (pc' := 7) (pt := 9) d_80_4 (by decide) rfl (fun c => ?_) (fun c => ?_)
  · replace h := h.1 c
    refine g_iloadn (pc' := 10) d_80_9 rfl rfl ?_
    refine g_aloadn (pc' := 11) d_80_10 rfl rfl ?_
    obtain ⟨fs4, hw5, h⟩ := h
    obtain ⟨x6, hv7, h⟩ := h
    refine g_getf (pc' := 14) d_80_11 rfl st_80_49 hw5 hv7 ?_
    refine g_ic_le (pc' := 17) (pt := 20) d_80_14 (by decide) rfl (fun c => ?_) (fun c => ?_)
    · replace h := h.1 c
      refine g_iconst (pc' := 21) d_80_20 rfl ci_0 ?_
      refine g_istoren (pc' := 22) (l' := [some (.ref a0), some (.int i1), some (.int (0 : Int32)), none]) d_80_21 rfl ml_80 rfl rfl ?_
      refine g_iconst (pc' := 23) d_80_22 rfl ci_0 ?_
      refine g_istoren (pc' := 24) (l' := [some (.ref a0), some (.int i1), some (.int (0 : Int32)), some (.int (0 : Int32))]) d_80_23 rfl ml_80 rfl rfl ?_
      exact h
    · replace h := h.2 c
      refine g_bipush (pc' := 19) d_80_17 rfl cb_m2 ?_
      exact g_iret d_80_19 rt_80 h
  · replace h := h.2 c
    refine g_iconst (pc' := 8) d_80_7 rfl ci_m1 ?_
    exact g_iret d_80_8 rt_80 h
theorem S_80_24 {a0 : Nat} {i1 : Int32} {i2 : Int32} {i3 : Int32} {w : xW} {r : Option Value × xW} (h : ((2 : Int32) < i3 → r = (some (.int i2), w)) ∧ (¬ ((2 : Int32) < i3) → (¬ i3 = 0 → ∃ fs1, w[a0]? = some (.inr (0, fs1)) ∧ ∃ w3, xCall 33 [.ref a0, .int i1, .int i3] w (none, w3) ∧ ∃ fs5, w3[a0]? = some (.inr (0, fs5)) ∧ ∃ b7, fs5[4]? = some (.ref b7) ∧ ∃ b9, fs5[13]? = some (.ref b9) ∧ ∃ fs11, w3[b7]? = some (.inr (4, fs11)) ∧ ∃ r15 w13, xCall 56 [.ref b7, .int i1, .ref b9] w3 (some (.int r15), w13) ∧ (r15 = 0 → ∀ v16 : Int32, v16 = i3 + (1 : Int32) → xGo 80 24 [some (.ref a0), some (.int i1), some (.int i2), some (.int v16)] [] w13 r) ∧ (¬ (r15 = 0) → ∀ v17 : Int32, v17 = i2 + (1 : Int32) → ∀ v18 : Int32, v18 = i3 + (1 : Int32) → xGo 80 24 [some (.ref a0), some (.int i1), some (.int v17), some (.int v18)] [] w13 r)) ∧ (¬ (¬ i3 = 0) → ∃ fs19, w[a0]? = some (.inr (0, fs19)) ∧ ∃ r23 w21, xCall 26 [.ref a0, .int i1] w (some (.int r23), w21) ∧ (¬ r23 = 0 → ∃ fs24, w21[a0]? = some (.inr (0, fs24)) ∧ ∃ w26, xCall 33 [.ref a0, .int i1, .int i3] w21 (none, w26) ∧ ∃ fs28, w26[a0]? = some (.inr (0, fs28)) ∧ ∃ b30, fs28[4]? = some (.ref b30) ∧ ∃ b32, fs28[13]? = some (.ref b32) ∧ ∃ fs34, w26[b30]? = some (.inr (4, fs34)) ∧ ∃ r38 w36, xCall 56 [.ref b30, .int i1, .ref b32] w26 (some (.int r38), w36) ∧ (r38 = 0 → ∀ v39 : Int32, v39 = i3 + (1 : Int32) → xGo 80 24 [some (.ref a0), some (.int i1), some (.int i2), some (.int v39)] [] w36 r) ∧ (¬ (r38 = 0) → ∀ v40 : Int32, v40 = i2 + (1 : Int32) → ∀ v41 : Int32, v41 = i3 + (1 : Int32) → xGo 80 24 [some (.ref a0), some (.int i1), some (.int v40), some (.int v41)] [] w36 r)) ∧ (¬ (¬ r23 = 0) → ∀ v42 : Int32, v42 = i3 + (1 : Int32) → xGo 80 24 [some (.ref a0), some (.int i1), some (.int i2), some (.int v42)] [] w21 r)))) : xGo 80 24 [some (.ref a0), some (.int i1), some (.int i2), some (.int i3)] [] w r := by
  refine g_iloadn (pc' := 25) d_80_24 rfl rfl ?_
  refine g_iconst (pc' := 26) d_80_25 rfl ci_2 ?_
  refine g_ic_gt (pc' := 29) (pt := 74) d_80_26 (by decide) rfl (fun c => ?_) (fun c => ?_)
  · replace h := h.1 c
    refine g_iloadn (pc' := 75) d_80_74 rfl rfl ?_
    exact g_iret d_80_75 rt_80 h
  · replace h := h.2 c
    refine g_iloadn (pc' := 30) d_80_29 rfl rfl ?_
    refine g_if_ne (pc' := 33) (pt := 44) d_80_30 (by decide) rfl (fun c => ?_) (fun c => ?_)
    · replace h := h.1 c
      refine g_aloadn (pc' := 45) d_80_44 rfl rfl ?_
      refine g_iloadn (pc' := 46) d_80_45 rfl rfl ?_
      refine g_iloadn (pc' := 47) d_80_46 rfl rfl ?_
      obtain ⟨fs1, hw2, h⟩ := h
      obtain ⟨w3, hk4, h⟩ := h
      refine g_callV (pc' := 50) d_80_47 rfl st_80_177 na_33 ml_33 rfl rfl rfl rm_80_33 rfl rfl ow_33 hw2 hk4 ?_
      refine g_aloadn (pc' := 51) d_80_50 rfl rfl ?_
      obtain ⟨fs5, hw6, h⟩ := h
      obtain ⟨b7, hv8, h⟩ := h
      refine g_getf (pc' := 54) d_80_51 rfl st_80_39 hw6 hv8 ?_
      refine g_iloadn (pc' := 55) d_80_54 rfl rfl ?_
      refine g_aloadn (pc' := 56) d_80_55 rfl rfl ?_
      obtain ⟨b9, hv10, h⟩ := h
      refine g_getf (pc' := 59) d_80_56 rfl st_80_95 hw6 hv10 ?_
      obtain ⟨fs11, hw12, h⟩ := h
      obtain ⟨r15, w13, hk14, h⟩ := h
      refine g_callV (pc' := 62) d_80_59 rfl st_80_180 na_56 ml_56 rfl rfl rfl rm_80_56 rfl rfl ow_56 hw12 hk14 ?_
      refine g_if_eq (pc' := 65) (pt := 68) d_80_62 (by decide) rfl (fun c => ?_) (fun c => ?_)
      · replace h := h.1 c
        have h := h _ rfl
        refine g_iinc (pc' := 71) (l' := [some (.ref a0), some (.int i1), some (.int i2), some (.int (i3 + (1 : Int32)))]) d_80_68 rfl rfl ci_1 ml_80 rfl rfl ?_
        refine g_goto (pt := 24) d_80_71 (by decide) ?_
        exact h
      · replace h := h.2 c
        have h := h _ rfl
        refine g_iinc (pc' := 68) (l' := [some (.ref a0), some (.int i1), some (.int (i2 + (1 : Int32))), some (.int i3)]) d_80_65 rfl rfl ci_1 ml_80 rfl rfl ?_
        have h := h _ rfl
        refine g_iinc (pc' := 71) (l' := [some (.ref a0), some (.int i1), some (.int (i2 + (1 : Int32))), some (.int (i3 + (1 : Int32)))]) d_80_68 rfl rfl ci_1 ml_80 rfl rfl ?_
        refine g_goto (pt := 24) d_80_71 (by decide) ?_
        exact h
    · replace h := h.2 c
      refine g_aloadn (pc' := 34) d_80_33 rfl rfl ?_
      refine g_iloadn (pc' := 35) d_80_34 rfl rfl ?_
      obtain ⟨fs19, hw20, h⟩ := h
      obtain ⟨r23, w21, hk22, h⟩ := h
      refine g_callV (pc' := 38) d_80_35 rfl st_80_127 na_26 ml_26 rfl rfl rfl rm_80_26 rfl rfl ow_26 hw20 hk22 ?_
      refine g_if_ne (pc' := 41) (pt := 44) d_80_38 (by decide) rfl (fun c => ?_) (fun c => ?_)
      · replace h := h.1 c
        refine g_aloadn (pc' := 45) d_80_44 rfl rfl ?_
        refine g_iloadn (pc' := 46) d_80_45 rfl rfl ?_
        refine g_iloadn (pc' := 47) d_80_46 rfl rfl ?_
        obtain ⟨fs24, hw25, h⟩ := h
        obtain ⟨w26, hk27, h⟩ := h
        refine g_callV (pc' := 50) d_80_47 rfl st_80_177 na_33 ml_33 rfl rfl rfl rm_80_33 rfl rfl ow_33 hw25 hk27 ?_
        refine g_aloadn (pc' := 51) d_80_50 rfl rfl ?_
        obtain ⟨fs28, hw29, h⟩ := h
        obtain ⟨b30, hv31, h⟩ := h
        refine g_getf (pc' := 54) d_80_51 rfl st_80_39 hw29 hv31 ?_
        refine g_iloadn (pc' := 55) d_80_54 rfl rfl ?_
        refine g_aloadn (pc' := 56) d_80_55 rfl rfl ?_
        obtain ⟨b32, hv33, h⟩ := h
        refine g_getf (pc' := 59) d_80_56 rfl st_80_95 hw29 hv33 ?_
        obtain ⟨fs34, hw35, h⟩ := h
        obtain ⟨r38, w36, hk37, h⟩ := h
        refine g_callV (pc' := 62) d_80_59 rfl st_80_180 na_56 ml_56 rfl rfl rfl rm_80_56 rfl rfl ow_56 hw35 hk37 ?_
        refine g_if_eq (pc' := 65) (pt := 68) d_80_62 (by decide) rfl (fun c => ?_) (fun c => ?_)
        · replace h := h.1 c
          have h := h _ rfl
          refine g_iinc (pc' := 71) (l' := [some (.ref a0), some (.int i1), some (.int i2), some (.int (i3 + (1 : Int32)))]) d_80_68 rfl rfl ci_1 ml_80 rfl rfl ?_
          refine g_goto (pt := 24) d_80_71 (by decide) ?_
          exact h
        · replace h := h.2 c
          have h := h _ rfl
          refine g_iinc (pc' := 68) (l' := [some (.ref a0), some (.int i1), some (.int (i2 + (1 : Int32))), some (.int i3)]) d_80_65 rfl rfl ci_1 ml_80 rfl rfl ?_
          have h := h _ rfl
          refine g_iinc (pc' := 71) (l' := [some (.ref a0), some (.int i1), some (.int (i2 + (1 : Int32))), some (.int (i3 + (1 : Int32)))]) d_80_68 rfl rfl ci_1 ml_80 rfl rfl ?_
          refine g_goto (pt := 24) d_80_71 (by decide) ?_
          exact h
      · replace h := h.2 c
        refine g_goto (pt := 68) d_80_41 (by decide) ?_
        have h := h _ rfl
        refine g_iinc (pc' := 71) (l' := [some (.ref a0), some (.int i1), some (.int i2), some (.int (i3 + (1 : Int32)))]) d_80_68 rfl rfl ci_1 ml_80 rfl rfl ?_
        refine g_goto (pt := 24) d_80_71 (by decide) ?_
        exact h
-- 81 BernoulliWays.prime(II)I
theorem S_81_0 {a0 : Nat} {i1 : Int32} {i2 : Int32} {w : xW} {r : Option Value × xW} (h : ∃ r3 w1, xCall 24 [.int i1] w (some (.int r3), w1) ∧ (r3 = 0 → r = (some (.int (-1 : Int32)), w1)) ∧ (¬ (r3 = 0) → (0 ≤ i2 → (w1[xP]? = none) ∧ xGo 81 28 [some (.ref a0), some (.int i1), some (.int i2), some (.int (0 : Int32)), some (.ref xP), some (.int (46 : Int32)), some (.int (0 : Int32)), none] [] w1 r) ∧ (¬ (0 ≤ i2) → r = (some (.int (-1 : Int32)), w1)))) : xGo 81 0 [some (.ref a0), some (.int i1), some (.int i2), none, none, none, none, none] [] w r := by
  refine g_iloadn (pc' := 1) d_81_0 rfl rfl ?_
  obtain ⟨r3, w1, hk2, h⟩ := h
  refine g_callS (pc' := 4) d_81_1 rfl st_81_120 (Or.inl rfl) na_24 ml_24 rfl rfl rfl rm_81_24 rfl rfl hk2 ?_
  refine g_if_eq (pc' := 7) (pt := 11) d_81_4 (by decide) rfl (fun c => ?_) (fun c => ?_)
  · replace h := h.1 c
    refine g_iconst (pc' := 12) d_81_11 rfl ci_m1 ?_
    exact g_iret d_81_12 rt_81 h
  · replace h := h.2 c
    refine g_iloadn (pc' := 8) d_81_7 rfl rfl ?_
    refine g_if_ge (pc' := 11) (pt := 13) d_81_8 (by decide) rfl (fun c => ?_) (fun c => ?_)
    · replace h := h.1 c
      refine g_iconst (pc' := 14) d_81_13 rfl ci_0 ?_
      refine g_istoren (pc' := 15) (l' := [some (.ref a0), some (.int i1), some (.int i2), some (.int (0 : Int32)), none, none, none, none]) d_81_14 rfl ml_81 rfl rfl ?_
      refine g_gets (pc' := 18) d_81_15 rfl st_81_184 (Or.inl rfl) ?_
      refine g_astore (pc' := 20) (l' := [some (.ref a0), some (.int i1), some (.int i2), some (.int (0 : Int32)), some (.ref xP), none, none, none]) d_81_18 rfl ml_81 rfl rfl ?_
      refine g_aload (pc' := 22) d_81_20 rfl rfl ?_
      obtain ⟨hc4, h⟩ := h
      refine g_lenp (pc' := 23) d_81_22 rfl hc4 ?_
      refine g_istore (pc' := 25) (l' := [some (.ref a0), some (.int i1), some (.int i2), some (.int (0 : Int32)), some (.ref xP), some (.int (46 : Int32)), none, none]) d_81_23 rfl ml_81 rfl rfl ?_
      refine g_iconst (pc' := 26) d_81_25 rfl ci_0 ?_
      refine g_istore (pc' := 28) (l' := [some (.ref a0), some (.int i1), some (.int i2), some (.int (0 : Int32)), some (.ref xP), some (.int (46 : Int32)), some (.int (0 : Int32)), none]) d_81_26 rfl ml_81 rfl rfl ?_
      exact h
    · replace h := h.2 c
      refine g_iconst (pc' := 12) d_81_11 rfl ci_m1 ?_
      exact g_iret d_81_12 rt_81 h
theorem S_81_28 {a0 : Nat} {i1 : Int32} {i2 : Int32} {i3 : Int32} {i5 : Int32} {i6 : Int32} {w : xW} {r : Option Value × xW} (h : (i5 ≤ i6 → r = (some (.int (-2 : Int32)), w)) ∧ (¬ (i5 ≤ i6) → (w[xP]? = none) ∧ (¬ (i6 < 0 ∨ 46 ≤ i6.toNatClampNeg)) ∧ ∀ v3 : Int32, v3 = (xpr i6.toNatClampNeg) → ∃ r6 w4, xCall 52 [.int v3, .int i1] w (some (.int r6), w4) ∧ (¬ r6 = 0 → (¬ i3 = i2 → ∀ v7 : Int32, v7 = i3 + (1 : Int32) → ∀ v8 : Int32, v8 = i6 + (1 : Int32) → xGo 81 28 [some (.ref a0), some (.int i1), some (.int i2), some (.int v7), some (.ref xP), some (.int i5), some (.int v8), none] [] w4 r) ∧ (¬ (¬ i3 = i2) → r = (some (.int v3), w4))) ∧ (¬ (¬ r6 = 0) → ∀ v9 : Int32, v9 = i6 + (1 : Int32) → xGo 81 28 [some (.ref a0), some (.int i1), some (.int i2), some (.int i3), some (.ref xP), some (.int i5), some (.int v9), none] [] w4 r))) : xGo 81 28 [some (.ref a0), some (.int i1), some (.int i2), some (.int i3), some (.ref xP), some (.int i5), some (.int i6), none] [] w r := by
  refine g_iload (pc' := 30) d_81_28 rfl rfl ?_
  refine g_iload (pc' := 32) d_81_30 rfl rfl ?_
  refine g_ic_ge (pc' := 35) (pt := 71) d_81_32 (by decide) rfl (fun c => ?_) (fun c => ?_)
  · replace h := h.1 c
    refine g_bipush (pc' := 73) d_81_71 rfl cb_m2 ?_
    exact g_iret d_81_73 rt_81 h
  · replace h := h.2 c
    refine g_aload (pc' := 37) d_81_35 rfl rfl ?_
    refine g_iload (pc' := 39) d_81_37 rfl rfl ?_
    obtain ⟨hc1, h⟩ := h
    obtain ⟨hc2, h⟩ := h
    refine g_pald (pc' := 40) d_81_39 rfl hc1 hc2 ?_
    have h := h _ rfl
    refine g_istore (pc' := 42) (l' := [some (.ref a0), some (.int i1), some (.int i2), some (.int i3), some (.ref xP), some (.int i5), some (.int i6), some (.int ((xpr i6.toNatClampNeg)))]) d_81_40 rfl ml_81 rfl rfl ?_
    refine g_iload (pc' := 44) d_81_42 rfl rfl ?_
    refine g_iloadn (pc' := 45) d_81_44 rfl rfl ?_
    obtain ⟨r6, w4, hk5, h⟩ := h
    refine g_callS (pc' := 48) d_81_45 rfl st_81_187 (Or.inl rfl) na_52 ml_52 rfl rfl rfl rm_81_52 rfl rfl hk5 ?_
    refine g_if_ne (pc' := 51) (pt := 54) d_81_48 (by decide) rfl (fun c => ?_) (fun c => ?_)
    · replace h := h.1 c
      refine g_iloadn (pc' := 55) d_81_54 rfl rfl ?_
      refine g_iloadn (pc' := 56) d_81_55 rfl rfl ?_
      refine g_ic_ne (pc' := 59) (pt := 62) d_81_56 (by decide) rfl (fun c => ?_) (fun c => ?_)
      · replace h := h.1 c
        have h := h _ rfl
        refine g_iinc (pc' := 65) (l' := [some (.ref a0), some (.int i1), some (.int i2), some (.int (i3 + (1 : Int32))), some (.ref xP), some (.int i5), some (.int i6), some (.int ((xpr i6.toNatClampNeg)))]) d_81_62 rfl rfl ci_1 ml_81 rfl rfl ?_
        have h := h _ rfl
        refine g_iinc (pc' := 68) (l' := [some (.ref a0), some (.int i1), some (.int i2), some (.int (i3 + (1 : Int32))), some (.ref xP), some (.int i5), some (.int (i6 + (1 : Int32))), some (.int ((xpr i6.toNatClampNeg)))]) d_81_65 rfl rfl ci_1 ml_81 rfl rfl ?_
        refine g_goto (pt := 28) d_81_68 (by decide) ?_
        exact xGo.more (xle_s (xle_s (xle_s (xle_s (xle_s (xle_s (xle_s (xle_n xle_0)))))))) h
      · replace h := h.2 c
        refine g_iload (pc' := 61) d_81_59 rfl rfl ?_
        exact g_iret d_81_61 rt_81 h
    · replace h := h.2 c
      refine g_goto (pt := 65) d_81_51 (by decide) ?_
      have h := h _ rfl
      refine g_iinc (pc' := 68) (l' := [some (.ref a0), some (.int i1), some (.int i2), some (.int i3), some (.ref xP), some (.int i5), some (.int (i6 + (1 : Int32))), some (.int ((xpr i6.toNatClampNeg)))]) d_81_65 rfl rfl ci_1 ml_81 rfl rfl ?_
      refine g_goto (pt := 28) d_81_68 (by decide) ?_
      exact xGo.more (xle_s (xle_s (xle_s (xle_s (xle_s (xle_s (xle_s (xle_n xle_0)))))))) h
-- 82 BernoulliWays.whole(I)J
theorem S_82_0 {a0 : Nat} {i1 : Int32} {w : xW} {r : Option Value × xW} (h : ∃ r3 w1, xCall 24 [.int i1] w (some (.int r3), w1) ∧ (r3 = 0 → r = (some (.long (-9223372036854775808 : Int64)), w1)) ∧ (¬ (r3 = 0) → ∃ r6 w4, xCall 47 [.int i1] w1 (some (.int r6), w4) ∧ (¬ r6 = 0 → ∃ fs7, w4[a0]? = some (.inr (0, fs7)) ∧ ∃ b9, fs7[1]? = some (.ref b9) ∧ ∃ fs11, w4[b9]? = some (.inr (2, fs11)) ∧ ∃ w13, xCall 37 [.ref b9, .long (7420738134810 : Int64)] w4 (none, w13) ∧ ∃ fs15, w13[a0]? = some (.inr (0, fs15)) ∧ ∃ b17, fs15[1]? = some (.ref b17) ∧ ∃ b19, fs15[3]? = some (.ref b19) ∧ ∃ fs21, w13[b19]? = some (.inr (4, fs21)) ∧ ∃ r25 w23, xCall 29 [.ref b19, .int i1] w13 (some (.long r25), w23) ∧ ∃ fs26, w23[a0]? = some (.inr (0, fs26)) ∧ ∃ b28, fs26[3]? = some (.ref b28) ∧ ∃ fs30, w23[b28]? = some (.inr (4, fs30)) ∧ ∃ r34 w32, xCall 30 [.ref b28, .int i1] w23 (some (.long r34), w32) ∧ ∃ fs35, w32[a0]? = some (.inr (0, fs35)) ∧ ∃ b37, fs35[3]? = some (.ref b37) ∧ ∃ fs39, w32[b37]? = some (.inr (4, fs39)) ∧ ∃ r43 w41, xCall 31 [.ref b37, .int i1] w32 (some (.long r43), w41) ∧ ∃ fs44, w41[b17]? = some (.inr (2, fs44)) ∧ ∃ w46, xCall 41 [.ref b17, .long (1 : Int64), .long r25, .long r34, .long r43] w41 (none, w46) ∧ ∃ fs48, w46[a0]? = some (.inr (0, fs48)) ∧ ∃ w50, xCall 55 [.ref a0, .int i1, .int (1 : Int32)] w46 (none, w50) ∧ ∃ fs52, w50[a0]? = some (.inr (0, fs52)) ∧ ∃ b54, fs52[1]? = some (.ref b54) ∧ ∃ b56, fs52[13]? = some (.ref b56) ∧ ∃ fs58, w50[b54]? = some (.inr (2, fs58)) ∧ ∃ w60, xCall 42 [.ref b54, .ref b56] w50 (none, w60) ∧ ∃ fs62, w60[a0]? = some (.inr (0, fs62)) ∧ ∃ b64, fs62[13]? = some (.ref b64) ∧ ∃ fs66, w60[b64]? = some (.inr (5, fs66)) ∧ ∃ x68, fs66[0]? = some (.long x68) ∧ r = (some (.long x68), w60)) ∧ (¬ (¬ r6 = 0) → r = (some (.long (-9223372036854775808 : Int64)), w4)))) : xGo 82 0 [some (.ref a0), some (.int i1)] [] w r := by
  refine g_iloadn (pc' := 1) d_82_0 rfl rfl ?_
  obtain ⟨r3, w1, hk2, h⟩ := h
  refine g_callS (pc' := 4) d_82_1 rfl st_82_120 (Or.inl rfl) na_24 ml_24 rfl rfl rfl rm_82_24 rfl rfl hk2 ?_
  refine g_if_eq (pc' := 7) (pt := 14) d_82_4 (by decide) rfl (fun c => ?_) (fun c => ?_)
  · replace h := h.1 c
    refine g_ldc2 (pc' := 17) d_82_14 rfl st_82_166 cL_m9223372036854775808 ?_
    exact g_lret d_82_17 rt_82 h
  · replace h := h.2 c
    refine g_iloadn (pc' := 8) d_82_7 rfl rfl ?_
    obtain ⟨r6, w4, hk5, h⟩ := h
    refine g_callS (pc' := 11) d_82_8 rfl st_82_190 (Or.inl rfl) na_47 ml_47 rfl rfl rfl rm_82_47 rfl rfl hk5 ?_
    refine g_if_ne (pc' := 14) (pt := 18) d_82_11 (by decide) rfl (fun c => ?_) (fun c => ?_)
    · replace h := h.1 c
      refine g_aloadn (pc' := 19) d_82_18 rfl rfl ?_
      obtain ⟨fs7, hw8, h⟩ := h
      obtain ⟨b9, hv10, h⟩ := h
      refine g_getf (pc' := 22) d_82_19 rfl st_82_21 hw8 hv10 ?_
      refine g_ldc2 (pc' := 25) d_82_22 rfl st_82_193 cL_7420738134810 ?_
      obtain ⟨fs11, hw12, h⟩ := h
      obtain ⟨w13, hk14, h⟩ := h
      refine g_callV (pc' := 28) d_82_25 rfl st_82_195 na_37 ml_37 rfl rfl rfl rm_82_37 rfl rfl ow_37 hw12 hk14 ?_
      refine g_aloadn (pc' := 29) d_82_28 rfl rfl ?_
      obtain ⟨fs15, hw16, h⟩ := h
      obtain ⟨b17, hv18, h⟩ := h
      refine g_getf (pc' := 32) d_82_29 rfl st_82_21 hw16 hv18 ?_
      refine g_lconst (pc' := 33) d_82_32 rfl cl_1 ?_
      refine g_aloadn (pc' := 34) d_82_33 rfl rfl ?_
      obtain ⟨b19, hv20, h⟩ := h
      refine g_getf (pc' := 37) d_82_34 rfl st_82_35 hw16 hv20 ?_
      refine g_iloadn (pc' := 38) d_82_37 rfl rfl ?_
      obtain ⟨fs21, hw22, h⟩ := h
      obtain ⟨r25, w23, hk24, h⟩ := h
      refine g_callV (pc' := 41) d_82_38 rfl st_82_198 na_29 ml_29 rfl rfl rfl rm_82_29 rfl rfl ow_29 hw22 hk24 ?_
      refine g_aloadn (pc' := 42) d_82_41 rfl rfl ?_
      obtain ⟨fs26, hw27, h⟩ := h
      obtain ⟨b28, hv29, h⟩ := h
      refine g_getf (pc' := 45) d_82_42 rfl st_82_35 hw27 hv29 ?_
      refine g_iloadn (pc' := 46) d_82_45 rfl rfl ?_
      obtain ⟨fs30, hw31, h⟩ := h
      obtain ⟨r34, w32, hk33, h⟩ := h
      refine g_callV (pc' := 49) d_82_46 rfl st_82_201 na_30 ml_30 rfl rfl rfl rm_82_30 rfl rfl ow_30 hw31 hk33 ?_
      refine g_aloadn (pc' := 50) d_82_49 rfl rfl ?_
      obtain ⟨fs35, hw36, h⟩ := h
      obtain ⟨b37, hv38, h⟩ := h
      refine g_getf (pc' := 53) d_82_50 rfl st_82_35 hw36 hv38 ?_
      refine g_iloadn (pc' := 54) d_82_53 rfl rfl ?_
      obtain ⟨fs39, hw40, h⟩ := h
      obtain ⟨r43, w41, hk42, h⟩ := h
      refine g_callV (pc' := 57) d_82_54 rfl st_82_204 na_31 ml_31 rfl rfl rfl rm_82_31 rfl rfl ow_31 hw40 hk42 ?_
      obtain ⟨fs44, hw45, h⟩ := h
      obtain ⟨w46, hk47, h⟩ := h
      refine g_callV (pc' := 60) d_82_57 rfl st_82_207 na_41 ml_41 rfl rfl rfl rm_82_41 rfl rfl ow_41 hw45 hk47 ?_
      refine g_aloadn (pc' := 61) d_82_60 rfl rfl ?_
      refine g_iloadn (pc' := 62) d_82_61 rfl rfl ?_
      refine g_iconst (pc' := 63) d_82_62 rfl ci_1 ?_
      obtain ⟨fs48, hw49, h⟩ := h
      obtain ⟨w50, hk51, h⟩ := h
      refine g_callV (pc' := 66) d_82_63 rfl st_82_211 na_55 ml_55 rfl rfl rfl rm_82_55 rfl rfl ow_55 hw49 hk51 ?_
      refine g_aloadn (pc' := 67) d_82_66 rfl rfl ?_
      obtain ⟨fs52, hw53, h⟩ := h
      obtain ⟨b54, hv55, h⟩ := h
      refine g_getf (pc' := 70) d_82_67 rfl st_82_21 hw53 hv55 ?_
      refine g_aloadn (pc' := 71) d_82_70 rfl rfl ?_
      obtain ⟨b56, hv57, h⟩ := h
      refine g_getf (pc' := 74) d_82_71 rfl st_82_95 hw53 hv57 ?_
      obtain ⟨fs58, hw59, h⟩ := h
      obtain ⟨w60, hk61, h⟩ := h
      refine g_callV (pc' := 77) d_82_74 rfl st_82_214 na_42 ml_42 rfl rfl rfl rm_82_42 rfl rfl ow_42 hw59 hk61 ?_
      refine g_aloadn (pc' := 78) d_82_77 rfl rfl ?_
      obtain ⟨fs62, hw63, h⟩ := h
      obtain ⟨b64, hv65, h⟩ := h
      refine g_getf (pc' := 81) d_82_78 rfl st_82_95 hw63 hv65 ?_
      obtain ⟨fs66, hw67, h⟩ := h
      obtain ⟨x68, hv69, h⟩ := h
      refine g_getf (pc' := 84) d_82_81 rfl st_82_218 hw67 hv69 ?_
      exact g_lret d_82_84 rt_82 h
    · replace h := h.2 c
      refine g_ldc2 (pc' := 17) d_82_14 rfl st_82_166 cL_m9223372036854775808 ?_
      exact g_lret d_82_17 rt_82 h
-- 83 BernoulliWays.residue(II)I
theorem S_83_0 {a0 : Nat} {i1 : Int32} {i2 : Int32} {w : xW} {r : Option Value × xW} (h : ∃ r3 w1, xCall 24 [.int i1] w (some (.int r3), w1) ∧ (r3 = 0 → r = (some (.int (-1 : Int32)), w1)) ∧ (¬ (r3 = 0) → ∃ r6 w4, xCall 84 [.int i2] w1 (some (.int r6), w4) ∧ (¬ r6 = 0 → ∃ fs7, w4[a0]? = some (.inr (0, fs7)) ∧ ∃ x9, fs7[7]? = some (.int x9) ∧ (i1 ≤ x9 → ∃ r13 w11, xCall 85 [.ref a0, .int i1, .int i2] w4 (some (.int r13), w11) ∧ (r13 < 0 → r = (some (.int r13), w11)) ∧ (¬ (r13 < 0) → ∃ fs14, w11[a0]? = some (.inr (0, fs14)) ∧ ∃ b16, fs14[9]? = some (.ref b16) ∧ ∃ fs18, w11[b16]? = some (.inr (7, fs18)) ∧ ∃ w20, xCall 86 [.ref b16, .int i1, .int i2, .int r13] w11 (none, w20) ∧ r = (some (.int r13), w20))) ∧ (¬ (i1 ≤ x9) → r = (some (.int (-2 : Int32)), w4))) ∧ (¬ (¬ r6 = 0) → r = (some (.int (-1 : Int32)), w4)))) : xGo 83 0 [some (.ref a0), some (.int i1), some (.int i2), none] [] w r := by
  refine g_iloadn (pc' := 1) d_83_0 rfl rfl ?_
  obtain ⟨r3, w1, hk2, h⟩ := h
  refine g_callS (pc' := 4) d_83_1 rfl st_83_120 (Or.inl rfl) na_24 ml_24 rfl rfl rfl rm_83_24 rfl rfl hk2 ?_
  refine g_if_eq (pc' := 7) (pt := 14) d_83_4 (by decide) rfl (fun c => ?_) (fun c => ?_)
  · replace h := h.1 c
    refine g_iconst (pc' := 15) d_83_14 rfl ci_m1 ?_
    exact g_iret d_83_15 rt_83 h
  · replace h := h.2 c
    refine g_iloadn (pc' := 8) d_83_7 rfl rfl ?_
    obtain ⟨r6, w4, hk5, h⟩ := h
    refine g_callS (pc' := 11) d_83_8 rfl st_83_222 (Or.inl rfl) na_84 ml_84 rfl rfl rfl rm_83_84 rfl rfl hk5 ?_
    refine g_if_ne (pc' := 14) (pt := 16) d_83_11 (by decide) rfl (fun c => ?_) (fun c => ?_)
    · replace h := h.1 c
      refine g_iloadn (pc' := 17) d_83_16 rfl rfl ?_
      refine g_aloadn (pc' := 18) d_83_17 rfl rfl ?_
      obtain ⟨fs7, hw8, h⟩ := h
      obtain ⟨x9, hv10, h⟩ := h
      refine g_getf (pc' := 21) d_83_18 rfl st_83_49 hw8 hv10 ?_
      refine g_ic_le (pc' := 24) (pt := 27) d_83_21 (by decide) rfl (fun c => ?_) (fun c => ?_)
      · replace h := h.1 c
        refine g_aloadn (pc' := 28) d_83_27 rfl rfl ?_
        refine g_iloadn (pc' := 29) d_83_28 rfl rfl ?_
        refine g_iloadn (pc' := 30) d_83_29 rfl rfl ?_
        obtain ⟨r13, w11, hk12, h⟩ := h
        refine g_callV (pc' := 33) d_83_30 rfl st_83_225 na_85 ml_85 rfl rfl rfl rm_83_85 rfl rfl ow_85 hw8 hk12 ?_
        refine g_istoren (pc' := 34) (l' := [some (.ref a0), some (.int i1), some (.int i2), some (.int r13)]) d_83_33 rfl ml_83 rfl rfl ?_
        refine g_iloadn (pc' := 35) d_83_34 rfl rfl ?_
        refine g_if_lt (pc' := 38) (pt := 48) d_83_35 (by decide) rfl (fun c => ?_) (fun c => ?_)
        · replace h := h.1 c
          refine g_iloadn (pc' := 49) d_83_48 rfl rfl ?_
          exact g_iret d_83_49 rt_83 h
        · replace h := h.2 c
          refine g_aloadn (pc' := 39) d_83_38 rfl rfl ?_
          obtain ⟨fs14, hw15, h⟩ := h
          obtain ⟨b16, hv17, h⟩ := h
          refine g_getf (pc' := 42) d_83_39 rfl st_83_65 hw15 hv17 ?_
          refine g_iloadn (pc' := 43) d_83_42 rfl rfl ?_
          refine g_iloadn (pc' := 44) d_83_43 rfl rfl ?_
          refine g_iloadn (pc' := 45) d_83_44 rfl rfl ?_
          obtain ⟨fs18, hw19, h⟩ := h
          obtain ⟨w20, hk21, h⟩ := h
          refine g_callV (pc' := 48) d_83_45 rfl st_83_228 na_86 ml_86 rfl rfl rfl rm_83_86 rfl rfl ow_86 hw19 hk21 ?_
          refine g_iloadn (pc' := 49) d_83_48 rfl rfl ?_
          exact g_iret d_83_49 rt_83 h
      · replace h := h.2 c
        refine g_bipush (pc' := 26) d_83_24 rfl cb_m2 ?_
        exact g_iret d_83_26 rt_83 h
    · replace h := h.2 c
      refine g_iconst (pc' := 15) d_83_14 rfl ci_m1 ?_
      exact g_iret d_83_15 rt_83 h
-- 84 BernoulliWays.isPrime(I)Z
theorem S_84_0 {i0 : Int32} {w : xW} {r : Option Value × xW} (h : (i0 < (3 : Int32) → r = (some (.int (0 : Int32)), w)) ∧ (¬ (i0 < (3 : Int32)) → (i0 ≤ (199 : Int32) → (w[xP]? = none) ∧ xGo 84 23 [some (.int i0), some (.ref xP), some (.int (46 : Int32)), some (.int (0 : Int32)), none] [] w r) ∧ (¬ (i0 ≤ (199 : Int32)) → r = (some (.int (0 : Int32)), w)))) : xGo 84 0 [some (.int i0), none, none, none, none] [] w r := by
  refine g_iloadn (pc' := 1) d_84_0 rfl rfl ?_
  refine g_iconst (pc' := 2) d_84_1 rfl ci_3 ?_
  refine g_ic_lt (pc' := 5) (pt := 12) d_84_2 (by decide) rfl (fun c => ?_) (fun c => ?_)
  · replace h := h.1 c
    refine g_iconst (pc' := 13) d_84_12 rfl ci_0 ?_
    exact g_zret d_84_13 rt_84 (Or.inl rfl) h
  · replace h := h.2 c
    refine g_iloadn (pc' := 6) d_84_5 rfl rfl ?_
    refine g_sipush (pc' := 9) d_84_6 rfl cs_199 ?_
    refine g_ic_le (pc' := 12) (pt := 14) d_84_9 (by decide) rfl (fun c => ?_) (fun c => ?_)
    · replace h := h.1 c
      refine g_gets (pc' := 17) d_84_14 rfl st_84_184 (Or.inl rfl) ?_
      refine g_astoren (pc' := 18) (l' := [some (.int i0), some (.ref xP), none, none, none]) d_84_17 rfl ml_84 rfl rfl ?_
      refine g_aloadn (pc' := 19) d_84_18 rfl rfl ?_
      obtain ⟨hc1, h⟩ := h
      refine g_lenp (pc' := 20) d_84_19 rfl hc1 ?_
      refine g_istoren (pc' := 21) (l' := [some (.int i0), some (.ref xP), some (.int (46 : Int32)), none, none]) d_84_20 rfl ml_84 rfl rfl ?_
      refine g_iconst (pc' := 22) d_84_21 rfl ci_0 ?_
      refine g_istoren (pc' := 23) (l' := [some (.int i0), some (.ref xP), some (.int (46 : Int32)), some (.int (0 : Int32)), none]) d_84_22 rfl ml_84 rfl rfl ?_
      exact h
    · replace h := h.2 c
      refine g_iconst (pc' := 13) d_84_12 rfl ci_0 ?_
      exact g_zret d_84_13 rt_84 (Or.inl rfl) h
theorem S_84_23 {i0 : Int32} {i2 : Int32} {i3 : Int32} {w : xW} {r : Option Value × xW} (h : (i2 ≤ i3 → r = (some (.int (0 : Int32)), w)) ∧ (¬ (i2 ≤ i3) → (w[xP]? = none) ∧ (¬ (i3 < 0 ∨ 46 ≤ i3.toNatClampNeg)) ∧ ∀ v3 : Int32, v3 = (xpr i3.toNatClampNeg) → (¬ v3 = i0 → ∀ v4 : Int32, v4 = i3 + (1 : Int32) → xGo 84 23 [some (.int i0), some (.ref xP), some (.int i2), some (.int v4), none] [] w r) ∧ (¬ (¬ v3 = i0) → r = (some (.int (1 : Int32)), w)))) : xGo 84 23 [some (.int i0), some (.ref xP), some (.int i2), some (.int i3), none] [] w r := by
  refine g_iloadn (pc' := 24) d_84_23 rfl rfl ?_
  refine g_iloadn (pc' := 25) d_84_24 rfl rfl ?_
  refine g_ic_ge (pc' := 28) (pt := 47) d_84_25 (by decide) rfl (fun c => ?_) (fun c => ?_)
  · replace h := h.1 c
    refine g_iconst (pc' := 48) d_84_47 rfl ci_0 ?_
    exact g_zret d_84_48 rt_84 (Or.inl rfl) h
  · replace h := h.2 c
    refine g_aloadn (pc' := 29) d_84_28 rfl rfl ?_
    refine g_iloadn (pc' := 30) d_84_29 rfl rfl ?_
    obtain ⟨hc1, h⟩ := h
    obtain ⟨hc2, h⟩ := h
    refine g_pald (pc' := 31) d_84_30 rfl hc1 hc2 ?_
    have h := h _ rfl
    refine g_istore (pc' := 33) (l' := [some (.int i0), some (.ref xP), some (.int i2), some (.int i3), some (.int ((xpr i3.toNatClampNeg)))]) d_84_31 rfl ml_84 rfl rfl ?_
    refine g_iload (pc' := 35) d_84_33 rfl rfl ?_
    refine g_iloadn (pc' := 36) d_84_35 rfl rfl ?_
    refine g_ic_ne (pc' := 39) (pt := 41) d_84_36 (by decide) rfl (fun c => ?_) (fun c => ?_)
    · replace h := h.1 c
      have h := h _ rfl
      refine g_iinc (pc' := 44) (l' := [some (.int i0), some (.ref xP), some (.int i2), some (.int (i3 + (1 : Int32))), some (.int ((xpr i3.toNatClampNeg)))]) d_84_41 rfl rfl ci_1 ml_84 rfl rfl ?_
      refine g_goto (pt := 23) d_84_44 (by decide) ?_
      exact xGo.more (xle_s (xle_s (xle_s (xle_s (xle_n xle_0))))) h
    · replace h := h.2 c
      refine g_iconst (pc' := 40) d_84_39 rfl ci_1 ?_
      exact g_zret d_84_40 rt_84 (Or.inr rfl) h
-- 85 BernoulliWays.residueNow(II)I
theorem S_85_0 {a0 : Nat} {i1 : Int32} {i2 : Int32} {w : xW} {r : Option Value × xW} (h : (i2 < (3 : Int32) → r = (some (.int (-3 : Int32)), w)) ∧ (¬ (i2 < (3 : Int32)) → ∃ fs1, w[a0]? = some (.inr (0, fs1)) ∧ ∃ b3, fs1[4]? = some (.ref b3) ∧ ∃ fs5, w[b3]? = some (.inr (4, fs5)) ∧ ∃ r9 w7, xCall 31 [.ref b3, .int i1] w (some (.long r9), w7) ∧ (¬ (i2.toInt64) = 0) ∧ (¬ (lrem r9 (i2.toInt64)) = (0 : Int64) → ∃ fs11, w7[a0]? = some (.inr (0, fs11)) ∧ ∃ b13, fs11[4]? = some (.ref b13) ∧ ∃ fs15, w7[b13]? = some (.inr (4, fs15)) ∧ ∃ r19 w17, xCall 73 [.ref b13, .int i1, .long (i2.toInt64)] w7 (some (.long r19), w17) ∧ r = (some (.int (r19.toInt32)), w17)) ∧ (¬ (¬ (lrem r9 (i2.toInt64)) = (0 : Int64)) → r = (some (.int (-3 : Int32)), w7)))) : xGo 85 0 [some (.ref a0), some (.int i1), some (.int i2)] [] w r := by
  refine g_iloadn (pc' := 1) d_85_0 rfl rfl ?_
  refine g_iconst (pc' := 2) d_85_1 rfl ci_3 ?_
  refine g_ic_lt (pc' := 5) (pt := 21) d_85_2 (by decide) rfl (fun c => ?_) (fun c => ?_)
  · replace h := h.1 c
    refine g_bipush (pc' := 23) d_85_21 rfl cb_m3 ?_
    exact g_iret d_85_23 rt_85 h
  · replace h := h.2 c
    refine g_aloadn (pc' := 6) d_85_5 rfl rfl ?_
    obtain ⟨fs1, hw2, h⟩ := h
    obtain ⟨b3, hv4, h⟩ := h
    refine g_getf (pc' := 9) d_85_6 rfl st_85_39 hw2 hv4 ?_
    refine g_iloadn (pc' := 10) d_85_9 rfl rfl ?_
    obtain ⟨fs5, hw6, h⟩ := h
    obtain ⟨r9, w7, hk8, h⟩ := h
    refine g_callV (pc' := 13) d_85_10 rfl st_85_204 na_31 ml_31 rfl rfl rfl rm_85_31 rfl rfl ow_31 hw6 hk8 ?_
    refine g_iloadn (pc' := 14) d_85_13 rfl rfl ?_
    refine g_i2l (pc' := 15) d_85_14 rfl ?_
    obtain ⟨hc10, h⟩ := h
    refine g_lrem (pc' := 16) d_85_15 rfl hc10 ?_
    refine g_lconst (pc' := 17) d_85_16 rfl cl_0 ?_
    refine g_lc_ne (pc' := 21) (pm := 18) (pt := 24) d_85_17 rfl d_85_18 (by decide) rfl (fun c => ?_) (fun c => ?_)
    · replace h := h.1 c
      refine g_aloadn (pc' := 25) d_85_24 rfl rfl ?_
      obtain ⟨fs11, hw12, h⟩ := h
      obtain ⟨b13, hv14, h⟩ := h
      refine g_getf (pc' := 28) d_85_25 rfl st_85_39 hw12 hv14 ?_
      refine g_iloadn (pc' := 29) d_85_28 rfl rfl ?_
      refine g_iloadn (pc' := 30) d_85_29 rfl rfl ?_
      refine g_i2l (pc' := 31) d_85_30 rfl ?_
      obtain ⟨fs15, hw16, h⟩ := h
      obtain ⟨r19, w17, hk18, h⟩ := h
      refine g_callV (pc' := 34) d_85_31 rfl st_85_444 na_73 ml_73 rfl rfl rfl rm_85_73 rfl rfl ow_73 hw16 hk18 ?_
      refine g_l2i (pc' := 35) d_85_34 rfl ?_
      exact g_iret d_85_35 rt_85 h
    · replace h := h.2 c
      refine g_bipush (pc' := 23) d_85_21 rfl cb_m3 ?_
      exact g_iret d_85_23 rt_85 h
-- 86 BernoulliWays$Memo.remember(III)V
theorem S_86_0 {a0 : Nat} {i1 : Int32} {i2 : Int32} {i3 : Int32} {w : xW} {r : Option Value × xW} (h : ∃ fs1, w[a0]? = some (.inr (7, fs1)) ∧ ∃ r5 w3, xCall 87 [.ref a0, .int i1, .int i2] w (some (.int r5), w3) ∧ (¬ r5 = (20 : Int32) → ∃ fs6, w3[a0]? = some (.inr (7, fs6)) ∧ ∃ x8, fs6[3]? = some (.int x8) ∧ (¬ r5 = x8 → ∃ r12 w10, xCall 89 [.ref a0, .int r5] w3 (some (.int r12), w10) ∧ (r12 = 0 → r = (none, w10)) ∧ (¬ (r12 = 0) → ∃ fs13, w10[a0]? = some (.inr (7, fs13)) ∧ ∃ b15, fs13[0]? = some (.ref b15) ∧ ∃ n17 f18, w10[b15]? = some (.inl (.inl (n17, f18))) ∧ (¬ (r5 < 0 ∨ n17 ≤ r5.toNatClampNeg)) ∧ ∀ w21, w21 = w10.set b15 (.inl (.inl (n17, (upd f18 r5.toNatClampNeg i1)))) → ∃ fs22, w21[a0]? = some (.inr (7, fs22)) ∧ ∃ b24, fs22[1]? = some (.ref b24) ∧ ∃ n26 f27, w21[b24]? = some (.inl (.inl (n26, f27))) ∧ (¬ (r5 < 0 ∨ n26 ≤ r5.toNatClampNeg)) ∧ ∀ w30, w30 = w21.set b24 (.inl (.inl (n26, (upd f27 r5.toNatClampNeg i2)))) → ∃ fs31, w30[a0]? = some (.inr (7, fs31)) ∧ ∃ b33, fs31[2]? = some (.ref b33) ∧ ∃ n35 f36, w30[b33]? = some (.inl (.inl (n35, f36))) ∧ (¬ (r5 < 0 ∨ n35 ≤ r5.toNatClampNeg)) ∧ ∀ w39, w39 = w30.set b33 (.inl (.inl (n35, (upd f36 r5.toNatClampNeg i3)))) → r = (none, w39))) ∧ (¬ (¬ r5 = x8) → ∀ v40 : Int32, v40 = (x8 + (1 : Int32)) → (3 < fs6.length) ∧ ∀ w42, w42 = w3.set a0 (.inr (7, fs6.set 3 (.int v40))) → ∃ r45 w43, xCall 89 [.ref a0, .int r5] w42 (some (.int r45), w43) ∧ (r45 = 0 → r = (none, w43)) ∧ (¬ (r45 = 0) → ∃ fs46, w43[a0]? = some (.inr (7, fs46)) ∧ ∃ b48, fs46[0]? = some (.ref b48) ∧ ∃ n50 f51, w43[b48]? = some (.inl (.inl (n50, f51))) ∧ (¬ (r5 < 0 ∨ n50 ≤ r5.toNatClampNeg)) ∧ ∀ w54, w54 = w43.set b48 (.inl (.inl (n50, (upd f51 r5.toNatClampNeg i1)))) → ∃ fs55, w54[a0]? = some (.inr (7, fs55)) ∧ ∃ b57, fs55[1]? = some (.ref b57) ∧ ∃ n59 f60, w54[b57]? = some (.inl (.inl (n59, f60))) ∧ (¬ (r5 < 0 ∨ n59 ≤ r5.toNatClampNeg)) ∧ ∀ w63, w63 = w54.set b57 (.inl (.inl (n59, (upd f60 r5.toNatClampNeg i2)))) → ∃ fs64, w63[a0]? = some (.inr (7, fs64)) ∧ ∃ b66, fs64[2]? = some (.ref b66) ∧ ∃ n68 f69, w63[b66]? = some (.inl (.inl (n68, f69))) ∧ (¬ (r5 < 0 ∨ n68 ≤ r5.toNatClampNeg)) ∧ ∀ w72, w72 = w63.set b66 (.inl (.inl (n68, (upd f69 r5.toNatClampNeg i3)))) → r = (none, w72)))) ∧ (¬ (¬ r5 = (20 : Int32)) → ∃ fs73, w3[a0]? = some (.inr (7, fs73)) ∧ ∃ w75, xCall 88 [.ref a0] w3 (none, w75) ∧ ∃ fs77, w75[a0]? = some (.inr (7, fs77)) ∧ ∃ x79, fs77[3]? = some (.int x79) ∧ (¬ (19 : Int32) = x79 → ∃ r83 w81, xCall 89 [.ref a0, .int (19 : Int32)] w75 (some (.int r83), w81) ∧ (r83 = 0 → r = (none, w81)) ∧ (¬ (r83 = 0) → ∃ fs84, w81[a0]? = some (.inr (7, fs84)) ∧ ∃ b86, fs84[0]? = some (.ref b86) ∧ ∃ n88 f89, w81[b86]? = some (.inl (.inl (n88, f89))) ∧ (¬ ((19 : Int32) < 0 ∨ n88 ≤ (19 : Int32).toNatClampNeg)) ∧ ∀ w92, w92 = w81.set b86 (.inl (.inl (n88, (upd f89 (19 : Int32).toNatClampNeg i1)))) → ∃ fs93, w92[a0]? = some (.inr (7, fs93)) ∧ ∃ b95, fs93[1]? = some (.ref b95) ∧ ∃ n97 f98, w92[b95]? = some (.inl (.inl (n97, f98))) ∧ (¬ ((19 : Int32) < 0 ∨ n97 ≤ (19 : Int32).toNatClampNeg)) ∧ ∀ w101, w101 = w92.set b95 (.inl (.inl (n97, (upd f98 (19 : Int32).toNatClampNeg i2)))) → ∃ fs102, w101[a0]? = some (.inr (7, fs102)) ∧ ∃ b104, fs102[2]? = some (.ref b104) ∧ ∃ n106 f107, w101[b104]? = some (.inl (.inl (n106, f107))) ∧ (¬ ((19 : Int32) < 0 ∨ n106 ≤ (19 : Int32).toNatClampNeg)) ∧ ∀ w110, w110 = w101.set b104 (.inl (.inl (n106, (upd f107 (19 : Int32).toNatClampNeg i3)))) → r = (none, w110))) ∧ (¬ (¬ (19 : Int32) = x79) → ∀ v111 : Int32, v111 = (x79 + (1 : Int32)) → (3 < fs77.length) ∧ ∀ w113, w113 = w75.set a0 (.inr (7, fs77.set 3 (.int v111))) → ∃ r116 w114, xCall 89 [.ref a0, .int (19 : Int32)] w113 (some (.int r116), w114) ∧ (r116 = 0 → r = (none, w114)) ∧ (¬ (r116 = 0) → ∃ fs117, w114[a0]? = some (.inr (7, fs117)) ∧ ∃ b119, fs117[0]? = some (.ref b119) ∧ ∃ n121 f122, w114[b119]? = some (.inl (.inl (n121, f122))) ∧ (¬ ((19 : Int32) < 0 ∨ n121 ≤ (19 : Int32).toNatClampNeg)) ∧ ∀ w125, w125 = w114.set b119 (.inl (.inl (n121, (upd f122 (19 : Int32).toNatClampNeg i1)))) → ∃ fs126, w125[a0]? = some (.inr (7, fs126)) ∧ ∃ b128, fs126[1]? = some (.ref b128) ∧ ∃ n130 f131, w125[b128]? = some (.inl (.inl (n130, f131))) ∧ (¬ ((19 : Int32) < 0 ∨ n130 ≤ (19 : Int32).toNatClampNeg)) ∧ ∀ w134, w134 = w125.set b128 (.inl (.inl (n130, (upd f131 (19 : Int32).toNatClampNeg i2)))) → ∃ fs135, w134[a0]? = some (.inr (7, fs135)) ∧ ∃ b137, fs135[2]? = some (.ref b137) ∧ ∃ n139 f140, w134[b137]? = some (.inl (.inl (n139, f140))) ∧ (¬ ((19 : Int32) < 0 ∨ n139 ≤ (19 : Int32).toNatClampNeg)) ∧ ∀ w143, w143 = w134.set b137 (.inl (.inl (n139, (upd f140 (19 : Int32).toNatClampNeg i3)))) → r = (none, w143))))) : xGo 86 0 [some (.ref a0), some (.int i1), some (.int i2), some (.int i3), none] [] w r := by
  refine g_aloadn (pc' := 1) d_86_0 rfl rfl ?_
  refine g_iloadn (pc' := 2) d_86_1 rfl rfl ?_
  refine g_iloadn (pc' := 3) d_86_2 rfl rfl ?_
  obtain ⟨fs1, hw2, h⟩ := h
  obtain ⟨r5, w3, hk4, h⟩ := h
  refine g_callV (pc' := 6) d_86_3 rfl st_86_29 na_87 ml_87 rfl rfl rfl rm_86_87 rfl rfl ow_87 hw2 hk4 ?_
  refine g_istore (pc' := 8) (l' := [some (.ref a0), some (.int i1), some (.int i2), some (.int i3), some (.int r5)]) d_86_6 rfl ml_86 rfl rfl ?_
  refine g_iload (pc' := 10) d_86_8 rfl rfl ?_
  refine g_bipush (pc' := 12) d_86_10 rfl cb_20 ?_
  refine g_ic_ne (pc' := 15) (pt := 23) d_86_12 (by decide) rfl (fun c => ?_) (fun c => ?_)
  · replace h := h.1 c
    refine g_iload (pc' := 25) d_86_23 rfl rfl ?_
    refine g_aloadn (pc' := 26) d_86_25 rfl rfl ?_
    obtain ⟨fs6, hw7, h⟩ := h
    obtain ⟨x8, hv9, h⟩ := h
    refine g_getf (pc' := 29) d_86_26 rfl st_86_21 hw7 hv9 ?_
    refine g_ic_ne (pc' := 32) (pt := 42) d_86_29 (by decide) rfl (fun c => ?_) (fun c => ?_)
    · replace h := h.1 c
      refine g_aloadn (pc' := 43) d_86_42 rfl rfl ?_
      refine g_iload (pc' := 45) d_86_43 rfl rfl ?_
      obtain ⟨r12, w10, hk11, h⟩ := h
      refine g_callV (pc' := 48) d_86_45 rfl st_86_25 na_89 ml_89 rfl rfl rfl rm_86_89 rfl rfl ow_89 hw7 hk11 ?_
      refine g_if_eq (pc' := 51) (pt := 75) d_86_48 (by decide) rfl (fun c => ?_) (fun c => ?_)
      · replace h := h.1 c
        exact g_vret d_86_75 rt_86 h
      · replace h := h.2 c
        refine g_aloadn (pc' := 52) d_86_51 rfl rfl ?_
        obtain ⟨fs13, hw14, h⟩ := h
        obtain ⟨b15, hv16, h⟩ := h
        refine g_getf (pc' := 55) d_86_52 rfl st_86_11 hw14 hv16 ?_
        refine g_iload (pc' := 57) d_86_55 rfl rfl ?_
        refine g_iloadn (pc' := 58) d_86_57 rfl rfl ?_
        obtain ⟨n17, f18, hw19, h⟩ := h
        obtain ⟨hc20, h⟩ := h
        have h := h _ rfl
        refine g_iast (pc' := 59) d_86_58 rfl hw19 hc20 ?_
        refine g_aloadn (pc' := 60) d_86_59 rfl rfl ?_
        obtain ⟨fs22, hw23, h⟩ := h
        obtain ⟨b24, hv25, h⟩ := h
        refine g_getf (pc' := 63) d_86_60 rfl st_86_15 hw23 hv25 ?_
        refine g_iload (pc' := 65) d_86_63 rfl rfl ?_
        refine g_iloadn (pc' := 66) d_86_65 rfl rfl ?_
        obtain ⟨n26, f27, hw28, h⟩ := h
        obtain ⟨hc29, h⟩ := h
        have h := h _ rfl
        refine g_iast (pc' := 67) d_86_66 rfl hw28 hc29 ?_
        refine g_aloadn (pc' := 68) d_86_67 rfl rfl ?_
        obtain ⟨fs31, hw32, h⟩ := h
        obtain ⟨b33, hv34, h⟩ := h
        refine g_getf (pc' := 71) d_86_68 rfl st_86_18 hw32 hv34 ?_
        refine g_iload (pc' := 73) d_86_71 rfl rfl ?_
        refine g_iloadn (pc' := 74) d_86_73 rfl rfl ?_
        obtain ⟨n35, f36, hw37, h⟩ := h
        obtain ⟨hc38, h⟩ := h
        have h := h _ rfl
        refine g_iast (pc' := 75) d_86_74 rfl hw37 hc38 ?_
        exact g_vret d_86_75 rt_86 h
    · replace h := h.2 c
      refine g_aloadn (pc' := 33) d_86_32 rfl rfl ?_
      refine g_dup (pc' := 34) d_86_33 rfl rfl ?_
      refine g_getf (pc' := 37) d_86_34 rfl st_86_21 hw7 hv9 ?_
      refine g_iconst (pc' := 38) d_86_37 rfl ci_1 ?_
      refine g_iadd (pc' := 39) d_86_38 rfl ?_
      have h := h _ rfl
      obtain ⟨hc41, h⟩ := h
      have h := h _ rfl
      refine g_putf (pc' := 42) d_86_39 rfl st_86_21 ft_7_3 ff_7_3 rfl (Or.inl rfl) hw7 hc41 ?_
      refine g_aloadn (pc' := 43) d_86_42 rfl rfl ?_
      refine g_iload (pc' := 45) d_86_43 rfl rfl ?_
      obtain ⟨r45, w43, hk44, h⟩ := h
      refine g_callV (pc' := 48) d_86_45 rfl st_86_25 na_89 ml_89 rfl rfl rfl rm_86_89 rfl rfl ow_89 (x_gss hw7) hk44 ?_
      refine g_if_eq (pc' := 51) (pt := 75) d_86_48 (by decide) rfl (fun c => ?_) (fun c => ?_)
      · replace h := h.1 c
        exact g_vret d_86_75 rt_86 h
      · replace h := h.2 c
        refine g_aloadn (pc' := 52) d_86_51 rfl rfl ?_
        obtain ⟨fs46, hw47, h⟩ := h
        obtain ⟨b48, hv49, h⟩ := h
        refine g_getf (pc' := 55) d_86_52 rfl st_86_11 hw47 hv49 ?_
        refine g_iload (pc' := 57) d_86_55 rfl rfl ?_
        refine g_iloadn (pc' := 58) d_86_57 rfl rfl ?_
        obtain ⟨n50, f51, hw52, h⟩ := h
        obtain ⟨hc53, h⟩ := h
        have h := h _ rfl
        refine g_iast (pc' := 59) d_86_58 rfl hw52 hc53 ?_
        refine g_aloadn (pc' := 60) d_86_59 rfl rfl ?_
        obtain ⟨fs55, hw56, h⟩ := h
        obtain ⟨b57, hv58, h⟩ := h
        refine g_getf (pc' := 63) d_86_60 rfl st_86_15 hw56 hv58 ?_
        refine g_iload (pc' := 65) d_86_63 rfl rfl ?_
        refine g_iloadn (pc' := 66) d_86_65 rfl rfl ?_
        obtain ⟨n59, f60, hw61, h⟩ := h
        obtain ⟨hc62, h⟩ := h
        have h := h _ rfl
        refine g_iast (pc' := 67) d_86_66 rfl hw61 hc62 ?_
        refine g_aloadn (pc' := 68) d_86_67 rfl rfl ?_
        obtain ⟨fs64, hw65, h⟩ := h
        obtain ⟨b66, hv67, h⟩ := h
        refine g_getf (pc' := 71) d_86_68 rfl st_86_18 hw65 hv67 ?_
        refine g_iload (pc' := 73) d_86_71 rfl rfl ?_
        refine g_iloadn (pc' := 74) d_86_73 rfl rfl ?_
        obtain ⟨n68, f69, hw70, h⟩ := h
        obtain ⟨hc71, h⟩ := h
        have h := h _ rfl
        refine g_iast (pc' := 75) d_86_74 rfl hw70 hc71 ?_
        exact g_vret d_86_75 rt_86 h
  · replace h := h.2 c
    refine g_aloadn (pc' := 16) d_86_15 rfl rfl ?_
    obtain ⟨fs73, hw74, h⟩ := h
    obtain ⟨w75, hk76, h⟩ := h
    refine g_callV (pc' := 19) d_86_16 rfl st_86_33 na_88 ml_88 rfl rfl rfl rm_86_88 rfl rfl ow_88 hw74 hk76 ?_
    refine g_bipush (pc' := 21) d_86_19 rfl cb_19 ?_
    refine g_istore (pc' := 23) (l' := [some (.ref a0), some (.int i1), some (.int i2), some (.int i3), some (.int (19 : Int32))]) d_86_21 rfl ml_86 rfl rfl ?_
    refine g_iload (pc' := 25) d_86_23 rfl rfl ?_
    refine g_aloadn (pc' := 26) d_86_25 rfl rfl ?_
    obtain ⟨fs77, hw78, h⟩ := h
    obtain ⟨x79, hv80, h⟩ := h
    refine g_getf (pc' := 29) d_86_26 rfl st_86_21 hw78 hv80 ?_
    refine g_ic_ne (pc' := 32) (pt := 42) d_86_29 (by decide) rfl (fun c => ?_) (fun c => ?_)
    · replace h := h.1 c
      refine g_aloadn (pc' := 43) d_86_42 rfl rfl ?_
      refine g_iload (pc' := 45) d_86_43 rfl rfl ?_
      obtain ⟨r83, w81, hk82, h⟩ := h
      refine g_callV (pc' := 48) d_86_45 rfl st_86_25 na_89 ml_89 rfl rfl rfl rm_86_89 rfl rfl ow_89 hw78 hk82 ?_
      refine g_if_eq (pc' := 51) (pt := 75) d_86_48 (by decide) rfl (fun c => ?_) (fun c => ?_)
      · replace h := h.1 c
        exact g_vret d_86_75 rt_86 h
      · replace h := h.2 c
        refine g_aloadn (pc' := 52) d_86_51 rfl rfl ?_
        obtain ⟨fs84, hw85, h⟩ := h
        obtain ⟨b86, hv87, h⟩ := h
        refine g_getf (pc' := 55) d_86_52 rfl st_86_11 hw85 hv87 ?_
        refine g_iload (pc' := 57) d_86_55 rfl rfl ?_
        refine g_iloadn (pc' := 58) d_86_57 rfl rfl ?_
        obtain ⟨n88, f89, hw90, h⟩ := h
        obtain ⟨hc91, h⟩ := h
        have h := h _ rfl
        refine g_iast (pc' := 59) d_86_58 rfl hw90 hc91 ?_
        refine g_aloadn (pc' := 60) d_86_59 rfl rfl ?_
        obtain ⟨fs93, hw94, h⟩ := h
        obtain ⟨b95, hv96, h⟩ := h
        refine g_getf (pc' := 63) d_86_60 rfl st_86_15 hw94 hv96 ?_
        refine g_iload (pc' := 65) d_86_63 rfl rfl ?_
        refine g_iloadn (pc' := 66) d_86_65 rfl rfl ?_
        obtain ⟨n97, f98, hw99, h⟩ := h
        obtain ⟨hc100, h⟩ := h
        have h := h _ rfl
        refine g_iast (pc' := 67) d_86_66 rfl hw99 hc100 ?_
        refine g_aloadn (pc' := 68) d_86_67 rfl rfl ?_
        obtain ⟨fs102, hw103, h⟩ := h
        obtain ⟨b104, hv105, h⟩ := h
        refine g_getf (pc' := 71) d_86_68 rfl st_86_18 hw103 hv105 ?_
        refine g_iload (pc' := 73) d_86_71 rfl rfl ?_
        refine g_iloadn (pc' := 74) d_86_73 rfl rfl ?_
        obtain ⟨n106, f107, hw108, h⟩ := h
        obtain ⟨hc109, h⟩ := h
        have h := h _ rfl
        refine g_iast (pc' := 75) d_86_74 rfl hw108 hc109 ?_
        exact g_vret d_86_75 rt_86 h
    · replace h := h.2 c
      refine g_aloadn (pc' := 33) d_86_32 rfl rfl ?_
      refine g_dup (pc' := 34) d_86_33 rfl rfl ?_
      refine g_getf (pc' := 37) d_86_34 rfl st_86_21 hw78 hv80 ?_
      refine g_iconst (pc' := 38) d_86_37 rfl ci_1 ?_
      refine g_iadd (pc' := 39) d_86_38 rfl ?_
      have h := h _ rfl
      obtain ⟨hc112, h⟩ := h
      have h := h _ rfl
      refine g_putf (pc' := 42) d_86_39 rfl st_86_21 ft_7_3 ff_7_3 rfl (Or.inl rfl) hw78 hc112 ?_
      refine g_aloadn (pc' := 43) d_86_42 rfl rfl ?_
      refine g_iload (pc' := 45) d_86_43 rfl rfl ?_
      obtain ⟨r116, w114, hk115, h⟩ := h
      refine g_callV (pc' := 48) d_86_45 rfl st_86_25 na_89 ml_89 rfl rfl rfl rm_86_89 rfl rfl ow_89 (x_gss hw78) hk115 ?_
      refine g_if_eq (pc' := 51) (pt := 75) d_86_48 (by decide) rfl (fun c => ?_) (fun c => ?_)
      · replace h := h.1 c
        exact g_vret d_86_75 rt_86 h
      · replace h := h.2 c
        refine g_aloadn (pc' := 52) d_86_51 rfl rfl ?_
        obtain ⟨fs117, hw118, h⟩ := h
        obtain ⟨b119, hv120, h⟩ := h
        refine g_getf (pc' := 55) d_86_52 rfl st_86_11 hw118 hv120 ?_
        refine g_iload (pc' := 57) d_86_55 rfl rfl ?_
        refine g_iloadn (pc' := 58) d_86_57 rfl rfl ?_
        obtain ⟨n121, f122, hw123, h⟩ := h
        obtain ⟨hc124, h⟩ := h
        have h := h _ rfl
        refine g_iast (pc' := 59) d_86_58 rfl hw123 hc124 ?_
        refine g_aloadn (pc' := 60) d_86_59 rfl rfl ?_
        obtain ⟨fs126, hw127, h⟩ := h
        obtain ⟨b128, hv129, h⟩ := h
        refine g_getf (pc' := 63) d_86_60 rfl st_86_15 hw127 hv129 ?_
        refine g_iload (pc' := 65) d_86_63 rfl rfl ?_
        refine g_iloadn (pc' := 66) d_86_65 rfl rfl ?_
        obtain ⟨n130, f131, hw132, h⟩ := h
        obtain ⟨hc133, h⟩ := h
        have h := h _ rfl
        refine g_iast (pc' := 67) d_86_66 rfl hw132 hc133 ?_
        refine g_aloadn (pc' := 68) d_86_67 rfl rfl ?_
        obtain ⟨fs135, hw136, h⟩ := h
        obtain ⟨b137, hv138, h⟩ := h
        refine g_getf (pc' := 71) d_86_68 rfl st_86_18 hw136 hv138 ?_
        refine g_iload (pc' := 73) d_86_71 rfl rfl ?_
        refine g_iloadn (pc' := 74) d_86_73 rfl rfl ?_
        obtain ⟨n139, f140, hw141, h⟩ := h
        obtain ⟨hc142, h⟩ := h
        have h := h _ rfl
        refine g_iast (pc' := 75) d_86_74 rfl hw141 hc142 ?_
        exact g_vret d_86_75 rt_86 h
-- 87 BernoulliWays$Memo.placeOf(II)I
theorem S_87_0 {a0 : Nat} {i1 : Int32} {i2 : Int32} {w : xW} {r : Option Value × xW} (h : xGo 87 2 [some (.ref a0), some (.int i1), some (.int i2), some (.int (0 : Int32))] [] w r) : xGo 87 0 [some (.ref a0), some (.int i1), some (.int i2), none] [] w r := by
  refine g_iconst (pc' := 1) d_87_0 rfl ci_0 ?_
  refine g_istoren (pc' := 2) (l' := [some (.ref a0), some (.int i1), some (.int i2), some (.int (0 : Int32))]) d_87_1 rfl ml_87 rfl rfl ?_
  exact h
theorem S_87_2 {a0 : Nat} {i1 : Int32} {i2 : Int32} {i3 : Int32} {w : xW} {r : Option Value × xW} (h : ∃ fs1, w[a0]? = some (.inr (7, fs1)) ∧ ∃ x3, fs1[3]? = some (.int x3) ∧ (x3 ≤ i3 → r = (some (.int x3), w)) ∧ (¬ (x3 ≤ i3) → ((20 : Int32) ≤ i3 → r = (some (.int x3), w)) ∧ (¬ ((20 : Int32) ≤ i3) → ∃ b5, fs1[0]? = some (.ref b5) ∧ ∃ n7 f8, w[b5]? = some (.inl (.inl (n7, f8))) ∧ (¬ (i3 < 0 ∨ n7 ≤ i3.toNatClampNeg)) ∧ (¬ (f8 i3.toNatClampNeg) = i1 → ∀ v11 : Int32, v11 = i3 + (1 : Int32) → xGo 87 2 [some (.ref a0), some (.int i1), some (.int i2), some (.int v11)] [] w r) ∧ (¬ (¬ (f8 i3.toNatClampNeg) = i1) → ∃ b12, fs1[1]? = some (.ref b12) ∧ ∃ n14 f15, w[b12]? = some (.inl (.inl (n14, f15))) ∧ (¬ (i3 < 0 ∨ n14 ≤ i3.toNatClampNeg)) ∧ (¬ (f15 i3.toNatClampNeg) = i2 → ∀ v18 : Int32, v18 = i3 + (1 : Int32) → xGo 87 2 [some (.ref a0), some (.int i1), some (.int i2), some (.int v18)] [] w r) ∧ (¬ (¬ (f15 i3.toNatClampNeg) = i2) → r = (some (.int i3), w)))))) : xGo 87 2 [some (.ref a0), some (.int i1), some (.int i2), some (.int i3)] [] w r := by
  refine g_iloadn (pc' := 3) d_87_2 rfl rfl ?_
  refine g_aloadn (pc' := 4) d_87_3 rfl rfl ?_
  obtain ⟨fs1, hw2, h⟩ := h
  obtain ⟨x3, hv4, h⟩ := h
  refine g_getf (pc' := 7) d_87_4 rfl st_87_21 hw2 hv4 ?_
  refine g_ic_ge (pc' := 10) (pt := 44) d_87_7 (by decide) rfl (fun c => ?_) (fun c => ?_)
  · replace h := h.1 c
    refine g_aloadn (pc' := 45) d_87_44 rfl rfl ?_
    refine g_getf (pc' := 48) d_87_45 rfl st_87_21 hw2 hv4 ?_
    exact g_iret d_87_48 rt_87 h
  · replace h := h.2 c
    refine g_iloadn (pc' := 11) d_87_10 rfl rfl ?_
    refine g_bipush (pc' := 13) d_87_11 rfl cb_20 ?_
    refine g_ic_ge (pc' := 16) (pt := 44) d_87_13 (by decide) rfl (fun c => ?_) (fun c => ?_)
    · replace h := h.1 c
      refine g_aloadn (pc' := 45) d_87_44 rfl rfl ?_
      refine g_getf (pc' := 48) d_87_45 rfl st_87_21 hw2 hv4 ?_
      exact g_iret d_87_48 rt_87 h
    · replace h := h.2 c
      refine g_aloadn (pc' := 17) d_87_16 rfl rfl ?_
      obtain ⟨b5, hv6, h⟩ := h
      refine g_getf (pc' := 20) d_87_17 rfl st_87_11 hw2 hv6 ?_
      refine g_iloadn (pc' := 21) d_87_20 rfl rfl ?_
      obtain ⟨n7, f8, hw9, h⟩ := h
      obtain ⟨hc10, h⟩ := h
      refine g_iald (pc' := 22) d_87_21 rfl hw9 hc10 ?_
      refine g_iloadn (pc' := 23) d_87_22 rfl rfl ?_
      refine g_ic_ne (pc' := 26) (pt := 38) d_87_23 (by decide) rfl (fun c => ?_) (fun c => ?_)
      · replace h := h.1 c
        have h := h _ rfl
        refine g_iinc (pc' := 41) (l' := [some (.ref a0), some (.int i1), some (.int i2), some (.int (i3 + (1 : Int32)))]) d_87_38 rfl rfl ci_1 ml_87 rfl rfl ?_
        refine g_goto (pt := 2) d_87_41 (by decide) ?_
        exact h
      · replace h := h.2 c
        refine g_aloadn (pc' := 27) d_87_26 rfl rfl ?_
        obtain ⟨b12, hv13, h⟩ := h
        refine g_getf (pc' := 30) d_87_27 rfl st_87_15 hw2 hv13 ?_
        refine g_iloadn (pc' := 31) d_87_30 rfl rfl ?_
        obtain ⟨n14, f15, hw16, h⟩ := h
        obtain ⟨hc17, h⟩ := h
        refine g_iald (pc' := 32) d_87_31 rfl hw16 hc17 ?_
        refine g_iloadn (pc' := 33) d_87_32 rfl rfl ?_
        refine g_ic_ne (pc' := 36) (pt := 38) d_87_33 (by decide) rfl (fun c => ?_) (fun c => ?_)
        · replace h := h.1 c
          have h := h _ rfl
          refine g_iinc (pc' := 41) (l' := [some (.ref a0), some (.int i1), some (.int i2), some (.int (i3 + (1 : Int32)))]) d_87_38 rfl rfl ci_1 ml_87 rfl rfl ?_
          refine g_goto (pt := 2) d_87_41 (by decide) ?_
          exact h
        · replace h := h.2 c
          refine g_iloadn (pc' := 37) d_87_36 rfl rfl ?_
          exact g_iret d_87_37 rt_87 h
-- 88 BernoulliWays$Memo.dropEldest()V
theorem S_88_0 {a0 : Nat} {w : xW} {r : Option Value × xW} (h : ∃ fs1, w[a0]? = some (.inr (7, fs1)) ∧ ∃ b3, fs1[0]? = some (.ref b3) ∧ ∃ n5 f6, w[b3]? = some (.inl (.inl (n5, f6))) ∧ (¬ (19 : Int32) < 0 ∧ ¬ (0 : Int32) < 0 ∧ ¬ (1 : Int32) < 0) ∧ ((1 : Int32).toNatClampNeg + (19 : Int32).toNatClampNeg ≤ n5 ∧ (0 : Int32).toNatClampNeg + (19 : Int32).toNatClampNeg ≤ n5) ∧ ∀ w10, w10 = w.set b3 (.inl (.inl (n5, (va_cpy f6 f6 (1 : Int32).toNatClampNeg (0 : Int32).toNatClampNeg (19 : Int32).toNatClampNeg)))) → ∃ fs11, w10[a0]? = some (.inr (7, fs11)) ∧ ∃ b13, fs11[1]? = some (.ref b13) ∧ ∃ n15 f16, w10[b13]? = some (.inl (.inl (n15, f16))) ∧ (¬ (19 : Int32) < 0 ∧ ¬ (0 : Int32) < 0 ∧ ¬ (1 : Int32) < 0) ∧ ((1 : Int32).toNatClampNeg + (19 : Int32).toNatClampNeg ≤ n15 ∧ (0 : Int32).toNatClampNeg + (19 : Int32).toNatClampNeg ≤ n15) ∧ ∀ w20, w20 = w10.set b13 (.inl (.inl (n15, (va_cpy f16 f16 (1 : Int32).toNatClampNeg (0 : Int32).toNatClampNeg (19 : Int32).toNatClampNeg)))) → ∃ fs21, w20[a0]? = some (.inr (7, fs21)) ∧ ∃ b23, fs21[2]? = some (.ref b23) ∧ ∃ n25 f26, w20[b23]? = some (.inl (.inl (n25, f26))) ∧ (¬ (19 : Int32) < 0 ∧ ¬ (0 : Int32) < 0 ∧ ¬ (1 : Int32) < 0) ∧ ((1 : Int32).toNatClampNeg + (19 : Int32).toNatClampNeg ≤ n25 ∧ (0 : Int32).toNatClampNeg + (19 : Int32).toNatClampNeg ≤ n25) ∧ ∀ w30, w30 = w20.set b23 (.inl (.inl (n25, (va_cpy f26 f26 (1 : Int32).toNatClampNeg (0 : Int32).toNatClampNeg (19 : Int32).toNatClampNeg)))) → ∃ fs31, w30[a0]? = some (.inr (7, fs31)) ∧ (3 < fs31.length) ∧ ∀ w34, w34 = w30.set a0 (.inr (7, fs31.set 3 (.int (19 : Int32)))) → r = (none, w34)) : xGo 88 0 [some (.ref a0)] [] w r := by
  refine g_aloadn (pc' := 1) d_88_0 rfl rfl ?_
  obtain ⟨fs1, hw2, h⟩ := h
  obtain ⟨b3, hv4, h⟩ := h
  refine g_getf (pc' := 4) d_88_1 rfl st_88_11 hw2 hv4 ?_
  refine g_iconst (pc' := 5) d_88_4 rfl ci_1 ?_
  refine g_aloadn (pc' := 6) d_88_5 rfl rfl ?_
  refine g_getf (pc' := 9) d_88_6 rfl st_88_11 hw2 hv4 ?_
  refine g_iconst (pc' := 10) d_88_9 rfl ci_0 ?_
  refine g_bipush (pc' := 12) d_88_10 rfl cb_19 ?_
  obtain ⟨n5, f6, hw7, h⟩ := h
  obtain ⟨hc8, h⟩ := h
  obtain ⟨hc9, h⟩ := h
  have h := h _ rfl
  refine g_cpyi (pc' := 15) d_88_12 rfl st_88_36 fr_88 lo_88 rfl hc8 hw7 hw7 hc9 ?_
  refine g_aloadn (pc' := 16) d_88_15 rfl rfl ?_
  obtain ⟨fs11, hw12, h⟩ := h
  obtain ⟨b13, hv14, h⟩ := h
  refine g_getf (pc' := 19) d_88_16 rfl st_88_15 hw12 hv14 ?_
  refine g_iconst (pc' := 20) d_88_19 rfl ci_1 ?_
  refine g_aloadn (pc' := 21) d_88_20 rfl rfl ?_
  refine g_getf (pc' := 24) d_88_21 rfl st_88_15 hw12 hv14 ?_
  refine g_iconst (pc' := 25) d_88_24 rfl ci_0 ?_
  refine g_bipush (pc' := 27) d_88_25 rfl cb_19 ?_
  obtain ⟨n15, f16, hw17, h⟩ := h
  obtain ⟨hc18, h⟩ := h
  obtain ⟨hc19, h⟩ := h
  have h := h _ rfl
  refine g_cpyi (pc' := 30) d_88_27 rfl st_88_36 fr_88 lo_88 rfl hc18 hw17 hw17 hc19 ?_
  refine g_aloadn (pc' := 31) d_88_30 rfl rfl ?_
  obtain ⟨fs21, hw22, h⟩ := h
  obtain ⟨b23, hv24, h⟩ := h
  refine g_getf (pc' := 34) d_88_31 rfl st_88_18 hw22 hv24 ?_
  refine g_iconst (pc' := 35) d_88_34 rfl ci_1 ?_
  refine g_aloadn (pc' := 36) d_88_35 rfl rfl ?_
  refine g_getf (pc' := 39) d_88_36 rfl st_88_18 hw22 hv24 ?_
  refine g_iconst (pc' := 40) d_88_39 rfl ci_0 ?_
  refine g_bipush (pc' := 42) d_88_40 rfl cb_19 ?_
  obtain ⟨n25, f26, hw27, h⟩ := h
  obtain ⟨hc28, h⟩ := h
  obtain ⟨hc29, h⟩ := h
  have h := h _ rfl
  refine g_cpyi (pc' := 45) d_88_42 rfl st_88_36 fr_88 lo_88 rfl hc28 hw27 hw27 hc29 ?_
  refine g_aloadn (pc' := 46) d_88_45 rfl rfl ?_
  refine g_bipush (pc' := 48) d_88_46 rfl cb_19 ?_
  obtain ⟨fs31, hw32, h⟩ := h
  obtain ⟨hc33, h⟩ := h
  have h := h _ rfl
  refine g_putf (pc' := 51) d_88_48 rfl st_88_21 ft_7_3 ff_7_3 rfl (Or.inl rfl) hw32 hc33 ?_
  exact g_vret d_88_51 rt_88 h
-- 89 BernoulliWays$Memo.fits(I)Z
theorem S_89_0 {a0 : Nat} {i1 : Int32} {w : xW} {r : Option Value × xW} (h : (i1 < 0 → r = (some (.int (0 : Int32)), w)) ∧ (¬ (i1 < 0) → ∃ fs1, w[a0]? = some (.inr (7, fs1)) ∧ ∃ x3, fs1[3]? = some (.int x3) ∧ (x3 ≤ i1 → r = (some (.int (0 : Int32)), w)) ∧ (¬ (x3 ≤ i1) → ((20 : Int32) ≤ i1 → r = (some (.int (0 : Int32)), w)) ∧ (¬ ((20 : Int32) ≤ i1) → r = (some (.int (1 : Int32)), w))))) : xGo 89 0 [some (.ref a0), some (.int i1)] [] w r := by
  refine g_iloadn (pc' := 1) d_89_0 rfl rfl ?_
  refine g_if_lt (pc' := 4) (pt := 22) d_89_1 (by decide) rfl (fun c => ?_) (fun c => ?_)
  · replace h := h.1 c
    refine g_iconst (pc' := 23) d_89_22 rfl ci_0 ?_
    exact g_zret d_89_23 rt_89 (Or.inl rfl) h
  · replace h := h.2 c
    refine g_iloadn (pc' := 5) d_89_4 rfl rfl ?_
    refine g_aloadn (pc' := 6) d_89_5 rfl rfl ?_
    obtain ⟨fs1, hw2, h⟩ := h
    obtain ⟨x3, hv4, h⟩ := h
    refine g_getf (pc' := 9) d_89_6 rfl st_89_21 hw2 hv4 ?_
    refine g_ic_ge (pc' := 12) (pt := 22) d_89_9 (by decide) rfl (fun c => ?_) (fun c => ?_)
    · replace h := h.1 c
      refine g_iconst (pc' := 23) d_89_22 rfl ci_0 ?_
      exact g_zret d_89_23 rt_89 (Or.inl rfl) h
    · replace h := h.2 c
      refine g_iloadn (pc' := 13) d_89_12 rfl rfl ?_
      refine g_bipush (pc' := 15) d_89_13 rfl cb_20 ?_
      refine g_ic_ge (pc' := 18) (pt := 22) d_89_15 (by decide) rfl (fun c => ?_) (fun c => ?_)
      · replace h := h.1 c
        refine g_iconst (pc' := 23) d_89_22 rfl ci_0 ?_
        exact g_zret d_89_23 rt_89 (Or.inl rfl) h
      · replace h := h.2 c
        refine g_iconst (pc' := 19) d_89_18 rfl ci_1 ?_
        refine g_goto (pt := 23) d_89_19 (by decide) ?_
        exact g_zret d_89_23 rt_89 (Or.inr rfl) h
-- 90 BernoulliWays.byPowers(II)I
theorem S_90_0 {a0 : Nat} {i1 : Int32} {i2 : Int32} {w : xW} {r : Option Value × xW} (h : ∃ r3 w1, xCall 24 [.int i1] w (some (.int r3), w1) ∧ (r3 = 0 → r = (some (.int (-1 : Int32)), w1)) ∧ (¬ (r3 = 0) → ∃ r6 w4, xCall 84 [.int i2] w1 (some (.int r6), w4) ∧ (¬ r6 = 0 → ∃ r9 w7, xCall 47 [.int i1] w4 (some (.int r9), w7) ∧ (r9 = 0 → r = (some (.int (-3 : Int32)), w7)) ∧ (¬ (r9 = 0) → (¬ (i2 - (1 : Int32)) = 0) ∧ (¬ (irem i1 (i2 - (1 : Int32))) = 0 → ∃ r13 w11, xCall 91 [.int i1, .int i2] w7 (some (.long r13), w11) ∧ r = (some (.int (r13.toInt32)), w11)) ∧ (¬ (¬ (irem i1 (i2 - (1 : Int32))) = 0) → r = (some (.int (-3 : Int32)), w7)))) ∧ (¬ (¬ r6 = 0) → r = (some (.int (-1 : Int32)), w4)))) : xGo 90 0 [some (.ref a0), some (.int i1), some (.int i2)] [] w r := by
  refine g_iloadn (pc' := 1) d_90_0 rfl rfl ?_
  obtain ⟨r3, w1, hk2, h⟩ := h
  refine g_callS (pc' := 4) d_90_1 rfl st_90_120 (Or.inl rfl) na_24 ml_24 rfl rfl rfl rm_90_24 rfl rfl hk2 ?_
  refine g_if_eq (pc' := 7) (pt := 14) d_90_4 (by decide) rfl (fun c => ?_) (fun c => ?_)
  · replace h := h.1 c
    refine g_iconst (pc' := 15) d_90_14 rfl ci_m1 ?_
    exact g_iret d_90_15 rt_90 h
  · replace h := h.2 c
    refine g_iloadn (pc' := 8) d_90_7 rfl rfl ?_
    obtain ⟨r6, w4, hk5, h⟩ := h
    refine g_callS (pc' := 11) d_90_8 rfl st_90_222 (Or.inl rfl) na_84 ml_84 rfl rfl rfl rm_90_84 rfl rfl hk5 ?_
    refine g_if_ne (pc' := 14) (pt := 16) d_90_11 (by decide) rfl (fun c => ?_) (fun c => ?_)
    · replace h := h.1 c
      refine g_iloadn (pc' := 17) d_90_16 rfl rfl ?_
      obtain ⟨r9, w7, hk8, h⟩ := h
      refine g_callS (pc' := 20) d_90_17 rfl st_90_190 (Or.inl rfl) na_47 ml_47 rfl rfl rfl rm_90_47 rfl rfl hk8 ?_
      refine g_if_eq (pc' := 23) (pt := 31) d_90_20 (by decide) rfl (fun c => ?_) (fun c => ?_)
      · replace h := h.1 c
        refine g_bipush (pc' := 33) d_90_31 rfl cb_m3 ?_
        exact g_iret d_90_33 rt_90 h
      · replace h := h.2 c
        refine g_iloadn (pc' := 24) d_90_23 rfl rfl ?_
        refine g_iloadn (pc' := 25) d_90_24 rfl rfl ?_
        refine g_iconst (pc' := 26) d_90_25 rfl ci_1 ?_
        refine g_isub (pc' := 27) d_90_26 rfl ?_
        obtain ⟨hc10, h⟩ := h
        refine g_irem (pc' := 28) d_90_27 rfl hc10 ?_
        refine g_if_ne (pc' := 31) (pt := 34) d_90_28 (by decide) rfl (fun c => ?_) (fun c => ?_)
        · replace h := h.1 c
          refine g_iloadn (pc' := 35) d_90_34 rfl rfl ?_
          refine g_iloadn (pc' := 36) d_90_35 rfl rfl ?_
          obtain ⟨r13, w11, hk12, h⟩ := h
          refine g_callS (pc' := 39) d_90_36 rfl st_90_232 (Or.inl rfl) na_91 ml_91 rfl rfl rfl rm_90_91 rfl rfl hk12 ?_
          refine g_l2i (pc' := 40) d_90_39 rfl ?_
          exact g_iret d_90_40 rt_90 h
        · replace h := h.2 c
          refine g_bipush (pc' := 33) d_90_31 rfl cb_m3 ?_
          exact g_iret d_90_33 rt_90 h
    · replace h := h.2 c
      refine g_iconst (pc' := 15) d_90_14 rfl ci_m1 ?_
      exact g_iret d_90_15 rt_90 h
-- 91 BernoulliWays$Modulo.byPowerSum(II)J
theorem S_91_0 {i0 : Int32} {i1 : Int32} {w : xW} {r : Option Value × xW} (h : (i1 ≤ 0 → r = (some (.long (0 : Int64)), w)) ∧ (¬ (i1 ≤ 0) → ∃ r3 w1, xCall 49 [.int i0, .int i1, .long ((i1.toInt64) * (i1.toInt64))] w (some (.long r3), w1) ∧ (¬ (i1.toInt64) = 0) ∧ r = (some (.long (r3 / (i1.toInt64))), w1))) : xGo 91 0 [some (.int i0), some (.int i1)] [] w r := by
  refine g_iloadn (pc' := 1) d_91_0 rfl rfl ?_
  refine g_if_le (pc' := 4) (pt := 20) d_91_1 (by decide) rfl (fun c => ?_) (fun c => ?_)
  · replace h := h.1 c
    refine g_lconst (pc' := 21) d_91_20 rfl cl_0 ?_
    exact g_lret d_91_21 rt_91 h
  · replace h := h.2 c
    refine g_iloadn (pc' := 5) d_91_4 rfl rfl ?_
    refine g_iloadn (pc' := 6) d_91_5 rfl rfl ?_
    refine g_iloadn (pc' := 7) d_91_6 rfl rfl ?_
    refine g_i2l (pc' := 8) d_91_7 rfl ?_
    refine g_iloadn (pc' := 9) d_91_8 rfl rfl ?_
    refine g_i2l (pc' := 10) d_91_9 rfl ?_
    refine g_lmul (pc' := 11) d_91_10 rfl ?_
    obtain ⟨r3, w1, hk2, h⟩ := h
    refine g_callS (pc' := 14) d_91_11 rfl st_91_19 (Or.inl rfl) na_49 ml_49 rfl rfl rfl rm_91_49 rfl rfl hk2 ?_
    refine g_iloadn (pc' := 15) d_91_14 rfl rfl ?_
    refine g_i2l (pc' := 16) d_91_15 rfl ?_
    obtain ⟨hc4, h⟩ := h
    refine g_ldiv (pc' := 17) d_91_16 rfl hc4 ?_
    refine g_goto (pt := 21) d_91_17 (by decide) ?_
    exact g_lret d_91_21 rt_91 h
-- 92 BernoulliWays.memo(II)I
theorem S_92_0 {a0 : Nat} {i1 : Int32} {i2 : Int32} {w : xW} {r : Option Value × xW} (h : (i1 < 0 → r = (some (.int (-1 : Int32)), w)) ∧ (¬ (i1 < 0) → (i2 < 0 → r = (some (.int (-1 : Int32)), w)) ∧ (¬ (i2 < 0) → (i2 ≤ (3 : Int32) → ∃ fs1, w[a0]? = some (.inr (0, fs1)) ∧ ∃ b3, fs1[9]? = some (.ref b3) ∧ ∃ fs5, w[b3]? = some (.inr (7, fs5)) ∧ ∃ r9 w7, xCall 93 [.ref b3] w (some (.int r9), w7) ∧ (i1 < r9 → (i2 = (0 : Int32) → ∃ fs10, w7[a0]? = some (.inr (0, fs10)) ∧ ∃ b12, fs10[9]? = some (.ref b12) ∧ ∃ fs14, w7[b12]? = some (.inr (7, fs14)) ∧ ∃ r18 w16, xCall 94 [.ref b12, .int i1] w7 (some (.int r18), w16) ∧ r = (some (.int r18), w16)) ∧ (i2 = (1 : Int32) → ∃ fs19, w7[a0]? = some (.inr (0, fs19)) ∧ ∃ b21, fs19[9]? = some (.ref b21) ∧ ∃ fs23, w7[b21]? = some (.inr (7, fs23)) ∧ ∃ r27 w25, xCall 95 [.ref b21, .int i1] w7 (some (.int r27), w25) ∧ r = (some (.int r27), w25)) ∧ (i2 = (2 : Int32) → ∃ fs28, w7[a0]? = some (.inr (0, fs28)) ∧ ∃ b30, fs28[9]? = some (.ref b30) ∧ ∃ fs32, w7[b30]? = some (.inr (7, fs32)) ∧ ∃ r36 w34, xCall 96 [.ref b30, .int i1] w7 (some (.int r36), w34) ∧ r = (some (.int r36), w34)) ∧ (i2.toInt < 0 ∨ 2 < i2.toInt → ∃ fs37, w7[a0]? = some (.inr (0, fs37)) ∧ ∃ r41 w39, xCall 97 [.ref a0, .int i1] w7 (some (.int r41), w39) ∧ (r41 = 0 → r = (some (.int (0 : Int32)), w39)) ∧ (¬ (r41 = 0) → r = (some (.int (1 : Int32)), w39)))) ∧ (¬ (i1 < r9) → r = (some (.int (-2 : Int32)), w7))) ∧ (¬ (i2 ≤ (3 : Int32)) → r = (some (.int (-1 : Int32)), w))))) : xGo 92 0 [some (.ref a0), some (.int i1), some (.int i2)] [] w r := by
  refine g_iloadn (pc' := 1) d_92_0 rfl rfl ?_
  refine g_if_lt (pc' := 4) (pt := 13) d_92_1 (by decide) rfl (fun c => ?_) (fun c => ?_)
  · replace h := h.1 c
    refine g_iconst (pc' := 14) d_92_13 rfl ci_m1 ?_
    exact g_iret d_92_14 rt_92 h
  · replace h := h.2 c
    refine g_iloadn (pc' := 5) d_92_4 rfl rfl ?_
    refine g_if_lt (pc' := 8) (pt := 13) d_92_5 (by decide) rfl (fun c => ?_) (fun c => ?_)
    · replace h := h.1 c
      refine g_iconst (pc' := 14) d_92_13 rfl ci_m1 ?_
      exact g_iret d_92_14 rt_92 h
    · replace h := h.2 c
      refine g_iloadn (pc' := 9) d_92_8 rfl rfl ?_
      refine g_iconst (pc' := 10) d_92_9 rfl ci_3 ?_
      refine g_ic_le (pc' := 13) (pt := 15) d_92_10 (by decide) rfl (fun c => ?_) (fun c => ?_)
      · replace h := h.1 c
        refine g_iloadn (pc' := 16) d_92_15 rfl rfl ?_
        refine g_aloadn (pc' := 17) d_92_16 rfl rfl ?_
        obtain ⟨fs1, hw2, h⟩ := h
        obtain ⟨b3, hv4, h⟩ := h
        refine g_getf (pc' := 20) d_92_17 rfl st_92_65 hw2 hv4 ?_
        obtain ⟨fs5, hw6, h⟩ := h
        obtain ⟨r9, w7, hk8, h⟩ := h
        refine g_callV (pc' := 23) d_92_20 rfl st_92_238 na_93 ml_93 rfl rfl rfl rm_92_93 rfl rfl ow_93 hw6 hk8 ?_
        refine g_ic_lt (pc' := 26) (pt := 29) d_92_23 (by decide) rfl (fun c => ?_) (fun c => ?_)
        · replace h := h.1 c
          refine g_iloadn (pc' := 30) d_92_29 rfl rfl ?_
          by_cases hx0 : i2 = (0 : Int32)
          · replace h := h.1 hx0
            refine g_tswIn (pt := 56) d_92_30 (by rw [hx0]; decide) (off := 26) (by rw [hx0]; rfl) (by decide) ?_
            refine g_aloadn (pc' := 57) d_92_56 rfl rfl ?_
            obtain ⟨fs10, hw11, h⟩ := h
            obtain ⟨b12, hv13, h⟩ := h
            refine g_getf (pc' := 60) d_92_57 rfl st_92_65 hw11 hv13 ?_
            refine g_iloadn (pc' := 61) d_92_60 rfl rfl ?_
            obtain ⟨fs14, hw15, h⟩ := h
            obtain ⟨r18, w16, hk17, h⟩ := h
            refine g_callV (pc' := 64) d_92_61 rfl st_92_242 na_94 ml_94 rfl rfl rfl rm_92_94 rfl rfl ow_94 hw15 hk17 ?_
            exact g_iret d_92_64 rt_92 h
          by_cases hx1 : i2 = (1 : Int32)
          · replace h := h.2.1 hx1
            refine g_tswIn (pt := 65) d_92_30 (by rw [hx1]; decide) (off := 35) (by rw [hx1]; rfl) (by decide) ?_
            refine g_aloadn (pc' := 66) d_92_65 rfl rfl ?_
            obtain ⟨fs19, hw20, h⟩ := h
            obtain ⟨b21, hv22, h⟩ := h
            refine g_getf (pc' := 69) d_92_66 rfl st_92_65 hw20 hv22 ?_
            refine g_iloadn (pc' := 70) d_92_69 rfl rfl ?_
            obtain ⟨fs23, hw24, h⟩ := h
            obtain ⟨r27, w25, hk26, h⟩ := h
            refine g_callV (pc' := 73) d_92_70 rfl st_92_246 na_95 ml_95 rfl rfl rfl rm_92_95 rfl rfl ow_95 hw24 hk26 ?_
            exact g_iret d_92_73 rt_92 h
          by_cases hx2 : i2 = (2 : Int32)
          · replace h := h.2.2.1 hx2
            refine g_tswIn (pt := 74) d_92_30 (by rw [hx2]; decide) (off := 44) (by rw [hx2]; rfl) (by decide) ?_
            refine g_aloadn (pc' := 75) d_92_74 rfl rfl ?_
            obtain ⟨fs28, hw29, h⟩ := h
            obtain ⟨b30, hv31, h⟩ := h
            refine g_getf (pc' := 78) d_92_75 rfl st_92_65 hw29 hv31 ?_
            refine g_iloadn (pc' := 79) d_92_78 rfl rfl ?_
            obtain ⟨fs32, hw33, h⟩ := h
            obtain ⟨r36, w34, hk35, h⟩ := h
            refine g_callV (pc' := 82) d_92_79 rfl st_92_249 na_96 ml_96 rfl rfl rfl rm_92_96 rfl rfl ow_96 hw33 hk35 ?_
            exact g_iret d_92_82 rt_92 h
          · have hout : (i2).toInt < 0 ∨ 2 < (i2).toInt := x_out3 hx0 hx1 hx2
            replace h := h.2.2.2 hout
            refine g_tswOut (pt := 83) d_92_30 hout (by decide) ?_
            refine g_aloadn (pc' := 84) d_92_83 rfl rfl ?_
            refine g_iloadn (pc' := 85) d_92_84 rfl rfl ?_
            obtain ⟨fs37, hw38, h⟩ := h
            obtain ⟨r41, w39, hk40, h⟩ := h
            refine g_callV (pc' := 88) d_92_85 rfl st_92_252 na_97 ml_97 rfl rfl rfl rm_92_97 rfl rfl ow_97 hw38 hk40 ?_
            refine g_if_eq (pc' := 91) (pt := 95) d_92_88 (by decide) rfl (fun c => ?_) (fun c => ?_)
            · replace h := h.1 c
              refine g_iconst (pc' := 96) d_92_95 rfl ci_0 ?_
              exact g_iret d_92_96 rt_92 h
            · replace h := h.2 c
              refine g_iconst (pc' := 92) d_92_91 rfl ci_1 ?_
              refine g_goto (pt := 96) d_92_92 (by decide) ?_
              exact g_iret d_92_96 rt_92 h
        · replace h := h.2 c
          refine g_bipush (pc' := 28) d_92_26 rfl cb_m2 ?_
          exact g_iret d_92_28 rt_92 h
      · replace h := h.2 c
        refine g_iconst (pc' := 14) d_92_13 rfl ci_m1 ?_
        exact g_iret d_92_14 rt_92 h
-- 93 BernoulliWays$Memo.size()I
theorem S_93_0 {a0 : Nat} {w : xW} {r : Option Value × xW} (h : ∃ fs1, w[a0]? = some (.inr (7, fs1)) ∧ ∃ x3, fs1[3]? = some (.int x3) ∧ r = (some (.int x3), w)) : xGo 93 0 [some (.ref a0)] [] w r := by
  refine g_aloadn (pc' := 1) d_93_0 rfl rfl ?_
  obtain ⟨fs1, hw2, h⟩ := h
  obtain ⟨x3, hv4, h⟩ := h
  refine g_getf (pc' := 4) d_93_1 rfl st_93_21 hw2 hv4 ?_
  exact g_iret d_93_4 rt_93 h
-- 94 BernoulliWays$Memo.entryOf(I)I
theorem S_94_0 {a0 : Nat} {i1 : Int32} {w : xW} {r : Option Value × xW} (h : ∃ fs1, w[a0]? = some (.inr (7, fs1)) ∧ ∃ r5 w3, xCall 89 [.ref a0, .int i1] w (some (.int r5), w3) ∧ (r5 = 0 → r = (some (.int (-1 : Int32)), w3)) ∧ (¬ (r5 = 0) → ∃ fs6, w3[a0]? = some (.inr (7, fs6)) ∧ ∃ b8, fs6[0]? = some (.ref b8) ∧ ∃ n10 f11, w3[b8]? = some (.inl (.inl (n10, f11))) ∧ (¬ (i1 < 0 ∨ n10 ≤ i1.toNatClampNeg)) ∧ r = (some (.int (f11 i1.toNatClampNeg)), w3))) : xGo 94 0 [some (.ref a0), some (.int i1)] [] w r := by
  refine g_aloadn (pc' := 1) d_94_0 rfl rfl ?_
  refine g_iloadn (pc' := 2) d_94_1 rfl rfl ?_
  obtain ⟨fs1, hw2, h⟩ := h
  obtain ⟨r5, w3, hk4, h⟩ := h
  refine g_callV (pc' := 5) d_94_2 rfl st_94_25 na_89 ml_89 rfl rfl rfl rm_94_89 rfl rfl ow_89 hw2 hk4 ?_
  refine g_if_eq (pc' := 8) (pt := 17) d_94_5 (by decide) rfl (fun c => ?_) (fun c => ?_)
  · replace h := h.1 c
    refine g_iconst (pc' := 18) d_94_17 rfl ci_m1 ?_
    exact g_iret d_94_18 rt_94 h
  · replace h := h.2 c
    refine g_aloadn (pc' := 9) d_94_8 rfl rfl ?_
    obtain ⟨fs6, hw7, h⟩ := h
    obtain ⟨b8, hv9, h⟩ := h
    refine g_getf (pc' := 12) d_94_9 rfl st_94_11 hw7 hv9 ?_
    refine g_iloadn (pc' := 13) d_94_12 rfl rfl ?_
    obtain ⟨n10, f11, hw12, h⟩ := h
    obtain ⟨hc13, h⟩ := h
    refine g_iald (pc' := 14) d_94_13 rfl hw12 hc13 ?_
    refine g_goto (pt := 18) d_94_14 (by decide) ?_
    exact g_iret d_94_18 rt_94 h
-- 95 BernoulliWays$Memo.primeOf(I)I
theorem S_95_0 {a0 : Nat} {i1 : Int32} {w : xW} {r : Option Value × xW} (h : ∃ fs1, w[a0]? = some (.inr (7, fs1)) ∧ ∃ r5 w3, xCall 89 [.ref a0, .int i1] w (some (.int r5), w3) ∧ (r5 = 0 → r = (some (.int (-1 : Int32)), w3)) ∧ (¬ (r5 = 0) → ∃ fs6, w3[a0]? = some (.inr (7, fs6)) ∧ ∃ b8, fs6[1]? = some (.ref b8) ∧ ∃ n10 f11, w3[b8]? = some (.inl (.inl (n10, f11))) ∧ (¬ (i1 < 0 ∨ n10 ≤ i1.toNatClampNeg)) ∧ r = (some (.int (f11 i1.toNatClampNeg)), w3))) : xGo 95 0 [some (.ref a0), some (.int i1)] [] w r := by
  refine g_aloadn (pc' := 1) d_95_0 rfl rfl ?_
  refine g_iloadn (pc' := 2) d_95_1 rfl rfl ?_
  obtain ⟨fs1, hw2, h⟩ := h
  obtain ⟨r5, w3, hk4, h⟩ := h
  refine g_callV (pc' := 5) d_95_2 rfl st_95_25 na_89 ml_89 rfl rfl rfl rm_95_89 rfl rfl ow_89 hw2 hk4 ?_
  refine g_if_eq (pc' := 8) (pt := 17) d_95_5 (by decide) rfl (fun c => ?_) (fun c => ?_)
  · replace h := h.1 c
    refine g_iconst (pc' := 18) d_95_17 rfl ci_m1 ?_
    exact g_iret d_95_18 rt_95 h
  · replace h := h.2 c
    refine g_aloadn (pc' := 9) d_95_8 rfl rfl ?_
    obtain ⟨fs6, hw7, h⟩ := h
    obtain ⟨b8, hv9, h⟩ := h
    refine g_getf (pc' := 12) d_95_9 rfl st_95_15 hw7 hv9 ?_
    refine g_iloadn (pc' := 13) d_95_12 rfl rfl ?_
    obtain ⟨n10, f11, hw12, h⟩ := h
    obtain ⟨hc13, h⟩ := h
    refine g_iald (pc' := 14) d_95_13 rfl hw12 hc13 ?_
    refine g_goto (pt := 18) d_95_14 (by decide) ?_
    exact g_iret d_95_18 rt_95 h
-- 96 BernoulliWays$Memo.answerOf(I)I
theorem S_96_0 {a0 : Nat} {i1 : Int32} {w : xW} {r : Option Value × xW} (h : ∃ fs1, w[a0]? = some (.inr (7, fs1)) ∧ ∃ r5 w3, xCall 89 [.ref a0, .int i1] w (some (.int r5), w3) ∧ (r5 = 0 → r = (some (.int (-1 : Int32)), w3)) ∧ (¬ (r5 = 0) → ∃ fs6, w3[a0]? = some (.inr (7, fs6)) ∧ ∃ b8, fs6[2]? = some (.ref b8) ∧ ∃ n10 f11, w3[b8]? = some (.inl (.inl (n10, f11))) ∧ (¬ (i1 < 0 ∨ n10 ≤ i1.toNatClampNeg)) ∧ r = (some (.int (f11 i1.toNatClampNeg)), w3))) : xGo 96 0 [some (.ref a0), some (.int i1)] [] w r := by
  refine g_aloadn (pc' := 1) d_96_0 rfl rfl ?_
  refine g_iloadn (pc' := 2) d_96_1 rfl rfl ?_
  obtain ⟨fs1, hw2, h⟩ := h
  obtain ⟨r5, w3, hk4, h⟩ := h
  refine g_callV (pc' := 5) d_96_2 rfl st_96_25 na_89 ml_89 rfl rfl rfl rm_96_89 rfl rfl ow_89 hw2 hk4 ?_
  refine g_if_eq (pc' := 8) (pt := 17) d_96_5 (by decide) rfl (fun c => ?_) (fun c => ?_)
  · replace h := h.1 c
    refine g_iconst (pc' := 18) d_96_17 rfl ci_m1 ?_
    exact g_iret d_96_18 rt_96 h
  · replace h := h.2 c
    refine g_aloadn (pc' := 9) d_96_8 rfl rfl ?_
    obtain ⟨fs6, hw7, h⟩ := h
    obtain ⟨b8, hv9, h⟩ := h
    refine g_getf (pc' := 12) d_96_9 rfl st_96_18 hw7 hv9 ?_
    refine g_iloadn (pc' := 13) d_96_12 rfl rfl ?_
    obtain ⟨n10, f11, hw12, h⟩ := h
    obtain ⟨hc13, h⟩ := h
    refine g_iald (pc' := 14) d_96_13 rfl hw12 hc13 ?_
    refine g_goto (pt := 18) d_96_14 (by decide) ?_
    exact g_iret d_96_18 rt_96 h
-- 97 BernoulliWays.holdsStill(I)Z
theorem S_97_0 {a0 : Nat} {i1 : Int32} {w : xW} {r : Option Value × xW} (h : ∃ fs1, w[a0]? = some (.inr (0, fs1)) ∧ ∃ b3, fs1[9]? = some (.ref b3) ∧ ∃ fs5, w[b3]? = some (.inr (7, fs5)) ∧ ∃ r9 w7, xCall 94 [.ref b3, .int i1] w (some (.int r9), w7) ∧ ∃ fs10, w7[a0]? = some (.inr (0, fs10)) ∧ ∃ b12, fs10[9]? = some (.ref b12) ∧ ∃ fs14, w7[b12]? = some (.inr (7, fs14)) ∧ ∃ r18 w16, xCall 95 [.ref b12, .int i1] w7 (some (.int r18), w16) ∧ ∃ fs19, w16[a0]? = some (.inr (0, fs19)) ∧ ∃ r23 w21, xCall 85 [.ref a0, .int r9, .int r18] w16 (some (.int r23), w21) ∧ ∃ fs24, w21[a0]? = some (.inr (0, fs24)) ∧ ∃ b26, fs24[9]? = some (.ref b26) ∧ ∃ fs28, w21[b26]? = some (.inr (7, fs28)) ∧ ∃ r32 w30, xCall 96 [.ref b26, .int i1] w21 (some (.int r32), w30) ∧ (¬ r23 = r32 → r = (some (.int (0 : Int32)), w30)) ∧ (¬ (¬ r23 = r32) → r = (some (.int (1 : Int32)), w30))) : xGo 97 0 [some (.ref a0), some (.int i1)] [] w r := by
  refine g_aloadn (pc' := 1) d_97_0 rfl rfl ?_
  refine g_aloadn (pc' := 2) d_97_1 rfl rfl ?_
  obtain ⟨fs1, hw2, h⟩ := h
  obtain ⟨b3, hv4, h⟩ := h
  refine g_getf (pc' := 5) d_97_2 rfl st_97_65 hw2 hv4 ?_
  refine g_iloadn (pc' := 6) d_97_5 rfl rfl ?_
  obtain ⟨fs5, hw6, h⟩ := h
  obtain ⟨r9, w7, hk8, h⟩ := h
  refine g_callV (pc' := 9) d_97_6 rfl st_97_242 na_94 ml_94 rfl rfl rfl rm_97_94 rfl rfl ow_94 hw6 hk8 ?_
  refine g_aloadn (pc' := 10) d_97_9 rfl rfl ?_
  obtain ⟨fs10, hw11, h⟩ := h
  obtain ⟨b12, hv13, h⟩ := h
  refine g_getf (pc' := 13) d_97_10 rfl st_97_65 hw11 hv13 ?_
  refine g_iloadn (pc' := 14) d_97_13 rfl rfl ?_
  obtain ⟨fs14, hw15, h⟩ := h
  obtain ⟨r18, w16, hk17, h⟩ := h
  refine g_callV (pc' := 17) d_97_14 rfl st_97_246 na_95 ml_95 rfl rfl rfl rm_97_95 rfl rfl ow_95 hw15 hk17 ?_
  obtain ⟨fs19, hw20, h⟩ := h
  obtain ⟨r23, w21, hk22, h⟩ := h
  refine g_callV (pc' := 20) d_97_17 rfl st_97_225 na_85 ml_85 rfl rfl rfl rm_97_85 rfl rfl ow_85 hw20 hk22 ?_
  refine g_aloadn (pc' := 21) d_97_20 rfl rfl ?_
  obtain ⟨fs24, hw25, h⟩ := h
  obtain ⟨b26, hv27, h⟩ := h
  refine g_getf (pc' := 24) d_97_21 rfl st_97_65 hw25 hv27 ?_
  refine g_iloadn (pc' := 25) d_97_24 rfl rfl ?_
  obtain ⟨fs28, hw29, h⟩ := h
  obtain ⟨r32, w30, hk31, h⟩ := h
  refine g_callV (pc' := 28) d_97_25 rfl st_97_249 na_96 ml_96 rfl rfl rfl rm_97_96 rfl rfl ow_96 hw29 hk31 ?_
  refine g_ic_ne (pc' := 31) (pt := 35) d_97_28 (by decide) rfl (fun c => ?_) (fun c => ?_)
  · replace h := h.1 c
    refine g_iconst (pc' := 36) d_97_35 rfl ci_0 ?_
    exact g_zret d_97_36 rt_97 (Or.inl rfl) h
  · replace h := h.2 c
    refine g_iconst (pc' := 32) d_97_31 rfl ci_1 ?_
    refine g_goto (pt := 36) d_97_32 (by decide) ?_
    exact g_zret d_97_36 rt_97 (Or.inr rfl) h
-- 98 BernoulliWays.often(II)I
theorem S_98_0 {a0 : Nat} {i1 : Int32} {i2 : Int32} {w : xW} {r : Option Value × xW} (h : ∃ r3 w1, xCall 84 [.int i2] w (some (.int r3), w1) ∧ (r3 = 0 → r = (some (.int (-100 : Int32)), w1)) ∧ (¬ (r3 = 0) → ∃ fs4, w1[a0]? = some (.inr (0, fs4)) ∧ ∃ r8 w6, xCall 99 [.ref a0, .int i1] w1 (some (.int r8), w6) ∧ (¬ r8 = 0 → ∃ fs9, w6[a0]? = some (.inr (0, fs9)) ∧ ∃ b11, fs9[4]? = some (.ref b11) ∧ ∃ fs13, w6[b11]? = some (.inr (4, fs13)) ∧ ∃ r17 w15, xCall 63 [.ref b11, .int i1] w6 (some (.int r17), w15) ∧ (¬ r17 = 0 → ∃ fs18, w15[a0]? = some (.inr (0, fs18)) ∧ ∃ b20, fs18[4]? = some (.ref b20) ∧ ∃ b22, fs18[13]? = some (.ref b22) ∧ ∃ fs24, w15[b20]? = some (.inr (4, fs24)) ∧ ∃ w26, xCall 100 [.ref b20, .int i1, .ref b22] w15 (none, w26) ∧ ∃ fs28, w26[a0]? = some (.inr (0, fs28)) ∧ ∃ b30, fs28[13]? = some (.ref b30) ∧ ∃ fs32, w26[b30]? = some (.inr (5, fs32)) ∧ ∃ r36 w34, xCall 101 [.ref b30, .int i2] w26 (some (.int r36), w34) ∧ ∃ fs37, w34[a0]? = some (.inr (0, fs37)) ∧ ∃ b39, fs37[13]? = some (.ref b39) ∧ ∃ fs41, w34[b39]? = some (.inr (5, fs41)) ∧ ∃ r45 w43, xCall 102 [.ref b39, .int i2] w34 (some (.int r45), w43) ∧ r = (some (.int (r36 - r45)), w43)) ∧ (¬ (¬ r17 = 0) → r = (some (.int (100 : Int32)), w15))) ∧ (¬ (¬ r8 = 0) → r = (some (.int (-100 : Int32)), w6)))) : xGo 98 0 [some (.ref a0), some (.int i1), some (.int i2)] [] w r := by
  refine g_iloadn (pc' := 1) d_98_0 rfl rfl ?_
  obtain ⟨r3, w1, hk2, h⟩ := h
  refine g_callS (pc' := 4) d_98_1 rfl st_98_222 (Or.inl rfl) na_84 ml_84 rfl rfl rfl rm_98_84 rfl rfl hk2 ?_
  refine g_if_eq (pc' := 7) (pt := 15) d_98_4 (by decide) rfl (fun c => ?_) (fun c => ?_)
  · replace h := h.1 c
    refine g_bipush (pc' := 17) d_98_15 rfl cb_m100 ?_
    exact g_iret d_98_17 rt_98 h
  · replace h := h.2 c
    refine g_aloadn (pc' := 8) d_98_7 rfl rfl ?_
    refine g_iloadn (pc' := 9) d_98_8 rfl rfl ?_
    obtain ⟨fs4, hw5, h⟩ := h
    obtain ⟨r8, w6, hk7, h⟩ := h
    refine g_callV (pc' := 12) d_98_9 rfl st_98_163 na_99 ml_99 rfl rfl rfl rm_98_99 rfl rfl ow_99 hw5 hk7 ?_
    refine g_if_ne (pc' := 15) (pt := 18) d_98_12 (by decide) rfl (fun c => ?_) (fun c => ?_)
    · replace h := h.1 c
      refine g_aloadn (pc' := 19) d_98_18 rfl rfl ?_
      obtain ⟨fs9, hw10, h⟩ := h
      obtain ⟨b11, hv12, h⟩ := h
      refine g_getf (pc' := 22) d_98_19 rfl st_98_39 hw10 hv12 ?_
      refine g_iloadn (pc' := 23) d_98_22 rfl rfl ?_
      obtain ⟨fs13, hw14, h⟩ := h
      obtain ⟨r17, w15, hk16, h⟩ := h
      refine g_callV (pc' := 26) d_98_23 rfl st_98_255 na_63 ml_63 rfl rfl rfl rm_98_63 rfl rfl ow_63 hw14 hk16 ?_
      refine g_if_ne (pc' := 29) (pt := 32) d_98_26 (by decide) rfl (fun c => ?_) (fun c => ?_)
      · replace h := h.1 c
        refine g_aloadn (pc' := 33) d_98_32 rfl rfl ?_
        obtain ⟨fs18, hw19, h⟩ := h
        obtain ⟨b20, hv21, h⟩ := h
        refine g_getf (pc' := 36) d_98_33 rfl st_98_39 hw19 hv21 ?_
        refine g_iloadn (pc' := 37) d_98_36 rfl rfl ?_
        refine g_aloadn (pc' := 38) d_98_37 rfl rfl ?_
        obtain ⟨b22, hv23, h⟩ := h
        refine g_getf (pc' := 41) d_98_38 rfl st_98_95 hw19 hv23 ?_
        obtain ⟨fs24, hw25, h⟩ := h
        obtain ⟨w26, hk27, h⟩ := h
        refine g_callV (pc' := 44) d_98_41 rfl st_98_168 na_100 ml_100 rfl rfl rfl rm_98_100 rfl rfl ow_100 hw25 hk27 ?_
        refine g_aloadn (pc' := 45) d_98_44 rfl rfl ?_
        obtain ⟨fs28, hw29, h⟩ := h
        obtain ⟨b30, hv31, h⟩ := h
        refine g_getf (pc' := 48) d_98_45 rfl st_98_95 hw29 hv31 ?_
        refine g_iloadn (pc' := 49) d_98_48 rfl rfl ?_
        obtain ⟨fs32, hw33, h⟩ := h
        obtain ⟨r36, w34, hk35, h⟩ := h
        refine g_callV (pc' := 52) d_98_49 rfl st_98_258 na_101 ml_101 rfl rfl rfl rm_98_101 rfl rfl ow_101 hw33 hk35 ?_
        refine g_aloadn (pc' := 53) d_98_52 rfl rfl ?_
        obtain ⟨fs37, hw38, h⟩ := h
        obtain ⟨b39, hv40, h⟩ := h
        refine g_getf (pc' := 56) d_98_53 rfl st_98_95 hw38 hv40 ?_
        refine g_iloadn (pc' := 57) d_98_56 rfl rfl ?_
        obtain ⟨fs41, hw42, h⟩ := h
        obtain ⟨r45, w43, hk44, h⟩ := h
        refine g_callV (pc' := 60) d_98_57 rfl st_98_261 na_102 ml_102 rfl rfl rfl rm_98_102 rfl rfl ow_102 hw42 hk44 ?_
        refine g_isub (pc' := 61) d_98_60 rfl ?_
        exact g_iret d_98_61 rt_98 h
      · replace h := h.2 c
        refine g_bipush (pc' := 31) d_98_29 rfl cb_100 ?_
        exact g_iret d_98_31 rt_98 h
    · replace h := h.2 c
      refine g_bipush (pc' := 17) d_98_15 rfl cb_m100 ?_
      exact g_iret d_98_17 rt_98 h
-- 99 BernoulliWays.isLaid(I)Z
theorem S_99_0 {a0 : Nat} {i1 : Int32} {w : xW} {r : Option Value × xW} (h : (i1 < 0 → r = (some (.int (0 : Int32)), w)) ∧ (¬ (i1 < 0) → ∃ fs1, w[a0]? = some (.inr (0, fs1)) ∧ ∃ x3, fs1[7]? = some (.int x3) ∧ (x3 < i1 → r = (some (.int (0 : Int32)), w)) ∧ (¬ (x3 < i1) → r = (some (.int (1 : Int32)), w)))) : xGo 99 0 [some (.ref a0), some (.int i1)] [] w r := by
  refine g_iloadn (pc' := 1) d_99_0 rfl rfl ?_
  refine g_if_lt (pc' := 4) (pt := 16) d_99_1 (by decide) rfl (fun c => ?_) (fun c => ?_)
  · replace h := h.1 c
    refine g_iconst (pc' := 17) d_99_16 rfl ci_0 ?_
    exact g_zret d_99_17 rt_99 (Or.inl rfl) h
  · replace h := h.2 c
    refine g_iloadn (pc' := 5) d_99_4 rfl rfl ?_
    refine g_aloadn (pc' := 6) d_99_5 rfl rfl ?_
    obtain ⟨fs1, hw2, h⟩ := h
    obtain ⟨x3, hv4, h⟩ := h
    refine g_getf (pc' := 9) d_99_6 rfl st_99_49 hw2 hv4 ?_
    refine g_ic_gt (pc' := 12) (pt := 16) d_99_9 (by decide) rfl (fun c => ?_) (fun c => ?_)
    · replace h := h.1 c
      refine g_iconst (pc' := 17) d_99_16 rfl ci_0 ?_
      exact g_zret d_99_17 rt_99 (Or.inl rfl) h
    · replace h := h.2 c
      refine g_iconst (pc' := 13) d_99_12 rfl ci_1 ?_
      refine g_goto (pt := 17) d_99_13 (by decide) ?_
      exact g_zret d_99_17 rt_99 (Or.inr rfl) h
-- 100 BernoulliWays$Entries.fetch(ILBernoulliWays$Fraction;)V
theorem S_100_0 {a0 : Nat} {i1 : Int32} {a2 : Nat} {w : xW} {r : Option Value × xW} (h : ∃ fs1, w[a0]? = some (.inr (4, fs1)) ∧ ∃ r5 w3, xCall 29 [.ref a0, .int i1] w (some (.long r5), w3) ∧ ∃ fs6, w3[a0]? = some (.inr (4, fs6)) ∧ ∃ r10 w8, xCall 30 [.ref a0, .int i1] w3 (some (.long r10), w8) ∧ ∃ fs11, w8[a0]? = some (.inr (4, fs11)) ∧ ∃ r15 w13, xCall 31 [.ref a0, .int i1] w8 (some (.long r15), w13) ∧ ∃ fs16, w13[a2]? = some (.inr (5, fs16)) ∧ ∃ w18, xCall 16 [.ref a2, .long r5, .long r10, .long r15] w13 (none, w18) ∧ r = (none, w18)) : xGo 100 0 [some (.ref a0), some (.int i1), some (.ref a2)] [] w r := by
  refine g_aloadn (pc' := 1) d_100_0 rfl rfl ?_
  refine g_aloadn (pc' := 2) d_100_1 rfl rfl ?_
  refine g_iloadn (pc' := 3) d_100_2 rfl rfl ?_
  obtain ⟨fs1, hw2, h⟩ := h
  obtain ⟨r5, w3, hk4, h⟩ := h
  refine g_callV (pc' := 6) d_100_3 rfl st_100_38 na_29 ml_29 rfl rfl rfl rm_100_29 rfl rfl ow_29 hw2 hk4 ?_
  refine g_aloadn (pc' := 7) d_100_6 rfl rfl ?_
  refine g_iloadn (pc' := 8) d_100_7 rfl rfl ?_
  obtain ⟨fs6, hw7, h⟩ := h
  obtain ⟨r10, w8, hk9, h⟩ := h
  refine g_callV (pc' := 11) d_100_8 rfl st_100_42 na_30 ml_30 rfl rfl rfl rm_100_30 rfl rfl ow_30 hw7 hk9 ?_
  refine g_aloadn (pc' := 12) d_100_11 rfl rfl ?_
  refine g_iloadn (pc' := 13) d_100_12 rfl rfl ?_
  obtain ⟨fs11, hw12, h⟩ := h
  obtain ⟨r15, w13, hk14, h⟩ := h
  refine g_callV (pc' := 16) d_100_13 rfl st_100_55 na_31 ml_31 rfl rfl rfl rm_100_31 rfl rfl ow_31 hw12 hk14 ?_
  obtain ⟨fs16, hw17, h⟩ := h
  obtain ⟨w18, hk19, h⟩ := h
  refine g_callV (pc' := 19) d_100_16 rfl st_100_58 na_16 ml_16 rfl rfl rfl rm_100_16 rfl rfl ow_16 hw17 hk19 ?_
  exact g_vret d_100_19 rt_100 h
-- 101 BernoulliWays$Fraction.oftenAbove(I)I
theorem S_101_0 {a0 : Nat} {i1 : Int32} {w : xW} {r : Option Value × xW} (h : (i1 < (2 : Int32) → r = (some (.int (0 : Int32)), w)) ∧ (¬ (i1 < (2 : Int32)) → ∃ fs1, w[a0]? = some (.inr (5, fs1)) ∧ ∃ x3, fs1[0]? = some (.long x3) ∧ (¬ x3 = (0 : Int64) → ∃ x5, fs1[1]? = some (.long x5) ∧ xGo 101 39 [some (.ref a0), some (.int i1), some (.long x3), none, some (.long x5), none, some (.int (0 : Int32)), none, none] [] w r) ∧ (¬ (¬ x3 = (0 : Int64)) → ∃ x7, fs1[1]? = some (.long x7) ∧ (¬ x7 = (0 : Int64) → xGo 101 39 [some (.ref a0), some (.int i1), some (.long x3), none, some (.long x7), none, some (.int (0 : Int32)), none, none] [] w r) ∧ (¬ (¬ x7 = (0 : Int64)) → r = (some (.int (0 : Int32)), w))))) : xGo 101 0 [some (.ref a0), some (.int i1), none, none, none, none, none, none, none] [] w r := by
  refine g_iloadn (pc' := 1) d_101_0 rfl rfl ?_
  refine g_iconst (pc' := 2) d_101_1 rfl ci_2 ?_
  refine g_ic_lt (pc' := 5) (pt := 23) d_101_2 (by decide) rfl (fun c => ?_) (fun c => ?_)
  · replace h := h.1 c
    refine g_iconst (pc' := 24) d_101_23 rfl ci_0 ?_
    exact g_iret d_101_24 rt_101 h
  · replace h := h.2 c
    refine g_aloadn (pc' := 6) d_101_5 rfl rfl ?_
    obtain ⟨fs1, hw2, h⟩ := h
    obtain ⟨x3, hv4, h⟩ := h
    refine g_getf (pc' := 9) d_101_6 rfl st_101_25 hw2 hv4 ?_
    refine g_lconst (pc' := 10) d_101_9 rfl cl_0 ?_
    refine g_lc_ne (pc' := 14) (pm := 11) (pt := 25) d_101_10 rfl d_101_11 (by decide) rfl (fun c => ?_) (fun c => ?_)
    · replace h := h.1 c
      refine g_aloadn (pc' := 26) d_101_25 rfl rfl ?_
      refine g_getf (pc' := 29) d_101_26 rfl st_101_25 hw2 hv4 ?_
      refine g_lstoren (pc' := 30) (l' := [some (.ref a0), some (.int i1), some (.long x3), none, none, none, none, none, none]) d_101_29 rfl ml_101 rfl rfl ?_
      refine g_aloadn (pc' := 31) d_101_30 rfl rfl ?_
      obtain ⟨x5, hv6, h⟩ := h
      refine g_getf (pc' := 34) d_101_31 rfl st_101_28 hw2 hv6 ?_
      refine g_lstore (pc' := 36) (l' := [some (.ref a0), some (.int i1), some (.long x3), none, some (.long x5), none, none, none, none]) d_101_34 rfl ml_101 rfl rfl ?_
      refine g_iconst (pc' := 37) d_101_36 rfl ci_0 ?_
      refine g_istore (pc' := 39) (l' := [some (.ref a0), some (.int i1), some (.long x3), none, some (.long x5), none, some (.int (0 : Int32)), none, none]) d_101_37 rfl ml_101 rfl rfl ?_
      exact h
    · replace h := h.2 c
      refine g_aloadn (pc' := 15) d_101_14 rfl rfl ?_
      obtain ⟨x7, hv8, h⟩ := h
      refine g_getf (pc' := 18) d_101_15 rfl st_101_28 hw2 hv8 ?_
      refine g_lconst (pc' := 19) d_101_18 rfl cl_0 ?_
      refine g_lc_ne (pc' := 23) (pm := 20) (pt := 25) d_101_19 rfl d_101_20 (by decide) rfl (fun c => ?_) (fun c => ?_)
      · replace h := h.1 c
        refine g_aloadn (pc' := 26) d_101_25 rfl rfl ?_
        refine g_getf (pc' := 29) d_101_26 rfl st_101_25 hw2 hv4 ?_
        refine g_lstoren (pc' := 30) (l' := [some (.ref a0), some (.int i1), some (.long x3), none, none, none, none, none, none]) d_101_29 rfl ml_101 rfl rfl ?_
        refine g_aloadn (pc' := 31) d_101_30 rfl rfl ?_
        refine g_getf (pc' := 34) d_101_31 rfl st_101_28 hw2 hv8 ?_
        refine g_lstore (pc' := 36) (l' := [some (.ref a0), some (.int i1), some (.long x3), none, some (.long x7), none, none, none, none]) d_101_34 rfl ml_101 rfl rfl ?_
        refine g_iconst (pc' := 37) d_101_36 rfl ci_0 ?_
        refine g_istore (pc' := 39) (l' := [some (.ref a0), some (.int i1), some (.long x3), none, some (.long x7), none, some (.int (0 : Int32)), none, none]) d_101_37 rfl ml_101 rfl rfl ?_
        exact h
      · replace h := h.2 c
        refine g_iconst (pc' := 24) d_101_23 rfl ci_0 ?_
        exact g_iret d_101_24 rt_101 h
theorem S_101_39 {a0 : Nat} {i1 : Int32} {l2 : Int64} {l4 : Int64} {i6 : Int32} {w : xW} {r : Option Value × xW} (h : ((64 : Int32) ≤ i6 → r = (some (.int (64 : Int32)), w)) ∧ (¬ ((64 : Int32) ≤ i6) → ∃ r3 w1, xCall 17 [.long l2, .long (i1.toInt64)] w (some (.long r3), w1) ∧ ∃ fs4, w1[a0]? = some (.inr (5, fs4)) ∧ ∃ x6, fs4[2]? = some (.long x6) ∧ ∀ v8 : Int64, v8 = ((r3 * x6) + l4) → (¬ (i1.toInt64) = 0) ∧ ((lrem v8 (i1.toInt64)) = (0 : Int64) → ∃ r12 w10, xCall 19 [.long l2, .long (i1.toInt64)] w1 (some (.long r12), w10) ∧ (¬ (i1.toInt64) = 0) ∧ ∀ v14 : Int64, v14 = (v8 / (i1.toInt64)) → ∀ v15 : Int32, v15 = i6 + (1 : Int32) → xGo 101 39 [some (.ref a0), some (.int i1), some (.long r12), none, some (.long v14), none, some (.int v15), none, none] [] w10 r) ∧ (¬ ((lrem v8 (i1.toInt64)) = (0 : Int64)) → r = (some (.int i6), w1)))) : xGo 101 39 [some (.ref a0), some (.int i1), some (.long l2), none, some (.long l4), none, some (.int i6), none, none] [] w r := by
  refine g_iload (pc' := 41) d_101_39 rfl rfl ?_
  refine g_bipush (pc' := 43) d_101_41 rfl cb_64 ?_
  refine g_ic_ge (pc' := 46) (pt := 95) d_101_43 (by decide) rfl (fun c => ?_) (fun c => ?_)
  · replace h := h.1 c
    refine g_bipush (pc' := 97) d_101_95 rfl cb_64 ?_
    exact g_iret d_101_97 rt_101 h
  · replace h := h.2 c
    refine g_lloadn (pc' := 47) d_101_46 rfl rfl ?_
    refine g_iloadn (pc' := 48) d_101_47 rfl rfl ?_
    refine g_i2l (pc' := 49) d_101_48 rfl ?_
    obtain ⟨r3, w1, hk2, h⟩ := h
    refine g_callS (pc' := 52) d_101_49 rfl st_101_13 (Or.inl rfl) na_17 ml_17 rfl rfl rfl rm_101_17 rfl rfl hk2 ?_
    refine g_aloadn (pc' := 53) d_101_52 rfl rfl ?_
    obtain ⟨fs4, hw5, h⟩ := h
    obtain ⟨x6, hv7, h⟩ := h
    refine g_getf (pc' := 56) d_101_53 rfl st_101_7 hw5 hv7 ?_
    refine g_lmul (pc' := 57) d_101_56 rfl ?_
    refine g_lload (pc' := 59) d_101_57 rfl rfl ?_
    refine g_ladd (pc' := 60) d_101_59 rfl ?_
    have h := h _ rfl
    refine g_lstore (pc' := 62) (l' := [some (.ref a0), some (.int i1), some (.long l2), none, some (.long l4), none, some (.int i6), some (.long (((r3 * x6) + l4))), none]) d_101_60 rfl ml_101 rfl rfl ?_
    refine g_lload (pc' := 64) d_101_62 rfl rfl ?_
    refine g_iloadn (pc' := 65) d_101_64 rfl rfl ?_
    refine g_i2l (pc' := 66) d_101_65 rfl ?_
    obtain ⟨hc9, h⟩ := h
    refine g_lrem (pc' := 67) d_101_66 rfl hc9 ?_
    refine g_lconst (pc' := 68) d_101_67 rfl cl_0 ?_
    refine g_lc_eq (pc' := 72) (pm := 69) (pt := 75) d_101_68 rfl d_101_69 (by decide) rfl (fun c => ?_) (fun c => ?_)
    · replace h := h.1 c
      refine g_lloadn (pc' := 76) d_101_75 rfl rfl ?_
      refine g_iloadn (pc' := 77) d_101_76 rfl rfl ?_
      refine g_i2l (pc' := 78) d_101_77 rfl ?_
      obtain ⟨r12, w10, hk11, h⟩ := h
      refine g_callS (pc' := 81) d_101_78 rfl st_101_22 (Or.inl rfl) na_19 ml_19 rfl rfl rfl rm_101_19 rfl rfl hk11 ?_
      refine g_lstoren (pc' := 82) (l' := [some (.ref a0), some (.int i1), some (.long r12), none, some (.long l4), none, some (.int i6), some (.long (((r3 * x6) + l4))), none]) d_101_81 rfl ml_101 rfl rfl ?_
      refine g_lload (pc' := 84) d_101_82 rfl rfl ?_
      refine g_iloadn (pc' := 85) d_101_84 rfl rfl ?_
      refine g_i2l (pc' := 86) d_101_85 rfl ?_
      obtain ⟨hc13, h⟩ := h
      refine g_ldiv (pc' := 87) d_101_86 rfl hc13 ?_
      have h := h _ rfl
      refine g_lstore (pc' := 89) (l' := [some (.ref a0), some (.int i1), some (.long r12), none, some (.long (((((r3 * x6) + l4)) / (i1.toInt64)))), none, some (.int i6), some (.long (((r3 * x6) + l4))), none]) d_101_87 rfl ml_101 rfl rfl ?_
      have h := h _ rfl
      refine g_iinc (pc' := 92) (l' := [some (.ref a0), some (.int i1), some (.long r12), none, some (.long (((((r3 * x6) + l4)) / (i1.toInt64)))), none, some (.int (i6 + (1 : Int32))), some (.long (((r3 * x6) + l4))), none]) d_101_89 rfl rfl ci_1 ml_101 rfl rfl ?_
      refine g_goto (pt := 39) d_101_92 (by decide) ?_
      exact xGo.more (xle_s (xle_s (xle_s (xle_n (xle_s (xle_n (xle_s (xle_n (xle_n xle_0))))))))) h
    · replace h := h.2 c
      refine g_iload (pc' := 74) d_101_72 rfl rfl ?_
      exact g_iret d_101_74 rt_101 h
-- 102 BernoulliWays$Fraction.oftenBelow(I)I
theorem S_102_0 {a0 : Nat} {i1 : Int32} {w : xW} {r : Option Value × xW} (h : ((2 : Int32) ≤ i1 → ∃ fs1, w[a0]? = some (.inr (5, fs1)) ∧ ∃ x3, fs1[2]? = some (.long x3) ∧ xGo 102 15 [some (.ref a0), some (.int i1), some (.long x3), none, some (.int (0 : Int32))] [] w r) ∧ (¬ ((2 : Int32) ≤ i1) → r = (some (.int (0 : Int32)), w))) : xGo 102 0 [some (.ref a0), some (.int i1), none, none, none] [] w r := by
  refine g_iloadn (pc' := 1) d_102_0 rfl rfl ?_
  refine g_iconst (pc' := 2) d_102_1 rfl ci_2 ?_
  refine g_ic_ge (pc' := 5) (pt := 7) d_102_2 (by decide) rfl (fun c => ?_) (fun c => ?_)
  · replace h := h.1 c
    refine g_aloadn (pc' := 8) d_102_7 rfl rfl ?_
    obtain ⟨fs1, hw2, h⟩ := h
    obtain ⟨x3, hv4, h⟩ := h
    refine g_getf (pc' := 11) d_102_8 rfl st_102_7 hw2 hv4 ?_
    refine g_lstoren (pc' := 12) (l' := [some (.ref a0), some (.int i1), some (.long x3), none, none]) d_102_11 rfl ml_102 rfl rfl ?_
    refine g_iconst (pc' := 13) d_102_12 rfl ci_0 ?_
    refine g_istore (pc' := 15) (l' := [some (.ref a0), some (.int i1), some (.long x3), none, some (.int (0 : Int32))]) d_102_13 rfl ml_102 rfl rfl ?_
    exact h
  · replace h := h.2 c
    refine g_iconst (pc' := 6) d_102_5 rfl ci_0 ?_
    exact g_iret d_102_6 rt_102 h
theorem S_102_15 {a0 : Nat} {i1 : Int32} {l2 : Int64} {i4 : Int32} {w : xW} {r : Option Value × xW} (h : ((64 : Int32) ≤ i4 → r = (some (.int (64 : Int32)), w)) ∧ (¬ ((64 : Int32) ≤ i4) → (¬ (i1.toInt64) = 0) ∧ ((lrem l2 (i1.toInt64)) = (0 : Int64) → (¬ (i1.toInt64) = 0) ∧ ∀ v3 : Int64, v3 = (l2 / (i1.toInt64)) → ∀ v4 : Int32, v4 = i4 + (1 : Int32) → xGo 102 15 [some (.ref a0), some (.int i1), some (.long v3), none, some (.int v4)] [] w r) ∧ (¬ ((lrem l2 (i1.toInt64)) = (0 : Int64)) → r = (some (.int i4), w)))) : xGo 102 15 [some (.ref a0), some (.int i1), some (.long l2), none, some (.int i4)] [] w r := by
  refine g_iload (pc' := 17) d_102_15 rfl rfl ?_
  refine g_bipush (pc' := 19) d_102_17 rfl cb_64 ?_
  refine g_ic_ge (pc' := 22) (pt := 45) d_102_19 (by decide) rfl (fun c => ?_) (fun c => ?_)
  · replace h := h.1 c
    refine g_bipush (pc' := 47) d_102_45 rfl cb_64 ?_
    exact g_iret d_102_47 rt_102 h
  · replace h := h.2 c
    refine g_lloadn (pc' := 23) d_102_22 rfl rfl ?_
    refine g_iloadn (pc' := 24) d_102_23 rfl rfl ?_
    refine g_i2l (pc' := 25) d_102_24 rfl ?_
    obtain ⟨hc1, h⟩ := h
    refine g_lrem (pc' := 26) d_102_25 rfl hc1 ?_
    refine g_lconst (pc' := 27) d_102_26 rfl cl_0 ?_
    refine g_lc_eq (pc' := 31) (pm := 28) (pt := 34) d_102_27 rfl d_102_28 (by decide) rfl (fun c => ?_) (fun c => ?_)
    · replace h := h.1 c
      refine g_lloadn (pc' := 35) d_102_34 rfl rfl ?_
      refine g_iloadn (pc' := 36) d_102_35 rfl rfl ?_
      refine g_i2l (pc' := 37) d_102_36 rfl ?_
      obtain ⟨hc2, h⟩ := h
      refine g_ldiv (pc' := 38) d_102_37 rfl hc2 ?_
      have h := h _ rfl
      refine g_lstoren (pc' := 39) (l' := [some (.ref a0), some (.int i1), some (.long ((l2 / (i1.toInt64)))), none, some (.int i4)]) d_102_38 rfl ml_102 rfl rfl ?_
      have h := h _ rfl
      refine g_iinc (pc' := 42) (l' := [some (.ref a0), some (.int i1), some (.long ((l2 / (i1.toInt64)))), none, some (.int (i4 + (1 : Int32)))]) d_102_39 rfl rfl ci_1 ml_102 rfl rfl ?_
      refine g_goto (pt := 15) d_102_42 (by decide) ?_
      exact h
    · replace h := h.2 c
      refine g_iload (pc' := 33) d_102_31 rfl rfl ?_
      exact g_iret d_102_33 rt_102 h
-- 103 BernoulliWays.kummer(III)I
theorem S_103_0 {a0 : Nat} {i1 : Int32} {i2 : Int32} {i3 : Int32} {w : xW} {r : Option Value × xW} (h : ∃ r3 w1, xCall 84 [.int i1] w (some (.int r3), w1) ∧ (r3 = 0 → r = (some (.int (-1 : Int32)), w1)) ∧ (¬ (r3 = 0) → ∃ r6 w4, xCall 24 [.int i2] w1 (some (.int r6), w4) ∧ (r6 = 0 → r = (some (.int (-1 : Int32)), w4)) ∧ (¬ (r6 = 0) → ∃ r9 w7, xCall 24 [.int i3] w4 (some (.int r9), w7) ∧ (¬ r9 = 0 → ∃ fs10, w7[a0]? = some (.inr (0, fs10)) ∧ ∃ x12, fs10[7]? = some (.int x12) ∧ (x12 < i2 → r = (some (.int (-2 : Int32)), w7)) ∧ (¬ (x12 < i2) → (i3 ≤ x12 → ∃ b14, fs10[8]? = some (.ref b14) ∧ ∃ fs16, w7[b14]? = some (.inr (6, fs16)) ∧ ∃ r20 w18, xCall 68 [.ref b14, .int i1, .int i2, .int i3] w7 (some (.int r20), w18) ∧ r = (some (.int r20), w18)) ∧ (¬ (i3 ≤ x12) → r = (some (.int (-2 : Int32)), w7)))) ∧ (¬ (¬ r9 = 0) → r = (some (.int (-1 : Int32)), w7))))) : xGo 103 0 [some (.ref a0), some (.int i1), some (.int i2), some (.int i3)] [] w r := by
  refine g_iloadn (pc' := 1) d_103_0 rfl rfl ?_
  obtain ⟨r3, w1, hk2, h⟩ := h
  refine g_callS (pc' := 4) d_103_1 rfl st_103_222 (Or.inl rfl) na_84 ml_84 rfl rfl rfl rm_103_84 rfl rfl hk2 ?_
  refine g_if_eq (pc' := 7) (pt := 21) d_103_4 (by decide) rfl (fun c => ?_) (fun c => ?_)
  · replace h := h.1 c
    refine g_iconst (pc' := 22) d_103_21 rfl ci_m1 ?_
    exact g_iret d_103_22 rt_103 h
  · replace h := h.2 c
    refine g_iloadn (pc' := 8) d_103_7 rfl rfl ?_
    obtain ⟨r6, w4, hk5, h⟩ := h
    refine g_callS (pc' := 11) d_103_8 rfl st_103_120 (Or.inl rfl) na_24 ml_24 rfl rfl rfl rm_103_24 rfl rfl hk5 ?_
    refine g_if_eq (pc' := 14) (pt := 21) d_103_11 (by decide) rfl (fun c => ?_) (fun c => ?_)
    · replace h := h.1 c
      refine g_iconst (pc' := 22) d_103_21 rfl ci_m1 ?_
      exact g_iret d_103_22 rt_103 h
    · replace h := h.2 c
      refine g_iloadn (pc' := 15) d_103_14 rfl rfl ?_
      obtain ⟨r9, w7, hk8, h⟩ := h
      refine g_callS (pc' := 18) d_103_15 rfl st_103_120 (Or.inl rfl) na_24 ml_24 rfl rfl rfl rm_103_24 rfl rfl hk8 ?_
      refine g_if_ne (pc' := 21) (pt := 23) d_103_18 (by decide) rfl (fun c => ?_) (fun c => ?_)
      · replace h := h.1 c
        refine g_iloadn (pc' := 24) d_103_23 rfl rfl ?_
        refine g_aloadn (pc' := 25) d_103_24 rfl rfl ?_
        obtain ⟨fs10, hw11, h⟩ := h
        obtain ⟨x12, hv13, h⟩ := h
        refine g_getf (pc' := 28) d_103_25 rfl st_103_49 hw11 hv13 ?_
        refine g_ic_gt (pc' := 31) (pt := 39) d_103_28 (by decide) rfl (fun c => ?_) (fun c => ?_)
        · replace h := h.1 c
          refine g_bipush (pc' := 41) d_103_39 rfl cb_m2 ?_
          exact g_iret d_103_41 rt_103 h
        · replace h := h.2 c
          refine g_iloadn (pc' := 32) d_103_31 rfl rfl ?_
          refine g_aloadn (pc' := 33) d_103_32 rfl rfl ?_
          refine g_getf (pc' := 36) d_103_33 rfl st_103_49 hw11 hv13 ?_
          refine g_ic_le (pc' := 39) (pt := 42) d_103_36 (by decide) rfl (fun c => ?_) (fun c => ?_)
          · replace h := h.1 c
            refine g_aloadn (pc' := 43) d_103_42 rfl rfl ?_
            obtain ⟨b14, hv15, h⟩ := h
            refine g_getf (pc' := 46) d_103_43 rfl st_103_58 hw11 hv15 ?_
            refine g_iloadn (pc' := 47) d_103_46 rfl rfl ?_
            refine g_iloadn (pc' := 48) d_103_47 rfl rfl ?_
            refine g_iloadn (pc' := 49) d_103_48 rfl rfl ?_
            obtain ⟨fs16, hw17, h⟩ := h
            obtain ⟨r20, w18, hk19, h⟩ := h
            refine g_callV (pc' := 52) d_103_49 rfl st_103_264 na_68 ml_68 rfl rfl rfl rm_103_68 rfl rfl ow_68 hw17 hk19 ?_
            exact g_iret d_103_52 rt_103 h
          · replace h := h.2 c
            refine g_bipush (pc' := 41) d_103_39 rfl cb_m2 ?_
            exact g_iret d_103_41 rt_103 h
      · replace h := h.2 c
        refine g_iconst (pc' := 22) d_103_21 rfl ci_m1 ?_
        exact g_iret d_103_22 rt_103 h
-- 104 BernoulliWays.kummerTwice(III)I
theorem S_104_0 {a0 : Nat} {i1 : Int32} {i2 : Int32} {i3 : Int32} {w : xW} {r : Option Value × xW} (h : ∃ r3 w1, xCall 84 [.int i1] w (some (.int r3), w1) ∧ (r3 = 0 → r = (some (.int (-1 : Int32)), w1)) ∧ (¬ (r3 = 0) → ∃ r6 w4, xCall 24 [.int i2] w1 (some (.int r6), w4) ∧ (r6 = 0 → r = (some (.int (-1 : Int32)), w4)) ∧ (¬ (r6 = 0) → ∃ r9 w7, xCall 24 [.int i3] w4 (some (.int r9), w7) ∧ (¬ r9 = 0 → ∃ fs10, w7[a0]? = some (.inr (0, fs10)) ∧ ∃ x12, fs10[7]? = some (.int x12) ∧ (x12 < i2 → r = (some (.int (-2 : Int32)), w7)) ∧ (¬ (x12 < i2) → (i3 ≤ x12 → ∃ b14, fs10[8]? = some (.ref b14) ∧ ∃ fs16, w7[b14]? = some (.inr (6, fs16)) ∧ ∃ r20 w18, xCall 105 [.ref b14, .int i1, .int i2, .int i3] w7 (some (.int r20), w18) ∧ r = (some (.int r20), w18)) ∧ (¬ (i3 ≤ x12) → r = (some (.int (-2 : Int32)), w7)))) ∧ (¬ (¬ r9 = 0) → r = (some (.int (-1 : Int32)), w7))))) : xGo 104 0 [some (.ref a0), some (.int i1), some (.int i2), some (.int i3)] [] w r := by
  refine g_iloadn (pc' := 1) d_104_0 rfl rfl ?_
  obtain ⟨r3, w1, hk2, h⟩ := h
  refine g_callS (pc' := 4) d_104_1 rfl st_104_222 (Or.inl rfl) na_84 ml_84 rfl rfl rfl rm_104_84 rfl rfl hk2 ?_
  refine g_if_eq (pc' := 7) (pt := 21) d_104_4 (by decide) rfl (fun c => ?_) (fun c => ?_)
  · replace h := h.1 c
    refine g_iconst (pc' := 22) d_104_21 rfl ci_m1 ?_
    exact g_iret d_104_22 rt_104 h
  · replace h := h.2 c
    refine g_iloadn (pc' := 8) d_104_7 rfl rfl ?_
    obtain ⟨r6, w4, hk5, h⟩ := h
    refine g_callS (pc' := 11) d_104_8 rfl st_104_120 (Or.inl rfl) na_24 ml_24 rfl rfl rfl rm_104_24 rfl rfl hk5 ?_
    refine g_if_eq (pc' := 14) (pt := 21) d_104_11 (by decide) rfl (fun c => ?_) (fun c => ?_)
    · replace h := h.1 c
      refine g_iconst (pc' := 22) d_104_21 rfl ci_m1 ?_
      exact g_iret d_104_22 rt_104 h
    · replace h := h.2 c
      refine g_iloadn (pc' := 15) d_104_14 rfl rfl ?_
      obtain ⟨r9, w7, hk8, h⟩ := h
      refine g_callS (pc' := 18) d_104_15 rfl st_104_120 (Or.inl rfl) na_24 ml_24 rfl rfl rfl rm_104_24 rfl rfl hk8 ?_
      refine g_if_ne (pc' := 21) (pt := 23) d_104_18 (by decide) rfl (fun c => ?_) (fun c => ?_)
      · replace h := h.1 c
        refine g_iloadn (pc' := 24) d_104_23 rfl rfl ?_
        refine g_aloadn (pc' := 25) d_104_24 rfl rfl ?_
        obtain ⟨fs10, hw11, h⟩ := h
        obtain ⟨x12, hv13, h⟩ := h
        refine g_getf (pc' := 28) d_104_25 rfl st_104_49 hw11 hv13 ?_
        refine g_ic_gt (pc' := 31) (pt := 39) d_104_28 (by decide) rfl (fun c => ?_) (fun c => ?_)
        · replace h := h.1 c
          refine g_bipush (pc' := 41) d_104_39 rfl cb_m2 ?_
          exact g_iret d_104_41 rt_104 h
        · replace h := h.2 c
          refine g_iloadn (pc' := 32) d_104_31 rfl rfl ?_
          refine g_aloadn (pc' := 33) d_104_32 rfl rfl ?_
          refine g_getf (pc' := 36) d_104_33 rfl st_104_49 hw11 hv13 ?_
          refine g_ic_le (pc' := 39) (pt := 42) d_104_36 (by decide) rfl (fun c => ?_) (fun c => ?_)
          · replace h := h.1 c
            refine g_aloadn (pc' := 43) d_104_42 rfl rfl ?_
            obtain ⟨b14, hv15, h⟩ := h
            refine g_getf (pc' := 46) d_104_43 rfl st_104_58 hw11 hv15 ?_
            refine g_iloadn (pc' := 47) d_104_46 rfl rfl ?_
            refine g_iloadn (pc' := 48) d_104_47 rfl rfl ?_
            refine g_iloadn (pc' := 49) d_104_48 rfl rfl ?_
            obtain ⟨fs16, hw17, h⟩ := h
            obtain ⟨r20, w18, hk19, h⟩ := h
            refine g_callV (pc' := 52) d_104_49 rfl st_104_268 na_105 ml_105 rfl rfl rfl rm_104_105 rfl rfl ow_105 hw17 hk19 ?_
            exact g_iret d_104_52 rt_104 h
          · replace h := h.2 c
            refine g_bipush (pc' := 41) d_104_39 rfl cb_m2 ?_
            exact g_iret d_104_41 rt_104 h
      · replace h := h.2 c
        refine g_iconst (pc' := 22) d_104_21 rfl ci_m1 ?_
        exact g_iret d_104_22 rt_104 h
-- 105 BernoulliWays$Checks.kummerTwiceOf(III)I
theorem S_105_0 {a0 : Nat} {i1 : Int32} {i2 : Int32} {i3 : Int32} {w : xW} {r : Option Value × xW} (h : ∃ fs1, w[a0]? = some (.inr (6, fs1)) ∧ ∃ r5 w3, xCall 69 [.ref a0, .int i1, .int i2] w (some (.int r5), w3) ∧ (r5 = 0 → r = (some (.int (-3 : Int32)), w3)) ∧ (¬ (r5 = 0) → ∃ fs6, w3[a0]? = some (.inr (6, fs6)) ∧ ∃ r10 w8, xCall 69 [.ref a0, .int i1, .int i3] w3 (some (.int r10), w8) ∧ (r10 = 0 → r = (some (.int (-3 : Int32)), w8)) ∧ (¬ (r10 = 0) → (¬ (i1 * (i1 - (1 : Int32))) = 0) ∧ ((irem (i2 - i3) (i1 * (i1 - (1 : Int32)))) = 0 → ∀ v12 : Int64, v12 = ((i1.toInt64) * (i1.toInt64)) → ∃ fs13, w8[a0]? = some (.inr (6, fs13)) ∧ ∃ r17 w15, xCall 70 [.ref a0, .int i2, .long v12] w8 (some (.long r17), w15) ∧ ∃ r20 w18, xCall 50 [.long (i1.toInt64), .int (i2 - (1 : Int32)), .long v12] w15 (some (.long r20), w18) ∧ ∀ v21 : Int64, v21 = (r17 * ((1 : Int64) - r20)) → ∃ fs22, w18[a0]? = some (.inr (6, fs22)) ∧ ∃ r26 w24, xCall 70 [.ref a0, .int i3, .long v12] w18 (some (.long r26), w24) ∧ ∃ r29 w27, xCall 50 [.long (i1.toInt64), .int (i3 - (1 : Int32)), .long v12] w24 (some (.long r29), w27) ∧ ∀ v30 : Int64, v30 = (r26 * ((1 : Int64) - r29)) → ∃ r33 w31, xCall 54 [.long (v21 - v30), .long v12] w27 (some (.long r33), w31) ∧ r = (some (.int (r33.toInt32)), w31)) ∧ (¬ ((irem (i2 - i3) (i1 * (i1 - (1 : Int32)))) = 0) → r = (some (.int (-3 : Int32)), w8))))) : xGo 105 0 [some (.ref a0), some (.int i1), some (.int i2), some (.int i3), none, none, none, none, none, none] [] w r := by
  refine g_aloadn (pc' := 1) d_105_0 rfl rfl ?_
  refine g_iloadn (pc' := 2) d_105_1 rfl rfl ?_
  refine g_iloadn (pc' := 3) d_105_2 rfl rfl ?_
  obtain ⟨fs1, hw2, h⟩ := h
  obtain ⟨r5, w3, hk4, h⟩ := h
  refine g_callV (pc' := 6) d_105_3 rfl st_105_66 na_69 ml_69 rfl rfl rfl rm_105_69 rfl rfl ow_69 hw2 hk4 ?_
  refine g_if_eq (pc' := 9) (pt := 30) d_105_6 (by decide) rfl (fun c => ?_) (fun c => ?_)
  · replace h := h.1 c
    refine g_bipush (pc' := 32) d_105_30 rfl cb_m3 ?_
    exact g_iret d_105_32 rt_105 h
  · replace h := h.2 c
    refine g_aloadn (pc' := 10) d_105_9 rfl rfl ?_
    refine g_iloadn (pc' := 11) d_105_10 rfl rfl ?_
    refine g_iloadn (pc' := 12) d_105_11 rfl rfl ?_
    obtain ⟨fs6, hw7, h⟩ := h
    obtain ⟨r10, w8, hk9, h⟩ := h
    refine g_callV (pc' := 15) d_105_12 rfl st_105_66 na_69 ml_69 rfl rfl rfl rm_105_69 rfl rfl ow_69 hw7 hk9 ?_
    refine g_if_eq (pc' := 18) (pt := 30) d_105_15 (by decide) rfl (fun c => ?_) (fun c => ?_)
    · replace h := h.1 c
      refine g_bipush (pc' := 32) d_105_30 rfl cb_m3 ?_
      exact g_iret d_105_32 rt_105 h
    · replace h := h.2 c
      refine g_iloadn (pc' := 19) d_105_18 rfl rfl ?_
      refine g_iloadn (pc' := 20) d_105_19 rfl rfl ?_
      refine g_isub (pc' := 21) d_105_20 rfl ?_
      refine g_iloadn (pc' := 22) d_105_21 rfl rfl ?_
      refine g_iloadn (pc' := 23) d_105_22 rfl rfl ?_
      refine g_iconst (pc' := 24) d_105_23 rfl ci_1 ?_
      refine g_isub (pc' := 25) d_105_24 rfl ?_
      refine g_imul (pc' := 26) d_105_25 rfl ?_
      obtain ⟨hc11, h⟩ := h
      refine g_irem (pc' := 27) d_105_26 rfl hc11 ?_
      refine g_if_eq (pc' := 30) (pt := 33) d_105_27 (by decide) rfl (fun c => ?_) (fun c => ?_)
      · replace h := h.1 c
        refine g_iloadn (pc' := 34) d_105_33 rfl rfl ?_
        refine g_i2l (pc' := 35) d_105_34 rfl ?_
        refine g_iloadn (pc' := 36) d_105_35 rfl rfl ?_
        refine g_i2l (pc' := 37) d_105_36 rfl ?_
        refine g_lmul (pc' := 38) d_105_37 rfl ?_
        have h := h _ rfl
        refine g_lstore (pc' := 40) (l' := [some (.ref a0), some (.int i1), some (.int i2), some (.int i3), some (.long (((i1.toInt64) * (i1.toInt64)))), none, none, none, none, none]) d_105_38 rfl ml_105 rfl rfl ?_
        refine g_aloadn (pc' := 41) d_105_40 rfl rfl ?_
        refine g_iloadn (pc' := 42) d_105_41 rfl rfl ?_
        refine g_lload (pc' := 44) d_105_42 rfl rfl ?_
        obtain ⟨fs13, hw14, h⟩ := h
        obtain ⟨r17, w15, hk16, h⟩ := h
        refine g_callV (pc' := 47) d_105_44 rfl st_105_70 na_70 ml_70 rfl rfl rfl rm_105_70 rfl rfl ow_70 hw14 hk16 ?_
        refine g_lconst (pc' := 48) d_105_47 rfl cl_1 ?_
        refine g_iloadn (pc' := 49) d_105_48 rfl rfl ?_
        refine g_i2l (pc' := 50) d_105_49 rfl ?_
        refine g_iloadn (pc' := 51) d_105_50 rfl rfl ?_
        refine g_iconst (pc' := 52) d_105_51 rfl ci_1 ?_
        refine g_isub (pc' := 53) d_105_52 rfl ?_
        refine g_lload (pc' := 55) d_105_53 rfl rfl ?_
        obtain ⟨r20, w18, hk19, h⟩ := h
        refine g_callS (pc' := 58) d_105_55 rfl st_105_80 (Or.inl rfl) na_50 ml_50 rfl rfl rfl rm_105_50 rfl rfl hk19 ?_
        refine g_lsub (pc' := 59) d_105_58 rfl ?_
        refine g_lmul (pc' := 60) d_105_59 rfl ?_
        have h := h _ rfl
        refine g_lstore (pc' := 62) (l' := [some (.ref a0), some (.int i1), some (.int i2), some (.int i3), some (.long (((i1.toInt64) * (i1.toInt64)))), none, some (.long ((r17 * ((1 : Int64) - r20)))), none, none, none]) d_105_60 rfl ml_105 rfl rfl ?_
        refine g_aloadn (pc' := 63) d_105_62 rfl rfl ?_
        refine g_iloadn (pc' := 64) d_105_63 rfl rfl ?_
        refine g_lload (pc' := 66) d_105_64 rfl rfl ?_
        obtain ⟨fs22, hw23, h⟩ := h
        obtain ⟨r26, w24, hk25, h⟩ := h
        refine g_callV (pc' := 69) d_105_66 rfl st_105_70 na_70 ml_70 rfl rfl rfl rm_105_70 rfl rfl ow_70 hw23 hk25 ?_
        refine g_lconst (pc' := 70) d_105_69 rfl cl_1 ?_
        refine g_iloadn (pc' := 71) d_105_70 rfl rfl ?_
        refine g_i2l (pc' := 72) d_105_71 rfl ?_
        refine g_iloadn (pc' := 73) d_105_72 rfl rfl ?_
        refine g_iconst (pc' := 74) d_105_73 rfl ci_1 ?_
        refine g_isub (pc' := 75) d_105_74 rfl ?_
        refine g_lload (pc' := 77) d_105_75 rfl rfl ?_
        obtain ⟨r29, w27, hk28, h⟩ := h
        refine g_callS (pc' := 80) d_105_77 rfl st_105_80 (Or.inl rfl) na_50 ml_50 rfl rfl rfl rm_105_50 rfl rfl hk28 ?_
        refine g_lsub (pc' := 81) d_105_80 rfl ?_
        refine g_lmul (pc' := 82) d_105_81 rfl ?_
        have h := h _ rfl
        refine g_lstore (pc' := 84) (l' := [some (.ref a0), some (.int i1), some (.int i2), some (.int i3), some (.long (((i1.toInt64) * (i1.toInt64)))), none, some (.long ((r17 * ((1 : Int64) - r20)))), none, some (.long ((r26 * ((1 : Int64) - r29)))), none]) d_105_82 rfl ml_105 rfl rfl ?_
        refine g_lload (pc' := 86) d_105_84 rfl rfl ?_
        refine g_lload (pc' := 88) d_105_86 rfl rfl ?_
        refine g_lsub (pc' := 89) d_105_88 rfl ?_
        refine g_lload (pc' := 91) d_105_89 rfl rfl ?_
        obtain ⟨r33, w31, hk32, h⟩ := h
        refine g_callS (pc' := 94) d_105_91 rfl st_105_74 (Or.inl rfl) na_54 ml_54 rfl rfl rfl rm_105_54 rfl rfl hk32 ?_
        refine g_l2i (pc' := 95) d_105_94 rfl ?_
        exact g_iret d_105_95 rt_105 h
      · replace h := h.2 c
        refine g_bipush (pc' := 32) d_105_30 rfl cb_m3 ?_
        exact g_iret d_105_32 rt_105 h
-- 106 BernoulliWays.tests(I)I
theorem S_106_0 {a0 : Nat} {i1 : Int32} {w : xW} {r : Option Value × xW} (h : ∃ r3 w1, xCall 24 [.int i1] w (some (.int r3), w1) ∧ (¬ r3 = 0 → ∃ fs4, w1[a0]? = some (.inr (0, fs4)) ∧ ∃ x6, fs4[7]? = some (.int x6) ∧ (i1 ≤ x6 → ∃ b8, fs4[8]? = some (.ref b8) ∧ ∃ fs10, w1[b8]? = some (.inr (6, fs10)) ∧ ∃ r14 w12, xCall 61 [.ref b8, .int i1, .int (63 : Int32)] w1 (some (.int r14), w12) ∧ r = (some (.int r14), w12)) ∧ (¬ (i1 ≤ x6) → r = (some (.int (-2 : Int32)), w1))) ∧ (¬ (¬ r3 = 0) → r = (some (.int (-1 : Int32)), w1))) : xGo 106 0 [some (.ref a0), some (.int i1)] [] w r := by
  refine g_iloadn (pc' := 1) d_106_0 rfl rfl ?_
  obtain ⟨r3, w1, hk2, h⟩ := h
  refine g_callS (pc' := 4) d_106_1 rfl st_106_120 (Or.inl rfl) na_24 ml_24 rfl rfl rfl rm_106_24 rfl rfl hk2 ?_
  refine g_if_ne (pc' := 7) (pt := 9) d_106_4 (by decide) rfl (fun c => ?_) (fun c => ?_)
  · replace h := h.1 c
    refine g_iloadn (pc' := 10) d_106_9 rfl rfl ?_
    refine g_aloadn (pc' := 11) d_106_10 rfl rfl ?_
    obtain ⟨fs4, hw5, h⟩ := h
    obtain ⟨x6, hv7, h⟩ := h
    refine g_getf (pc' := 14) d_106_11 rfl st_106_49 hw5 hv7 ?_
    refine g_ic_le (pc' := 17) (pt := 22) d_106_14 (by decide) rfl (fun c => ?_) (fun c => ?_)
    · replace h := h.1 c
      refine g_aloadn (pc' := 23) d_106_22 rfl rfl ?_
      obtain ⟨b8, hv9, h⟩ := h
      refine g_getf (pc' := 26) d_106_23 rfl st_106_58 hw5 hv9 ?_
      refine g_iloadn (pc' := 27) d_106_26 rfl rfl ?_
      refine g_bipush (pc' := 29) d_106_27 rfl cb_63 ?_
      obtain ⟨fs10, hw11, h⟩ := h
      obtain ⟨r14, w12, hk13, h⟩ := h
      refine g_callV (pc' := 32) d_106_29 rfl st_106_142 na_61 ml_61 rfl rfl rfl rm_106_61 rfl rfl ow_61 hw11 hk13 ?_
      exact g_iret d_106_32 rt_106 h
    · replace h := h.2 c
      refine g_bipush (pc' := 19) d_106_17 rfl cb_m2 ?_
      refine g_goto (pt := 32) d_106_19 (by decide) ?_
      exact g_iret d_106_32 rt_106 h
  · replace h := h.2 c
    refine g_iconst (pc' := 8) d_106_7 rfl ci_m1 ?_
    exact g_iret d_106_8 rt_106 h
-- 107 BernoulliWays.suspects(I)J
theorem S_107_0 {a0 : Nat} {i1 : Int32} {w : xW} {r : Option Value × xW} (h : ∃ r3 w1, xCall 76 [.int i1] w (some (.int r3), w1) ∧ (r3 = 0 → r = (some (.long (-9223372036854775808 : Int64)), w1)) ∧ (¬ (r3 = 0) → ∃ fs4, w1[a0]? = some (.inr (0, fs4)) ∧ ∃ r8 w6, xCall 77 [.ref a0, .int i1] w1 (some (.long r8), w6) ∧ r = (some (.long r8), w6))) : xGo 107 0 [some (.ref a0), some (.int i1)] [] w r := by
  refine g_iloadn (pc' := 1) d_107_0 rfl rfl ?_
  obtain ⟨r3, w1, hk2, h⟩ := h
  refine g_callS (pc' := 4) d_107_1 rfl st_107_146 (Or.inl rfl) na_76 ml_76 rfl rfl rfl rm_107_76 rfl rfl hk2 ?_
  refine g_if_eq (pc' := 7) (pt := 15) d_107_4 (by decide) rfl (fun c => ?_) (fun c => ?_)
  · replace h := h.1 c
    refine g_ldc2 (pc' := 18) d_107_15 rfl st_107_166 cL_m9223372036854775808 ?_
    exact g_lret d_107_18 rt_107 h
  · replace h := h.2 c
    refine g_aloadn (pc' := 8) d_107_7 rfl rfl ?_
    refine g_iloadn (pc' := 9) d_107_8 rfl rfl ?_
    obtain ⟨fs4, hw5, h⟩ := h
    obtain ⟨r8, w6, hk7, h⟩ := h
    refine g_callV (pc' := 12) d_107_9 rfl st_107_149 na_77 ml_77 rfl rfl rfl rm_107_77 rfl rfl ow_77 hw5 hk7 ?_
    refine g_goto (pt := 18) d_107_12 (by decide) ?_
    exact g_lret d_107_18 rt_107 h
-- 108 BernoulliWays.broken(I)I
theorem S_108_0 {a0 : Nat} {i1 : Int32} {w : xW} {r : Option Value × xW} (h : (i1 < 0 → r = (some (.int (-1 : Int32)), w)) ∧ (¬ (i1 < 0) → (i1 ≤ (1 : Int32) → xGo 108 19 [some (.ref a0), some (.int i1), some (.int (-2 : Int32)), some (.int (0 : Int32)), some (.int (1 : Int32))] [] w r) ∧ (¬ (i1 ≤ (1 : Int32)) → r = (some (.int (-1 : Int32)), w)))) : xGo 108 0 [some (.ref a0), some (.int i1), none, none, none] [] w r := by
  refine g_iloadn (pc' := 1) d_108_0 rfl rfl ?_
  refine g_if_lt (pc' := 4) (pt := 9) d_108_1 (by decide) rfl (fun c => ?_) (fun c => ?_)
  · replace h := h.1 c
    refine g_iconst (pc' := 10) d_108_9 rfl ci_m1 ?_
    exact g_iret d_108_10 rt_108 h
  · replace h := h.2 c
    refine g_iloadn (pc' := 5) d_108_4 rfl rfl ?_
    refine g_iconst (pc' := 6) d_108_5 rfl ci_1 ?_
    refine g_ic_le (pc' := 9) (pt := 11) d_108_6 (by decide) rfl (fun c => ?_) (fun c => ?_)
    · replace h := h.1 c
      refine g_bipush (pc' := 13) d_108_11 rfl cb_m2 ?_
      refine g_istoren (pc' := 14) (l' := [some (.ref a0), some (.int i1), some (.int (-2 : Int32)), none, none]) d_108_13 rfl ml_108 rfl rfl ?_
      refine g_iconst (pc' := 15) d_108_14 rfl ci_0 ?_
      refine g_istoren (pc' := 16) (l' := [some (.ref a0), some (.int i1), some (.int (-2 : Int32)), some (.int (0 : Int32)), none]) d_108_15 rfl ml_108 rfl rfl ?_
      refine g_iconst (pc' := 17) d_108_16 rfl ci_1 ?_
      refine g_istore (pc' := 19) (l' := [some (.ref a0), some (.int i1), some (.int (-2 : Int32)), some (.int (0 : Int32)), some (.int (1 : Int32))]) d_108_17 rfl ml_108 rfl rfl ?_
      exact h
    · replace h := h.2 c
      refine g_iconst (pc' := 10) d_108_9 rfl ci_m1 ?_
      exact g_iret d_108_10 rt_108 h
theorem S_108_19 {a0 : Nat} {i1 : Int32} {i2 : Int32} {i3 : Int32} {i4 : Int32} {w : xW} {r : Option Value × xW} (h : ∃ fs1, w[a0]? = some (.inr (0, fs1)) ∧ ∃ x3, fs1[7]? = some (.int x3) ∧ (x3 < i4 → (¬ i1 = 0 → r = (some (.int i3), w)) ∧ (¬ (¬ i1 = 0) → r = (some (.int i2), w))) ∧ (¬ (x3 < i4) → ∃ b5, fs1[8]? = some (.ref b5) ∧ ∃ fs7, w[b5]? = some (.inr (6, fs7)) ∧ ∃ r11 w9, xCall 61 [.ref b5, .int i4, .int (4 : Int32)] w (some (.int r11), w9) ∧ (¬ r11 = 0 → (¬ i3 = 0 → ∀ v12 : Int32, v12 = i3 + (1 : Int32) → ∀ v13 : Int32, v13 = i4 + (1 : Int32) → xGo 108 19 [some (.ref a0), some (.int i1), some (.int i2), some (.int v12), some (.int v13)] [] w9 r) ∧ (¬ (¬ i3 = 0) → ∀ v14 : Int32, v14 = i3 + (1 : Int32) → ∀ v15 : Int32, v15 = i4 + (1 : Int32) → xGo 108 19 [some (.ref a0), some (.int i1), some (.int i4), some (.int v14), some (.int v15)] [] w9 r)) ∧ (¬ (¬ r11 = 0) → ∀ v16 : Int32, v16 = i4 + (1 : Int32) → xGo 108 19 [some (.ref a0), some (.int i1), some (.int i2), some (.int i3), some (.int v16)] [] w9 r))) : xGo 108 19 [some (.ref a0), some (.int i1), some (.int i2), some (.int i3), some (.int i4)] [] w r := by
  refine g_iload (pc' := 21) d_108_19 rfl rfl ?_
  refine g_aloadn (pc' := 22) d_108_21 rfl rfl ?_
  obtain ⟨fs1, hw2, h⟩ := h
  obtain ⟨x3, hv4, h⟩ := h
  refine g_getf (pc' := 25) d_108_22 rfl st_108_49 hw2 hv4 ?_
  refine g_ic_gt (pc' := 28) (pt := 60) d_108_25 (by decide) rfl (fun c => ?_) (fun c => ?_)
  · replace h := h.1 c
    refine g_iloadn (pc' := 61) d_108_60 rfl rfl ?_
    refine g_if_ne (pc' := 64) (pt := 68) d_108_61 (by decide) rfl (fun c => ?_) (fun c => ?_)
    · replace h := h.1 c
      refine g_iloadn (pc' := 69) d_108_68 rfl rfl ?_
      exact g_iret d_108_69 rt_108 h
    · replace h := h.2 c
      refine g_iloadn (pc' := 65) d_108_64 rfl rfl ?_
      refine g_goto (pt := 69) d_108_65 (by decide) ?_
      exact g_iret d_108_69 rt_108 h
  · replace h := h.2 c
    refine g_aloadn (pc' := 29) d_108_28 rfl rfl ?_
    obtain ⟨b5, hv6, h⟩ := h
    refine g_getf (pc' := 32) d_108_29 rfl st_108_58 hw2 hv6 ?_
    refine g_iload (pc' := 34) d_108_32 rfl rfl ?_
    refine g_iconst (pc' := 35) d_108_34 rfl ci_4 ?_
    obtain ⟨fs7, hw8, h⟩ := h
    obtain ⟨r11, w9, hk10, h⟩ := h
    refine g_callV (pc' := 38) d_108_35 rfl st_108_142 na_61 ml_61 rfl rfl rfl rm_108_61 rfl rfl ow_61 hw8 hk10 ?_
    refine g_if_ne (pc' := 41) (pt := 44) d_108_38 (by decide) rfl (fun c => ?_) (fun c => ?_)
    · replace h := h.1 c
      refine g_iloadn (pc' := 45) d_108_44 rfl rfl ?_
      refine g_if_ne (pc' := 48) (pt := 51) d_108_45 (by decide) rfl (fun c => ?_) (fun c => ?_)
      · replace h := h.1 c
        have h := h _ rfl
        refine g_iinc (pc' := 54) (l' := [some (.ref a0), some (.int i1), some (.int i2), some (.int (i3 + (1 : Int32))), some (.int i4)]) d_108_51 rfl rfl ci_1 ml_108 rfl rfl ?_
        have h := h _ rfl
        refine g_iinc (pc' := 57) (l' := [some (.ref a0), some (.int i1), some (.int i2), some (.int (i3 + (1 : Int32))), some (.int (i4 + (1 : Int32)))]) d_108_54 rfl rfl ci_1 ml_108 rfl rfl ?_
        refine g_goto (pt := 19) d_108_57 (by decide) ?_
        exact h
      · replace h := h.2 c
        refine g_iload (pc' := 50) d_108_48 rfl rfl ?_
        refine g_istoren (pc' := 51) (l' := [some (.ref a0), some (.int i1), some (.int i4), some (.int i3), some (.int i4)]) d_108_50 rfl ml_108 rfl rfl ?_
        have h := h _ rfl
        refine g_iinc (pc' := 54) (l' := [some (.ref a0), some (.int i1), some (.int i4), some (.int (i3 + (1 : Int32))), some (.int i4)]) d_108_51 rfl rfl ci_1 ml_108 rfl rfl ?_
        have h := h _ rfl
        refine g_iinc (pc' := 57) (l' := [some (.ref a0), some (.int i1), some (.int i4), some (.int (i3 + (1 : Int32))), some (.int (i4 + (1 : Int32)))]) d_108_54 rfl rfl ci_1 ml_108 rfl rfl ?_
        refine g_goto (pt := 19) d_108_57 (by decide) ?_
        exact h
    · replace h := h.2 c
      refine g_goto (pt := 54) d_108_41 (by decide) ?_
      have h := h _ rfl
      refine g_iinc (pc' := 57) (l' := [some (.ref a0), some (.int i1), some (.int i2), some (.int i3), some (.int (i4 + (1 : Int32)))]) d_108_54 rfl rfl ci_1 ml_108 rfl rfl ?_
      refine g_goto (pt := 19) d_108_57 (by decide) ?_
      exact h
-- 109 BernoulliWays.culprit(I)I
theorem S_109_0 {a0 : Nat} {i1 : Int32} {w : xW} {r : Option Value × xW} (h : ∃ r3 w1, xCall 76 [.int i1] w (some (.int r3), w1) ∧ (¬ r3 = 0 → ∃ fs4, w1[a0]? = some (.inr (0, fs4)) ∧ ∃ r8 w6, xCall 110 [.ref a0, .int i1] w1 (some (.int r8), w6) ∧ ∃ fs9, w6[a0]? = some (.inr (0, fs9)) ∧ ∃ b11, fs9[5]? = some (.ref b11) ∧ ∃ b13, fs9[4]? = some (.ref b13) ∧ ∃ fs15, w6[b11]? = some (.inr (4, fs15)) ∧ ∃ w17, xCall 111 [.ref b11, .ref b13] w6 (none, w17) ∧ xGo 109 32 [some (.ref a0), some (.int i1), some (.int r8), some (.int (-2 : Int32)), some (.int (0 : Int32)), none] [] w17 r) ∧ (¬ (¬ r3 = 0) → r = (some (.int (-1 : Int32)), w1))) : xGo 109 0 [some (.ref a0), some (.int i1), none, none, none, none] [] w r := by
  refine g_iloadn (pc' := 1) d_109_0 rfl rfl ?_
  obtain ⟨r3, w1, hk2, h⟩ := h
  refine g_callS (pc' := 4) d_109_1 rfl st_109_146 (Or.inl rfl) na_76 ml_76 rfl rfl rfl rm_109_76 rfl rfl hk2 ?_
  refine g_if_ne (pc' := 7) (pt := 9) d_109_4 (by decide) rfl (fun c => ?_) (fun c => ?_)
  · replace h := h.1 c
    refine g_aloadn (pc' := 10) d_109_9 rfl rfl ?_
    refine g_iloadn (pc' := 11) d_109_10 rfl rfl ?_
    obtain ⟨fs4, hw5, h⟩ := h
    obtain ⟨r8, w6, hk7, h⟩ := h
    refine g_callV (pc' := 14) d_109_11 rfl st_109_271 na_110 ml_110 rfl rfl rfl rm_109_110 rfl rfl ow_110 hw5 hk7 ?_
    refine g_istoren (pc' := 15) (l' := [some (.ref a0), some (.int i1), some (.int r8), none, none, none]) d_109_14 rfl ml_109 rfl rfl ?_
    refine g_bipush (pc' := 17) d_109_15 rfl cb_m2 ?_
    refine g_istoren (pc' := 18) (l' := [some (.ref a0), some (.int i1), some (.int r8), some (.int (-2 : Int32)), none, none]) d_109_17 rfl ml_109 rfl rfl ?_
    refine g_aloadn (pc' := 19) d_109_18 rfl rfl ?_
    obtain ⟨fs9, hw10, h⟩ := h
    obtain ⟨b11, hv12, h⟩ := h
    refine g_getf (pc' := 22) d_109_19 rfl st_109_42 hw10 hv12 ?_
    refine g_aloadn (pc' := 23) d_109_22 rfl rfl ?_
    obtain ⟨b13, hv14, h⟩ := h
    refine g_getf (pc' := 26) d_109_23 rfl st_109_39 hw10 hv14 ?_
    obtain ⟨fs15, hw16, h⟩ := h
    obtain ⟨w17, hk18, h⟩ := h
    refine g_callV (pc' := 29) d_109_26 rfl st_109_274 na_111 ml_111 rfl rfl rfl rm_109_111 rfl rfl ow_111 hw16 hk18 ?_
    refine g_iconst (pc' := 30) d_109_29 rfl ci_0 ?_
    refine g_istore (pc' := 32) (l' := [some (.ref a0), some (.int i1), some (.int r8), some (.int (-2 : Int32)), some (.int (0 : Int32)), none]) d_109_30 rfl ml_109 rfl rfl ?_
    exact h
  · replace h := h.2 c
    refine g_iconst (pc' := 8) d_109_7 rfl ci_m1 ?_
    exact g_iret d_109_8 rt_109 h
theorem S_109_32 {a0 : Nat} {i1 : Int32} {i2 : Int32} {i3 : Int32} {i4 : Int32} {w : xW} {r : Option Value × xW} (h : ∃ fs1, w[a0]? = some (.inr (0, fs1)) ∧ ∃ x3, fs1[7]? = some (.int x3) ∧ (x3 < i4 → r = (some (.int i3), w)) ∧ (¬ (x3 < i4) → (0 ≤ i3 → r = (some (.int i3), w)) ∧ (¬ (0 ≤ i3) → ∃ r7 w5, xCall 27 [.ref a0, .int i4] w (some (.int r7), w5) ∧ (¬ r7 = 0 → (i2 = 0 → ∀ v8 : Int32, v8 = i4 + (1 : Int32) → xGo 109 32 [some (.ref a0), some (.int i1), some (.int i2), some (.int i3), some (.int v8), none] [] w5 r) ∧ (¬ (i2 = 0) → ∀ v9 : Int32, v9 = i4 + (1 : Int32) → xGo 109 32 [some (.ref a0), some (.int i1), some (.int i2), some (.int i4), some (.int v9), none] [] w5 r)) ∧ (¬ (¬ r7 = 0) → ∃ fs10, w5[a0]? = some (.inr (0, fs10)) ∧ ∃ b12, fs10[3]? = some (.ref b12) ∧ ∃ b14, fs10[13]? = some (.ref b14) ∧ ∃ fs16, w5[b12]? = some (.inr (4, fs16)) ∧ ∃ w18, xCall 100 [.ref b12, .int i4, .ref b14] w5 (none, w18) ∧ ∃ fs20, w18[a0]? = some (.inr (0, fs20)) ∧ ∃ b22, fs20[4]? = some (.ref b22) ∧ ∃ b24, fs20[13]? = some (.ref b24) ∧ ∃ fs26, w18[b22]? = some (.inr (4, fs26)) ∧ ∃ w28, xCall 20 [.ref b22, .int i4, .ref b24] w18 (none, w28) ∧ ∃ fs30, w28[a0]? = some (.inr (0, fs30)) ∧ ∃ r34 w32, xCall 110 [.ref a0, .int i1] w28 (some (.int r34), w32) ∧ ∃ fs35, w32[a0]? = some (.inr (0, fs35)) ∧ ∃ b37, fs35[4]? = some (.ref b37) ∧ ∃ b39, fs35[5]? = some (.ref b39) ∧ ∃ fs41, w32[b37]? = some (.inr (4, fs41)) ∧ ∃ w43, xCall 111 [.ref b37, .ref b39] w32 (none, w43) ∧ (r34 = 0 → ∀ v45 : Int32, v45 = i4 + (1 : Int32) → xGo 109 32 [some (.ref a0), some (.int i1), some (.int i2), some (.int i3), some (.int v45), none] [] w43 r) ∧ (¬ (r34 = 0) → ∀ v46 : Int32, v46 = i4 + (1 : Int32) → xGo 109 32 [some (.ref a0), some (.int i1), some (.int i2), some (.int i4), some (.int v46), none] [] w43 r))))) : xGo 109 32 [some (.ref a0), some (.int i1), some (.int i2), some (.int i3), some (.int i4), none] [] w r := by
  refine g_iload (pc' := 34) d_109_32 rfl rfl ?_
  refine g_aloadn (pc' := 35) d_109_34 rfl rfl ?_
  obtain ⟨fs1, hw2, h⟩ := h
  obtain ⟨x3, hv4, h⟩ := h
  refine g_getf (pc' := 38) d_109_35 rfl st_109_49 hw2 hv4 ?_
  refine g_ic_gt (pc' := 41) (pt := 115) d_109_38 (by decide) rfl (fun c => ?_) (fun c => ?_)
  · replace h := h.1 c
    refine g_iloadn (pc' := 116) d_109_115 rfl rfl ?_
    exact g_iret d_109_116 rt_109 h
  · replace h := h.2 c
    refine g_iloadn (pc' := 42) d_109_41 rfl rfl ?_
    refine g_if_ge (pc' := 45) (pt := 115) d_109_42 (by decide) rfl (fun c => ?_) (fun c => ?_)
    · replace h := h.1 c
      refine g_iloadn (pc' := 116) d_109_115 rfl rfl ?_
      exact g_iret d_109_116 rt_109 h
    · replace h := h.2 c
      refine g_iloadn (pc' := 46) d_109_45 rfl rfl ?_
      refine g_istore (pc' := 48) (l' := [some (.ref a0), some (.int i1), some (.int i2), some (.int i3), some (.int i4), some (.int i2)]) d_109_46 rfl ml_109 rfl rfl ?_
      refine g_aloadn (pc' := 49) d_109_48 rfl rfl ?_
      refine g_iload (pc' := 51) d_109_49 rfl rfl ?_
      obtain ⟨r7, w5, hk6, h⟩ := h
      refine g_callV (pc' := 54) d_109_51 rfl st_109_174 na_27 ml_27 rfl rfl rfl rm_109_27 rfl rfl ow_27 hw2 hk6 ?_
      refine g_if_ne (pc' := 57) (pt := 101) d_109_54 (by decide) rfl (fun c => ?_) (fun c => ?_)
      · replace h := h.1 c
        refine g_iload (pc' := 103) d_109_101 rfl rfl ?_
        refine g_if_eq (pc' := 106) (pt := 109) d_109_103 (by decide) rfl (fun c => ?_) (fun c => ?_)
        · replace h := h.1 c
          have h := h _ rfl
          refine g_iinc (pc' := 112) (l' := [some (.ref a0), some (.int i1), some (.int i2), some (.int i3), some (.int (i4 + (1 : Int32))), some (.int i2)]) d_109_109 rfl rfl ci_1 ml_109 rfl rfl ?_
          refine g_goto (pt := 32) d_109_112 (by decide) ?_
          exact xGo.more (xle_s (xle_s (xle_s (xle_s (xle_s (xle_n xle_0)))))) h
        · replace h := h.2 c
          refine g_iload (pc' := 108) d_109_106 rfl rfl ?_
          refine g_istoren (pc' := 109) (l' := [some (.ref a0), some (.int i1), some (.int i2), some (.int i4), some (.int i4), some (.int i2)]) d_109_108 rfl ml_109 rfl rfl ?_
          have h := h _ rfl
          refine g_iinc (pc' := 112) (l' := [some (.ref a0), some (.int i1), some (.int i2), some (.int i4), some (.int (i4 + (1 : Int32))), some (.int i2)]) d_109_109 rfl rfl ci_1 ml_109 rfl rfl ?_
          refine g_goto (pt := 32) d_109_112 (by decide) ?_
          exact xGo.more (xle_s (xle_s (xle_s (xle_s (xle_s (xle_n xle_0)))))) h
      · replace h := h.2 c
        refine g_aloadn (pc' := 58) d_109_57 rfl rfl ?_
        obtain ⟨fs10, hw11, h⟩ := h
        obtain ⟨b12, hv13, h⟩ := h
        refine g_getf (pc' := 61) d_109_58 rfl st_109_35 hw11 hv13 ?_
        refine g_iload (pc' := 63) d_109_61 rfl rfl ?_
        refine g_aloadn (pc' := 64) d_109_63 rfl rfl ?_
        obtain ⟨b14, hv15, h⟩ := h
        refine g_getf (pc' := 67) d_109_64 rfl st_109_95 hw11 hv15 ?_
        obtain ⟨fs16, hw17, h⟩ := h
        obtain ⟨w18, hk19, h⟩ := h
        refine g_callV (pc' := 70) d_109_67 rfl st_109_168 na_100 ml_100 rfl rfl rfl rm_109_100 rfl rfl ow_100 hw17 hk19 ?_
        refine g_aloadn (pc' := 71) d_109_70 rfl rfl ?_
        obtain ⟨fs20, hw21, h⟩ := h
        obtain ⟨b22, hv23, h⟩ := h
        refine g_getf (pc' := 74) d_109_71 rfl st_109_39 hw21 hv23 ?_
        refine g_iload (pc' := 76) d_109_74 rfl rfl ?_
        refine g_aloadn (pc' := 77) d_109_76 rfl rfl ?_
        obtain ⟨b24, hv25, h⟩ := h
        refine g_getf (pc' := 80) d_109_77 rfl st_109_95 hw21 hv25 ?_
        obtain ⟨fs26, hw27, h⟩ := h
        obtain ⟨w28, hk29, h⟩ := h
        refine g_callV (pc' := 83) d_109_80 rfl st_109_114 na_20 ml_20 rfl rfl rfl rm_109_20 rfl rfl ow_20 hw27 hk29 ?_
        refine g_aloadn (pc' := 84) d_109_83 rfl rfl ?_
        refine g_iloadn (pc' := 85) d_109_84 rfl rfl ?_
        obtain ⟨fs30, hw31, h⟩ := h
        obtain ⟨r34, w32, hk33, h⟩ := h
        refine g_callV (pc' := 88) d_109_85 rfl st_109_271 na_110 ml_110 rfl rfl rfl rm_109_110 rfl rfl ow_110 hw31 hk33 ?_
        refine g_istore (pc' := 90) (l' := [some (.ref a0), some (.int i1), some (.int i2), some (.int i3), some (.int i4), some (.int r34)]) d_109_88 rfl ml_109 rfl rfl ?_
        refine g_aloadn (pc' := 91) d_109_90 rfl rfl ?_
        obtain ⟨fs35, hw36, h⟩ := h
        obtain ⟨b37, hv38, h⟩ := h
        refine g_getf (pc' := 94) d_109_91 rfl st_109_39 hw36 hv38 ?_
        refine g_aloadn (pc' := 95) d_109_94 rfl rfl ?_
        obtain ⟨b39, hv40, h⟩ := h
        refine g_getf (pc' := 98) d_109_95 rfl st_109_42 hw36 hv40 ?_
        obtain ⟨fs41, hw42, h⟩ := h
        obtain ⟨w43, hk44, h⟩ := h
        refine g_callV (pc' := 101) d_109_98 rfl st_109_274 na_111 ml_111 rfl rfl rfl rm_109_111 rfl rfl ow_111 hw42 hk44 ?_
        refine g_iload (pc' := 103) d_109_101 rfl rfl ?_
        refine g_if_eq (pc' := 106) (pt := 109) d_109_103 (by decide) rfl (fun c => ?_) (fun c => ?_)
        · replace h := h.1 c
          have h := h _ rfl
          refine g_iinc (pc' := 112) (l' := [some (.ref a0), some (.int i1), some (.int i2), some (.int i3), some (.int (i4 + (1 : Int32))), some (.int r34)]) d_109_109 rfl rfl ci_1 ml_109 rfl rfl ?_
          refine g_goto (pt := 32) d_109_112 (by decide) ?_
          exact xGo.more (xle_s (xle_s (xle_s (xle_s (xle_s (xle_n xle_0)))))) h
        · replace h := h.2 c
          refine g_iload (pc' := 108) d_109_106 rfl rfl ?_
          refine g_istoren (pc' := 109) (l' := [some (.ref a0), some (.int i1), some (.int i2), some (.int i4), some (.int i4), some (.int r34)]) d_109_108 rfl ml_109 rfl rfl ?_
          have h := h _ rfl
          refine g_iinc (pc' := 112) (l' := [some (.ref a0), some (.int i1), some (.int i2), some (.int i4), some (.int (i4 + (1 : Int32))), some (.int r34)]) d_109_109 rfl rfl ci_1 ml_109 rfl rfl ?_
          refine g_goto (pt := 32) d_109_112 (by decide) ?_
          exact xGo.more (xle_s (xle_s (xle_s (xle_s (xle_s (xle_n xle_0)))))) h
-- 110 BernoulliWays.allPass(I)Z
theorem S_110_0 {a0 : Nat} {i1 : Int32} {w : xW} {r : Option Value × xW} (h : xGo 110 2 [some (.ref a0), some (.int i1), some (.int (0 : Int32))] [] w r) : xGo 110 0 [some (.ref a0), some (.int i1), none] [] w r := by
  refine g_iconst (pc' := 1) d_110_0 rfl ci_0 ?_
  refine g_istoren (pc' := 2) (l' := [some (.ref a0), some (.int i1), some (.int (0 : Int32))]) d_110_1 rfl ml_110 rfl rfl ?_
  exact h
theorem S_110_2 {a0 : Nat} {i1 : Int32} {i2 : Int32} {w : xW} {r : Option Value × xW} (h : ∃ fs1, w[a0]? = some (.inr (0, fs1)) ∧ ∃ x3, fs1[7]? = some (.int x3) ∧ (x3 < i2 → r = (some (.int (1 : Int32)), w)) ∧ (¬ (x3 < i2) → ∃ b5, fs1[8]? = some (.ref b5) ∧ ∃ fs7, w[b5]? = some (.inr (6, fs7)) ∧ ∃ r11 w9, xCall 61 [.ref b5, .int i2, .int i1] w (some (.int r11), w9) ∧ (r11 = 0 → ∀ v12 : Int32, v12 = i2 + (1 : Int32) → xGo 110 2 [some (.ref a0), some (.int i1), some (.int v12)] [] w9 r) ∧ (¬ (r11 = 0) → r = (some (.int (0 : Int32)), w9)))) : xGo 110 2 [some (.ref a0), some (.int i1), some (.int i2)] [] w r := by
  refine g_iloadn (pc' := 3) d_110_2 rfl rfl ?_
  refine g_aloadn (pc' := 4) d_110_3 rfl rfl ?_
  obtain ⟨fs1, hw2, h⟩ := h
  obtain ⟨x3, hv4, h⟩ := h
  refine g_getf (pc' := 7) d_110_4 rfl st_110_49 hw2 hv4 ?_
  refine g_ic_gt (pc' := 10) (pt := 30) d_110_7 (by decide) rfl (fun c => ?_) (fun c => ?_)
  · replace h := h.1 c
    refine g_iconst (pc' := 31) d_110_30 rfl ci_1 ?_
    exact g_zret d_110_31 rt_110 (Or.inr rfl) h
  · replace h := h.2 c
    refine g_aloadn (pc' := 11) d_110_10 rfl rfl ?_
    obtain ⟨b5, hv6, h⟩ := h
    refine g_getf (pc' := 14) d_110_11 rfl st_110_58 hw2 hv6 ?_
    refine g_iloadn (pc' := 15) d_110_14 rfl rfl ?_
    refine g_iloadn (pc' := 16) d_110_15 rfl rfl ?_
    obtain ⟨fs7, hw8, h⟩ := h
    obtain ⟨r11, w9, hk10, h⟩ := h
    refine g_callV (pc' := 19) d_110_16 rfl st_110_142 na_61 ml_61 rfl rfl rfl rm_110_61 rfl rfl ow_61 hw8 hk10 ?_
    refine g_if_eq (pc' := 22) (pt := 24) d_110_19 (by decide) rfl (fun c => ?_) (fun c => ?_)
    · replace h := h.1 c
      have h := h _ rfl
      refine g_iinc (pc' := 27) (l' := [some (.ref a0), some (.int i1), some (.int (i2 + (1 : Int32)))]) d_110_24 rfl rfl ci_1 ml_110 rfl rfl ?_
      refine g_goto (pt := 2) d_110_27 (by decide) ?_
      exact h
    · replace h := h.2 c
      refine g_iconst (pc' := 23) d_110_22 rfl ci_0 ?_
      exact g_zret d_110_23 rt_110 (Or.inl rfl) h
-- 111 BernoulliWays$Entries.takeOver(LBernoulliWays$Entries;)V
theorem S_111_0 {a0 : Nat} {a1 : Nat} {w : xW} {r : Option Value × xW} (h : ∃ fs1, w[a1]? = some (.inr (4, fs1)) ∧ ∃ b3, fs1[0]? = some (.ref b3) ∧ ∃ fs5, w[a0]? = some (.inr (4, fs5)) ∧ ∃ b7, fs5[0]? = some (.ref b7) ∧ ∃ n9 f10, w[b3]? = some (.inl (.inr (n9, f10))) ∧ ∃ n12 f13, w[b7]? = some (.inl (.inr (n12, f13))) ∧ (¬ (39 : Int32) < 0 ∧ ¬ (0 : Int32) < 0 ∧ ¬ (0 : Int32) < 0) ∧ ((0 : Int32).toNatClampNeg + (39 : Int32).toNatClampNeg ≤ n9 ∧ (0 : Int32).toNatClampNeg + (39 : Int32).toNatClampNeg ≤ n12) ∧ ∀ w17, w17 = w.set b7 (.inl (.inr (n12, (va_cpy f10 f13 (0 : Int32).toNatClampNeg (0 : Int32).toNatClampNeg (39 : Int32).toNatClampNeg)))) → ∃ fs18, w17[a1]? = some (.inr (4, fs18)) ∧ ∃ b20, fs18[1]? = some (.ref b20) ∧ ∃ fs22, w17[a0]? = some (.inr (4, fs22)) ∧ ∃ b24, fs22[1]? = some (.ref b24) ∧ ∃ n26 f27, w17[b20]? = some (.inl (.inr (n26, f27))) ∧ ∃ n29 f30, w17[b24]? = some (.inl (.inr (n29, f30))) ∧ (¬ (39 : Int32) < 0 ∧ ¬ (0 : Int32) < 0 ∧ ¬ (0 : Int32) < 0) ∧ ((0 : Int32).toNatClampNeg + (39 : Int32).toNatClampNeg ≤ n26 ∧ (0 : Int32).toNatClampNeg + (39 : Int32).toNatClampNeg ≤ n29) ∧ ∀ w34, w34 = w17.set b24 (.inl (.inr (n29, (va_cpy f27 f30 (0 : Int32).toNatClampNeg (0 : Int32).toNatClampNeg (39 : Int32).toNatClampNeg)))) → ∃ fs35, w34[a1]? = some (.inr (4, fs35)) ∧ ∃ b37, fs35[2]? = some (.ref b37) ∧ ∃ fs39, w34[a0]? = some (.inr (4, fs39)) ∧ ∃ b41, fs39[2]? = some (.ref b41) ∧ ∃ n43 f44, w34[b37]? = some (.inl (.inr (n43, f44))) ∧ ∃ n46 f47, w34[b41]? = some (.inl (.inr (n46, f47))) ∧ (¬ (39 : Int32) < 0 ∧ ¬ (0 : Int32) < 0 ∧ ¬ (0 : Int32) < 0) ∧ ((0 : Int32).toNatClampNeg + (39 : Int32).toNatClampNeg ≤ n43 ∧ (0 : Int32).toNatClampNeg + (39 : Int32).toNatClampNeg ≤ n46) ∧ ∀ w51, w51 = w34.set b41 (.inl (.inr (n46, (va_cpy f44 f47 (0 : Int32).toNatClampNeg (0 : Int32).toNatClampNeg (39 : Int32).toNatClampNeg)))) → r = (none, w51)) : xGo 111 0 [some (.ref a0), some (.ref a1)] [] w r := by
  refine g_aloadn (pc' := 1) d_111_0 rfl rfl ?_
  obtain ⟨fs1, hw2, h⟩ := h
  obtain ⟨b3, hv4, h⟩ := h
  refine g_getf (pc' := 4) d_111_1 rfl st_111_9 hw2 hv4 ?_
  refine g_iconst (pc' := 5) d_111_4 rfl ci_0 ?_
  refine g_aloadn (pc' := 6) d_111_5 rfl rfl ?_
  obtain ⟨fs5, hw6, h⟩ := h
  obtain ⟨b7, hv8, h⟩ := h
  refine g_getf (pc' := 9) d_111_6 rfl st_111_9 hw6 hv8 ?_
  refine g_iconst (pc' := 10) d_111_9 rfl ci_0 ?_
  refine g_bipush (pc' := 12) d_111_10 rfl cb_39 ?_
  obtain ⟨n9, f10, hw11, h⟩ := h
  obtain ⟨n12, f13, hw14, h⟩ := h
  obtain ⟨hc15, h⟩ := h
  obtain ⟨hc16, h⟩ := h
  have h := h _ rfl
  refine g_cpyl (pc' := 15) d_111_12 rfl st_111_62 fr_111 lo_111 rfl hc15 hw11 hw14 hc16 ?_
  refine g_aloadn (pc' := 16) d_111_15 rfl rfl ?_
  obtain ⟨fs18, hw19, h⟩ := h
  obtain ⟨b20, hv21, h⟩ := h
  refine g_getf (pc' := 19) d_111_16 rfl st_111_15 hw19 hv21 ?_
  refine g_iconst (pc' := 20) d_111_19 rfl ci_0 ?_
  refine g_aloadn (pc' := 21) d_111_20 rfl rfl ?_
  obtain ⟨fs22, hw23, h⟩ := h
  obtain ⟨b24, hv25, h⟩ := h
  refine g_getf (pc' := 24) d_111_21 rfl st_111_15 hw23 hv25 ?_
  refine g_iconst (pc' := 25) d_111_24 rfl ci_0 ?_
  refine g_bipush (pc' := 27) d_111_25 rfl cb_39 ?_
  obtain ⟨n26, f27, hw28, h⟩ := h
  obtain ⟨n29, f30, hw31, h⟩ := h
  obtain ⟨hc32, h⟩ := h
  obtain ⟨hc33, h⟩ := h
  have h := h _ rfl
  refine g_cpyl (pc' := 30) d_111_27 rfl st_111_62 fr_111 lo_111 rfl hc32 hw28 hw31 hc33 ?_
  refine g_aloadn (pc' := 31) d_111_30 rfl rfl ?_
  obtain ⟨fs35, hw36, h⟩ := h
  obtain ⟨b37, hv38, h⟩ := h
  refine g_getf (pc' := 34) d_111_31 rfl st_111_18 hw36 hv38 ?_
  refine g_iconst (pc' := 35) d_111_34 rfl ci_0 ?_
  refine g_aloadn (pc' := 36) d_111_35 rfl rfl ?_
  obtain ⟨fs39, hw40, h⟩ := h
  obtain ⟨b41, hv42, h⟩ := h
  refine g_getf (pc' := 39) d_111_36 rfl st_111_18 hw40 hv42 ?_
  refine g_iconst (pc' := 40) d_111_39 rfl ci_0 ?_
  refine g_bipush (pc' := 42) d_111_40 rfl cb_39 ?_
  obtain ⟨n43, f44, hw45, h⟩ := h
  obtain ⟨n46, f47, hw48, h⟩ := h
  obtain ⟨hc49, h⟩ := h
  obtain ⟨hc50, h⟩ := h
  have h := h _ rfl
  refine g_cpyl (pc' := 45) d_111_42 rfl st_111_62 fr_111 lo_111 rfl hc49 hw45 hw48 hc50 ?_
  exact g_vret d_111_45 rt_111 h
-- 112 BernoulliWays.trial(III)I
theorem S_112_0 {a0 : Nat} {i1 : Int32} {i2 : Int32} {i3 : Int32} {w : xW} {r : Option Value × xW} (h : (i1 < 0 → r = (some (.int (-1 : Int32)), w)) ∧ (¬ (i1 < 0) → (i2 < (1 : Int32) → r = (some (.int (-1 : Int32)), w)) ∧ (¬ (i2 < (1 : Int32)) → ((20 : Int32) < i2 → r = (some (.int (-1 : Int32)), w)) ∧ (¬ ((20 : Int32) < i2) → ∃ r3 w1, xCall 76 [.int i3] w (some (.int r3), w1) ∧ (¬ r3 = 0 → ∃ fs4, w1[a0]? = some (.inr (0, fs4)) ∧ ∃ x6, fs4[7]? = some (.int x6) ∧ (0 ≤ x6 → ∃ b8, fs4[5]? = some (.ref b8) ∧ ∃ b10, fs4[4]? = some (.ref b10) ∧ ∃ fs12, w1[b8]? = some (.inr (4, fs12)) ∧ ∃ w14, xCall 111 [.ref b8, .ref b10] w1 (none, w14) ∧ ∃ fs16, w14[a0]? = some (.inr (0, fs16)) ∧ ∃ w18, xCall 113 [.ref a0, .int i1, .int i2] w14 (none, w18) ∧ xGo 112 57 [some (.ref a0), some (.int i1), some (.int i2), some (.int i3), some (.int (0 : Int32)), some (.int (0 : Int32))] [] w18 r) ∧ (¬ (0 ≤ x6) → r = (some (.int (-2 : Int32)), w1))) ∧ (¬ (¬ r3 = 0) → r = (some (.int (-1 : Int32)), w1)))))) : xGo 112 0 [some (.ref a0), some (.int i1), some (.int i2), some (.int i3), none, none] [] w r := by
  refine g_iloadn (pc' := 1) d_112_0 rfl rfl ?_
  refine g_if_lt (pc' := 4) (pt := 22) d_112_1 (by decide) rfl (fun c => ?_) (fun c => ?_)
  · replace h := h.1 c
    refine g_iconst (pc' := 23) d_112_22 rfl ci_m1 ?_
    exact g_iret d_112_23 rt_112 h
  · replace h := h.2 c
    refine g_iloadn (pc' := 5) d_112_4 rfl rfl ?_
    refine g_iconst (pc' := 6) d_112_5 rfl ci_1 ?_
    refine g_ic_lt (pc' := 9) (pt := 22) d_112_6 (by decide) rfl (fun c => ?_) (fun c => ?_)
    · replace h := h.1 c
      refine g_iconst (pc' := 23) d_112_22 rfl ci_m1 ?_
      exact g_iret d_112_23 rt_112 h
    · replace h := h.2 c
      refine g_iloadn (pc' := 10) d_112_9 rfl rfl ?_
      refine g_bipush (pc' := 12) d_112_10 rfl cb_20 ?_
      refine g_ic_gt (pc' := 15) (pt := 22) d_112_12 (by decide) rfl (fun c => ?_) (fun c => ?_)
      · replace h := h.1 c
        refine g_iconst (pc' := 23) d_112_22 rfl ci_m1 ?_
        exact g_iret d_112_23 rt_112 h
      · replace h := h.2 c
        refine g_iloadn (pc' := 16) d_112_15 rfl rfl ?_
        obtain ⟨r3, w1, hk2, h⟩ := h
        refine g_callS (pc' := 19) d_112_16 rfl st_112_146 (Or.inl rfl) na_76 ml_76 rfl rfl rfl rm_112_76 rfl rfl hk2 ?_
        refine g_if_ne (pc' := 22) (pt := 24) d_112_19 (by decide) rfl (fun c => ?_) (fun c => ?_)
        · replace h := h.1 c
          refine g_aloadn (pc' := 25) d_112_24 rfl rfl ?_
          obtain ⟨fs4, hw5, h⟩ := h
          obtain ⟨x6, hv7, h⟩ := h
          refine g_getf (pc' := 28) d_112_25 rfl st_112_49 hw5 hv7 ?_
          refine g_if_ge (pc' := 31) (pt := 34) d_112_28 (by decide) rfl (fun c => ?_) (fun c => ?_)
          · replace h := h.1 c
            refine g_aloadn (pc' := 35) d_112_34 rfl rfl ?_
            obtain ⟨b8, hv9, h⟩ := h
            refine g_getf (pc' := 38) d_112_35 rfl st_112_42 hw5 hv9 ?_
            refine g_aloadn (pc' := 39) d_112_38 rfl rfl ?_
            obtain ⟨b10, hv11, h⟩ := h
            refine g_getf (pc' := 42) d_112_39 rfl st_112_39 hw5 hv11 ?_
            obtain ⟨fs12, hw13, h⟩ := h
            obtain ⟨w14, hk15, h⟩ := h
            refine g_callV (pc' := 45) d_112_42 rfl st_112_274 na_111 ml_111 rfl rfl rfl rm_112_111 rfl rfl ow_111 hw13 hk15 ?_
            refine g_aloadn (pc' := 46) d_112_45 rfl rfl ?_
            refine g_iloadn (pc' := 47) d_112_46 rfl rfl ?_
            refine g_iloadn (pc' := 48) d_112_47 rfl rfl ?_
            obtain ⟨fs16, hw17, h⟩ := h
            obtain ⟨w18, hk19, h⟩ := h
            refine g_callV (pc' := 51) d_112_48 rfl st_112_278 na_113 ml_113 rfl rfl rfl rm_112_113 rfl rfl ow_113 hw17 hk19 ?_
            refine g_iconst (pc' := 52) d_112_51 rfl ci_0 ?_
            refine g_istore (pc' := 54) (l' := [some (.ref a0), some (.int i1), some (.int i2), some (.int i3), some (.int (0 : Int32)), none]) d_112_52 rfl ml_112 rfl rfl ?_
            refine g_iconst (pc' := 55) d_112_54 rfl ci_0 ?_
            refine g_istore (pc' := 57) (l' := [some (.ref a0), some (.int i1), some (.int i2), some (.int i3), some (.int (0 : Int32)), some (.int (0 : Int32))]) d_112_55 rfl ml_112 rfl rfl ?_
            exact h
          · replace h := h.2 c
            refine g_bipush (pc' := 33) d_112_31 rfl cb_m2 ?_
            exact g_iret d_112_33 rt_112 h
        · replace h := h.2 c
          refine g_iconst (pc' := 23) d_112_22 rfl ci_m1 ?_
          exact g_iret d_112_23 rt_112 h
theorem S_112_57 {a0 : Nat} {i1 : Int32} {i2 : Int32} {i3 : Int32} {i4 : Int32} {i5 : Int32} {w : xW} {r : Option Value × xW} (h : ∃ fs1, w[a0]? = some (.inr (0, fs1)) ∧ ∃ x3, fs1[7]? = some (.int x3) ∧ (x3 < i5 → ∃ b5, fs1[4]? = some (.ref b5) ∧ ∃ b7, fs1[5]? = some (.ref b7) ∧ ∃ fs9, w[b5]? = some (.inr (4, fs9)) ∧ ∃ w11, xCall 111 [.ref b5, .ref b7] w (none, w11) ∧ r = (some (.int i4), w11)) ∧ (¬ (x3 < i5) → ∃ r15 w13, xCall 27 [.ref a0, .int i5] w (some (.int r15), w13) ∧ (¬ r15 = 0 → ∀ v16 : Int32, v16 = i5 + (1 : Int32) → xGo 112 57 [some (.ref a0), some (.int i1), some (.int i2), some (.int i3), some (.int i4), some (.int v16)] [] w13 r) ∧ (¬ (¬ r15 = 0) → ∃ fs17, w13[a0]? = some (.inr (0, fs17)) ∧ ∃ b19, fs17[8]? = some (.ref b19) ∧ ∃ fs21, w13[b19]? = some (.inr (6, fs21)) ∧ ∃ r25 w23, xCall 61 [.ref b19, .int i5, .int i3] w13 (some (.int r25), w23) ∧ (r25 = 0 → ∀ v26 : Int32, v26 = i5 + (1 : Int32) → xGo 112 57 [some (.ref a0), some (.int i1), some (.int i2), some (.int i3), some (.int i4), some (.int v26)] [] w23 r) ∧ (¬ (r25 = 0) → ∀ v27 : Int32, v27 = i4 + (1 : Int32) → ∀ v28 : Int32, v28 = i5 + (1 : Int32) → xGo 112 57 [some (.ref a0), some (.int i1), some (.int i2), some (.int i3), some (.int v27), some (.int v28)] [] w23 r)))) : xGo 112 57 [some (.ref a0), some (.int i1), some (.int i2), some (.int i3), some (.int i4), some (.int i5)] [] w r := by
  refine g_iload (pc' := 59) d_112_57 rfl rfl ?_
  refine g_aloadn (pc' := 60) d_112_59 rfl rfl ?_
  obtain ⟨fs1, hw2, h⟩ := h
  obtain ⟨x3, hv4, h⟩ := h
  refine g_getf (pc' := 63) d_112_60 rfl st_112_49 hw2 hv4 ?_
  refine g_ic_gt (pc' := 66) (pt := 97) d_112_63 (by decide) rfl (fun c => ?_) (fun c => ?_)
  · replace h := h.1 c
    refine g_aloadn (pc' := 98) d_112_97 rfl rfl ?_
    obtain ⟨b5, hv6, h⟩ := h
    refine g_getf (pc' := 101) d_112_98 rfl st_112_39 hw2 hv6 ?_
    refine g_aloadn (pc' := 102) d_112_101 rfl rfl ?_
    obtain ⟨b7, hv8, h⟩ := h
    refine g_getf (pc' := 105) d_112_102 rfl st_112_42 hw2 hv8 ?_
    obtain ⟨fs9, hw10, h⟩ := h
    obtain ⟨w11, hk12, h⟩ := h
    refine g_callV (pc' := 108) d_112_105 rfl st_112_274 na_111 ml_111 rfl rfl rfl rm_112_111 rfl rfl ow_111 hw10 hk12 ?_
    refine g_iload (pc' := 110) d_112_108 rfl rfl ?_
    exact g_iret d_112_110 rt_112 h
  · replace h := h.2 c
    refine g_aloadn (pc' := 67) d_112_66 rfl rfl ?_
    refine g_iload (pc' := 69) d_112_67 rfl rfl ?_
    obtain ⟨r15, w13, hk14, h⟩ := h
    refine g_callV (pc' := 72) d_112_69 rfl st_112_174 na_27 ml_27 rfl rfl rfl rm_112_27 rfl rfl ow_27 hw2 hk14 ?_
    refine g_if_ne (pc' := 75) (pt := 91) d_112_72 (by decide) rfl (fun c => ?_) (fun c => ?_)
    · replace h := h.1 c
      have h := h _ rfl
      refine g_iinc (pc' := 94) (l' := [some (.ref a0), some (.int i1), some (.int i2), some (.int i3), some (.int i4), some (.int (i5 + (1 : Int32)))]) d_112_91 rfl rfl ci_1 ml_112 rfl rfl ?_
      refine g_goto (pt := 57) d_112_94 (by decide) ?_
      exact h
    · replace h := h.2 c
      refine g_aloadn (pc' := 76) d_112_75 rfl rfl ?_
      obtain ⟨fs17, hw18, h⟩ := h
      obtain ⟨b19, hv20, h⟩ := h
      refine g_getf (pc' := 79) d_112_76 rfl st_112_58 hw18 hv20 ?_
      refine g_iload (pc' := 81) d_112_79 rfl rfl ?_
      refine g_iloadn (pc' := 82) d_112_81 rfl rfl ?_
      obtain ⟨fs21, hw22, h⟩ := h
      obtain ⟨r25, w23, hk24, h⟩ := h
      refine g_callV (pc' := 85) d_112_82 rfl st_112_142 na_61 ml_61 rfl rfl rfl rm_112_61 rfl rfl ow_61 hw22 hk24 ?_
      refine g_if_eq (pc' := 88) (pt := 91) d_112_85 (by decide) rfl (fun c => ?_) (fun c => ?_)
      · replace h := h.1 c
        have h := h _ rfl
        refine g_iinc (pc' := 94) (l' := [some (.ref a0), some (.int i1), some (.int i2), some (.int i3), some (.int i4), some (.int (i5 + (1 : Int32)))]) d_112_91 rfl rfl ci_1 ml_112 rfl rfl ?_
        refine g_goto (pt := 57) d_112_94 (by decide) ?_
        exact h
      · replace h := h.2 c
        have h := h _ rfl
        refine g_iinc (pc' := 91) (l' := [some (.ref a0), some (.int i1), some (.int i2), some (.int i3), some (.int (i4 + (1 : Int32))), some (.int i5)]) d_112_88 rfl rfl ci_1 ml_112 rfl rfl ?_
        have h := h _ rfl
        refine g_iinc (pc' := 94) (l' := [some (.ref a0), some (.int i1), some (.int i2), some (.int i3), some (.int (i4 + (1 : Int32))), some (.int (i5 + (1 : Int32)))]) d_112_91 rfl rfl ci_1 ml_112 rfl rfl ?_
        refine g_goto (pt := 57) d_112_94 (by decide) ?_
        exact h
-- 113 BernoulliWays.spoilByDraws(II)V
theorem S_113_0 {a0 : Nat} {i1 : Int32} {i2 : Int32} {w : xW} {r : Option Value × xW} (h : ∀ v1 : Int64, v1 = (i1.toInt64) → xGo 113 6 [some (.ref a0), some (.int i1), some (.int i2), some (.long v1), none, some (.int (0 : Int32)), none, none, none, none] [] w r) : xGo 113 0 [some (.ref a0), some (.int i1), some (.int i2), none, none, none, none, none, none, none] [] w r := by
  refine g_iloadn (pc' := 1) d_113_0 rfl rfl ?_
  refine g_i2l (pc' := 2) d_113_1 rfl ?_
  have h := h _ rfl
  refine g_lstoren (pc' := 3) (l' := [some (.ref a0), some (.int i1), some (.int i2), some (.long ((i1.toInt64))), none, none, none, none, none, none]) d_113_2 rfl ml_113 rfl rfl ?_
  refine g_iconst (pc' := 4) d_113_3 rfl ci_0 ?_
  refine g_istore (pc' := 6) (l' := [some (.ref a0), some (.int i1), some (.int i2), some (.long ((i1.toInt64))), none, some (.int (0 : Int32)), none, none, none, none]) d_113_4 rfl ml_113 rfl rfl ?_
  exact h
theorem S_113_6 {a0 : Nat} {i1 : Int32} {i2 : Int32} {l3 : Int64} {i5 : Int32} {w : xW} {r : Option Value × xW} (h : (i2 ≤ i5 → r = (none, w)) ∧ (¬ (i2 ≤ i5) → ∃ r3 w1, xCall 114 [.long l3] w (some (.long r3), w1) ∧ ∃ fs4, w1[a0]? = some (.inr (0, fs4)) ∧ ∃ x6, fs4[7]? = some (.int x6) ∧ (¬ ((x6.toInt64) + (1 : Int64)) = 0) ∧ ∀ v9 : Int32, v9 = ((lrem (r3 >>> ((16 : Int32).toInt64 &&& 63)) ((x6.toInt64) + (1 : Int64))).toInt32) → ∃ r12 w10, xCall 114 [.long r3] w1 (some (.long r12), w10) ∧ ∀ v13 : Int64, v13 = ((lrem (r12 >>> ((16 : Int32).toInt64 &&& 63)) (9 : Int64)) + (1 : Int64)) → ∃ r16 w14, xCall 114 [.long r12] w10 (some (.long r16), w14) ∧ (¬ (lrem (r16 >>> ((16 : Int32).toInt64 &&& 63)) (2 : Int64)) = (1 : Int64) → ∃ fs17, w14[a0]? = some (.inr (0, fs17)) ∧ ∃ b19, fs17[4]? = some (.ref b19) ∧ ((0 : Int32) = 0 → ∃ fs21, w14[b19]? = some (.inr (4, fs21)) ∧ ∃ w23, xCall 60 [.ref b19, .int v9, .long v13] w14 (none, w23) ∧ ∀ v25 : Int32, v25 = i5 + (1 : Int32) → xGo 113 6 [some (.ref a0), some (.int i1), some (.int i2), some (.long r16), none, some (.int v25), none, none, none, none] [] w23 r) ∧ (¬ ((0 : Int32) = 0) → ∃ fs26, w14[b19]? = some (.inr (4, fs26)) ∧ ∃ w28, xCall 60 [.ref b19, .int v9, .long (-v13)] w14 (none, w28) ∧ ∀ v30 : Int32, v30 = i5 + (1 : Int32) → xGo 113 6 [some (.ref a0), some (.int i1), some (.int i2), some (.long r16), none, some (.int v30), none, none, none, none] [] w28 r)) ∧ (¬ (¬ (lrem (r16 >>> ((16 : Int32).toInt64 &&& 63)) (2 : Int64)) = (1 : Int64)) → ∃ fs31, w14[a0]? = some (.inr (0, fs31)) ∧ ∃ b33, fs31[4]? = some (.ref b33) ∧ ((1 : Int32) = 0 → ∃ fs35, w14[b33]? = some (.inr (4, fs35)) ∧ ∃ w37, xCall 60 [.ref b33, .int v9, .long v13] w14 (none, w37) ∧ ∀ v39 : Int32, v39 = i5 + (1 : Int32) → xGo 113 6 [some (.ref a0), some (.int i1), some (.int i2), some (.long r16), none, some (.int v39), none, none, none, none] [] w37 r) ∧ (¬ ((1 : Int32) = 0) → ∃ fs40, w14[b33]? = some (.inr (4, fs40)) ∧ ∃ w42, xCall 60 [.ref b33, .int v9, .long (-v13)] w14 (none, w42) ∧ ∀ v44 : Int32, v44 = i5 + (1 : Int32) → xGo 113 6 [some (.ref a0), some (.int i1), some (.int i2), some (.long r16), none, some (.int v44), none, none, none, none] [] w42 r)))) : xGo 113 6 [some (.ref a0), some (.int i1), some (.int i2), some (.long l3), none, some (.int i5), none, none, none, none] [] w r := by
  refine g_iload (pc' := 8) d_113_6 rfl rfl ?_
  refine g_iloadn (pc' := 9) d_113_8 rfl rfl ?_
  refine g_ic_ge (pc' := 12) (pt := 102) d_113_9 (by decide) rfl (fun c => ?_) (fun c => ?_)
  · replace h := h.1 c
    exact g_vret d_113_102 rt_113 h
  · replace h := h.2 c
    refine g_lloadn (pc' := 13) d_113_12 rfl rfl ?_
    obtain ⟨r3, w1, hk2, h⟩ := h
    refine g_callS (pc' := 16) d_113_13 rfl st_113_447 (Or.inl rfl) na_114 ml_114 rfl rfl rfl rm_113_114 rfl rfl hk2 ?_
    refine g_lstoren (pc' := 17) (l' := [some (.ref a0), some (.int i1), some (.int i2), some (.long r3), none, some (.int i5), none, none, none, none]) d_113_16 rfl ml_113 rfl rfl ?_
    refine g_lloadn (pc' := 18) d_113_17 rfl rfl ?_
    refine g_bipush (pc' := 20) d_113_18 rfl cb_16 ?_
    refine g_lshr (pc' := 21) d_113_20 rfl ?_
    refine g_aloadn (pc' := 22) d_113_21 rfl rfl ?_
    obtain ⟨fs4, hw5, h⟩ := h
    obtain ⟨x6, hv7, h⟩ := h
    refine g_getf (pc' := 25) d_113_22 rfl st_113_49 hw5 hv7 ?_
    refine g_i2l (pc' := 26) d_113_25 rfl ?_
    refine g_lconst (pc' := 27) d_113_26 rfl cl_1 ?_
    refine g_ladd (pc' := 28) d_113_27 rfl ?_
    obtain ⟨hc8, h⟩ := h
    refine g_lrem (pc' := 29) d_113_28 rfl hc8 ?_
    refine g_l2i (pc' := 30) d_113_29 rfl ?_
    have h := h _ rfl
    refine g_istore (pc' := 32) (l' := [some (.ref a0), some (.int i1), some (.int i2), some (.long r3), none, some (.int i5), some (.int (((lrem (r3 >>> ((16 : Int32).toInt64 &&& 63)) ((x6.toInt64) + (1 : Int64))).toInt32))), none, none, none]) d_113_30 rfl ml_113 rfl rfl ?_
    refine g_lloadn (pc' := 33) d_113_32 rfl rfl ?_
    obtain ⟨r12, w10, hk11, h⟩ := h
    refine g_callS (pc' := 36) d_113_33 rfl st_113_447 (Or.inl rfl) na_114 ml_114 rfl rfl rfl rm_113_114 rfl rfl hk11 ?_
    refine g_lstoren (pc' := 37) (l' := [some (.ref a0), some (.int i1), some (.int i2), some (.long r12), none, some (.int i5), some (.int (((lrem (r3 >>> ((16 : Int32).toInt64 &&& 63)) ((x6.toInt64) + (1 : Int64))).toInt32))), none, none, none]) d_113_36 rfl ml_113 rfl rfl ?_
    refine g_lloadn (pc' := 38) d_113_37 rfl rfl ?_
    refine g_bipush (pc' := 40) d_113_38 rfl cb_16 ?_
    refine g_lshr (pc' := 41) d_113_40 rfl ?_
    refine g_ldc2 (pc' := 44) d_113_41 rfl st_113_450 cL_9 ?_
    refine g_lrem (pc' := 45) d_113_44 rfl (by decide) ?_
    refine g_lconst (pc' := 46) d_113_45 rfl cl_1 ?_
    refine g_ladd (pc' := 47) d_113_46 rfl ?_
    have h := h _ rfl
    refine g_lstore (pc' := 49) (l' := [some (.ref a0), some (.int i1), some (.int i2), some (.long r12), none, some (.int i5), some (.int (((lrem (r3 >>> ((16 : Int32).toInt64 &&& 63)) ((x6.toInt64) + (1 : Int64))).toInt32))), some (.long (((lrem (r12 >>> ((16 : Int32).toInt64 &&& 63)) (9 : Int64)) + (1 : Int64)))), none, none]) d_113_47 rfl ml_113 rfl rfl ?_
    refine g_lloadn (pc' := 50) d_113_49 rfl rfl ?_
    obtain ⟨r16, w14, hk15, h⟩ := h
    refine g_callS (pc' := 53) d_113_50 rfl st_113_447 (Or.inl rfl) na_114 ml_114 rfl rfl rfl rm_113_114 rfl rfl hk15 ?_
    refine g_lstoren (pc' := 54) (l' := [some (.ref a0), some (.int i1), some (.int i2), some (.long r16), none, some (.int i5), some (.int (((lrem (r3 >>> ((16 : Int32).toInt64 &&& 63)) ((x6.toInt64) + (1 : Int64))).toInt32))), some (.long (((lrem (r12 >>> ((16 : Int32).toInt64 &&& 63)) (9 : Int64)) + (1 : Int64)))), none, none]) d_113_53 rfl ml_113 rfl rfl ?_
    refine g_lloadn (pc' := 55) d_113_54 rfl rfl ?_
    refine g_bipush (pc' := 57) d_113_55 rfl cb_16 ?_
    refine g_lshr (pc' := 58) d_113_57 rfl ?_
    refine g_ldc2 (pc' := 61) d_113_58 rfl st_113_389 cL_2 ?_
    refine g_lrem (pc' := 62) d_113_61 rfl (by decide) ?_
    refine g_lconst (pc' := 63) d_113_62 rfl cl_1 ?_
    refine g_lc_ne (pc' := 67) (pm := 64) (pt := 71) d_113_63 rfl d_113_64 (by decide) rfl (fun c => ?_) (fun c => ?_)
    · replace h := h.1 c
      refine g_iconst (pc' := 72) d_113_71 rfl ci_0 ?_
      refine g_istore (pc' := 74) (l' := [some (.ref a0), some (.int i1), some (.int i2), some (.long r16), none, some (.int i5), some (.int (((lrem (r3 >>> ((16 : Int32).toInt64 &&& 63)) ((x6.toInt64) + (1 : Int64))).toInt32))), some (.long (((lrem (r12 >>> ((16 : Int32).toInt64 &&& 63)) (9 : Int64)) + (1 : Int64)))), none, some (.int (0 : Int32))]) d_113_72 rfl ml_113 rfl rfl ?_
      refine g_aloadn (pc' := 75) d_113_74 rfl rfl ?_
      obtain ⟨fs17, hw18, h⟩ := h
      obtain ⟨b19, hv20, h⟩ := h
      refine g_getf (pc' := 78) d_113_75 rfl st_113_39 hw18 hv20 ?_
      refine g_iload (pc' := 80) d_113_78 rfl rfl ?_
      refine g_iload (pc' := 82) d_113_80 rfl rfl ?_
      refine g_if_eq (pc' := 85) (pt := 91) d_113_82 (by decide) rfl (fun c => ?_) (fun c => ?_)
      · replace h := h.1 c
        refine g_lload (pc' := 93) d_113_91 rfl rfl ?_
        obtain ⟨fs21, hw22, h⟩ := h
        obtain ⟨w23, hk24, h⟩ := h
        refine g_callV (pc' := 96) d_113_93 rfl st_113_134 na_60 ml_60 rfl rfl rfl rm_113_60 rfl rfl ow_60 hw22 hk24 ?_
        have h := h _ rfl
        refine g_iinc (pc' := 99) (l' := [some (.ref a0), some (.int i1), some (.int i2), some (.long r16), none, some (.int (i5 + (1 : Int32))), some (.int (((lrem (r3 >>> ((16 : Int32).toInt64 &&& 63)) ((x6.toInt64) + (1 : Int64))).toInt32))), some (.long (((lrem (r12 >>> ((16 : Int32).toInt64 &&& 63)) (9 : Int64)) + (1 : Int64)))), none, some (.int (0 : Int32))]) d_113_96 rfl rfl ci_1 ml_113 rfl rfl ?_
        refine g_goto (pt := 6) d_113_99 (by decide) ?_
        exact xGo.more (xle_s (xle_s (xle_s (xle_s (xle_n (xle_s (xle_n (xle_n (xle_n (xle_n xle_0)))))))))) h
      · replace h := h.2 c
        refine g_lload (pc' := 87) d_113_85 rfl rfl ?_
        refine g_lneg (pc' := 88) d_113_87 rfl ?_
        refine g_goto (pt := 93) d_113_88 (by decide) ?_
        obtain ⟨fs26, hw27, h⟩ := h
        obtain ⟨w28, hk29, h⟩ := h
        refine g_callV (pc' := 96) d_113_93 rfl st_113_134 na_60 ml_60 rfl rfl rfl rm_113_60 rfl rfl ow_60 hw27 hk29 ?_
        have h := h _ rfl
        refine g_iinc (pc' := 99) (l' := [some (.ref a0), some (.int i1), some (.int i2), some (.long r16), none, some (.int (i5 + (1 : Int32))), some (.int (((lrem (r3 >>> ((16 : Int32).toInt64 &&& 63)) ((x6.toInt64) + (1 : Int64))).toInt32))), some (.long (((lrem (r12 >>> ((16 : Int32).toInt64 &&& 63)) (9 : Int64)) + (1 : Int64)))), none, some (.int (0 : Int32))]) d_113_96 rfl rfl ci_1 ml_113 rfl rfl ?_
        refine g_goto (pt := 6) d_113_99 (by decide) ?_
        exact xGo.more (xle_s (xle_s (xle_s (xle_s (xle_n (xle_s (xle_n (xle_n (xle_n (xle_n xle_0)))))))))) h
    · replace h := h.2 c
      refine g_iconst (pc' := 68) d_113_67 rfl ci_1 ?_
      refine g_goto (pt := 72) d_113_68 (by decide) ?_
      refine g_istore (pc' := 74) (l' := [some (.ref a0), some (.int i1), some (.int i2), some (.long r16), none, some (.int i5), some (.int (((lrem (r3 >>> ((16 : Int32).toInt64 &&& 63)) ((x6.toInt64) + (1 : Int64))).toInt32))), some (.long (((lrem (r12 >>> ((16 : Int32).toInt64 &&& 63)) (9 : Int64)) + (1 : Int64)))), none, some (.int (1 : Int32))]) d_113_72 rfl ml_113 rfl rfl ?_
      refine g_aloadn (pc' := 75) d_113_74 rfl rfl ?_
      obtain ⟨fs31, hw32, h⟩ := h
      obtain ⟨b33, hv34, h⟩ := h
      refine g_getf (pc' := 78) d_113_75 rfl st_113_39 hw32 hv34 ?_
      refine g_iload (pc' := 80) d_113_78 rfl rfl ?_
      refine g_iload (pc' := 82) d_113_80 rfl rfl ?_
      refine g_if_eq (pc' := 85) (pt := 91) d_113_82 (by decide) rfl (fun c => ?_) (fun c => ?_)
      · replace h := h.1 c
        refine g_lload (pc' := 93) d_113_91 rfl rfl ?_
        obtain ⟨fs35, hw36, h⟩ := h
        obtain ⟨w37, hk38, h⟩ := h
        refine g_callV (pc' := 96) d_113_93 rfl st_113_134 na_60 ml_60 rfl rfl rfl rm_113_60 rfl rfl ow_60 hw36 hk38 ?_
        have h := h _ rfl
        refine g_iinc (pc' := 99) (l' := [some (.ref a0), some (.int i1), some (.int i2), some (.long r16), none, some (.int (i5 + (1 : Int32))), some (.int (((lrem (r3 >>> ((16 : Int32).toInt64 &&& 63)) ((x6.toInt64) + (1 : Int64))).toInt32))), some (.long (((lrem (r12 >>> ((16 : Int32).toInt64 &&& 63)) (9 : Int64)) + (1 : Int64)))), none, some (.int (1 : Int32))]) d_113_96 rfl rfl ci_1 ml_113 rfl rfl ?_
        refine g_goto (pt := 6) d_113_99 (by decide) ?_
        exact xGo.more (xle_s (xle_s (xle_s (xle_s (xle_n (xle_s (xle_n (xle_n (xle_n (xle_n xle_0)))))))))) h
      · replace h := h.2 c
        refine g_lload (pc' := 87) d_113_85 rfl rfl ?_
        refine g_lneg (pc' := 88) d_113_87 rfl ?_
        refine g_goto (pt := 93) d_113_88 (by decide) ?_
        obtain ⟨fs40, hw41, h⟩ := h
        obtain ⟨w42, hk43, h⟩ := h
        refine g_callV (pc' := 96) d_113_93 rfl st_113_134 na_60 ml_60 rfl rfl rfl rm_113_60 rfl rfl ow_60 hw41 hk43 ?_
        have h := h _ rfl
        refine g_iinc (pc' := 99) (l' := [some (.ref a0), some (.int i1), some (.int i2), some (.long r16), none, some (.int (i5 + (1 : Int32))), some (.int (((lrem (r3 >>> ((16 : Int32).toInt64 &&& 63)) ((x6.toInt64) + (1 : Int64))).toInt32))), some (.long (((lrem (r12 >>> ((16 : Int32).toInt64 &&& 63)) (9 : Int64)) + (1 : Int64)))), none, some (.int (1 : Int32))]) d_113_96 rfl rfl ci_1 ml_113 rfl rfl ?_
        refine g_goto (pt := 6) d_113_99 (by decide) ?_
        exact xGo.more (xle_s (xle_s (xle_s (xle_s (xle_n (xle_s (xle_n (xle_n (xle_n (xle_n xle_0)))))))))) h
-- 114 BernoulliWays.nextDraw(J)J
theorem S_114_0 {l0 : Int64} {w : xW} {r : Option Value × xW} (h : r = (some (.long (((l0 * (1103515245 : Int64)) + (12345 : Int64)) &&& (2147483647 : Int64))), w)) : xGo 114 0 [some (.long l0), none] [] w r := by
  refine g_lloadn (pc' := 1) d_114_0 rfl rfl ?_
  refine g_ldc2 (pc' := 4) d_114_1 rfl st_114_452 cL_1103515245 ?_
  refine g_lmul (pc' := 5) d_114_4 rfl ?_
  refine g_ldc2 (pc' := 8) d_114_5 rfl st_114_454 cL_12345 ?_
  refine g_ladd (pc' := 9) d_114_8 rfl ?_
  refine g_ldc2 (pc' := 12) d_114_9 rfl st_114_456 cL_2147483647 ?_
  refine g_land (pc' := 13) d_114_12 rfl ?_
  exact g_lret d_114_13 rt_114 h
-- 115 BernoulliWays.remainder(II)J
theorem S_115_0 {a0 : Nat} {i1 : Int32} {i2 : Int32} {w : xW} {r : Option Value × xW} (h : (i1 < (1 : Int32) → r = (some (.long (-9223372036854775808 : Int64)), w)) ∧ (¬ (i1 < (1 : Int32)) → ∃ fs1, w[a0]? = some (.inr (0, fs1)) ∧ ∃ r5 w3, xCall 99 [.ref a0, .int i1] w (some (.int r5), w3) ∧ (r5 = 0 → r = (some (.long (-9223372036854775808 : Int64)), w3)) ∧ (¬ (r5 = 0) → ∃ r8 w6, xCall 116 [.int i2] w3 (some (.int r8), w6) ∧ (¬ r8 = 0 → ∃ fs9, w6[a0]? = some (.inr (0, fs9)) ∧ ∃ b11, fs9[8]? = some (.ref b11) ∧ ∃ fs13, w6[b11]? = some (.inr (6, fs13)) ∧ ∃ w15, xCall 36 [.ref b11, .int i1, .int i1] w6 (none, w15) ∧ ∃ fs17, w15[a0]? = some (.inr (0, fs17)) ∧ ∃ b19, fs17[1]? = some (.ref b19) ∧ ∃ b21, fs17[13]? = some (.ref b21) ∧ ∃ fs23, w15[b19]? = some (.inr (2, fs23)) ∧ ∃ w25, xCall 42 [.ref b19, .ref b21] w15 (none, w25) ∧ ∃ fs27, w25[a0]? = some (.inr (0, fs27)) ∧ ∃ b29, fs27[13]? = some (.ref b29) ∧ ∃ fs31, w25[b29]? = some (.inr (5, fs31)) ∧ ∃ r35 w33, xCall 117 [.ref b29, .int i2] w25 (some (.long r35), w33) ∧ r = (some (.long r35), w33)) ∧ (¬ (¬ r8 = 0) → r = (some (.long (-9223372036854775808 : Int64)), w6))))) : xGo 115 0 [some (.ref a0), some (.int i1), some (.int i2)] [] w r := by
  refine g_iloadn (pc' := 1) d_115_0 rfl rfl ?_
  refine g_iconst (pc' := 2) d_115_1 rfl ci_1 ?_
  refine g_ic_lt (pc' := 5) (pt := 20) d_115_2 (by decide) rfl (fun c => ?_) (fun c => ?_)
  · replace h := h.1 c
    refine g_ldc2 (pc' := 23) d_115_20 rfl st_115_166 cL_m9223372036854775808 ?_
    exact g_lret d_115_23 rt_115 h
  · replace h := h.2 c
    refine g_aloadn (pc' := 6) d_115_5 rfl rfl ?_
    refine g_iloadn (pc' := 7) d_115_6 rfl rfl ?_
    obtain ⟨fs1, hw2, h⟩ := h
    obtain ⟨r5, w3, hk4, h⟩ := h
    refine g_callV (pc' := 10) d_115_7 rfl st_115_163 na_99 ml_99 rfl rfl rfl rm_115_99 rfl rfl ow_99 hw2 hk4 ?_
    refine g_if_eq (pc' := 13) (pt := 20) d_115_10 (by decide) rfl (fun c => ?_) (fun c => ?_)
    · replace h := h.1 c
      refine g_ldc2 (pc' := 23) d_115_20 rfl st_115_166 cL_m9223372036854775808 ?_
      exact g_lret d_115_23 rt_115 h
    · replace h := h.2 c
      refine g_iloadn (pc' := 14) d_115_13 rfl rfl ?_
      obtain ⟨r8, w6, hk7, h⟩ := h
      refine g_callS (pc' := 17) d_115_14 rfl st_115_153 (Or.inl rfl) na_116 ml_116 rfl rfl rfl rm_115_116 rfl rfl hk7 ?_
      refine g_if_ne (pc' := 20) (pt := 24) d_115_17 (by decide) rfl (fun c => ?_) (fun c => ?_)
      · replace h := h.1 c
        refine g_aloadn (pc' := 25) d_115_24 rfl rfl ?_
        obtain ⟨fs9, hw10, h⟩ := h
        obtain ⟨b11, hv12, h⟩ := h
        refine g_getf (pc' := 28) d_115_25 rfl st_115_58 hw10 hv12 ?_
        refine g_iloadn (pc' := 29) d_115_28 rfl rfl ?_
        refine g_iloadn (pc' := 30) d_115_29 rfl rfl ?_
        obtain ⟨fs13, hw14, h⟩ := h
        obtain ⟨w15, hk16, h⟩ := h
        refine g_callV (pc' := 33) d_115_30 rfl st_115_281 na_36 ml_36 rfl rfl rfl rm_115_36 rfl rfl ow_36 hw14 hk16 ?_
        refine g_aloadn (pc' := 34) d_115_33 rfl rfl ?_
        obtain ⟨fs17, hw18, h⟩ := h
        obtain ⟨b19, hv20, h⟩ := h
        refine g_getf (pc' := 37) d_115_34 rfl st_115_21 hw18 hv20 ?_
        refine g_aloadn (pc' := 38) d_115_37 rfl rfl ?_
        obtain ⟨b21, hv22, h⟩ := h
        refine g_getf (pc' := 41) d_115_38 rfl st_115_95 hw18 hv22 ?_
        obtain ⟨fs23, hw24, h⟩ := h
        obtain ⟨w25, hk26, h⟩ := h
        refine g_callV (pc' := 44) d_115_41 rfl st_115_214 na_42 ml_42 rfl rfl rfl rm_115_42 rfl rfl ow_42 hw24 hk26 ?_
        refine g_aloadn (pc' := 45) d_115_44 rfl rfl ?_
        obtain ⟨fs27, hw28, h⟩ := h
        obtain ⟨b29, hv30, h⟩ := h
        refine g_getf (pc' := 48) d_115_45 rfl st_115_95 hw28 hv30 ?_
        refine g_iloadn (pc' := 49) d_115_48 rfl rfl ?_
        obtain ⟨fs31, hw32, h⟩ := h
        obtain ⟨r35, w33, hk34, h⟩ := h
        refine g_callV (pc' := 52) d_115_49 rfl st_115_171 na_117 ml_117 rfl rfl rfl rm_115_117 rfl rfl ow_117 hw32 hk34 ?_
        exact g_lret d_115_52 rt_115 h
      · replace h := h.2 c
        refine g_ldc2 (pc' := 23) d_115_20 rfl st_115_166 cL_m9223372036854775808 ?_
        exact g_lret d_115_23 rt_115 h
-- 116 BernoulliWays.isPart(I)Z
theorem S_116_0 {i0 : Int32} {w : xW} {r : Option Value × xW} (h : (i0 < 0 → r = (some (.int (0 : Int32)), w)) ∧ (¬ (i0 < 0) → ((2 : Int32) < i0 → r = (some (.int (0 : Int32)), w)) ∧ (¬ ((2 : Int32) < i0) → r = (some (.int (1 : Int32)), w)))) : xGo 116 0 [some (.int i0)] [] w r := by
  refine g_iloadn (pc' := 1) d_116_0 rfl rfl ?_
  refine g_if_lt (pc' := 4) (pt := 13) d_116_1 (by decide) rfl (fun c => ?_) (fun c => ?_)
  · replace h := h.1 c
    refine g_iconst (pc' := 14) d_116_13 rfl ci_0 ?_
    exact g_zret d_116_14 rt_116 (Or.inl rfl) h
  · replace h := h.2 c
    refine g_iloadn (pc' := 5) d_116_4 rfl rfl ?_
    refine g_iconst (pc' := 6) d_116_5 rfl ci_2 ?_
    refine g_ic_gt (pc' := 9) (pt := 13) d_116_6 (by decide) rfl (fun c => ?_) (fun c => ?_)
    · replace h := h.1 c
      refine g_iconst (pc' := 14) d_116_13 rfl ci_0 ?_
      exact g_zret d_116_14 rt_116 (Or.inl rfl) h
    · replace h := h.2 c
      refine g_iconst (pc' := 10) d_116_9 rfl ci_1 ?_
      refine g_goto (pt := 14) d_116_10 (by decide) ?_
      exact g_zret d_116_14 rt_116 (Or.inr rfl) h
-- 117 BernoulliWays$Fraction.told(I)J
theorem S_117_0 {a0 : Nat} {i1 : Int32} {w : xW} {r : Option Value × xW} (h : (¬ i1 = 0 → (¬ i1 = (1 : Int32) → ∃ fs1, w[a0]? = some (.inr (5, fs1)) ∧ ∃ x3, fs1[2]? = some (.long x3) ∧ r = (some (.long x3), w)) ∧ (¬ (¬ i1 = (1 : Int32)) → ∃ fs5, w[a0]? = some (.inr (5, fs5)) ∧ ∃ x7, fs5[1]? = some (.long x7) ∧ r = (some (.long x7), w))) ∧ (¬ (¬ i1 = 0) → ∃ fs9, w[a0]? = some (.inr (5, fs9)) ∧ ∃ x11, fs9[0]? = some (.long x11) ∧ r = (some (.long x11), w))) : xGo 117 0 [some (.ref a0), some (.int i1)] [] w r := by
  refine g_iloadn (pc' := 1) d_117_0 rfl rfl ?_
  refine g_if_ne (pc' := 4) (pt := 9) d_117_1 (by decide) rfl (fun c => ?_) (fun c => ?_)
  · replace h := h.1 c
    refine g_iloadn (pc' := 10) d_117_9 rfl rfl ?_
    refine g_iconst (pc' := 11) d_117_10 rfl ci_1 ?_
    refine g_ic_ne (pc' := 14) (pt := 21) d_117_11 (by decide) rfl (fun c => ?_) (fun c => ?_)
    · replace h := h.1 c
      refine g_aloadn (pc' := 22) d_117_21 rfl rfl ?_
      obtain ⟨fs1, hw2, h⟩ := h
      obtain ⟨x3, hv4, h⟩ := h
      refine g_getf (pc' := 25) d_117_22 rfl st_117_7 hw2 hv4 ?_
      exact g_lret d_117_25 rt_117 h
    · replace h := h.2 c
      refine g_aloadn (pc' := 15) d_117_14 rfl rfl ?_
      obtain ⟨fs5, hw6, h⟩ := h
      obtain ⟨x7, hv8, h⟩ := h
      refine g_getf (pc' := 18) d_117_15 rfl st_117_28 hw6 hv8 ?_
      refine g_goto (pt := 25) d_117_18 (by decide) ?_
      exact g_lret d_117_25 rt_117 h
  · replace h := h.2 c
    refine g_aloadn (pc' := 5) d_117_4 rfl rfl ?_
    obtain ⟨fs9, hw10, h⟩ := h
    obtain ⟨x11, hv12, h⟩ := h
    refine g_getf (pc' := 8) d_117_5 rfl st_117_25 hw10 hv12 ?_
    exact g_lret d_117_8 rt_117 h
-- 118 BernoulliWays.triangleAt(III)J
theorem S_118_0 {a0 : Nat} {i1 : Int32} {i2 : Int32} {i3 : Int32} {w : xW} {r : Option Value × xW} (h : (i1 < 0 → r = (some (.long (-9223372036854775808 : Int64)), w)) ∧ (¬ (i1 < 0) → (i2 < 0 → r = (some (.long (-9223372036854775808 : Int64)), w)) ∧ (¬ (i2 < 0) → ((38 : Int32) < i1 → r = (some (.long (-9223372036854775808 : Int64)), w)) ∧ (¬ ((38 : Int32) < i1) → (((38 : Int32) - i1) < i2 → r = (some (.long (-9223372036854775808 : Int64)), w)) ∧ (¬ (((38 : Int32) - i1) < i2) → ∃ r3 w1, xCall 116 [.int i3] w (some (.int r3), w1) ∧ (¬ r3 = 0 → ∃ fs4, w1[a0]? = some (.inr (0, fs4)) ∧ ∃ b6, fs4[2]? = some (.ref b6) ∧ ∃ fs8, w1[b6]? = some (.inr (3, fs8)) ∧ ∃ w10, xCall 12 [.ref b6, .int (i1 + i2)] w1 (none, w10) ∧ xGo 118 46 [some (.ref a0), some (.int i1), some (.int i2), some (.int i3), some (.int (0 : Int32))] [] w10 r) ∧ (¬ (¬ r3 = 0) → r = (some (.long (-9223372036854775808 : Int64)), w1))))))) : xGo 118 0 [some (.ref a0), some (.int i1), some (.int i2), some (.int i3), none] [] w r := by
  refine g_iloadn (pc' := 1) d_118_0 rfl rfl ?_
  refine g_if_lt (pc' := 4) (pt := 29) d_118_1 (by decide) rfl (fun c => ?_) (fun c => ?_)
  · replace h := h.1 c
    refine g_ldc2 (pc' := 32) d_118_29 rfl st_118_166 cL_m9223372036854775808 ?_
    exact g_lret d_118_32 rt_118 h
  · replace h := h.2 c
    refine g_iloadn (pc' := 5) d_118_4 rfl rfl ?_
    refine g_if_lt (pc' := 8) (pt := 29) d_118_5 (by decide) rfl (fun c => ?_) (fun c => ?_)
    · replace h := h.1 c
      refine g_ldc2 (pc' := 32) d_118_29 rfl st_118_166 cL_m9223372036854775808 ?_
      exact g_lret d_118_32 rt_118 h
    · replace h := h.2 c
      refine g_iloadn (pc' := 9) d_118_8 rfl rfl ?_
      refine g_bipush (pc' := 11) d_118_9 rfl cb_38 ?_
      refine g_ic_gt (pc' := 14) (pt := 29) d_118_11 (by decide) rfl (fun c => ?_) (fun c => ?_)
      · replace h := h.1 c
        refine g_ldc2 (pc' := 32) d_118_29 rfl st_118_166 cL_m9223372036854775808 ?_
        exact g_lret d_118_32 rt_118 h
      · replace h := h.2 c
        refine g_iloadn (pc' := 15) d_118_14 rfl rfl ?_
        refine g_bipush (pc' := 17) d_118_15 rfl cb_38 ?_
        refine g_iloadn (pc' := 18) d_118_17 rfl rfl ?_
        refine g_isub (pc' := 19) d_118_18 rfl ?_
        refine g_ic_gt (pc' := 22) (pt := 29) d_118_19 (by decide) rfl (fun c => ?_) (fun c => ?_)
        · replace h := h.1 c
          refine g_ldc2 (pc' := 32) d_118_29 rfl st_118_166 cL_m9223372036854775808 ?_
          exact g_lret d_118_32 rt_118 h
        · replace h := h.2 c
          refine g_iloadn (pc' := 23) d_118_22 rfl rfl ?_
          obtain ⟨r3, w1, hk2, h⟩ := h
          refine g_callS (pc' := 26) d_118_23 rfl st_118_153 (Or.inl rfl) na_116 ml_116 rfl rfl rfl rm_118_116 rfl rfl hk2 ?_
          refine g_if_ne (pc' := 29) (pt := 33) d_118_26 (by decide) rfl (fun c => ?_) (fun c => ?_)
          · replace h := h.1 c
            refine g_aloadn (pc' := 34) d_118_33 rfl rfl ?_
            obtain ⟨fs4, hw5, h⟩ := h
            obtain ⟨b6, hv7, h⟩ := h
            refine g_getf (pc' := 37) d_118_34 rfl st_118_28 hw5 hv7 ?_
            refine g_iloadn (pc' := 38) d_118_37 rfl rfl ?_
            refine g_iloadn (pc' := 39) d_118_38 rfl rfl ?_
            refine g_iadd (pc' := 40) d_118_39 rfl ?_
            obtain ⟨fs8, hw9, h⟩ := h
            obtain ⟨w10, hk11, h⟩ := h
            refine g_callV (pc' := 43) d_118_40 rfl st_118_106 na_12 ml_12 rfl rfl rfl rm_118_12 rfl rfl ow_12 hw9 hk11 ?_
            refine g_iconst (pc' := 44) d_118_43 rfl ci_0 ?_
            refine g_istore (pc' := 46) (l' := [some (.ref a0), some (.int i1), some (.int i2), some (.int i3), some (.int (0 : Int32))]) d_118_44 rfl ml_118 rfl rfl ?_
            exact h
          · replace h := h.2 c
            refine g_ldc2 (pc' := 32) d_118_29 rfl st_118_166 cL_m9223372036854775808 ?_
            exact g_lret d_118_32 rt_118 h
theorem S_118_46 {a0 : Nat} {i1 : Int32} {i2 : Int32} {i3 : Int32} {i4 : Int32} {w : xW} {r : Option Value × xW} (h : (i1 ≤ i4 → ∃ fs1, w[a0]? = some (.inr (0, fs1)) ∧ ∃ b3, fs1[2]? = some (.ref b3) ∧ ∃ b5, fs1[13]? = some (.ref b5) ∧ ∃ fs7, w[b3]? = some (.inr (3, fs7)) ∧ ∃ w9, xCall 15 [.ref b3, .int i2, .ref b5] w (none, w9) ∧ ∃ fs11, w9[a0]? = some (.inr (0, fs11)) ∧ ∃ b13, fs11[13]? = some (.ref b13) ∧ ∃ fs15, w9[b13]? = some (.inr (5, fs15)) ∧ ∃ r19 w17, xCall 117 [.ref b13, .int i3] w9 (some (.long r19), w17) ∧ r = (some (.long r19), w17)) ∧ (¬ (i1 ≤ i4) → ∃ fs20, w[a0]? = some (.inr (0, fs20)) ∧ ∃ b22, fs20[2]? = some (.ref b22) ∧ ∃ fs24, w[b22]? = some (.inr (3, fs24)) ∧ ∃ w26, xCall 22 [.ref b22] w (none, w26) ∧ ∀ v28 : Int32, v28 = i4 + (1 : Int32) → xGo 118 46 [some (.ref a0), some (.int i1), some (.int i2), some (.int i3), some (.int v28)] [] w26 r)) : xGo 118 46 [some (.ref a0), some (.int i1), some (.int i2), some (.int i3), some (.int i4)] [] w r := by
  refine g_iload (pc' := 48) d_118_46 rfl rfl ?_
  refine g_iloadn (pc' := 49) d_118_48 rfl rfl ?_
  refine g_ic_ge (pc' := 52) (pt := 65) d_118_49 (by decide) rfl (fun c => ?_) (fun c => ?_)
  · replace h := h.1 c
    refine g_aloadn (pc' := 66) d_118_65 rfl rfl ?_
    obtain ⟨fs1, hw2, h⟩ := h
    obtain ⟨b3, hv4, h⟩ := h
    refine g_getf (pc' := 69) d_118_66 rfl st_118_28 hw2 hv4 ?_
    refine g_iloadn (pc' := 70) d_118_69 rfl rfl ?_
    refine g_aloadn (pc' := 71) d_118_70 rfl rfl ?_
    obtain ⟨b5, hv6, h⟩ := h
    refine g_getf (pc' := 74) d_118_71 rfl st_118_95 hw2 hv6 ?_
    obtain ⟨fs7, hw8, h⟩ := h
    obtain ⟨w9, hk10, h⟩ := h
    refine g_callV (pc' := 77) d_118_74 rfl st_118_284 na_15 ml_15 rfl rfl rfl rm_118_15 rfl rfl ow_15 hw8 hk10 ?_
    refine g_aloadn (pc' := 78) d_118_77 rfl rfl ?_
    obtain ⟨fs11, hw12, h⟩ := h
    obtain ⟨b13, hv14, h⟩ := h
    refine g_getf (pc' := 81) d_118_78 rfl st_118_95 hw12 hv14 ?_
    refine g_iloadn (pc' := 82) d_118_81 rfl rfl ?_
    obtain ⟨fs15, hw16, h⟩ := h
    obtain ⟨r19, w17, hk18, h⟩ := h
    refine g_callV (pc' := 85) d_118_82 rfl st_118_171 na_117 ml_117 rfl rfl rfl rm_118_117 rfl rfl ow_117 hw16 hk18 ?_
    exact g_lret d_118_85 rt_118 h
  · replace h := h.2 c
    refine g_aloadn (pc' := 53) d_118_52 rfl rfl ?_
    obtain ⟨fs20, hw21, h⟩ := h
    obtain ⟨b22, hv23, h⟩ := h
    refine g_getf (pc' := 56) d_118_53 rfl st_118_28 hw21 hv23 ?_
    obtain ⟨fs24, hw25, h⟩ := h
    obtain ⟨w26, hk27, h⟩ := h
    refine g_callV (pc' := 59) d_118_56 rfl st_118_117 na_22 ml_22 rfl rfl rfl rm_118_22 rfl rfl ow_22 hw25 hk27 ?_
    have h := h _ rfl
    refine g_iinc (pc' := 62) (l' := [some (.ref a0), some (.int i1), some (.int i2), some (.int i3), some (.int (i4 + (1 : Int32)))]) d_118_59 rfl rfl ci_1 ml_118 rfl rfl ?_
    refine g_goto (pt := 46) d_118_62 (by decide) ?_
    exact h
-- 119 BernoulliWays.whichBelow(I)I
theorem S_119_0 {a0 : Nat} {i1 : Int32} {w : xW} {r : Option Value × xW} (h : ((1 : Int32) ≤ i1 → xGo 119 9 [some (.ref a0), some (.int i1), some (.int (2 : Int32))] [] w r) ∧ (¬ ((1 : Int32) ≤ i1) → r = (some (.int (-1 : Int32)), w))) : xGo 119 0 [some (.ref a0), some (.int i1), none] [] w r := by
  refine g_iloadn (pc' := 1) d_119_0 rfl rfl ?_
  refine g_iconst (pc' := 2) d_119_1 rfl ci_1 ?_
  refine g_ic_ge (pc' := 5) (pt := 7) d_119_2 (by decide) rfl (fun c => ?_) (fun c => ?_)
  · replace h := h.1 c
    refine g_iconst (pc' := 8) d_119_7 rfl ci_2 ?_
    refine g_istoren (pc' := 9) (l' := [some (.ref a0), some (.int i1), some (.int (2 : Int32))]) d_119_8 rfl ml_119 rfl rfl ?_
    exact h
  · replace h := h.2 c
    refine g_iconst (pc' := 6) d_119_5 rfl ci_m1 ?_
    exact g_iret d_119_6 rt_119 h
theorem S_119_9 {a0 : Nat} {i1 : Int32} {i2 : Int32} {w : xW} {r : Option Value × xW} (h : ((38 : Int32) < i2 → r = (some (.int (-2 : Int32)), w)) ∧ (¬ ((38 : Int32) < i2) → ∃ fs1, w[a0]? = some (.inr (0, fs1)) ∧ ∃ b3, fs1[3]? = some (.ref b3) ∧ ∃ fs5, w[b3]? = some (.inr (4, fs5)) ∧ ∃ r9 w7, xCall 31 [.ref b3, .int i2] w (some (.long r9), w7) ∧ (¬ r9 = (i1.toInt64) → ∀ v10 : Int32, v10 = i2 + (2 : Int32) → xGo 119 9 [some (.ref a0), some (.int i1), some (.int v10)] [] w7 r) ∧ (¬ (¬ r9 = (i1.toInt64)) → r = (some (.int i2), w7)))) : xGo 119 9 [some (.ref a0), some (.int i1), some (.int i2)] [] w r := by
  refine g_iloadn (pc' := 10) d_119_9 rfl rfl ?_
  refine g_bipush (pc' := 12) d_119_10 rfl cb_38 ?_
  refine g_ic_gt (pc' := 15) (pt := 37) d_119_12 (by decide) rfl (fun c => ?_) (fun c => ?_)
  · replace h := h.1 c
    refine g_bipush (pc' := 39) d_119_37 rfl cb_m2 ?_
    exact g_iret d_119_39 rt_119 h
  · replace h := h.2 c
    refine g_aloadn (pc' := 16) d_119_15 rfl rfl ?_
    obtain ⟨fs1, hw2, h⟩ := h
    obtain ⟨b3, hv4, h⟩ := h
    refine g_getf (pc' := 19) d_119_16 rfl st_119_35 hw2 hv4 ?_
    refine g_iloadn (pc' := 20) d_119_19 rfl rfl ?_
    obtain ⟨fs5, hw6, h⟩ := h
    obtain ⟨r9, w7, hk8, h⟩ := h
    refine g_callV (pc' := 23) d_119_20 rfl st_119_204 na_31 ml_31 rfl rfl rfl rm_119_31 rfl rfl ow_31 hw6 hk8 ?_
    refine g_iloadn (pc' := 24) d_119_23 rfl rfl ?_
    refine g_i2l (pc' := 25) d_119_24 rfl ?_
    refine g_lc_ne (pc' := 29) (pm := 26) (pt := 31) d_119_25 rfl d_119_26 (by decide) rfl (fun c => ?_) (fun c => ?_)
    · replace h := h.1 c
      have h := h _ rfl
      refine g_iinc (pc' := 34) (l' := [some (.ref a0), some (.int i1), some (.int (i2 + (2 : Int32)))]) d_119_31 rfl rfl ci_2 ml_119 rfl rfl ?_
      refine g_goto (pt := 9) d_119_34 (by decide) ?_
      exact h
    · replace h := h.2 c
      refine g_iloadn (pc' := 30) d_119_29 rfl rfl ?_
      exact g_iret d_119_30 rt_119 h
-- 120 BernoulliWays.irregular(I)I
theorem S_120_0 {a0 : Nat} {i1 : Int32} {w : xW} {r : Option Value × xW} (h : ∃ r3 w1, xCall 84 [.int i1] w (some (.int r3), w1) ∧ (¬ r3 = 0 → ∃ fs4, w1[a0]? = some (.inr (0, fs4)) ∧ ∃ b6, fs4[11]? = some (.ref b6) ∧ ∃ fs8, w1[b6]? = some (.inr (9, fs8)) ∧ ∃ w10, xCall 121 [.ref b6, .int i1] w1 (none, w10) ∧ ∃ fs12, w10[a0]? = some (.inr (0, fs12)) ∧ ∃ b14, fs12[11]? = some (.ref b14) ∧ ∃ fs16, w10[b14]? = some (.inr (9, fs16)) ∧ ∃ r20 w18, xCall 128 [.ref b14, .int i1] w10 (some (.int r20), w18) ∧ r = (some (.int r20), w18)) ∧ (¬ (¬ r3 = 0) → r = (some (.int (-1 : Int32)), w1))) : xGo 120 0 [some (.ref a0), some (.int i1)] [] w r := by
  refine g_iloadn (pc' := 1) d_120_0 rfl rfl ?_
  obtain ⟨r3, w1, hk2, h⟩ := h
  refine g_callS (pc' := 4) d_120_1 rfl st_120_222 (Or.inl rfl) na_84 ml_84 rfl rfl rfl rm_120_84 rfl rfl hk2 ?_
  refine g_if_ne (pc' := 7) (pt := 9) d_120_4 (by decide) rfl (fun c => ?_) (fun c => ?_)
  · replace h := h.1 c
    refine g_aloadn (pc' := 10) d_120_9 rfl rfl ?_
    obtain ⟨fs4, hw5, h⟩ := h
    obtain ⟨b6, hv7, h⟩ := h
    refine g_getf (pc' := 13) d_120_10 rfl st_120_81 hw5 hv7 ?_
    refine g_iloadn (pc' := 14) d_120_13 rfl rfl ?_
    obtain ⟨fs8, hw9, h⟩ := h
    obtain ⟨w10, hk11, h⟩ := h
    refine g_callV (pc' := 17) d_120_14 rfl st_120_287 na_121 ml_121 rfl rfl rfl rm_120_121 rfl rfl ow_121 hw9 hk11 ?_
    refine g_aloadn (pc' := 18) d_120_17 rfl rfl ?_
    obtain ⟨fs12, hw13, h⟩ := h
    obtain ⟨b14, hv15, h⟩ := h
    refine g_getf (pc' := 21) d_120_18 rfl st_120_81 hw13 hv15 ?_
    refine g_iloadn (pc' := 22) d_120_21 rfl rfl ?_
    obtain ⟨fs16, hw17, h⟩ := h
    obtain ⟨r20, w18, hk19, h⟩ := h
    refine g_callV (pc' := 25) d_120_22 rfl st_120_290 na_128 ml_128 rfl rfl rfl rm_120_128 rfl rfl ow_128 hw17 hk19 ?_
    exact g_iret d_120_25 rt_120 h
  · replace h := h.2 c
    refine g_iconst (pc' := 8) d_120_7 rfl ci_m1 ?_
    exact g_iret d_120_8 rt_120 h
-- 121 BernoulliWays$Pairs.searchUpTo(I)V
theorem S_121_0 {a0 : Nat} {i1 : Int32} {w : xW} {r : Option Value × xW} (h : ∃ fs1, w[a0]? = some (.inr (9, fs1)) ∧ ∃ x3, fs1[4]? = some (.int x3) ∧ (x3 ≤ 0 → r = (none, w)) ∧ (¬ (x3 ≤ 0) → (w[xP]? = none) ∧ ((46 : Int32) ≤ x3 → r = (none, w)) ∧ (¬ ((46 : Int32) ≤ x3) → (w[xP]? = none) ∧ (¬ (x3 < 0 ∨ 46 ≤ x3.toNatClampNeg)) ∧ (i1 < (xpr x3.toNatClampNeg) → r = (none, w)) ∧ (¬ (i1 < (xpr x3.toNatClampNeg)) → (w[xP]? = none) ∧ (¬ (x3 < 0 ∨ 46 ≤ x3.toNatClampNeg)) ∧ ∃ w10, xCall 122 [.ref a0, .int (xpr x3.toNatClampNeg)] w (none, w10) ∧ ∃ fs12, w10[a0]? = some (.inr (9, fs12)) ∧ ∃ x14, fs12[4]? = some (.int x14) ∧ ∀ v16 : Int32, v16 = (x14 + (1 : Int32)) → (4 < fs12.length) ∧ ∀ w18, w18 = w10.set a0 (.inr (9, fs12.set 4 (.int v16))) → xGo 121 0 [some (.ref a0), some (.int i1)] [] w18 r)))) : xGo 121 0 [some (.ref a0), some (.int i1)] [] w r := by
  refine g_aloadn (pc' := 1) d_121_0 rfl rfl ?_
  obtain ⟨fs1, hw2, h⟩ := h
  obtain ⟨x3, hv4, h⟩ := h
  refine g_getf (pc' := 4) d_121_1 rfl st_121_18 hw2 hv4 ?_
  refine g_if_le (pc' := 7) (pt := 55) d_121_4 (by decide) rfl (fun c => ?_) (fun c => ?_)
  · replace h := h.1 c
    exact g_vret d_121_55 rt_121 h
  · replace h := h.2 c
    refine g_aloadn (pc' := 8) d_121_7 rfl rfl ?_
    refine g_getf (pc' := 11) d_121_8 rfl st_121_18 hw2 hv4 ?_
    refine g_gets (pc' := 14) d_121_11 rfl st_121_29 (Or.inr rfl) ?_
    obtain ⟨hc5, h⟩ := h
    refine g_lenp (pc' := 15) d_121_14 rfl hc5 ?_
    refine g_ic_ge (pc' := 18) (pt := 55) d_121_15 (by decide) rfl (fun c => ?_) (fun c => ?_)
    · replace h := h.1 c
      exact g_vret d_121_55 rt_121 h
    · replace h := h.2 c
      refine g_gets (pc' := 21) d_121_18 rfl st_121_29 (Or.inr rfl) ?_
      refine g_aloadn (pc' := 22) d_121_21 rfl rfl ?_
      refine g_getf (pc' := 25) d_121_22 rfl st_121_18 hw2 hv4 ?_
      obtain ⟨hc6, h⟩ := h
      obtain ⟨hc7, h⟩ := h
      refine g_pald (pc' := 26) d_121_25 rfl hc6 hc7 ?_
      refine g_iloadn (pc' := 27) d_121_26 rfl rfl ?_
      refine g_ic_gt (pc' := 30) (pt := 55) d_121_27 (by decide) rfl (fun c => ?_) (fun c => ?_)
      · replace h := h.1 c
        exact g_vret d_121_55 rt_121 h
      · replace h := h.2 c
        refine g_aloadn (pc' := 31) d_121_30 rfl rfl ?_
        refine g_gets (pc' := 34) d_121_31 rfl st_121_29 (Or.inr rfl) ?_
        refine g_aloadn (pc' := 35) d_121_34 rfl rfl ?_
        refine g_getf (pc' := 38) d_121_35 rfl st_121_18 hw2 hv4 ?_
        obtain ⟨hc8, h⟩ := h
        obtain ⟨hc9, h⟩ := h
        refine g_pald (pc' := 39) d_121_38 rfl hc8 hc9 ?_
        obtain ⟨w10, hk11, h⟩ := h
        refine g_callV (pc' := 42) d_121_39 rfl st_121_32 na_122 ml_122 rfl rfl rfl rm_121_122 rfl rfl ow_122 hw2 hk11 ?_
        refine g_aloadn (pc' := 43) d_121_42 rfl rfl ?_
        refine g_dup (pc' := 44) d_121_43 rfl rfl ?_
        obtain ⟨fs12, hw13, h⟩ := h
        obtain ⟨x14, hv15, h⟩ := h
        refine g_getf (pc' := 47) d_121_44 rfl st_121_18 hw13 hv15 ?_
        refine g_iconst (pc' := 48) d_121_47 rfl ci_1 ?_
        refine g_iadd (pc' := 49) d_121_48 rfl ?_
        have h := h _ rfl
        obtain ⟨hc17, h⟩ := h
        have h := h _ rfl
        refine g_putf (pc' := 52) d_121_49 rfl st_121_18 ft_9_4 ff_9_4 rfl (Or.inl rfl) hw13 hc17 ?_
        refine g_goto (pt := 0) d_121_52 (by decide) ?_
        exact h
