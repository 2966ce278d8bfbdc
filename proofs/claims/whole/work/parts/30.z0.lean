/-! Z rows, laid by wip/whole/zp.py -/
theorem Z_12_0 {z1 : Int} {w : xW} {r : Option Value × xW} (hC : CS w) (h : ∃ r4 w1, xCall 13 [.int (jI z1), .int (jI 38)] w (some (.int (jI r4)), w1) ∧ CS w1 ∧ ∀ w6, w6 = pF w1 4 2 (.int (jI r4)) → CS w6 → xGo 12 12 [some (.ref 4), some (.int (jI z1)), some (.int (jI 0))] [] w6 r) : xGo 12 0 [some (.ref 4), some (.int (jI z1)), none] [] w r := by
  refine g_aloadn (pc' := 1) d_12_0 rfl rfl ?_
  refine g_iloadn (pc' := 2) d_12_1 rfl rfl ?_
  refine g_bipush (pc' := 4) (v := jI 38) d_12_2 rfl (by decide) ?_
  obtain ⟨r4, w1, hk2, hC3, h⟩ := h
  refine g_callS (pc' := 7) d_12_4 rfl st_12_18 (Or.inl rfl) na_13 ml_13 rfl rfl rfl rm_12_13 rfl rfl hk2 ?_
  have hpf5 := (kf_4_2 hC3)
  have hC7 : CS (pF w1 4 2 (.int (jI r4))) := ks_4_2 hC3
  have h := h _ rfl hC7
  refine gz_putf (pc' := 10) d_12_7 rfl st_12_24 ft_3_2 ff_3_2 rfl (Or.inl rfl) hpf5 ?_
  refine g_iconst (pc' := 11) d_12_10 rfl rfl ?_
  refine g_istoren (pc' := 12) (l' := [some (.ref 4), some (.int (jI z1)), some (.int (jI 0))]) d_12_11 rfl ml_12 rfl rfl ?_
  exact h
theorem Z_12 {z1 : Int} {w : xW} {r : Option Value × xW} (hC : CS w) (h : ∃ r4 w1, xCall 13 [.int (jI z1), .int (jI 38)] w (some (.int (jI r4)), w1) ∧ CS w1 ∧ ∀ w6, w6 = pF w1 4 2 (.int (jI r4)) → CS w6 → xGo 12 12 [some (.ref 4), some (.int (jI z1)), some (.int (jI 0))] [] w6 r) : xCall 12 [.ref 4, .int (jI z1)] w r := E_12 (Z_12_0 hC h)
theorem Z_12_12 {z1 : Int} {z2 : Int} {w : xW} {r : Option Value × xW} (hC : CS w) (h : ∃ x1, fI w 4 3 2 x1 ∧ in32 z2 ∧ in32 x1 ∧ (x1 < z2 → r = (none, w)) ∧ (z2 ≤ x1 → (z2 ≠ 0 → (0 ≤ z2 ∧ z2 < 39) ∧ ∀ w7, w7 = pL w 5 (z2).toNat (jL 0) → CS w7 → (z2 ≠ 0 → in32 (z2 + 1) ∧ z2 + 1 ≠ 0 ∧ ∃ y11, Int.tdiv 5342931457063200 (z2 + 1) = y11 ∧ ∀ w14, w14 = pL w7 6 (z2).toNat (jL y11) → CS w14 → xGo 12 12 [some (.ref 4), some (.int (jI z1)), some (.int (jI (z2 + 1)))] [] w14 r) ∧ (z2 = 0 → ∀ w17, w17 = pL w7 6 (z2).toNat (jL 0) → CS w17 → xGo 12 12 [some (.ref 4), some (.int (jI z1)), some (.int (jI (z2 + 1)))] [] w17 r)) ∧ (z2 = 0 → (0 ≤ z2 ∧ z2 < 39) ∧ ∀ w21, w21 = pL w 5 (z2).toNat (jL 1) → CS w21 → (z2 ≠ 0 → in32 (z2 + 1) ∧ z2 + 1 ≠ 0 ∧ ∃ y25, Int.tdiv 5342931457063200 (z2 + 1) = y25 ∧ ∀ w28, w28 = pL w21 6 (z2).toNat (jL y25) → CS w28 → xGo 12 12 [some (.ref 4), some (.int (jI z1)), some (.int (jI (z2 + 1)))] [] w28 r) ∧ (z2 = 0 → ∀ w31, w31 = pL w21 6 (z2).toNat (jL 0) → CS w31 → xGo 12 12 [some (.ref 4), some (.int (jI z1)), some (.int (jI (z2 + 1)))] [] w31 r)))) : xGo 12 12 [some (.ref 4), some (.int (jI z1)), some (.int (jI z2))] [] w r := by
  refine g_iloadn (pc' := 13) d_12_12 rfl rfl ?_
  refine g_aloadn (pc' := 14) d_12_13 rfl rfl ?_
  obtain ⟨x1, hv2, h⟩ := h
  refine gz_getI (pc' := 17) d_12_14 rfl st_12_24 hv2 ?_
  obtain ⟨hc3, h⟩ := h
  obtain ⟨hc4, h⟩ := h
  refine gz_ic_gt (pc' := 20) (pt := 63) d_12_17 (by decide) rfl hc3 hc4 (fun c => ?_) (fun c => ?_)
  · replace h := h.1 c
    exact g_vret d_12_63 rt_12 h
  · replace h := h.2 c
    refine g_aloadn (pc' := 21) d_12_20 rfl rfl ?_
    refine gz_getR (pc' := 24) d_12_21 rfl st_12_9 (kr_4_0 hC) ?_
    refine g_iloadn (pc' := 25) d_12_24 rfl rfl ?_
    refine g_iloadn (pc' := 26) d_12_25 rfl rfl ?_
    refine gz_if_ne (pc' := 29) (pt := 33) d_12_26 (by decide) rfl hc3 (fun c => ?_) (fun c => ?_)
    · replace h := h.1 c
      refine g_lconst (pc' := 34) (v := jL 0) d_12_33 rfl cl_0 ?_
      obtain ⟨hc5, h⟩ := h
      have hs6 := (kh_5 hC hc5)
      have hC8 : CS (pL w 5 (z2).toNat (jL 0)) := hC.putL
      have h := h _ rfl hC8
      refine gz_last (pc' := 35) d_12_34 rfl hs6 ?_
      refine g_aloadn (pc' := 36) d_12_35 rfl rfl ?_
      refine gz_getR (pc' := 39) d_12_36 rfl st_12_15 (kr_4_1 hC8) ?_
      refine g_iloadn (pc' := 40) d_12_39 rfl rfl ?_
      refine g_iloadn (pc' := 41) d_12_40 rfl rfl ?_
      refine gz_if_ne (pc' := 44) (pt := 48) d_12_41 (by decide) rfl hc3 (fun c => ?_) (fun c => ?_)
      · replace h := h.1 c
        refine g_ldc2 (pc' := 51) d_12_48 rfl st_12_28 rfl ?_
        refine g_iloadn (pc' := 52) d_12_51 rfl rfl ?_
        refine g_iconst (pc' := 53) d_12_52 rfl rfl ?_
        refine gz_iadd (pc' := 54) d_12_53 rfl ?_
        obtain ⟨hc9, h⟩ := h
        refine gz_i2l (pc' := 55) d_12_54 rfl hc9 ?_
        obtain ⟨hc10, h⟩ := h
        obtain ⟨y11, hz12, h⟩ := h
        refine gz_ldiv (pc' := 56) d_12_55 rfl (s64 (z := 5342931457063200)) (in3264 hc9) hc10 hz12 ?_
        have hs13 := (kh_6 hC8 hc5)
        have hC15 : CS (pL (pL w 5 (z2).toNat (jL 0)) 6 (z2).toNat (jL y11)) := hC8.putL
        have h := h _ rfl hC15
        refine gz_last (pc' := 57) d_12_56 rfl hs13 ?_
        refine gz_iinc (pc' := 60) (l' := [some (.ref 4), some (.int (jI z1)), some (.int (jI (z2 + 1)))]) d_12_57 rfl rfl ml_12 rfl rfl ?_
        refine g_goto (pt := 12) d_12_60 (by decide) ?_
        exact h
      · replace h := h.2 c
        refine g_lconst (pc' := 45) (v := jL 0) d_12_44 rfl cl_0 ?_
        refine g_goto (pt := 56) d_12_45 (by decide) ?_
        have hs16 := (kh_6 hC8 hc5)
        have hC18 : CS (pL (pL w 5 (z2).toNat (jL 0)) 6 (z2).toNat (jL 0)) := hC8.putL
        have h := h _ rfl hC18
        refine gz_last (pc' := 57) d_12_56 rfl hs16 ?_
        refine gz_iinc (pc' := 60) (l' := [some (.ref 4), some (.int (jI z1)), some (.int (jI (z2 + 1)))]) d_12_57 rfl rfl ml_12 rfl rfl ?_
        refine g_goto (pt := 12) d_12_60 (by decide) ?_
        exact h
    · replace h := h.2 c
      refine g_lconst (pc' := 30) (v := jL 1) d_12_29 rfl cl_1 ?_
      refine g_goto (pt := 34) d_12_30 (by decide) ?_
      obtain ⟨hc19, h⟩ := h
      have hs20 := (kh_5 hC hc19)
      have hC22 : CS (pL w 5 (z2).toNat (jL 1)) := hC.putL
      have h := h _ rfl hC22
      refine gz_last (pc' := 35) d_12_34 rfl hs20 ?_
      refine g_aloadn (pc' := 36) d_12_35 rfl rfl ?_
      refine gz_getR (pc' := 39) d_12_36 rfl st_12_15 (kr_4_1 hC22) ?_
      refine g_iloadn (pc' := 40) d_12_39 rfl rfl ?_
      refine g_iloadn (pc' := 41) d_12_40 rfl rfl ?_
      refine gz_if_ne (pc' := 44) (pt := 48) d_12_41 (by decide) rfl hc3 (fun c => ?_) (fun c => ?_)
      · replace h := h.1 c
        refine g_ldc2 (pc' := 51) d_12_48 rfl st_12_28 rfl ?_
        refine g_iloadn (pc' := 52) d_12_51 rfl rfl ?_
        refine g_iconst (pc' := 53) d_12_52 rfl rfl ?_
        refine gz_iadd (pc' := 54) d_12_53 rfl ?_
        obtain ⟨hc23, h⟩ := h
        refine gz_i2l (pc' := 55) d_12_54 rfl hc23 ?_
        obtain ⟨hc24, h⟩ := h
        obtain ⟨y25, hz26, h⟩ := h
        refine gz_ldiv (pc' := 56) d_12_55 rfl (s64 (z := 5342931457063200)) (in3264 hc23) hc24 hz26 ?_
        have hs27 := (kh_6 hC22 hc19)
        have hC29 : CS (pL (pL w 5 (z2).toNat (jL 1)) 6 (z2).toNat (jL y25)) := hC22.putL
        have h := h _ rfl hC29
        refine gz_last (pc' := 57) d_12_56 rfl hs27 ?_
        refine gz_iinc (pc' := 60) (l' := [some (.ref 4), some (.int (jI z1)), some (.int (jI (z2 + 1)))]) d_12_57 rfl rfl ml_12 rfl rfl ?_
        refine g_goto (pt := 12) d_12_60 (by decide) ?_
        exact h
      · replace h := h.2 c
        refine g_lconst (pc' := 45) (v := jL 0) d_12_44 rfl cl_0 ?_
        refine g_goto (pt := 56) d_12_45 (by decide) ?_
        have hs30 := (kh_6 hC22 hc19)
        have hC32 : CS (pL (pL w 5 (z2).toNat (jL 1)) 6 (z2).toNat (jL 0)) := hC22.putL
        have h := h _ rfl hC32
        refine gz_last (pc' := 57) d_12_56 rfl hs30 ?_
        refine gz_iinc (pc' := 60) (l' := [some (.ref 4), some (.int (jI z1)), some (.int (jI (z2 + 1)))]) d_12_57 rfl rfl ml_12 rfl rfl ?_
        refine g_goto (pt := 12) d_12_60 (by decide) ?_
        exact h
theorem Z_13_0 {z0 : Int} {z1 : Int} {w : xW} {r : Option Value × xW} (hC : CS w) (h : in32 z0 ∧ in32 z1 ∧ (z1 < z0 → r = (some (.int (jI z1)), w)) ∧ (z0 ≤ z1 → r = (some (.int (jI z0)), w))) : xGo 13 0 [some (.int (jI z0)), some (.int (jI z1))] [] w r := by
  refine g_iloadn (pc' := 1) d_13_0 rfl rfl ?_
  refine g_iloadn (pc' := 2) d_13_1 rfl rfl ?_
  obtain ⟨hc1, h⟩ := h
  obtain ⟨hc2, h⟩ := h
  refine gz_ic_gt (pc' := 5) (pt := 9) d_13_2 (by decide) rfl hc1 hc2 (fun c => ?_) (fun c => ?_)
  · replace h := h.1 c
    refine g_iloadn (pc' := 10) d_13_9 rfl rfl ?_
    exact g_iret d_13_10 rt_13 h
  · replace h := h.2 c
    refine g_iloadn (pc' := 6) d_13_5 rfl rfl ?_
    refine g_goto (pt := 10) d_13_6 (by decide) ?_
    exact g_iret d_13_10 rt_13 h
theorem Z_13 {z0 : Int} {z1 : Int} {w : xW} {r : Option Value × xW} (hC : CS w) (h : in32 z0 ∧ in32 z1 ∧ (z1 < z0 → r = (some (.int (jI z1)), w)) ∧ (z0 ≤ z1 → r = (some (.int (jI z0)), w))) : xCall 13 [.int (jI z0), .int (jI z1)] w r := E_13 (Z_13_0 hC h)
theorem Z_15_0 {z1 : Int} {a2 : Nat} {w : xW} {r : Option Value × xW} (hC : CS w) (h : in32 z1 ∧ (z1 < 0 → r = (none, w)) ∧ (0 ≤ z1 → (39 ≤ z1 → r = (none, w)) ∧ (z1 < 39 → 0 ≤ z1 ∧ ∃ x3, rL w 5 (z1).toNat x3 ∧ 0 ≤ z1 ∧ ∃ x6, rL w 6 (z1).toNat x6 ∧ isO w a2 5 ∧ ∃ w9, xCall 16 [.ref a2, .long (jL x3), .long (jL x6), .long (jL 5342931457063200)] w (none, w9) ∧ CS w9 ∧ r = (none, w9)))) : xGo 15 0 [some (.ref 4), some (.int (jI z1)), some (.ref a2)] [] w r := by
  refine g_iloadn (pc' := 1) d_15_0 rfl rfl ?_
  obtain ⟨hc1, h⟩ := h
  refine gz_if_lt (pc' := 4) (pt := 29) d_15_1 (by decide) rfl hc1 (fun c => ?_) (fun c => ?_)
  · replace h := h.1 c
    exact g_vret d_15_29 rt_15 h
  · replace h := h.2 c
    refine g_iloadn (pc' := 5) d_15_4 rfl rfl ?_
    refine g_bipush (pc' := 7) (v := jI 39) d_15_5 rfl (by decide) ?_
    refine gz_ic_ge (pc' := 10) (pt := 29) d_15_7 (by decide) rfl hc1 (s32 (z := 39)) (fun c => ?_) (fun c => ?_)
    · replace h := h.1 c
      exact g_vret d_15_29 rt_15 h
    · replace h := h.2 c
      refine g_aloadn (pc' := 11) d_15_10 rfl rfl ?_
      refine g_aloadn (pc' := 12) d_15_11 rfl rfl ?_
      refine gz_getR (pc' := 15) d_15_12 rfl st_15_9 (kr_4_0 hC) ?_
      refine g_iloadn (pc' := 16) d_15_15 rfl rfl ?_
      obtain ⟨hc2, h⟩ := h
      obtain ⟨x3, hv4, h⟩ := h
      refine gz_lald (pc' := 17) d_15_16 rfl hc2 hv4 ?_
      refine g_aloadn (pc' := 18) d_15_17 rfl rfl ?_
      refine gz_getR (pc' := 21) d_15_18 rfl st_15_15 (kr_4_1 hC) ?_
      refine g_iloadn (pc' := 22) d_15_21 rfl rfl ?_
      obtain ⟨hc5, h⟩ := h
      obtain ⟨x6, hv7, h⟩ := h
      refine gz_lald (pc' := 23) d_15_22 rfl hc5 hv7 ?_
      refine g_ldc2 (pc' := 26) d_15_23 rfl st_15_28 rfl ?_
      obtain ⟨hc8, h⟩ := h
      obtain ⟨w9, hk10, hC11, h⟩ := h
      refine gz_callV (pc' := 29) d_15_26 rfl st_15_37 na_16 ml_16 rfl rfl rfl rm_15_16 rfl rfl ow_16 hc8 hk10 ?_
      exact g_vret d_15_29 rt_15 h
theorem Z_15 {z1 : Int} {a2 : Nat} {w : xW} {r : Option Value × xW} (hC : CS w) (h : in32 z1 ∧ (z1 < 0 → r = (none, w)) ∧ (0 ≤ z1 → (39 ≤ z1 → r = (none, w)) ∧ (z1 < 39 → 0 ≤ z1 ∧ ∃ x3, rL w 5 (z1).toNat x3 ∧ 0 ≤ z1 ∧ ∃ x6, rL w 6 (z1).toNat x6 ∧ isO w a2 5 ∧ ∃ w9, xCall 16 [.ref a2, .long (jL x3), .long (jL x6), .long (jL 5342931457063200)] w (none, w9) ∧ CS w9 ∧ r = (none, w9)))) : xCall 15 [.ref 4, .int (jI z1), .ref a2] w r := E_15 (Z_15_0 hC h)
theorem Z_16_0 {q : Nat} {z1 : Int} {z3 : Int} {z5 : Int} {w : xW} {r : Option Value × xW} (hC : CS w) (hq : qIs q) (h : in64 z5 ∧ (0 < z5 → ∃ r5 w2, xCall 17 [.long (jL z3), .long (jL z5)] w (some (.long (jL r5)), w2) ∧ CS w2 ∧ ∃ r9 w6, xCall 18 [.long (jL r5), .long (jL z5)] w2 (some (.long (jL r9)), w6) ∧ CS w6 ∧ ∃ r13 w10, xCall 19 [.long (jL z3), .long (jL z5)] w6 (some (.long (jL r13)), w10) ∧ CS w10 ∧ ∀ w15, w15 = pF w10 q 0 (.long (jL (z1 + r13))) → CS w15 → in64 r5 ∧ in64 r9 ∧ r9 ≠ 0 ∧ ∃ y20, Int.tdiv r5 r9 = y20 ∧ ∀ w23, w23 = pF w15 q 1 (.long (jL y20)) → CS w23 → r9 ≠ 0 ∧ ∃ y26, Int.tdiv z5 r9 = y26 ∧ ∀ w29, w29 = pF w23 q 2 (.long (jL y26)) → CS w29 → r = (none, w29)) ∧ (z5 ≤ 0 → r = (none, w))) : xGo 16 0 [some (.ref q), some (.long (jL z1)), none, some (.long (jL z3)), none, some (.long (jL z5)), none, none, none, none, none] [] w r := by
  refine g_lload (pc' := 2) d_16_0 rfl rfl ?_
  refine g_lconst (pc' := 3) (v := jL 0) d_16_2 rfl cl_0 ?_
  obtain ⟨hc1, h⟩ := h
  refine gz_lc_gt (pc' := 7) (pm := 4) (pt := 8) d_16_3 rfl d_16_4 (by decide) rfl hc1 (s64 (z := 0)) (fun c => ?_) (fun c => ?_)
  · replace h := h.1 c
    refine g_lloadn (pc' := 9) d_16_8 rfl rfl ?_
    refine g_lload (pc' := 11) d_16_9 rfl rfl ?_
    obtain ⟨r5, w2, hk3, hC4, h⟩ := h
    refine g_callS (pc' := 14) d_16_11 rfl st_16_13 (Or.inl rfl) na_17 ml_17 rfl rfl rfl rm_16_17 rfl rfl hk3 ?_
    refine g_lstore (pc' := 16) (l' := [some (.ref q), some (.long (jL z1)), none, some (.long (jL z3)), none, some (.long (jL z5)), none, some (.long (jL r5)), none, none, none]) d_16_14 rfl ml_16 rfl rfl ?_
    refine g_lload (pc' := 18) d_16_16 rfl rfl ?_
    refine g_lload (pc' := 20) d_16_18 rfl rfl ?_
    obtain ⟨r9, w6, hk7, hC8, h⟩ := h
    refine g_callS (pc' := 23) d_16_20 rfl st_16_19 (Or.inl rfl) na_18 ml_18 rfl rfl rfl rm_16_18 rfl rfl hk7 ?_
    refine g_lstore (pc' := 25) (l' := [some (.ref q), some (.long (jL z1)), none, some (.long (jL z3)), none, some (.long (jL z5)), none, some (.long (jL r5)), none, some (.long (jL r9)), none]) d_16_23 rfl ml_16 rfl rfl ?_
    refine g_aloadn (pc' := 26) d_16_25 rfl rfl ?_
    refine g_lloadn (pc' := 27) d_16_26 rfl rfl ?_
    refine g_lloadn (pc' := 28) d_16_27 rfl rfl ?_
    refine g_lload (pc' := 30) d_16_28 rfl rfl ?_
    obtain ⟨r13, w10, hk11, hC12, h⟩ := h
    refine g_callS (pc' := 33) d_16_30 rfl st_16_22 (Or.inl rfl) na_19 ml_19 rfl rfl rfl rm_16_19 rfl rfl hk11 ?_
    refine gz_ladd (pc' := 34) d_16_33 rfl ?_
    have hpf14 := (kf_q_0 hq hC12)
    have hC16 : CS (pF w10 q 0 (.long (jL (z1 + r13)))) := ks_q_0 hq hC12
    have h := h _ rfl hC16
    refine gz_putf (pc' := 37) d_16_34 rfl st_16_25 ft_5_0 ff_5_0 rfl (Or.inl rfl) hpf14 ?_
    refine g_aloadn (pc' := 38) d_16_37 rfl rfl ?_
    refine g_lload (pc' := 40) d_16_38 rfl rfl ?_
    refine g_lload (pc' := 42) d_16_40 rfl rfl ?_
    obtain ⟨hc17, h⟩ := h
    obtain ⟨hc18, h⟩ := h
    obtain ⟨hc19, h⟩ := h
    obtain ⟨y20, hz21, h⟩ := h
    refine gz_ldiv (pc' := 43) d_16_42 rfl hc17 hc18 hc19 hz21 ?_
    have hpf22 := (kf_q_1 hq hC16)
    have hC24 : CS (pF (pF w10 q 0 (.long (jL (z1 + r13)))) q 1 (.long (jL y20))) := ks_q_1 hq hC16
    have h := h _ rfl hC24
    refine gz_putf (pc' := 46) d_16_43 rfl st_16_28 ft_5_1 ff_5_1 rfl (Or.inl rfl) hpf22 ?_
    refine g_aloadn (pc' := 47) d_16_46 rfl rfl ?_
    refine g_lload (pc' := 49) d_16_47 rfl rfl ?_
    refine g_lload (pc' := 51) d_16_49 rfl rfl ?_
    obtain ⟨hc25, h⟩ := h
    obtain ⟨y26, hz27, h⟩ := h
    refine gz_ldiv (pc' := 52) d_16_51 rfl hc1 hc18 hc25 hz27 ?_
    have hpf28 := (kf_q_2 hq hC24)
    have hC30 : CS (pF (pF (pF w10 q 0 (.long (jL (z1 + r13)))) q 1 (.long (jL y20))) q 2 (.long (jL y26))) := ks_q_2 hq hC24
    have h := h _ rfl hC30
    refine gz_putf (pc' := 55) d_16_52 rfl st_16_7 ft_5_2 ff_5_2 rfl (Or.inl rfl) hpf28 ?_
    exact g_vret d_16_55 rt_16 h
  · replace h := h.2 c
    exact g_vret d_16_7 rt_16 h
theorem Z_16 {q : Nat} {z1 : Int} {z3 : Int} {z5 : Int} {w : xW} {r : Option Value × xW} (hC : CS w) (hq : qIs q) (h : in64 z5 ∧ (0 < z5 → ∃ r5 w2, xCall 17 [.long (jL z3), .long (jL z5)] w (some (.long (jL r5)), w2) ∧ CS w2 ∧ ∃ r9 w6, xCall 18 [.long (jL r5), .long (jL z5)] w2 (some (.long (jL r9)), w6) ∧ CS w6 ∧ ∃ r13 w10, xCall 19 [.long (jL z3), .long (jL z5)] w6 (some (.long (jL r13)), w10) ∧ CS w10 ∧ ∀ w15, w15 = pF w10 q 0 (.long (jL (z1 + r13))) → CS w15 → in64 r5 ∧ in64 r9 ∧ r9 ≠ 0 ∧ ∃ y20, Int.tdiv r5 r9 = y20 ∧ ∀ w23, w23 = pF w15 q 1 (.long (jL y20)) → CS w23 → r9 ≠ 0 ∧ ∃ y26, Int.tdiv z5 r9 = y26 ∧ ∀ w29, w29 = pF w23 q 2 (.long (jL y26)) → CS w29 → r = (none, w29)) ∧ (z5 ≤ 0 → r = (none, w))) : xCall 16 [.ref q, .long (jL z1), .long (jL z3), .long (jL z5)] w r := E_16 (Z_16_0 hC hq h)
theorem Z_17_0 {z0 : Int} {z2 : Int} {w : xW} {r : Option Value × xW} (hC : CS w) (h : in64 z0 ∧ in64 z2 ∧ z2 ≠ 0 ∧ ∃ y4, Int.tmod z0 z2 = y4 ∧ ∃ y6, jL z0 ^^^ jL z2 = jL y6 ∧ in64 y6 ∧ (0 ≤ y6 → r = (some (.long (jL y4)), w)) ∧ (y6 < 0 → in64 y4 ∧ (y4 = 0 → r = (some (.long (jL y4)), w)) ∧ (y4 ≠ 0 → r = (some (.long (jL (y4 + z2))), w)))) : xGo 17 0 [some (.long (jL z0)), none, some (.long (jL z2)), none, none, none] [] w r := by
  refine g_lloadn (pc' := 1) d_17_0 rfl rfl ?_
  refine g_lloadn (pc' := 2) d_17_1 rfl rfl ?_
  obtain ⟨hc1, h⟩ := h
  obtain ⟨hc2, h⟩ := h
  obtain ⟨hc3, h⟩ := h
  obtain ⟨y4, hz5, h⟩ := h
  refine gz_lrem (pc' := 3) d_17_2 rfl hc1 hc2 hc3 hz5 ?_
  refine g_lstore (pc' := 5) (l' := [some (.long (jL z0)), none, some (.long (jL z2)), none, some (.long (jL y4)), none]) d_17_3 rfl ml_17 rfl rfl ?_
  refine g_lloadn (pc' := 6) d_17_5 rfl rfl ?_
  refine g_lloadn (pc' := 7) d_17_6 rfl rfl ?_
  obtain ⟨y6, hz7, h⟩ := h
  refine gz_lxor (pc' := 8) d_17_7 rfl hz7 ?_
  refine g_lconst (pc' := 9) (v := jL 0) d_17_8 rfl cl_0 ?_
  obtain ⟨hc8, h⟩ := h
  refine gz_lc_ge (pc' := 13) (pm := 10) (pt := 25) d_17_9 rfl d_17_10 (by decide) rfl hc8 (s64 (z := 0)) (fun c => ?_) (fun c => ?_)
  · replace h := h.1 c
    refine g_lload (pc' := 27) d_17_25 rfl rfl ?_
    exact g_lret d_17_27 rt_17 h
  · replace h := h.2 c
    refine g_lload (pc' := 15) d_17_13 rfl rfl ?_
    refine g_lconst (pc' := 16) (v := jL 0) d_17_15 rfl cl_0 ?_
    obtain ⟨hc9, h⟩ := h
    refine gz_lc_eq (pc' := 20) (pm := 17) (pt := 25) d_17_16 rfl d_17_17 (by decide) rfl hc9 (s64 (z := 0)) (fun c => ?_) (fun c => ?_)
    · replace h := h.1 c
      refine g_lload (pc' := 27) d_17_25 rfl rfl ?_
      exact g_lret d_17_27 rt_17 h
    · replace h := h.2 c
      refine g_lload (pc' := 22) d_17_20 rfl rfl ?_
      refine g_lloadn (pc' := 23) d_17_22 rfl rfl ?_
      refine gz_ladd (pc' := 24) d_17_23 rfl ?_
      exact g_lret d_17_24 rt_17 h
theorem Z_17 {z0 : Int} {z2 : Int} {w : xW} {r : Option Value × xW} (hC : CS w) (h : in64 z0 ∧ in64 z2 ∧ z2 ≠ 0 ∧ ∃ y4, Int.tmod z0 z2 = y4 ∧ ∃ y6, jL z0 ^^^ jL z2 = jL y6 ∧ in64 y6 ∧ (0 ≤ y6 → r = (some (.long (jL y4)), w)) ∧ (y6 < 0 → in64 y4 ∧ (y4 = 0 → r = (some (.long (jL y4)), w)) ∧ (y4 ≠ 0 → r = (some (.long (jL (y4 + z2))), w)))) : xCall 17 [.long (jL z0), .long (jL z2)] w r := E_17 (Z_17_0 hC h)
theorem Z_18_0 {z0 : Int} {z2 : Int} {w : xW} {r : Option Value × xW} (hC : CS w) (h : xGo 18 9 [some (.long (jL z0)), none, some (.long (jL z2)), none, some (.long (jL z2)), none, some (.long (jL z0)), none, some (.int (jI 0)), none, none] [] w r) : xGo 18 0 [some (.long (jL z0)), none, some (.long (jL z2)), none, none, none, none, none, none, none, none] [] w r := by
  refine g_lloadn (pc' := 1) d_18_0 rfl rfl ?_
  refine g_lstore (pc' := 3) (l' := [some (.long (jL z0)), none, some (.long (jL z2)), none, some (.long (jL z2)), none, none, none, none, none, none]) d_18_1 rfl ml_18 rfl rfl ?_
  refine g_lloadn (pc' := 4) d_18_3 rfl rfl ?_
  refine g_lstore (pc' := 6) (l' := [some (.long (jL z0)), none, some (.long (jL z2)), none, some (.long (jL z2)), none, some (.long (jL z0)), none, none, none, none]) d_18_4 rfl ml_18 rfl rfl ?_
  refine g_iconst (pc' := 7) d_18_6 rfl rfl ?_
  refine g_istore (pc' := 9) (l' := [some (.long (jL z0)), none, some (.long (jL z2)), none, some (.long (jL z2)), none, some (.long (jL z0)), none, some (.int (jI 0)), none, none]) d_18_7 rfl ml_18 rfl rfl ?_
  exact h
theorem Z_18 {z0 : Int} {z2 : Int} {w : xW} {r : Option Value × xW} (hC : CS w) (h : xGo 18 9 [some (.long (jL z0)), none, some (.long (jL z2)), none, some (.long (jL z2)), none, some (.long (jL z0)), none, some (.int (jI 0)), none, none] [] w r) : xCall 18 [.long (jL z0), .long (jL z2)] w r := E_18 (Z_18_0 hC h)
theorem Z_18_9 {z0 : Int} {z2 : Int} {z4 : Int} {z6 : Int} {z8 : Int} {w : xW} {r : Option Value × xW} (hC : CS w) (h : in32 z8 ∧ (100 ≤ z8 → in64 z4 ∧ (z4 ≤ 0 → r = (some (.long (jL 1)), w)) ∧ (0 < z4 → r = (some (.long (jL z4)), w))) ∧ (z8 < 100 → in64 z6 ∧ (z6 ≤ 0 → in64 z4 ∧ (z4 ≤ 0 → r = (some (.long (jL 1)), w)) ∧ (0 < z4 → r = (some (.long (jL z4)), w))) ∧ (0 < z6 → in64 z4 ∧ z6 ≠ 0 ∧ ∃ y7, Int.tmod z4 z6 = y7 ∧ xGo 18 9 [some (.long (jL z0)), none, some (.long (jL z2)), none, some (.long (jL z6)), none, some (.long (jL y7)), none, some (.int (jI (z8 + 1))), none, none] [] w r))) : xGo 18 9 [some (.long (jL z0)), none, some (.long (jL z2)), none, some (.long (jL z4)), none, some (.long (jL z6)), none, some (.int (jI z8)), none, none] [] w r := by
  refine g_iload (pc' := 11) d_18_9 rfl rfl ?_
  refine g_bipush (pc' := 13) (v := jI 100) d_18_11 rfl (by decide) ?_
  obtain ⟨hc1, h⟩ := h
  refine gz_ic_ge (pc' := 16) (pt := 44) d_18_13 (by decide) rfl hc1 (s32 (z := 100)) (fun c => ?_) (fun c => ?_)
  · replace h := h.1 c
    refine g_lload (pc' := 46) d_18_44 rfl rfl ?_
    refine g_lconst (pc' := 47) (v := jL 0) d_18_46 rfl cl_0 ?_
    obtain ⟨hc2, h⟩ := h
    refine gz_lc_le (pc' := 51) (pm := 48) (pt := 56) d_18_47 rfl d_18_48 (by decide) rfl hc2 (s64 (z := 0)) (fun c => ?_) (fun c => ?_)
    · replace h := h.1 c
      refine g_lconst (pc' := 57) (v := jL 1) d_18_56 rfl cl_1 ?_
      exact g_lret d_18_57 rt_18 h
    · replace h := h.2 c
      refine g_lload (pc' := 53) d_18_51 rfl rfl ?_
      refine g_goto (pt := 57) d_18_53 (by decide) ?_
      exact g_lret d_18_57 rt_18 h
  · replace h := h.2 c
    refine g_lload (pc' := 18) d_18_16 rfl rfl ?_
    refine g_lconst (pc' := 19) (v := jL 0) d_18_18 rfl cl_0 ?_
    obtain ⟨hc3, h⟩ := h
    refine gz_lc_le (pc' := 23) (pm := 20) (pt := 44) d_18_19 rfl d_18_20 (by decide) rfl hc3 (s64 (z := 0)) (fun c => ?_) (fun c => ?_)
    · replace h := h.1 c
      refine g_lload (pc' := 46) d_18_44 rfl rfl ?_
      refine g_lconst (pc' := 47) (v := jL 0) d_18_46 rfl cl_0 ?_
      obtain ⟨hc4, h⟩ := h
      refine gz_lc_le (pc' := 51) (pm := 48) (pt := 56) d_18_47 rfl d_18_48 (by decide) rfl hc4 (s64 (z := 0)) (fun c => ?_) (fun c => ?_)
      · replace h := h.1 c
        refine g_lconst (pc' := 57) (v := jL 1) d_18_56 rfl cl_1 ?_
        exact g_lret d_18_57 rt_18 h
      · replace h := h.2 c
        refine g_lload (pc' := 53) d_18_51 rfl rfl ?_
        refine g_goto (pt := 57) d_18_53 (by decide) ?_
        exact g_lret d_18_57 rt_18 h
    · replace h := h.2 c
      refine g_lload (pc' := 25) d_18_23 rfl rfl ?_
      refine g_lload (pc' := 27) d_18_25 rfl rfl ?_
      obtain ⟨hc5, h⟩ := h
      obtain ⟨hc6, h⟩ := h
      obtain ⟨y7, hz8, h⟩ := h
      refine gz_lrem (pc' := 28) d_18_27 rfl hc5 hc3 hc6 hz8 ?_
      refine g_lstore (pc' := 30) (l' := [some (.long (jL z0)), none, some (.long (jL z2)), none, some (.long (jL z4)), none, some (.long (jL z6)), none, some (.int (jI z8)), some (.long (jL y7)), none]) d_18_28 rfl ml_18 rfl rfl ?_
      refine g_lload (pc' := 32) d_18_30 rfl rfl ?_
      refine g_lstore (pc' := 34) (l' := [some (.long (jL z0)), none, some (.long (jL z2)), none, some (.long (jL z6)), none, some (.long (jL z6)), none, some (.int (jI z8)), some (.long (jL y7)), none]) d_18_32 rfl ml_18 rfl rfl ?_
      refine g_lload (pc' := 36) d_18_34 rfl rfl ?_
      refine g_lstore (pc' := 38) (l' := [some (.long (jL z0)), none, some (.long (jL z2)), none, some (.long (jL z6)), none, some (.long (jL y7)), none, some (.int (jI z8)), some (.long (jL y7)), none]) d_18_36 rfl ml_18 rfl rfl ?_
      refine gz_iinc (pc' := 41) (l' := [some (.long (jL z0)), none, some (.long (jL z2)), none, some (.long (jL z6)), none, some (.long (jL y7)), none, some (.int (jI (z8 + 1))), some (.long (jL y7)), none]) d_18_38 rfl rfl ml_18 rfl rfl ?_
      refine g_goto (pt := 9) d_18_41 (by decide) ?_
      exact xGo.more (xle_s (xle_n (xle_s (xle_n (xle_s (xle_n (xle_s (xle_n (xle_s (xle_n (xle_n xle_0))))))))))) h
theorem Z_19_0 {z0 : Int} {z2 : Int} {w : xW} {r : Option Value × xW} (hC : CS w) (h : in64 z0 ∧ in64 z2 ∧ z2 ≠ 0 ∧ ∃ y4, Int.tdiv z0 z2 = y4 ∧ ∃ y6, jL z0 ^^^ jL z2 = jL y6 ∧ in64 y6 ∧ (0 ≤ y6 → r = (some (.long (jL y4)), w)) ∧ (y6 < 0 → in64 (y4 * z2) ∧ (y4 * z2 = z0 → r = (some (.long (jL y4)), w)) ∧ (y4 * z2 ≠ z0 → r = (some (.long (jL (y4 - 1))), w)))) : xGo 19 0 [some (.long (jL z0)), none, some (.long (jL z2)), none, none, none] [] w r := by
  refine g_lloadn (pc' := 1) d_19_0 rfl rfl ?_
  refine g_lloadn (pc' := 2) d_19_1 rfl rfl ?_
  obtain ⟨hc1, h⟩ := h
  obtain ⟨hc2, h⟩ := h
  obtain ⟨hc3, h⟩ := h
  obtain ⟨y4, hz5, h⟩ := h
  refine gz_ldiv (pc' := 3) d_19_2 rfl hc1 hc2 hc3 hz5 ?_
  refine g_lstore (pc' := 5) (l' := [some (.long (jL z0)), none, some (.long (jL z2)), none, some (.long (jL y4)), none]) d_19_3 rfl ml_19 rfl rfl ?_
  refine g_lloadn (pc' := 6) d_19_5 rfl rfl ?_
  refine g_lloadn (pc' := 7) d_19_6 rfl rfl ?_
  obtain ⟨y6, hz7, h⟩ := h
  refine gz_lxor (pc' := 8) d_19_7 rfl hz7 ?_
  refine g_lconst (pc' := 9) (v := jL 0) d_19_8 rfl cl_0 ?_
  obtain ⟨hc8, h⟩ := h
  refine gz_lc_ge (pc' := 13) (pm := 10) (pt := 27) d_19_9 rfl d_19_10 (by decide) rfl hc8 (s64 (z := 0)) (fun c => ?_) (fun c => ?_)
  · replace h := h.1 c
    refine g_lload (pc' := 29) d_19_27 rfl rfl ?_
    exact g_lret d_19_29 rt_19 h
  · replace h := h.2 c
    refine g_lload (pc' := 15) d_19_13 rfl rfl ?_
    refine g_lloadn (pc' := 16) d_19_15 rfl rfl ?_
    refine gz_lmul (pc' := 17) d_19_16 rfl ?_
    refine g_lloadn (pc' := 18) d_19_17 rfl rfl ?_
    obtain ⟨hc9, h⟩ := h
    refine gz_lc_eq (pc' := 22) (pm := 19) (pt := 27) d_19_18 rfl d_19_19 (by decide) rfl hc9 hc1 (fun c => ?_) (fun c => ?_)
    · replace h := h.1 c
      refine g_lload (pc' := 29) d_19_27 rfl rfl ?_
      exact g_lret d_19_29 rt_19 h
    · replace h := h.2 c
      refine g_lload (pc' := 24) d_19_22 rfl rfl ?_
      refine g_lconst (pc' := 25) (v := jL 1) d_19_24 rfl cl_1 ?_
      refine gz_lsub (pc' := 26) d_19_25 rfl ?_
      exact g_lret d_19_26 rt_19 h
theorem Z_19 {z0 : Int} {z2 : Int} {w : xW} {r : Option Value × xW} (hC : CS w) (h : in64 z0 ∧ in64 z2 ∧ z2 ≠ 0 ∧ ∃ y4, Int.tdiv z0 z2 = y4 ∧ ∃ y6, jL z0 ^^^ jL z2 = jL y6 ∧ in64 y6 ∧ (0 ≤ y6 → r = (some (.long (jL y4)), w)) ∧ (y6 < 0 → in64 (y4 * z2) ∧ (y4 * z2 = z0 → r = (some (.long (jL y4)), w)) ∧ (y4 * z2 ≠ z0 → r = (some (.long (jL (y4 - 1))), w)))) : xCall 19 [.long (jL z0), .long (jL z2)] w r := E_19 (Z_19_0 hC h)
theorem Z_20_0 {e : Nat} {z1 : Int} {a2 : Nat} {w : xW} {r : Option Value × xW} (hC : CS w) (he : eIs e) (h : ∃ (P4 : Prop) (dP5 : Decidable P4) (w1 : xW), xCall 21 [.int (jI z1)] w (some (.int (bz P4)), w1) ∧ CS w1 ∧ (¬ P4 → r = (none, w1)) ∧ (P4 → ∃ x6, fJ w1 a2 5 0 x6 ∧ (0 ≤ z1 ∧ z1 < 39) ∧ ∀ w10, w10 = pL w1 (e + 1) (z1).toNat (jL x6) → CS w10 → ∃ x12, fJ w10 a2 5 1 x12 ∧ ∀ w15, w15 = pL w10 (e + 2) (z1).toNat (jL x12) → CS w15 → ∃ x17, fJ w15 a2 5 2 x17 ∧ ∀ w20, w20 = pL w15 (e + 3) (z1).toNat (jL x17) → CS w20 → r = (none, w20))) : xGo 20 0 [some (.ref e), some (.int (jI z1)), some (.ref a2)] [] w r := by
  refine g_iloadn (pc' := 1) d_20_0 rfl rfl ?_
  obtain ⟨P4, dP5, w1, hk2, hC3, h⟩ := h
  refine g_callS (pc' := 4) d_20_1 rfl st_20_34 (Or.inl rfl) na_21 ml_21 rfl rfl rfl rm_20_21 rfl rfl hk2 ?_
  refine gz_bt_eq (pc' := 7) (pt := 37) d_20_4 (by decide) rfl (fun c => ?_) (fun c => ?_)
  · replace h := h.1 c
    exact g_vret d_20_37 rt_20 h
  · replace h := h.2 c
    refine g_aloadn (pc' := 8) d_20_7 rfl rfl ?_
    refine gz_getR (pc' := 11) d_20_8 rfl st_20_9 (kr_e_0 he hC3) ?_
    refine g_iloadn (pc' := 12) d_20_11 rfl rfl ?_
    refine g_aloadn (pc' := 13) d_20_12 rfl rfl ?_
    obtain ⟨x6, hv7, h⟩ := h
    refine gz_getJ (pc' := 16) d_20_13 rfl st_20_45 hv7 ?_
    obtain ⟨hc8, h⟩ := h
    have hs9 := (kh_e_1 he hC3 hc8)
    have hC11 : CS (pL w1 (e + 1) (z1).toNat (jL x6)) := hC3.putL
    have h := h _ rfl hC11
    refine gz_last (pc' := 17) d_20_16 rfl hs9 ?_
    refine g_aloadn (pc' := 18) d_20_17 rfl rfl ?_
    refine gz_getR (pc' := 21) d_20_18 rfl st_20_15 (kr_e_1 he hC11) ?_
    refine g_iloadn (pc' := 22) d_20_21 rfl rfl ?_
    refine g_aloadn (pc' := 23) d_20_22 rfl rfl ?_
    obtain ⟨x12, hv13, h⟩ := h
    refine gz_getJ (pc' := 26) d_20_23 rfl st_20_49 hv13 ?_
    have hs14 := (kh_e_2 he hC11 hc8)
    have hC16 : CS (pL (pL w1 (e + 1) (z1).toNat (jL x6)) (e + 2) (z1).toNat (jL x12)) := hC11.putL
    have h := h _ rfl hC16
    refine gz_last (pc' := 27) d_20_26 rfl hs14 ?_
    refine g_aloadn (pc' := 28) d_20_27 rfl rfl ?_
    refine gz_getR (pc' := 31) d_20_28 rfl st_20_18 (kr_e_2 he hC16) ?_
    refine g_iloadn (pc' := 32) d_20_31 rfl rfl ?_
    refine g_aloadn (pc' := 33) d_20_32 rfl rfl ?_
    obtain ⟨x17, hv18, h⟩ := h
    refine gz_getJ (pc' := 36) d_20_33 rfl st_20_52 hv18 ?_
    have hs19 := (kh_e_3 he hC16 hc8)
    have hC21 : CS (pL (pL (pL w1 (e + 1) (z1).toNat (jL x6)) (e + 2) (z1).toNat (jL x12)) (e + 3) (z1).toNat (jL x17)) := hC16.putL
    have h := h _ rfl hC21
    refine gz_last (pc' := 37) d_20_36 rfl hs19 ?_
    exact g_vret d_20_37 rt_20 h
theorem Z_20 {e : Nat} {z1 : Int} {a2 : Nat} {w : xW} {r : Option Value × xW} (hC : CS w) (he : eIs e) (h : ∃ (P4 : Prop) (dP5 : Decidable P4) (w1 : xW), xCall 21 [.int (jI z1)] w (some (.int (bz P4)), w1) ∧ CS w1 ∧ (¬ P4 → r = (none, w1)) ∧ (P4 → ∃ x6, fJ w1 a2 5 0 x6 ∧ (0 ≤ z1 ∧ z1 < 39) ∧ ∀ w10, w10 = pL w1 (e + 1) (z1).toNat (jL x6) → CS w10 → ∃ x12, fJ w10 a2 5 1 x12 ∧ ∀ w15, w15 = pL w10 (e + 2) (z1).toNat (jL x12) → CS w15 → ∃ x17, fJ w15 a2 5 2 x17 ∧ ∀ w20, w20 = pL w15 (e + 3) (z1).toNat (jL x17) → CS w20 → r = (none, w20))) : xCall 20 [.ref e, .int (jI z1), .ref a2] w r := E_20 (Z_20_0 hC he h)
theorem Z_21_0 {z0 : Int} {w : xW} {r : Option Value × xW} (hC : CS w) (h : in32 z0 ∧ (z0 < 0 → r = (some (.int (jI 0)), w)) ∧ (0 ≤ z0 → (39 ≤ z0 → r = (some (.int (jI 0)), w)) ∧ (z0 < 39 → r = (some (.int (jI 1)), w)))) : xGo 21 0 [some (.int (jI z0))] [] w r := by
  refine g_iloadn (pc' := 1) d_21_0 rfl rfl ?_
  obtain ⟨hc1, h⟩ := h
  refine gz_if_lt (pc' := 4) (pt := 14) d_21_1 (by decide) rfl hc1 (fun c => ?_) (fun c => ?_)
  · replace h := h.1 c
    refine g_iconst (pc' := 15) d_21_14 rfl rfl ?_
    exact g_zret d_21_15 rt_21 (Or.inl rfl) h
  · replace h := h.2 c
    refine g_iloadn (pc' := 5) d_21_4 rfl rfl ?_
    refine g_bipush (pc' := 7) (v := jI 39) d_21_5 rfl (by decide) ?_
    refine gz_ic_ge (pc' := 10) (pt := 14) d_21_7 (by decide) rfl hc1 (s32 (z := 39)) (fun c => ?_) (fun c => ?_)
    · replace h := h.1 c
      refine g_iconst (pc' := 15) d_21_14 rfl rfl ?_
      exact g_zret d_21_15 rt_21 (Or.inl rfl) h
    · replace h := h.2 c
      refine g_iconst (pc' := 11) d_21_10 rfl rfl ?_
      refine g_goto (pt := 15) d_21_11 (by decide) ?_
      exact g_zret d_21_15 rt_21 (Or.inr rfl) h
theorem Z_21 {z0 : Int} {w : xW} {r : Option Value × xW} (hC : CS w) (h : in32 z0 ∧ (z0 < 0 → r = (some (.int (jI 0)), w)) ∧ (0 ≤ z0 → (39 ≤ z0 → r = (some (.int (jI 0)), w)) ∧ (z0 < 39 → r = (some (.int (jI 1)), w)))) : xCall 21 [.int (jI z0)] w r := E_21 (Z_21_0 hC h)
theorem Z_22_0  {w : xW} {r : Option Value × xW} (hC : CS w) (h : xGo 22 2 [some (.ref 4), some (.int (jI 0)), none, none] [] w r) : xGo 22 0 [some (.ref 4), none, none, none] [] w r := by
  refine g_iconst (pc' := 1) d_22_0 rfl rfl ?_
  refine g_istoren (pc' := 2) (l' := [some (.ref 4), some (.int (jI 0)), none, none]) d_22_1 rfl ml_22 rfl rfl ?_
  exact h
theorem Z_22  {w : xW} {r : Option Value × xW} (hC : CS w) (h : xGo 22 2 [some (.ref 4), some (.int (jI 0)), none, none] [] w r) : xCall 22 [.ref 4] w r := E_22 (Z_22_0 hC h)
theorem Z_22_2 {z1 : Int} {w : xW} {r : Option Value × xW} (hC : CS w) (h : ∃ x1, fI w 4 3 2 x1 ∧ in32 z1 ∧ in32 x1 ∧ (x1 ≤ z1 → ∀ w6, w6 = pF w 4 2 (.int (jI (x1 - 1))) → CS w6 → r = (none, w6)) ∧ (z1 < x1 → in32 (z1 + 1) ∧ (39 ≤ z1 + 1 → ∀ w10, w10 = pF w 4 2 (.int (jI (x1 - 1))) → CS w10 → r = (none, w10)) ∧ (z1 + 1 < 39 → 0 ≤ z1 ∧ ∃ x13, rL w 6 (z1).toNat x13 ∧ 0 ≤ z1 + 1 ∧ ∃ x16, rL w 6 (z1 + 1).toNat x16 ∧ 0 ≤ z1 ∧ ∃ x19, rL w 5 (z1).toNat x19 ∧ 0 ≤ z1 + 1 ∧ ∃ x22, rL w 5 (z1 + 1).toNat x22 ∧ ∃ r27 w24, xCall 19 [.long (jL ((z1 + 1) * (x13 - x16))), .long (jL 5342931457063200)] w (some (.long (jL r27)), w24) ∧ CS w24 ∧ (0 ≤ z1 ∧ z1 < 39) ∧ ∀ w30, w30 = pL w24 5 (z1).toNat (jL (((z1 + 1) * (x19 - x22)) + r27)) → CS w30 → ∃ r35 w32, xCall 17 [.long (jL ((z1 + 1) * (x13 - x16))), .long (jL 5342931457063200)] w30 (some (.long (jL r35)), w32) ∧ CS w32 ∧ ∀ w37, w37 = pL w32 6 (z1).toNat (jL r35) → CS w37 → xGo 22 2 [some (.ref 4), some (.int (jI (z1 + 1))), none, none] [] w37 r))) : xGo 22 2 [some (.ref 4), some (.int (jI z1)), none, none] [] w r := by
  refine g_iloadn (pc' := 3) d_22_2 rfl rfl ?_
  refine g_aloadn (pc' := 4) d_22_3 rfl rfl ?_
  obtain ⟨x1, hv2, h⟩ := h
  refine gz_getI (pc' := 7) d_22_4 rfl st_22_24 hv2 ?_
  obtain ⟨hc3, h⟩ := h
  obtain ⟨hc4, h⟩ := h
  refine gz_ic_ge (pc' := 10) (pt := 92) d_22_7 (by decide) rfl hc3 hc4 (fun c => ?_) (fun c => ?_)
  · replace h := h.1 c
    refine g_aloadn (pc' := 93) d_22_92 rfl rfl ?_
    refine g_dup (pc' := 94) d_22_93 rfl rfl ?_
    refine gz_getI (pc' := 97) d_22_94 rfl st_22_24 hv2 ?_
    refine g_iconst (pc' := 98) d_22_97 rfl rfl ?_
    refine gz_isub (pc' := 99) d_22_98 rfl ?_
    have hpf5 := (kf_4_2 hC)
    have hC7 : CS (pF w 4 2 (.int (jI (x1 - 1)))) := ks_4_2 hC
    have h := h _ rfl hC7
    refine gz_putf (pc' := 102) d_22_99 rfl st_22_24 ft_3_2 ff_3_2 rfl (Or.inl rfl) hpf5 ?_
    exact g_vret d_22_102 rt_22 h
  · replace h := h.2 c
    refine g_iloadn (pc' := 11) d_22_10 rfl rfl ?_
    refine g_iconst (pc' := 12) d_22_11 rfl rfl ?_
    refine gz_iadd (pc' := 13) d_22_12 rfl ?_
    refine g_bipush (pc' := 15) (v := jI 39) d_22_13 rfl (by decide) ?_
    obtain ⟨hc8, h⟩ := h
    refine gz_ic_ge (pc' := 18) (pt := 92) d_22_15 (by decide) rfl hc8 (s32 (z := 39)) (fun c => ?_) (fun c => ?_)
    · replace h := h.1 c
      refine g_aloadn (pc' := 93) d_22_92 rfl rfl ?_
      refine g_dup (pc' := 94) d_22_93 rfl rfl ?_
      refine gz_getI (pc' := 97) d_22_94 rfl st_22_24 hv2 ?_
      refine g_iconst (pc' := 98) d_22_97 rfl rfl ?_
      refine gz_isub (pc' := 99) d_22_98 rfl ?_
      have hpf9 := (kf_4_2 hC)
      have hC11 : CS (pF w 4 2 (.int (jI (x1 - 1)))) := ks_4_2 hC
      have h := h _ rfl hC11
      refine gz_putf (pc' := 102) d_22_99 rfl st_22_24 ft_3_2 ff_3_2 rfl (Or.inl rfl) hpf9 ?_
      exact g_vret d_22_102 rt_22 h
    · replace h := h.2 c
      refine g_iloadn (pc' := 19) d_22_18 rfl rfl ?_
      refine g_iconst (pc' := 20) d_22_19 rfl rfl ?_
      refine gz_iadd (pc' := 21) d_22_20 rfl ?_
      refine gz_i2l (pc' := 22) d_22_21 rfl hc8 ?_
      refine g_aloadn (pc' := 23) d_22_22 rfl rfl ?_
      refine gz_getR (pc' := 26) d_22_23 rfl st_22_15 (kr_4_1 hC) ?_
      refine g_iloadn (pc' := 27) d_22_26 rfl rfl ?_
      obtain ⟨hc12, h⟩ := h
      obtain ⟨x13, hv14, h⟩ := h
      refine gz_lald (pc' := 28) d_22_27 rfl hc12 hv14 ?_
      refine g_aloadn (pc' := 29) d_22_28 rfl rfl ?_
      refine gz_getR (pc' := 32) d_22_29 rfl st_22_15 (kr_4_1 hC) ?_
      refine g_iloadn (pc' := 33) d_22_32 rfl rfl ?_
      refine g_iconst (pc' := 34) d_22_33 rfl rfl ?_
      refine gz_iadd (pc' := 35) d_22_34 rfl ?_
      obtain ⟨hc15, h⟩ := h
      obtain ⟨x16, hv17, h⟩ := h
      refine gz_lald (pc' := 36) d_22_35 rfl hc15 hv17 ?_
      refine gz_lsub (pc' := 37) d_22_36 rfl ?_
      refine gz_lmul (pc' := 38) d_22_37 rfl ?_
      refine g_lstoren (pc' := 39) (l' := [some (.ref 4), some (.int (jI z1)), some (.long (jL ((z1 + 1) * (x13 - x16)))), none]) d_22_38 rfl ml_22 rfl rfl ?_
      refine g_aloadn (pc' := 40) d_22_39 rfl rfl ?_
      refine gz_getR (pc' := 43) d_22_40 rfl st_22_9 (kr_4_0 hC) ?_
      refine g_iloadn (pc' := 44) d_22_43 rfl rfl ?_
      refine g_iloadn (pc' := 45) d_22_44 rfl rfl ?_
      refine g_iconst (pc' := 46) d_22_45 rfl rfl ?_
      refine gz_iadd (pc' := 47) d_22_46 rfl ?_
      refine gz_i2l (pc' := 48) d_22_47 rfl hc8 ?_
      refine g_aloadn (pc' := 49) d_22_48 rfl rfl ?_
      refine gz_getR (pc' := 52) d_22_49 rfl st_22_9 (kr_4_0 hC) ?_
      refine g_iloadn (pc' := 53) d_22_52 rfl rfl ?_
      obtain ⟨hc18, h⟩ := h
      obtain ⟨x19, hv20, h⟩ := h
      refine gz_lald (pc' := 54) d_22_53 rfl hc18 hv20 ?_
      refine g_aloadn (pc' := 55) d_22_54 rfl rfl ?_
      refine gz_getR (pc' := 58) d_22_55 rfl st_22_9 (kr_4_0 hC) ?_
      refine g_iloadn (pc' := 59) d_22_58 rfl rfl ?_
      refine g_iconst (pc' := 60) d_22_59 rfl rfl ?_
      refine gz_iadd (pc' := 61) d_22_60 rfl ?_
      obtain ⟨hc21, h⟩ := h
      obtain ⟨x22, hv23, h⟩ := h
      refine gz_lald (pc' := 62) d_22_61 rfl hc21 hv23 ?_
      refine gz_lsub (pc' := 63) d_22_62 rfl ?_
      refine gz_lmul (pc' := 64) d_22_63 rfl ?_
      refine g_lloadn (pc' := 65) d_22_64 rfl rfl ?_
      refine g_ldc2 (pc' := 68) d_22_65 rfl st_22_28 rfl ?_
      obtain ⟨r27, w24, hk25, hC26, h⟩ := h
      refine g_callS (pc' := 71) d_22_68 rfl st_22_30 (Or.inl rfl) na_19 ml_19 rfl rfl rfl rm_22_19 rfl rfl hk25 ?_
      refine gz_ladd (pc' := 72) d_22_71 rfl ?_
      obtain ⟨hc28, h⟩ := h
      have hs29 := (kh_5 hC26 hc28)
      have hC31 : CS (pL w24 5 (z1).toNat (jL (((z1 + 1) * (x19 - x22)) + r27))) := hC26.putL
      have h := h _ rfl hC31
      refine gz_last (pc' := 73) d_22_72 rfl hs29 ?_
      refine g_aloadn (pc' := 74) d_22_73 rfl rfl ?_
      refine gz_getR (pc' := 77) d_22_74 rfl st_22_15 (kr_4_1 hC31) ?_
      refine g_iloadn (pc' := 78) d_22_77 rfl rfl ?_
      refine g_lloadn (pc' := 79) d_22_78 rfl rfl ?_
      refine g_ldc2 (pc' := 82) d_22_79 rfl st_22_28 rfl ?_
      obtain ⟨r35, w32, hk33, hC34, h⟩ := h
      refine g_callS (pc' := 85) d_22_82 rfl st_22_34 (Or.inl rfl) na_17 ml_17 rfl rfl rfl rm_22_17 rfl rfl hk33 ?_
      have hs36 := (kh_6 hC34 hc28)
      have hC38 : CS (pL w32 6 (z1).toNat (jL r35)) := hC34.putL
      have h := h _ rfl hC38
      refine gz_last (pc' := 86) d_22_85 rfl hs36 ?_
      refine gz_iinc (pc' := 89) (l' := [some (.ref 4), some (.int (jI (z1 + 1))), some (.long (jL ((z1 + 1) * (x13 - x16)))), none]) d_22_86 rfl rfl ml_22 rfl rfl ?_
      refine g_goto (pt := 2) d_22_89 (by decide) ?_
      exact xGo.more (xle_s (xle_s (xle_n (xle_n xle_0)))) h
theorem Z_23_0 {z1 : Int} {z2 : Int} {w : xW} {r : Option Value × xW} (hC : CS w) (h : ∃ (P4 : Prop) (dP5 : Decidable P4) (w1 : xW), xCall 24 [.int (jI z1)] w (some (.int (bz P4)), w1) ∧ CS w1 ∧ (¬ P4 → r = (some (.int (jI (-1))), w1)) ∧ (P4 → ∃ (P9 : Prop) (dP10 : Decidable P9) (w6 : xW), xCall 25 [.int (jI z2)] w1 (some (.int (bz P9)), w6) ∧ CS w6 ∧ (P9 → in32 z2 ∧ (z2 ≠ 0 → ∃ x12, fI w6 0 0 7 x12 ∧ xGo 23 46 [some (.ref 0), some (.int (jI z1)), some (.int (jI z2)), some (.int (jI 0)), some (.int (jI (x12 + 1)))] [] w6 r) ∧ (z2 = 0 → ∃ x14, fI w6 0 0 7 x14 ∧ ∃ (P19 : Prop) (dP20 : Decidable P19) (w16 : xW), xCall 26 [.ref 0, .int (jI (x14 + 1))] w6 (some (.int (bz P19)), w16) ∧ CS w16 ∧ (P19 → ∃ x21, fI w16 0 0 7 x21 ∧ xGo 23 46 [some (.ref 0), some (.int (jI z1)), some (.int (jI z2)), some (.int (jI 0)), some (.int (jI (x21 + 1)))] [] w16 r) ∧ (¬ P19 → r = (some (.int (jI (-3))), w16)))) ∧ (¬ P9 → r = (some (.int (jI (-1))), w6)))) : xGo 23 0 [some (.ref 0), some (.int (jI z1)), some (.int (jI z2)), none, none] [] w r := by
  refine g_iloadn (pc' := 1) d_23_0 rfl rfl ?_
  obtain ⟨P4, dP5, w1, hk2, hC3, h⟩ := h
  refine g_callS (pc' := 4) d_23_1 rfl st_23_120 (Or.inl rfl) na_24 ml_24 rfl rfl rfl rm_23_24 rfl rfl hk2 ?_
  refine gz_bt_eq (pc' := 7) (pt := 14) d_23_4 (by decide) rfl (fun c => ?_) (fun c => ?_)
  · replace h := h.1 c
    refine g_iconst (pc' := 15) d_23_14 rfl rfl ?_
    exact g_iret d_23_15 rt_23 h
  · replace h := h.2 c
    refine g_iloadn (pc' := 8) d_23_7 rfl rfl ?_
    obtain ⟨P9, dP10, w6, hk7, hC8, h⟩ := h
    refine g_callS (pc' := 11) d_23_8 rfl st_23_124 (Or.inl rfl) na_25 ml_25 rfl rfl rfl rm_23_25 rfl rfl hk7 ?_
    refine gz_bt_ne (pc' := 14) (pt := 16) d_23_11 (by decide) rfl (fun c => ?_) (fun c => ?_)
    · replace h := h.1 c
      refine g_iloadn (pc' := 17) d_23_16 rfl rfl ?_
      obtain ⟨hc11, h⟩ := h
      refine gz_if_ne (pc' := 20) (pt := 36) d_23_17 (by decide) rfl hc11 (fun c => ?_) (fun c => ?_)
      · replace h := h.1 c
        refine g_iconst (pc' := 37) d_23_36 rfl rfl ?_
        refine g_istoren (pc' := 38) (l' := [some (.ref 0), some (.int (jI z1)), some (.int (jI z2)), some (.int (jI 0)), none]) d_23_37 rfl ml_23 rfl rfl ?_
        refine g_aloadn (pc' := 39) d_23_38 rfl rfl ?_
        obtain ⟨x12, hv13, h⟩ := h
        refine gz_getI (pc' := 42) d_23_39 rfl st_23_49 hv13 ?_
        refine g_iconst (pc' := 43) d_23_42 rfl rfl ?_
        refine gz_iadd (pc' := 44) d_23_43 rfl ?_
        refine g_istore (pc' := 46) (l' := [some (.ref 0), some (.int (jI z1)), some (.int (jI z2)), some (.int (jI 0)), some (.int (jI (x12 + 1)))]) d_23_44 rfl ml_23 rfl rfl ?_
        exact h
      · replace h := h.2 c
        refine g_aloadn (pc' := 21) d_23_20 rfl rfl ?_
        refine g_aloadn (pc' := 22) d_23_21 rfl rfl ?_
        obtain ⟨x14, hv15, h⟩ := h
        refine gz_getI (pc' := 25) d_23_22 rfl st_23_49 hv15 ?_
        refine g_iconst (pc' := 26) d_23_25 rfl rfl ?_
        refine gz_iadd (pc' := 27) d_23_26 rfl ?_
        obtain ⟨P19, dP20, w16, hk17, hC18, h⟩ := h
        refine gz_callV (pc' := 30) d_23_27 rfl st_23_127 na_26 ml_26 rfl rfl rfl rm_23_26 rfl rfl ow_26 (ko_0 hC8) hk17 ?_
        refine gz_bt_ne (pc' := 33) (pt := 36) d_23_30 (by decide) rfl (fun c => ?_) (fun c => ?_)
        · replace h := h.1 c
          refine g_iconst (pc' := 37) d_23_36 rfl rfl ?_
          refine g_istoren (pc' := 38) (l' := [some (.ref 0), some (.int (jI z1)), some (.int (jI z2)), some (.int (jI 0)), none]) d_23_37 rfl ml_23 rfl rfl ?_
          refine g_aloadn (pc' := 39) d_23_38 rfl rfl ?_
          obtain ⟨x21, hv22, h⟩ := h
          refine gz_getI (pc' := 42) d_23_39 rfl st_23_49 hv22 ?_
          refine g_iconst (pc' := 43) d_23_42 rfl rfl ?_
          refine gz_iadd (pc' := 44) d_23_43 rfl ?_
          refine g_istore (pc' := 46) (l' := [some (.ref 0), some (.int (jI z1)), some (.int (jI z2)), some (.int (jI 0)), some (.int (jI (x21 + 1)))]) d_23_44 rfl ml_23 rfl rfl ?_
          exact h
        · replace h := h.2 c
          refine g_bipush (pc' := 35) (v := jI (-3)) d_23_33 rfl (by decide) ?_
          exact g_iret d_23_35 rt_23 h
    · replace h := h.2 c
      refine g_iconst (pc' := 15) d_23_14 rfl rfl ?_
      exact g_iret d_23_15 rt_23 h
theorem Z_23 {z1 : Int} {z2 : Int} {w : xW} {r : Option Value × xW} (hC : CS w) (h : ∃ (P4 : Prop) (dP5 : Decidable P4) (w1 : xW), xCall 24 [.int (jI z1)] w (some (.int (bz P4)), w1) ∧ CS w1 ∧ (¬ P4 → r = (some (.int (jI (-1))), w1)) ∧ (P4 → ∃ (P9 : Prop) (dP10 : Decidable P9) (w6 : xW), xCall 25 [.int (jI z2)] w1 (some (.int (bz P9)), w6) ∧ CS w6 ∧ (P9 → in32 z2 ∧ (z2 ≠ 0 → ∃ x12, fI w6 0 0 7 x12 ∧ xGo 23 46 [some (.ref 0), some (.int (jI z1)), some (.int (jI z2)), some (.int (jI 0)), some (.int (jI (x12 + 1)))] [] w6 r) ∧ (z2 = 0 → ∃ x14, fI w6 0 0 7 x14 ∧ ∃ (P19 : Prop) (dP20 : Decidable P19) (w16 : xW), xCall 26 [.ref 0, .int (jI (x14 + 1))] w6 (some (.int (bz P19)), w16) ∧ CS w16 ∧ (P19 → ∃ x21, fI w16 0 0 7 x21 ∧ xGo 23 46 [some (.ref 0), some (.int (jI z1)), some (.int (jI z2)), some (.int (jI 0)), some (.int (jI (x21 + 1)))] [] w16 r) ∧ (¬ P19 → r = (some (.int (jI (-3))), w16)))) ∧ (¬ P9 → r = (some (.int (jI (-1))), w6)))) : xCall 23 [.ref 0, .int (jI z1), .int (jI z2)] w r := E_23 (Z_23_0 hC h)
theorem Z_23_46 {z1 : Int} {z2 : Int} {z3 : Int} {z4 : Int} {w : xW} {r : Option Value × xW} (hC : CS w) (h : in32 z4 ∧ in32 z1 ∧ (z1 < z4 → r = (some (.int (jI z3)), w)) ∧ (z4 ≤ z1 → ∃ (P6 : Prop) (dP7 : Decidable P6) (w3 : xW), xCall 32 [.ref 0, .int (jI z4), .int (jI z2)] w (some (.int (bz P6)), w3) ∧ CS w3 ∧ ∀ w9, w9 = pF w3 0 7 (.int (jI z4)) → CS w9 → xGo 23 46 [some (.ref 0), some (.int (jI z1)), some (.int (jI z2)), some (.int (jI (z3 + 1))), some (.int (jI (z4 + 1)))] [] w9 r)) : xGo 23 46 [some (.ref 0), some (.int (jI z1)), some (.int (jI z2)), some (.int (jI z3)), some (.int (jI z4))] [] w r := by
  refine g_iload (pc' := 48) d_23_46 rfl rfl ?_
  refine g_iloadn (pc' := 49) d_23_48 rfl rfl ?_
  obtain ⟨hc1, h⟩ := h
  obtain ⟨hc2, h⟩ := h
  refine gz_ic_gt (pc' := 52) (pt := 75) d_23_49 (by decide) rfl hc1 hc2 (fun c => ?_) (fun c => ?_)
  · replace h := h.1 c
    refine g_iloadn (pc' := 76) d_23_75 rfl rfl ?_
    exact g_iret d_23_76 rt_23 h
  · replace h := h.2 c
    refine g_aloadn (pc' := 53) d_23_52 rfl rfl ?_
    refine g_iload (pc' := 55) d_23_53 rfl rfl ?_
    refine g_iloadn (pc' := 56) d_23_55 rfl rfl ?_
    obtain ⟨P6, dP7, w3, hk4, hC5, h⟩ := h
    refine gz_callV (pc' := 59) d_23_56 rfl st_23_130 na_32 ml_32 rfl rfl rfl rm_23_32 rfl rfl ow_32 (ko_0 hC) hk4 ?_
    refine g_pop (pc' := 60) d_23_59 rfl rfl ?_
    refine g_aloadn (pc' := 61) d_23_60 rfl rfl ?_
    refine g_iload (pc' := 63) d_23_61 rfl rfl ?_
    have hpf8 := (kf_0_7 hC5)
    have hC10 : CS (pF w3 0 7 (.int (jI z4))) := ks_0_7 hC5
    have h := h _ rfl hC10
    refine gz_putf (pc' := 66) d_23_63 rfl st_23_49 ft_0_7 ff_0_7 rfl (Or.inl rfl) hpf8 ?_
    refine gz_iinc (pc' := 69) (l' := [some (.ref 0), some (.int (jI z1)), some (.int (jI z2)), some (.int (jI (z3 + 1))), some (.int (jI z4))]) d_23_66 rfl rfl ml_23 rfl rfl ?_
    refine gz_iinc (pc' := 72) (l' := [some (.ref 0), some (.int (jI z1)), some (.int (jI z2)), some (.int (jI (z3 + 1))), some (.int (jI (z4 + 1)))]) d_23_69 rfl rfl ml_23 rfl rfl ?_
    refine g_goto (pt := 46) d_23_72 (by decide) ?_
    exact h
theorem Z_24_0 {z0 : Int} {w : xW} {r : Option Value × xW} (hC : CS w) (h : in32 z0 ∧ (z0 < 0 → r = (some (.int (jI 0)), w)) ∧ (0 ≤ z0 → (38 < z0 → r = (some (.int (jI 0)), w)) ∧ (z0 ≤ 38 → r = (some (.int (jI 1)), w)))) : xGo 24 0 [some (.int (jI z0))] [] w r := by
  refine g_iloadn (pc' := 1) d_24_0 rfl rfl ?_
  obtain ⟨hc1, h⟩ := h
  refine gz_if_lt (pc' := 4) (pt := 14) d_24_1 (by decide) rfl hc1 (fun c => ?_) (fun c => ?_)
  · replace h := h.1 c
    refine g_iconst (pc' := 15) d_24_14 rfl rfl ?_
    exact g_zret d_24_15 rt_24 (Or.inl rfl) h
  · replace h := h.2 c
    refine g_iloadn (pc' := 5) d_24_4 rfl rfl ?_
    refine g_bipush (pc' := 7) (v := jI 38) d_24_5 rfl (by decide) ?_
    refine gz_ic_gt (pc' := 10) (pt := 14) d_24_7 (by decide) rfl hc1 (s32 (z := 38)) (fun c => ?_) (fun c => ?_)
    · replace h := h.1 c
      refine g_iconst (pc' := 15) d_24_14 rfl rfl ?_
      exact g_zret d_24_15 rt_24 (Or.inl rfl) h
    · replace h := h.2 c
      refine g_iconst (pc' := 11) d_24_10 rfl rfl ?_
      refine g_goto (pt := 15) d_24_11 (by decide) ?_
      exact g_zret d_24_15 rt_24 (Or.inr rfl) h
theorem Z_24 {z0 : Int} {w : xW} {r : Option Value × xW} (hC : CS w) (h : in32 z0 ∧ (z0 < 0 → r = (some (.int (jI 0)), w)) ∧ (0 ≤ z0 → (38 < z0 → r = (some (.int (jI 0)), w)) ∧ (z0 ≤ 38 → r = (some (.int (jI 1)), w)))) : xCall 24 [.int (jI z0)] w r := E_24 (Z_24_0 hC h)
theorem Z_25_0 {z0 : Int} {w : xW} {r : Option Value × xW} (hC : CS w) (h : in32 z0 ∧ (z0 < 0 → r = (some (.int (jI 0)), w)) ∧ (0 ≤ z0 → (2 < z0 → r = (some (.int (jI 0)), w)) ∧ (z0 ≤ 2 → r = (some (.int (jI 1)), w)))) : xGo 25 0 [some (.int (jI z0))] [] w r := by
  refine g_iloadn (pc' := 1) d_25_0 rfl rfl ?_
  obtain ⟨hc1, h⟩ := h
  refine gz_if_lt (pc' := 4) (pt := 13) d_25_1 (by decide) rfl hc1 (fun c => ?_) (fun c => ?_)
  · replace h := h.1 c
    refine g_iconst (pc' := 14) d_25_13 rfl rfl ?_
    exact g_zret d_25_14 rt_25 (Or.inl rfl) h
  · replace h := h.2 c
    refine g_iloadn (pc' := 5) d_25_4 rfl rfl ?_
    refine g_iconst (pc' := 6) d_25_5 rfl rfl ?_
    refine gz_ic_gt (pc' := 9) (pt := 13) d_25_6 (by decide) rfl hc1 (s32 (z := 2)) (fun c => ?_) (fun c => ?_)
    · replace h := h.1 c
      refine g_iconst (pc' := 14) d_25_13 rfl rfl ?_
      exact g_zret d_25_14 rt_25 (Or.inl rfl) h
    · replace h := h.2 c
      refine g_iconst (pc' := 10) d_25_9 rfl rfl ?_
      refine g_goto (pt := 14) d_25_10 (by decide) ?_
      exact g_zret d_25_14 rt_25 (Or.inr rfl) h
theorem Z_25 {z0 : Int} {w : xW} {r : Option Value × xW} (hC : CS w) (h : in32 z0 ∧ (z0 < 0 → r = (some (.int (jI 0)), w)) ∧ (0 ≤ z0 → (2 < z0 → r = (some (.int (jI 0)), w)) ∧ (z0 ≤ 2 → r = (some (.int (jI 1)), w)))) : xCall 25 [.int (jI z0)] w r := E_25 (Z_25_0 hC h)
theorem Z_26_0 {z1 : Int} {w : xW} {r : Option Value × xW} (hC : CS w) (h : xGo 26 2 [some (.ref 0), some (.int (jI z1)), some (.int (jI 0))] [] w r) : xGo 26 0 [some (.ref 0), some (.int (jI z1)), none] [] w r := by
  refine g_iconst (pc' := 1) d_26_0 rfl rfl ?_
  refine g_istoren (pc' := 2) (l' := [some (.ref 0), some (.int (jI z1)), some (.int (jI 0))]) d_26_1 rfl ml_26 rfl rfl ?_
  exact h
theorem Z_26 {z1 : Int} {w : xW} {r : Option Value × xW} (hC : CS w) (h : xGo 26 2 [some (.ref 0), some (.int (jI z1)), some (.int (jI 0))] [] w r) : xCall 26 [.ref 0, .int (jI z1)] w r := E_26 (Z_26_0 hC h)
theorem Z_26_2 {z1 : Int} {z2 : Int} {w : xW} {r : Option Value × xW} (hC : CS w) (h : in32 z2 ∧ in32 z1 ∧ (z1 ≤ z2 → r = (some (.int (jI 1)), w)) ∧ (z2 < z1 → ∃ (P6 : Prop) (dP7 : Decidable P6) (w3 : xW), xCall 27 [.ref 0, .int (jI z2)] w (some (.int (bz P6)), w3) ∧ CS w3 ∧ (P6 → xGo 26 2 [some (.ref 0), some (.int (jI z1)), some (.int (jI (z2 + 1)))] [] w3 r) ∧ (¬ P6 → r = (some (.int (jI 0)), w3)))) : xGo 26 2 [some (.ref 0), some (.int (jI z1)), some (.int (jI z2))] [] w r := by
  refine g_iloadn (pc' := 3) d_26_2 rfl rfl ?_
  refine g_iloadn (pc' := 4) d_26_3 rfl rfl ?_
  obtain ⟨hc1, h⟩ := h
  obtain ⟨hc2, h⟩ := h
  refine gz_ic_ge (pc' := 7) (pt := 23) d_26_4 (by decide) rfl hc1 hc2 (fun c => ?_) (fun c => ?_)
  · replace h := h.1 c
    refine g_iconst (pc' := 24) d_26_23 rfl rfl ?_
    exact g_zret d_26_24 rt_26 (Or.inr rfl) h
  · replace h := h.2 c
    refine g_aloadn (pc' := 8) d_26_7 rfl rfl ?_
    refine g_iloadn (pc' := 9) d_26_8 rfl rfl ?_
    obtain ⟨P6, dP7, w3, hk4, hC5, h⟩ := h
    refine gz_callV (pc' := 12) d_26_9 rfl st_26_174 na_27 ml_27 rfl rfl rfl rm_26_27 rfl rfl ow_27 (ko_0 hC) hk4 ?_
    refine gz_bt_ne (pc' := 15) (pt := 17) d_26_12 (by decide) rfl (fun c => ?_) (fun c => ?_)
    · replace h := h.1 c
      refine gz_iinc (pc' := 20) (l' := [some (.ref 0), some (.int (jI z1)), some (.int (jI (z2 + 1)))]) d_26_17 rfl rfl ml_26 rfl rfl ?_
      refine g_goto (pt := 2) d_26_20 (by decide) ?_
      exact h
    · replace h := h.2 c
      refine g_iconst (pc' := 16) d_26_15 rfl rfl ?_
      exact g_zret d_26_16 rt_26 (Or.inl rfl) h
theorem Z_27_0 {z1 : Int} {w : xW} {r : Option Value × xW} (hC : CS w) (h : ∃ (P4 : Prop) (dP5 : Decidable P4) (w1 : xW), xCall 28 [.ref 12, .int (jI z1), .ref 7] w (some (.int (bz P4)), w1) ∧ CS w1 ∧ r = (some (.int (bz P4)), w1)) : xGo 27 0 [some (.ref 0), some (.int (jI z1))] [] w r := by
  refine g_aloadn (pc' := 1) d_27_0 rfl rfl ?_
  refine gz_getR (pc' := 4) d_27_1 rfl st_27_39 (kr_0_4 hC) ?_
  refine g_iloadn (pc' := 5) d_27_4 rfl rfl ?_
  refine g_aloadn (pc' := 6) d_27_5 rfl rfl ?_
  refine gz_getR (pc' := 9) d_27_6 rfl st_27_35 (kr_0_3 hC) ?_
  obtain ⟨P4, dP5, w1, hk2, hC3, h⟩ := h
  refine gz_callV (pc' := 12) d_27_9 rfl st_27_418 na_28 ml_28 rfl rfl rfl rm_27_28 rfl rfl ow_28 (ko_12 hC) hk2 ?_
  exact g_zret d_27_12 rt_27 (bz_01 _) h
theorem Z_27 {z1 : Int} {w : xW} {r : Option Value × xW} (hC : CS w) (h : ∃ (P4 : Prop) (dP5 : Decidable P4) (w1 : xW), xCall 28 [.ref 12, .int (jI z1), .ref 7] w (some (.int (bz P4)), w1) ∧ CS w1 ∧ r = (some (.int (bz P4)), w1)) : xCall 27 [.ref 0, .int (jI z1)] w r := E_27 (Z_27_0 hC h)
theorem Z_28_0 {e : Nat} {z1 : Int} {a2 : Nat} {w : xW} {r : Option Value × xW} (hC : CS w) (he : eIs e) (h : ∃ r4 w1, xCall 29 [.ref e, .int (jI z1)] w (some (.long (jL r4)), w1) ∧ CS w1 ∧ isO w1 a2 4 ∧ ∃ r9 w6, xCall 29 [.ref a2, .int (jI z1)] w1 (some (.long (jL r9)), w6) ∧ CS w6 ∧ in64 r4 ∧ in64 r9 ∧ (r4 ≠ r9 → r = (some (.int (jI 0)), w6)) ∧ (r4 = r9 → ∃ r15 w12, xCall 30 [.ref e, .int (jI z1)] w6 (some (.long (jL r15)), w12) ∧ CS w12 ∧ isO w12 a2 4 ∧ ∃ r20 w17, xCall 30 [.ref a2, .int (jI z1)] w12 (some (.long (jL r20)), w17) ∧ CS w17 ∧ in64 r15 ∧ in64 r20 ∧ (r15 ≠ r20 → r = (some (.int (jI 0)), w17)) ∧ (r15 = r20 → ∃ r26 w23, xCall 31 [.ref e, .int (jI z1)] w17 (some (.long (jL r26)), w23) ∧ CS w23 ∧ isO w23 a2 4 ∧ ∃ r31 w28, xCall 31 [.ref a2, .int (jI z1)] w23 (some (.long (jL r31)), w28) ∧ CS w28 ∧ in64 r26 ∧ in64 r31 ∧ (r26 ≠ r31 → r = (some (.int (jI 0)), w28)) ∧ (r26 = r31 → r = (some (.int (jI 1)), w28))))) : xGo 28 0 [some (.ref e), some (.int (jI z1)), some (.ref a2)] [] w r := by
  refine g_aloadn (pc' := 1) d_28_0 rfl rfl ?_
  refine g_iloadn (pc' := 2) d_28_1 rfl rfl ?_
  obtain ⟨r4, w1, hk2, hC3, h⟩ := h
  refine gz_callV (pc' := 5) d_28_2 rfl st_28_38 na_29 ml_29 rfl rfl rfl rm_28_29 rfl rfl ow_29 (ko_e he hC) hk2 ?_
  refine g_aloadn (pc' := 6) d_28_5 rfl rfl ?_
  refine g_iloadn (pc' := 7) d_28_6 rfl rfl ?_
  obtain ⟨hc5, h⟩ := h
  obtain ⟨r9, w6, hk7, hC8, h⟩ := h
  refine gz_callV (pc' := 10) d_28_7 rfl st_28_38 na_29 ml_29 rfl rfl rfl rm_28_29 rfl rfl ow_29 hc5 hk7 ?_
  obtain ⟨hc10, h⟩ := h
  obtain ⟨hc11, h⟩ := h
  refine gz_lc_ne (pc' := 14) (pm := 11) (pt := 46) d_28_10 rfl d_28_11 (by decide) rfl hc10 hc11 (fun c => ?_) (fun c => ?_)
  · replace h := h.1 c
    refine g_iconst (pc' := 47) d_28_46 rfl rfl ?_
    exact g_zret d_28_47 rt_28 (Or.inl rfl) h
  · replace h := h.2 c
    refine g_aloadn (pc' := 15) d_28_14 rfl rfl ?_
    refine g_iloadn (pc' := 16) d_28_15 rfl rfl ?_
    obtain ⟨r15, w12, hk13, hC14, h⟩ := h
    refine gz_callV (pc' := 19) d_28_16 rfl st_28_42 na_30 ml_30 rfl rfl rfl rm_28_30 rfl rfl ow_30 (ko_e he hC8) hk13 ?_
    refine g_aloadn (pc' := 20) d_28_19 rfl rfl ?_
    refine g_iloadn (pc' := 21) d_28_20 rfl rfl ?_
    obtain ⟨hc16, h⟩ := h
    obtain ⟨r20, w17, hk18, hC19, h⟩ := h
    refine gz_callV (pc' := 24) d_28_21 rfl st_28_42 na_30 ml_30 rfl rfl rfl rm_28_30 rfl rfl ow_30 hc16 hk18 ?_
    obtain ⟨hc21, h⟩ := h
    obtain ⟨hc22, h⟩ := h
    refine gz_lc_ne (pc' := 28) (pm := 25) (pt := 46) d_28_24 rfl d_28_25 (by decide) rfl hc21 hc22 (fun c => ?_) (fun c => ?_)
    · replace h := h.1 c
      refine g_iconst (pc' := 47) d_28_46 rfl rfl ?_
      exact g_zret d_28_47 rt_28 (Or.inl rfl) h
    · replace h := h.2 c
      refine g_aloadn (pc' := 29) d_28_28 rfl rfl ?_
      refine g_iloadn (pc' := 30) d_28_29 rfl rfl ?_
      obtain ⟨r26, w23, hk24, hC25, h⟩ := h
      refine gz_callV (pc' := 33) d_28_30 rfl st_28_55 na_31 ml_31 rfl rfl rfl rm_28_31 rfl rfl ow_31 (ko_e he hC19) hk24 ?_
      refine g_aloadn (pc' := 34) d_28_33 rfl rfl ?_
      refine g_iloadn (pc' := 35) d_28_34 rfl rfl ?_
      obtain ⟨hc27, h⟩ := h
      obtain ⟨r31, w28, hk29, hC30, h⟩ := h
      refine gz_callV (pc' := 38) d_28_35 rfl st_28_55 na_31 ml_31 rfl rfl rfl rm_28_31 rfl rfl ow_31 hc27 hk29 ?_
      obtain ⟨hc32, h⟩ := h
      obtain ⟨hc33, h⟩ := h
      refine gz_lc_ne (pc' := 42) (pm := 39) (pt := 46) d_28_38 rfl d_28_39 (by decide) rfl hc32 hc33 (fun c => ?_) (fun c => ?_)
      · replace h := h.1 c
        refine g_iconst (pc' := 47) d_28_46 rfl rfl ?_
        exact g_zret d_28_47 rt_28 (Or.inl rfl) h
      · replace h := h.2 c
        refine g_iconst (pc' := 43) d_28_42 rfl rfl ?_
        refine g_goto (pt := 47) d_28_43 (by decide) ?_
        exact g_zret d_28_47 rt_28 (Or.inr rfl) h
theorem Z_28 {e : Nat} {z1 : Int} {a2 : Nat} {w : xW} {r : Option Value × xW} (hC : CS w) (he : eIs e) (h : ∃ r4 w1, xCall 29 [.ref e, .int (jI z1)] w (some (.long (jL r4)), w1) ∧ CS w1 ∧ isO w1 a2 4 ∧ ∃ r9 w6, xCall 29 [.ref a2, .int (jI z1)] w1 (some (.long (jL r9)), w6) ∧ CS w6 ∧ in64 r4 ∧ in64 r9 ∧ (r4 ≠ r9 → r = (some (.int (jI 0)), w6)) ∧ (r4 = r9 → ∃ r15 w12, xCall 30 [.ref e, .int (jI z1)] w6 (some (.long (jL r15)), w12) ∧ CS w12 ∧ isO w12 a2 4 ∧ ∃ r20 w17, xCall 30 [.ref a2, .int (jI z1)] w12 (some (.long (jL r20)), w17) ∧ CS w17 ∧ in64 r15 ∧ in64 r20 ∧ (r15 ≠ r20 → r = (some (.int (jI 0)), w17)) ∧ (r15 = r20 → ∃ r26 w23, xCall 31 [.ref e, .int (jI z1)] w17 (some (.long (jL r26)), w23) ∧ CS w23 ∧ isO w23 a2 4 ∧ ∃ r31 w28, xCall 31 [.ref a2, .int (jI z1)] w23 (some (.long (jL r31)), w28) ∧ CS w28 ∧ in64 r26 ∧ in64 r31 ∧ (r26 ≠ r31 → r = (some (.int (jI 0)), w28)) ∧ (r26 = r31 → r = (some (.int (jI 1)), w28))))) : xCall 28 [.ref e, .int (jI z1), .ref a2] w r := E_28 (Z_28_0 hC he h)
theorem Z_29_0 {e : Nat} {z1 : Int} {w : xW} {r : Option Value × xW} (hC : CS w) (he : eIs e) (h : ∃ (P4 : Prop) (dP5 : Decidable P4) (w1 : xW), xCall 21 [.int (jI z1)] w (some (.int (bz P4)), w1) ∧ CS w1 ∧ (¬ P4 → r = (some (.long (jL 0)), w1)) ∧ (P4 → 0 ≤ z1 ∧ ∃ x7, rL w1 (e + 1) (z1).toNat x7 ∧ r = (some (.long (jL x7)), w1))) : xGo 29 0 [some (.ref e), some (.int (jI z1))] [] w r := by
  refine g_iloadn (pc' := 1) d_29_0 rfl rfl ?_
  obtain ⟨P4, dP5, w1, hk2, hC3, h⟩ := h
  refine g_callS (pc' := 4) d_29_1 rfl st_29_34 (Or.inl rfl) na_21 ml_21 rfl rfl rfl rm_29_21 rfl rfl hk2 ?_
  refine gz_bt_eq (pc' := 7) (pt := 16) d_29_4 (by decide) rfl (fun c => ?_) (fun c => ?_)
  · replace h := h.1 c
    refine g_lconst (pc' := 17) (v := jL 0) d_29_16 rfl cl_0 ?_
    exact g_lret d_29_17 rt_29 h
  · replace h := h.2 c
    refine g_aloadn (pc' := 8) d_29_7 rfl rfl ?_
    refine gz_getR (pc' := 11) d_29_8 rfl st_29_9 (kr_e_0 he hC3) ?_
    refine g_iloadn (pc' := 12) d_29_11 rfl rfl ?_
    obtain ⟨hc6, h⟩ := h
    obtain ⟨x7, hv8, h⟩ := h
    refine gz_lald (pc' := 13) d_29_12 rfl hc6 hv8 ?_
    refine g_goto (pt := 17) d_29_13 (by decide) ?_
    exact g_lret d_29_17 rt_29 h
theorem Z_29 {e : Nat} {z1 : Int} {w : xW} {r : Option Value × xW} (hC : CS w) (he : eIs e) (h : ∃ (P4 : Prop) (dP5 : Decidable P4) (w1 : xW), xCall 21 [.int (jI z1)] w (some (.int (bz P4)), w1) ∧ CS w1 ∧ (¬ P4 → r = (some (.long (jL 0)), w1)) ∧ (P4 → 0 ≤ z1 ∧ ∃ x7, rL w1 (e + 1) (z1).toNat x7 ∧ r = (some (.long (jL x7)), w1))) : xCall 29 [.ref e, .int (jI z1)] w r := E_29 (Z_29_0 hC he h)
theorem Z_30_0 {e : Nat} {z1 : Int} {w : xW} {r : Option Value × xW} (hC : CS w) (he : eIs e) (h : ∃ (P4 : Prop) (dP5 : Decidable P4) (w1 : xW), xCall 21 [.int (jI z1)] w (some (.int (bz P4)), w1) ∧ CS w1 ∧ (¬ P4 → r = (some (.long (jL 0)), w1)) ∧ (P4 → 0 ≤ z1 ∧ ∃ x7, rL w1 (e + 2) (z1).toNat x7 ∧ r = (some (.long (jL x7)), w1))) : xGo 30 0 [some (.ref e), some (.int (jI z1))] [] w r := by
  refine g_iloadn (pc' := 1) d_30_0 rfl rfl ?_
  obtain ⟨P4, dP5, w1, hk2, hC3, h⟩ := h
  refine g_callS (pc' := 4) d_30_1 rfl st_30_34 (Or.inl rfl) na_21 ml_21 rfl rfl rfl rm_30_21 rfl rfl hk2 ?_
  refine gz_bt_eq (pc' := 7) (pt := 16) d_30_4 (by decide) rfl (fun c => ?_) (fun c => ?_)
  · replace h := h.1 c
    refine g_lconst (pc' := 17) (v := jL 0) d_30_16 rfl cl_0 ?_
    exact g_lret d_30_17 rt_30 h
  · replace h := h.2 c
    refine g_aloadn (pc' := 8) d_30_7 rfl rfl ?_
    refine gz_getR (pc' := 11) d_30_8 rfl st_30_15 (kr_e_1 he hC3) ?_
    refine g_iloadn (pc' := 12) d_30_11 rfl rfl ?_
    obtain ⟨hc6, h⟩ := h
    obtain ⟨x7, hv8, h⟩ := h
    refine gz_lald (pc' := 13) d_30_12 rfl hc6 hv8 ?_
    refine g_goto (pt := 17) d_30_13 (by decide) ?_
    exact g_lret d_30_17 rt_30 h
theorem Z_30 {e : Nat} {z1 : Int} {w : xW} {r : Option Value × xW} (hC : CS w) (he : eIs e) (h : ∃ (P4 : Prop) (dP5 : Decidable P4) (w1 : xW), xCall 21 [.int (jI z1)] w (some (.int (bz P4)), w1) ∧ CS w1 ∧ (¬ P4 → r = (some (.long (jL 0)), w1)) ∧ (P4 → 0 ≤ z1 ∧ ∃ x7, rL w1 (e + 2) (z1).toNat x7 ∧ r = (some (.long (jL x7)), w1))) : xCall 30 [.ref e, .int (jI z1)] w r := E_30 (Z_30_0 hC he h)
theorem Z_31_0 {e : Nat} {z1 : Int} {w : xW} {r : Option Value × xW} (hC : CS w) (he : eIs e) (h : ∃ (P4 : Prop) (dP5 : Decidable P4) (w1 : xW), xCall 21 [.int (jI z1)] w (some (.int (bz P4)), w1) ∧ CS w1 ∧ (¬ P4 → r = (some (.long (jL 1)), w1)) ∧ (P4 → 0 ≤ z1 ∧ ∃ x7, rL w1 (e + 3) (z1).toNat x7 ∧ r = (some (.long (jL x7)), w1))) : xGo 31 0 [some (.ref e), some (.int (jI z1))] [] w r := by
  refine g_iloadn (pc' := 1) d_31_0 rfl rfl ?_
  obtain ⟨P4, dP5, w1, hk2, hC3, h⟩ := h
  refine g_callS (pc' := 4) d_31_1 rfl st_31_34 (Or.inl rfl) na_21 ml_21 rfl rfl rfl rm_31_21 rfl rfl hk2 ?_
  refine gz_bt_eq (pc' := 7) (pt := 16) d_31_4 (by decide) rfl (fun c => ?_) (fun c => ?_)
  · replace h := h.1 c
    refine g_lconst (pc' := 17) (v := jL 1) d_31_16 rfl cl_1 ?_
    exact g_lret d_31_17 rt_31 h
  · replace h := h.2 c
    refine g_aloadn (pc' := 8) d_31_7 rfl rfl ?_
    refine gz_getR (pc' := 11) d_31_8 rfl st_31_18 (kr_e_2 he hC3) ?_
    refine g_iloadn (pc' := 12) d_31_11 rfl rfl ?_
    obtain ⟨hc6, h⟩ := h
    obtain ⟨x7, hv8, h⟩ := h
    refine gz_lald (pc' := 13) d_31_12 rfl hc6 hv8 ?_
    refine g_goto (pt := 17) d_31_13 (by decide) ?_
    exact g_lret d_31_17 rt_31 h
theorem Z_31 {e : Nat} {z1 : Int} {w : xW} {r : Option Value × xW} (hC : CS w) (he : eIs e) (h : ∃ (P4 : Prop) (dP5 : Decidable P4) (w1 : xW), xCall 21 [.int (jI z1)] w (some (.int (bz P4)), w1) ∧ CS w1 ∧ (¬ P4 → r = (some (.long (jL 1)), w1)) ∧ (P4 → 0 ≤ z1 ∧ ∃ x7, rL w1 (e + 3) (z1).toNat x7 ∧ r = (some (.long (jL x7)), w1))) : xCall 31 [.ref e, .int (jI z1)] w r := E_31 (Z_31_0 hC he h)
theorem Z_32_0 {z1 : Int} {z2 : Int} {w : xW} {r : Option Value × xW} (hC : CS w) (h : ∃ w1, xCall 33 [.ref 0, .int (jI z1), .int (jI z2)] w (none, w1) ∧ CS w1 ∧ ∃ (P7 : Prop) (dP8 : Decidable P7) (w4 : xW), xCall 56 [.ref 12, .int (jI z1), .ref 36] w1 (some (.int (bz P7)), w4) ∧ CS w4 ∧ (P7 → ∃ w9, xCall 20 [.ref 12, .int (jI z1), .ref 36] w4 (none, w9) ∧ CS w9 ∧ ∃ w12, xCall 57 [.ref 0, .int (jI z1), .int (jI z2)] w9 (none, w12) ∧ CS w12 ∧ r = (some (.int (jI 0)), w12)) ∧ (¬ P7 → ∃ w15, xCall 20 [.ref 12, .int (jI z1), .ref 36] w4 (none, w15) ∧ CS w15 ∧ ∃ w18, xCall 57 [.ref 0, .int (jI z1), .int (jI z2)] w15 (none, w18) ∧ CS w18 ∧ r = (some (.int (jI 1)), w18))) : xGo 32 0 [some (.ref 0), some (.int (jI z1)), some (.int (jI z2)), none] [] w r := by
  refine g_aloadn (pc' := 1) d_32_0 rfl rfl ?_
  refine g_iloadn (pc' := 2) d_32_1 rfl rfl ?_
  refine g_iloadn (pc' := 3) d_32_2 rfl rfl ?_
  obtain ⟨w1, hk2, hC3, h⟩ := h
  refine gz_callV (pc' := 6) d_32_3 rfl st_32_177 na_33 ml_33 rfl rfl rfl rm_32_33 rfl rfl ow_33 (ko_0 hC) hk2 ?_
  refine g_aloadn (pc' := 7) d_32_6 rfl rfl ?_
  refine gz_getR (pc' := 10) d_32_7 rfl st_32_39 (kr_0_4 hC3) ?_
  refine g_iloadn (pc' := 11) d_32_10 rfl rfl ?_
  refine g_aloadn (pc' := 12) d_32_11 rfl rfl ?_
  refine gz_getR (pc' := 15) d_32_12 rfl st_32_95 (kr_0_13 hC3) ?_
  obtain ⟨P7, dP8, w4, hk5, hC6, h⟩ := h
  refine gz_callV (pc' := 18) d_32_15 rfl st_32_180 na_56 ml_56 rfl rfl rfl rm_32_56 rfl rfl ow_56 (ko_12 hC3) hk5 ?_
  refine gz_bt_ne (pc' := 21) (pt := 25) d_32_18 (by decide) rfl (fun c => ?_) (fun c => ?_)
  · replace h := h.1 c
    refine g_iconst (pc' := 26) d_32_25 rfl rfl ?_
    refine g_istoren (pc' := 27) (l' := [some (.ref 0), some (.int (jI z1)), some (.int (jI z2)), some (.int (jI 0))]) d_32_26 rfl ml_32 rfl rfl ?_
    refine g_aloadn (pc' := 28) d_32_27 rfl rfl ?_
    refine gz_getR (pc' := 31) d_32_28 rfl st_32_39 (kr_0_4 hC6) ?_
    refine g_iloadn (pc' := 32) d_32_31 rfl rfl ?_
    refine g_aloadn (pc' := 33) d_32_32 rfl rfl ?_
    refine gz_getR (pc' := 36) d_32_33 rfl st_32_95 (kr_0_13 hC6) ?_
    obtain ⟨w9, hk10, hC11, h⟩ := h
    refine gz_callV (pc' := 39) d_32_36 rfl st_32_114 na_20 ml_20 rfl rfl rfl rm_32_20 rfl rfl ow_20 (ko_12 hC6) hk10 ?_
    refine g_aloadn (pc' := 40) d_32_39 rfl rfl ?_
    refine g_iloadn (pc' := 41) d_32_40 rfl rfl ?_
    refine g_iloadn (pc' := 42) d_32_41 rfl rfl ?_
    obtain ⟨w12, hk13, hC14, h⟩ := h
    refine gz_callV (pc' := 45) d_32_42 rfl st_32_138 na_57 ml_57 rfl rfl rfl rm_32_57 rfl rfl ow_57 (ko_0 hC11) hk13 ?_
    refine g_iloadn (pc' := 46) d_32_45 rfl rfl ?_
    exact g_zret d_32_46 rt_32 (Or.inl rfl) h
  · replace h := h.2 c
    refine g_iconst (pc' := 22) d_32_21 rfl rfl ?_
    refine g_goto (pt := 26) d_32_22 (by decide) ?_
    refine g_istoren (pc' := 27) (l' := [some (.ref 0), some (.int (jI z1)), some (.int (jI z2)), some (.int (jI 1))]) d_32_26 rfl ml_32 rfl rfl ?_
    refine g_aloadn (pc' := 28) d_32_27 rfl rfl ?_
    refine gz_getR (pc' := 31) d_32_28 rfl st_32_39 (kr_0_4 hC6) ?_
    refine g_iloadn (pc' := 32) d_32_31 rfl rfl ?_
    refine g_aloadn (pc' := 33) d_32_32 rfl rfl ?_
    refine gz_getR (pc' := 36) d_32_33 rfl st_32_95 (kr_0_13 hC6) ?_
    obtain ⟨w15, hk16, hC17, h⟩ := h
    refine gz_callV (pc' := 39) d_32_36 rfl st_32_114 na_20 ml_20 rfl rfl rfl rm_32_20 rfl rfl ow_20 (ko_12 hC6) hk16 ?_
    refine g_aloadn (pc' := 40) d_32_39 rfl rfl ?_
    refine g_iloadn (pc' := 41) d_32_40 rfl rfl ?_
    refine g_iloadn (pc' := 42) d_32_41 rfl rfl ?_
    obtain ⟨w18, hk19, hC20, h⟩ := h
    refine gz_callV (pc' := 45) d_32_42 rfl st_32_138 na_57 ml_57 rfl rfl rfl rm_32_57 rfl rfl ow_57 (ko_0 hC17) hk19 ?_
    refine g_iloadn (pc' := 46) d_32_45 rfl rfl ?_
    exact g_zret d_32_46 rt_32 (Or.inr rfl) h
theorem Z_32 {z1 : Int} {z2 : Int} {w : xW} {r : Option Value × xW} (hC : CS w) (h : ∃ w1, xCall 33 [.ref 0, .int (jI z1), .int (jI z2)] w (none, w1) ∧ CS w1 ∧ ∃ (P7 : Prop) (dP8 : Decidable P7) (w4 : xW), xCall 56 [.ref 12, .int (jI z1), .ref 36] w1 (some (.int (bz P7)), w4) ∧ CS w4 ∧ (P7 → ∃ w9, xCall 20 [.ref 12, .int (jI z1), .ref 36] w4 (none, w9) ∧ CS w9 ∧ ∃ w12, xCall 57 [.ref 0, .int (jI z1), .int (jI z2)] w9 (none, w12) ∧ CS w12 ∧ r = (some (.int (jI 0)), w12)) ∧ (¬ P7 → ∃ w15, xCall 20 [.ref 12, .int (jI z1), .ref 36] w4 (none, w15) ∧ CS w15 ∧ ∃ w18, xCall 57 [.ref 0, .int (jI z1), .int (jI z2)] w15 (none, w18) ∧ CS w18 ∧ r = (some (.int (jI 1)), w18))) : xCall 32 [.ref 0, .int (jI z1), .int (jI z2)] w r := E_32 (Z_32_0 hC h)
theorem Z_33_0 {z1 : Int} {z2 : Int} {w : xW} {r : Option Value × xW} (hC : CS w) (h : in32 z2 ∧ (z2 ≠ 0 → (z2 ≠ 1 → ∃ w2, xCall 46 [.ref 0, .int (jI z1)] w (none, w2) ∧ CS w2 ∧ r = (none, w2)) ∧ (z2 = 1 → ∃ w5, xCall 45 [.ref 0, .int (jI z1)] w (none, w5) ∧ CS w5 ∧ r = (none, w5))) ∧ (z2 = 0 → ∃ w8, xCall 34 [.ref 0, .int (jI z1)] w (none, w8) ∧ CS w8 ∧ r = (none, w8))) : xGo 33 0 [some (.ref 0), some (.int (jI z1)), some (.int (jI z2))] [] w r := by
  refine g_iloadn (pc' := 1) d_33_0 rfl rfl ?_
  obtain ⟨hc1, h⟩ := h
  refine gz_if_ne (pc' := 4) (pt := 12) d_33_1 (by decide) rfl hc1 (fun c => ?_) (fun c => ?_)
  · replace h := h.1 c
    refine g_iloadn (pc' := 13) d_33_12 rfl rfl ?_
    refine g_iconst (pc' := 14) d_33_13 rfl rfl ?_
    refine gz_ic_ne (pc' := 17) (pt := 25) d_33_14 (by decide) rfl hc1 (s32 (z := 1)) (fun c => ?_) (fun c => ?_)
    · replace h := h.1 c
      refine g_aloadn (pc' := 26) d_33_25 rfl rfl ?_
      refine g_iloadn (pc' := 27) d_33_26 rfl rfl ?_
      obtain ⟨w2, hk3, hC4, h⟩ := h
      refine gz_callV (pc' := 30) d_33_27 rfl st_33_428 na_46 ml_46 rfl rfl rfl rm_33_46 rfl rfl ow_46 (ko_0 hC) hk3 ?_
      exact g_vret d_33_30 rt_33 h
    · replace h := h.2 c
      refine g_aloadn (pc' := 18) d_33_17 rfl rfl ?_
      refine g_iloadn (pc' := 19) d_33_18 rfl rfl ?_
      obtain ⟨w5, hk6, hC7, h⟩ := h
      refine gz_callV (pc' := 22) d_33_19 rfl st_33_425 na_45 ml_45 rfl rfl rfl rm_33_45 rfl rfl ow_45 (ko_0 hC) hk6 ?_
      refine g_goto (pt := 30) d_33_22 (by decide) ?_
      exact g_vret d_33_30 rt_33 h
  · replace h := h.2 c
    refine g_aloadn (pc' := 5) d_33_4 rfl rfl ?_
    refine g_iloadn (pc' := 6) d_33_5 rfl rfl ?_
    obtain ⟨w8, hk9, hC10, h⟩ := h
    refine gz_callV (pc' := 9) d_33_6 rfl st_33_422 na_34 ml_34 rfl rfl rfl rm_33_34 rfl rfl ow_34 (ko_0 hC) hk9 ?_
    refine g_goto (pt := 30) d_33_9 (by decide) ?_
    exact g_vret d_33_30 rt_33 h
theorem Z_33 {z1 : Int} {z2 : Int} {w : xW} {r : Option Value × xW} (hC : CS w) (h : in32 z2 ∧ (z2 ≠ 0 → (z2 ≠ 1 → ∃ w2, xCall 46 [.ref 0, .int (jI z1)] w (none, w2) ∧ CS w2 ∧ r = (none, w2)) ∧ (z2 = 1 → ∃ w5, xCall 45 [.ref 0, .int (jI z1)] w (none, w5) ∧ CS w5 ∧ r = (none, w5))) ∧ (z2 = 0 → ∃ w8, xCall 34 [.ref 0, .int (jI z1)] w (none, w8) ∧ CS w8 ∧ r = (none, w8))) : xCall 33 [.ref 0, .int (jI z1), .int (jI z2)] w r := E_33 (Z_33_0 hC h)
theorem Z_34_0 {z1 : Int} {w : xW} {r : Option Value × xW} (hC : CS w) (h : in32 z1 ∧ (1 ≤ z1 → ∃ w2, xCall 36 [.ref 23, .int (jI z1), .int (jI (z1 - 1))] w (none, w2) ∧ CS w2 ∧ ∃ w5, xCall 42 [.ref 3, .ref 36] w2 (none, w5) ∧ CS w5 ∧ ∃ w8, xCall 43 [.ref 36, .long (jL (-1))] w5 (none, w8) ∧ CS w8 ∧ in32 (z1 + 1) ∧ ∃ w12, xCall 44 [.ref 36, .long (jL (z1 + 1))] w8 (none, w12) ∧ CS w12 ∧ r = (none, w12)) ∧ (z1 < 1 → ∃ w15, xCall 35 [.ref 0, .int (jI z1)] w (none, w15) ∧ CS w15 ∧ r = (none, w15))) : xGo 34 0 [some (.ref 0), some (.int (jI z1))] [] w r := by
  refine g_iloadn (pc' := 1) d_34_0 rfl rfl ?_
  refine g_iconst (pc' := 2) d_34_1 rfl rfl ?_
  obtain ⟨hc1, h⟩ := h
  refine gz_ic_ge (pc' := 5) (pt := 11) d_34_2 (by decide) rfl hc1 (s32 (z := 1)) (fun c => ?_) (fun c => ?_)
  · replace h := h.1 c
    refine g_aloadn (pc' := 12) d_34_11 rfl rfl ?_
    refine gz_getR (pc' := 15) d_34_12 rfl st_34_58 (kr_0_8 hC) ?_
    refine g_iloadn (pc' := 16) d_34_15 rfl rfl ?_
    refine g_iloadn (pc' := 17) d_34_16 rfl rfl ?_
    refine g_iconst (pc' := 18) d_34_17 rfl rfl ?_
    refine gz_isub (pc' := 19) d_34_18 rfl ?_
    obtain ⟨w2, hk3, hC4, h⟩ := h
    refine gz_callV (pc' := 22) d_34_19 rfl st_34_281 na_36 ml_36 rfl rfl rfl rm_34_36 rfl rfl ow_36 (ko_23 hC) hk3 ?_
    refine g_aloadn (pc' := 23) d_34_22 rfl rfl ?_
    refine gz_getR (pc' := 26) d_34_23 rfl st_34_21 (kr_0_1 hC4) ?_
    refine g_aloadn (pc' := 27) d_34_26 rfl rfl ?_
    refine gz_getR (pc' := 30) d_34_27 rfl st_34_95 (kr_0_13 hC4) ?_
    obtain ⟨w5, hk6, hC7, h⟩ := h
    refine gz_callV (pc' := 33) d_34_30 rfl st_34_214 na_42 ml_42 rfl rfl rfl rm_34_42 rfl rfl ow_42 (ko_3 hC4) hk6 ?_
    refine g_aloadn (pc' := 34) d_34_33 rfl rfl ?_
    refine gz_getR (pc' := 37) d_34_34 rfl st_34_95 (kr_0_13 hC7) ?_
    refine g_ldc2 (pc' := 40) d_34_37 rfl st_34_387 rfl ?_
    obtain ⟨w8, hk9, hC10, h⟩ := h
    refine gz_callV (pc' := 43) d_34_40 rfl st_34_339 na_43 ml_43 rfl rfl rfl rm_34_43 rfl rfl ow_43 (ko_36 hC7) hk9 ?_
    refine g_aloadn (pc' := 44) d_34_43 rfl rfl ?_
    refine gz_getR (pc' := 47) d_34_44 rfl st_34_95 (kr_0_13 hC10) ?_
    refine g_iloadn (pc' := 48) d_34_47 rfl rfl ?_
    refine g_iconst (pc' := 49) d_34_48 rfl rfl ?_
    refine gz_iadd (pc' := 50) d_34_49 rfl ?_
    obtain ⟨hc11, h⟩ := h
    refine gz_i2l (pc' := 51) d_34_50 rfl hc11 ?_
    obtain ⟨w12, hk13, hC14, h⟩ := h
    refine gz_callV (pc' := 54) d_34_51 rfl st_34_342 na_44 ml_44 rfl rfl rfl rm_34_44 rfl rfl ow_44 (ko_36 hC10) hk13 ?_
    exact g_vret d_34_54 rt_34 h
  · replace h := h.2 c
    refine g_aloadn (pc' := 6) d_34_5 rfl rfl ?_
    refine g_iloadn (pc' := 7) d_34_6 rfl rfl ?_
    obtain ⟨w15, hk16, hC17, h⟩ := h
    refine gz_callV (pc' := 10) d_34_7 rfl st_34_431 na_35 ml_35 rfl rfl rfl rm_34_35 rfl rfl ow_35 (ko_0 hC) hk16 ?_
    exact g_vret d_34_10 rt_34 h
theorem Z_34 {z1 : Int} {w : xW} {r : Option Value × xW} (hC : CS w) (h : in32 z1 ∧ (1 ≤ z1 → ∃ w2, xCall 36 [.ref 23, .int (jI z1), .int (jI (z1 - 1))] w (none, w2) ∧ CS w2 ∧ ∃ w5, xCall 42 [.ref 3, .ref 36] w2 (none, w5) ∧ CS w5 ∧ ∃ w8, xCall 43 [.ref 36, .long (jL (-1))] w5 (none, w8) ∧ CS w8 ∧ in32 (z1 + 1) ∧ ∃ w12, xCall 44 [.ref 36, .long (jL (z1 + 1))] w8 (none, w12) ∧ CS w12 ∧ r = (none, w12)) ∧ (z1 < 1 → ∃ w15, xCall 35 [.ref 0, .int (jI z1)] w (none, w15) ∧ CS w15 ∧ r = (none, w15))) : xCall 34 [.ref 0, .int (jI z1)] w r := E_34 (Z_34_0 hC h)
theorem Z_35_0 {z1 : Int} {w : xW} {r : Option Value × xW} (hC : CS w) (h : in32 z1 ∧ (z1 ≠ 0 → (z1 ≠ 1 → ∃ w2, xCall 16 [.ref 36, .long (jL 0), .long (jL 0), .long (jL 1)] w (none, w2) ∧ CS w2 ∧ r = (none, w2)) ∧ (z1 = 1 → ∃ w5, xCall 16 [.ref 36, .long (jL 0), .long (jL (-1)), .long (jL 2)] w (none, w5) ∧ CS w5 ∧ r = (none, w5))) ∧ (z1 = 0 → ∃ w8, xCall 16 [.ref 36, .long (jL 1), .long (jL 0), .long (jL 1)] w (none, w8) ∧ CS w8 ∧ r = (none, w8))) : xGo 35 0 [some (.ref 0), some (.int (jI z1))] [] w r := by
  refine g_iloadn (pc' := 1) d_35_0 rfl rfl ?_
  obtain ⟨hc1, h⟩ := h
  refine gz_if_ne (pc' := 4) (pt := 17) d_35_1 (by decide) rfl hc1 (fun c => ?_) (fun c => ?_)
  · replace h := h.1 c
    refine g_iloadn (pc' := 18) d_35_17 rfl rfl ?_
    refine g_iconst (pc' := 19) d_35_18 rfl rfl ?_
    refine gz_ic_ne (pc' := 22) (pt := 39) d_35_19 (by decide) rfl hc1 (s32 (z := 1)) (fun c => ?_) (fun c => ?_)
    · replace h := h.1 c
      refine g_aloadn (pc' := 40) d_35_39 rfl rfl ?_
      refine gz_getR (pc' := 43) d_35_40 rfl st_35_95 (kr_0_13 hC) ?_
      refine g_lconst (pc' := 44) (v := jL 0) d_35_43 rfl cl_0 ?_
      refine g_lconst (pc' := 45) (v := jL 0) d_35_44 rfl cl_0 ?_
      refine g_lconst (pc' := 46) (v := jL 1) d_35_45 rfl cl_1 ?_
      obtain ⟨w2, hk3, hC4, h⟩ := h
      refine gz_callV (pc' := 49) d_35_46 rfl st_35_327 na_16 ml_16 rfl rfl rfl rm_35_16 rfl rfl ow_16 (ko_36 hC) hk3 ?_
      exact g_vret d_35_49 rt_35 h
    · replace h := h.2 c
      refine g_aloadn (pc' := 23) d_35_22 rfl rfl ?_
      refine gz_getR (pc' := 26) d_35_23 rfl st_35_95 (kr_0_13 hC) ?_
      refine g_lconst (pc' := 27) (v := jL 0) d_35_26 rfl cl_0 ?_
      refine g_ldc2 (pc' := 30) d_35_27 rfl st_35_387 rfl ?_
      refine g_ldc2 (pc' := 33) d_35_30 rfl st_35_389 rfl ?_
      obtain ⟨w5, hk6, hC7, h⟩ := h
      refine gz_callV (pc' := 36) d_35_33 rfl st_35_327 na_16 ml_16 rfl rfl rfl rm_35_16 rfl rfl ow_16 (ko_36 hC) hk6 ?_
      refine g_goto (pt := 49) d_35_36 (by decide) ?_
      exact g_vret d_35_49 rt_35 h
  · replace h := h.2 c
    refine g_aloadn (pc' := 5) d_35_4 rfl rfl ?_
    refine gz_getR (pc' := 8) d_35_5 rfl st_35_95 (kr_0_13 hC) ?_
    refine g_lconst (pc' := 9) (v := jL 1) d_35_8 rfl cl_1 ?_
    refine g_lconst (pc' := 10) (v := jL 0) d_35_9 rfl cl_0 ?_
    refine g_lconst (pc' := 11) (v := jL 1) d_35_10 rfl cl_1 ?_
    obtain ⟨w8, hk9, hC10, h⟩ := h
    refine gz_callV (pc' := 14) d_35_11 rfl st_35_327 na_16 ml_16 rfl rfl rfl rm_35_16 rfl rfl ow_16 (ko_36 hC) hk9 ?_
    refine g_goto (pt := 49) d_35_14 (by decide) ?_
    exact g_vret d_35_49 rt_35 h
theorem Z_35 {z1 : Int} {w : xW} {r : Option Value × xW} (hC : CS w) (h : in32 z1 ∧ (z1 ≠ 0 → (z1 ≠ 1 → ∃ w2, xCall 16 [.ref 36, .long (jL 0), .long (jL 0), .long (jL 1)] w (none, w2) ∧ CS w2 ∧ r = (none, w2)) ∧ (z1 = 1 → ∃ w5, xCall 16 [.ref 36, .long (jL 0), .long (jL (-1)), .long (jL 2)] w (none, w5) ∧ CS w5 ∧ r = (none, w5))) ∧ (z1 = 0 → ∃ w8, xCall 16 [.ref 36, .long (jL 1), .long (jL 0), .long (jL 1)] w (none, w8) ∧ CS w8 ∧ r = (none, w8))) : xCall 35 [.ref 0, .int (jI z1)] w r := E_35 (Z_35_0 hC h)
theorem Z_36_0 {z1 : Int} {z2 : Int} {w : xW} {r : Option Value × xW} (hC : CS w) (h : ∃ w1, xCall 37 [.ref 3, .long (jL 7420738134810)] w (none, w1) ∧ CS w1 ∧ xGo 36 12 [some (.ref 23), some (.int (jI z1)), some (.int (jI z2)), some (.int (jI 0))] [] w1 r) : xGo 36 0 [some (.ref 23), some (.int (jI z1)), some (.int (jI z2)), none] [] w r := by
  refine g_aloadn (pc' := 1) d_36_0 rfl rfl ?_
  refine gz_getR (pc' := 4) d_36_1 rfl st_36_19 (kr_23_2 hC) ?_
  refine g_ldc2 (pc' := 7) d_36_4 rfl st_36_48 rfl ?_
  obtain ⟨w1, hk2, hC3, h⟩ := h
  refine gz_callV (pc' := 10) d_36_7 rfl st_36_50 na_37 ml_37 rfl rfl rfl rm_36_37 rfl rfl ow_37 (ko_3 hC) hk2 ?_
  refine g_iconst (pc' := 11) d_36_10 rfl rfl ?_
  refine g_istoren (pc' := 12) (l' := [some (.ref 23), some (.int (jI z1)), some (.int (jI z2)), some (.int (jI 0))]) d_36_11 rfl ml_36 rfl rfl ?_
  exact h
theorem Z_36 {z1 : Int} {z2 : Int} {w : xW} {r : Option Value × xW} (hC : CS w) (h : ∃ w1, xCall 37 [.ref 3, .long (jL 7420738134810)] w (none, w1) ∧ CS w1 ∧ xGo 36 12 [some (.ref 23), some (.int (jI z1)), some (.int (jI z2)), some (.int (jI 0))] [] w1 r) : xCall 36 [.ref 23, .int (jI z1), .int (jI z2)] w r := E_36 (Z_36_0 hC h)
theorem Z_36_12 {z1 : Int} {z2 : Int} {z3 : Int} {w : xW} {r : Option Value × xW} (hC : CS w) (h : in32 z3 ∧ in32 z2 ∧ (z2 < z3 → r = (none, w)) ∧ (z3 ≤ z2 → ∃ r6 w3, xCall 39 [.ref 1, .int (jI (z1 + 1)), .int (jI z3)] w (some (.long (jL r6)), w3) ∧ CS w3 ∧ ∃ w7, xCall 40 [.ref 23, .long (jL r6), .int (jI z3)] w3 (none, w7) ∧ CS w7 ∧ xGo 36 12 [some (.ref 23), some (.int (jI z1)), some (.int (jI z2)), some (.int (jI (z3 + 1)))] [] w7 r)) : xGo 36 12 [some (.ref 23), some (.int (jI z1)), some (.int (jI z2)), some (.int (jI z3))] [] w r := by
  refine g_iloadn (pc' := 13) d_36_12 rfl rfl ?_
  refine g_iloadn (pc' := 14) d_36_13 rfl rfl ?_
  obtain ⟨hc1, h⟩ := h
  obtain ⟨hc2, h⟩ := h
  refine gz_ic_gt (pc' := 17) (pt := 39) d_36_14 (by decide) rfl hc1 hc2 (fun c => ?_) (fun c => ?_)
  · replace h := h.1 c
    exact g_vret d_36_39 rt_36 h
  · replace h := h.2 c
    refine g_aloadn (pc' := 18) d_36_17 rfl rfl ?_
    refine g_aloadn (pc' := 19) d_36_18 rfl rfl ?_
    refine gz_getR (pc' := 22) d_36_19 rfl st_36_15 (kr_23_1 hC) ?_
    refine g_iloadn (pc' := 23) d_36_22 rfl rfl ?_
    refine g_iconst (pc' := 24) d_36_23 rfl rfl ?_
    refine gz_iadd (pc' := 25) d_36_24 rfl ?_
    refine g_iloadn (pc' := 26) d_36_25 rfl rfl ?_
    obtain ⟨r6, w3, hk4, hC5, h⟩ := h
    refine gz_callV (pc' := 29) d_36_26 rfl st_36_56 na_39 ml_39 rfl rfl rfl rm_36_39 rfl rfl ow_39 (ko_1 hC) hk4 ?_
    refine g_iloadn (pc' := 30) d_36_29 rfl rfl ?_
    obtain ⟨w7, hk8, hC9, h⟩ := h
    refine gz_callV (pc' := 33) d_36_30 rfl st_36_62 na_40 ml_40 rfl rfl rfl rm_36_40 rfl rfl ow_40 (ko_23 hC5) hk8 ?_
    refine gz_iinc (pc' := 36) (l' := [some (.ref 23), some (.int (jI z1)), some (.int (jI z2)), some (.int (jI (z3 + 1)))]) d_36_33 rfl rfl ml_36 rfl rfl ?_
    refine g_goto (pt := 12) d_36_36 (by decide) ?_
    exact h
theorem Z_37_0 {z1 : Int} {w : xW} {r : Option Value × xW} (hC : CS w) (h : ∃ r4 w1, xCall 38 [.long (jL z1), .long (jL 1)] w (some (.long (jL r4)), w1) ∧ CS w1 ∧ ∀ w6, w6 = pF w1 3 0 (.long (jL r4)) → CS w6 → ∀ w9, w9 = pF w6 3 1 (.long (jL 0)) → CS w9 → ∀ w12, w12 = pF w9 3 2 (.long (jL 0)) → CS w12 → r = (none, w12)) : xGo 37 0 [some (.ref 3), some (.long (jL z1)), none] [] w r := by
  refine g_aloadn (pc' := 1) d_37_0 rfl rfl ?_
  refine g_lloadn (pc' := 2) d_37_1 rfl rfl ?_
  refine g_lconst (pc' := 3) (v := jL 1) d_37_2 rfl cl_1 ?_
  obtain ⟨r4, w1, hk2, hC3, h⟩ := h
  refine g_callS (pc' := 6) d_37_3 rfl st_37_13 (Or.inl rfl) na_38 ml_38 rfl rfl rfl rm_37_38 rfl rfl hk2 ?_
  have hpf5 := (kf_3_0 hC3)
  have hC7 : CS (pF w1 3 0 (.long (jL r4))) := ks_3_0 hC3
  have h := h _ rfl hC7
  refine gz_putf (pc' := 9) d_37_6 rfl st_37_7 ft_2_0 ff_2_0 rfl (Or.inl rfl) hpf5 ?_
  refine g_aloadn (pc' := 10) d_37_9 rfl rfl ?_
  refine g_lconst (pc' := 11) (v := jL 0) d_37_10 rfl cl_0 ?_
  have hpf8 := (kf_3_1 hC7)
  have hC10 : CS (pF (pF w1 3 0 (.long (jL r4))) 3 1 (.long (jL 0))) := ks_3_1 hC7
  have h := h _ rfl hC10
  refine gz_putf (pc' := 14) d_37_11 rfl st_37_19 ft_2_1 ff_2_1 rfl (Or.inl rfl) hpf8 ?_
  refine g_aloadn (pc' := 15) d_37_14 rfl rfl ?_
  refine g_lconst (pc' := 16) (v := jL 0) d_37_15 rfl cl_0 ?_
  have hpf11 := (kf_3_2 hC10)
  have hC13 : CS (pF (pF (pF w1 3 0 (.long (jL r4))) 3 1 (.long (jL 0))) 3 2 (.long (jL 0))) := ks_3_2 hC10
  have h := h _ rfl hC13
  refine gz_putf (pc' := 19) d_37_16 rfl st_37_22 ft_2_2 ff_2_2 rfl (Or.inl rfl) hpf11 ?_
  exact g_vret d_37_19 rt_37 h
theorem Z_37 {z1 : Int} {w : xW} {r : Option Value × xW} (hC : CS w) (h : ∃ r4 w1, xCall 38 [.long (jL z1), .long (jL 1)] w (some (.long (jL r4)), w1) ∧ CS w1 ∧ ∀ w6, w6 = pF w1 3 0 (.long (jL r4)) → CS w6 → ∀ w9, w9 = pF w6 3 1 (.long (jL 0)) → CS w9 → ∀ w12, w12 = pF w9 3 2 (.long (jL 0)) → CS w12 → r = (none, w12)) : xCall 37 [.ref 3, .long (jL z1)] w r := E_37 (Z_37_0 hC h)
theorem Z_38_0 {z0 : Int} {z2 : Int} {w : xW} {r : Option Value × xW} (hC : CS w) (h : in64 z0 ∧ in64 z2 ∧ (z0 < z2 → r = (some (.long (jL z2)), w)) ∧ (z2 ≤ z0 → r = (some (.long (jL z0)), w))) : xGo 38 0 [some (.long (jL z0)), none, some (.long (jL z2)), none] [] w r := by
  refine g_lloadn (pc' := 1) d_38_0 rfl rfl ?_
  refine g_lloadn (pc' := 2) d_38_1 rfl rfl ?_
  obtain ⟨hc1, h⟩ := h
  obtain ⟨hc2, h⟩ := h
  refine gz_lc_lt (pc' := 6) (pm := 3) (pt := 10) d_38_2 rfl d_38_3 (by decide) rfl hc1 hc2 (fun c => ?_) (fun c => ?_)
  · replace h := h.1 c
    refine g_lloadn (pc' := 11) d_38_10 rfl rfl ?_
    exact g_lret d_38_11 rt_38 h
  · replace h := h.2 c
    refine g_lloadn (pc' := 7) d_38_6 rfl rfl ?_
    refine g_goto (pt := 11) d_38_7 (by decide) ?_
    exact g_lret d_38_11 rt_38 h
theorem Z_38 {z0 : Int} {z2 : Int} {w : xW} {r : Option Value × xW} (hC : CS w) (h : in64 z0 ∧ in64 z2 ∧ (z0 < z2 → r = (some (.long (jL z2)), w)) ∧ (z2 ≤ z0 → r = (some (.long (jL z0)), w))) : xCall 38 [.long (jL z0), .long (jL z2)] w r := E_38 (Z_38_0 hC h)
theorem Z_39_0 {z1 : Int} {z2 : Int} {w : xW} {r : Option Value × xW} (hC : CS w) (h : in32 z1 ∧ (z1 < 0 → r = (some (.long (jL 0)), w)) ∧ (0 ≤ z1 → (42 ≤ z1 → r = (some (.long (jL 0)), w)) ∧ (z1 < 42 → in32 z2 ∧ (z2 < 0 → r = (some (.long (jL 0)), w)) ∧ (0 ≤ z2 → (42 ≤ z2 → r = (some (.long (jL 0)), w)) ∧ (z2 < 42 → 0 ≤ (z1 * 42) + z2 ∧ ∃ x4, rL w 2 ((z1 * 42) + z2).toNat x4 ∧ r = (some (.long (jL x4)), w)))))) : xGo 39 0 [some (.ref 1), some (.int (jI z1)), some (.int (jI z2))] [] w r := by
  refine g_iloadn (pc' := 1) d_39_0 rfl rfl ?_
  obtain ⟨hc1, h⟩ := h
  refine gz_if_lt (pc' := 4) (pt := 34) d_39_1 (by decide) rfl hc1 (fun c => ?_) (fun c => ?_)
  · replace h := h.1 c
    refine g_lconst (pc' := 35) (v := jL 0) d_39_34 rfl cl_0 ?_
    exact g_lret d_39_35 rt_39 h
  · replace h := h.2 c
    refine g_iloadn (pc' := 5) d_39_4 rfl rfl ?_
    refine g_bipush (pc' := 7) (v := jI 42) d_39_5 rfl (by decide) ?_
    refine gz_ic_ge (pc' := 10) (pt := 34) d_39_7 (by decide) rfl hc1 (s32 (z := 42)) (fun c => ?_) (fun c => ?_)
    · replace h := h.1 c
      refine g_lconst (pc' := 35) (v := jL 0) d_39_34 rfl cl_0 ?_
      exact g_lret d_39_35 rt_39 h
    · replace h := h.2 c
      refine g_iloadn (pc' := 11) d_39_10 rfl rfl ?_
      obtain ⟨hc2, h⟩ := h
      refine gz_if_lt (pc' := 14) (pt := 34) d_39_11 (by decide) rfl hc2 (fun c => ?_) (fun c => ?_)
      · replace h := h.1 c
        refine g_lconst (pc' := 35) (v := jL 0) d_39_34 rfl cl_0 ?_
        exact g_lret d_39_35 rt_39 h
      · replace h := h.2 c
        refine g_iloadn (pc' := 15) d_39_14 rfl rfl ?_
        refine g_bipush (pc' := 17) (v := jI 42) d_39_15 rfl (by decide) ?_
        refine gz_ic_ge (pc' := 20) (pt := 34) d_39_17 (by decide) rfl hc2 (s32 (z := 42)) (fun c => ?_) (fun c => ?_)
        · replace h := h.1 c
          refine g_lconst (pc' := 35) (v := jL 0) d_39_34 rfl cl_0 ?_
          exact g_lret d_39_35 rt_39 h
        · replace h := h.2 c
          refine g_aloadn (pc' := 21) d_39_20 rfl rfl ?_
          refine gz_getR (pc' := 24) d_39_21 rfl st_39_11 (kr_1_0 hC) ?_
          refine g_iloadn (pc' := 25) d_39_24 rfl rfl ?_
          refine g_bipush (pc' := 27) (v := jI 42) d_39_25 rfl (by decide) ?_
          refine gz_imul (pc' := 28) d_39_27 rfl ?_
          refine g_iloadn (pc' := 29) d_39_28 rfl rfl ?_
          refine gz_iadd (pc' := 30) d_39_29 rfl ?_
          obtain ⟨hc3, h⟩ := h
          obtain ⟨x4, hv5, h⟩ := h
          refine gz_lald (pc' := 31) d_39_30 rfl hc3 hv5 ?_
          refine g_goto (pt := 35) d_39_31 (by decide) ?_
          exact g_lret d_39_35 rt_39 h
theorem Z_39 {z1 : Int} {z2 : Int} {w : xW} {r : Option Value × xW} (hC : CS w) (h : in32 z1 ∧ (z1 < 0 → r = (some (.long (jL 0)), w)) ∧ (0 ≤ z1 → (42 ≤ z1 → r = (some (.long (jL 0)), w)) ∧ (z1 < 42 → in32 z2 ∧ (z2 < 0 → r = (some (.long (jL 0)), w)) ∧ (0 ≤ z2 → (42 ≤ z2 → r = (some (.long (jL 0)), w)) ∧ (z2 < 42 → 0 ≤ (z1 * 42) + z2 ∧ ∃ x4, rL w 2 ((z1 * 42) + z2).toNat x4 ∧ r = (some (.long (jL x4)), w)))))) : xCall 39 [.ref 1, .int (jI z1), .int (jI z2)] w r := E_39 (Z_39_0 hC h)
theorem Z_40_0 {z1 : Int} {z3 : Int} {w : xW} {r : Option Value × xW} (hC : CS w) (h : ∃ r4 w1, xCall 29 [.ref 12, .int (jI z3)] w (some (.long (jL r4)), w1) ∧ CS w1 ∧ ∃ r8 w5, xCall 30 [.ref 12, .int (jI z3)] w1 (some (.long (jL r8)), w5) ∧ CS w5 ∧ ∃ r12 w9, xCall 31 [.ref 12, .int (jI z3)] w5 (some (.long (jL r12)), w9) ∧ CS w9 ∧ ∃ w13, xCall 41 [.ref 3, .long (jL z1), .long (jL r4), .long (jL r8), .long (jL r12)] w9 (none, w13) ∧ CS w13 ∧ r = (none, w13)) : xGo 40 0 [some (.ref 23), some (.long (jL z1)), none, some (.int (jI z3))] [] w r := by
  refine g_aloadn (pc' := 1) d_40_0 rfl rfl ?_
  refine gz_getR (pc' := 4) d_40_1 rfl st_40_19 (kr_23_2 hC) ?_
  refine g_lloadn (pc' := 5) d_40_4 rfl rfl ?_
  refine g_aloadn (pc' := 6) d_40_5 rfl rfl ?_
  refine gz_getR (pc' := 9) d_40_6 rfl st_40_9 (kr_23_0 hC) ?_
  refine g_iloadn (pc' := 10) d_40_9 rfl rfl ?_
  obtain ⟨r4, w1, hk2, hC3, h⟩ := h
  refine gz_callV (pc' := 13) d_40_10 rfl st_40_91 na_29 ml_29 rfl rfl rfl rm_40_29 rfl rfl ow_29 (ko_12 hC) hk2 ?_
  refine g_aloadn (pc' := 14) d_40_13 rfl rfl ?_
  refine gz_getR (pc' := 17) d_40_14 rfl st_40_9 (kr_23_0 hC3) ?_
  refine g_iloadn (pc' := 18) d_40_17 rfl rfl ?_
  obtain ⟨r8, w5, hk6, hC7, h⟩ := h
  refine gz_callV (pc' := 21) d_40_18 rfl st_40_94 na_30 ml_30 rfl rfl rfl rm_40_30 rfl rfl ow_30 (ko_12 hC3) hk6 ?_
  refine g_aloadn (pc' := 22) d_40_21 rfl rfl ?_
  refine gz_getR (pc' := 25) d_40_22 rfl st_40_9 (kr_23_0 hC7) ?_
  refine g_iloadn (pc' := 26) d_40_25 rfl rfl ?_
  obtain ⟨r12, w9, hk10, hC11, h⟩ := h
  refine gz_callV (pc' := 29) d_40_26 rfl st_40_87 na_31 ml_31 rfl rfl rfl rm_40_31 rfl rfl ow_31 (ko_12 hC7) hk10 ?_
  obtain ⟨w13, hk14, hC15, h⟩ := h
  refine gz_callV (pc' := 32) d_40_29 rfl st_40_100 na_41 ml_41 rfl rfl rfl rm_40_41 rfl rfl ow_41 (ko_3 hC11) hk14 ?_
  exact g_vret d_40_32 rt_40 h
theorem Z_40 {z1 : Int} {z3 : Int} {w : xW} {r : Option Value × xW} (hC : CS w) (h : ∃ r4 w1, xCall 29 [.ref 12, .int (jI z3)] w (some (.long (jL r4)), w1) ∧ CS w1 ∧ ∃ r8 w5, xCall 30 [.ref 12, .int (jI z3)] w1 (some (.long (jL r8)), w5) ∧ CS w5 ∧ ∃ r12 w9, xCall 31 [.ref 12, .int (jI z3)] w5 (some (.long (jL r12)), w9) ∧ CS w9 ∧ ∃ w13, xCall 41 [.ref 3, .long (jL z1), .long (jL r4), .long (jL r8), .long (jL r12)] w9 (none, w13) ∧ CS w13 ∧ r = (none, w13)) : xCall 40 [.ref 23, .long (jL z1), .int (jI z3)] w r := E_40 (Z_40_0 hC h)
theorem Z_41_0 {z1 : Int} {z3 : Int} {z5 : Int} {z7 : Int} {w : xW} {r : Option Value × xW} (hC : CS w) (h : in64 z7 ∧ (0 < z7 → ∃ x2, fJ w 3 2 1 x2 ∧ ∃ r7 w4, xCall 19 [.long (jL (z1 * z5)), .long (jL z7)] w (some (.long (jL r7)), w4) ∧ CS w4 ∧ ∀ w9, w9 = pF w4 3 1 (.long (jL (x2 + ((z1 * z3) + r7)))) → CS w9 → ∃ x11, fJ w9 3 2 2 x11 ∧ ∃ r16 w13, xCall 17 [.long (jL (z1 * z5)), .long (jL z7)] w9 (some (.long (jL r16)), w13) ∧ CS w13 ∧ ∃ x17, fJ w13 3 2 0 x17 ∧ in64 x17 ∧ z7 ≠ 0 ∧ ∃ y21, Int.tdiv x17 z7 = y21 ∧ ∀ w24, w24 = pF w13 3 2 (.long (jL (x11 + (r16 * y21)))) → CS w24 → ∃ x26, fJ w24 3 2 2 x26 ∧ ∃ x28, fJ w24 3 2 0 x28 ∧ in64 x26 ∧ in64 x28 ∧ (x26 < x28 → r = (none, w24)) ∧ (x28 ≤ x26 → ∀ w33, w33 = pF w24 3 2 (.long (jL (x26 - x28))) → CS w33 → ∃ x35, fJ w33 3 2 1 x35 ∧ ∀ w38, w38 = pF w33 3 1 (.long (jL (x35 + 1))) → CS w38 → r = (none, w38))) ∧ (z7 ≤ 0 → r = (none, w))) : xGo 41 0 [some (.ref 3), some (.long (jL z1)), none, some (.long (jL z3)), none, some (.long (jL z5)), none, some (.long (jL z7)), none, none, none] [] w r := by
  refine g_lload (pc' := 2) d_41_0 rfl rfl ?_
  refine g_lconst (pc' := 3) (v := jL 0) d_41_2 rfl cl_0 ?_
  obtain ⟨hc1, h⟩ := h
  refine gz_lc_gt (pc' := 7) (pm := 4) (pt := 8) d_41_3 rfl d_41_4 (by decide) rfl hc1 (s64 (z := 0)) (fun c => ?_) (fun c => ?_)
  · replace h := h.1 c
    refine g_lloadn (pc' := 9) d_41_8 rfl rfl ?_
    refine g_lload (pc' := 11) d_41_9 rfl rfl ?_
    refine gz_lmul (pc' := 12) d_41_11 rfl ?_
    refine g_lstore (pc' := 14) (l' := [some (.ref 3), some (.long (jL z1)), none, some (.long (jL z3)), none, some (.long (jL z5)), none, some (.long (jL z7)), none, some (.long (jL (z1 * z5))), none]) d_41_12 rfl ml_41 rfl rfl ?_
    refine g_aloadn (pc' := 15) d_41_14 rfl rfl ?_
    refine g_dup (pc' := 16) d_41_15 rfl rfl ?_
    obtain ⟨x2, hv3, h⟩ := h
    refine gz_getJ (pc' := 19) d_41_16 rfl st_41_19 hv3 ?_
    refine g_lloadn (pc' := 20) d_41_19 rfl rfl ?_
    refine g_lloadn (pc' := 21) d_41_20 rfl rfl ?_
    refine gz_lmul (pc' := 22) d_41_21 rfl ?_
    refine g_lload (pc' := 24) d_41_22 rfl rfl ?_
    refine g_lload (pc' := 26) d_41_24 rfl rfl ?_
    obtain ⟨r7, w4, hk5, hC6, h⟩ := h
    refine g_callS (pc' := 29) d_41_26 rfl st_41_25 (Or.inl rfl) na_19 ml_19 rfl rfl rfl rm_41_19 rfl rfl hk5 ?_
    refine gz_ladd (pc' := 30) d_41_29 rfl ?_
    refine gz_ladd (pc' := 31) d_41_30 rfl ?_
    have hpf8 := (kf_3_1 hC6)
    have hC10 : CS (pF w4 3 1 (.long (jL (x2 + ((z1 * z3) + r7))))) := ks_3_1 hC6
    have h := h _ rfl hC10
    refine gz_putf (pc' := 34) d_41_31 rfl st_41_19 ft_2_1 ff_2_1 rfl (Or.inl rfl) hpf8 ?_
    refine g_aloadn (pc' := 35) d_41_34 rfl rfl ?_
    refine g_dup (pc' := 36) d_41_35 rfl rfl ?_
    obtain ⟨x11, hv12, h⟩ := h
    refine gz_getJ (pc' := 39) d_41_36 rfl st_41_22 hv12 ?_
    refine g_lload (pc' := 41) d_41_39 rfl rfl ?_
    refine g_lload (pc' := 43) d_41_41 rfl rfl ?_
    obtain ⟨r16, w13, hk14, hC15, h⟩ := h
    refine g_callS (pc' := 46) d_41_43 rfl st_41_28 (Or.inl rfl) na_17 ml_17 rfl rfl rfl rm_41_17 rfl rfl hk14 ?_
    refine g_aloadn (pc' := 47) d_41_46 rfl rfl ?_
    obtain ⟨x17, hv18, h⟩ := h
    refine gz_getJ (pc' := 50) d_41_47 rfl st_41_7 hv18 ?_
    refine g_lload (pc' := 52) d_41_50 rfl rfl ?_
    obtain ⟨hc19, h⟩ := h
    obtain ⟨hc20, h⟩ := h
    obtain ⟨y21, hz22, h⟩ := h
    refine gz_ldiv (pc' := 53) d_41_52 rfl hc19 hc1 hc20 hz22 ?_
    refine gz_lmul (pc' := 54) d_41_53 rfl ?_
    refine gz_ladd (pc' := 55) d_41_54 rfl ?_
    have hpf23 := (kf_3_2 hC15)
    have hC25 : CS (pF w13 3 2 (.long (jL (x11 + (r16 * y21))))) := ks_3_2 hC15
    have h := h _ rfl hC25
    refine gz_putf (pc' := 58) d_41_55 rfl st_41_22 ft_2_2 ff_2_2 rfl (Or.inl rfl) hpf23 ?_
    refine g_aloadn (pc' := 59) d_41_58 rfl rfl ?_
    obtain ⟨x26, hv27, h⟩ := h
    refine gz_getJ (pc' := 62) d_41_59 rfl st_41_22 hv27 ?_
    refine g_aloadn (pc' := 63) d_41_62 rfl rfl ?_
    obtain ⟨x28, hv29, h⟩ := h
    refine gz_getJ (pc' := 66) d_41_63 rfl st_41_7 hv29 ?_
    obtain ⟨hc30, h⟩ := h
    obtain ⟨hc31, h⟩ := h
    refine gz_lc_lt (pc' := 70) (pm := 67) (pt := 93) d_41_66 rfl d_41_67 (by decide) rfl hc30 hc31 (fun c => ?_) (fun c => ?_)
    · replace h := h.1 c
      exact g_vret d_41_93 rt_41 h
    · replace h := h.2 c
      refine g_aloadn (pc' := 71) d_41_70 rfl rfl ?_
      refine g_dup (pc' := 72) d_41_71 rfl rfl ?_
      refine gz_getJ (pc' := 75) d_41_72 rfl st_41_22 hv27 ?_
      refine g_aloadn (pc' := 76) d_41_75 rfl rfl ?_
      refine gz_getJ (pc' := 79) d_41_76 rfl st_41_7 hv29 ?_
      refine gz_lsub (pc' := 80) d_41_79 rfl ?_
      have hpf32 := (kf_3_2 hC25)
      have hC34 : CS (pF (pF w13 3 2 (.long (jL (x11 + (r16 * y21))))) 3 2 (.long (jL (x26 - x28)))) := ks_3_2 hC25
      have h := h _ rfl hC34
      refine gz_putf (pc' := 83) d_41_80 rfl st_41_22 ft_2_2 ff_2_2 rfl (Or.inl rfl) hpf32 ?_
      refine g_aloadn (pc' := 84) d_41_83 rfl rfl ?_
      refine g_dup (pc' := 85) d_41_84 rfl rfl ?_
      obtain ⟨x35, hv36, h⟩ := h
      refine gz_getJ (pc' := 88) d_41_85 rfl st_41_19 hv36 ?_
      refine g_lconst (pc' := 89) (v := jL 1) d_41_88 rfl cl_1 ?_
      refine gz_ladd (pc' := 90) d_41_89 rfl ?_
      have hpf37 := (kf_3_1 hC34)
      have hC39 : CS (pF (pF (pF w13 3 2 (.long (jL (x11 + (r16 * y21))))) 3 2 (.long (jL (x26 - x28)))) 3 1 (.long (jL (x35 + 1)))) := ks_3_1 hC34
      have h := h _ rfl hC39
      refine gz_putf (pc' := 93) d_41_90 rfl st_41_19 ft_2_1 ff_2_1 rfl (Or.inl rfl) hpf37 ?_
      exact g_vret d_41_93 rt_41 h
  · replace h := h.2 c
    exact g_vret d_41_7 rt_41 h
theorem Z_41 {z1 : Int} {z3 : Int} {z5 : Int} {z7 : Int} {w : xW} {r : Option Value × xW} (hC : CS w) (h : in64 z7 ∧ (0 < z7 → ∃ x2, fJ w 3 2 1 x2 ∧ ∃ r7 w4, xCall 19 [.long (jL (z1 * z5)), .long (jL z7)] w (some (.long (jL r7)), w4) ∧ CS w4 ∧ ∀ w9, w9 = pF w4 3 1 (.long (jL (x2 + ((z1 * z3) + r7)))) → CS w9 → ∃ x11, fJ w9 3 2 2 x11 ∧ ∃ r16 w13, xCall 17 [.long (jL (z1 * z5)), .long (jL z7)] w9 (some (.long (jL r16)), w13) ∧ CS w13 ∧ ∃ x17, fJ w13 3 2 0 x17 ∧ in64 x17 ∧ z7 ≠ 0 ∧ ∃ y21, Int.tdiv x17 z7 = y21 ∧ ∀ w24, w24 = pF w13 3 2 (.long (jL (x11 + (r16 * y21)))) → CS w24 → ∃ x26, fJ w24 3 2 2 x26 ∧ ∃ x28, fJ w24 3 2 0 x28 ∧ in64 x26 ∧ in64 x28 ∧ (x26 < x28 → r = (none, w24)) ∧ (x28 ≤ x26 → ∀ w33, w33 = pF w24 3 2 (.long (jL (x26 - x28))) → CS w33 → ∃ x35, fJ w33 3 2 1 x35 ∧ ∀ w38, w38 = pF w33 3 1 (.long (jL (x35 + 1))) → CS w38 → r = (none, w38))) ∧ (z7 ≤ 0 → r = (none, w))) : xCall 41 [.ref 3, .long (jL z1), .long (jL z3), .long (jL z5), .long (jL z7)] w r := E_41 (Z_41_0 hC h)
theorem Z_42_0 {a1 : Nat} {w : xW} {r : Option Value × xW} (hC : CS w) (h : ∃ x1, fJ w 3 2 1 x1 ∧ ∃ x3, fJ w 3 2 2 x3 ∧ ∃ x5, fJ w 3 2 0 x5 ∧ isO w a1 5 ∧ ∃ w8, xCall 16 [.ref a1, .long (jL x1), .long (jL x3), .long (jL x5)] w (none, w8) ∧ CS w8 ∧ r = (none, w8)) : xGo 42 0 [some (.ref 3), some (.ref a1)] [] w r := by
  refine g_aloadn (pc' := 1) d_42_0 rfl rfl ?_
  refine g_aloadn (pc' := 2) d_42_1 rfl rfl ?_
  obtain ⟨x1, hv2, h⟩ := h
  refine gz_getJ (pc' := 5) d_42_2 rfl st_42_19 hv2 ?_
  refine g_aloadn (pc' := 6) d_42_5 rfl rfl ?_
  obtain ⟨x3, hv4, h⟩ := h
  refine gz_getJ (pc' := 9) d_42_6 rfl st_42_22 hv4 ?_
  refine g_aloadn (pc' := 10) d_42_9 rfl rfl ?_
  obtain ⟨x5, hv6, h⟩ := h
  refine gz_getJ (pc' := 13) d_42_10 rfl st_42_7 hv6 ?_
  obtain ⟨hc7, h⟩ := h
  obtain ⟨w8, hk9, hC10, h⟩ := h
  refine gz_callV (pc' := 16) d_42_13 rfl st_42_31 na_16 ml_16 rfl rfl rfl rm_42_16 rfl rfl ow_16 hc7 hk9 ?_
  exact g_vret d_42_16 rt_42 h
theorem Z_42 {a1 : Nat} {w : xW} {r : Option Value × xW} (hC : CS w) (h : ∃ x1, fJ w 3 2 1 x1 ∧ ∃ x3, fJ w 3 2 2 x3 ∧ ∃ x5, fJ w 3 2 0 x5 ∧ isO w a1 5 ∧ ∃ w8, xCall 16 [.ref a1, .long (jL x1), .long (jL x3), .long (jL x5)] w (none, w8) ∧ CS w8 ∧ r = (none, w8)) : xCall 42 [.ref 3, .ref a1] w r := E_42 (Z_42_0 hC h)
theorem Z_43_0 {q : Nat} {z1 : Int} {w : xW} {r : Option Value × xW} (hC : CS w) (hq : qIs q) (h : ∃ x1, fJ w q 5 0 x1 ∧ ∃ x3, fJ w q 5 1 x3 ∧ ∃ x5, fJ w q 5 2 x5 ∧ ∃ w7, xCall 16 [.ref q, .long (jL (z1 * x1)), .long (jL (z1 * x3)), .long (jL x5)] w (none, w7) ∧ CS w7 ∧ r = (none, w7)) : xGo 43 0 [some (.ref q), some (.long (jL z1)), none] [] w r := by
  refine g_aloadn (pc' := 1) d_43_0 rfl rfl ?_
  refine g_lloadn (pc' := 2) d_43_1 rfl rfl ?_
  refine g_aloadn (pc' := 3) d_43_2 rfl rfl ?_
  obtain ⟨x1, hv2, h⟩ := h
  refine gz_getJ (pc' := 6) d_43_3 rfl st_43_25 hv2 ?_
  refine gz_lmul (pc' := 7) d_43_6 rfl ?_
  refine g_lloadn (pc' := 8) d_43_7 rfl rfl ?_
  refine g_aloadn (pc' := 9) d_43_8 rfl rfl ?_
  obtain ⟨x3, hv4, h⟩ := h
  refine gz_getJ (pc' := 12) d_43_9 rfl st_43_28 hv4 ?_
  refine gz_lmul (pc' := 13) d_43_12 rfl ?_
  refine g_aloadn (pc' := 14) d_43_13 rfl rfl ?_
  obtain ⟨x5, hv6, h⟩ := h
  refine gz_getJ (pc' := 17) d_43_14 rfl st_43_7 hv6 ?_
  obtain ⟨w7, hk8, hC9, h⟩ := h
  refine gz_callV (pc' := 20) d_43_17 rfl st_43_31 na_16 ml_16 rfl rfl rfl rm_43_16 rfl rfl ow_16 (ko_q hq hC) hk8 ?_
  exact g_vret d_43_20 rt_43 h
theorem Z_43 {q : Nat} {z1 : Int} {w : xW} {r : Option Value × xW} (hC : CS w) (hq : qIs q) (h : ∃ x1, fJ w q 5 0 x1 ∧ ∃ x3, fJ w q 5 1 x3 ∧ ∃ x5, fJ w q 5 2 x5 ∧ ∃ w7, xCall 16 [.ref q, .long (jL (z1 * x1)), .long (jL (z1 * x3)), .long (jL x5)] w (none, w7) ∧ CS w7 ∧ r = (none, w7)) : xCall 43 [.ref q, .long (jL z1)] w r := E_43 (Z_43_0 hC hq h)
theorem Z_44_0 {q : Nat} {z1 : Int} {w : xW} {r : Option Value × xW} (hC : CS w) (hq : qIs q) (h : in64 z1 ∧ (z1 ≤ 0 → r = (none, w)) ∧ (0 < z1 → ∃ x2, fJ w q 5 0 x2 ∧ ∃ r7 w4, xCall 17 [.long (jL x2), .long (jL z1)] w (some (.long (jL r7)), w4) ∧ CS w4 ∧ ∃ x8, fJ w4 q 5 0 x8 ∧ ∃ r13 w10, xCall 19 [.long (jL x8), .long (jL z1)] w4 (some (.long (jL r13)), w10) ∧ CS w10 ∧ ∃ x14, fJ w10 q 5 2 x14 ∧ ∃ x16, fJ w10 q 5 1 x16 ∧ ∃ w18, xCall 16 [.ref q, .long (jL r13), .long (jL ((r7 * x14) + x16)), .long (jL (x14 * z1))] w10 (none, w18) ∧ CS w18 ∧ r = (none, w18))) : xGo 44 0 [some (.ref q), some (.long (jL z1)), none, none, none] [] w r := by
  refine g_lloadn (pc' := 1) d_44_0 rfl rfl ?_
  refine g_lconst (pc' := 2) (v := jL 0) d_44_1 rfl cl_0 ?_
  obtain ⟨hc1, h⟩ := h
  refine gz_lc_le (pc' := 6) (pm := 3) (pt := 44) d_44_2 rfl d_44_3 (by decide) rfl hc1 (s64 (z := 0)) (fun c => ?_) (fun c => ?_)
  · replace h := h.1 c
    exact g_vret d_44_44 rt_44 h
  · replace h := h.2 c
    refine g_aloadn (pc' := 7) d_44_6 rfl rfl ?_
    obtain ⟨x2, hv3, h⟩ := h
    refine gz_getJ (pc' := 10) d_44_7 rfl st_44_25 hv3 ?_
    refine g_lloadn (pc' := 11) d_44_10 rfl rfl ?_
    obtain ⟨r7, w4, hk5, hC6, h⟩ := h
    refine g_callS (pc' := 14) d_44_11 rfl st_44_13 (Or.inl rfl) na_17 ml_17 rfl rfl rfl rm_44_17 rfl rfl hk5 ?_
    refine g_lstoren (pc' := 15) (l' := [some (.ref q), some (.long (jL z1)), none, some (.long (jL r7)), none]) d_44_14 rfl ml_44 rfl rfl ?_
    refine g_aloadn (pc' := 16) d_44_15 rfl rfl ?_
    refine g_aloadn (pc' := 17) d_44_16 rfl rfl ?_
    obtain ⟨x8, hv9, h⟩ := h
    refine gz_getJ (pc' := 20) d_44_17 rfl st_44_25 hv9 ?_
    refine g_lloadn (pc' := 21) d_44_20 rfl rfl ?_
    obtain ⟨r13, w10, hk11, hC12, h⟩ := h
    refine g_callS (pc' := 24) d_44_21 rfl st_44_22 (Or.inl rfl) na_19 ml_19 rfl rfl rfl rm_44_19 rfl rfl hk11 ?_
    refine g_lloadn (pc' := 25) d_44_24 rfl rfl ?_
    refine g_aloadn (pc' := 26) d_44_25 rfl rfl ?_
    obtain ⟨x14, hv15, h⟩ := h
    refine gz_getJ (pc' := 29) d_44_26 rfl st_44_7 hv15 ?_
    refine gz_lmul (pc' := 30) d_44_29 rfl ?_
    refine g_aloadn (pc' := 31) d_44_30 rfl rfl ?_
    obtain ⟨x16, hv17, h⟩ := h
    refine gz_getJ (pc' := 34) d_44_31 rfl st_44_28 hv17 ?_
    refine gz_ladd (pc' := 35) d_44_34 rfl ?_
    refine g_aloadn (pc' := 36) d_44_35 rfl rfl ?_
    refine gz_getJ (pc' := 39) d_44_36 rfl st_44_7 hv15 ?_
    refine g_lloadn (pc' := 40) d_44_39 rfl rfl ?_
    refine gz_lmul (pc' := 41) d_44_40 rfl ?_
    obtain ⟨w18, hk19, hC20, h⟩ := h
    refine gz_callV (pc' := 44) d_44_41 rfl st_44_31 na_16 ml_16 rfl rfl rfl rm_44_16 rfl rfl ow_16 (ko_q hq hC12) hk19 ?_
    exact g_vret d_44_44 rt_44 h
theorem Z_44 {q : Nat} {z1 : Int} {w : xW} {r : Option Value × xW} (hC : CS w) (hq : qIs q) (h : in64 z1 ∧ (z1 ≤ 0 → r = (none, w)) ∧ (0 < z1 → ∃ x2, fJ w q 5 0 x2 ∧ ∃ r7 w4, xCall 17 [.long (jL x2), .long (jL z1)] w (some (.long (jL r7)), w4) ∧ CS w4 ∧ ∃ x8, fJ w4 q 5 0 x8 ∧ ∃ r13 w10, xCall 19 [.long (jL x8), .long (jL z1)] w4 (some (.long (jL r13)), w10) ∧ CS w10 ∧ ∃ x14, fJ w10 q 5 2 x14 ∧ ∃ x16, fJ w10 q 5 1 x16 ∧ ∃ w18, xCall 16 [.ref q, .long (jL r13), .long (jL ((r7 * x14) + x16)), .long (jL (x14 * z1))] w10 (none, w18) ∧ CS w18 ∧ r = (none, w18))) : xCall 44 [.ref q, .long (jL z1)] w r := E_44 (Z_44_0 hC hq h)
theorem Z_45_0 {z1 : Int} {w : xW} {r : Option Value × xW} (hC : CS w) (h : ∃ w1, xCall 12 [.ref 4, .int (jI z1)] w (none, w1) ∧ CS w1 ∧ xGo 45 10 [some (.ref 0), some (.int (jI z1)), some (.int (jI 0))] [] w1 r) : xGo 45 0 [some (.ref 0), some (.int (jI z1)), none] [] w r := by
  refine g_aloadn (pc' := 1) d_45_0 rfl rfl ?_
  refine gz_getR (pc' := 4) d_45_1 rfl st_45_28 (kr_0_2 hC) ?_
  refine g_iloadn (pc' := 5) d_45_4 rfl rfl ?_
  obtain ⟨w1, hk2, hC3, h⟩ := h
  refine gz_callV (pc' := 8) d_45_5 rfl st_45_106 na_12 ml_12 rfl rfl rfl rm_45_12 rfl rfl ow_12 (ko_4 hC) hk2 ?_
  refine g_iconst (pc' := 9) d_45_8 rfl rfl ?_
  refine g_istoren (pc' := 10) (l' := [some (.ref 0), some (.int (jI z1)), some (.int (jI 0))]) d_45_9 rfl ml_45 rfl rfl ?_
  exact h
theorem Z_45 {z1 : Int} {w : xW} {r : Option Value × xW} (hC : CS w) (h : ∃ w1, xCall 12 [.ref 4, .int (jI z1)] w (none, w1) ∧ CS w1 ∧ xGo 45 10 [some (.ref 0), some (.int (jI z1)), some (.int (jI 0))] [] w1 r) : xCall 45 [.ref 0, .int (jI z1)] w r := E_45 (Z_45_0 hC h)
theorem Z_45_10 {z1 : Int} {z2 : Int} {w : xW} {r : Option Value × xW} (hC : CS w) (h : in32 z2 ∧ in32 z1 ∧ (z1 ≤ z2 → ∃ w3, xCall 14 [.ref 4, .int (jI z1), .ref 36] w (none, w3) ∧ CS w3 ∧ r = (none, w3)) ∧ (z2 < z1 → ∃ w6, xCall 22 [.ref 4] w (none, w6) ∧ CS w6 ∧ xGo 45 10 [some (.ref 0), some (.int (jI z1)), some (.int (jI (z2 + 1)))] [] w6 r)) : xGo 45 10 [some (.ref 0), some (.int (jI z1)), some (.int (jI z2))] [] w r := by
  refine g_iloadn (pc' := 11) d_45_10 rfl rfl ?_
  refine g_iloadn (pc' := 12) d_45_11 rfl rfl ?_
  obtain ⟨hc1, h⟩ := h
  obtain ⟨hc2, h⟩ := h
  refine gz_ic_ge (pc' := 15) (pt := 28) d_45_12 (by decide) rfl hc1 hc2 (fun c => ?_) (fun c => ?_)
  · replace h := h.1 c
    refine g_aloadn (pc' := 29) d_45_28 rfl rfl ?_
    refine gz_getR (pc' := 32) d_45_29 rfl st_45_28 (kr_0_2 hC) ?_
    refine g_iloadn (pc' := 33) d_45_32 rfl rfl ?_
    refine g_aloadn (pc' := 34) d_45_33 rfl rfl ?_
    refine gz_getR (pc' := 37) d_45_34 rfl st_45_95 (kr_0_13 hC) ?_
    obtain ⟨w3, hk4, hC5, h⟩ := h
    refine gz_callV (pc' := 40) d_45_37 rfl st_45_110 na_14 ml_14 rfl rfl rfl rm_45_14 rfl rfl ow_14 (ko_4 hC) hk4 ?_
    exact g_vret d_45_40 rt_45 h
  · replace h := h.2 c
    refine g_aloadn (pc' := 16) d_45_15 rfl rfl ?_
    refine gz_getR (pc' := 19) d_45_16 rfl st_45_28 (kr_0_2 hC) ?_
    obtain ⟨w6, hk7, hC8, h⟩ := h
    refine gz_callV (pc' := 22) d_45_19 rfl st_45_117 na_22 ml_22 rfl rfl rfl rm_45_22 rfl rfl ow_22 (ko_4 hC) hk7 ?_
    refine gz_iinc (pc' := 25) (l' := [some (.ref 0), some (.int (jI z1)), some (.int (jI (z2 + 1)))]) d_45_22 rfl rfl ml_45 rfl rfl ?_
    refine g_goto (pt := 10) d_45_25 (by decide) ?_
    exact h
theorem Z_46_0 {z1 : Int} {w : xW} {r : Option Value × xW} (hC : CS w) (h : ∃ (P4 : Prop) (dP5 : Decidable P4) (w1 : xW), xCall 47 [.int (jI z1)] w (some (.int (bz P4)), w1) ∧ CS w1 ∧ (P4 → ∃ w6, xCall 37 [.ref 3, .long (jL 7420738134810)] w1 (none, w6) ∧ CS w6 ∧ ∃ r12 w9, xCall 48 [.ref 0, .int (jI z1)] w6 (some (.long (jL r12)), w9) ∧ CS w9 ∧ ∃ w13, xCall 41 [.ref 3, .long (jL 1), .long (jL r12), .long (jL 0), .long (jL 1)] w9 (none, w13) ∧ CS w13 ∧ ∃ w16, xCall 55 [.ref 0, .int (jI z1), .int (jI (-1))] w13 (none, w16) ∧ CS w16 ∧ ∃ w19, xCall 42 [.ref 3, .ref 36] w16 (none, w19) ∧ CS w19 ∧ r = (none, w19)) ∧ (¬ P4 → ∃ w22, xCall 35 [.ref 0, .int (jI z1)] w1 (none, w22) ∧ CS w22 ∧ r = (none, w22))) : xGo 46 0 [some (.ref 0), some (.int (jI z1))] [] w r := by
  refine g_iloadn (pc' := 1) d_46_0 rfl rfl ?_
  obtain ⟨P4, dP5, w1, hk2, hC3, h⟩ := h
  refine g_callS (pc' := 4) d_46_1 rfl st_46_190 (Or.inl rfl) na_47 ml_47 rfl rfl rfl rm_46_47 rfl rfl hk2 ?_
  refine gz_bt_ne (pc' := 7) (pt := 13) d_46_4 (by decide) rfl (fun c => ?_) (fun c => ?_)
  · replace h := h.1 c
    refine g_aloadn (pc' := 14) d_46_13 rfl rfl ?_
    refine gz_getR (pc' := 17) d_46_14 rfl st_46_21 (kr_0_1 hC3) ?_
    refine g_ldc2 (pc' := 20) d_46_17 rfl st_46_193 rfl ?_
    obtain ⟨w6, hk7, hC8, h⟩ := h
    refine gz_callV (pc' := 23) d_46_20 rfl st_46_195 na_37 ml_37 rfl rfl rfl rm_46_37 rfl rfl ow_37 (ko_3 hC3) hk7 ?_
    refine g_aloadn (pc' := 24) d_46_23 rfl rfl ?_
    refine gz_getR (pc' := 27) d_46_24 rfl st_46_21 (kr_0_1 hC8) ?_
    refine g_lconst (pc' := 28) (v := jL 1) d_46_27 rfl cl_1 ?_
    refine g_aloadn (pc' := 29) d_46_28 rfl rfl ?_
    refine g_iloadn (pc' := 30) d_46_29 rfl rfl ?_
    obtain ⟨r12, w9, hk10, hC11, h⟩ := h
    refine gz_callV (pc' := 33) d_46_30 rfl st_46_434 na_48 ml_48 rfl rfl rfl rm_46_48 rfl rfl ow_48 (ko_0 hC8) hk10 ?_
    refine g_lconst (pc' := 34) (v := jL 0) d_46_33 rfl cl_0 ?_
    refine g_lconst (pc' := 35) (v := jL 1) d_46_34 rfl cl_1 ?_
    obtain ⟨w13, hk14, hC15, h⟩ := h
    refine gz_callV (pc' := 38) d_46_35 rfl st_46_207 na_41 ml_41 rfl rfl rfl rm_46_41 rfl rfl ow_41 (ko_3 hC11) hk14 ?_
    refine g_aloadn (pc' := 39) d_46_38 rfl rfl ?_
    refine g_iloadn (pc' := 40) d_46_39 rfl rfl ?_
    refine g_iconst (pc' := 41) d_46_40 rfl rfl ?_
    obtain ⟨w16, hk17, hC18, h⟩ := h
    refine gz_callV (pc' := 44) d_46_41 rfl st_46_211 na_55 ml_55 rfl rfl rfl rm_46_55 rfl rfl ow_55 (ko_0 hC15) hk17 ?_
    refine g_aloadn (pc' := 45) d_46_44 rfl rfl ?_
    refine gz_getR (pc' := 48) d_46_45 rfl st_46_21 (kr_0_1 hC18) ?_
    refine g_aloadn (pc' := 49) d_46_48 rfl rfl ?_
    refine gz_getR (pc' := 52) d_46_49 rfl st_46_95 (kr_0_13 hC18) ?_
    obtain ⟨w19, hk20, hC21, h⟩ := h
    refine gz_callV (pc' := 55) d_46_52 rfl st_46_214 na_42 ml_42 rfl rfl rfl rm_46_42 rfl rfl ow_42 (ko_3 hC18) hk20 ?_
    exact g_vret d_46_55 rt_46 h
  · replace h := h.2 c
    refine g_aloadn (pc' := 8) d_46_7 rfl rfl ?_
    refine g_iloadn (pc' := 9) d_46_8 rfl rfl ?_
    obtain ⟨w22, hk23, hC24, h⟩ := h
    refine gz_callV (pc' := 12) d_46_9 rfl st_46_431 na_35 ml_35 rfl rfl rfl rm_46_35 rfl rfl ow_35 (ko_0 hC3) hk23 ?_
    exact g_vret d_46_12 rt_46 h
theorem Z_46 {z1 : Int} {w : xW} {r : Option Value × xW} (hC : CS w) (h : ∃ (P4 : Prop) (dP5 : Decidable P4) (w1 : xW), xCall 47 [.int (jI z1)] w (some (.int (bz P4)), w1) ∧ CS w1 ∧ (P4 → ∃ w6, xCall 37 [.ref 3, .long (jL 7420738134810)] w1 (none, w6) ∧ CS w6 ∧ ∃ r12 w9, xCall 48 [.ref 0, .int (jI z1)] w6 (some (.long (jL r12)), w9) ∧ CS w9 ∧ ∃ w13, xCall 41 [.ref 3, .long (jL 1), .long (jL r12), .long (jL 0), .long (jL 1)] w9 (none, w13) ∧ CS w13 ∧ ∃ w16, xCall 55 [.ref 0, .int (jI z1), .int (jI (-1))] w13 (none, w16) ∧ CS w16 ∧ ∃ w19, xCall 42 [.ref 3, .ref 36] w16 (none, w19) ∧ CS w19 ∧ r = (none, w19)) ∧ (¬ P4 → ∃ w22, xCall 35 [.ref 0, .int (jI z1)] w1 (none, w22) ∧ CS w22 ∧ r = (none, w22))) : xCall 46 [.ref 0, .int (jI z1)] w r := E_46 (Z_46_0 hC h)
theorem Z_47_0 {z0 : Int} {w : xW} {r : Option Value × xW} (hC : CS w) (h : in32 z0 ∧ (z0 < 2 → r = (some (.int (jI 0)), w)) ∧ (2 ≤ z0 → ∃ y2, Int.tmod z0 2 = y2 ∧ in32 y2 ∧ (y2 ≠ 0 → r = (some (.int (jI 0)), w)) ∧ (y2 = 0 → r = (some (.int (jI 1)), w)))) : xGo 47 0 [some (.int (jI z0))] [] w r := by
  refine g_iloadn (pc' := 1) d_47_0 rfl rfl ?_
  refine g_iconst (pc' := 2) d_47_1 rfl rfl ?_
  obtain ⟨hc1, h⟩ := h
  refine gz_ic_lt (pc' := 5) (pt := 15) d_47_2 (by decide) rfl hc1 (s32 (z := 2)) (fun c => ?_) (fun c => ?_)
  · replace h := h.1 c
    refine g_iconst (pc' := 16) d_47_15 rfl rfl ?_
    exact g_zret d_47_16 rt_47 (Or.inl rfl) h
  · replace h := h.2 c
    refine g_iloadn (pc' := 6) d_47_5 rfl rfl ?_
    refine g_iconst (pc' := 7) d_47_6 rfl rfl ?_
    obtain ⟨y2, hz3, h⟩ := h
    refine gz_irem (pc' := 8) d_47_7 rfl hc1 (s32 (z := 2)) (by decide) hz3 ?_
    obtain ⟨hc4, h⟩ := h
    refine gz_if_ne (pc' := 11) (pt := 15) d_47_8 (by decide) rfl hc4 (fun c => ?_) (fun c => ?_)
    · replace h := h.1 c
      refine g_iconst (pc' := 16) d_47_15 rfl rfl ?_
      exact g_zret d_47_16 rt_47 (Or.inl rfl) h
    · replace h := h.2 c
      refine g_iconst (pc' := 12) d_47_11 rfl rfl ?_
      refine g_goto (pt := 16) d_47_12 (by decide) ?_
      exact g_zret d_47_16 rt_47 (Or.inr rfl) h
theorem Z_47 {z0 : Int} {w : xW} {r : Option Value × xW} (hC : CS w) (h : in32 z0 ∧ (z0 < 2 → r = (some (.int (jI 0)), w)) ∧ (2 ≤ z0 → ∃ y2, Int.tmod z0 2 = y2 ∧ in32 y2 ∧ (y2 ≠ 0 → r = (some (.int (jI 0)), w)) ∧ (y2 = 0 → r = (some (.int (jI 1)), w)))) : xCall 47 [.int (jI z0)] w r := E_47 (Z_47_0 hC h)
theorem Z_48_0 {z1 : Int} {w : xW} {r : Option Value × xW} (hC : CS w) (h : xGo 48 9 [some (.ref 0), some (.int (jI z1)), some (.long (jL 0)), none, some (.long (jL 1)), none, some (.int (jI 12)), none, none, none, none, none] [] w r) : xGo 48 0 [some (.ref 0), some (.int (jI z1)), none, none, none, none, none, none, none, none, none, none] [] w r := by
  refine g_lconst (pc' := 1) (v := jL 0) d_48_0 rfl cl_0 ?_
  refine g_lstoren (pc' := 2) (l' := [some (.ref 0), some (.int (jI z1)), some (.long (jL 0)), none, none, none, none, none, none, none, none, none]) d_48_1 rfl ml_48 rfl rfl ?_
  refine g_lconst (pc' := 3) (v := jL 1) d_48_2 rfl cl_1 ?_
  refine g_lstore (pc' := 5) (l' := [some (.ref 0), some (.int (jI z1)), some (.long (jL 0)), none, some (.long (jL 1)), none, none, none, none, none, none, none]) d_48_3 rfl ml_48 rfl rfl ?_
  refine g_bipush (pc' := 7) (v := jI 12) d_48_5 rfl (by decide) ?_
  refine g_istore (pc' := 9) (l' := [some (.ref 0), some (.int (jI z1)), some (.long (jL 0)), none, some (.long (jL 1)), none, some (.int (jI 12)), none, none, none, none, none]) d_48_7 rfl ml_48 rfl rfl ?_
  exact h
theorem Z_48 {z1 : Int} {w : xW} {r : Option Value × xW} (hC : CS w) (h : xGo 48 9 [some (.ref 0), some (.int (jI z1)), some (.long (jL 0)), none, some (.long (jL 1)), none, some (.int (jI 12)), none, none, none, none, none] [] w r) : xCall 48 [.ref 0, .int (jI z1)] w r := E_48 (Z_48_0 hC h)
theorem Z_48_9 {z1 : Int} {z2 : Int} {z4 : Int} {z6 : Int} {w : xW} {r : Option Value × xW} (hC : CS w) (h : in32 z6 ∧ (21 ≤ z6 → in64 z4 ∧ ∃ y3, Int.tdiv z4 2 = y3 ∧ in64 z2 ∧ in64 y3 ∧ (z2 ≤ y3 → r = (some (.long (jL z2)), w)) ∧ (y3 < z2 → r = (some (.long (jL (z2 - z4))), w))) ∧ (z6 < 21 → (46 ≤ z6 → in64 z4 ∧ ∃ y8, Int.tdiv z4 2 = y8 ∧ in64 z2 ∧ in64 y8 ∧ (z2 ≤ y8 → r = (some (.long (jL z2)), w)) ∧ (y8 < z2 → r = (some (.long (jL (z2 - z4))), w))) ∧ (z6 < 46 → (0 ≤ z6 ∧ z6 < 46) ∧ ∃ r16 w13, xCall 49 [.int (jI z1), .int (jI (prZ (z6).toNat)), .long (jL ((prZ (z6).toNat) * (prZ (z6).toNat)))] w (some (.long (jL r16)), w13) ∧ CS w13 ∧ in64 r16 ∧ prZ (z6).toNat ≠ 0 ∧ ∃ y19, Int.tdiv r16 (prZ (z6).toNat) = y19 ∧ ∃ r24 w21, xCall 51 [.int (jI z1), .int (jI (prZ (z6).toNat))] w13 (some (.long (jL r24)), w21) ∧ CS w21 ∧ ∃ r28 w25, xCall 54 [.long (jL ((y19 + r24) - z2)), .long (jL (prZ (z6).toNat))] w21 (some (.long (jL r28)), w25) ∧ CS w25 ∧ ∃ r32 w29, xCall 53 [.long (jL z4), .long (jL (prZ (z6).toNat))] w25 (some (.long (jL r32)), w29) ∧ CS w29 ∧ in64 (r28 * r32) ∧ prZ (z6).toNat ≠ 0 ∧ ∃ y35, Int.tmod (r28 * r32) (prZ (z6).toNat) = y35 ∧ xGo 48 9 [some (.ref 0), some (.int (jI z1)), some (.long (jL (z2 + (z4 * y35)))), none, some (.long (jL (z4 * (prZ (z6).toNat)))), none, some (.int (jI (z6 + 1))), none, none, none, none, none] [] w29 r))) : xGo 48 9 [some (.ref 0), some (.int (jI z1)), some (.long (jL z2)), none, some (.long (jL z4)), none, some (.int (jI z6)), none, none, none, none, none] [] w r := by
  refine g_iload (pc' := 11) d_48_9 rfl rfl ?_
  refine g_bipush (pc' := 13) (v := jI 21) d_48_11 rfl (by decide) ?_
  obtain ⟨hc1, h⟩ := h
  refine gz_ic_ge (pc' := 16) (pt := 106) d_48_13 (by decide) rfl hc1 (s32 (z := 21)) (fun c => ?_) (fun c => ?_)
  · replace h := h.1 c
    refine g_lloadn (pc' := 107) d_48_106 rfl rfl ?_
    refine g_lload (pc' := 109) d_48_107 rfl rfl ?_
    refine g_ldc2 (pc' := 112) d_48_109 rfl st_48_389 rfl ?_
    obtain ⟨hc2, h⟩ := h
    obtain ⟨y3, hz4, h⟩ := h
    refine gz_ldiv (pc' := 113) d_48_112 rfl hc2 (s64 (z := 2)) (by decide) hz4 ?_
    obtain ⟨hc5, h⟩ := h
    obtain ⟨hc6, h⟩ := h
    refine gz_lc_le (pc' := 117) (pm := 114) (pt := 124) d_48_113 rfl d_48_114 (by decide) rfl hc5 hc6 (fun c => ?_) (fun c => ?_)
    · replace h := h.1 c
      refine g_lloadn (pc' := 125) d_48_124 rfl rfl ?_
      exact g_lret d_48_125 rt_48 h
    · replace h := h.2 c
      refine g_lloadn (pc' := 118) d_48_117 rfl rfl ?_
      refine g_lload (pc' := 120) d_48_118 rfl rfl ?_
      refine gz_lsub (pc' := 121) d_48_120 rfl ?_
      refine g_goto (pt := 125) d_48_121 (by decide) ?_
      exact g_lret d_48_125 rt_48 h
  · replace h := h.2 c
    refine g_iload (pc' := 18) d_48_16 rfl rfl ?_
    refine g_gets (pc' := 21) d_48_18 rfl st_48_184 (Or.inl rfl) ?_
    refine g_lenp (pc' := 22) d_48_21 rfl hC.noP ?_
    refine gz_ic_ge (pc' := 25) (pt := 106) d_48_22 (by decide) rfl hc1 (s32 (z := 46)) (fun c => ?_) (fun c => ?_)
    · replace h := h.1 c
      refine g_lloadn (pc' := 107) d_48_106 rfl rfl ?_
      refine g_lload (pc' := 109) d_48_107 rfl rfl ?_
      refine g_ldc2 (pc' := 112) d_48_109 rfl st_48_389 rfl ?_
      obtain ⟨hc7, h⟩ := h
      obtain ⟨y8, hz9, h⟩ := h
      refine gz_ldiv (pc' := 113) d_48_112 rfl hc7 (s64 (z := 2)) (by decide) hz9 ?_
      obtain ⟨hc10, h⟩ := h
      obtain ⟨hc11, h⟩ := h
      refine gz_lc_le (pc' := 117) (pm := 114) (pt := 124) d_48_113 rfl d_48_114 (by decide) rfl hc10 hc11 (fun c => ?_) (fun c => ?_)
      · replace h := h.1 c
        refine g_lloadn (pc' := 125) d_48_124 rfl rfl ?_
        exact g_lret d_48_125 rt_48 h
      · replace h := h.2 c
        refine g_lloadn (pc' := 118) d_48_117 rfl rfl ?_
        refine g_lload (pc' := 120) d_48_118 rfl rfl ?_
        refine gz_lsub (pc' := 121) d_48_120 rfl ?_
        refine g_goto (pt := 125) d_48_121 (by decide) ?_
        exact g_lret d_48_125 rt_48 h
    · replace h := h.2 c
      refine g_gets (pc' := 28) d_48_25 rfl st_48_184 (Or.inl rfl) ?_
      refine g_iload (pc' := 30) d_48_28 rfl rfl ?_
      obtain ⟨hc12, h⟩ := h
      refine gz_pald (pc' := 31) d_48_30 rfl hC.noP hc12 ?_
      refine g_istore (pc' := 33) (l' := [some (.ref 0), some (.int (jI z1)), some (.long (jL z2)), none, some (.long (jL z4)), none, some (.int (jI z6)), some (.int (jI (prZ (z6).toNat))), none, none, none, none]) d_48_31 rfl ml_48 rfl rfl ?_
      refine g_iloadn (pc' := 34) d_48_33 rfl rfl ?_
      refine g_iload (pc' := 36) d_48_34 rfl rfl ?_
      refine g_iload (pc' := 38) d_48_36 rfl rfl ?_
      refine gz_i2l (pc' := 39) d_48_38 rfl (prZ_in _) ?_
      refine g_iload (pc' := 41) d_48_39 rfl rfl ?_
      refine gz_i2l (pc' := 42) d_48_41 rfl (prZ_in _) ?_
      refine gz_lmul (pc' := 43) d_48_42 rfl ?_
      obtain ⟨r16, w13, hk14, hC15, h⟩ := h
      refine g_callS (pc' := 46) d_48_43 rfl st_48_437 (Or.inl rfl) na_49 ml_49 rfl rfl rfl rm_48_49 rfl rfl hk14 ?_
      refine g_iload (pc' := 48) d_48_46 rfl rfl ?_
      refine gz_i2l (pc' := 49) d_48_48 rfl (prZ_in _) ?_
      obtain ⟨hc17, h⟩ := h
      obtain ⟨hc18, h⟩ := h
      obtain ⟨y19, hz20, h⟩ := h
      refine gz_ldiv (pc' := 50) d_48_49 rfl hc17 (in3264 (prZ_in _)) hc18 hz20 ?_
      refine g_iloadn (pc' := 51) d_48_50 rfl rfl ?_
      refine g_iload (pc' := 53) d_48_51 rfl rfl ?_
      obtain ⟨r24, w21, hk22, hC23, h⟩ := h
      refine g_callS (pc' := 56) d_48_53 rfl st_48_441 (Or.inl rfl) na_51 ml_51 rfl rfl rfl rm_48_51 rfl rfl hk22 ?_
      refine gz_ladd (pc' := 57) d_48_56 rfl ?_
      refine g_lstore (pc' := 59) (l' := [some (.ref 0), some (.int (jI z1)), some (.long (jL z2)), none, some (.long (jL z4)), none, some (.int (jI z6)), some (.int (jI (prZ (z6).toNat))), some (.long (jL (y19 + r24))), none, none, none]) d_48_57 rfl ml_48 rfl rfl ?_
      refine g_lload (pc' := 61) d_48_59 rfl rfl ?_
      refine g_lloadn (pc' := 62) d_48_61 rfl rfl ?_
      refine gz_lsub (pc' := 63) d_48_62 rfl ?_
      refine g_iload (pc' := 65) d_48_63 rfl rfl ?_
      refine gz_i2l (pc' := 66) d_48_65 rfl (prZ_in _) ?_
      obtain ⟨r28, w25, hk26, hC27, h⟩ := h
      refine g_callS (pc' := 69) d_48_66 rfl st_48_306 (Or.inl rfl) na_54 ml_54 rfl rfl rfl rm_48_54 rfl rfl hk26 ?_
      refine g_lstore (pc' := 71) (l' := [some (.ref 0), some (.int (jI z1)), some (.long (jL z2)), none, some (.long (jL z4)), none, some (.int (jI z6)), some (.int (jI (prZ (z6).toNat))), some (.long (jL (y19 + r24))), none, some (.long (jL r28)), none]) d_48_69 rfl ml_48 rfl rfl ?_
      refine g_lloadn (pc' := 72) d_48_71 rfl rfl ?_
      refine g_lload (pc' := 74) d_48_72 rfl rfl ?_
      refine g_lload (pc' := 76) d_48_74 rfl rfl ?_
      refine g_lload (pc' := 78) d_48_76 rfl rfl ?_
      refine g_iload (pc' := 80) d_48_78 rfl rfl ?_
      refine gz_i2l (pc' := 81) d_48_80 rfl (prZ_in _) ?_
      obtain ⟨r32, w29, hk30, hC31, h⟩ := h
      refine g_callS (pc' := 84) d_48_81 rfl st_48_316 (Or.inl rfl) na_53 ml_53 rfl rfl rfl rm_48_53 rfl rfl hk30 ?_
      refine gz_lmul (pc' := 85) d_48_84 rfl ?_
      refine g_iload (pc' := 87) d_48_85 rfl rfl ?_
      refine gz_i2l (pc' := 88) d_48_87 rfl (prZ_in _) ?_
      obtain ⟨hc33, h⟩ := h
      obtain ⟨hc34, h⟩ := h
      obtain ⟨y35, hz36, h⟩ := h
      refine gz_lrem (pc' := 89) d_48_88 rfl hc33 (in3264 (prZ_in _)) hc34 hz36 ?_
      refine gz_lmul (pc' := 90) d_48_89 rfl ?_
      refine gz_ladd (pc' := 91) d_48_90 rfl ?_
      refine g_lstoren (pc' := 92) (l' := [some (.ref 0), some (.int (jI z1)), some (.long (jL (z2 + (z4 * y35)))), none, some (.long (jL z4)), none, some (.int (jI z6)), some (.int (jI (prZ (z6).toNat))), some (.long (jL (y19 + r24))), none, some (.long (jL r28)), none]) d_48_91 rfl ml_48 rfl rfl ?_
      refine g_lload (pc' := 94) d_48_92 rfl rfl ?_
      refine g_iload (pc' := 96) d_48_94 rfl rfl ?_
      refine gz_i2l (pc' := 97) d_48_96 rfl (prZ_in _) ?_
      refine gz_lmul (pc' := 98) d_48_97 rfl ?_
      refine g_lstore (pc' := 100) (l' := [some (.ref 0), some (.int (jI z1)), some (.long (jL (z2 + (z4 * y35)))), none, some (.long (jL (z4 * (prZ (z6).toNat)))), none, some (.int (jI z6)), some (.int (jI (prZ (z6).toNat))), some (.long (jL (y19 + r24))), none, some (.long (jL r28)), none]) d_48_98 rfl ml_48 rfl rfl ?_
      refine gz_iinc (pc' := 103) (l' := [some (.ref 0), some (.int (jI z1)), some (.long (jL (z2 + (z4 * y35)))), none, some (.long (jL (z4 * (prZ (z6).toNat)))), none, some (.int (jI (z6 + 1))), some (.int (jI (prZ (z6).toNat))), some (.long (jL (y19 + r24))), none, some (.long (jL r28)), none]) d_48_100 rfl rfl ml_48 rfl rfl ?_
      refine g_goto (pt := 9) d_48_103 (by decide) ?_
      exact xGo.more (xle_s (xle_s (xle_s (xle_n (xle_s (xle_n (xle_s (xle_n (xle_n (xle_n (xle_n (xle_n xle_0)))))))))))) h
theorem Z_49_0 {z0 : Int} {z1 : Int} {z2 : Int} {w : xW} {r : Option Value × xW} (hC : CS w) (h : in64 z2 ∧ (0 < z2 → xGo 49 14 [some (.int (jI z0)), some (.int (jI z1)), some (.long (jL z2)), none, some (.long (jL 0)), none, some (.int (jI 1))] [] w r) ∧ (z2 ≤ 0 → r = (some (.long (jL 0)), w))) : xGo 49 0 [some (.int (jI z0)), some (.int (jI z1)), some (.long (jL z2)), none, none, none, none] [] w r := by
  refine g_lloadn (pc' := 1) d_49_0 rfl rfl ?_
  refine g_lconst (pc' := 2) (v := jL 0) d_49_1 rfl cl_0 ?_
  obtain ⟨hc1, h⟩ := h
  refine gz_lc_gt (pc' := 6) (pm := 3) (pt := 8) d_49_2 rfl d_49_3 (by decide) rfl hc1 (s64 (z := 0)) (fun c => ?_) (fun c => ?_)
  · replace h := h.1 c
    refine g_lconst (pc' := 9) (v := jL 0) d_49_8 rfl cl_0 ?_
    refine g_lstore (pc' := 11) (l' := [some (.int (jI z0)), some (.int (jI z1)), some (.long (jL z2)), none, some (.long (jL 0)), none, none]) d_49_9 rfl ml_49 rfl rfl ?_
    refine g_iconst (pc' := 12) d_49_11 rfl rfl ?_
    refine g_istore (pc' := 14) (l' := [some (.int (jI z0)), some (.int (jI z1)), some (.long (jL z2)), none, some (.long (jL 0)), none, some (.int (jI 1))]) d_49_12 rfl ml_49 rfl rfl ?_
    exact h
  · replace h := h.2 c
    refine g_lconst (pc' := 7) (v := jL 0) d_49_6 rfl cl_0 ?_
    exact g_lret d_49_7 rt_49 h
theorem Z_49 {z0 : Int} {z1 : Int} {z2 : Int} {w : xW} {r : Option Value × xW} (hC : CS w) (h : in64 z2 ∧ (0 < z2 → xGo 49 14 [some (.int (jI z0)), some (.int (jI z1)), some (.long (jL z2)), none, some (.long (jL 0)), none, some (.int (jI 1))] [] w r) ∧ (z2 ≤ 0 → r = (some (.long (jL 0)), w))) : xCall 49 [.int (jI z0), .int (jI z1), .long (jL z2)] w r := E_49 (Z_49_0 hC h)
theorem Z_49_14 {z0 : Int} {z1 : Int} {z2 : Int} {z4 : Int} {z6 : Int} {w : xW} {r : Option Value × xW} (hC : CS w) (h : in32 z6 ∧ in32 z1 ∧ (z1 ≤ z6 → in64 z4 ∧ in64 z2 ∧ z2 ≠ 0 ∧ ∃ y6, Int.tmod z4 z2 = y6 ∧ r = (some (.long (jL y6)), w)) ∧ (z6 < z1 → ∃ r11 w8, xCall 50 [.long (jL z6), .int (jI z0), .long (jL z2)] w (some (.long (jL r11)), w8) ∧ CS w8 ∧ xGo 49 14 [some (.int (jI z0)), some (.int (jI z1)), some (.long (jL z2)), none, some (.long (jL (z4 + r11))), none, some (.int (jI (z6 + 1)))] [] w8 r)) : xGo 49 14 [some (.int (jI z0)), some (.int (jI z1)), some (.long (jL z2)), none, some (.long (jL z4)), none, some (.int (jI z6))] [] w r := by
  refine g_iload (pc' := 16) d_49_14 rfl rfl ?_
  refine g_iloadn (pc' := 17) d_49_16 rfl rfl ?_
  obtain ⟨hc1, h⟩ := h
  obtain ⟨hc2, h⟩ := h
  refine gz_ic_ge (pc' := 20) (pt := 39) d_49_17 (by decide) rfl hc1 hc2 (fun c => ?_) (fun c => ?_)
  · replace h := h.1 c
    refine g_lload (pc' := 41) d_49_39 rfl rfl ?_
    refine g_lloadn (pc' := 42) d_49_41 rfl rfl ?_
    obtain ⟨hc3, h⟩ := h
    obtain ⟨hc4, h⟩ := h
    obtain ⟨hc5, h⟩ := h
    obtain ⟨y6, hz7, h⟩ := h
    refine gz_lrem (pc' := 43) d_49_42 rfl hc3 hc4 hc5 hz7 ?_
    exact g_lret d_49_43 rt_49 h
  · replace h := h.2 c
    refine g_lload (pc' := 22) d_49_20 rfl rfl ?_
    refine g_iload (pc' := 24) d_49_22 rfl rfl ?_
    refine gz_i2l (pc' := 25) d_49_24 rfl hc1 ?_
    refine g_iloadn (pc' := 26) d_49_25 rfl rfl ?_
    refine g_lloadn (pc' := 27) d_49_26 rfl rfl ?_
    obtain ⟨r11, w8, hk9, hC10, h⟩ := h
    refine g_callS (pc' := 30) d_49_27 rfl st_49_13 (Or.inl rfl) na_50 ml_50 rfl rfl rfl rm_49_50 rfl rfl hk9 ?_
    refine gz_ladd (pc' := 31) d_49_30 rfl ?_
    refine g_lstore (pc' := 33) (l' := [some (.int (jI z0)), some (.int (jI z1)), some (.long (jL z2)), none, some (.long (jL (z4 + r11))), none, some (.int (jI z6))]) d_49_31 rfl ml_49 rfl rfl ?_
    refine gz_iinc (pc' := 36) (l' := [some (.int (jI z0)), some (.int (jI z1)), some (.long (jL z2)), none, some (.long (jL (z4 + r11))), none, some (.int (jI (z6 + 1)))]) d_49_33 rfl rfl ml_49 rfl rfl ?_
    refine g_goto (pt := 14) d_49_36 (by decide) ?_
    exact h
theorem Z_50_0 {z0 : Int} {z2 : Int} {z3 : Int} {w : xW} {r : Option Value × xW} (hC : CS w) (h : in64 z3 ∧ (0 < z3 → z3 ≠ 0 ∧ ∃ y3, Int.tmod 1 z3 = y3 ∧ ∃ r8 w5, xCall 17 [.long (jL z0), .long (jL z3)] w (some (.long (jL r8)), w5) ∧ CS w5 ∧ xGo 50 23 [some (.long (jL z0)), none, some (.int (jI z2)), some (.long (jL z3)), none, some (.long (jL y3)), none, some (.long (jL r8)), none, some (.int (jI 0))] [] w5 r) ∧ (z3 ≤ 0 → r = (some (.long (jL 0)), w))) : xGo 50 0 [some (.long (jL z0)), none, some (.int (jI z2)), some (.long (jL z3)), none, none, none, none, none, none] [] w r := by
  refine g_lloadn (pc' := 1) d_50_0 rfl rfl ?_
  refine g_lconst (pc' := 2) (v := jL 0) d_50_1 rfl cl_0 ?_
  obtain ⟨hc1, h⟩ := h
  refine gz_lc_gt (pc' := 6) (pm := 3) (pt := 8) d_50_2 rfl d_50_3 (by decide) rfl hc1 (s64 (z := 0)) (fun c => ?_) (fun c => ?_)
  · replace h := h.1 c
    refine g_lconst (pc' := 9) (v := jL 1) d_50_8 rfl cl_1 ?_
    refine g_lloadn (pc' := 10) d_50_9 rfl rfl ?_
    obtain ⟨hc2, h⟩ := h
    obtain ⟨y3, hz4, h⟩ := h
    refine gz_lrem (pc' := 11) d_50_10 rfl (s64 (z := 1)) hc1 hc2 hz4 ?_
    refine g_lstore (pc' := 13) (l' := [some (.long (jL z0)), none, some (.int (jI z2)), some (.long (jL z3)), none, some (.long (jL y3)), none, none, none, none]) d_50_11 rfl ml_50 rfl rfl ?_
    refine g_lloadn (pc' := 14) d_50_13 rfl rfl ?_
    refine g_lloadn (pc' := 15) d_50_14 rfl rfl ?_
    obtain ⟨r8, w5, hk6, hC7, h⟩ := h
    refine g_callS (pc' := 18) d_50_15 rfl st_50_7 (Or.inl rfl) na_17 ml_17 rfl rfl rfl rm_50_17 rfl rfl hk6 ?_
    refine g_lstore (pc' := 20) (l' := [some (.long (jL z0)), none, some (.int (jI z2)), some (.long (jL z3)), none, some (.long (jL y3)), none, some (.long (jL r8)), none, none]) d_50_18 rfl ml_50 rfl rfl ?_
    refine g_iconst (pc' := 21) d_50_20 rfl rfl ?_
    refine g_istore (pc' := 23) (l' := [some (.long (jL z0)), none, some (.int (jI z2)), some (.long (jL z3)), none, some (.long (jL y3)), none, some (.long (jL r8)), none, some (.int (jI 0))]) d_50_21 rfl ml_50 rfl rfl ?_
    exact h
  · replace h := h.2 c
    refine g_lconst (pc' := 7) (v := jL 0) d_50_6 rfl cl_0 ?_
    exact g_lret d_50_7 rt_50 h
theorem Z_50 {z0 : Int} {z2 : Int} {z3 : Int} {w : xW} {r : Option Value × xW} (hC : CS w) (h : in64 z3 ∧ (0 < z3 → z3 ≠ 0 ∧ ∃ y3, Int.tmod 1 z3 = y3 ∧ ∃ r8 w5, xCall 17 [.long (jL z0), .long (jL z3)] w (some (.long (jL r8)), w5) ∧ CS w5 ∧ xGo 50 23 [some (.long (jL z0)), none, some (.int (jI z2)), some (.long (jL z3)), none, some (.long (jL y3)), none, some (.long (jL r8)), none, some (.int (jI 0))] [] w5 r) ∧ (z3 ≤ 0 → r = (some (.long (jL 0)), w))) : xCall 50 [.long (jL z0), .int (jI z2), .long (jL z3)] w r := E_50 (Z_50_0 hC h)
theorem Z_50_23 {z0 : Int} {z2 : Int} {z3 : Int} {z5 : Int} {z7 : Int} {z9 : Int} {w : xW} {r : Option Value × xW} (hC : CS w) (h : in32 z9 ∧ (31 ≤ z9 → r = (some (.long (jL z5)), w)) ∧ (z9 < 31 → ∃ y2, jI z2 >>> (jI z9 &&& 31) = jI y2 ∧ in32 y2 ∧ (y2 ≤ 0 → r = (some (.long (jL z5)), w)) ∧ (0 < y2 → ∃ y5, jI z2 >>> (jI z9 &&& 31) = jI y5 ∧ ∃ y7, jI y5 &&& jI 1 = jI y7 ∧ in32 y7 ∧ (y7 ≠ 1 → in64 (z7 * z7) ∧ in64 z3 ∧ z3 ≠ 0 ∧ ∃ y13, Int.tmod (z7 * z7) z3 = y13 ∧ xGo 50 23 [some (.long (jL z0)), none, some (.int (jI z2)), some (.long (jL z3)), none, some (.long (jL z5)), none, some (.long (jL y13)), none, some (.int (jI (z9 + 1)))] [] w r) ∧ (y7 = 1 → in64 (z5 * z7) ∧ in64 z3 ∧ z3 ≠ 0 ∧ ∃ y18, Int.tmod (z5 * z7) z3 = y18 ∧ in64 (z7 * z7) ∧ z3 ≠ 0 ∧ ∃ y22, Int.tmod (z7 * z7) z3 = y22 ∧ xGo 50 23 [some (.long (jL z0)), none, some (.int (jI z2)), some (.long (jL z3)), none, some (.long (jL y18)), none, some (.long (jL y22)), none, some (.int (jI (z9 + 1)))] [] w r)))) : xGo 50 23 [some (.long (jL z0)), none, some (.int (jI z2)), some (.long (jL z3)), none, some (.long (jL z5)), none, some (.long (jL z7)), none, some (.int (jI z9))] [] w r := by
  refine g_iload (pc' := 25) d_50_23 rfl rfl ?_
  refine g_bipush (pc' := 27) (v := jI 31) d_50_25 rfl (by decide) ?_
  obtain ⟨hc1, h⟩ := h
  refine gz_ic_ge (pc' := 30) (pt := 71) d_50_27 (by decide) rfl hc1 (s32 (z := 31)) (fun c => ?_) (fun c => ?_)
  · replace h := h.1 c
    refine g_lload (pc' := 73) d_50_71 rfl rfl ?_
    exact g_lret d_50_73 rt_50 h
  · replace h := h.2 c
    refine g_iloadn (pc' := 31) d_50_30 rfl rfl ?_
    refine g_iload (pc' := 33) d_50_31 rfl rfl ?_
    obtain ⟨y2, hz3, h⟩ := h
    refine gz_ishr (pc' := 34) d_50_33 rfl hz3 ?_
    obtain ⟨hc4, h⟩ := h
    refine gz_if_le (pc' := 37) (pt := 71) d_50_34 (by decide) rfl hc4 (fun c => ?_) (fun c => ?_)
    · replace h := h.1 c
      refine g_lload (pc' := 73) d_50_71 rfl rfl ?_
      exact g_lret d_50_73 rt_50 h
    · replace h := h.2 c
      refine g_iloadn (pc' := 38) d_50_37 rfl rfl ?_
      refine g_iload (pc' := 40) d_50_38 rfl rfl ?_
      obtain ⟨y5, hz6, h⟩ := h
      refine gz_ishr (pc' := 41) d_50_40 rfl hz6 ?_
      refine g_iconst (pc' := 42) d_50_41 rfl rfl ?_
      obtain ⟨y7, hz8, h⟩ := h
      refine gz_iand (pc' := 43) d_50_42 rfl hz8 ?_
      refine g_iconst (pc' := 44) d_50_43 rfl rfl ?_
      obtain ⟨hc9, h⟩ := h
      refine gz_ic_ne (pc' := 47) (pt := 56) d_50_44 (by decide) rfl hc9 (s32 (z := 1)) (fun c => ?_) (fun c => ?_)
      · replace h := h.1 c
        refine g_lload (pc' := 58) d_50_56 rfl rfl ?_
        refine g_lload (pc' := 60) d_50_58 rfl rfl ?_
        refine gz_lmul (pc' := 61) d_50_60 rfl ?_
        refine g_lloadn (pc' := 62) d_50_61 rfl rfl ?_
        obtain ⟨hc10, h⟩ := h
        obtain ⟨hc11, h⟩ := h
        obtain ⟨hc12, h⟩ := h
        obtain ⟨y13, hz14, h⟩ := h
        refine gz_lrem (pc' := 63) d_50_62 rfl hc10 hc11 hc12 hz14 ?_
        refine g_lstore (pc' := 65) (l' := [some (.long (jL z0)), none, some (.int (jI z2)), some (.long (jL z3)), none, some (.long (jL z5)), none, some (.long (jL y13)), none, some (.int (jI z9))]) d_50_63 rfl ml_50 rfl rfl ?_
        refine gz_iinc (pc' := 68) (l' := [some (.long (jL z0)), none, some (.int (jI z2)), some (.long (jL z3)), none, some (.long (jL z5)), none, some (.long (jL y13)), none, some (.int (jI (z9 + 1)))]) d_50_65 rfl rfl ml_50 rfl rfl ?_
        refine g_goto (pt := 23) d_50_68 (by decide) ?_
        exact h
      · replace h := h.2 c
        refine g_lload (pc' := 49) d_50_47 rfl rfl ?_
        refine g_lload (pc' := 51) d_50_49 rfl rfl ?_
        refine gz_lmul (pc' := 52) d_50_51 rfl ?_
        refine g_lloadn (pc' := 53) d_50_52 rfl rfl ?_
        obtain ⟨hc15, h⟩ := h
        obtain ⟨hc16, h⟩ := h
        obtain ⟨hc17, h⟩ := h
        obtain ⟨y18, hz19, h⟩ := h
        refine gz_lrem (pc' := 54) d_50_53 rfl hc15 hc16 hc17 hz19 ?_
        refine g_lstore (pc' := 56) (l' := [some (.long (jL z0)), none, some (.int (jI z2)), some (.long (jL z3)), none, some (.long (jL y18)), none, some (.long (jL z7)), none, some (.int (jI z9))]) d_50_54 rfl ml_50 rfl rfl ?_
        refine g_lload (pc' := 58) d_50_56 rfl rfl ?_
        refine g_lload (pc' := 60) d_50_58 rfl rfl ?_
        refine gz_lmul (pc' := 61) d_50_60 rfl ?_
        refine g_lloadn (pc' := 62) d_50_61 rfl rfl ?_
        obtain ⟨hc20, h⟩ := h
        obtain ⟨hc21, h⟩ := h
        obtain ⟨y22, hz23, h⟩ := h
        refine gz_lrem (pc' := 63) d_50_62 rfl hc20 hc16 hc21 hz23 ?_
        refine g_lstore (pc' := 65) (l' := [some (.long (jL z0)), none, some (.int (jI z2)), some (.long (jL z3)), none, some (.long (jL y18)), none, some (.long (jL y22)), none, some (.int (jI z9))]) d_50_63 rfl ml_50 rfl rfl ?_
        refine gz_iinc (pc' := 68) (l' := [some (.long (jL z0)), none, some (.int (jI z2)), some (.long (jL z3)), none, some (.long (jL y18)), none, some (.long (jL y22)), none, some (.int (jI (z9 + 1)))]) d_50_65 rfl rfl ml_50 rfl rfl ?_
        refine g_goto (pt := 23) d_50_68 (by decide) ?_
        exact h
theorem Z_51_0 {z0 : Int} {z1 : Int} {w : xW} {r : Option Value × xW} (hC : CS w) (h : xGo 51 15 [some (.int (jI z0)), some (.int (jI z1)), some (.long (jL 0)), none, some (.ref xP), some (.int (jI 46)), some (.int (jI 0)), none] [] w r) : xGo 51 0 [some (.int (jI z0)), some (.int (jI z1)), none, none, none, none, none, none] [] w r := by
  refine g_lconst (pc' := 1) (v := jL 0) d_51_0 rfl cl_0 ?_
  refine g_lstoren (pc' := 2) (l' := [some (.int (jI z0)), some (.int (jI z1)), some (.long (jL 0)), none, none, none, none, none]) d_51_1 rfl ml_51 rfl rfl ?_
  refine g_gets (pc' := 5) d_51_2 rfl st_51_184 (Or.inl rfl) ?_
  refine g_astore (pc' := 7) (l' := [some (.int (jI z0)), some (.int (jI z1)), some (.long (jL 0)), none, some (.ref xP), none, none, none]) d_51_5 rfl ml_51 rfl rfl ?_
  refine g_aload (pc' := 9) d_51_7 rfl rfl ?_
  refine g_lenp (pc' := 10) d_51_9 rfl hC.noP ?_
  refine g_istore (pc' := 12) (l' := [some (.int (jI z0)), some (.int (jI z1)), some (.long (jL 0)), none, some (.ref xP), some (.int (jI 46)), none, none]) d_51_10 rfl ml_51 rfl rfl ?_
  refine g_iconst (pc' := 13) d_51_12 rfl rfl ?_
  refine g_istore (pc' := 15) (l' := [some (.int (jI z0)), some (.int (jI z1)), some (.long (jL 0)), none, some (.ref xP), some (.int (jI 46)), some (.int (jI 0)), none]) d_51_13 rfl ml_51 rfl rfl ?_
  exact h
theorem Z_51 {z0 : Int} {z1 : Int} {w : xW} {r : Option Value × xW} (hC : CS w) (h : xGo 51 15 [some (.int (jI z0)), some (.int (jI z1)), some (.long (jL 0)), none, some (.ref xP), some (.int (jI 46)), some (.int (jI 0)), none] [] w r) : xCall 51 [.int (jI z0), .int (jI z1)] w r := E_51 (Z_51_0 hC h)
theorem Z_51_15 {z0 : Int} {z1 : Int} {z2 : Int} {z5 : Int} {z6 : Int} {w : xW} {r : Option Value × xW} (hC : CS w) (h : in32 z6 ∧ in32 z5 ∧ (z5 ≤ z6 → r = (some (.long (jL z2)), w)) ∧ (z6 < z5 → (0 ≤ z6 ∧ z6 < 46) ∧ ∃ (P7 : Prop) (dP8 : Decidable P7) (w4 : xW), xCall 52 [.int (jI (prZ (z6).toNat)), .int (jI z0)] w (some (.int (bz P7)), w4) ∧ CS w4 ∧ (¬ P7 → xGo 51 15 [some (.int (jI z0)), some (.int (jI z1)), some (.long (jL z2)), none, some (.ref xP), some (.int (jI z5)), some (.int (jI (z6 + 1))), none] [] w4 r) ∧ (P7 → in32 z1 ∧ ∃ r13 w10, xCall 53 [.long (jL (prZ (z6).toNat)), .long (jL z1)] w4 (some (.long (jL r13)), w10) ∧ CS w10 ∧ xGo 51 15 [some (.int (jI z0)), some (.int (jI z1)), some (.long (jL (z2 + r13))), none, some (.ref xP), some (.int (jI z5)), some (.int (jI (z6 + 1))), none] [] w10 r))) : xGo 51 15 [some (.int (jI z0)), some (.int (jI z1)), some (.long (jL z2)), none, some (.ref xP), some (.int (jI z5)), some (.int (jI z6)), none] [] w r := by
  refine g_iload (pc' := 17) d_51_15 rfl rfl ?_
  refine g_iload (pc' := 19) d_51_17 rfl rfl ?_
  obtain ⟨hc1, h⟩ := h
  obtain ⟨hc2, h⟩ := h
  refine gz_ic_ge (pc' := 22) (pt := 55) d_51_19 (by decide) rfl hc1 hc2 (fun c => ?_) (fun c => ?_)
  · replace h := h.1 c
    refine g_lloadn (pc' := 56) d_51_55 rfl rfl ?_
    exact g_lret d_51_56 rt_51 h
  · replace h := h.2 c
    refine g_aload (pc' := 24) d_51_22 rfl rfl ?_
    refine g_iload (pc' := 26) d_51_24 rfl rfl ?_
    obtain ⟨hc3, h⟩ := h
    refine gz_pald (pc' := 27) d_51_26 rfl hC.noP hc3 ?_
    refine g_istore (pc' := 29) (l' := [some (.int (jI z0)), some (.int (jI z1)), some (.long (jL z2)), none, some (.ref xP), some (.int (jI z5)), some (.int (jI z6)), some (.int (jI (prZ (z6).toNat)))]) d_51_27 rfl ml_51 rfl rfl ?_
    refine g_iload (pc' := 31) d_51_29 rfl rfl ?_
    refine g_iloadn (pc' := 32) d_51_31 rfl rfl ?_
    obtain ⟨P7, dP8, w4, hk5, hC6, h⟩ := h
    refine g_callS (pc' := 35) d_51_32 rfl st_51_187 (Or.inl rfl) na_52 ml_52 rfl rfl rfl rm_51_52 rfl rfl hk5 ?_
    refine gz_bt_eq (pc' := 38) (pt := 49) d_51_35 (by decide) rfl (fun c => ?_) (fun c => ?_)
    · replace h := h.1 c
      refine gz_iinc (pc' := 52) (l' := [some (.int (jI z0)), some (.int (jI z1)), some (.long (jL z2)), none, some (.ref xP), some (.int (jI z5)), some (.int (jI (z6 + 1))), some (.int (jI (prZ (z6).toNat)))]) d_51_49 rfl rfl ml_51 rfl rfl ?_
      refine g_goto (pt := 15) d_51_52 (by decide) ?_
      exact xGo.more (xle_s (xle_s (xle_s (xle_n (xle_s (xle_s (xle_s (xle_n xle_0)))))))) h
    · replace h := h.2 c
      refine g_lloadn (pc' := 39) d_51_38 rfl rfl ?_
      refine g_iload (pc' := 41) d_51_39 rfl rfl ?_
      refine gz_i2l (pc' := 42) d_51_41 rfl (prZ_in _) ?_
      refine g_iloadn (pc' := 43) d_51_42 rfl rfl ?_
      obtain ⟨hc9, h⟩ := h
      refine gz_i2l (pc' := 44) d_51_43 rfl hc9 ?_
      obtain ⟨r13, w10, hk11, hC12, h⟩ := h
      refine g_callS (pc' := 47) d_51_44 rfl st_51_316 (Or.inl rfl) na_53 ml_53 rfl rfl rfl rm_51_53 rfl rfl hk11 ?_
      refine gz_ladd (pc' := 48) d_51_47 rfl ?_
      refine g_lstoren (pc' := 49) (l' := [some (.int (jI z0)), some (.int (jI z1)), some (.long (jL (z2 + r13))), none, some (.ref xP), some (.int (jI z5)), some (.int (jI z6)), some (.int (jI (prZ (z6).toNat)))]) d_51_48 rfl ml_51 rfl rfl ?_
      refine gz_iinc (pc' := 52) (l' := [some (.int (jI z0)), some (.int (jI z1)), some (.long (jL (z2 + r13))), none, some (.ref xP), some (.int (jI z5)), some (.int (jI (z6 + 1))), some (.int (jI (prZ (z6).toNat)))]) d_51_49 rfl rfl ml_51 rfl rfl ?_
      refine g_goto (pt := 15) d_51_52 (by decide) ?_
      exact xGo.more (xle_s (xle_s (xle_s (xle_n (xle_s (xle_s (xle_s (xle_n xle_0)))))))) h
theorem Z_52_0 {z0 : Int} {z1 : Int} {w : xW} {r : Option Value × xW} (hC : CS w) (h : in32 z1 ∧ (z1 ≠ 1 → ∃ (P5 : Prop) (dP6 : Decidable P5) (w2 : xW), xCall 47 [.int (jI z1)] w (some (.int (bz P5)), w2) ∧ CS w2 ∧ (¬ P5 → r = (some (.int (jI 0)), w2)) ∧ (P5 → in32 z0 ∧ (z0 ≤ 1 → r = (some (.int (jI 0)), w2)) ∧ (1 < z0 → in32 (z0 - 1) ∧ z0 - 1 ≠ 0 ∧ ∃ y10, Int.tmod z1 (z0 - 1) = y10 ∧ in32 y10 ∧ (y10 ≠ 0 → r = (some (.int (jI 0)), w2)) ∧ (y10 = 0 → r = (some (.int (jI 1)), w2))))) ∧ (z1 = 1 → in32 z0 ∧ (z0 ≠ 2 → r = (some (.int (jI 0)), w)) ∧ (z0 = 2 → r = (some (.int (jI 1)), w)))) : xGo 52 0 [some (.int (jI z0)), some (.int (jI z1))] [] w r := by
  refine g_iloadn (pc' := 1) d_52_0 rfl rfl ?_
  refine g_iconst (pc' := 2) d_52_1 rfl rfl ?_
  obtain ⟨hc1, h⟩ := h
  refine gz_ic_ne (pc' := 5) (pt := 16) d_52_2 (by decide) rfl hc1 (s32 (z := 1)) (fun c => ?_) (fun c => ?_)
  · replace h := h.1 c
    refine g_iloadn (pc' := 17) d_52_16 rfl rfl ?_
    obtain ⟨P5, dP6, w2, hk3, hC4, h⟩ := h
    refine g_callS (pc' := 20) d_52_17 rfl st_52_190 (Or.inl rfl) na_47 ml_47 rfl rfl rfl rm_52_47 rfl rfl hk3 ?_
    refine gz_bt_eq (pc' := 23) (pt := 40) d_52_20 (by decide) rfl (fun c => ?_) (fun c => ?_)
    · replace h := h.1 c
      refine g_iconst (pc' := 41) d_52_40 rfl rfl ?_
      exact g_zret d_52_41 rt_52 (Or.inl rfl) h
    · replace h := h.2 c
      refine g_iloadn (pc' := 24) d_52_23 rfl rfl ?_
      refine g_iconst (pc' := 25) d_52_24 rfl rfl ?_
      obtain ⟨hc7, h⟩ := h
      refine gz_ic_le (pc' := 28) (pt := 40) d_52_25 (by decide) rfl hc7 (s32 (z := 1)) (fun c => ?_) (fun c => ?_)
      · replace h := h.1 c
        refine g_iconst (pc' := 41) d_52_40 rfl rfl ?_
        exact g_zret d_52_41 rt_52 (Or.inl rfl) h
      · replace h := h.2 c
        refine g_iloadn (pc' := 29) d_52_28 rfl rfl ?_
        refine g_iloadn (pc' := 30) d_52_29 rfl rfl ?_
        refine g_iconst (pc' := 31) d_52_30 rfl rfl ?_
        refine gz_isub (pc' := 32) d_52_31 rfl ?_
        obtain ⟨hc8, h⟩ := h
        obtain ⟨hc9, h⟩ := h
        obtain ⟨y10, hz11, h⟩ := h
        refine gz_irem (pc' := 33) d_52_32 rfl hc1 hc8 hc9 hz11 ?_
        obtain ⟨hc12, h⟩ := h
        refine gz_if_ne (pc' := 36) (pt := 40) d_52_33 (by decide) rfl hc12 (fun c => ?_) (fun c => ?_)
        · replace h := h.1 c
          refine g_iconst (pc' := 41) d_52_40 rfl rfl ?_
          exact g_zret d_52_41 rt_52 (Or.inl rfl) h
        · replace h := h.2 c
          refine g_iconst (pc' := 37) d_52_36 rfl rfl ?_
          refine g_goto (pt := 41) d_52_37 (by decide) ?_
          exact g_zret d_52_41 rt_52 (Or.inr rfl) h
  · replace h := h.2 c
    refine g_iloadn (pc' := 6) d_52_5 rfl rfl ?_
    refine g_iconst (pc' := 7) d_52_6 rfl rfl ?_
    obtain ⟨hc13, h⟩ := h
    refine gz_ic_ne (pc' := 10) (pt := 14) d_52_7 (by decide) rfl hc13 (s32 (z := 2)) (fun c => ?_) (fun c => ?_)
    · replace h := h.1 c
      refine g_iconst (pc' := 15) d_52_14 rfl rfl ?_
      exact g_zret d_52_15 rt_52 (Or.inl rfl) h
    · replace h := h.2 c
      refine g_iconst (pc' := 11) d_52_10 rfl rfl ?_
      refine g_goto (pt := 15) d_52_11 (by decide) ?_
      exact g_zret d_52_15 rt_52 (Or.inr rfl) h
theorem Z_52 {z0 : Int} {z1 : Int} {w : xW} {r : Option Value × xW} (hC : CS w) (h : in32 z1 ∧ (z1 ≠ 1 → ∃ (P5 : Prop) (dP6 : Decidable P5) (w2 : xW), xCall 47 [.int (jI z1)] w (some (.int (bz P5)), w2) ∧ CS w2 ∧ (¬ P5 → r = (some (.int (jI 0)), w2)) ∧ (P5 → in32 z0 ∧ (z0 ≤ 1 → r = (some (.int (jI 0)), w2)) ∧ (1 < z0 → in32 (z0 - 1) ∧ z0 - 1 ≠ 0 ∧ ∃ y10, Int.tmod z1 (z0 - 1) = y10 ∧ in32 y10 ∧ (y10 ≠ 0 → r = (some (.int (jI 0)), w2)) ∧ (y10 = 0 → r = (some (.int (jI 1)), w2))))) ∧ (z1 = 1 → in32 z0 ∧ (z0 ≠ 2 → r = (some (.int (jI 0)), w)) ∧ (z0 = 2 → r = (some (.int (jI 1)), w)))) : xCall 52 [.int (jI z0), .int (jI z1)] w r := E_52 (Z_52_0 hC h)
theorem Z_53_0 {z0 : Int} {z2 : Int} {w : xW} {r : Option Value × xW} (hC : CS w) (h : in64 z2 ∧ (0 < z2 → ∃ r5 w2, xCall 17 [.long (jL z0), .long (jL z2)] w (some (.long (jL r5)), w2) ∧ CS w2 ∧ xGo 53 27 [some (.long (jL z0)), none, some (.long (jL z2)), none, some (.long (jL z2)), none, some (.long (jL r5)), none, some (.long (jL 0)), none, some (.long (jL 1)), none, some (.int (jI 0)), none, none, none, none, none, none] [] w2 r) ∧ (z2 ≤ 0 → r = (some (.long (jL 0)), w))) : xGo 53 0 [some (.long (jL z0)), none, some (.long (jL z2)), none, none, none, none, none, none, none, none, none, none, none, none, none, none, none, none] [] w r := by
  refine g_lloadn (pc' := 1) d_53_0 rfl rfl ?_
  refine g_lconst (pc' := 2) (v := jL 0) d_53_1 rfl cl_0 ?_
  obtain ⟨hc1, h⟩ := h
  refine gz_lc_gt (pc' := 6) (pm := 3) (pt := 8) d_53_2 rfl d_53_3 (by decide) rfl hc1 (s64 (z := 0)) (fun c => ?_) (fun c => ?_)
  · replace h := h.1 c
    refine g_lloadn (pc' := 9) d_53_8 rfl rfl ?_
    refine g_lstore (pc' := 11) (l' := [some (.long (jL z0)), none, some (.long (jL z2)), none, some (.long (jL z2)), none, none, none, none, none, none, none, none, none, none, none, none, none, none]) d_53_9 rfl ml_53 rfl rfl ?_
    refine g_lloadn (pc' := 12) d_53_11 rfl rfl ?_
    refine g_lloadn (pc' := 13) d_53_12 rfl rfl ?_
    obtain ⟨r5, w2, hk3, hC4, h⟩ := h
    refine g_callS (pc' := 16) d_53_13 rfl st_53_7 (Or.inl rfl) na_17 ml_17 rfl rfl rfl rm_53_17 rfl rfl hk3 ?_
    refine g_lstore (pc' := 18) (l' := [some (.long (jL z0)), none, some (.long (jL z2)), none, some (.long (jL z2)), none, some (.long (jL r5)), none, none, none, none, none, none, none, none, none, none, none, none]) d_53_16 rfl ml_53 rfl rfl ?_
    refine g_lconst (pc' := 19) (v := jL 0) d_53_18 rfl cl_0 ?_
    refine g_lstore (pc' := 21) (l' := [some (.long (jL z0)), none, some (.long (jL z2)), none, some (.long (jL z2)), none, some (.long (jL r5)), none, some (.long (jL 0)), none, none, none, none, none, none, none, none, none, none]) d_53_19 rfl ml_53 rfl rfl ?_
    refine g_lconst (pc' := 22) (v := jL 1) d_53_21 rfl cl_1 ?_
    refine g_lstore (pc' := 24) (l' := [some (.long (jL z0)), none, some (.long (jL z2)), none, some (.long (jL z2)), none, some (.long (jL r5)), none, some (.long (jL 0)), none, some (.long (jL 1)), none, none, none, none, none, none, none, none]) d_53_22 rfl ml_53 rfl rfl ?_
    refine g_iconst (pc' := 25) d_53_24 rfl rfl ?_
    refine g_istore (pc' := 27) (l' := [some (.long (jL z0)), none, some (.long (jL z2)), none, some (.long (jL z2)), none, some (.long (jL r5)), none, some (.long (jL 0)), none, some (.long (jL 1)), none, some (.int (jI 0)), none, none, none, none, none, none]) d_53_25 rfl ml_53 rfl rfl ?_
    exact h
  · replace h := h.2 c
    refine g_lconst (pc' := 7) (v := jL 0) d_53_6 rfl cl_0 ?_
    exact g_lret d_53_7 rt_53 h
theorem Z_53 {z0 : Int} {z2 : Int} {w : xW} {r : Option Value × xW} (hC : CS w) (h : in64 z2 ∧ (0 < z2 → ∃ r5 w2, xCall 17 [.long (jL z0), .long (jL z2)] w (some (.long (jL r5)), w2) ∧ CS w2 ∧ xGo 53 27 [some (.long (jL z0)), none, some (.long (jL z2)), none, some (.long (jL z2)), none, some (.long (jL r5)), none, some (.long (jL 0)), none, some (.long (jL 1)), none, some (.int (jI 0)), none, none, none, none, none, none] [] w2 r) ∧ (z2 ≤ 0 → r = (some (.long (jL 0)), w))) : xCall 53 [.long (jL z0), .long (jL z2)] w r := E_53 (Z_53_0 hC h)
theorem Z_53_27 {z0 : Int} {z2 : Int} {z4 : Int} {z6 : Int} {z8 : Int} {z10 : Int} {z12 : Int} {w : xW} {r : Option Value × xW} (hC : CS w) (h : in32 z12 ∧ (100 ≤ z12 → ∃ r5 w2, xCall 17 [.long (jL z8), .long (jL z2)] w (some (.long (jL r5)), w2) ∧ CS w2 ∧ r = (some (.long (jL r5)), w2)) ∧ (z12 < 100 → in64 z6 ∧ (z6 ≤ 0 → ∃ r10 w7, xCall 17 [.long (jL z8), .long (jL z2)] w (some (.long (jL r10)), w7) ∧ CS w7 ∧ r = (some (.long (jL r10)), w7)) ∧ (0 < z6 → in64 z4 ∧ z6 ≠ 0 ∧ ∃ y13, Int.tdiv z4 z6 = y13 ∧ xGo 53 27 [some (.long (jL z0)), none, some (.long (jL z2)), none, some (.long (jL z6)), none, some (.long (jL (z4 - (y13 * z6)))), none, some (.long (jL z10)), none, some (.long (jL (z8 - (y13 * z10)))), none, some (.int (jI (z12 + 1))), none, none, none, none, none, none] [] w r))) : xGo 53 27 [some (.long (jL z0)), none, some (.long (jL z2)), none, some (.long (jL z4)), none, some (.long (jL z6)), none, some (.long (jL z8)), none, some (.long (jL z10)), none, some (.int (jI z12)), none, none, none, none, none, none] [] w r := by
  refine g_iload (pc' := 29) d_53_27 rfl rfl ?_
  refine g_bipush (pc' := 31) (v := jI 100) d_53_29 rfl (by decide) ?_
  obtain ⟨hc1, h⟩ := h
  refine gz_ic_ge (pc' := 34) (pt := 90) d_53_31 (by decide) rfl hc1 (s32 (z := 100)) (fun c => ?_) (fun c => ?_)
  · replace h := h.1 c
    refine g_lload (pc' := 92) d_53_90 rfl rfl ?_
    refine g_lloadn (pc' := 93) d_53_92 rfl rfl ?_
    obtain ⟨r5, w2, hk3, hC4, h⟩ := h
    refine g_callS (pc' := 96) d_53_93 rfl st_53_7 (Or.inl rfl) na_17 ml_17 rfl rfl rfl rm_53_17 rfl rfl hk3 ?_
    exact g_lret d_53_96 rt_53 h
  · replace h := h.2 c
    refine g_lload (pc' := 36) d_53_34 rfl rfl ?_
    refine g_lconst (pc' := 37) (v := jL 0) d_53_36 rfl cl_0 ?_
    obtain ⟨hc6, h⟩ := h
    refine gz_lc_le (pc' := 41) (pm := 38) (pt := 90) d_53_37 rfl d_53_38 (by decide) rfl hc6 (s64 (z := 0)) (fun c => ?_) (fun c => ?_)
    · replace h := h.1 c
      refine g_lload (pc' := 92) d_53_90 rfl rfl ?_
      refine g_lloadn (pc' := 93) d_53_92 rfl rfl ?_
      obtain ⟨r10, w7, hk8, hC9, h⟩ := h
      refine g_callS (pc' := 96) d_53_93 rfl st_53_7 (Or.inl rfl) na_17 ml_17 rfl rfl rfl rm_53_17 rfl rfl hk8 ?_
      exact g_lret d_53_96 rt_53 h
    · replace h := h.2 c
      refine g_lload (pc' := 43) d_53_41 rfl rfl ?_
      refine g_lload (pc' := 45) d_53_43 rfl rfl ?_
      obtain ⟨hc11, h⟩ := h
      obtain ⟨hc12, h⟩ := h
      obtain ⟨y13, hz14, h⟩ := h
      refine gz_ldiv (pc' := 46) d_53_45 rfl hc11 hc6 hc12 hz14 ?_
      refine g_lstore (pc' := 48) (l' := [some (.long (jL z0)), none, some (.long (jL z2)), none, some (.long (jL z4)), none, some (.long (jL z6)), none, some (.long (jL z8)), none, some (.long (jL z10)), none, some (.int (jI z12)), some (.long (jL y13)), none, none, none, none, none]) d_53_46 rfl ml_53 rfl rfl ?_
      refine g_lload (pc' := 50) d_53_48 rfl rfl ?_
      refine g_lload (pc' := 52) d_53_50 rfl rfl ?_
      refine g_lload (pc' := 54) d_53_52 rfl rfl ?_
      refine gz_lmul (pc' := 55) d_53_54 rfl ?_
      refine gz_lsub (pc' := 56) d_53_55 rfl ?_
      refine g_lstore (pc' := 58) (l' := [some (.long (jL z0)), none, some (.long (jL z2)), none, some (.long (jL z4)), none, some (.long (jL z6)), none, some (.long (jL z8)), none, some (.long (jL z10)), none, some (.int (jI z12)), some (.long (jL y13)), none, some (.long (jL (z4 - (y13 * z6)))), none, none, none]) d_53_56 rfl ml_53 rfl rfl ?_
      refine g_lload (pc' := 60) d_53_58 rfl rfl ?_
      refine g_lload (pc' := 62) d_53_60 rfl rfl ?_
      refine g_lload (pc' := 64) d_53_62 rfl rfl ?_
      refine gz_lmul (pc' := 65) d_53_64 rfl ?_
      refine gz_lsub (pc' := 66) d_53_65 rfl ?_
      refine g_lstore (pc' := 68) (l' := [some (.long (jL z0)), none, some (.long (jL z2)), none, some (.long (jL z4)), none, some (.long (jL z6)), none, some (.long (jL z8)), none, some (.long (jL z10)), none, some (.int (jI z12)), some (.long (jL y13)), none, some (.long (jL (z4 - (y13 * z6)))), none, some (.long (jL (z8 - (y13 * z10)))), none]) d_53_66 rfl ml_53 rfl rfl ?_
      refine g_lload (pc' := 70) d_53_68 rfl rfl ?_
      refine g_lstore (pc' := 72) (l' := [some (.long (jL z0)), none, some (.long (jL z2)), none, some (.long (jL z6)), none, some (.long (jL z6)), none, some (.long (jL z8)), none, some (.long (jL z10)), none, some (.int (jI z12)), some (.long (jL y13)), none, some (.long (jL (z4 - (y13 * z6)))), none, some (.long (jL (z8 - (y13 * z10)))), none]) d_53_70 rfl ml_53 rfl rfl ?_
      refine g_lload (pc' := 74) d_53_72 rfl rfl ?_
      refine g_lstore (pc' := 76) (l' := [some (.long (jL z0)), none, some (.long (jL z2)), none, some (.long (jL z6)), none, some (.long (jL (z4 - (y13 * z6)))), none, some (.long (jL z8)), none, some (.long (jL z10)), none, some (.int (jI z12)), some (.long (jL y13)), none, some (.long (jL (z4 - (y13 * z6)))), none, some (.long (jL (z8 - (y13 * z10)))), none]) d_53_74 rfl ml_53 rfl rfl ?_
      refine g_lload (pc' := 78) d_53_76 rfl rfl ?_
      refine g_lstore (pc' := 80) (l' := [some (.long (jL z0)), none, some (.long (jL z2)), none, some (.long (jL z6)), none, some (.long (jL (z4 - (y13 * z6)))), none, some (.long (jL z10)), none, some (.long (jL z10)), none, some (.int (jI z12)), some (.long (jL y13)), none, some (.long (jL (z4 - (y13 * z6)))), none, some (.long (jL (z8 - (y13 * z10)))), none]) d_53_78 rfl ml_53 rfl rfl ?_
      refine g_lload (pc' := 82) d_53_80 rfl rfl ?_
      refine g_lstore (pc' := 84) (l' := [some (.long (jL z0)), none, some (.long (jL z2)), none, some (.long (jL z6)), none, some (.long (jL (z4 - (y13 * z6)))), none, some (.long (jL z10)), none, some (.long (jL (z8 - (y13 * z10)))), none, some (.int (jI z12)), some (.long (jL y13)), none, some (.long (jL (z4 - (y13 * z6)))), none, some (.long (jL (z8 - (y13 * z10)))), none]) d_53_82 rfl ml_53 rfl rfl ?_
      refine gz_iinc (pc' := 87) (l' := [some (.long (jL z0)), none, some (.long (jL z2)), none, some (.long (jL z6)), none, some (.long (jL (z4 - (y13 * z6)))), none, some (.long (jL z10)), none, some (.long (jL (z8 - (y13 * z10)))), none, some (.int (jI (z12 + 1))), some (.long (jL y13)), none, some (.long (jL (z4 - (y13 * z6)))), none, some (.long (jL (z8 - (y13 * z10)))), none]) d_53_84 rfl rfl ml_53 rfl rfl ?_
      refine g_goto (pt := 27) d_53_87 (by decide) ?_
      exact xGo.more (xle_s (xle_n (xle_s (xle_n (xle_s (xle_n (xle_s (xle_n (xle_s (xle_n (xle_s (xle_n (xle_s (xle_n (xle_n (xle_n (xle_n (xle_n (xle_n xle_0))))))))))))))))))) h
theorem Z_54_0 {z0 : Int} {z2 : Int} {w : xW} {r : Option Value × xW} (hC : CS w) (h : in64 z2 ∧ (z2 ≤ 0 → r = (some (.long (jL 0)), w)) ∧ (0 < z2 → ∃ r5 w2, xCall 17 [.long (jL z0), .long (jL z2)] w (some (.long (jL r5)), w2) ∧ CS w2 ∧ r = (some (.long (jL r5)), w2))) : xGo 54 0 [some (.long (jL z0)), none, some (.long (jL z2)), none] [] w r := by
  refine g_lloadn (pc' := 1) d_54_0 rfl rfl ?_
  refine g_lconst (pc' := 2) (v := jL 0) d_54_1 rfl cl_0 ?_
  obtain ⟨hc1, h⟩ := h
  refine gz_lc_le (pc' := 6) (pm := 3) (pt := 14) d_54_2 rfl d_54_3 (by decide) rfl hc1 (s64 (z := 0)) (fun c => ?_) (fun c => ?_)
  · replace h := h.1 c
    refine g_lconst (pc' := 15) (v := jL 0) d_54_14 rfl cl_0 ?_
    exact g_lret d_54_15 rt_54 h
  · replace h := h.2 c
    refine g_lloadn (pc' := 7) d_54_6 rfl rfl ?_
    refine g_lloadn (pc' := 8) d_54_7 rfl rfl ?_
    obtain ⟨r5, w2, hk3, hC4, h⟩ := h
    refine g_callS (pc' := 11) d_54_8 rfl st_54_7 (Or.inl rfl) na_17 ml_17 rfl rfl rfl rm_54_17 rfl rfl hk3 ?_
    refine g_goto (pt := 15) d_54_11 (by decide) ?_
    exact g_lret d_54_15 rt_54 h
theorem Z_54 {z0 : Int} {z2 : Int} {w : xW} {r : Option Value × xW} (hC : CS w) (h : in64 z2 ∧ (z2 ≤ 0 → r = (some (.long (jL 0)), w)) ∧ (0 < z2 → ∃ r5 w2, xCall 17 [.long (jL z0), .long (jL z2)] w (some (.long (jL r5)), w2) ∧ CS w2 ∧ r = (some (.long (jL r5)), w2))) : xCall 54 [.long (jL z0), .long (jL z2)] w r := E_54 (Z_54_0 hC h)
theorem Z_55_0 {z1 : Int} {z2 : Int} {w : xW} {r : Option Value × xW} (hC : CS w) (h : xGo 55 11 [some (.ref 0), some (.int (jI z1)), some (.int (jI z2)), some (.ref xP), some (.int (jI 46)), some (.int (jI 0)), none] [] w r) : xGo 55 0 [some (.ref 0), some (.int (jI z1)), some (.int (jI z2)), none, none, none, none] [] w r := by
  refine g_gets (pc' := 3) d_55_0 rfl st_55_184 (Or.inl rfl) ?_
  refine g_astoren (pc' := 4) (l' := [some (.ref 0), some (.int (jI z1)), some (.int (jI z2)), some (.ref xP), none, none, none]) d_55_3 rfl ml_55 rfl rfl ?_
  refine g_aloadn (pc' := 5) d_55_4 rfl rfl ?_
  refine g_lenp (pc' := 6) d_55_5 rfl hC.noP ?_
  refine g_istore (pc' := 8) (l' := [some (.ref 0), some (.int (jI z1)), some (.int (jI z2)), some (.ref xP), some (.int (jI 46)), none, none]) d_55_6 rfl ml_55 rfl rfl ?_
  refine g_iconst (pc' := 9) d_55_8 rfl rfl ?_
  refine g_istore (pc' := 11) (l' := [some (.ref 0), some (.int (jI z1)), some (.int (jI z2)), some (.ref xP), some (.int (jI 46)), some (.int (jI 0)), none]) d_55_9 rfl ml_55 rfl rfl ?_
  exact h
theorem Z_55 {z1 : Int} {z2 : Int} {w : xW} {r : Option Value × xW} (hC : CS w) (h : xGo 55 11 [some (.ref 0), some (.int (jI z1)), some (.int (jI z2)), some (.ref xP), some (.int (jI 46)), some (.int (jI 0)), none] [] w r) : xCall 55 [.ref 0, .int (jI z1), .int (jI z2)] w r := E_55 (Z_55_0 hC h)
theorem Z_55_11 {z1 : Int} {z2 : Int} {z4 : Int} {z5 : Int} {w : xW} {r : Option Value × xW} (hC : CS w) (h : in32 z5 ∧ in32 z4 ∧ (z4 ≤ z5 → r = (none, w)) ∧ (z5 < z4 → (0 ≤ z5 ∧ z5 < 46) ∧ ∃ (P7 : Prop) (dP8 : Decidable P7) (w4 : xW), xCall 52 [.int (jI (prZ (z5).toNat)), .int (jI z1)] w (some (.int (bz P7)), w4) ∧ CS w4 ∧ (¬ P7 → xGo 55 11 [some (.ref 0), some (.int (jI z1)), some (.int (jI z2)), some (.ref xP), some (.int (jI z4)), some (.int (jI (z5 + 1))), none] [] w4 r) ∧ (P7 → in32 z2 ∧ ∃ w10, xCall 41 [.ref 3, .long (jL z2), .long (jL 0), .long (jL 1), .long (jL (prZ (z5).toNat))] w4 (none, w10) ∧ CS w10 ∧ xGo 55 11 [some (.ref 0), some (.int (jI z1)), some (.int (jI z2)), some (.ref xP), some (.int (jI z4)), some (.int (jI (z5 + 1))), none] [] w10 r))) : xGo 55 11 [some (.ref 0), some (.int (jI z1)), some (.int (jI z2)), some (.ref xP), some (.int (jI z4)), some (.int (jI z5)), none] [] w r := by
  refine g_iload (pc' := 13) d_55_11 rfl rfl ?_
  refine g_iload (pc' := 15) d_55_13 rfl rfl ?_
  obtain ⟨hc1, h⟩ := h
  obtain ⟨hc2, h⟩ := h
  refine gz_ic_ge (pc' := 18) (pt := 53) d_55_15 (by decide) rfl hc1 hc2 (fun c => ?_) (fun c => ?_)
  · replace h := h.1 c
    exact g_vret d_55_53 rt_55 h
  · replace h := h.2 c
    refine g_aloadn (pc' := 19) d_55_18 rfl rfl ?_
    refine g_iload (pc' := 21) d_55_19 rfl rfl ?_
    obtain ⟨hc3, h⟩ := h
    refine gz_pald (pc' := 22) d_55_21 rfl hC.noP hc3 ?_
    refine g_istore (pc' := 24) (l' := [some (.ref 0), some (.int (jI z1)), some (.int (jI z2)), some (.ref xP), some (.int (jI z4)), some (.int (jI z5)), some (.int (jI (prZ (z5).toNat)))]) d_55_22 rfl ml_55 rfl rfl ?_
    refine g_iload (pc' := 26) d_55_24 rfl rfl ?_
    refine g_iloadn (pc' := 27) d_55_26 rfl rfl ?_
    obtain ⟨P7, dP8, w4, hk5, hC6, h⟩ := h
    refine g_callS (pc' := 30) d_55_27 rfl st_55_187 (Or.inl rfl) na_52 ml_52 rfl rfl rfl rm_55_52 rfl rfl hk5 ?_
    refine gz_bt_eq (pc' := 33) (pt := 47) d_55_30 (by decide) rfl (fun c => ?_) (fun c => ?_)
    · replace h := h.1 c
      refine gz_iinc (pc' := 50) (l' := [some (.ref 0), some (.int (jI z1)), some (.int (jI z2)), some (.ref xP), some (.int (jI z4)), some (.int (jI (z5 + 1))), some (.int (jI (prZ (z5).toNat)))]) d_55_47 rfl rfl ml_55 rfl rfl ?_
      refine g_goto (pt := 11) d_55_50 (by decide) ?_
      exact xGo.more (xle_s (xle_s (xle_s (xle_s (xle_s (xle_s (xle_n xle_0))))))) h
    · replace h := h.2 c
      refine g_aloadn (pc' := 34) d_55_33 rfl rfl ?_
      refine gz_getR (pc' := 37) d_55_34 rfl st_55_21 (kr_0_1 hC6) ?_
      refine g_iloadn (pc' := 38) d_55_37 rfl rfl ?_
      obtain ⟨hc9, h⟩ := h
      refine gz_i2l (pc' := 39) d_55_38 rfl hc9 ?_
      refine g_lconst (pc' := 40) (v := jL 0) d_55_39 rfl cl_0 ?_
      refine g_lconst (pc' := 41) (v := jL 1) d_55_40 rfl cl_1 ?_
      refine g_iload (pc' := 43) d_55_41 rfl rfl ?_
      refine gz_i2l (pc' := 44) d_55_43 rfl (prZ_in _) ?_
      obtain ⟨w10, hk11, hC12, h⟩ := h
      refine gz_callV (pc' := 47) d_55_44 rfl st_55_207 na_41 ml_41 rfl rfl rfl rm_55_41 rfl rfl ow_41 (ko_3 hC6) hk11 ?_
      refine gz_iinc (pc' := 50) (l' := [some (.ref 0), some (.int (jI z1)), some (.int (jI z2)), some (.ref xP), some (.int (jI z4)), some (.int (jI (z5 + 1))), some (.int (jI (prZ (z5).toNat)))]) d_55_47 rfl rfl ml_55 rfl rfl ?_
      refine g_goto (pt := 11) d_55_50 (by decide) ?_
      exact xGo.more (xle_s (xle_s (xle_s (xle_s (xle_s (xle_s (xle_n xle_0))))))) h
theorem Z_56_0 {e : Nat} {z1 : Int} {a2 : Nat} {w : xW} {r : Option Value × xW} (hC : CS w) (he : eIs e) (h : ∃ r4 w1, xCall 29 [.ref e, .int (jI z1)] w (some (.long (jL r4)), w1) ∧ CS w1 ∧ ∃ x5, fJ w1 a2 5 0 x5 ∧ in64 r4 ∧ in64 x5 ∧ (r4 ≠ x5 → r = (some (.int (jI 0)), w1)) ∧ (r4 = x5 → ∃ r12 w9, xCall 30 [.ref e, .int (jI z1)] w1 (some (.long (jL r12)), w9) ∧ CS w9 ∧ ∃ x13, fJ w9 a2 5 1 x13 ∧ in64 r12 ∧ in64 x13 ∧ (r12 ≠ x13 → r = (some (.int (jI 0)), w9)) ∧ (r12 = x13 → ∃ r20 w17, xCall 31 [.ref e, .int (jI z1)] w9 (some (.long (jL r20)), w17) ∧ CS w17 ∧ ∃ x21, fJ w17 a2 5 2 x21 ∧ in64 r20 ∧ in64 x21 ∧ (r20 ≠ x21 → r = (some (.int (jI 0)), w17)) ∧ (r20 = x21 → r = (some (.int (jI 1)), w17))))) : xGo 56 0 [some (.ref e), some (.int (jI z1)), some (.ref a2)] [] w r := by
  refine g_aloadn (pc' := 1) d_56_0 rfl rfl ?_
  refine g_iloadn (pc' := 2) d_56_1 rfl rfl ?_
  obtain ⟨r4, w1, hk2, hC3, h⟩ := h
  refine gz_callV (pc' := 5) d_56_2 rfl st_56_38 na_29 ml_29 rfl rfl rfl rm_56_29 rfl rfl ow_29 (ko_e he hC) hk2 ?_
  refine g_aloadn (pc' := 6) d_56_5 rfl rfl ?_
  obtain ⟨x5, hv6, h⟩ := h
  refine gz_getJ (pc' := 9) d_56_6 rfl st_56_45 hv6 ?_
  obtain ⟨hc7, h⟩ := h
  obtain ⟨hc8, h⟩ := h
  refine gz_lc_ne (pc' := 13) (pm := 10) (pt := 43) d_56_9 rfl d_56_10 (by decide) rfl hc7 hc8 (fun c => ?_) (fun c => ?_)
  · replace h := h.1 c
    refine g_iconst (pc' := 44) d_56_43 rfl rfl ?_
    exact g_zret d_56_44 rt_56 (Or.inl rfl) h
  · replace h := h.2 c
    refine g_aloadn (pc' := 14) d_56_13 rfl rfl ?_
    refine g_iloadn (pc' := 15) d_56_14 rfl rfl ?_
    obtain ⟨r12, w9, hk10, hC11, h⟩ := h
    refine gz_callV (pc' := 18) d_56_15 rfl st_56_42 na_30 ml_30 rfl rfl rfl rm_56_30 rfl rfl ow_30 (ko_e he hC3) hk10 ?_
    refine g_aloadn (pc' := 19) d_56_18 rfl rfl ?_
    obtain ⟨x13, hv14, h⟩ := h
    refine gz_getJ (pc' := 22) d_56_19 rfl st_56_49 hv14 ?_
    obtain ⟨hc15, h⟩ := h
    obtain ⟨hc16, h⟩ := h
    refine gz_lc_ne (pc' := 26) (pm := 23) (pt := 43) d_56_22 rfl d_56_23 (by decide) rfl hc15 hc16 (fun c => ?_) (fun c => ?_)
    · replace h := h.1 c
      refine g_iconst (pc' := 44) d_56_43 rfl rfl ?_
      exact g_zret d_56_44 rt_56 (Or.inl rfl) h
    · replace h := h.2 c
      refine g_aloadn (pc' := 27) d_56_26 rfl rfl ?_
      refine g_iloadn (pc' := 28) d_56_27 rfl rfl ?_
      obtain ⟨r20, w17, hk18, hC19, h⟩ := h
      refine gz_callV (pc' := 31) d_56_28 rfl st_56_55 na_31 ml_31 rfl rfl rfl rm_56_31 rfl rfl ow_31 (ko_e he hC11) hk18 ?_
      refine g_aloadn (pc' := 32) d_56_31 rfl rfl ?_
      obtain ⟨x21, hv22, h⟩ := h
      refine gz_getJ (pc' := 35) d_56_32 rfl st_56_52 hv22 ?_
      obtain ⟨hc23, h⟩ := h
      obtain ⟨hc24, h⟩ := h
      refine gz_lc_ne (pc' := 39) (pm := 36) (pt := 43) d_56_35 rfl d_56_36 (by decide) rfl hc23 hc24 (fun c => ?_) (fun c => ?_)
      · replace h := h.1 c
        refine g_iconst (pc' := 44) d_56_43 rfl rfl ?_
        exact g_zret d_56_44 rt_56 (Or.inl rfl) h
      · replace h := h.2 c
        refine g_iconst (pc' := 40) d_56_39 rfl rfl ?_
        refine g_goto (pt := 44) d_56_40 (by decide) ?_
        exact g_zret d_56_44 rt_56 (Or.inr rfl) h
theorem Z_56 {e : Nat} {z1 : Int} {a2 : Nat} {w : xW} {r : Option Value × xW} (hC : CS w) (he : eIs e) (h : ∃ r4 w1, xCall 29 [.ref e, .int (jI z1)] w (some (.long (jL r4)), w1) ∧ CS w1 ∧ ∃ x5, fJ w1 a2 5 0 x5 ∧ in64 r4 ∧ in64 x5 ∧ (r4 ≠ x5 → r = (some (.int (jI 0)), w1)) ∧ (r4 = x5 → ∃ r12 w9, xCall 30 [.ref e, .int (jI z1)] w1 (some (.long (jL r12)), w9) ∧ CS w9 ∧ ∃ x13, fJ w9 a2 5 1 x13 ∧ in64 r12 ∧ in64 x13 ∧ (r12 ≠ x13 → r = (some (.int (jI 0)), w9)) ∧ (r12 = x13 → ∃ r20 w17, xCall 31 [.ref e, .int (jI z1)] w9 (some (.long (jL r20)), w17) ∧ CS w17 ∧ ∃ x21, fJ w17 a2 5 2 x21 ∧ in64 r20 ∧ in64 x21 ∧ (r20 ≠ x21 → r = (some (.int (jI 0)), w17)) ∧ (r20 = x21 → r = (some (.int (jI 1)), w17))))) : xCall 56 [.ref e, .int (jI z1), .ref a2] w r := E_56 (Z_56_0 hC he h)
theorem Z_57_0 {z1 : Int} {z2 : Int} {w : xW} {r : Option Value × xW} (hC : CS w) (h : in32 z1 ∧ (z1 < 0 → r = (none, w)) ∧ (0 ≤ z1 → (39 ≤ z1 → r = (none, w)) ∧ (z1 < 39 → (0 ≤ z1 ∧ z1 < 39) ∧ ∀ w4, w4 = pI w 22 (z1).toNat (jI z2) → CS w4 → r = (none, w4)))) : xGo 57 0 [some (.ref 0), some (.int (jI z1)), some (.int (jI z2))] [] w r := by
  refine g_iloadn (pc' := 1) d_57_0 rfl rfl ?_
  obtain ⟨hc1, h⟩ := h
  refine gz_if_lt (pc' := 4) (pt := 20) d_57_1 (by decide) rfl hc1 (fun c => ?_) (fun c => ?_)
  · replace h := h.1 c
    exact g_vret d_57_20 rt_57 h
  · replace h := h.2 c
    refine g_iloadn (pc' := 5) d_57_4 rfl rfl ?_
    refine g_aloadn (pc' := 6) d_57_5 rfl rfl ?_
    refine gz_getR (pc' := 9) d_57_6 rfl st_57_45 (kr_0_6 hC) ?_
    refine gz_leni (pc' := 10) (m := 39) d_57_9 rfl (kl_22 hC) rfl ?_
    refine gz_ic_ge (pc' := 13) (pt := 20) d_57_10 (by decide) rfl hc1 (s32 (z := 39)) (fun c => ?_) (fun c => ?_)
    · replace h := h.1 c
      exact g_vret d_57_20 rt_57 h
    · replace h := h.2 c
      refine g_aloadn (pc' := 14) d_57_13 rfl rfl ?_
      refine gz_getR (pc' := 17) d_57_14 rfl st_57_45 (kr_0_6 hC) ?_
      refine g_iloadn (pc' := 18) d_57_17 rfl rfl ?_
      refine g_iloadn (pc' := 19) d_57_18 rfl rfl ?_
      obtain ⟨hc2, h⟩ := h
      have hs3 := (kh_22 hC hc2)
      have hC5 : CS (pI w 22 (z1).toNat (jI z2)) := hC.putI
      have h := h _ rfl hC5
      refine gz_iast (pc' := 20) d_57_19 rfl hs3 ?_
      exact g_vret d_57_20 rt_57 h
theorem Z_57 {z1 : Int} {z2 : Int} {w : xW} {r : Option Value × xW} (hC : CS w) (h : in32 z1 ∧ (z1 < 0 → r = (none, w)) ∧ (0 ≤ z1 → (39 ≤ z1 → r = (none, w)) ∧ (z1 < 39 → (0 ≤ z1 ∧ z1 < 39) ∧ ∀ w4, w4 = pI w 22 (z1).toNat (jI z2) → CS w4 → r = (none, w4)))) : xCall 57 [.ref 0, .int (jI z1), .int (jI z2)] w r := E_57 (Z_57_0 hC h)
theorem Z_58_0 {z1 : Int} {z2 : Int} {w : xW} {r : Option Value × xW} (hC : CS w) (h : ∃ (P4 : Prop) (dP5 : Decidable P4) (w1 : xW), xCall 24 [.int (jI z1)] w (some (.int (bz P4)), w1) ∧ CS w1 ∧ (¬ P4 → r = (some (.int (jI (-1))), w1)) ∧ (P4 → ∃ (P9 : Prop) (dP10 : Decidable P9) (w6 : xW), xCall 25 [.int (jI z2)] w1 (some (.int (bz P9)), w6) ∧ CS w6 ∧ (P9 → ∃ x11, fI w6 0 0 7 x11 ∧ in32 z1 ∧ in32 x11 ∧ (z1 ≤ x11 → in32 z2 ∧ (z2 ≠ 0 → ∃ (P19 : Prop) (dP20 : Decidable P19) (w16 : xW), xCall 32 [.ref 0, .int (jI z1), .int (jI z2)] w6 (some (.int (bz P19)), w16) ∧ CS w16 ∧ (¬ P19 → r = (some (.int (jI 0)), w16)) ∧ (P19 → r = (some (.int (jI 1)), w16))) ∧ (z2 = 0 → ∃ (P24 : Prop) (dP25 : Decidable P24) (w21 : xW), xCall 26 [.ref 0, .int (jI z1)] w6 (some (.int (bz P24)), w21) ∧ CS w21 ∧ (P24 → ∃ (P29 : Prop) (dP30 : Decidable P29) (w26 : xW), xCall 32 [.ref 0, .int (jI z1), .int (jI z2)] w21 (some (.int (bz P29)), w26) ∧ CS w26 ∧ (¬ P29 → r = (some (.int (jI 0)), w26)) ∧ (P29 → r = (some (.int (jI 1)), w26))) ∧ (¬ P24 → r = (some (.int (jI (-3))), w21)))) ∧ (x11 < z1 → r = (some (.int (jI (-2))), w6))) ∧ (¬ P9 → r = (some (.int (jI (-1))), w6)))) : xGo 58 0 [some (.ref 0), some (.int (jI z1)), some (.int (jI z2))] [] w r := by
  refine g_iloadn (pc' := 1) d_58_0 rfl rfl ?_
  obtain ⟨P4, dP5, w1, hk2, hC3, h⟩ := h
  refine g_callS (pc' := 4) d_58_1 rfl st_58_120 (Or.inl rfl) na_24 ml_24 rfl rfl rfl rm_58_24 rfl rfl hk2 ?_
  refine gz_bt_eq (pc' := 7) (pt := 14) d_58_4 (by decide) rfl (fun c => ?_) (fun c => ?_)
  · replace h := h.1 c
    refine g_iconst (pc' := 15) d_58_14 rfl rfl ?_
    exact g_iret d_58_15 rt_58 h
  · replace h := h.2 c
    refine g_iloadn (pc' := 8) d_58_7 rfl rfl ?_
    obtain ⟨P9, dP10, w6, hk7, hC8, h⟩ := h
    refine g_callS (pc' := 11) d_58_8 rfl st_58_124 (Or.inl rfl) na_25 ml_25 rfl rfl rfl rm_58_25 rfl rfl hk7 ?_
    refine gz_bt_ne (pc' := 14) (pt := 16) d_58_11 (by decide) rfl (fun c => ?_) (fun c => ?_)
    · replace h := h.1 c
      refine g_iloadn (pc' := 17) d_58_16 rfl rfl ?_
      refine g_aloadn (pc' := 18) d_58_17 rfl rfl ?_
      obtain ⟨x11, hv12, h⟩ := h
      refine gz_getI (pc' := 21) d_58_18 rfl st_58_49 hv12 ?_
      obtain ⟨hc13, h⟩ := h
      obtain ⟨hc14, h⟩ := h
      refine gz_ic_le (pc' := 24) (pt := 27) d_58_21 (by decide) rfl hc13 hc14 (fun c => ?_) (fun c => ?_)
      · replace h := h.1 c
        refine g_iloadn (pc' := 28) d_58_27 rfl rfl ?_
        obtain ⟨hc15, h⟩ := h
        refine gz_if_ne (pc' := 31) (pt := 42) d_58_28 (by decide) rfl hc15 (fun c => ?_) (fun c => ?_)
        · replace h := h.1 c
          refine g_aloadn (pc' := 43) d_58_42 rfl rfl ?_
          refine g_iloadn (pc' := 44) d_58_43 rfl rfl ?_
          refine g_iloadn (pc' := 45) d_58_44 rfl rfl ?_
          obtain ⟨P19, dP20, w16, hk17, hC18, h⟩ := h
          refine gz_callV (pc' := 48) d_58_45 rfl st_58_130 na_32 ml_32 rfl rfl rfl rm_58_32 rfl rfl ow_32 (ko_0 hC8) hk17 ?_
          refine gz_bt_eq (pc' := 51) (pt := 55) d_58_48 (by decide) rfl (fun c => ?_) (fun c => ?_)
          · replace h := h.1 c
            refine g_iconst (pc' := 56) d_58_55 rfl rfl ?_
            exact g_iret d_58_56 rt_58 h
          · replace h := h.2 c
            refine g_iconst (pc' := 52) d_58_51 rfl rfl ?_
            refine g_goto (pt := 56) d_58_52 (by decide) ?_
            exact g_iret d_58_56 rt_58 h
        · replace h := h.2 c
          refine g_aloadn (pc' := 32) d_58_31 rfl rfl ?_
          refine g_iloadn (pc' := 33) d_58_32 rfl rfl ?_
          obtain ⟨P24, dP25, w21, hk22, hC23, h⟩ := h
          refine gz_callV (pc' := 36) d_58_33 rfl st_58_127 na_26 ml_26 rfl rfl rfl rm_58_26 rfl rfl ow_26 (ko_0 hC8) hk22 ?_
          refine gz_bt_ne (pc' := 39) (pt := 42) d_58_36 (by decide) rfl (fun c => ?_) (fun c => ?_)
          · replace h := h.1 c
            refine g_aloadn (pc' := 43) d_58_42 rfl rfl ?_
            refine g_iloadn (pc' := 44) d_58_43 rfl rfl ?_
            refine g_iloadn (pc' := 45) d_58_44 rfl rfl ?_
            obtain ⟨P29, dP30, w26, hk27, hC28, h⟩ := h
            refine gz_callV (pc' := 48) d_58_45 rfl st_58_130 na_32 ml_32 rfl rfl rfl rm_58_32 rfl rfl ow_32 (ko_0 hC23) hk27 ?_
            refine gz_bt_eq (pc' := 51) (pt := 55) d_58_48 (by decide) rfl (fun c => ?_) (fun c => ?_)
            · replace h := h.1 c
              refine g_iconst (pc' := 56) d_58_55 rfl rfl ?_
              exact g_iret d_58_56 rt_58 h
            · replace h := h.2 c
              refine g_iconst (pc' := 52) d_58_51 rfl rfl ?_
              refine g_goto (pt := 56) d_58_52 (by decide) ?_
              exact g_iret d_58_56 rt_58 h
          · replace h := h.2 c
            refine g_bipush (pc' := 41) (v := jI (-3)) d_58_39 rfl (by decide) ?_
            exact g_iret d_58_41 rt_58 h
      · replace h := h.2 c
        refine g_bipush (pc' := 26) (v := jI (-2)) d_58_24 rfl (by decide) ?_
        exact g_iret d_58_26 rt_58 h
    · replace h := h.2 c
      refine g_iconst (pc' := 15) d_58_14 rfl rfl ?_
      exact g_iret d_58_15 rt_58 h
theorem Z_58 {z1 : Int} {z2 : Int} {w : xW} {r : Option Value × xW} (hC : CS w) (h : ∃ (P4 : Prop) (dP5 : Decidable P4) (w1 : xW), xCall 24 [.int (jI z1)] w (some (.int (bz P4)), w1) ∧ CS w1 ∧ (¬ P4 → r = (some (.int (jI (-1))), w1)) ∧ (P4 → ∃ (P9 : Prop) (dP10 : Decidable P9) (w6 : xW), xCall 25 [.int (jI z2)] w1 (some (.int (bz P9)), w6) ∧ CS w6 ∧ (P9 → ∃ x11, fI w6 0 0 7 x11 ∧ in32 z1 ∧ in32 x11 ∧ (z1 ≤ x11 → in32 z2 ∧ (z2 ≠ 0 → ∃ (P19 : Prop) (dP20 : Decidable P19) (w16 : xW), xCall 32 [.ref 0, .int (jI z1), .int (jI z2)] w6 (some (.int (bz P19)), w16) ∧ CS w16 ∧ (¬ P19 → r = (some (.int (jI 0)), w16)) ∧ (P19 → r = (some (.int (jI 1)), w16))) ∧ (z2 = 0 → ∃ (P24 : Prop) (dP25 : Decidable P24) (w21 : xW), xCall 26 [.ref 0, .int (jI z1)] w6 (some (.int (bz P24)), w21) ∧ CS w21 ∧ (P24 → ∃ (P29 : Prop) (dP30 : Decidable P29) (w26 : xW), xCall 32 [.ref 0, .int (jI z1), .int (jI z2)] w21 (some (.int (bz P29)), w26) ∧ CS w26 ∧ (¬ P29 → r = (some (.int (jI 0)), w26)) ∧ (P29 → r = (some (.int (jI 1)), w26))) ∧ (¬ P24 → r = (some (.int (jI (-3))), w21)))) ∧ (x11 < z1 → r = (some (.int (jI (-2))), w6))) ∧ (¬ P9 → r = (some (.int (jI (-1))), w6)))) : xCall 58 [.ref 0, .int (jI z1), .int (jI z2)] w r := E_58 (Z_58_0 hC h)
theorem Z_59_0 {z1 : Int} {z2 : Int} {w : xW} {r : Option Value × xW} (hC : CS w) (h : ∃ (P4 : Prop) (dP5 : Decidable P4) (w1 : xW), xCall 24 [.int (jI z1)] w (some (.int (bz P4)), w1) ∧ CS w1 ∧ (¬ P4 → r = (some (.int (jI (-1))), w1)) ∧ (P4 → in32 z2 ∧ (z2 = 0 → r = (some (.int (jI (-1))), w1)) ∧ (z2 ≠ 0 → (z2 < (-9) → r = (some (.int (jI (-1))), w1)) ∧ ((-9) ≤ z2 → (z2 ≤ 9 → ∃ x7, fI w1 0 0 7 x7 ∧ in32 z1 ∧ in32 x7 ∧ (z1 ≤ x7 → ∃ w11, xCall 60 [.ref 12, .int (jI z1), .long (jL z2)] w1 (none, w11) ∧ CS w11 ∧ ∃ w14, xCall 57 [.ref 0, .int (jI z1), .int (jI 3)] w11 (none, w14) ∧ CS w14 ∧ ∃ r20 w17, xCall 61 [.ref 23, .int (jI z1), .int (jI 63)] w14 (some (.int (jI r20)), w17) ∧ CS w17 ∧ r = (some (.int (jI r20)), w17)) ∧ (x7 < z1 → r = (some (.int (jI (-2))), w1))) ∧ (9 < z2 → r = (some (.int (jI (-1))), w1)))))) : xGo 59 0 [some (.ref 0), some (.int (jI z1)), some (.int (jI z2))] [] w r := by
  refine g_iloadn (pc' := 1) d_59_0 rfl rfl ?_
  obtain ⟨P4, dP5, w1, hk2, hC3, h⟩ := h
  refine g_callS (pc' := 4) d_59_1 rfl st_59_120 (Or.inl rfl) na_24 ml_24 rfl rfl rfl rm_59_24 rfl rfl hk2 ?_
  refine gz_bt_eq (pc' := 7) (pt := 23) d_59_4 (by decide) rfl (fun c => ?_) (fun c => ?_)
  · replace h := h.1 c
    refine g_iconst (pc' := 24) d_59_23 rfl rfl ?_
    exact g_iret d_59_24 rt_59 h
  · replace h := h.2 c
    refine g_iloadn (pc' := 8) d_59_7 rfl rfl ?_
    obtain ⟨hc6, h⟩ := h
    refine gz_if_eq (pc' := 11) (pt := 23) d_59_8 (by decide) rfl hc6 (fun c => ?_) (fun c => ?_)
    · replace h := h.1 c
      refine g_iconst (pc' := 24) d_59_23 rfl rfl ?_
      exact g_iret d_59_24 rt_59 h
    · replace h := h.2 c
      refine g_iloadn (pc' := 12) d_59_11 rfl rfl ?_
      refine g_bipush (pc' := 14) (v := jI (-9)) d_59_12 rfl (by decide) ?_
      refine gz_ic_lt (pc' := 17) (pt := 23) d_59_14 (by decide) rfl hc6 (s32 (z := (-9))) (fun c => ?_) (fun c => ?_)
      · replace h := h.1 c
        refine g_iconst (pc' := 24) d_59_23 rfl rfl ?_
        exact g_iret d_59_24 rt_59 h
      · replace h := h.2 c
        refine g_iloadn (pc' := 18) d_59_17 rfl rfl ?_
        refine g_bipush (pc' := 20) (v := jI 9) d_59_18 rfl (by decide) ?_
        refine gz_ic_le (pc' := 23) (pt := 25) d_59_20 (by decide) rfl hc6 (s32 (z := 9)) (fun c => ?_) (fun c => ?_)
        · replace h := h.1 c
          refine g_iloadn (pc' := 26) d_59_25 rfl rfl ?_
          refine g_aloadn (pc' := 27) d_59_26 rfl rfl ?_
          obtain ⟨x7, hv8, h⟩ := h
          refine gz_getI (pc' := 30) d_59_27 rfl st_59_49 hv8 ?_
          obtain ⟨hc9, h⟩ := h
          obtain ⟨hc10, h⟩ := h
          refine gz_ic_le (pc' := 33) (pt := 36) d_59_30 (by decide) rfl hc9 hc10 (fun c => ?_) (fun c => ?_)
          · replace h := h.1 c
            refine g_aloadn (pc' := 37) d_59_36 rfl rfl ?_
            refine gz_getR (pc' := 40) d_59_37 rfl st_59_39 (kr_0_4 hC3) ?_
            refine g_iloadn (pc' := 41) d_59_40 rfl rfl ?_
            refine g_iloadn (pc' := 42) d_59_41 rfl rfl ?_
            refine gz_i2l (pc' := 43) d_59_42 rfl hc6 ?_
            obtain ⟨w11, hk12, hC13, h⟩ := h
            refine gz_callV (pc' := 46) d_59_43 rfl st_59_134 na_60 ml_60 rfl rfl rfl rm_59_60 rfl rfl ow_60 (ko_12 hC3) hk12 ?_
            refine g_aloadn (pc' := 47) d_59_46 rfl rfl ?_
            refine g_iloadn (pc' := 48) d_59_47 rfl rfl ?_
            refine g_iconst (pc' := 49) d_59_48 rfl rfl ?_
            obtain ⟨w14, hk15, hC16, h⟩ := h
            refine gz_callV (pc' := 52) d_59_49 rfl st_59_138 na_57 ml_57 rfl rfl rfl rm_59_57 rfl rfl ow_57 (ko_0 hC13) hk15 ?_
            refine g_aloadn (pc' := 53) d_59_52 rfl rfl ?_
            refine gz_getR (pc' := 56) d_59_53 rfl st_59_58 (kr_0_8 hC16) ?_
            refine g_iloadn (pc' := 57) d_59_56 rfl rfl ?_
            refine g_bipush (pc' := 59) (v := jI 63) d_59_57 rfl (by decide) ?_
            obtain ⟨r20, w17, hk18, hC19, h⟩ := h
            refine gz_callV (pc' := 62) d_59_59 rfl st_59_142 na_61 ml_61 rfl rfl rfl rm_59_61 rfl rfl ow_61 (ko_23 hC16) hk18 ?_
            exact g_iret d_59_62 rt_59 h
          · replace h := h.2 c
            refine g_bipush (pc' := 35) (v := jI (-2)) d_59_33 rfl (by decide) ?_
            exact g_iret d_59_35 rt_59 h
        · replace h := h.2 c
          refine g_iconst (pc' := 24) d_59_23 rfl rfl ?_
          exact g_iret d_59_24 rt_59 h
theorem Z_59 {z1 : Int} {z2 : Int} {w : xW} {r : Option Value × xW} (hC : CS w) (h : ∃ (P4 : Prop) (dP5 : Decidable P4) (w1 : xW), xCall 24 [.int (jI z1)] w (some (.int (bz P4)), w1) ∧ CS w1 ∧ (¬ P4 → r = (some (.int (jI (-1))), w1)) ∧ (P4 → in32 z2 ∧ (z2 = 0 → r = (some (.int (jI (-1))), w1)) ∧ (z2 ≠ 0 → (z2 < (-9) → r = (some (.int (jI (-1))), w1)) ∧ ((-9) ≤ z2 → (z2 ≤ 9 → ∃ x7, fI w1 0 0 7 x7 ∧ in32 z1 ∧ in32 x7 ∧ (z1 ≤ x7 → ∃ w11, xCall 60 [.ref 12, .int (jI z1), .long (jL z2)] w1 (none, w11) ∧ CS w11 ∧ ∃ w14, xCall 57 [.ref 0, .int (jI z1), .int (jI 3)] w11 (none, w14) ∧ CS w14 ∧ ∃ r20 w17, xCall 61 [.ref 23, .int (jI z1), .int (jI 63)] w14 (some (.int (jI r20)), w17) ∧ CS w17 ∧ r = (some (.int (jI r20)), w17)) ∧ (x7 < z1 → r = (some (.int (jI (-2))), w1))) ∧ (9 < z2 → r = (some (.int (jI (-1))), w1)))))) : xCall 59 [.ref 0, .int (jI z1), .int (jI z2)] w r := E_59 (Z_59_0 hC h)
theorem Z_60_0 {e : Nat} {z1 : Int} {z2 : Int} {w : xW} {r : Option Value × xW} (hC : CS w) (he : eIs e) (h : ∃ r4 w1, xCall 29 [.ref e, .int (jI z1)] w (some (.long (jL r4)), w1) ∧ CS w1 ∧ ∃ r8 w5, xCall 30 [.ref e, .int (jI z1)] w1 (some (.long (jL r8)), w5) ∧ CS w5 ∧ ∃ r12 w9, xCall 31 [.ref e, .int (jI z1)] w5 (some (.long (jL r12)), w9) ∧ CS w9 ∧ ∃ w13, xCall 16 [.ref (e + 4), .long (jL r4), .long (jL (r8 + z2)), .long (jL r12)] w9 (none, w13) ∧ CS w13 ∧ ∃ w16, xCall 20 [.ref e, .int (jI z1), .ref (e + 4)] w13 (none, w16) ∧ CS w16 ∧ r = (none, w16)) : xGo 60 0 [some (.ref e), some (.int (jI z1)), some (.long (jL z2)), none] [] w r := by
  refine g_aloadn (pc' := 1) d_60_0 rfl rfl ?_
  refine gz_getR (pc' := 4) d_60_1 rfl st_60_24 (kr_e_3 he hC) ?_
  refine g_aloadn (pc' := 5) d_60_4 rfl rfl ?_
  refine g_iloadn (pc' := 6) d_60_5 rfl rfl ?_
  obtain ⟨r4, w1, hk2, hC3, h⟩ := h
  refine gz_callV (pc' := 9) d_60_6 rfl st_60_38 na_29 ml_29 rfl rfl rfl rm_60_29 rfl rfl ow_29 (ko_e he hC) hk2 ?_
  refine g_aloadn (pc' := 10) d_60_9 rfl rfl ?_
  refine g_iloadn (pc' := 11) d_60_10 rfl rfl ?_
  obtain ⟨r8, w5, hk6, hC7, h⟩ := h
  refine gz_callV (pc' := 14) d_60_11 rfl st_60_42 na_30 ml_30 rfl rfl rfl rm_60_30 rfl rfl ow_30 (ko_e he hC3) hk6 ?_
  refine g_lloadn (pc' := 15) d_60_14 rfl rfl ?_
  refine gz_ladd (pc' := 16) d_60_15 rfl ?_
  refine g_aloadn (pc' := 17) d_60_16 rfl rfl ?_
  refine g_iloadn (pc' := 18) d_60_17 rfl rfl ?_
  obtain ⟨r12, w9, hk10, hC11, h⟩ := h
  refine gz_callV (pc' := 21) d_60_18 rfl st_60_55 na_31 ml_31 rfl rfl rfl rm_60_31 rfl rfl ow_31 (ko_e he hC7) hk10 ?_
  obtain ⟨w13, hk14, hC15, h⟩ := h
  refine gz_callV (pc' := 24) d_60_21 rfl st_60_58 na_16 ml_16 rfl rfl rfl rm_60_16 rfl rfl ow_16 (ko_e4 he hC11) hk14 ?_
  refine g_aloadn (pc' := 25) d_60_24 rfl rfl ?_
  refine g_iloadn (pc' := 26) d_60_25 rfl rfl ?_
  refine g_aloadn (pc' := 27) d_60_26 rfl rfl ?_
  refine gz_getR (pc' := 30) d_60_27 rfl st_60_24 (kr_e_3 he hC15) ?_
  obtain ⟨w16, hk17, hC18, h⟩ := h
  refine gz_callV (pc' := 33) d_60_30 rfl st_60_68 na_20 ml_20 rfl rfl rfl rm_60_20 rfl rfl ow_20 (ko_e he hC15) hk17 ?_
  exact g_vret d_60_33 rt_60 h
theorem Z_60 {e : Nat} {z1 : Int} {z2 : Int} {w : xW} {r : Option Value × xW} (hC : CS w) (he : eIs e) (h : ∃ r4 w1, xCall 29 [.ref e, .int (jI z1)] w (some (.long (jL r4)), w1) ∧ CS w1 ∧ ∃ r8 w5, xCall 30 [.ref e, .int (jI z1)] w1 (some (.long (jL r8)), w5) ∧ CS w5 ∧ ∃ r12 w9, xCall 31 [.ref e, .int (jI z1)] w5 (some (.long (jL r12)), w9) ∧ CS w9 ∧ ∃ w13, xCall 16 [.ref (e + 4), .long (jL r4), .long (jL (r8 + z2)), .long (jL r12)] w9 (none, w13) ∧ CS w13 ∧ ∃ w16, xCall 20 [.ref e, .int (jI z1), .ref (e + 4)] w13 (none, w16) ∧ CS w16 ∧ r = (none, w16)) : xCall 60 [.ref e, .int (jI z1), .long (jL z2)] w r := E_60 (Z_60_0 hC he h)
theorem Z_61_0 {z1 : Int} {z2 : Int} {w : xW} {r : Option Value × xW} (hC : CS w) (h : ∃ y1, jI z2 &&& jI 1 = jI y1 ∧ in32 y1 ∧ (y1 = 0 → xGo 61 20 [some (.ref 23), some (.int (jI z1)), some (.int (jI z2)), some (.int (jI 0))] [] w r) ∧ (y1 ≠ 0 → ∃ (P7 : Prop) (dP8 : Decidable P7) (w4 : xW), xCall 62 [.ref 23, .int (jI z1)] w (some (.int (bz P7)), w4) ∧ CS w4 ∧ (¬ P7 → xGo 61 20 [some (.ref 23), some (.int (jI z1)), some (.int (jI z2)), some (.int (jI 0))] [] w4 r) ∧ (P7 → ∃ y9, jI 0 ||| jI 1 = jI y9 ∧ xGo 61 20 [some (.ref 23), some (.int (jI z1)), some (.int (jI z2)), some (.int (jI y9))] [] w4 r))) : xGo 61 0 [some (.ref 23), some (.int (jI z1)), some (.int (jI z2)), none] [] w r := by
  refine g_iconst (pc' := 1) d_61_0 rfl rfl ?_
  refine g_istoren (pc' := 2) (l' := [some (.ref 23), some (.int (jI z1)), some (.int (jI z2)), some (.int (jI 0))]) d_61_1 rfl ml_61 rfl rfl ?_
  refine g_iloadn (pc' := 3) d_61_2 rfl rfl ?_
  refine g_iconst (pc' := 4) d_61_3 rfl rfl ?_
  obtain ⟨y1, hz2, h⟩ := h
  refine gz_iand (pc' := 5) d_61_4 rfl hz2 ?_
  obtain ⟨hc3, h⟩ := h
  refine gz_if_eq (pc' := 8) (pt := 20) d_61_5 (by decide) rfl hc3 (fun c => ?_) (fun c => ?_)
  · replace h := h.1 c
    exact h
  · replace h := h.2 c
    refine g_aloadn (pc' := 9) d_61_8 rfl rfl ?_
    refine g_iloadn (pc' := 10) d_61_9 rfl rfl ?_
    obtain ⟨P7, dP8, w4, hk5, hC6, h⟩ := h
    refine gz_callV (pc' := 13) d_61_10 rfl st_61_23 na_62 ml_62 rfl rfl rfl rm_61_62 rfl rfl ow_62 (ko_23 hC) hk5 ?_
    refine gz_bt_eq (pc' := 16) (pt := 20) d_61_13 (by decide) rfl (fun c => ?_) (fun c => ?_)
    · replace h := h.1 c
      exact h
    · replace h := h.2 c
      refine g_iloadn (pc' := 17) d_61_16 rfl rfl ?_
      refine g_iconst (pc' := 18) d_61_17 rfl rfl ?_
      obtain ⟨y9, hz10, h⟩ := h
      refine gz_ior (pc' := 19) d_61_18 rfl hz10 ?_
      refine g_istoren (pc' := 20) (l' := [some (.ref 23), some (.int (jI z1)), some (.int (jI z2)), some (.int (jI y9))]) d_61_19 rfl ml_61 rfl rfl ?_
      exact h
theorem Z_61 {z1 : Int} {z2 : Int} {w : xW} {r : Option Value × xW} (hC : CS w) (h : ∃ y1, jI z2 &&& jI 1 = jI y1 ∧ in32 y1 ∧ (y1 = 0 → xGo 61 20 [some (.ref 23), some (.int (jI z1)), some (.int (jI z2)), some (.int (jI 0))] [] w r) ∧ (y1 ≠ 0 → ∃ (P7 : Prop) (dP8 : Decidable P7) (w4 : xW), xCall 62 [.ref 23, .int (jI z1)] w (some (.int (bz P7)), w4) ∧ CS w4 ∧ (¬ P7 → xGo 61 20 [some (.ref 23), some (.int (jI z1)), some (.int (jI z2)), some (.int (jI 0))] [] w4 r) ∧ (P7 → ∃ y9, jI 0 ||| jI 1 = jI y9 ∧ xGo 61 20 [some (.ref 23), some (.int (jI z1)), some (.int (jI z2)), some (.int (jI y9))] [] w4 r))) : xCall 61 [.ref 23, .int (jI z1), .int (jI z2)] w r := E_61 (Z_61_0 hC h)
theorem Z_61_20 {z1 : Int} {z2 : Int} {z3 : Int} {w : xW} {r : Option Value × xW} (hC : CS w) (h : ∃ y1, jI z2 &&& jI 2 = jI y1 ∧ in32 y1 ∧ (y1 = 0 → xGo 61 45 [some (.ref 23), some (.int (jI z1)), some (.int (jI z2)), some (.int (jI z3))] [] w r) ∧ (y1 ≠ 0 → ∃ r7 w4, xCall 63 [.ref 12, .int (jI z1)] w (some (.int (jI r7)), w4) ∧ CS w4 ∧ ∃ r11 w8, xCall 64 [.int (jI z1)] w4 (some (.int (jI r11)), w8) ∧ CS w8 ∧ in32 r7 ∧ in32 r11 ∧ (r7 = r11 → xGo 61 45 [some (.ref 23), some (.int (jI z1)), some (.int (jI z2)), some (.int (jI z3))] [] w8 r) ∧ (r7 ≠ r11 → ∃ y14, jI z3 ||| jI 2 = jI y14 ∧ xGo 61 45 [some (.ref 23), some (.int (jI z1)), some (.int (jI z2)), some (.int (jI y14))] [] w8 r))) : xGo 61 20 [some (.ref 23), some (.int (jI z1)), some (.int (jI z2)), some (.int (jI z3))] [] w r := by
  refine g_iloadn (pc' := 21) d_61_20 rfl rfl ?_
  refine g_iconst (pc' := 22) d_61_21 rfl rfl ?_
  obtain ⟨y1, hz2, h⟩ := h
  refine gz_iand (pc' := 23) d_61_22 rfl hz2 ?_
  obtain ⟨hc3, h⟩ := h
  refine gz_if_eq (pc' := 26) (pt := 45) d_61_23 (by decide) rfl hc3 (fun c => ?_) (fun c => ?_)
  · replace h := h.1 c
    exact h
  · replace h := h.2 c
    refine g_aloadn (pc' := 27) d_61_26 rfl rfl ?_
    refine gz_getR (pc' := 30) d_61_27 rfl st_61_9 (kr_23_0 hC) ?_
    refine g_iloadn (pc' := 31) d_61_30 rfl rfl ?_
    obtain ⟨r7, w4, hk5, hC6, h⟩ := h
    refine gz_callV (pc' := 34) d_61_31 rfl st_61_27 na_63 ml_63 rfl rfl rfl rm_61_63 rfl rfl ow_63 (ko_12 hC) hk5 ?_
    refine g_iloadn (pc' := 35) d_61_34 rfl rfl ?_
    obtain ⟨r11, w8, hk9, hC10, h⟩ := h
    refine g_callS (pc' := 38) d_61_35 rfl st_61_33 (Or.inl rfl) na_64 ml_64 rfl rfl rfl rm_61_64 rfl rfl hk9 ?_
    obtain ⟨hc12, h⟩ := h
    obtain ⟨hc13, h⟩ := h
    refine gz_ic_eq (pc' := 41) (pt := 45) d_61_38 (by decide) rfl hc12 hc13 (fun c => ?_) (fun c => ?_)
    · replace h := h.1 c
      exact h
    · replace h := h.2 c
      refine g_iloadn (pc' := 42) d_61_41 rfl rfl ?_
      refine g_iconst (pc' := 43) d_61_42 rfl rfl ?_
      obtain ⟨y14, hz15, h⟩ := h
      refine gz_ior (pc' := 44) d_61_43 rfl hz15 ?_
      refine g_istoren (pc' := 45) (l' := [some (.ref 23), some (.int (jI z1)), some (.int (jI z2)), some (.int (jI y14))]) d_61_44 rfl ml_61 rfl rfl ?_
      exact h
theorem Z_61_45 {z1 : Int} {z2 : Int} {z3 : Int} {w : xW} {r : Option Value × xW} (hC : CS w) (h : ∃ y1, jI z2 &&& jI 4 = jI y1 ∧ in32 y1 ∧ (y1 = 0 → xGo 61 63 [some (.ref 23), some (.int (jI z1)), some (.int (jI z2)), some (.int (jI z3))] [] w r) ∧ (y1 ≠ 0 → ∃ (P7 : Prop) (dP8 : Decidable P7) (w4 : xW), xCall 65 [.ref 23, .int (jI z1)] w (some (.int (bz P7)), w4) ∧ CS w4 ∧ (¬ P7 → xGo 61 63 [some (.ref 23), some (.int (jI z1)), some (.int (jI z2)), some (.int (jI z3))] [] w4 r) ∧ (P7 → ∃ y9, jI z3 ||| jI 4 = jI y9 ∧ xGo 61 63 [some (.ref 23), some (.int (jI z1)), some (.int (jI z2)), some (.int (jI y9))] [] w4 r))) : xGo 61 45 [some (.ref 23), some (.int (jI z1)), some (.int (jI z2)), some (.int (jI z3))] [] w r := by
  refine g_iloadn (pc' := 46) d_61_45 rfl rfl ?_
  refine g_iconst (pc' := 47) d_61_46 rfl rfl ?_
  obtain ⟨y1, hz2, h⟩ := h
  refine gz_iand (pc' := 48) d_61_47 rfl hz2 ?_
  obtain ⟨hc3, h⟩ := h
  refine gz_if_eq (pc' := 51) (pt := 63) d_61_48 (by decide) rfl hc3 (fun c => ?_) (fun c => ?_)
  · replace h := h.1 c
    exact h
  · replace h := h.2 c
    refine g_aloadn (pc' := 52) d_61_51 rfl rfl ?_
    refine g_iloadn (pc' := 53) d_61_52 rfl rfl ?_
    obtain ⟨P7, dP8, w4, hk5, hC6, h⟩ := h
    refine gz_callV (pc' := 56) d_61_53 rfl st_61_36 na_65 ml_65 rfl rfl rfl rm_61_65 rfl rfl ow_65 (ko_23 hC) hk5 ?_
    refine gz_bt_eq (pc' := 59) (pt := 63) d_61_56 (by decide) rfl (fun c => ?_) (fun c => ?_)
    · replace h := h.1 c
      exact h
    · replace h := h.2 c
      refine g_iloadn (pc' := 60) d_61_59 rfl rfl ?_
      refine g_iconst (pc' := 61) d_61_60 rfl rfl ?_
      obtain ⟨y9, hz10, h⟩ := h
      refine gz_ior (pc' := 62) d_61_61 rfl hz10 ?_
      refine g_istoren (pc' := 63) (l' := [some (.ref 23), some (.int (jI z1)), some (.int (jI z2)), some (.int (jI y9))]) d_61_62 rfl ml_61 rfl rfl ?_
      exact h
theorem Z_61_63 {z1 : Int} {z2 : Int} {z3 : Int} {w : xW} {r : Option Value × xW} (hC : CS w) (h : ∃ y1, jI z2 &&& jI 8 = jI y1 ∧ in32 y1 ∧ (y1 = 0 → xGo 61 83 [some (.ref 23), some (.int (jI z1)), some (.int (jI z2)), some (.int (jI z3))] [] w r) ∧ (y1 ≠ 0 → ∃ (P7 : Prop) (dP8 : Decidable P7) (w4 : xW), xCall 67 [.ref 23, .int (jI z1)] w (some (.int (bz P7)), w4) ∧ CS w4 ∧ (¬ P7 → xGo 61 83 [some (.ref 23), some (.int (jI z1)), some (.int (jI z2)), some (.int (jI z3))] [] w4 r) ∧ (P7 → ∃ y9, jI z3 ||| jI 8 = jI y9 ∧ xGo 61 83 [some (.ref 23), some (.int (jI z1)), some (.int (jI z2)), some (.int (jI y9))] [] w4 r))) : xGo 61 63 [some (.ref 23), some (.int (jI z1)), some (.int (jI z2)), some (.int (jI z3))] [] w r := by
  refine g_iloadn (pc' := 64) d_61_63 rfl rfl ?_
  refine g_bipush (pc' := 66) (v := jI 8) d_61_64 rfl (by decide) ?_
  obtain ⟨y1, hz2, h⟩ := h
  refine gz_iand (pc' := 67) d_61_66 rfl hz2 ?_
  obtain ⟨hc3, h⟩ := h
  refine gz_if_eq (pc' := 70) (pt := 83) d_61_67 (by decide) rfl hc3 (fun c => ?_) (fun c => ?_)
  · replace h := h.1 c
    exact h
  · replace h := h.2 c
    refine g_aloadn (pc' := 71) d_61_70 rfl rfl ?_
    refine g_iloadn (pc' := 72) d_61_71 rfl rfl ?_
    obtain ⟨P7, dP8, w4, hk5, hC6, h⟩ := h
    refine gz_callV (pc' := 75) d_61_72 rfl st_61_39 na_67 ml_67 rfl rfl rfl rm_61_67 rfl rfl ow_67 (ko_23 hC) hk5 ?_
    refine gz_bt_eq (pc' := 78) (pt := 83) d_61_75 (by decide) rfl (fun c => ?_) (fun c => ?_)
    · replace h := h.1 c
      exact h
    · replace h := h.2 c
      refine g_iloadn (pc' := 79) d_61_78 rfl rfl ?_
      refine g_bipush (pc' := 81) (v := jI 8) d_61_79 rfl (by decide) ?_
      obtain ⟨y9, hz10, h⟩ := h
      refine gz_ior (pc' := 82) d_61_81 rfl hz10 ?_
      refine g_istoren (pc' := 83) (l' := [some (.ref 23), some (.int (jI z1)), some (.int (jI z2)), some (.int (jI y9))]) d_61_82 rfl ml_61 rfl rfl ?_
      exact h
theorem Z_61_83 {z1 : Int} {z2 : Int} {z3 : Int} {w : xW} {r : Option Value × xW} (hC : CS w) (h : ∃ y1, jI z2 &&& jI 16 = jI y1 ∧ in32 y1 ∧ (y1 = 0 → xGo 61 103 [some (.ref 23), some (.int (jI z1)), some (.int (jI z2)), some (.int (jI z3))] [] w r) ∧ (y1 ≠ 0 → ∃ (P7 : Prop) (dP8 : Decidable P7) (w4 : xW), xCall 72 [.ref 23, .int (jI z1)] w (some (.int (bz P7)), w4) ∧ CS w4 ∧ (¬ P7 → xGo 61 103 [some (.ref 23), some (.int (jI z1)), some (.int (jI z2)), some (.int (jI z3))] [] w4 r) ∧ (P7 → ∃ y9, jI z3 ||| jI 16 = jI y9 ∧ xGo 61 103 [some (.ref 23), some (.int (jI z1)), some (.int (jI z2)), some (.int (jI y9))] [] w4 r))) : xGo 61 83 [some (.ref 23), some (.int (jI z1)), some (.int (jI z2)), some (.int (jI z3))] [] w r := by
  refine g_iloadn (pc' := 84) d_61_83 rfl rfl ?_
  refine g_bipush (pc' := 86) (v := jI 16) d_61_84 rfl (by decide) ?_
  obtain ⟨y1, hz2, h⟩ := h
  refine gz_iand (pc' := 87) d_61_86 rfl hz2 ?_
  obtain ⟨hc3, h⟩ := h
  refine gz_if_eq (pc' := 90) (pt := 103) d_61_87 (by decide) rfl hc3 (fun c => ?_) (fun c => ?_)
  · replace h := h.1 c
    exact h
  · replace h := h.2 c
    refine g_aloadn (pc' := 91) d_61_90 rfl rfl ?_
    refine g_iloadn (pc' := 92) d_61_91 rfl rfl ?_
    obtain ⟨P7, dP8, w4, hk5, hC6, h⟩ := h
    refine gz_callV (pc' := 95) d_61_92 rfl st_61_42 na_72 ml_72 rfl rfl rfl rm_61_72 rfl rfl ow_72 (ko_23 hC) hk5 ?_
    refine gz_bt_eq (pc' := 98) (pt := 103) d_61_95 (by decide) rfl (fun c => ?_) (fun c => ?_)
    · replace h := h.1 c
      exact h
    · replace h := h.2 c
      refine g_iloadn (pc' := 99) d_61_98 rfl rfl ?_
      refine g_bipush (pc' := 101) (v := jI 16) d_61_99 rfl (by decide) ?_
      obtain ⟨y9, hz10, h⟩ := h
      refine gz_ior (pc' := 102) d_61_101 rfl hz10 ?_
      refine g_istoren (pc' := 103) (l' := [some (.ref 23), some (.int (jI z1)), some (.int (jI z2)), some (.int (jI y9))]) d_61_102 rfl ml_61 rfl rfl ?_
      exact h
theorem Z_61_103 {z1 : Int} {z2 : Int} {z3 : Int} {w : xW} {r : Option Value × xW} (hC : CS w) (h : ∃ y1, jI z2 &&& jI 32 = jI y1 ∧ in32 y1 ∧ (y1 = 0 → r = (some (.int (jI z3)), w)) ∧ (y1 ≠ 0 → ∃ (P7 : Prop) (dP8 : Decidable P7) (w4 : xW), xCall 74 [.ref 23, .int (jI z1)] w (some (.int (bz P7)), w4) ∧ CS w4 ∧ (¬ P7 → r = (some (.int (jI z3)), w4)) ∧ (P7 → ∃ y9, jI z3 ||| jI 32 = jI y9 ∧ r = (some (.int (jI y9)), w4)))) : xGo 61 103 [some (.ref 23), some (.int (jI z1)), some (.int (jI z2)), some (.int (jI z3))] [] w r := by
  refine g_iloadn (pc' := 104) d_61_103 rfl rfl ?_
  refine g_bipush (pc' := 106) (v := jI 32) d_61_104 rfl (by decide) ?_
  obtain ⟨y1, hz2, h⟩ := h
  refine gz_iand (pc' := 107) d_61_106 rfl hz2 ?_
  obtain ⟨hc3, h⟩ := h
  refine gz_if_eq (pc' := 110) (pt := 123) d_61_107 (by decide) rfl hc3 (fun c => ?_) (fun c => ?_)
  · replace h := h.1 c
    refine g_iloadn (pc' := 124) d_61_123 rfl rfl ?_
    exact g_iret d_61_124 rt_61 h
  · replace h := h.2 c
    refine g_aloadn (pc' := 111) d_61_110 rfl rfl ?_
    refine g_iloadn (pc' := 112) d_61_111 rfl rfl ?_
    obtain ⟨P7, dP8, w4, hk5, hC6, h⟩ := h
    refine gz_callV (pc' := 115) d_61_112 rfl st_61_45 na_74 ml_74 rfl rfl rfl rm_61_74 rfl rfl ow_74 (ko_23 hC) hk5 ?_
    refine gz_bt_eq (pc' := 118) (pt := 123) d_61_115 (by decide) rfl (fun c => ?_) (fun c => ?_)
    · replace h := h.1 c
      refine g_iloadn (pc' := 124) d_61_123 rfl rfl ?_
      exact g_iret d_61_124 rt_61 h
    · replace h := h.2 c
      refine g_iloadn (pc' := 119) d_61_118 rfl rfl ?_
      refine g_bipush (pc' := 121) (v := jI 32) d_61_119 rfl (by decide) ?_
      obtain ⟨y9, hz10, h⟩ := h
      refine gz_ior (pc' := 122) d_61_121 rfl hz10 ?_
      refine g_istoren (pc' := 123) (l' := [some (.ref 23), some (.int (jI z1)), some (.int (jI z2)), some (.int (jI y9))]) d_61_122 rfl ml_61 rfl rfl ?_
      refine g_iloadn (pc' := 124) d_61_123 rfl rfl ?_
      exact g_iret d_61_124 rt_61 h
theorem Z_62_0 {z1 : Int} {w : xW} {r : Option Value × xW} (hC : CS w) (h : xGo 62 15 [some (.ref 23), some (.int (jI z1)), some (.long (jL 1)), none, some (.ref xP), some (.int (jI 46)), some (.int (jI 0)), none] [] w r) : xGo 62 0 [some (.ref 23), some (.int (jI z1)), none, none, none, none, none, none] [] w r := by
  refine g_lconst (pc' := 1) (v := jL 1) d_62_0 rfl cl_1 ?_
  refine g_lstoren (pc' := 2) (l' := [some (.ref 23), some (.int (jI z1)), some (.long (jL 1)), none, none, none, none, none]) d_62_1 rfl ml_62 rfl rfl ?_
  refine g_gets (pc' := 5) d_62_2 rfl st_62_104 (Or.inr rfl) ?_
  refine g_astore (pc' := 7) (l' := [some (.ref 23), some (.int (jI z1)), some (.long (jL 1)), none, some (.ref xP), none, none, none]) d_62_5 rfl ml_62 rfl rfl ?_
  refine g_aload (pc' := 9) d_62_7 rfl rfl ?_
  refine g_lenp (pc' := 10) d_62_9 rfl hC.noP ?_
  refine g_istore (pc' := 12) (l' := [some (.ref 23), some (.int (jI z1)), some (.long (jL 1)), none, some (.ref xP), some (.int (jI 46)), none, none]) d_62_10 rfl ml_62 rfl rfl ?_
  refine g_iconst (pc' := 13) d_62_12 rfl rfl ?_
  refine g_istore (pc' := 15) (l' := [some (.ref 23), some (.int (jI z1)), some (.long (jL 1)), none, some (.ref xP), some (.int (jI 46)), some (.int (jI 0)), none]) d_62_13 rfl ml_62 rfl rfl ?_
  exact h
theorem Z_62 {z1 : Int} {w : xW} {r : Option Value × xW} (hC : CS w) (h : xGo 62 15 [some (.ref 23), some (.int (jI z1)), some (.long (jL 1)), none, some (.ref xP), some (.int (jI 46)), some (.int (jI 0)), none] [] w r) : xCall 62 [.ref 23, .int (jI z1)] w r := E_62 (Z_62_0 hC h)
theorem Z_62_15 {z1 : Int} {z2 : Int} {z5 : Int} {z6 : Int} {w : xW} {r : Option Value × xW} (hC : CS w) (h : in32 z6 ∧ in32 z5 ∧ (z5 ≤ z6 → ∃ r6 w3, xCall 31 [.ref 12, .int (jI z1)] w (some (.long (jL r6)), w3) ∧ CS w3 ∧ in64 r6 ∧ in64 z2 ∧ (r6 = z2 → r = (some (.int (jI 0)), w3)) ∧ (r6 ≠ z2 → r = (some (.int (jI 1)), w3))) ∧ (z6 < z5 → (0 ≤ z6 ∧ z6 < 46) ∧ ∃ (P13 : Prop) (dP14 : Decidable P13) (w10 : xW), xCall 52 [.int (jI (prZ (z6).toNat)), .int (jI z1)] w (some (.int (bz P13)), w10) ∧ CS w10 ∧ (¬ P13 → xGo 62 15 [some (.ref 23), some (.int (jI z1)), some (.long (jL z2)), none, some (.ref xP), some (.int (jI z5)), some (.int (jI (z6 + 1))), none] [] w10 r) ∧ (P13 → xGo 62 15 [some (.ref 23), some (.int (jI z1)), some (.long (jL (z2 * (prZ (z6).toNat)))), none, some (.ref xP), some (.int (jI z5)), some (.int (jI (z6 + 1))), none] [] w10 r))) : xGo 62 15 [some (.ref 23), some (.int (jI z1)), some (.long (jL z2)), none, some (.ref xP), some (.int (jI z5)), some (.int (jI z6)), none] [] w r := by
  refine g_iload (pc' := 17) d_62_15 rfl rfl ?_
  refine g_iload (pc' := 19) d_62_17 rfl rfl ?_
  obtain ⟨hc1, h⟩ := h
  obtain ⟨hc2, h⟩ := h
  refine gz_ic_ge (pc' := 22) (pt := 50) d_62_19 (by decide) rfl hc1 hc2 (fun c => ?_) (fun c => ?_)
  · replace h := h.1 c
    refine g_aloadn (pc' := 51) d_62_50 rfl rfl ?_
    refine gz_getR (pc' := 54) d_62_51 rfl st_62_9 (kr_23_0 hC) ?_
    refine g_iloadn (pc' := 55) d_62_54 rfl rfl ?_
    obtain ⟨r6, w3, hk4, hC5, h⟩ := h
    refine gz_callV (pc' := 58) d_62_55 rfl st_62_87 na_31 ml_31 rfl rfl rfl rm_62_31 rfl rfl ow_31 (ko_12 hC) hk4 ?_
    refine g_lloadn (pc' := 59) d_62_58 rfl rfl ?_
    obtain ⟨hc7, h⟩ := h
    obtain ⟨hc8, h⟩ := h
    refine gz_lc_eq (pc' := 63) (pm := 60) (pt := 67) d_62_59 rfl d_62_60 (by decide) rfl hc7 hc8 (fun c => ?_) (fun c => ?_)
    · replace h := h.1 c
      refine g_iconst (pc' := 68) d_62_67 rfl rfl ?_
      exact g_zret d_62_68 rt_62 (Or.inl rfl) h
    · replace h := h.2 c
      refine g_iconst (pc' := 64) d_62_63 rfl rfl ?_
      refine g_goto (pt := 68) d_62_64 (by decide) ?_
      exact g_zret d_62_68 rt_62 (Or.inr rfl) h
  · replace h := h.2 c
    refine g_aload (pc' := 24) d_62_22 rfl rfl ?_
    refine g_iload (pc' := 26) d_62_24 rfl rfl ?_
    obtain ⟨hc9, h⟩ := h
    refine gz_pald (pc' := 27) d_62_26 rfl hC.noP hc9 ?_
    refine g_istore (pc' := 29) (l' := [some (.ref 23), some (.int (jI z1)), some (.long (jL z2)), none, some (.ref xP), some (.int (jI z5)), some (.int (jI z6)), some (.int (jI (prZ (z6).toNat)))]) d_62_27 rfl ml_62 rfl rfl ?_
    refine g_iload (pc' := 31) d_62_29 rfl rfl ?_
    refine g_iloadn (pc' := 32) d_62_31 rfl rfl ?_
    obtain ⟨P13, dP14, w10, hk11, hC12, h⟩ := h
    refine g_callS (pc' := 35) d_62_32 rfl st_62_108 (Or.inr rfl) na_52 ml_52 rfl rfl rfl rm_62_52 rfl rfl hk11 ?_
    refine gz_bt_eq (pc' := 38) (pt := 44) d_62_35 (by decide) rfl (fun c => ?_) (fun c => ?_)
    · replace h := h.1 c
      refine gz_iinc (pc' := 47) (l' := [some (.ref 23), some (.int (jI z1)), some (.long (jL z2)), none, some (.ref xP), some (.int (jI z5)), some (.int (jI (z6 + 1))), some (.int (jI (prZ (z6).toNat)))]) d_62_44 rfl rfl ml_62 rfl rfl ?_
      refine g_goto (pt := 15) d_62_47 (by decide) ?_
      exact xGo.more (xle_s (xle_s (xle_s (xle_n (xle_s (xle_s (xle_s (xle_n xle_0)))))))) h
    · replace h := h.2 c
      refine g_lloadn (pc' := 39) d_62_38 rfl rfl ?_
      refine g_iload (pc' := 41) d_62_39 rfl rfl ?_
      refine gz_i2l (pc' := 42) d_62_41 rfl (prZ_in _) ?_
      refine gz_lmul (pc' := 43) d_62_42 rfl ?_
      refine g_lstoren (pc' := 44) (l' := [some (.ref 23), some (.int (jI z1)), some (.long (jL (z2 * (prZ (z6).toNat)))), none, some (.ref xP), some (.int (jI z5)), some (.int (jI z6)), some (.int (jI (prZ (z6).toNat)))]) d_62_43 rfl ml_62 rfl rfl ?_
      refine gz_iinc (pc' := 47) (l' := [some (.ref 23), some (.int (jI z1)), some (.long (jL (z2 * (prZ (z6).toNat)))), none, some (.ref xP), some (.int (jI z5)), some (.int (jI (z6 + 1))), some (.int (jI (prZ (z6).toNat)))]) d_62_44 rfl rfl ml_62 rfl rfl ?_
      refine g_goto (pt := 15) d_62_47 (by decide) ?_
      exact xGo.more (xle_s (xle_s (xle_s (xle_n (xle_s (xle_s (xle_s (xle_n xle_0)))))))) h
theorem Z_63_0 {e : Nat} {z1 : Int} {w : xW} {r : Option Value × xW} (hC : CS w) (he : eIs e) (h : ∃ r4 w1, xCall 29 [.ref e, .int (jI z1)] w (some (.long (jL r4)), w1) ∧ CS w1 ∧ in64 r4 ∧ (0 ≤ r4 → ∃ r9 w6, xCall 29 [.ref e, .int (jI z1)] w1 (some (.long (jL r9)), w6) ∧ CS w6 ∧ in64 r9 ∧ (r9 ≠ 0 → r = (some (.int (jI 1)), w6)) ∧ (r9 = 0 → ∃ r14 w11, xCall 30 [.ref e, .int (jI z1)] w6 (some (.long (jL r14)), w11) ∧ CS w11 ∧ in64 r14 ∧ (r14 ≠ 0 → r = (some (.int (jI 1)), w11)) ∧ (r14 = 0 → r = (some (.int (jI 0)), w11)))) ∧ (r4 < 0 → r = (some (.int (jI (-1))), w1))) : xGo 63 0 [some (.ref e), some (.int (jI z1))] [] w r := by
  refine g_aloadn (pc' := 1) d_63_0 rfl rfl ?_
  refine g_iloadn (pc' := 2) d_63_1 rfl rfl ?_
  obtain ⟨r4, w1, hk2, hC3, h⟩ := h
  refine gz_callV (pc' := 5) d_63_2 rfl st_63_38 na_29 ml_29 rfl rfl rfl rm_63_29 rfl rfl ow_29 (ko_e he hC) hk2 ?_
  refine g_lconst (pc' := 6) (v := jL 0) d_63_5 rfl cl_0 ?_
  obtain ⟨hc5, h⟩ := h
  refine gz_lc_ge (pc' := 10) (pm := 7) (pt := 12) d_63_6 rfl d_63_7 (by decide) rfl hc5 (s64 (z := 0)) (fun c => ?_) (fun c => ?_)
  · replace h := h.1 c
    refine g_aloadn (pc' := 13) d_63_12 rfl rfl ?_
    refine g_iloadn (pc' := 14) d_63_13 rfl rfl ?_
    obtain ⟨r9, w6, hk7, hC8, h⟩ := h
    refine gz_callV (pc' := 17) d_63_14 rfl st_63_38 na_29 ml_29 rfl rfl rfl rm_63_29 rfl rfl ow_29 (ko_e he hC3) hk7 ?_
    refine g_lconst (pc' := 18) (v := jL 0) d_63_17 rfl cl_0 ?_
    obtain ⟨hc10, h⟩ := h
    refine gz_lc_ne (pc' := 22) (pm := 19) (pt := 36) d_63_18 rfl d_63_19 (by decide) rfl hc10 (s64 (z := 0)) (fun c => ?_) (fun c => ?_)
    · replace h := h.1 c
      refine g_iconst (pc' := 37) d_63_36 rfl rfl ?_
      exact g_iret d_63_37 rt_63 h
    · replace h := h.2 c
      refine g_aloadn (pc' := 23) d_63_22 rfl rfl ?_
      refine g_iloadn (pc' := 24) d_63_23 rfl rfl ?_
      obtain ⟨r14, w11, hk12, hC13, h⟩ := h
      refine gz_callV (pc' := 27) d_63_24 rfl st_63_42 na_30 ml_30 rfl rfl rfl rm_63_30 rfl rfl ow_30 (ko_e he hC8) hk12 ?_
      refine g_lconst (pc' := 28) (v := jL 0) d_63_27 rfl cl_0 ?_
      obtain ⟨hc15, h⟩ := h
      refine gz_lc_ne (pc' := 32) (pm := 29) (pt := 36) d_63_28 rfl d_63_29 (by decide) rfl hc15 (s64 (z := 0)) (fun c => ?_) (fun c => ?_)
      · replace h := h.1 c
        refine g_iconst (pc' := 37) d_63_36 rfl rfl ?_
        exact g_iret d_63_37 rt_63 h
      · replace h := h.2 c
        refine g_iconst (pc' := 33) d_63_32 rfl rfl ?_
        refine g_goto (pt := 37) d_63_33 (by decide) ?_
        exact g_iret d_63_37 rt_63 h
  · replace h := h.2 c
    refine g_iconst (pc' := 11) d_63_10 rfl rfl ?_
    exact g_iret d_63_11 rt_63 h
theorem Z_63 {e : Nat} {z1 : Int} {w : xW} {r : Option Value × xW} (hC : CS w) (he : eIs e) (h : ∃ r4 w1, xCall 29 [.ref e, .int (jI z1)] w (some (.long (jL r4)), w1) ∧ CS w1 ∧ in64 r4 ∧ (0 ≤ r4 → ∃ r9 w6, xCall 29 [.ref e, .int (jI z1)] w1 (some (.long (jL r9)), w6) ∧ CS w6 ∧ in64 r9 ∧ (r9 ≠ 0 → r = (some (.int (jI 1)), w6)) ∧ (r9 = 0 → ∃ r14 w11, xCall 30 [.ref e, .int (jI z1)] w6 (some (.long (jL r14)), w11) ∧ CS w11 ∧ in64 r14 ∧ (r14 ≠ 0 → r = (some (.int (jI 1)), w11)) ∧ (r14 = 0 → r = (some (.int (jI 0)), w11)))) ∧ (r4 < 0 → r = (some (.int (jI (-1))), w1))) : xCall 63 [.ref e, .int (jI z1)] w r := E_63 (Z_63_0 hC he h)
theorem Z_64_0 {z0 : Int} {w : xW} {r : Option Value × xW} (hC : CS w) (h : in32 z0 ∧ (z0 ≠ 0 → ∃ y2, Int.tmod z0 2 = y2 ∧ in32 y2 ∧ (y2 = 0 → ∃ y5, Int.tmod z0 4 = y5 ∧ in32 y5 ∧ (y5 ≠ 2 → r = (some (.int (jI (-1))), w)) ∧ (y5 = 2 → r = (some (.int (jI 1)), w))) ∧ (y2 ≠ 0 → (z0 ≠ 1 → r = (some (.int (jI 0)), w)) ∧ (z0 = 1 → r = (some (.int (jI (-1))), w)))) ∧ (z0 = 0 → r = (some (.int (jI 1)), w))) : xGo 64 0 [some (.int (jI z0))] [] w r := by
  refine g_iloadn (pc' := 1) d_64_0 rfl rfl ?_
  obtain ⟨hc1, h⟩ := h
  refine gz_if_ne (pc' := 4) (pt := 6) d_64_1 (by decide) rfl hc1 (fun c => ?_) (fun c => ?_)
  · replace h := h.1 c
    refine g_iloadn (pc' := 7) d_64_6 rfl rfl ?_
    refine g_iconst (pc' := 8) d_64_7 rfl rfl ?_
    obtain ⟨y2, hz3, h⟩ := h
    refine gz_irem (pc' := 9) d_64_8 rfl hc1 (s32 (z := 2)) (by decide) hz3 ?_
    obtain ⟨hc4, h⟩ := h
    refine gz_if_eq (pc' := 12) (pt := 23) d_64_9 (by decide) rfl hc4 (fun c => ?_) (fun c => ?_)
    · replace h := h.1 c
      refine g_iloadn (pc' := 24) d_64_23 rfl rfl ?_
      refine g_iconst (pc' := 25) d_64_24 rfl rfl ?_
      obtain ⟨y5, hz6, h⟩ := h
      refine gz_irem (pc' := 26) d_64_25 rfl hc1 (s32 (z := 4)) (by decide) hz6 ?_
      refine g_iconst (pc' := 27) d_64_26 rfl rfl ?_
      obtain ⟨hc7, h⟩ := h
      refine gz_ic_ne (pc' := 30) (pt := 34) d_64_27 (by decide) rfl hc7 (s32 (z := 2)) (fun c => ?_) (fun c => ?_)
      · replace h := h.1 c
        refine g_iconst (pc' := 35) d_64_34 rfl rfl ?_
        exact g_iret d_64_35 rt_64 h
      · replace h := h.2 c
        refine g_iconst (pc' := 31) d_64_30 rfl rfl ?_
        refine g_goto (pt := 35) d_64_31 (by decide) ?_
        exact g_iret d_64_35 rt_64 h
    · replace h := h.2 c
      refine g_iloadn (pc' := 13) d_64_12 rfl rfl ?_
      refine g_iconst (pc' := 14) d_64_13 rfl rfl ?_
      refine gz_ic_ne (pc' := 17) (pt := 21) d_64_14 (by decide) rfl hc1 (s32 (z := 1)) (fun c => ?_) (fun c => ?_)
      · replace h := h.1 c
        refine g_iconst (pc' := 22) d_64_21 rfl rfl ?_
        exact g_iret d_64_22 rt_64 h
      · replace h := h.2 c
        refine g_iconst (pc' := 18) d_64_17 rfl rfl ?_
        refine g_goto (pt := 22) d_64_18 (by decide) ?_
        exact g_iret d_64_22 rt_64 h
  · replace h := h.2 c
    refine g_iconst (pc' := 5) d_64_4 rfl rfl ?_
    exact g_iret d_64_5 rt_64 h
theorem Z_64 {z0 : Int} {w : xW} {r : Option Value × xW} (hC : CS w) (h : in32 z0 ∧ (z0 ≠ 0 → ∃ y2, Int.tmod z0 2 = y2 ∧ in32 y2 ∧ (y2 = 0 → ∃ y5, Int.tmod z0 4 = y5 ∧ in32 y5 ∧ (y5 ≠ 2 → r = (some (.int (jI (-1))), w)) ∧ (y5 = 2 → r = (some (.int (jI 1)), w))) ∧ (y2 ≠ 0 → (z0 ≠ 1 → r = (some (.int (jI 0)), w)) ∧ (z0 = 1 → r = (some (.int (jI (-1))), w)))) ∧ (z0 = 0 → r = (some (.int (jI 1)), w))) : xCall 64 [.int (jI z0)] w r := E_64 (Z_64_0 hC h)
theorem Z_65_0 {z1 : Int} {w : xW} {r : Option Value × xW} (hC : CS w) (h : in32 z1 ∧ (1 ≤ z1 → ∃ w2, xCall 36 [.ref 23, .int (jI z1), .int (jI z1)] w (none, w2) ∧ CS w2 ∧ ∃ (P8 : Prop) (dP9 : Decidable P8) (w5 : xW), xCall 66 [.ref 3] w2 (some (.int (bz P8)), w5) ∧ CS w5 ∧ (P8 → r = (some (.int (jI 0)), w5)) ∧ (¬ P8 → r = (some (.int (jI 1)), w5))) ∧ (z1 < 1 → r = (some (.int (jI 0)), w))) : xGo 65 0 [some (.ref 23), some (.int (jI z1))] [] w r := by
  refine g_iloadn (pc' := 1) d_65_0 rfl rfl ?_
  refine g_iconst (pc' := 2) d_65_1 rfl rfl ?_
  obtain ⟨hc1, h⟩ := h
  refine gz_ic_ge (pc' := 5) (pt := 7) d_65_2 (by decide) rfl hc1 (s32 (z := 1)) (fun c => ?_) (fun c => ?_)
  · replace h := h.1 c
    refine g_aloadn (pc' := 8) d_65_7 rfl rfl ?_
    refine g_iloadn (pc' := 9) d_65_8 rfl rfl ?_
    refine g_iloadn (pc' := 10) d_65_9 rfl rfl ?_
    obtain ⟨w2, hk3, hC4, h⟩ := h
    refine gz_callV (pc' := 13) d_65_10 rfl st_65_111 na_36 ml_36 rfl rfl rfl rm_65_36 rfl rfl ow_36 (ko_23 hC) hk3 ?_
    refine g_aloadn (pc' := 14) d_65_13 rfl rfl ?_
    refine gz_getR (pc' := 17) d_65_14 rfl st_65_19 (kr_23_2 hC4) ?_
    obtain ⟨P8, dP9, w5, hk6, hC7, h⟩ := h
    refine gz_callV (pc' := 20) d_65_17 rfl st_65_115 na_66 ml_66 rfl rfl rfl rm_65_66 rfl rfl ow_66 (ko_3 hC4) hk6 ?_
    refine gz_bt_ne (pc' := 23) (pt := 27) d_65_20 (by decide) rfl (fun c => ?_) (fun c => ?_)
    · replace h := h.1 c
      refine g_iconst (pc' := 28) d_65_27 rfl rfl ?_
      exact g_zret d_65_28 rt_65 (Or.inl rfl) h
    · replace h := h.2 c
      refine g_iconst (pc' := 24) d_65_23 rfl rfl ?_
      refine g_goto (pt := 28) d_65_24 (by decide) ?_
      exact g_zret d_65_28 rt_65 (Or.inr rfl) h
  · replace h := h.2 c
    refine g_iconst (pc' := 6) d_65_5 rfl rfl ?_
    exact g_zret d_65_6 rt_65 (Or.inl rfl) h
theorem Z_65 {z1 : Int} {w : xW} {r : Option Value × xW} (hC : CS w) (h : in32 z1 ∧ (1 ≤ z1 → ∃ w2, xCall 36 [.ref 23, .int (jI z1), .int (jI z1)] w (none, w2) ∧ CS w2 ∧ ∃ (P8 : Prop) (dP9 : Decidable P8) (w5 : xW), xCall 66 [.ref 3] w2 (some (.int (bz P8)), w5) ∧ CS w5 ∧ (P8 → r = (some (.int (jI 0)), w5)) ∧ (¬ P8 → r = (some (.int (jI 1)), w5))) ∧ (z1 < 1 → r = (some (.int (jI 0)), w))) : xCall 65 [.ref 23, .int (jI z1)] w r := E_65 (Z_65_0 hC h)
theorem Z_66_0  {w : xW} {r : Option Value × xW} (hC : CS w) (h : ∃ x1, fJ w 3 2 1 x1 ∧ in64 x1 ∧ (x1 ≠ 0 → r = (some (.int (jI 0)), w)) ∧ (x1 = 0 → ∃ x4, fJ w 3 2 2 x4 ∧ in64 x4 ∧ (x4 ≠ 0 → r = (some (.int (jI 0)), w)) ∧ (x4 = 0 → r = (some (.int (jI 1)), w)))) : xGo 66 0 [some (.ref 3)] [] w r := by
  refine g_aloadn (pc' := 1) d_66_0 rfl rfl ?_
  obtain ⟨x1, hv2, h⟩ := h
  refine gz_getJ (pc' := 4) d_66_1 rfl st_66_19 hv2 ?_
  refine g_lconst (pc' := 5) (v := jL 0) d_66_4 rfl cl_0 ?_
  obtain ⟨hc3, h⟩ := h
  refine gz_lc_ne (pc' := 9) (pm := 6) (pt := 22) d_66_5 rfl d_66_6 (by decide) rfl hc3 (s64 (z := 0)) (fun c => ?_) (fun c => ?_)
  · replace h := h.1 c
    refine g_iconst (pc' := 23) d_66_22 rfl rfl ?_
    exact g_zret d_66_23 rt_66 (Or.inl rfl) h
  · replace h := h.2 c
    refine g_aloadn (pc' := 10) d_66_9 rfl rfl ?_
    obtain ⟨x4, hv5, h⟩ := h
    refine gz_getJ (pc' := 13) d_66_10 rfl st_66_22 hv5 ?_
    refine g_lconst (pc' := 14) (v := jL 0) d_66_13 rfl cl_0 ?_
    obtain ⟨hc6, h⟩ := h
    refine gz_lc_ne (pc' := 18) (pm := 15) (pt := 22) d_66_14 rfl d_66_15 (by decide) rfl hc6 (s64 (z := 0)) (fun c => ?_) (fun c => ?_)
    · replace h := h.1 c
      refine g_iconst (pc' := 23) d_66_22 rfl rfl ?_
      exact g_zret d_66_23 rt_66 (Or.inl rfl) h
    · replace h := h.2 c
      refine g_iconst (pc' := 19) d_66_18 rfl rfl ?_
      refine g_goto (pt := 23) d_66_19 (by decide) ?_
      exact g_zret d_66_23 rt_66 (Or.inr rfl) h
theorem Z_66  {w : xW} {r : Option Value × xW} (hC : CS w) (h : ∃ x1, fJ w 3 2 1 x1 ∧ in64 x1 ∧ (x1 ≠ 0 → r = (some (.int (jI 0)), w)) ∧ (x1 = 0 → ∃ x4, fJ w 3 2 2 x4 ∧ in64 x4 ∧ (x4 ≠ 0 → r = (some (.int (jI 0)), w)) ∧ (x4 = 0 → r = (some (.int (jI 1)), w)))) : xCall 66 [.ref 3] w r := E_66 (Z_66_0 hC h)
theorem Z_67_0 {z1 : Int} {w : xW} {r : Option Value × xW} (hC : CS w) (h : xGo 67 2 [some (.ref 23), some (.int (jI z1)), some (.int (jI 2)), none, none] [] w r) : xGo 67 0 [some (.ref 23), some (.int (jI z1)), none, none, none] [] w r := by
  refine g_iconst (pc' := 1) d_67_0 rfl rfl ?_
  refine g_istoren (pc' := 2) (l' := [some (.ref 23), some (.int (jI z1)), some (.int (jI 2)), none, none]) d_67_1 rfl ml_67 rfl rfl ?_
  exact h
theorem Z_67 {z1 : Int} {w : xW} {r : Option Value × xW} (hC : CS w) (h : xGo 67 2 [some (.ref 23), some (.int (jI z1)), some (.int (jI 2)), none, none] [] w r) : xCall 67 [.ref 23, .int (jI z1)] w r := E_67 (Z_67_0 hC h)
theorem Z_67_2 {z1 : Int} {z2 : Int} {w : xW} {r : Option Value × xW} (hC : CS w) (h : in32 z2 ∧ (11 < z2 → r = (some (.int (jI 0)), w)) ∧ (z2 ≤ 11 → (46 ≤ z2 → r = (some (.int (jI 0)), w)) ∧ (z2 < 46 → (0 ≤ z2 ∧ z2 < 46) ∧ xGo 67 29 [some (.ref 23), some (.int (jI z1)), some (.int (jI z2)), some (.int (jI (prZ (z2).toNat))), some (.int (jI ((z1 - (prZ (z2).toNat)) + 1)))] [] w r))) : xGo 67 2 [some (.ref 23), some (.int (jI z1)), some (.int (jI z2)), none, none] [] w r := by
  refine g_iloadn (pc' := 3) d_67_2 rfl rfl ?_
  refine g_bipush (pc' := 5) (v := jI 11) d_67_3 rfl (by decide) ?_
  obtain ⟨hc1, h⟩ := h
  refine gz_ic_gt (pc' := 8) (pt := 69) d_67_5 (by decide) rfl hc1 (s32 (z := 11)) (fun c => ?_) (fun c => ?_)
  · replace h := h.1 c
    refine g_iconst (pc' := 70) d_67_69 rfl rfl ?_
    exact g_zret d_67_70 rt_67 (Or.inl rfl) h
  · replace h := h.2 c
    refine g_iloadn (pc' := 9) d_67_8 rfl rfl ?_
    refine g_gets (pc' := 12) d_67_9 rfl st_67_104 (Or.inr rfl) ?_
    refine g_lenp (pc' := 13) d_67_12 rfl hC.noP ?_
    refine gz_ic_ge (pc' := 16) (pt := 69) d_67_13 (by decide) rfl hc1 (s32 (z := 46)) (fun c => ?_) (fun c => ?_)
    · replace h := h.1 c
      refine g_iconst (pc' := 70) d_67_69 rfl rfl ?_
      exact g_zret d_67_70 rt_67 (Or.inl rfl) h
    · replace h := h.2 c
      refine g_gets (pc' := 19) d_67_16 rfl st_67_104 (Or.inr rfl) ?_
      refine g_iloadn (pc' := 20) d_67_19 rfl rfl ?_
      obtain ⟨hc2, h⟩ := h
      refine gz_pald (pc' := 21) d_67_20 rfl hC.noP hc2 ?_
      refine g_istoren (pc' := 22) (l' := [some (.ref 23), some (.int (jI z1)), some (.int (jI z2)), some (.int (jI (prZ (z2).toNat))), none]) d_67_21 rfl ml_67 rfl rfl ?_
      refine g_iloadn (pc' := 23) d_67_22 rfl rfl ?_
      refine g_iloadn (pc' := 24) d_67_23 rfl rfl ?_
      refine gz_isub (pc' := 25) d_67_24 rfl ?_
      refine g_iconst (pc' := 26) d_67_25 rfl rfl ?_
      refine gz_iadd (pc' := 27) d_67_26 rfl ?_
      refine g_istore (pc' := 29) (l' := [some (.ref 23), some (.int (jI z1)), some (.int (jI z2)), some (.int (jI (prZ (z2).toNat))), some (.int (jI ((z1 - (prZ (z2).toNat)) + 1)))]) d_67_27 rfl ml_67 rfl rfl ?_
      exact h
theorem Z_67_29 {z1 : Int} {z2 : Int} {z3 : Int} {z4 : Int} {w : xW} {r : Option Value × xW} (hC : CS w) (h : in32 z4 ∧ (z4 < 2 → xGo 67 2 [some (.ref 23), some (.int (jI z1)), some (.int (jI (z2 + 1))), none, none] [] w r) ∧ (2 ≤ z4 → ∃ r5 w2, xCall 68 [.ref 23, .int (jI z3), .int (jI z4), .int (jI z1)] w (some (.int (jI r5)), w2) ∧ CS w2 ∧ in32 r5 ∧ (r5 ≤ 0 → ∃ r10 w7, xCall 71 [.int (jI (z3 - 1)), .int (jI 1)] w2 (some (.int (jI r10)), w7) ∧ CS w7 ∧ xGo 67 29 [some (.ref 23), some (.int (jI z1)), some (.int (jI z2)), some (.int (jI z3)), some (.int (jI (z4 - r10)))] [] w7 r) ∧ (0 < r5 → r = (some (.int (jI 1)), w2)))) : xGo 67 29 [some (.ref 23), some (.int (jI z1)), some (.int (jI z2)), some (.int (jI z3)), some (.int (jI z4))] [] w r := by
  refine g_iload (pc' := 31) d_67_29 rfl rfl ?_
  refine g_iconst (pc' := 32) d_67_31 rfl rfl ?_
  obtain ⟨hc1, h⟩ := h
  refine gz_ic_lt (pc' := 35) (pt := 63) d_67_32 (by decide) rfl hc1 (s32 (z := 2)) (fun c => ?_) (fun c => ?_)
  · replace h := h.1 c
    refine gz_iinc (pc' := 66) (l' := [some (.ref 23), some (.int (jI z1)), some (.int (jI (z2 + 1))), some (.int (jI z3)), some (.int (jI z4))]) d_67_63 rfl rfl ml_67 rfl rfl ?_
    refine g_goto (pt := 2) d_67_66 (by decide) ?_
    exact xGo.more (xle_s (xle_s (xle_s (xle_n (xle_n xle_0))))) h
  · replace h := h.2 c
    refine g_aloadn (pc' := 36) d_67_35 rfl rfl ?_
    refine g_iloadn (pc' := 37) d_67_36 rfl rfl ?_
    refine g_iload (pc' := 39) d_67_37 rfl rfl ?_
    refine g_iloadn (pc' := 40) d_67_39 rfl rfl ?_
    obtain ⟨r5, w2, hk3, hC4, h⟩ := h
    refine gz_callV (pc' := 43) d_67_40 rfl st_67_119 na_68 ml_68 rfl rfl rfl rm_67_68 rfl rfl ow_68 (ko_23 hC) hk3 ?_
    obtain ⟨hc6, h⟩ := h
    refine gz_if_le (pc' := 46) (pt := 48) d_67_43 (by decide) rfl hc6 (fun c => ?_) (fun c => ?_)
    · replace h := h.1 c
      refine g_iload (pc' := 50) d_67_48 rfl rfl ?_
      refine g_iloadn (pc' := 51) d_67_50 rfl rfl ?_
      refine g_iconst (pc' := 52) d_67_51 rfl rfl ?_
      refine gz_isub (pc' := 53) d_67_52 rfl ?_
      refine g_iconst (pc' := 54) d_67_53 rfl rfl ?_
      obtain ⟨r10, w7, hk8, hC9, h⟩ := h
      refine g_callS (pc' := 57) d_67_54 rfl st_67_123 (Or.inl rfl) na_71 ml_71 rfl rfl rfl rm_67_71 rfl rfl hk8 ?_
      refine gz_isub (pc' := 58) d_67_57 rfl ?_
      refine g_istore (pc' := 60) (l' := [some (.ref 23), some (.int (jI z1)), some (.int (jI z2)), some (.int (jI z3)), some (.int (jI (z4 - r10)))]) d_67_58 rfl ml_67 rfl rfl ?_
      refine g_goto (pt := 29) d_67_60 (by decide) ?_
      exact h
    · replace h := h.2 c
      refine g_iconst (pc' := 47) d_67_46 rfl rfl ?_
      exact g_zret d_67_47 rt_67 (Or.inr rfl) h
theorem Z_68_0 {z1 : Int} {z2 : Int} {z3 : Int} {w : xW} {r : Option Value × xW} (hC : CS w) (h : ∃ (P4 : Prop) (dP5 : Decidable P4) (w1 : xW), xCall 69 [.ref 23, .int (jI z1), .int (jI z2)] w (some (.int (bz P4)), w1) ∧ CS w1 ∧ (¬ P4 → r = (some (.int (jI (-3))), w1)) ∧ (P4 → ∃ (P9 : Prop) (dP10 : Decidable P9) (w6 : xW), xCall 69 [.ref 23, .int (jI z1), .int (jI z3)] w1 (some (.int (bz P9)), w6) ∧ CS w6 ∧ (¬ P9 → r = (some (.int (jI (-3))), w6)) ∧ (P9 → in32 (z2 - z3) ∧ in32 (z1 - 1) ∧ z1 - 1 ≠ 0 ∧ ∃ y14, Int.tmod (z2 - z3) (z1 - 1) = y14 ∧ in32 y14 ∧ (y14 = 0 → in32 z1 ∧ ∃ r21 w18, xCall 70 [.ref 23, .int (jI z2), .long (jL z1)] w6 (some (.long (jL r21)), w18) ∧ CS w18 ∧ ∃ r25 w22, xCall 70 [.ref 23, .int (jI z3), .long (jL z1)] w18 (some (.long (jL r25)), w22) ∧ CS w22 ∧ ∃ r29 w26, xCall 54 [.long (jL (r21 - r25)), .long (jL z1)] w22 (some (.long (jL r29)), w26) ∧ CS w26 ∧ r = (some (.int (jI r29)), w26)) ∧ (y14 ≠ 0 → r = (some (.int (jI (-3))), w6))))) : xGo 68 0 [some (.ref 23), some (.int (jI z1)), some (.int (jI z2)), some (.int (jI z3))] [] w r := by
  refine g_aloadn (pc' := 1) d_68_0 rfl rfl ?_
  refine g_iloadn (pc' := 2) d_68_1 rfl rfl ?_
  refine g_iloadn (pc' := 3) d_68_2 rfl rfl ?_
  obtain ⟨P4, dP5, w1, hk2, hC3, h⟩ := h
  refine gz_callV (pc' := 6) d_68_3 rfl st_68_66 na_69 ml_69 rfl rfl rfl rm_68_69 rfl rfl ow_69 (ko_23 hC) hk2 ?_
  refine gz_bt_eq (pc' := 9) (pt := 28) d_68_6 (by decide) rfl (fun c => ?_) (fun c => ?_)
  · replace h := h.1 c
    refine g_bipush (pc' := 30) (v := jI (-3)) d_68_28 rfl (by decide) ?_
    exact g_iret d_68_30 rt_68 h
  · replace h := h.2 c
    refine g_aloadn (pc' := 10) d_68_9 rfl rfl ?_
    refine g_iloadn (pc' := 11) d_68_10 rfl rfl ?_
    refine g_iloadn (pc' := 12) d_68_11 rfl rfl ?_
    obtain ⟨P9, dP10, w6, hk7, hC8, h⟩ := h
    refine gz_callV (pc' := 15) d_68_12 rfl st_68_66 na_69 ml_69 rfl rfl rfl rm_68_69 rfl rfl ow_69 (ko_23 hC3) hk7 ?_
    refine gz_bt_eq (pc' := 18) (pt := 28) d_68_15 (by decide) rfl (fun c => ?_) (fun c => ?_)
    · replace h := h.1 c
      refine g_bipush (pc' := 30) (v := jI (-3)) d_68_28 rfl (by decide) ?_
      exact g_iret d_68_30 rt_68 h
    · replace h := h.2 c
      refine g_iloadn (pc' := 19) d_68_18 rfl rfl ?_
      refine g_iloadn (pc' := 20) d_68_19 rfl rfl ?_
      refine gz_isub (pc' := 21) d_68_20 rfl ?_
      refine g_iloadn (pc' := 22) d_68_21 rfl rfl ?_
      refine g_iconst (pc' := 23) d_68_22 rfl rfl ?_
      refine gz_isub (pc' := 24) d_68_23 rfl ?_
      obtain ⟨hc11, h⟩ := h
      obtain ⟨hc12, h⟩ := h
      obtain ⟨hc13, h⟩ := h
      obtain ⟨y14, hz15, h⟩ := h
      refine gz_irem (pc' := 25) d_68_24 rfl hc11 hc12 hc13 hz15 ?_
      obtain ⟨hc16, h⟩ := h
      refine gz_if_eq (pc' := 28) (pt := 31) d_68_25 (by decide) rfl hc16 (fun c => ?_) (fun c => ?_)
      · replace h := h.1 c
        refine g_aloadn (pc' := 32) d_68_31 rfl rfl ?_
        refine g_iloadn (pc' := 33) d_68_32 rfl rfl ?_
        refine g_iloadn (pc' := 34) d_68_33 rfl rfl ?_
        obtain ⟨hc17, h⟩ := h
        refine gz_i2l (pc' := 35) d_68_34 rfl hc17 ?_
        obtain ⟨r21, w18, hk19, hC20, h⟩ := h
        refine gz_callV (pc' := 38) d_68_35 rfl st_68_70 na_70 ml_70 rfl rfl rfl rm_68_70 rfl rfl ow_70 (ko_23 hC8) hk19 ?_
        refine g_aloadn (pc' := 39) d_68_38 rfl rfl ?_
        refine g_iloadn (pc' := 40) d_68_39 rfl rfl ?_
        refine g_iloadn (pc' := 41) d_68_40 rfl rfl ?_
        refine gz_i2l (pc' := 42) d_68_41 rfl hc17 ?_
        obtain ⟨r25, w22, hk23, hC24, h⟩ := h
        refine gz_callV (pc' := 45) d_68_42 rfl st_68_70 na_70 ml_70 rfl rfl rfl rm_68_70 rfl rfl ow_70 (ko_23 hC20) hk23 ?_
        refine gz_lsub (pc' := 46) d_68_45 rfl ?_
        refine g_iloadn (pc' := 47) d_68_46 rfl rfl ?_
        refine gz_i2l (pc' := 48) d_68_47 rfl hc17 ?_
        obtain ⟨r29, w26, hk27, hC28, h⟩ := h
        refine g_callS (pc' := 51) d_68_48 rfl st_68_74 (Or.inl rfl) na_54 ml_54 rfl rfl rfl rm_68_54 rfl rfl hk27 ?_
        refine gz_l2i (pc' := 52) d_68_51 rfl ?_
        exact g_iret d_68_52 rt_68 h
      · replace h := h.2 c
        refine g_bipush (pc' := 30) (v := jI (-3)) d_68_28 rfl (by decide) ?_
        exact g_iret d_68_30 rt_68 h
theorem Z_68 {z1 : Int} {z2 : Int} {z3 : Int} {w : xW} {r : Option Value × xW} (hC : CS w) (h : ∃ (P4 : Prop) (dP5 : Decidable P4) (w1 : xW), xCall 69 [.ref 23, .int (jI z1), .int (jI z2)] w (some (.int (bz P4)), w1) ∧ CS w1 ∧ (¬ P4 → r = (some (.int (jI (-3))), w1)) ∧ (P4 → ∃ (P9 : Prop) (dP10 : Decidable P9) (w6 : xW), xCall 69 [.ref 23, .int (jI z1), .int (jI z3)] w1 (some (.int (bz P9)), w6) ∧ CS w6 ∧ (¬ P9 → r = (some (.int (jI (-3))), w6)) ∧ (P9 → in32 (z2 - z3) ∧ in32 (z1 - 1) ∧ z1 - 1 ≠ 0 ∧ ∃ y14, Int.tmod (z2 - z3) (z1 - 1) = y14 ∧ in32 y14 ∧ (y14 = 0 → in32 z1 ∧ ∃ r21 w18, xCall 70 [.ref 23, .int (jI z2), .long (jL z1)] w6 (some (.long (jL r21)), w18) ∧ CS w18 ∧ ∃ r25 w22, xCall 70 [.ref 23, .int (jI z3), .long (jL z1)] w18 (some (.long (jL r25)), w22) ∧ CS w22 ∧ ∃ r29 w26, xCall 54 [.long (jL (r21 - r25)), .long (jL z1)] w22 (some (.long (jL r29)), w26) ∧ CS w26 ∧ r = (some (.int (jI r29)), w26)) ∧ (y14 ≠ 0 → r = (some (.int (jI (-3))), w6))))) : xCall 68 [.ref 23, .int (jI z1), .int (jI z2), .int (jI z3)] w r := E_68 (Z_68_0 hC h)
theorem Z_69_0 {z1 : Int} {z2 : Int} {w : xW} {r : Option Value × xW} (hC : CS w) (h : in32 z1 ∧ (z1 ≤ 1 → r = (some (.int (jI 0)), w)) ∧ (1 < z1 → ∃ (P5 : Prop) (dP6 : Decidable P5) (w2 : xW), xCall 47 [.int (jI z2)] w (some (.int (bz P5)), w2) ∧ CS w2 ∧ (¬ P5 → r = (some (.int (jI 0)), w2)) ∧ (P5 → in32 z2 ∧ in32 (z1 - 1) ∧ z1 - 1 ≠ 0 ∧ ∃ y10, Int.tmod z2 (z1 - 1) = y10 ∧ in32 y10 ∧ (y10 = 0 → r = (some (.int (jI 0)), w2)) ∧ (y10 ≠ 0 → z1 ≠ 0 ∧ ∃ y14, Int.tmod z2 z1 = y14 ∧ in32 y14 ∧ (y14 = 0 → r = (some (.int (jI 0)), w2)) ∧ (y14 ≠ 0 → ∃ r20 w17, xCall 31 [.ref 12, .int (jI z2)] w2 (some (.long (jL r20)), w17) ∧ CS w17 ∧ in64 r20 ∧ z1 ≠ 0 ∧ ∃ y23, Int.tmod r20 z1 = y23 ∧ in64 y23 ∧ (y23 = 0 → r = (some (.int (jI 0)), w17)) ∧ (y23 ≠ 0 → r = (some (.int (jI 1)), w17))))))) : xGo 69 0 [some (.ref 23), some (.int (jI z1)), some (.int (jI z2))] [] w r := by
  refine g_iloadn (pc' := 1) d_69_0 rfl rfl ?_
  refine g_iconst (pc' := 2) d_69_1 rfl rfl ?_
  obtain ⟨hc1, h⟩ := h
  refine gz_ic_le (pc' := 5) (pt := 46) d_69_2 (by decide) rfl hc1 (s32 (z := 1)) (fun c => ?_) (fun c => ?_)
  · replace h := h.1 c
    refine g_iconst (pc' := 47) d_69_46 rfl rfl ?_
    exact g_zret d_69_47 rt_69 (Or.inl rfl) h
  · replace h := h.2 c
    refine g_iloadn (pc' := 6) d_69_5 rfl rfl ?_
    obtain ⟨P5, dP6, w2, hk3, hC4, h⟩ := h
    refine g_callS (pc' := 9) d_69_6 rfl st_69_84 (Or.inr rfl) na_47 ml_47 rfl rfl rfl rm_69_47 rfl rfl hk3 ?_
    refine gz_bt_eq (pc' := 12) (pt := 46) d_69_9 (by decide) rfl (fun c => ?_) (fun c => ?_)
    · replace h := h.1 c
      refine g_iconst (pc' := 47) d_69_46 rfl rfl ?_
      exact g_zret d_69_47 rt_69 (Or.inl rfl) h
    · replace h := h.2 c
      refine g_iloadn (pc' := 13) d_69_12 rfl rfl ?_
      refine g_iloadn (pc' := 14) d_69_13 rfl rfl ?_
      refine g_iconst (pc' := 15) d_69_14 rfl rfl ?_
      refine gz_isub (pc' := 16) d_69_15 rfl ?_
      obtain ⟨hc7, h⟩ := h
      obtain ⟨hc8, h⟩ := h
      obtain ⟨hc9, h⟩ := h
      obtain ⟨y10, hz11, h⟩ := h
      refine gz_irem (pc' := 17) d_69_16 rfl hc7 hc8 hc9 hz11 ?_
      obtain ⟨hc12, h⟩ := h
      refine gz_if_eq (pc' := 20) (pt := 46) d_69_17 (by decide) rfl hc12 (fun c => ?_) (fun c => ?_)
      · replace h := h.1 c
        refine g_iconst (pc' := 47) d_69_46 rfl rfl ?_
        exact g_zret d_69_47 rt_69 (Or.inl rfl) h
      · replace h := h.2 c
        refine g_iloadn (pc' := 21) d_69_20 rfl rfl ?_
        refine g_iloadn (pc' := 22) d_69_21 rfl rfl ?_
        obtain ⟨hc13, h⟩ := h
        obtain ⟨y14, hz15, h⟩ := h
        refine gz_irem (pc' := 23) d_69_22 rfl hc7 hc1 hc13 hz15 ?_
        obtain ⟨hc16, h⟩ := h
        refine gz_if_eq (pc' := 26) (pt := 46) d_69_23 (by decide) rfl hc16 (fun c => ?_) (fun c => ?_)
        · replace h := h.1 c
          refine g_iconst (pc' := 47) d_69_46 rfl rfl ?_
          exact g_zret d_69_47 rt_69 (Or.inl rfl) h
        · replace h := h.2 c
          refine g_aloadn (pc' := 27) d_69_26 rfl rfl ?_
          refine gz_getR (pc' := 30) d_69_27 rfl st_69_9 (kr_23_0 hC4) ?_
          refine g_iloadn (pc' := 31) d_69_30 rfl rfl ?_
          obtain ⟨r20, w17, hk18, hC19, h⟩ := h
          refine gz_callV (pc' := 34) d_69_31 rfl st_69_87 na_31 ml_31 rfl rfl rfl rm_69_31 rfl rfl ow_31 (ko_12 hC4) hk18 ?_
          refine g_iloadn (pc' := 35) d_69_34 rfl rfl ?_
          refine gz_i2l (pc' := 36) d_69_35 rfl hc1 ?_
          obtain ⟨hc21, h⟩ := h
          obtain ⟨hc22, h⟩ := h
          obtain ⟨y23, hz24, h⟩ := h
          refine gz_lrem (pc' := 37) d_69_36 rfl hc21 (in3264 hc1) hc22 hz24 ?_
          refine g_lconst (pc' := 38) (v := jL 0) d_69_37 rfl cl_0 ?_
          obtain ⟨hc25, h⟩ := h
          refine gz_lc_eq (pc' := 42) (pm := 39) (pt := 46) d_69_38 rfl d_69_39 (by decide) rfl hc25 (s64 (z := 0)) (fun c => ?_) (fun c => ?_)
          · replace h := h.1 c
            refine g_iconst (pc' := 47) d_69_46 rfl rfl ?_
            exact g_zret d_69_47 rt_69 (Or.inl rfl) h
          · replace h := h.2 c
            refine g_iconst (pc' := 43) d_69_42 rfl rfl ?_
            refine g_goto (pt := 47) d_69_43 (by decide) ?_
            exact g_zret d_69_47 rt_69 (Or.inr rfl) h
theorem Z_69 {z1 : Int} {z2 : Int} {w : xW} {r : Option Value × xW} (hC : CS w) (h : in32 z1 ∧ (z1 ≤ 1 → r = (some (.int (jI 0)), w)) ∧ (1 < z1 → ∃ (P5 : Prop) (dP6 : Decidable P5) (w2 : xW), xCall 47 [.int (jI z2)] w (some (.int (bz P5)), w2) ∧ CS w2 ∧ (¬ P5 → r = (some (.int (jI 0)), w2)) ∧ (P5 → in32 z2 ∧ in32 (z1 - 1) ∧ z1 - 1 ≠ 0 ∧ ∃ y10, Int.tmod z2 (z1 - 1) = y10 ∧ in32 y10 ∧ (y10 = 0 → r = (some (.int (jI 0)), w2)) ∧ (y10 ≠ 0 → z1 ≠ 0 ∧ ∃ y14, Int.tmod z2 z1 = y14 ∧ in32 y14 ∧ (y14 = 0 → r = (some (.int (jI 0)), w2)) ∧ (y14 ≠ 0 → ∃ r20 w17, xCall 31 [.ref 12, .int (jI z2)] w2 (some (.long (jL r20)), w17) ∧ CS w17 ∧ in64 r20 ∧ z1 ≠ 0 ∧ ∃ y23, Int.tmod r20 z1 = y23 ∧ in64 y23 ∧ (y23 = 0 → r = (some (.int (jI 0)), w17)) ∧ (y23 ≠ 0 → r = (some (.int (jI 1)), w17))))))) : xCall 69 [.ref 23, .int (jI z1), .int (jI z2)] w r := E_69 (Z_69_0 hC h)
theorem Z_70_0 {z1 : Int} {z2 : Int} {w : xW} {r : Option Value × xW} (hC : CS w) (h : in64 z2 ∧ (0 < z2 → ∃ r5 w2, xCall 31 [.ref 12, .int (jI z1)] w (some (.long (jL r5)), w2) ∧ CS w2 ∧ ∃ r9 w6, xCall 29 [.ref 12, .int (jI z1)] w2 (some (.long (jL r9)), w6) ∧ CS w6 ∧ in64 r9 ∧ z2 ≠ 0 ∧ ∃ y12, Int.tmod r9 z2 = y12 ∧ ∃ r17 w14, xCall 30 [.ref 12, .int (jI z1)] w6 (some (.long (jL r17)), w14) ∧ CS w14 ∧ in64 ((y12 * r5) + r17) ∧ z2 ≠ 0 ∧ ∃ y20, Int.tmod ((y12 * r5) + r17) z2 = y20 ∧ in32 z1 ∧ ∃ r26 w23, xCall 53 [.long (jL (z1 * r5)), .long (jL z2)] w14 (some (.long (jL r26)), w23) ∧ CS w23 ∧ in64 (y20 * r26) ∧ z2 ≠ 0 ∧ ∃ y29, Int.tmod (y20 * r26) z2 = y29 ∧ r = (some (.long (jL y29)), w23)) ∧ (z2 ≤ 0 → r = (some (.long (jL 0)), w))) : xGo 70 0 [some (.ref 23), some (.int (jI z1)), some (.long (jL z2)), none, none, none, none, none] [] w r := by
  refine g_lloadn (pc' := 1) d_70_0 rfl rfl ?_
  refine g_lconst (pc' := 2) (v := jL 0) d_70_1 rfl cl_0 ?_
  obtain ⟨hc1, h⟩ := h
  refine gz_lc_gt (pc' := 6) (pm := 3) (pt := 8) d_70_2 rfl d_70_3 (by decide) rfl hc1 (s64 (z := 0)) (fun c => ?_) (fun c => ?_)
  · replace h := h.1 c
    refine g_aloadn (pc' := 9) d_70_8 rfl rfl ?_
    refine gz_getR (pc' := 12) d_70_9 rfl st_70_9 (kr_23_0 hC) ?_
    refine g_iloadn (pc' := 13) d_70_12 rfl rfl ?_
    obtain ⟨r5, w2, hk3, hC4, h⟩ := h
    refine gz_callV (pc' := 16) d_70_13 rfl st_70_87 na_31 ml_31 rfl rfl rfl rm_70_31 rfl rfl ow_31 (ko_12 hC) hk3 ?_
    refine g_lstore (pc' := 18) (l' := [some (.ref 23), some (.int (jI z1)), some (.long (jL z2)), none, some (.long (jL r5)), none, none, none]) d_70_16 rfl ml_70 rfl rfl ?_
    refine g_aloadn (pc' := 19) d_70_18 rfl rfl ?_
    refine gz_getR (pc' := 22) d_70_19 rfl st_70_9 (kr_23_0 hC4) ?_
    refine g_iloadn (pc' := 23) d_70_22 rfl rfl ?_
    obtain ⟨r9, w6, hk7, hC8, h⟩ := h
    refine gz_callV (pc' := 26) d_70_23 rfl st_70_91 na_29 ml_29 rfl rfl rfl rm_70_29 rfl rfl ow_29 (ko_12 hC4) hk7 ?_
    refine g_lloadn (pc' := 27) d_70_26 rfl rfl ?_
    obtain ⟨hc10, h⟩ := h
    obtain ⟨hc11, h⟩ := h
    obtain ⟨y12, hz13, h⟩ := h
    refine gz_lrem (pc' := 28) d_70_27 rfl hc10 hc1 hc11 hz13 ?_
    refine g_lload (pc' := 30) d_70_28 rfl rfl ?_
    refine gz_lmul (pc' := 31) d_70_30 rfl ?_
    refine g_aloadn (pc' := 32) d_70_31 rfl rfl ?_
    refine gz_getR (pc' := 35) d_70_32 rfl st_70_9 (kr_23_0 hC8) ?_
    refine g_iloadn (pc' := 36) d_70_35 rfl rfl ?_
    obtain ⟨r17, w14, hk15, hC16, h⟩ := h
    refine gz_callV (pc' := 39) d_70_36 rfl st_70_94 na_30 ml_30 rfl rfl rfl rm_70_30 rfl rfl ow_30 (ko_12 hC8) hk15 ?_
    refine gz_ladd (pc' := 40) d_70_39 rfl ?_
    refine g_lstore (pc' := 42) (l' := [some (.ref 23), some (.int (jI z1)), some (.long (jL z2)), none, some (.long (jL r5)), none, some (.long (jL ((y12 * r5) + r17))), none]) d_70_40 rfl ml_70 rfl rfl ?_
    refine g_lload (pc' := 44) d_70_42 rfl rfl ?_
    refine g_lloadn (pc' := 45) d_70_44 rfl rfl ?_
    obtain ⟨hc18, h⟩ := h
    obtain ⟨hc19, h⟩ := h
    obtain ⟨y20, hz21, h⟩ := h
    refine gz_lrem (pc' := 46) d_70_45 rfl hc18 hc1 hc19 hz21 ?_
    refine g_iloadn (pc' := 47) d_70_46 rfl rfl ?_
    obtain ⟨hc22, h⟩ := h
    refine gz_i2l (pc' := 48) d_70_47 rfl hc22 ?_
    refine g_lload (pc' := 50) d_70_48 rfl rfl ?_
    refine gz_lmul (pc' := 51) d_70_50 rfl ?_
    refine g_lloadn (pc' := 52) d_70_51 rfl rfl ?_
    obtain ⟨r26, w23, hk24, hC25, h⟩ := h
    refine g_callS (pc' := 55) d_70_52 rfl st_70_97 (Or.inl rfl) na_53 ml_53 rfl rfl rfl rm_70_53 rfl rfl hk24 ?_
    refine gz_lmul (pc' := 56) d_70_55 rfl ?_
    refine g_lloadn (pc' := 57) d_70_56 rfl rfl ?_
    obtain ⟨hc27, h⟩ := h
    obtain ⟨hc28, h⟩ := h
    obtain ⟨y29, hz30, h⟩ := h
    refine gz_lrem (pc' := 58) d_70_57 rfl hc27 hc1 hc28 hz30 ?_
    exact g_lret d_70_58 rt_70 h
  · replace h := h.2 c
    refine g_lconst (pc' := 7) (v := jL 0) d_70_6 rfl cl_0 ?_
    exact g_lret d_70_7 rt_70 h
theorem Z_70 {z1 : Int} {z2 : Int} {w : xW} {r : Option Value × xW} (hC : CS w) (h : in64 z2 ∧ (0 < z2 → ∃ r5 w2, xCall 31 [.ref 12, .int (jI z1)] w (some (.long (jL r5)), w2) ∧ CS w2 ∧ ∃ r9 w6, xCall 29 [.ref 12, .int (jI z1)] w2 (some (.long (jL r9)), w6) ∧ CS w6 ∧ in64 r9 ∧ z2 ≠ 0 ∧ ∃ y12, Int.tmod r9 z2 = y12 ∧ ∃ r17 w14, xCall 30 [.ref 12, .int (jI z1)] w6 (some (.long (jL r17)), w14) ∧ CS w14 ∧ in64 ((y12 * r5) + r17) ∧ z2 ≠ 0 ∧ ∃ y20, Int.tmod ((y12 * r5) + r17) z2 = y20 ∧ in32 z1 ∧ ∃ r26 w23, xCall 53 [.long (jL (z1 * r5)), .long (jL z2)] w14 (some (.long (jL r26)), w23) ∧ CS w23 ∧ in64 (y20 * r26) ∧ z2 ≠ 0 ∧ ∃ y29, Int.tmod (y20 * r26) z2 = y29 ∧ r = (some (.long (jL y29)), w23)) ∧ (z2 ≤ 0 → r = (some (.long (jL 0)), w))) : xCall 70 [.ref 23, .int (jI z1), .long (jL z2)] w r := E_70 (Z_70_0 hC h)
theorem Z_71_0 {z0 : Int} {z1 : Int} {w : xW} {r : Option Value × xW} (hC : CS w) (h : in32 z0 ∧ in32 z1 ∧ (z0 < z1 → r = (some (.int (jI z1)), w)) ∧ (z1 ≤ z0 → r = (some (.int (jI z0)), w))) : xGo 71 0 [some (.int (jI z0)), some (.int (jI z1))] [] w r := by
  refine g_iloadn (pc' := 1) d_71_0 rfl rfl ?_
  refine g_iloadn (pc' := 2) d_71_1 rfl rfl ?_
  obtain ⟨hc1, h⟩ := h
  obtain ⟨hc2, h⟩ := h
  refine gz_ic_lt (pc' := 5) (pt := 9) d_71_2 (by decide) rfl hc1 hc2 (fun c => ?_) (fun c => ?_)
  · replace h := h.1 c
    refine g_iloadn (pc' := 10) d_71_9 rfl rfl ?_
    exact g_iret d_71_10 rt_71 h
  · replace h := h.2 c
    refine g_iloadn (pc' := 6) d_71_5 rfl rfl ?_
    refine g_goto (pt := 10) d_71_6 (by decide) ?_
    exact g_iret d_71_10 rt_71 h
theorem Z_71 {z0 : Int} {z1 : Int} {w : xW} {r : Option Value × xW} (hC : CS w) (h : in32 z0 ∧ in32 z1 ∧ (z0 < z1 → r = (some (.int (jI z1)), w)) ∧ (z1 ≤ z0 → r = (some (.int (jI z0)), w))) : xCall 71 [.int (jI z0), .int (jI z1)] w r := E_71 (Z_71_0 hC h)
theorem Z_72_0 {z1 : Int} {w : xW} {r : Option Value × xW} (hC : CS w) (h : ∃ (P4 : Prop) (dP5 : Decidable P4) (w1 : xW), xCall 47 [.int (jI z1)] w (some (.int (bz P4)), w1) ∧ CS w1 ∧ (P4 → xGo 72 11 [some (.ref 23), some (.int (jI z1)), some (.int (jI 2)), none] [] w1 r) ∧ (¬ P4 → r = (some (.int (jI 0)), w1))) : xGo 72 0 [some (.ref 23), some (.int (jI z1)), none, none] [] w r := by
  refine g_iloadn (pc' := 1) d_72_0 rfl rfl ?_
  obtain ⟨P4, dP5, w1, hk2, hC3, h⟩ := h
  refine g_callS (pc' := 4) d_72_1 rfl st_72_84 (Or.inr rfl) na_47 ml_47 rfl rfl rfl rm_72_47 rfl rfl hk2 ?_
  refine gz_bt_ne (pc' := 7) (pt := 9) d_72_4 (by decide) rfl (fun c => ?_) (fun c => ?_)
  · replace h := h.1 c
    refine g_iconst (pc' := 10) d_72_9 rfl rfl ?_
    refine g_istoren (pc' := 11) (l' := [some (.ref 23), some (.int (jI z1)), some (.int (jI 2)), none]) d_72_10 rfl ml_72 rfl rfl ?_
    exact h
  · replace h := h.2 c
    refine g_iconst (pc' := 8) d_72_7 rfl rfl ?_
    exact g_zret d_72_8 rt_72 (Or.inl rfl) h
theorem Z_72 {z1 : Int} {w : xW} {r : Option Value × xW} (hC : CS w) (h : ∃ (P4 : Prop) (dP5 : Decidable P4) (w1 : xW), xCall 47 [.int (jI z1)] w (some (.int (bz P4)), w1) ∧ CS w1 ∧ (P4 → xGo 72 11 [some (.ref 23), some (.int (jI z1)), some (.int (jI 2)), none] [] w1 r) ∧ (¬ P4 → r = (some (.int (jI 0)), w1))) : xCall 72 [.ref 23, .int (jI z1)] w r := E_72 (Z_72_0 hC h)
theorem Z_72_11 {z1 : Int} {z2 : Int} {w : xW} {r : Option Value × xW} (hC : CS w) (h : in32 z2 ∧ (46 ≤ z2 → r = (some (.int (jI 0)), w)) ∧ (z2 < 46 → (0 ≤ z2 ∧ z2 < 46) ∧ (prZ (z2).toNat < 2 → xGo 72 11 [some (.ref 23), some (.int (jI z1)), some (.int (jI (z2 + 1))), none] [] w r) ∧ (2 ≤ prZ (z2).toNat → in32 z1 ∧ (z1 < prZ (z2).toNat → xGo 72 11 [some (.ref 23), some (.int (jI z1)), some (.int (jI (z2 + 1))), none] [] w r) ∧ (prZ (z2).toNat ≤ z1 → prZ (z2).toNat ≠ 0 ∧ ∃ y5, Int.tmod z1 (prZ (z2).toNat) = y5 ∧ in32 y5 ∧ (y5 ≠ 0 → xGo 72 11 [some (.ref 23), some (.int (jI z1)), some (.int (jI (z2 + 1))), none] [] w r) ∧ (y5 = 0 → in32 ((prZ (z2).toNat) - 1) ∧ (prZ (z2).toNat) - 1 ≠ 0 ∧ ∃ y10, Int.tmod z1 ((prZ (z2).toNat) - 1) = y10 ∧ in32 y10 ∧ (y10 ≠ 0 → ∃ r16 w13, xCall 31 [.ref 12, .int (jI z1)] w (some (.long (jL r16)), w13) ∧ CS w13 ∧ in64 r16 ∧ prZ (z2).toNat ≠ 0 ∧ ∃ y19, Int.tmod r16 (prZ (z2).toNat) = y19 ∧ in64 y19 ∧ (y19 = 0 → r = (some (.int (jI 1)), w13)) ∧ (y19 ≠ 0 → ∃ r25 w22, xCall 73 [.ref 12, .int (jI z1), .long (jL (prZ (z2).toNat))] w13 (some (.long (jL r25)), w22) ∧ CS w22 ∧ in64 r25 ∧ (r25 = 0 → xGo 72 11 [some (.ref 23), some (.int (jI z1)), some (.int (jI (z2 + 1))), none] [] w22 r) ∧ (r25 ≠ 0 → r = (some (.int (jI 1)), w22)))) ∧ (y10 = 0 → xGo 72 11 [some (.ref 23), some (.int (jI z1)), some (.int (jI (z2 + 1))), none] [] w r)))))) : xGo 72 11 [some (.ref 23), some (.int (jI z1)), some (.int (jI z2)), none] [] w r := by
  refine g_iloadn (pc' := 12) d_72_11 rfl rfl ?_
  refine g_gets (pc' := 15) d_72_12 rfl st_72_104 (Or.inr rfl) ?_
  refine g_lenp (pc' := 16) d_72_15 rfl hC.noP ?_
  obtain ⟨hc1, h⟩ := h
  refine gz_ic_ge (pc' := 19) (pt := 91) d_72_16 (by decide) rfl hc1 (s32 (z := 46)) (fun c => ?_) (fun c => ?_)
  · replace h := h.1 c
    refine g_iconst (pc' := 92) d_72_91 rfl rfl ?_
    exact g_zret d_72_92 rt_72 (Or.inl rfl) h
  · replace h := h.2 c
    refine g_gets (pc' := 22) d_72_19 rfl st_72_104 (Or.inr rfl) ?_
    refine g_iloadn (pc' := 23) d_72_22 rfl rfl ?_
    obtain ⟨hc2, h⟩ := h
    refine gz_pald (pc' := 24) d_72_23 rfl hC.noP hc2 ?_
    refine g_istoren (pc' := 25) (l' := [some (.ref 23), some (.int (jI z1)), some (.int (jI z2)), some (.int (jI (prZ (z2).toNat)))]) d_72_24 rfl ml_72 rfl rfl ?_
    refine g_iloadn (pc' := 26) d_72_25 rfl rfl ?_
    refine g_iconst (pc' := 27) d_72_26 rfl rfl ?_
    refine gz_ic_lt (pc' := 30) (pt := 85) d_72_27 (by decide) rfl (prZ_in _) (s32 (z := 2)) (fun c => ?_) (fun c => ?_)
    · replace h := h.1 c
      refine gz_iinc (pc' := 88) (l' := [some (.ref 23), some (.int (jI z1)), some (.int (jI (z2 + 1))), some (.int (jI (prZ (z2).toNat)))]) d_72_85 rfl rfl ml_72 rfl rfl ?_
      refine g_goto (pt := 11) d_72_88 (by decide) ?_
      exact xGo.more (xle_s (xle_s (xle_s (xle_n xle_0)))) h
    · replace h := h.2 c
      refine g_iloadn (pc' := 31) d_72_30 rfl rfl ?_
      refine g_iloadn (pc' := 32) d_72_31 rfl rfl ?_
      obtain ⟨hc3, h⟩ := h
      refine gz_ic_gt (pc' := 35) (pt := 85) d_72_32 (by decide) rfl (prZ_in _) hc3 (fun c => ?_) (fun c => ?_)
      · replace h := h.1 c
        refine gz_iinc (pc' := 88) (l' := [some (.ref 23), some (.int (jI z1)), some (.int (jI (z2 + 1))), some (.int (jI (prZ (z2).toNat)))]) d_72_85 rfl rfl ml_72 rfl rfl ?_
        refine g_goto (pt := 11) d_72_88 (by decide) ?_
        exact xGo.more (xle_s (xle_s (xle_s (xle_n xle_0)))) h
      · replace h := h.2 c
        refine g_iloadn (pc' := 36) d_72_35 rfl rfl ?_
        refine g_iloadn (pc' := 37) d_72_36 rfl rfl ?_
        obtain ⟨hc4, h⟩ := h
        obtain ⟨y5, hz6, h⟩ := h
        refine gz_irem (pc' := 38) d_72_37 rfl hc3 (prZ_in _) hc4 hz6 ?_
        obtain ⟨hc7, h⟩ := h
        refine gz_if_ne (pc' := 41) (pt := 85) d_72_38 (by decide) rfl hc7 (fun c => ?_) (fun c => ?_)
        · replace h := h.1 c
          refine gz_iinc (pc' := 88) (l' := [some (.ref 23), some (.int (jI z1)), some (.int (jI (z2 + 1))), some (.int (jI (prZ (z2).toNat)))]) d_72_85 rfl rfl ml_72 rfl rfl ?_
          refine g_goto (pt := 11) d_72_88 (by decide) ?_
          exact xGo.more (xle_s (xle_s (xle_s (xle_n xle_0)))) h
        · replace h := h.2 c
          refine g_iloadn (pc' := 42) d_72_41 rfl rfl ?_
          refine g_iloadn (pc' := 43) d_72_42 rfl rfl ?_
          refine g_iconst (pc' := 44) d_72_43 rfl rfl ?_
          refine gz_isub (pc' := 45) d_72_44 rfl ?_
          obtain ⟨hc8, h⟩ := h
          obtain ⟨hc9, h⟩ := h
          obtain ⟨y10, hz11, h⟩ := h
          refine gz_irem (pc' := 46) d_72_45 rfl hc3 hc8 hc9 hz11 ?_
          obtain ⟨hc12, h⟩ := h
          refine gz_if_ne (pc' := 49) (pt := 52) d_72_46 (by decide) rfl hc12 (fun c => ?_) (fun c => ?_)
          · replace h := h.1 c
            refine g_aloadn (pc' := 53) d_72_52 rfl rfl ?_
            refine gz_getR (pc' := 56) d_72_53 rfl st_72_9 (kr_23_0 hC) ?_
            refine g_iloadn (pc' := 57) d_72_56 rfl rfl ?_
            obtain ⟨r16, w13, hk14, hC15, h⟩ := h
            refine gz_callV (pc' := 60) d_72_57 rfl st_72_87 na_31 ml_31 rfl rfl rfl rm_72_31 rfl rfl ow_31 (ko_12 hC) hk14 ?_
            refine g_iloadn (pc' := 61) d_72_60 rfl rfl ?_
            refine gz_i2l (pc' := 62) d_72_61 rfl (prZ_in _) ?_
            obtain ⟨hc17, h⟩ := h
            obtain ⟨hc18, h⟩ := h
            obtain ⟨y19, hz20, h⟩ := h
            refine gz_lrem (pc' := 63) d_72_62 rfl hc17 (in3264 (prZ_in _)) hc18 hz20 ?_
            refine g_lconst (pc' := 64) (v := jL 0) d_72_63 rfl cl_0 ?_
            obtain ⟨hc21, h⟩ := h
            refine gz_lc_eq (pc' := 68) (pm := 65) (pt := 83) d_72_64 rfl d_72_65 (by decide) rfl hc21 (s64 (z := 0)) (fun c => ?_) (fun c => ?_)
            · replace h := h.1 c
              refine g_iconst (pc' := 84) d_72_83 rfl rfl ?_
              exact g_zret d_72_84 rt_72 (Or.inr rfl) h
            · replace h := h.2 c
              refine g_aloadn (pc' := 69) d_72_68 rfl rfl ?_
              refine gz_getR (pc' := 72) d_72_69 rfl st_72_9 (kr_23_0 hC15) ?_
              refine g_iloadn (pc' := 73) d_72_72 rfl rfl ?_
              refine g_iloadn (pc' := 74) d_72_73 rfl rfl ?_
              refine gz_i2l (pc' := 75) d_72_74 rfl (prZ_in _) ?_
              obtain ⟨r25, w22, hk23, hC24, h⟩ := h
              refine gz_callV (pc' := 78) d_72_75 rfl st_72_129 na_73 ml_73 rfl rfl rfl rm_72_73 rfl rfl ow_73 (ko_12 hC15) hk23 ?_
              refine g_lconst (pc' := 79) (v := jL 0) d_72_78 rfl cl_0 ?_
              obtain ⟨hc26, h⟩ := h
              refine gz_lc_eq (pc' := 83) (pm := 80) (pt := 85) d_72_79 rfl d_72_80 (by decide) rfl hc26 (s64 (z := 0)) (fun c => ?_) (fun c => ?_)
              · replace h := h.1 c
                refine gz_iinc (pc' := 88) (l' := [some (.ref 23), some (.int (jI z1)), some (.int (jI (z2 + 1))), some (.int (jI (prZ (z2).toNat)))]) d_72_85 rfl rfl ml_72 rfl rfl ?_
                refine g_goto (pt := 11) d_72_88 (by decide) ?_
                exact xGo.more (xle_s (xle_s (xle_s (xle_n xle_0)))) h
              · replace h := h.2 c
                refine g_iconst (pc' := 84) d_72_83 rfl rfl ?_
                exact g_zret d_72_84 rt_72 (Or.inr rfl) h
          · replace h := h.2 c
            refine g_goto (pt := 85) d_72_49 (by decide) ?_
            refine gz_iinc (pc' := 88) (l' := [some (.ref 23), some (.int (jI z1)), some (.int (jI (z2 + 1))), some (.int (jI (prZ (z2).toNat)))]) d_72_85 rfl rfl ml_72 rfl rfl ?_
            refine g_goto (pt := 11) d_72_88 (by decide) ?_
            exact xGo.more (xle_s (xle_s (xle_s (xle_n xle_0)))) h
theorem Z_73_0 {e : Nat} {z1 : Int} {z2 : Int} {w : xW} {r : Option Value × xW} (hC : CS w) (he : eIs e) (h : ∃ r4 w1, xCall 29 [.ref e, .int (jI z1)] w (some (.long (jL r4)), w1) ∧ CS w1 ∧ ∃ r8 w5, xCall 30 [.ref e, .int (jI z1)] w1 (some (.long (jL r8)), w5) ∧ CS w5 ∧ ∃ r12 w9, xCall 31 [.ref e, .int (jI z1)] w5 (some (.long (jL r12)), w9) ∧ CS w9 ∧ ∃ r16 w13, xCall 53 [.long (jL r12), .long (jL z2)] w9 (some (.long (jL r16)), w13) ∧ CS w13 ∧ ∃ r20 w17, xCall 54 [.long (jL (r4 + (r8 * r16))), .long (jL z2)] w13 (some (.long (jL r20)), w17) ∧ CS w17 ∧ r = (some (.long (jL r20)), w17)) : xGo 73 0 [some (.ref e), some (.int (jI z1)), some (.long (jL z2)), none] [] w r := by
  refine g_aloadn (pc' := 1) d_73_0 rfl rfl ?_
  refine g_iloadn (pc' := 2) d_73_1 rfl rfl ?_
  obtain ⟨r4, w1, hk2, hC3, h⟩ := h
  refine gz_callV (pc' := 5) d_73_2 rfl st_73_38 na_29 ml_29 rfl rfl rfl rm_73_29 rfl rfl ow_29 (ko_e he hC) hk2 ?_
  refine g_aloadn (pc' := 6) d_73_5 rfl rfl ?_
  refine g_iloadn (pc' := 7) d_73_6 rfl rfl ?_
  obtain ⟨r8, w5, hk6, hC7, h⟩ := h
  refine gz_callV (pc' := 10) d_73_7 rfl st_73_42 na_30 ml_30 rfl rfl rfl rm_73_30 rfl rfl ow_30 (ko_e he hC3) hk6 ?_
  refine g_aloadn (pc' := 11) d_73_10 rfl rfl ?_
  refine g_iloadn (pc' := 12) d_73_11 rfl rfl ?_
  obtain ⟨r12, w9, hk10, hC11, h⟩ := h
  refine gz_callV (pc' := 15) d_73_12 rfl st_73_55 na_31 ml_31 rfl rfl rfl rm_73_31 rfl rfl ow_31 (ko_e he hC7) hk10 ?_
  refine g_lloadn (pc' := 16) d_73_15 rfl rfl ?_
  obtain ⟨r16, w13, hk14, hC15, h⟩ := h
  refine g_callS (pc' := 19) d_73_16 rfl st_73_72 (Or.inl rfl) na_53 ml_53 rfl rfl rfl rm_73_53 rfl rfl hk14 ?_
  refine gz_lmul (pc' := 20) d_73_19 rfl ?_
  refine gz_ladd (pc' := 21) d_73_20 rfl ?_
  refine g_lloadn (pc' := 22) d_73_21 rfl rfl ?_
  obtain ⟨r20, w17, hk18, hC19, h⟩ := h
  refine g_callS (pc' := 25) d_73_22 rfl st_73_78 (Or.inl rfl) na_54 ml_54 rfl rfl rfl rm_73_54 rfl rfl hk18 ?_
  exact g_lret d_73_25 rt_73 h
theorem Z_73 {e : Nat} {z1 : Int} {z2 : Int} {w : xW} {r : Option Value × xW} (hC : CS w) (he : eIs e) (h : ∃ r4 w1, xCall 29 [.ref e, .int (jI z1)] w (some (.long (jL r4)), w1) ∧ CS w1 ∧ ∃ r8 w5, xCall 30 [.ref e, .int (jI z1)] w1 (some (.long (jL r8)), w5) ∧ CS w5 ∧ ∃ r12 w9, xCall 31 [.ref e, .int (jI z1)] w5 (some (.long (jL r12)), w9) ∧ CS w9 ∧ ∃ r16 w13, xCall 53 [.long (jL r12), .long (jL z2)] w9 (some (.long (jL r16)), w13) ∧ CS w13 ∧ ∃ r20 w17, xCall 54 [.long (jL (r4 + (r8 * r16))), .long (jL z2)] w13 (some (.long (jL r20)), w17) ∧ CS w17 ∧ r = (some (.long (jL r20)), w17)) : xCall 73 [.ref e, .int (jI z1), .long (jL z2)] w r := E_73 (Z_73_0 hC he h)
theorem Z_74_0 {z1 : Int} {w : xW} {r : Option Value × xW} (hC : CS w) (h : in32 z1 ∧ ∃ y2, Int.tmod z1 2 = y2 ∧ in32 y2 ∧ (y2 = 0 → ∃ w5, xCall 37 [.ref 3, .long (jL 7420738134810)] w (none, w5) ∧ CS w5 ∧ xGo 74 20 [some (.ref 23), some (.int (jI z1)), some (.int (jI z1))] [] w5 r) ∧ (y2 ≠ 0 → r = (some (.int (jI 0)), w))) : xGo 74 0 [some (.ref 23), some (.int (jI z1)), none] [] w r := by
  refine g_iloadn (pc' := 1) d_74_0 rfl rfl ?_
  refine g_iconst (pc' := 2) d_74_1 rfl rfl ?_
  obtain ⟨hc1, h⟩ := h
  obtain ⟨y2, hz3, h⟩ := h
  refine gz_irem (pc' := 3) d_74_2 rfl hc1 (s32 (z := 2)) (by decide) hz3 ?_
  obtain ⟨hc4, h⟩ := h
  refine gz_if_eq (pc' := 6) (pt := 8) d_74_3 (by decide) rfl hc4 (fun c => ?_) (fun c => ?_)
  · replace h := h.1 c
    refine g_aloadn (pc' := 9) d_74_8 rfl rfl ?_
    refine gz_getR (pc' := 12) d_74_9 rfl st_74_19 (kr_23_2 hC) ?_
    refine g_ldc2 (pc' := 15) d_74_12 rfl st_74_48 rfl ?_
    obtain ⟨w5, hk6, hC7, h⟩ := h
    refine gz_callV (pc' := 18) d_74_15 rfl st_74_50 na_37 ml_37 rfl rfl rfl rm_74_37 rfl rfl ow_37 (ko_3 hC) hk6 ?_
    refine g_iloadn (pc' := 19) d_74_18 rfl rfl ?_
    refine g_istoren (pc' := 20) (l' := [some (.ref 23), some (.int (jI z1)), some (.int (jI z1))]) d_74_19 rfl ml_74 rfl rfl ?_
    exact h
  · replace h := h.2 c
    refine g_iconst (pc' := 7) d_74_6 rfl rfl ?_
    exact g_zret d_74_7 rt_74 (Or.inl rfl) h
theorem Z_74 {z1 : Int} {w : xW} {r : Option Value × xW} (hC : CS w) (h : in32 z1 ∧ ∃ y2, Int.tmod z1 2 = y2 ∧ in32 y2 ∧ (y2 = 0 → ∃ w5, xCall 37 [.ref 3, .long (jL 7420738134810)] w (none, w5) ∧ CS w5 ∧ xGo 74 20 [some (.ref 23), some (.int (jI z1)), some (.int (jI z1))] [] w5 r) ∧ (y2 ≠ 0 → r = (some (.int (jI 0)), w))) : xCall 74 [.ref 23, .int (jI z1)] w r := E_74 (Z_74_0 hC h)
theorem Z_74_20 {z1 : Int} {z2 : Int} {w : xW} {r : Option Value × xW} (hC : CS w) (h : in32 z2 ∧ (z2 < 0 → in32 z1 ∧ ∃ y3, Int.tmod z1 6 = y3 ∧ in32 y3 ∧ (y3 ≠ 4 → in32 (-(z1 + 3)) ∧ ∃ w7, xCall 41 [.ref 3, .long (jL (-(z1 + 3))), .long (jL 0), .long (jL 1), .long (jL 3)] w (none, w7) ∧ CS w7 ∧ ∃ (P13 : Prop) (dP14 : Decidable P13) (w10 : xW), xCall 66 [.ref 3] w7 (some (.int (bz P13)), w10) ∧ CS w10 ∧ (P13 → r = (some (.int (jI 0)), w10)) ∧ (¬ P13 → r = (some (.int (jI 1)), w10))) ∧ (y3 = 4 → in32 (z1 + 3) ∧ ∃ w16, xCall 41 [.ref 3, .long (jL (z1 + 3)), .long (jL 0), .long (jL 1), .long (jL 6)] w (none, w16) ∧ CS w16 ∧ ∃ (P22 : Prop) (dP23 : Decidable P22) (w19 : xW), xCall 66 [.ref 3] w16 (some (.int (bz P22)), w19) ∧ CS w19 ∧ (P22 → r = (some (.int (jI 0)), w19)) ∧ (¬ P22 → r = (some (.int (jI 1)), w19)))) ∧ (0 ≤ z2 → ∃ r27 w24, xCall 39 [.ref 1, .int (jI (z1 + 3)), .int (jI z2)] w (some (.long (jL r27)), w24) ∧ CS w24 ∧ ∃ w28, xCall 40 [.ref 23, .long (jL r27), .int (jI z2)] w24 (none, w28) ∧ CS w28 ∧ xGo 74 20 [some (.ref 23), some (.int (jI z1)), some (.int (jI (z2 - 6)))] [] w28 r)) : xGo 74 20 [some (.ref 23), some (.int (jI z1)), some (.int (jI z2))] [] w r := by
  refine g_iloadn (pc' := 21) d_74_20 rfl rfl ?_
  obtain ⟨hc1, h⟩ := h
  refine gz_if_lt (pc' := 24) (pt := 46) d_74_21 (by decide) rfl hc1 (fun c => ?_) (fun c => ?_)
  · replace h := h.1 c
    refine g_iloadn (pc' := 47) d_74_46 rfl rfl ?_
    refine g_bipush (pc' := 49) (v := jI 6) d_74_47 rfl (by decide) ?_
    obtain ⟨hc2, h⟩ := h
    obtain ⟨y3, hz4, h⟩ := h
    refine gz_irem (pc' := 50) d_74_49 rfl hc2 (s32 (z := 6)) (by decide) hz4 ?_
    refine g_iconst (pc' := 51) d_74_50 rfl rfl ?_
    obtain ⟨hc5, h⟩ := h
    refine gz_ic_ne (pc' := 54) (pt := 73) d_74_51 (by decide) rfl hc5 (s32 (z := 4)) (fun c => ?_) (fun c => ?_)
    · replace h := h.1 c
      refine g_aloadn (pc' := 74) d_74_73 rfl rfl ?_
      refine gz_getR (pc' := 77) d_74_74 rfl st_74_19 (kr_23_2 hC) ?_
      refine g_iloadn (pc' := 78) d_74_77 rfl rfl ?_
      refine g_iconst (pc' := 79) d_74_78 rfl rfl ?_
      refine gz_iadd (pc' := 80) d_74_79 rfl ?_
      refine gz_ineg (pc' := 81) d_74_80 rfl ?_
      obtain ⟨hc6, h⟩ := h
      refine gz_i2l (pc' := 82) d_74_81 rfl hc6 ?_
      refine g_lconst (pc' := 83) (v := jL 0) d_74_82 rfl cl_0 ?_
      refine g_lconst (pc' := 84) (v := jL 1) d_74_83 rfl cl_1 ?_
      refine g_ldc2 (pc' := 87) d_74_84 rfl st_74_134 rfl ?_
      obtain ⟨w7, hk8, hC9, h⟩ := h
      refine gz_callV (pc' := 90) d_74_87 rfl st_74_100 na_41 ml_41 rfl rfl rfl rm_74_41 rfl rfl ow_41 (ko_3 hC) hk8 ?_
      refine g_aloadn (pc' := 91) d_74_90 rfl rfl ?_
      refine gz_getR (pc' := 94) d_74_91 rfl st_74_19 (kr_23_2 hC9) ?_
      obtain ⟨P13, dP14, w10, hk11, hC12, h⟩ := h
      refine gz_callV (pc' := 97) d_74_94 rfl st_74_115 na_66 ml_66 rfl rfl rfl rm_74_66 rfl rfl ow_66 (ko_3 hC9) hk11 ?_
      refine gz_bt_ne (pc' := 100) (pt := 104) d_74_97 (by decide) rfl (fun c => ?_) (fun c => ?_)
      · replace h := h.1 c
        refine g_iconst (pc' := 105) d_74_104 rfl rfl ?_
        exact g_zret d_74_105 rt_74 (Or.inl rfl) h
      · replace h := h.2 c
        refine g_iconst (pc' := 101) d_74_100 rfl rfl ?_
        refine g_goto (pt := 105) d_74_101 (by decide) ?_
        exact g_zret d_74_105 rt_74 (Or.inr rfl) h
    · replace h := h.2 c
      refine g_aloadn (pc' := 55) d_74_54 rfl rfl ?_
      refine gz_getR (pc' := 58) d_74_55 rfl st_74_19 (kr_23_2 hC) ?_
      refine g_iloadn (pc' := 59) d_74_58 rfl rfl ?_
      refine g_iconst (pc' := 60) d_74_59 rfl rfl ?_
      refine gz_iadd (pc' := 61) d_74_60 rfl ?_
      obtain ⟨hc15, h⟩ := h
      refine gz_i2l (pc' := 62) d_74_61 rfl hc15 ?_
      refine g_lconst (pc' := 63) (v := jL 0) d_74_62 rfl cl_0 ?_
      refine g_lconst (pc' := 64) (v := jL 1) d_74_63 rfl cl_1 ?_
      refine g_ldc2 (pc' := 67) d_74_64 rfl st_74_132 rfl ?_
      obtain ⟨w16, hk17, hC18, h⟩ := h
      refine gz_callV (pc' := 70) d_74_67 rfl st_74_100 na_41 ml_41 rfl rfl rfl rm_74_41 rfl rfl ow_41 (ko_3 hC) hk17 ?_
      refine g_goto (pt := 90) d_74_70 (by decide) ?_
      refine g_aloadn (pc' := 91) d_74_90 rfl rfl ?_
      refine gz_getR (pc' := 94) d_74_91 rfl st_74_19 (kr_23_2 hC18) ?_
      obtain ⟨P22, dP23, w19, hk20, hC21, h⟩ := h
      refine gz_callV (pc' := 97) d_74_94 rfl st_74_115 na_66 ml_66 rfl rfl rfl rm_74_66 rfl rfl ow_66 (ko_3 hC18) hk20 ?_
      refine gz_bt_ne (pc' := 100) (pt := 104) d_74_97 (by decide) rfl (fun c => ?_) (fun c => ?_)
      · replace h := h.1 c
        refine g_iconst (pc' := 105) d_74_104 rfl rfl ?_
        exact g_zret d_74_105 rt_74 (Or.inl rfl) h
      · replace h := h.2 c
        refine g_iconst (pc' := 101) d_74_100 rfl rfl ?_
        refine g_goto (pt := 105) d_74_101 (by decide) ?_
        exact g_zret d_74_105 rt_74 (Or.inr rfl) h
  · replace h := h.2 c
    refine g_aloadn (pc' := 25) d_74_24 rfl rfl ?_
    refine g_aloadn (pc' := 26) d_74_25 rfl rfl ?_
    refine gz_getR (pc' := 29) d_74_26 rfl st_74_15 (kr_23_1 hC) ?_
    refine g_iloadn (pc' := 30) d_74_29 rfl rfl ?_
    refine g_iconst (pc' := 31) d_74_30 rfl rfl ?_
    refine gz_iadd (pc' := 32) d_74_31 rfl ?_
    refine g_iloadn (pc' := 33) d_74_32 rfl rfl ?_
    obtain ⟨r27, w24, hk25, hC26, h⟩ := h
    refine gz_callV (pc' := 36) d_74_33 rfl st_74_56 na_39 ml_39 rfl rfl rfl rm_74_39 rfl rfl ow_39 (ko_1 hC) hk25 ?_
    refine g_iloadn (pc' := 37) d_74_36 rfl rfl ?_
    obtain ⟨w28, hk29, hC30, h⟩ := h
    refine gz_callV (pc' := 40) d_74_37 rfl st_74_62 na_40 ml_40 rfl rfl rfl rm_74_40 rfl rfl ow_40 (ko_23 hC26) hk29 ?_
    refine gz_idec (pc' := 43) (c := 6) (l' := [some (.ref 23), some (.int (jI z1)), some (.int (jI (z2 - 6)))]) d_74_40 rfl rfl ml_74 rfl rfl ?_
    refine g_goto (pt := 20) d_74_43 (by decide) ?_
    exact h
theorem Z_75_0 {z1 : Int} {w : xW} {r : Option Value × xW} (hC : CS w) (h : ∃ (P4 : Prop) (dP5 : Decidable P4) (w1 : xW), xCall 76 [.int (jI z1)] w (some (.int (bz P4)), w1) ∧ CS w1 ∧ (P4 → ∃ r9 w6, xCall 77 [.ref 0, .int (jI z1)] w1 (some (.long (jL r9)), w6) ∧ CS w6 ∧ xGo 75 21 [some (.ref 0), some (.int (jI z1)), some (.long (jL r9)), none, some (.int (jI 0)), some (.int (jI 0))] [] w6 r) ∧ (¬ P4 → r = (some (.int (jI (-1))), w1))) : xGo 75 0 [some (.ref 0), some (.int (jI z1)), none, none, none, none] [] w r := by
  refine g_iloadn (pc' := 1) d_75_0 rfl rfl ?_
  obtain ⟨P4, dP5, w1, hk2, hC3, h⟩ := h
  refine g_callS (pc' := 4) d_75_1 rfl st_75_146 (Or.inl rfl) na_76 ml_76 rfl rfl rfl rm_75_76 rfl rfl hk2 ?_
  refine gz_bt_ne (pc' := 7) (pt := 9) d_75_4 (by decide) rfl (fun c => ?_) (fun c => ?_)
  · replace h := h.1 c
    refine g_aloadn (pc' := 10) d_75_9 rfl rfl ?_
    refine g_iloadn (pc' := 11) d_75_10 rfl rfl ?_
    obtain ⟨r9, w6, hk7, hC8, h⟩ := h
    refine gz_callV (pc' := 14) d_75_11 rfl st_75_149 na_77 ml_77 rfl rfl rfl rm_75_77 rfl rfl ow_77 (ko_0 hC3) hk7 ?_
    refine g_lstoren (pc' := 15) (l' := [some (.ref 0), some (.int (jI z1)), some (.long (jL r9)), none, none, none]) d_75_14 rfl ml_75 rfl rfl ?_
    refine g_iconst (pc' := 16) d_75_15 rfl rfl ?_
    refine g_istore (pc' := 18) (l' := [some (.ref 0), some (.int (jI z1)), some (.long (jL r9)), none, some (.int (jI 0)), none]) d_75_16 rfl ml_75 rfl rfl ?_
    refine g_iconst (pc' := 19) d_75_18 rfl rfl ?_
    refine g_istore (pc' := 21) (l' := [some (.ref 0), some (.int (jI z1)), some (.long (jL r9)), none, some (.int (jI 0)), some (.int (jI 0))]) d_75_19 rfl ml_75 rfl rfl ?_
    exact h
  · replace h := h.2 c
    refine g_iconst (pc' := 8) d_75_7 rfl rfl ?_
    exact g_iret d_75_8 rt_75 h
theorem Z_75 {z1 : Int} {w : xW} {r : Option Value × xW} (hC : CS w) (h : ∃ (P4 : Prop) (dP5 : Decidable P4) (w1 : xW), xCall 76 [.int (jI z1)] w (some (.int (bz P4)), w1) ∧ CS w1 ∧ (P4 → ∃ r9 w6, xCall 77 [.ref 0, .int (jI z1)] w1 (some (.long (jL r9)), w6) ∧ CS w6 ∧ xGo 75 21 [some (.ref 0), some (.int (jI z1)), some (.long (jL r9)), none, some (.int (jI 0)), some (.int (jI 0))] [] w6 r) ∧ (¬ P4 → r = (some (.int (jI (-1))), w1))) : xCall 75 [.ref 0, .int (jI z1)] w r := E_75 (Z_75_0 hC h)
theorem Z_75_21 {z1 : Int} {z2 : Int} {z4 : Int} {z5 : Int} {w : xW} {r : Option Value × xW} (hC : CS w) (h : ∃ x1, fI w 0 0 7 x1 ∧ in32 z5 ∧ in32 x1 ∧ (x1 < z5 → r = (some (.int (jI z4)), w)) ∧ (z5 ≤ x1 → ∃ y5, jL z2 >>> ((jI z5).toInt64 &&& 63) = jL y5 ∧ ∃ y7, jL y5 &&& jL 1 = jL y7 ∧ in64 y7 ∧ (y7 ≠ 1 → xGo 75 21 [some (.ref 0), some (.int (jI z1)), some (.long (jL z2)), none, some (.int (jI z4)), some (.int (jI (z5 + 1)))] [] w r) ∧ (y7 = 1 → ∃ (P13 : Prop) (dP14 : Decidable P13) (w10 : xW), xCall 32 [.ref 0, .int (jI z5), .int (jI 1)] w (some (.int (bz P13)), w10) ∧ CS w10 ∧ (¬ P13 → xGo 75 21 [some (.ref 0), some (.int (jI z1)), some (.long (jL z2)), none, some (.int (jI z4)), some (.int (jI (z5 + 1)))] [] w10 r) ∧ (P13 → xGo 75 21 [some (.ref 0), some (.int (jI z1)), some (.long (jL z2)), none, some (.int (jI (z4 + 1))), some (.int (jI (z5 + 1)))] [] w10 r)))) : xGo 75 21 [some (.ref 0), some (.int (jI z1)), some (.long (jL z2)), none, some (.int (jI z4)), some (.int (jI z5))] [] w r := by
  refine g_iload (pc' := 23) d_75_21 rfl rfl ?_
  refine g_aloadn (pc' := 24) d_75_23 rfl rfl ?_
  obtain ⟨x1, hv2, h⟩ := h
  refine gz_getI (pc' := 27) d_75_24 rfl st_75_49 hv2 ?_
  obtain ⟨hc3, h⟩ := h
  obtain ⟨hc4, h⟩ := h
  refine gz_ic_gt (pc' := 30) (pt := 60) d_75_27 (by decide) rfl hc3 hc4 (fun c => ?_) (fun c => ?_)
  · replace h := h.1 c
    refine g_iload (pc' := 62) d_75_60 rfl rfl ?_
    exact g_iret d_75_62 rt_75 h
  · replace h := h.2 c
    refine g_lloadn (pc' := 31) d_75_30 rfl rfl ?_
    refine g_iload (pc' := 33) d_75_31 rfl rfl ?_
    obtain ⟨y5, hz6, h⟩ := h
    refine gz_lshr (pc' := 34) d_75_33 rfl hz6 ?_
    refine g_lconst (pc' := 35) (v := jL 1) d_75_34 rfl cl_1 ?_
    obtain ⟨y7, hz8, h⟩ := h
    refine gz_land (pc' := 36) d_75_35 rfl hz8 ?_
    refine g_lconst (pc' := 37) (v := jL 1) d_75_36 rfl cl_1 ?_
    obtain ⟨hc9, h⟩ := h
    refine gz_lc_ne (pc' := 41) (pm := 38) (pt := 54) d_75_37 rfl d_75_38 (by decide) rfl hc9 (s64 (z := 1)) (fun c => ?_) (fun c => ?_)
    · replace h := h.1 c
      refine gz_iinc (pc' := 57) (l' := [some (.ref 0), some (.int (jI z1)), some (.long (jL z2)), none, some (.int (jI z4)), some (.int (jI (z5 + 1)))]) d_75_54 rfl rfl ml_75 rfl rfl ?_
      refine g_goto (pt := 21) d_75_57 (by decide) ?_
      exact h
    · replace h := h.2 c
      refine g_aloadn (pc' := 42) d_75_41 rfl rfl ?_
      refine g_iload (pc' := 44) d_75_42 rfl rfl ?_
      refine g_iconst (pc' := 45) d_75_44 rfl rfl ?_
      obtain ⟨P13, dP14, w10, hk11, hC12, h⟩ := h
      refine gz_callV (pc' := 48) d_75_45 rfl st_75_130 na_32 ml_32 rfl rfl rfl rm_75_32 rfl rfl ow_32 (ko_0 hC) hk11 ?_
      refine gz_bt_eq (pc' := 51) (pt := 54) d_75_48 (by decide) rfl (fun c => ?_) (fun c => ?_)
      · replace h := h.1 c
        refine gz_iinc (pc' := 57) (l' := [some (.ref 0), some (.int (jI z1)), some (.long (jL z2)), none, some (.int (jI z4)), some (.int (jI (z5 + 1)))]) d_75_54 rfl rfl ml_75 rfl rfl ?_
        refine g_goto (pt := 21) d_75_57 (by decide) ?_
        exact h
      · replace h := h.2 c
        refine gz_iinc (pc' := 54) (l' := [some (.ref 0), some (.int (jI z1)), some (.long (jL z2)), none, some (.int (jI (z4 + 1))), some (.int (jI z5))]) d_75_51 rfl rfl ml_75 rfl rfl ?_
        refine gz_iinc (pc' := 57) (l' := [some (.ref 0), some (.int (jI z1)), some (.long (jL z2)), none, some (.int (jI (z4 + 1))), some (.int (jI (z5 + 1)))]) d_75_54 rfl rfl ml_75 rfl rfl ?_
        refine g_goto (pt := 21) d_75_57 (by decide) ?_
        exact h
theorem Z_76_0 {z0 : Int} {w : xW} {r : Option Value × xW} (hC : CS w) (h : in32 z0 ∧ (z0 < 0 → r = (some (.int (jI 0)), w)) ∧ (0 ≤ z0 → (63 < z0 → r = (some (.int (jI 0)), w)) ∧ (z0 ≤ 63 → r = (some (.int (jI 1)), w)))) : xGo 76 0 [some (.int (jI z0))] [] w r := by
  refine g_iloadn (pc' := 1) d_76_0 rfl rfl ?_
  obtain ⟨hc1, h⟩ := h
  refine gz_if_lt (pc' := 4) (pt := 14) d_76_1 (by decide) rfl hc1 (fun c => ?_) (fun c => ?_)
  · replace h := h.1 c
    refine g_iconst (pc' := 15) d_76_14 rfl rfl ?_
    exact g_zret d_76_15 rt_76 (Or.inl rfl) h
  · replace h := h.2 c
    refine g_iloadn (pc' := 5) d_76_4 rfl rfl ?_
    refine g_bipush (pc' := 7) (v := jI 63) d_76_5 rfl (by decide) ?_
    refine gz_ic_gt (pc' := 10) (pt := 14) d_76_7 (by decide) rfl hc1 (s32 (z := 63)) (fun c => ?_) (fun c => ?_)
    · replace h := h.1 c
      refine g_iconst (pc' := 15) d_76_14 rfl rfl ?_
      exact g_zret d_76_15 rt_76 (Or.inl rfl) h
    · replace h := h.2 c
      refine g_iconst (pc' := 11) d_76_10 rfl rfl ?_
      refine g_goto (pt := 15) d_76_11 (by decide) ?_
      exact g_zret d_76_15 rt_76 (Or.inr rfl) h
theorem Z_76 {z0 : Int} {w : xW} {r : Option Value × xW} (hC : CS w) (h : in32 z0 ∧ (z0 < 0 → r = (some (.int (jI 0)), w)) ∧ (0 ≤ z0 → (63 < z0 → r = (some (.int (jI 0)), w)) ∧ (z0 ≤ 63 → r = (some (.int (jI 1)), w)))) : xCall 76 [.int (jI z0)] w r := E_76 (Z_76_0 hC h)
theorem Z_77_0 {z1 : Int} {w : xW} {r : Option Value × xW} (hC : CS w) (h : xGo 77 5 [some (.ref 0), some (.int (jI z1)), some (.long (jL 0)), none, some (.int (jI 0))] [] w r) : xGo 77 0 [some (.ref 0), some (.int (jI z1)), none, none, none] [] w r := by
  refine g_lconst (pc' := 1) (v := jL 0) d_77_0 rfl cl_0 ?_
  refine g_lstoren (pc' := 2) (l' := [some (.ref 0), some (.int (jI z1)), some (.long (jL 0)), none, none]) d_77_1 rfl ml_77 rfl rfl ?_
  refine g_iconst (pc' := 3) d_77_2 rfl rfl ?_
  refine g_istore (pc' := 5) (l' := [some (.ref 0), some (.int (jI z1)), some (.long (jL 0)), none, some (.int (jI 0))]) d_77_3 rfl ml_77 rfl rfl ?_
  exact h
theorem Z_77 {z1 : Int} {w : xW} {r : Option Value × xW} (hC : CS w) (h : xGo 77 5 [some (.ref 0), some (.int (jI z1)), some (.long (jL 0)), none, some (.int (jI 0))] [] w r) : xCall 77 [.ref 0, .int (jI z1)] w r := E_77 (Z_77_0 hC h)
theorem Z_77_5 {z1 : Int} {z2 : Int} {z4 : Int} {w : xW} {r : Option Value × xW} (hC : CS w) (h : ∃ x1, fI w 0 0 7 x1 ∧ in32 z4 ∧ in32 x1 ∧ (x1 < z4 → r = (some (.long (jL z2)), w)) ∧ (z4 ≤ x1 → ∃ r8 w5, xCall 61 [.ref 23, .int (jI z4), .int (jI z1)] w (some (.int (jI r8)), w5) ∧ CS w5 ∧ in32 r8 ∧ (r8 = 0 → xGo 77 5 [some (.ref 0), some (.int (jI z1)), some (.long (jL z2)), none, some (.int (jI (z4 + 1)))] [] w5 r) ∧ (r8 ≠ 0 → ∃ y10, jL 1 <<< ((jI z4).toInt64 &&& 63) = jL y10 ∧ ∃ y12, jL z2 ||| jL y10 = jL y12 ∧ xGo 77 5 [some (.ref 0), some (.int (jI z1)), some (.long (jL y12)), none, some (.int (jI (z4 + 1)))] [] w5 r))) : xGo 77 5 [some (.ref 0), some (.int (jI z1)), some (.long (jL z2)), none, some (.int (jI z4))] [] w r := by
  refine g_iload (pc' := 7) d_77_5 rfl rfl ?_
  refine g_aloadn (pc' := 8) d_77_7 rfl rfl ?_
  obtain ⟨x1, hv2, h⟩ := h
  refine gz_getI (pc' := 11) d_77_8 rfl st_77_49 hv2 ?_
  obtain ⟨hc3, h⟩ := h
  obtain ⟨hc4, h⟩ := h
  refine gz_ic_gt (pc' := 14) (pt := 40) d_77_11 (by decide) rfl hc3 hc4 (fun c => ?_) (fun c => ?_)
  · replace h := h.1 c
    refine g_lloadn (pc' := 41) d_77_40 rfl rfl ?_
    exact g_lret d_77_41 rt_77 h
  · replace h := h.2 c
    refine g_aloadn (pc' := 15) d_77_14 rfl rfl ?_
    refine gz_getR (pc' := 18) d_77_15 rfl st_77_58 (kr_0_8 hC) ?_
    refine g_iload (pc' := 20) d_77_18 rfl rfl ?_
    refine g_iloadn (pc' := 21) d_77_20 rfl rfl ?_
    obtain ⟨r8, w5, hk6, hC7, h⟩ := h
    refine gz_callV (pc' := 24) d_77_21 rfl st_77_142 na_61 ml_61 rfl rfl rfl rm_77_61 rfl rfl ow_61 (ko_23 hC) hk6 ?_
    obtain ⟨hc9, h⟩ := h
    refine gz_if_eq (pc' := 27) (pt := 34) d_77_24 (by decide) rfl hc9 (fun c => ?_) (fun c => ?_)
    · replace h := h.1 c
      refine gz_iinc (pc' := 37) (l' := [some (.ref 0), some (.int (jI z1)), some (.long (jL z2)), none, some (.int (jI (z4 + 1)))]) d_77_34 rfl rfl ml_77 rfl rfl ?_
      refine g_goto (pt := 5) d_77_37 (by decide) ?_
      exact h
    · replace h := h.2 c
      refine g_lloadn (pc' := 28) d_77_27 rfl rfl ?_
      refine g_lconst (pc' := 29) (v := jL 1) d_77_28 rfl cl_1 ?_
      refine g_iload (pc' := 31) d_77_29 rfl rfl ?_
      obtain ⟨y10, hz11, h⟩ := h
      refine gz_lshl (pc' := 32) d_77_31 rfl hz11 ?_
      obtain ⟨y12, hz13, h⟩ := h
      refine gz_lor (pc' := 33) d_77_32 rfl hz13 ?_
      refine g_lstoren (pc' := 34) (l' := [some (.ref 0), some (.int (jI z1)), some (.long (jL y12)), none, some (.int (jI z4))]) d_77_33 rfl ml_77 rfl rfl ?_
      refine gz_iinc (pc' := 37) (l' := [some (.ref 0), some (.int (jI z1)), some (.long (jL y12)), none, some (.int (jI (z4 + 1)))]) d_77_34 rfl rfl ml_77 rfl rfl ?_
      refine g_goto (pt := 5) d_77_37 (by decide) ?_
      exact h
theorem Z_78_0 {z1 : Int} {w : xW} {r : Option Value × xW} (hC : CS w) (h : ∃ (P4 : Prop) (dP5 : Decidable P4) (w1 : xW), xCall 24 [.int (jI z1)] w (some (.int (bz P4)), w1) ∧ CS w1 ∧ (P4 → ∃ x6, fI w1 0 0 7 x6 ∧ in32 z1 ∧ in32 x6 ∧ (z1 ≤ x6 → 0 ≤ z1 ∧ ∃ x11, rI w1 22 (z1).toNat x11 ∧ r = (some (.int (jI x11)), w1)) ∧ (x6 < z1 → r = (some (.int (jI (-2))), w1))) ∧ (¬ P4 → r = (some (.int (jI (-1))), w1))) : xGo 78 0 [some (.ref 0), some (.int (jI z1))] [] w r := by
  refine g_iloadn (pc' := 1) d_78_0 rfl rfl ?_
  obtain ⟨P4, dP5, w1, hk2, hC3, h⟩ := h
  refine g_callS (pc' := 4) d_78_1 rfl st_78_120 (Or.inl rfl) na_24 ml_24 rfl rfl rfl rm_78_24 rfl rfl hk2 ?_
  refine gz_bt_ne (pc' := 7) (pt := 9) d_78_4 (by decide) rfl (fun c => ?_) (fun c => ?_)
  · replace h := h.1 c
    refine g_iloadn (pc' := 10) d_78_9 rfl rfl ?_
    refine g_aloadn (pc' := 11) d_78_10 rfl rfl ?_
    obtain ⟨x6, hv7, h⟩ := h
    refine gz_getI (pc' := 14) d_78_11 rfl st_78_49 hv7 ?_
    obtain ⟨hc8, h⟩ := h
    obtain ⟨hc9, h⟩ := h
    refine gz_ic_le (pc' := 17) (pt := 22) d_78_14 (by decide) rfl hc8 hc9 (fun c => ?_) (fun c => ?_)
    · replace h := h.1 c
      refine g_aloadn (pc' := 23) d_78_22 rfl rfl ?_
      refine gz_getR (pc' := 26) d_78_23 rfl st_78_45 (kr_0_6 hC3) ?_
      refine g_iloadn (pc' := 27) d_78_26 rfl rfl ?_
      obtain ⟨hc10, h⟩ := h
      obtain ⟨x11, hv12, h⟩ := h
      refine gz_iald (pc' := 28) d_78_27 rfl hc10 hv12 ?_
      exact g_iret d_78_28 rt_78 h
    · replace h := h.2 c
      refine g_bipush (pc' := 19) (v := jI (-2)) d_78_17 rfl (by decide) ?_
      refine g_goto (pt := 28) d_78_19 (by decide) ?_
      exact g_iret d_78_28 rt_78 h
  · replace h := h.2 c
    refine g_iconst (pc' := 8) d_78_7 rfl rfl ?_
    exact g_iret d_78_8 rt_78 h
theorem Z_78 {z1 : Int} {w : xW} {r : Option Value × xW} (hC : CS w) (h : ∃ (P4 : Prop) (dP5 : Decidable P4) (w1 : xW), xCall 24 [.int (jI z1)] w (some (.int (bz P4)), w1) ∧ CS w1 ∧ (P4 → ∃ x6, fI w1 0 0 7 x6 ∧ in32 z1 ∧ in32 x6 ∧ (z1 ≤ x6 → 0 ≤ z1 ∧ ∃ x11, rI w1 22 (z1).toNat x11 ∧ r = (some (.int (jI x11)), w1)) ∧ (x6 < z1 → r = (some (.int (jI (-2))), w1))) ∧ (¬ P4 → r = (some (.int (jI (-1))), w1))) : xCall 78 [.ref 0, .int (jI z1)] w r := E_78 (Z_78_0 hC h)
theorem Z_79_0 {z1 : Int} {w : xW} {r : Option Value × xW} (hC : CS w) (h : ∃ (P4 : Prop) (dP5 : Decidable P4) (w1 : xW), xCall 24 [.int (jI z1)] w (some (.int (bz P4)), w1) ∧ CS w1 ∧ (P4 → ∃ x6, fI w1 0 0 7 x6 ∧ in32 z1 ∧ in32 x6 ∧ (z1 ≤ x6 → ∃ (P13 : Prop) (dP14 : Decidable P13) (w10 : xW), xCall 27 [.ref 0, .int (jI z1)] w1 (some (.int (bz P13)), w10) ∧ CS w10 ∧ (¬ P13 → r = (some (.int (jI 0)), w10)) ∧ (P13 → r = (some (.int (jI 1)), w10))) ∧ (x6 < z1 → r = (some (.int (jI (-2))), w1))) ∧ (¬ P4 → r = (some (.int (jI (-1))), w1))) : xGo 79 0 [some (.ref 0), some (.int (jI z1))] [] w r := by
  refine g_iloadn (pc' := 1) d_79_0 rfl rfl ?_
  obtain ⟨P4, dP5, w1, hk2, hC3, h⟩ := h
  refine g_callS (pc' := 4) d_79_1 rfl st_79_120 (Or.inl rfl) na_24 ml_24 rfl rfl rfl rm_79_24 rfl rfl hk2 ?_
  refine gz_bt_ne (pc' := 7) (pt := 9) d_79_4 (by decide) rfl (fun c => ?_) (fun c => ?_)
  · replace h := h.1 c
    refine g_iloadn (pc' := 10) d_79_9 rfl rfl ?_
    refine g_aloadn (pc' := 11) d_79_10 rfl rfl ?_
    obtain ⟨x6, hv7, h⟩ := h
    refine gz_getI (pc' := 14) d_79_11 rfl st_79_49 hv7 ?_
    obtain ⟨hc8, h⟩ := h
    obtain ⟨hc9, h⟩ := h
    refine gz_ic_le (pc' := 17) (pt := 20) d_79_14 (by decide) rfl hc8 hc9 (fun c => ?_) (fun c => ?_)
    · replace h := h.1 c
      refine g_aloadn (pc' := 21) d_79_20 rfl rfl ?_
      refine g_iloadn (pc' := 22) d_79_21 rfl rfl ?_
      obtain ⟨P13, dP14, w10, hk11, hC12, h⟩ := h
      refine gz_callV (pc' := 25) d_79_22 rfl st_79_174 na_27 ml_27 rfl rfl rfl rm_79_27 rfl rfl ow_27 (ko_0 hC3) hk11 ?_
      refine gz_bt_eq (pc' := 28) (pt := 32) d_79_25 (by decide) rfl (fun c => ?_) (fun c => ?_)
      · replace h := h.1 c
        refine g_iconst (pc' := 33) d_79_32 rfl rfl ?_
        exact g_iret d_79_33 rt_79 h
      · replace h := h.2 c
        refine g_iconst (pc' := 29) d_79_28 rfl rfl ?_
        refine g_goto (pt := 33) d_79_29 (by decide) ?_
        exact g_iret d_79_33 rt_79 h
    · replace h := h.2 c
      refine g_bipush (pc' := 19) (v := jI (-2)) d_79_17 rfl (by decide) ?_
      exact g_iret d_79_19 rt_79 h
  · replace h := h.2 c
    refine g_iconst (pc' := 8) d_79_7 rfl rfl ?_
    exact g_iret d_79_8 rt_79 h
