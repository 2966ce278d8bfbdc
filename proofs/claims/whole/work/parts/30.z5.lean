/-! Z rows, laid by wip/whole/zp.py -/
theorem Z_273 {z1 : Int} {z2 : Int} {z4 : Int} {w : xW} {r : Option Value × xW} (hC : CS w) (h : ∃ r4 w1, xCall 195 [.long (jL z2), .long (jL z4)] w (some (.long (jL r4)), w1) ∧ CS w1 ∧ in64 z2 ∧ in64 r4 ∧ r4 ≠ 0 ∧ ∃ y8, Int.tdiv z2 r4 = y8 ∧ (0 ≤ z1 ∧ z1 < 27) ∧ ∀ w12, w12 = pL w1 54 (z1).toNat (jL y8) → CS w12 → in64 z4 ∧ r4 ≠ 0 ∧ ∃ y16, Int.tdiv z4 r4 = y16 ∧ ∀ w19, w19 = pL w12 55 (z1).toNat (jL y16) → CS w19 → r = (none, w19)) : xCall 273 [.ref 39, .int (jI z1), .long (jL z2), .long (jL z4)] w r := E_273 (Z_273_0 hC h)
theorem Z_274_0 {z1 : Int} {z2 : Int} {w : xW} {r : Option Value × xW} (hC : CS w) (h : ∀ w2, w2 = pF w 39 0 (.int (jI 0)) → CS w2 → ∃ (P7 : Prop) (dP8 : Decidable P7) (w4 : xW), xCall 199 [.int (jI z1), .int (jI 0), .int (jI 24)] w2 (some (.int (bz P7)), w4) ∧ CS w4 ∧ (¬ P7 → r = (some (.int (jI (-1))), w4)) ∧ (P7 → ∃ (P12 : Prop) (dP13 : Decidable P12) (w9 : xW), xCall 199 [.int (jI z2), .int (jI 0), .int (jI 1000000000)] w4 (some (.int (bz P12)), w9) ∧ CS w9 ∧ (P12 → ∃ x14, fI w9 39 12 4 x14 ∧ in32 z1 ∧ in32 x14 ∧ (z1 ≤ x14 → ∃ r21 w18, xCall 275 [.ref 39, .int (jI z1), .int (jI z2)] w9 (some (.long (jL r21)), w18) ∧ CS w18 ∧ r = (some (.int (jI r21)), w18)) ∧ (x14 < z1 → r = (some (.int (jI (-2))), w9))) ∧ (¬ P12 → r = (some (.int (jI (-1))), w9)))) : xGo 274 0 [some (.ref 39), some (.int (jI z1)), some (.int (jI z2))] [] w r := by
  refine g_aloadn (pc' := 1) d_274_0 rfl rfl ?_
  refine g_iconst (pc' := 2) d_274_1 rfl rfl ?_
  have hpf1 := (kf_39_0 hC)
  have hC3 : CS (pF w 39 0 (.int (jI 0))) := ks_39_0 hC
  have h := h _ rfl hC3
  refine gz_putf (pc' := 5) d_274_2 rfl st_274_118 ft_12_0 ff_12_0 rfl (Or.inl rfl) hpf1 ?_
  refine g_iloadn (pc' := 6) d_274_5 rfl rfl ?_
  refine g_iconst (pc' := 7) d_274_6 rfl rfl ?_
  refine g_bipush (pc' := 9) (v := jI 24) d_274_7 rfl (by decide) ?_
  obtain ⟨P7, dP8, w4, hk5, hC6, h⟩ := h
  refine g_callS (pc' := 12) d_274_9 rfl st_274_137 (Or.inl rfl) na_199 ml_199 rfl rfl rfl rm_274_199 rfl rfl hk5 ?_
  refine gz_bt_eq (pc' := 15) (pt := 26) d_274_12 (by decide) rfl (fun c => ?_) (fun c => ?_)
  · replace h := h.1 c
    refine g_iconst (pc' := 27) d_274_26 rfl rfl ?_
    exact g_iret d_274_27 rt_274 h
  · replace h := h.2 c
    refine g_iloadn (pc' := 16) d_274_15 rfl rfl ?_
    refine g_iconst (pc' := 17) d_274_16 rfl rfl ?_
    refine g_ldcw (pc' := 20) d_274_17 rfl st_274_310 rfl ?_
    obtain ⟨P12, dP13, w9, hk10, hC11, h⟩ := h
    refine g_callS (pc' := 23) d_274_20 rfl st_274_137 (Or.inl rfl) na_199 ml_199 rfl rfl rfl rm_274_199 rfl rfl hk10 ?_
    refine gz_bt_ne (pc' := 26) (pt := 28) d_274_23 (by decide) rfl (fun c => ?_) (fun c => ?_)
    · replace h := h.1 c
      refine g_iloadn (pc' := 29) d_274_28 rfl rfl ?_
      refine g_aloadn (pc' := 30) d_274_29 rfl rfl ?_
      obtain ⟨x14, hv15, h⟩ := h
      refine gz_getI (pc' := 33) d_274_30 rfl st_274_20 hv15 ?_
      obtain ⟨hc16, h⟩ := h
      obtain ⟨hc17, h⟩ := h
      refine gz_ic_le (pc' := 36) (pt := 39) d_274_33 (by decide) rfl hc16 hc17 (fun c => ?_) (fun c => ?_)
      · replace h := h.1 c
        refine g_aloadn (pc' := 40) d_274_39 rfl rfl ?_
        refine g_iloadn (pc' := 41) d_274_40 rfl rfl ?_
        refine g_iloadn (pc' := 42) d_274_41 rfl rfl ?_
        obtain ⟨r21, w18, hk19, hC20, h⟩ := h
        refine gz_callV (pc' := 45) d_274_42 rfl st_274_311 na_275 ml_275 rfl rfl rfl rm_274_275 rfl rfl ow_275 (ko_39 hC11) hk19 ?_
        refine gz_l2i (pc' := 46) d_274_45 rfl ?_
        exact g_iret d_274_46 rt_274 h
      · replace h := h.2 c
        refine g_bipush (pc' := 38) (v := jI (-2)) d_274_36 rfl (by decide) ?_
        exact g_iret d_274_38 rt_274 h
    · replace h := h.2 c
      refine g_iconst (pc' := 27) d_274_26 rfl rfl ?_
      exact g_iret d_274_27 rt_274 h
theorem Z_274 {z1 : Int} {z2 : Int} {w : xW} {r : Option Value × xW} (hC : CS w) (h : ∀ w2, w2 = pF w 39 0 (.int (jI 0)) → CS w2 → ∃ (P7 : Prop) (dP8 : Decidable P7) (w4 : xW), xCall 199 [.int (jI z1), .int (jI 0), .int (jI 24)] w2 (some (.int (bz P7)), w4) ∧ CS w4 ∧ (¬ P7 → r = (some (.int (jI (-1))), w4)) ∧ (P7 → ∃ (P12 : Prop) (dP13 : Decidable P12) (w9 : xW), xCall 199 [.int (jI z2), .int (jI 0), .int (jI 1000000000)] w4 (some (.int (bz P12)), w9) ∧ CS w9 ∧ (P12 → ∃ x14, fI w9 39 12 4 x14 ∧ in32 z1 ∧ in32 x14 ∧ (z1 ≤ x14 → ∃ r21 w18, xCall 275 [.ref 39, .int (jI z1), .int (jI z2)] w9 (some (.long (jL r21)), w18) ∧ CS w18 ∧ r = (some (.int (jI r21)), w18)) ∧ (x14 < z1 → r = (some (.int (jI (-2))), w9))) ∧ (¬ P12 → r = (some (.int (jI (-1))), w9)))) : xCall 274 [.ref 39, .int (jI z1), .int (jI z2)] w r := E_274 (Z_274_0 hC h)
theorem Z_275_0 {z1 : Int} {z2 : Int} {w : xW} {r : Option Value × xW} (hC : CS w) (h : ∃ w1, xCall 272 [.ref 39, .int (jI z1)] w (none, w1) ∧ CS w1 ∧ xGo 275 12 [some (.ref 39), some (.int (jI z1)), some (.int (jI z2)), some (.long (jL 0)), none, some (.int (jI (z1 + 1)))] [] w1 r) : xGo 275 0 [some (.ref 39), some (.int (jI z1)), some (.int (jI z2)), none, none, none] [] w r := by
  refine g_aloadn (pc' := 1) d_275_0 rfl rfl ?_
  refine g_iloadn (pc' := 2) d_275_1 rfl rfl ?_
  obtain ⟨w1, hk2, hC3, h⟩ := h
  refine gz_callV (pc' := 5) d_275_2 rfl st_275_299 na_272 ml_272 rfl rfl rfl rm_275_272 rfl rfl ow_272 (ko_39 hC) hk2 ?_
  refine g_lconst (pc' := 6) (v := jL 0) d_275_5 rfl cl_0 ?_
  refine g_lstoren (pc' := 7) (l' := [some (.ref 39), some (.int (jI z1)), some (.int (jI z2)), some (.long (jL 0)), none, none]) d_275_6 rfl ml_275 rfl rfl ?_
  refine g_iloadn (pc' := 8) d_275_7 rfl rfl ?_
  refine g_iconst (pc' := 9) d_275_8 rfl rfl ?_
  refine gz_iadd (pc' := 10) d_275_9 rfl ?_
  refine g_istore (pc' := 12) (l' := [some (.ref 39), some (.int (jI z1)), some (.int (jI z2)), some (.long (jL 0)), none, some (.int (jI (z1 + 1)))]) d_275_10 rfl ml_275 rfl rfl ?_
  exact h
theorem Z_275 {z1 : Int} {z2 : Int} {w : xW} {r : Option Value × xW} (hC : CS w) (h : ∃ w1, xCall 272 [.ref 39, .int (jI z1)] w (none, w1) ∧ CS w1 ∧ xGo 275 12 [some (.ref 39), some (.int (jI z1)), some (.int (jI z2)), some (.long (jL 0)), none, some (.int (jI (z1 + 1)))] [] w1 r) : xCall 275 [.ref 39, .int (jI z1), .int (jI z2)] w r := E_275 (Z_275_0 hC h)
theorem Z_275_12 {z1 : Int} {z2 : Int} {z3 : Int} {z5 : Int} {w : xW} {r : Option Value × xW} (hC : CS w) (h : in32 z5 ∧ (z5 < 0 → r = (some (.long (jL z3)), w)) ∧ (0 ≤ z5 → in32 z2 ∧ 0 ≤ z5 ∧ ∃ x4, rL w 54 (z5).toNat x4 ∧ ∃ r9 w6, xCall 276 [.long (jL x4)] w (some (.long (jL r9)), w6) ∧ CS w6 ∧ 0 ≤ z5 ∧ ∃ x11, rL w6 55 (z5).toNat x11 ∧ ∃ r16 w13, xCall 277 [.long (jL x11)] w6 (some (.long (jL r16)), w13) ∧ CS w13 ∧ in64 ((z3 * z2) + (r9 * r16)) ∧ ∃ y18, Int.tmod ((z3 * z2) + (r9 * r16)) 1000000007 = y18 ∧ xGo 275 12 [some (.ref 39), some (.int (jI z1)), some (.int (jI z2)), some (.long (jL y18)), none, some (.int (jI (z5 - 1)))] [] w13 r)) : xGo 275 12 [some (.ref 39), some (.int (jI z1)), some (.int (jI z2)), some (.long (jL z3)), none, some (.int (jI z5))] [] w r := by
  refine g_iload (pc' := 14) d_275_12 rfl rfl ?_
  obtain ⟨hc1, h⟩ := h
  refine gz_if_lt (pc' := 17) (pt := 54) d_275_14 (by decide) rfl hc1 (fun c => ?_) (fun c => ?_)
  · replace h := h.1 c
    refine g_lloadn (pc' := 55) d_275_54 rfl rfl ?_
    exact g_lret d_275_55 rt_275 h
  · replace h := h.2 c
    refine g_lloadn (pc' := 18) d_275_17 rfl rfl ?_
    refine g_iloadn (pc' := 19) d_275_18 rfl rfl ?_
    obtain ⟨hc2, h⟩ := h
    refine gz_i2l (pc' := 20) d_275_19 rfl hc2 ?_
    refine gz_lmul (pc' := 21) d_275_20 rfl ?_
    refine g_aloadn (pc' := 22) d_275_21 rfl rfl ?_
    refine gz_getR (pc' := 25) d_275_22 rfl st_275_57 (kr_39_21 hC) ?_
    refine g_iload (pc' := 27) d_275_25 rfl rfl ?_
    obtain ⟨hc3, h⟩ := h
    obtain ⟨x4, hv5, h⟩ := h
    refine gz_lald (pc' := 28) d_275_27 rfl hc3 hv5 ?_
    obtain ⟨r9, w6, hk7, hC8, h⟩ := h
    refine g_callS (pc' := 31) d_275_28 rfl st_275_304 (Or.inl rfl) na_276 ml_276 rfl rfl rfl rm_275_276 rfl rfl hk7 ?_
    refine g_aloadn (pc' := 32) d_275_31 rfl rfl ?_
    refine gz_getR (pc' := 35) d_275_32 rfl st_275_60 (kr_39_22 hC8) ?_
    refine g_iload (pc' := 37) d_275_35 rfl rfl ?_
    obtain ⟨hc10, h⟩ := h
    obtain ⟨x11, hv12, h⟩ := h
    refine gz_lald (pc' := 38) d_275_37 rfl hc10 hv12 ?_
    obtain ⟨r16, w13, hk14, hC15, h⟩ := h
    refine g_callS (pc' := 41) d_275_38 rfl st_275_315 (Or.inl rfl) na_277 ml_277 rfl rfl rfl rm_275_277 rfl rfl hk14 ?_
    refine gz_lmul (pc' := 42) d_275_41 rfl ?_
    refine gz_ladd (pc' := 43) d_275_42 rfl ?_
    refine g_ldc2 (pc' := 46) d_275_43 rfl st_275_302 rfl ?_
    obtain ⟨hc17, h⟩ := h
    obtain ⟨y18, hz19, h⟩ := h
    refine gz_lrem (pc' := 47) d_275_46 rfl hc17 (s64 (z := 1000000007)) (by decide) hz19 ?_
    refine g_lstoren (pc' := 48) (l' := [some (.ref 39), some (.int (jI z1)), some (.int (jI z2)), some (.long (jL y18)), none, some (.int (jI z5))]) d_275_47 rfl ml_275 rfl rfl ?_
    refine gz_idec (pc' := 51) (c := 1) (l' := [some (.ref 39), some (.int (jI z1)), some (.int (jI z2)), some (.long (jL y18)), none, some (.int (jI (z5 - 1)))]) d_275_48 rfl rfl ml_275 rfl rfl ?_
    refine g_goto (pt := 12) d_275_51 (by decide) ?_
    exact h
theorem Z_276_0 {z0 : Int} {w : xW} {r : Option Value × xW} (hC : CS w) (h : in64 z0 ∧ ∃ y2, Int.tmod z0 1000000007 = y2 ∧ in64 y2 ∧ (0 ≤ y2 → r = (some (.long (jL y2)), w)) ∧ (y2 < 0 → r = (some (.long (jL (y2 + 1000000007))), w))) : xGo 276 0 [some (.long (jL z0)), none, none, none] [] w r := by
  refine g_lloadn (pc' := 1) d_276_0 rfl rfl ?_
  refine g_ldc2 (pc' := 4) d_276_1 rfl st_276_302 rfl ?_
  obtain ⟨hc1, h⟩ := h
  obtain ⟨y2, hz3, h⟩ := h
  refine gz_lrem (pc' := 5) d_276_4 rfl hc1 (s64 (z := 1000000007)) (by decide) hz3 ?_
  refine g_lstoren (pc' := 6) (l' := [some (.long (jL z0)), none, some (.long (jL y2)), none]) d_276_5 rfl ml_276 rfl rfl ?_
  refine g_lloadn (pc' := 7) d_276_6 rfl rfl ?_
  refine g_lconst (pc' := 8) (v := jL 0) d_276_7 rfl cl_0 ?_
  obtain ⟨hc4, h⟩ := h
  refine gz_lc_ge (pc' := 12) (pm := 9) (pt := 20) d_276_8 rfl d_276_9 (by decide) rfl hc4 (s64 (z := 0)) (fun c => ?_) (fun c => ?_)
  · replace h := h.1 c
    refine g_lloadn (pc' := 21) d_276_20 rfl rfl ?_
    exact g_lret d_276_21 rt_276 h
  · replace h := h.2 c
    refine g_lloadn (pc' := 13) d_276_12 rfl rfl ?_
    refine g_ldc2 (pc' := 16) d_276_13 rfl st_276_302 rfl ?_
    refine gz_ladd (pc' := 17) d_276_16 rfl ?_
    refine g_goto (pt := 21) d_276_17 (by decide) ?_
    exact g_lret d_276_21 rt_276 h
theorem Z_276 {z0 : Int} {w : xW} {r : Option Value × xW} (hC : CS w) (h : in64 z0 ∧ ∃ y2, Int.tmod z0 1000000007 = y2 ∧ in64 y2 ∧ (0 ≤ y2 → r = (some (.long (jL y2)), w)) ∧ (y2 < 0 → r = (some (.long (jL (y2 + 1000000007))), w))) : xCall 276 [.long (jL z0)] w r := E_276 (Z_276_0 hC h)
theorem Z_277_0 {z0 : Int} {w : xW} {r : Option Value × xW} (hC : CS w) (h : ∃ r4 w1, xCall 276 [.long (jL z0)] w (some (.long (jL r4)), w1) ∧ CS w1 ∧ xGo 277 13 [some (.long (jL z0)), none, some (.long (jL 1)), none, some (.long (jL r4)), none, some (.long (jL 1000000005)), none] [] w1 r) : xGo 277 0 [some (.long (jL z0)), none, none, none, none, none, none, none] [] w r := by
  refine g_lconst (pc' := 1) (v := jL 1) d_277_0 rfl cl_1 ?_
  refine g_lstoren (pc' := 2) (l' := [some (.long (jL z0)), none, some (.long (jL 1)), none, none, none, none, none]) d_277_1 rfl ml_277 rfl rfl ?_
  refine g_lloadn (pc' := 3) d_277_2 rfl rfl ?_
  obtain ⟨r4, w1, hk2, hC3, h⟩ := h
  refine g_callS (pc' := 6) d_277_3 rfl st_277_304 (Or.inl rfl) na_276 ml_276 rfl rfl rfl rm_277_276 rfl rfl hk2 ?_
  refine g_lstore (pc' := 8) (l' := [some (.long (jL z0)), none, some (.long (jL 1)), none, some (.long (jL r4)), none, none, none]) d_277_6 rfl ml_277 rfl rfl ?_
  refine g_ldc2 (pc' := 11) d_277_8 rfl st_277_308 rfl ?_
  refine g_lstore (pc' := 13) (l' := [some (.long (jL z0)), none, some (.long (jL 1)), none, some (.long (jL r4)), none, some (.long (jL 1000000005)), none]) d_277_11 rfl ml_277 rfl rfl ?_
  exact h
theorem Z_277 {z0 : Int} {w : xW} {r : Option Value × xW} (hC : CS w) (h : ∃ r4 w1, xCall 276 [.long (jL z0)] w (some (.long (jL r4)), w1) ∧ CS w1 ∧ xGo 277 13 [some (.long (jL z0)), none, some (.long (jL 1)), none, some (.long (jL r4)), none, some (.long (jL 1000000005)), none] [] w1 r) : xCall 277 [.long (jL z0)] w r := E_277 (Z_277_0 hC h)
theorem Z_277_13 {z0 : Int} {z2 : Int} {z4 : Int} {z6 : Int} {w : xW} {r : Option Value × xW} (hC : CS w) (h : in64 z6 ∧ (z6 ≤ 0 → r = (some (.long (jL z2)), w)) ∧ (0 < z6 → ∃ y2, Int.tmod z6 2 = y2 ∧ in64 y2 ∧ (y2 ≠ 1 → in64 (z4 * z4) ∧ ∃ y6, Int.tmod (z4 * z4) 1000000007 = y6 ∧ ∃ y8, Int.tdiv z6 2 = y8 ∧ xGo 277 13 [some (.long (jL z0)), none, some (.long (jL z2)), none, some (.long (jL y6)), none, some (.long (jL y8)), none] [] w r) ∧ (y2 = 1 → in64 (z2 * z4) ∧ ∃ y11, Int.tmod (z2 * z4) 1000000007 = y11 ∧ in64 (z4 * z4) ∧ ∃ y14, Int.tmod (z4 * z4) 1000000007 = y14 ∧ ∃ y16, Int.tdiv z6 2 = y16 ∧ xGo 277 13 [some (.long (jL z0)), none, some (.long (jL y11)), none, some (.long (jL y14)), none, some (.long (jL y16)), none] [] w r))) : xGo 277 13 [some (.long (jL z0)), none, some (.long (jL z2)), none, some (.long (jL z4)), none, some (.long (jL z6)), none] [] w r := by
  refine g_lload (pc' := 15) d_277_13 rfl rfl ?_
  refine g_lconst (pc' := 16) (v := jL 0) d_277_15 rfl cl_0 ?_
  obtain ⟨hc1, h⟩ := h
  refine gz_lc_le (pc' := 20) (pm := 17) (pt := 62) d_277_16 rfl d_277_17 (by decide) rfl hc1 (s64 (z := 0)) (fun c => ?_) (fun c => ?_)
  · replace h := h.1 c
    refine g_lloadn (pc' := 63) d_277_62 rfl rfl ?_
    exact g_lret d_277_63 rt_277 h
  · replace h := h.2 c
    refine g_lload (pc' := 22) d_277_20 rfl rfl ?_
    refine g_ldc2 (pc' := 25) d_277_22 rfl st_277_216 rfl ?_
    obtain ⟨y2, hz3, h⟩ := h
    refine gz_lrem (pc' := 26) d_277_25 rfl hc1 (s64 (z := 2)) (by decide) hz3 ?_
    refine g_lconst (pc' := 27) (v := jL 1) d_277_26 rfl cl_1 ?_
    obtain ⟨hc4, h⟩ := h
    refine gz_lc_ne (pc' := 31) (pm := 28) (pt := 40) d_277_27 rfl d_277_28 (by decide) rfl hc4 (s64 (z := 1)) (fun c => ?_) (fun c => ?_)
    · replace h := h.1 c
      refine g_lload (pc' := 42) d_277_40 rfl rfl ?_
      refine g_lload (pc' := 44) d_277_42 rfl rfl ?_
      refine gz_lmul (pc' := 45) d_277_44 rfl ?_
      refine g_ldc2 (pc' := 48) d_277_45 rfl st_277_302 rfl ?_
      obtain ⟨hc5, h⟩ := h
      obtain ⟨y6, hz7, h⟩ := h
      refine gz_lrem (pc' := 49) d_277_48 rfl hc5 (s64 (z := 1000000007)) (by decide) hz7 ?_
      refine g_lstore (pc' := 51) (l' := [some (.long (jL z0)), none, some (.long (jL z2)), none, some (.long (jL y6)), none, some (.long (jL z6)), none]) d_277_49 rfl ml_277 rfl rfl ?_
      refine g_lload (pc' := 53) d_277_51 rfl rfl ?_
      refine g_ldc2 (pc' := 56) d_277_53 rfl st_277_216 rfl ?_
      obtain ⟨y8, hz9, h⟩ := h
      refine gz_ldiv (pc' := 57) d_277_56 rfl hc1 (s64 (z := 2)) (by decide) hz9 ?_
      refine g_lstore (pc' := 59) (l' := [some (.long (jL z0)), none, some (.long (jL z2)), none, some (.long (jL y6)), none, some (.long (jL y8)), none]) d_277_57 rfl ml_277 rfl rfl ?_
      refine g_goto (pt := 13) d_277_59 (by decide) ?_
      exact h
    · replace h := h.2 c
      refine g_lloadn (pc' := 32) d_277_31 rfl rfl ?_
      refine g_lload (pc' := 34) d_277_32 rfl rfl ?_
      refine gz_lmul (pc' := 35) d_277_34 rfl ?_
      refine g_ldc2 (pc' := 38) d_277_35 rfl st_277_302 rfl ?_
      obtain ⟨hc10, h⟩ := h
      obtain ⟨y11, hz12, h⟩ := h
      refine gz_lrem (pc' := 39) d_277_38 rfl hc10 (s64 (z := 1000000007)) (by decide) hz12 ?_
      refine g_lstoren (pc' := 40) (l' := [some (.long (jL z0)), none, some (.long (jL y11)), none, some (.long (jL z4)), none, some (.long (jL z6)), none]) d_277_39 rfl ml_277 rfl rfl ?_
      refine g_lload (pc' := 42) d_277_40 rfl rfl ?_
      refine g_lload (pc' := 44) d_277_42 rfl rfl ?_
      refine gz_lmul (pc' := 45) d_277_44 rfl ?_
      refine g_ldc2 (pc' := 48) d_277_45 rfl st_277_302 rfl ?_
      obtain ⟨hc13, h⟩ := h
      obtain ⟨y14, hz15, h⟩ := h
      refine gz_lrem (pc' := 49) d_277_48 rfl hc13 (s64 (z := 1000000007)) (by decide) hz15 ?_
      refine g_lstore (pc' := 51) (l' := [some (.long (jL z0)), none, some (.long (jL y11)), none, some (.long (jL y14)), none, some (.long (jL z6)), none]) d_277_49 rfl ml_277 rfl rfl ?_
      refine g_lload (pc' := 53) d_277_51 rfl rfl ?_
      refine g_ldc2 (pc' := 56) d_277_53 rfl st_277_216 rfl ?_
      obtain ⟨y16, hz17, h⟩ := h
      refine gz_ldiv (pc' := 57) d_277_56 rfl hc1 (s64 (z := 2)) (by decide) hz17 ?_
      refine g_lstore (pc' := 59) (l' := [some (.long (jL z0)), none, some (.long (jL y11)), none, some (.long (jL y14)), none, some (.long (jL y16)), none]) d_277_57 rfl ml_277 rfl rfl ?_
      refine g_goto (pt := 13) d_277_59 (by decide) ?_
      exact h
theorem Z_278_0 {z1 : Int} {z2 : Int} {z3 : Int} {z4 : Int} {w : xW} {r : Option Value × xW} (hC : CS w) (h : ∀ w2, w2 = pF w 39 0 (.int (jI 0)) → CS w2 → ∃ (P7 : Prop) (dP8 : Decidable P7) (w4 : xW), xCall 199 [.int (jI z1), .int (jI 0), .int (jI 24)] w2 (some (.int (bz P7)), w4) ∧ CS w4 ∧ (¬ P7 → r = (some (.int (jI (-1))), w4)) ∧ (P7 → ∃ (P12 : Prop) (dP13 : Decidable P12) (w9 : xW), xCall 199 [.int (jI z2), .int (jI 0), .int (jI 1000)] w4 (some (.int (bz P12)), w9) ∧ CS w9 ∧ (¬ P12 → r = (some (.int (jI (-1))), w9)) ∧ (P12 → ∃ (P17 : Prop) (dP18 : Decidable P17) (w14 : xW), xCall 199 [.int (jI z3), .int (jI 1), .int (jI 1000)] w9 (some (.int (bz P17)), w14) ∧ CS w14 ∧ (¬ P17 → r = (some (.int (jI (-1))), w14)) ∧ (P17 → ∃ (P22 : Prop) (dP23 : Decidable P22) (w19 : xW), xCall 199 [.int (jI z4), .int (jI 0), .int (jI 1000000000)] w14 (some (.int (bz P22)), w19) ∧ CS w19 ∧ (P22 → ∃ x24, fI w19 39 12 4 x24 ∧ in32 z1 ∧ in32 x24 ∧ (z1 ≤ x24 → in32 z4 ∧ (z4 ≠ 0 → in32 z2 ∧ ∃ r33 w30, xCall 240 [.long (jL z2), .int (jI z1), .long (jL 1000000007)] w19 (some (.long (jL r33)), w30) ∧ CS w30 ∧ in64 (r33 * z4) ∧ ∃ y35, Int.tmod (r33 * z4) 1000000007 = y35 ∧ xGo 278 91 [some (.ref 39), some (.int (jI z1)), some (.int (jI z2)), some (.int (jI z3)), some (.int (jI z4)), some (.long (jL y35)), none, some (.int (jI 1))] [] w30 r) ∧ (z4 = 0 → r = (some (.int (jI 0)), w19))) ∧ (x24 < z1 → r = (some (.int (jI (-2))), w19))) ∧ (¬ P22 → r = (some (.int (jI (-1))), w19)))))) : xGo 278 0 [some (.ref 39), some (.int (jI z1)), some (.int (jI z2)), some (.int (jI z3)), some (.int (jI z4)), none, none, none] [] w r := by
  refine g_aloadn (pc' := 1) d_278_0 rfl rfl ?_
  refine g_iconst (pc' := 2) d_278_1 rfl rfl ?_
  have hpf1 := (kf_39_0 hC)
  have hC3 : CS (pF w 39 0 (.int (jI 0))) := ks_39_0 hC
  have h := h _ rfl hC3
  refine gz_putf (pc' := 5) d_278_2 rfl st_278_118 ft_12_0 ff_12_0 rfl (Or.inl rfl) hpf1 ?_
  refine g_iloadn (pc' := 6) d_278_5 rfl rfl ?_
  refine g_iconst (pc' := 7) d_278_6 rfl rfl ?_
  refine g_bipush (pc' := 9) (v := jI 24) d_278_7 rfl (by decide) ?_
  obtain ⟨P7, dP8, w4, hk5, hC6, h⟩ := h
  refine g_callS (pc' := 12) d_278_9 rfl st_278_137 (Or.inl rfl) na_199 ml_199 rfl rfl rfl rm_278_199 rfl rfl hk5 ?_
  refine gz_bt_eq (pc' := 15) (pt := 49) d_278_12 (by decide) rfl (fun c => ?_) (fun c => ?_)
  · replace h := h.1 c
    refine g_iconst (pc' := 50) d_278_49 rfl rfl ?_
    exact g_iret d_278_50 rt_278 h
  · replace h := h.2 c
    refine g_iloadn (pc' := 16) d_278_15 rfl rfl ?_
    refine g_iconst (pc' := 17) d_278_16 rfl rfl ?_
    refine g_sipush (pc' := 20) (v := jI 1000) d_278_17 rfl (by decide) ?_
    obtain ⟨P12, dP13, w9, hk10, hC11, h⟩ := h
    refine g_callS (pc' := 23) d_278_20 rfl st_278_137 (Or.inl rfl) na_199 ml_199 rfl rfl rfl rm_278_199 rfl rfl hk10 ?_
    refine gz_bt_eq (pc' := 26) (pt := 49) d_278_23 (by decide) rfl (fun c => ?_) (fun c => ?_)
    · replace h := h.1 c
      refine g_iconst (pc' := 50) d_278_49 rfl rfl ?_
      exact g_iret d_278_50 rt_278 h
    · replace h := h.2 c
      refine g_iloadn (pc' := 27) d_278_26 rfl rfl ?_
      refine g_iconst (pc' := 28) d_278_27 rfl rfl ?_
      refine g_sipush (pc' := 31) (v := jI 1000) d_278_28 rfl (by decide) ?_
      obtain ⟨P17, dP18, w14, hk15, hC16, h⟩ := h
      refine g_callS (pc' := 34) d_278_31 rfl st_278_137 (Or.inl rfl) na_199 ml_199 rfl rfl rfl rm_278_199 rfl rfl hk15 ?_
      refine gz_bt_eq (pc' := 37) (pt := 49) d_278_34 (by decide) rfl (fun c => ?_) (fun c => ?_)
      · replace h := h.1 c
        refine g_iconst (pc' := 50) d_278_49 rfl rfl ?_
        exact g_iret d_278_50 rt_278 h
      · replace h := h.2 c
        refine g_iload (pc' := 39) d_278_37 rfl rfl ?_
        refine g_iconst (pc' := 40) d_278_39 rfl rfl ?_
        refine g_ldcw (pc' := 43) d_278_40 rfl st_278_310 rfl ?_
        obtain ⟨P22, dP23, w19, hk20, hC21, h⟩ := h
        refine g_callS (pc' := 46) d_278_43 rfl st_278_137 (Or.inl rfl) na_199 ml_199 rfl rfl rfl rm_278_199 rfl rfl hk20 ?_
        refine gz_bt_ne (pc' := 49) (pt := 51) d_278_46 (by decide) rfl (fun c => ?_) (fun c => ?_)
        · replace h := h.1 c
          refine g_iloadn (pc' := 52) d_278_51 rfl rfl ?_
          refine g_aloadn (pc' := 53) d_278_52 rfl rfl ?_
          obtain ⟨x24, hv25, h⟩ := h
          refine gz_getI (pc' := 56) d_278_53 rfl st_278_20 hv25 ?_
          obtain ⟨hc26, h⟩ := h
          obtain ⟨hc27, h⟩ := h
          refine gz_ic_le (pc' := 59) (pt := 62) d_278_56 (by decide) rfl hc26 hc27 (fun c => ?_) (fun c => ?_)
          · replace h := h.1 c
            refine g_iload (pc' := 64) d_278_62 rfl rfl ?_
            obtain ⟨hc28, h⟩ := h
            refine gz_if_ne (pc' := 67) (pt := 69) d_278_64 (by decide) rfl hc28 (fun c => ?_) (fun c => ?_)
            · replace h := h.1 c
              refine g_iloadn (pc' := 70) d_278_69 rfl rfl ?_
              obtain ⟨hc29, h⟩ := h
              refine gz_i2l (pc' := 71) d_278_70 rfl hc29 ?_
              refine g_iloadn (pc' := 72) d_278_71 rfl rfl ?_
              refine g_ldc2 (pc' := 75) d_278_72 rfl st_278_302 rfl ?_
              obtain ⟨r33, w30, hk31, hC32, h⟩ := h
              refine g_callS (pc' := 78) d_278_75 rfl st_278_208 (Or.inl rfl) na_240 ml_240 rfl rfl rfl rm_278_240 rfl rfl hk31 ?_
              refine g_iload (pc' := 80) d_278_78 rfl rfl ?_
              refine gz_i2l (pc' := 81) d_278_80 rfl hc28 ?_
              refine gz_lmul (pc' := 82) d_278_81 rfl ?_
              refine g_ldc2 (pc' := 85) d_278_82 rfl st_278_302 rfl ?_
              obtain ⟨hc34, h⟩ := h
              obtain ⟨y35, hz36, h⟩ := h
              refine gz_lrem (pc' := 86) d_278_85 rfl hc34 (s64 (z := 1000000007)) (by decide) hz36 ?_
              refine g_lstore (pc' := 88) (l' := [some (.ref 39), some (.int (jI z1)), some (.int (jI z2)), some (.int (jI z3)), some (.int (jI z4)), some (.long (jL y35)), none, none]) d_278_86 rfl ml_278 rfl rfl ?_
              refine g_iconst (pc' := 89) d_278_88 rfl rfl ?_
              refine g_istore (pc' := 91) (l' := [some (.ref 39), some (.int (jI z1)), some (.int (jI z2)), some (.int (jI z3)), some (.int (jI z4)), some (.long (jL y35)), none, some (.int (jI 1))]) d_278_89 rfl ml_278 rfl rfl ?_
              exact h
            · replace h := h.2 c
              refine g_iconst (pc' := 68) d_278_67 rfl rfl ?_
              exact g_iret d_278_68 rt_278 h
          · replace h := h.2 c
            refine g_bipush (pc' := 61) (v := jI (-2)) d_278_59 rfl (by decide) ?_
            exact g_iret d_278_61 rt_278 h
        · replace h := h.2 c
          refine g_iconst (pc' := 50) d_278_49 rfl rfl ?_
          exact g_iret d_278_50 rt_278 h
theorem Z_278 {z1 : Int} {z2 : Int} {z3 : Int} {z4 : Int} {w : xW} {r : Option Value × xW} (hC : CS w) (h : ∀ w2, w2 = pF w 39 0 (.int (jI 0)) → CS w2 → ∃ (P7 : Prop) (dP8 : Decidable P7) (w4 : xW), xCall 199 [.int (jI z1), .int (jI 0), .int (jI 24)] w2 (some (.int (bz P7)), w4) ∧ CS w4 ∧ (¬ P7 → r = (some (.int (jI (-1))), w4)) ∧ (P7 → ∃ (P12 : Prop) (dP13 : Decidable P12) (w9 : xW), xCall 199 [.int (jI z2), .int (jI 0), .int (jI 1000)] w4 (some (.int (bz P12)), w9) ∧ CS w9 ∧ (¬ P12 → r = (some (.int (jI (-1))), w9)) ∧ (P12 → ∃ (P17 : Prop) (dP18 : Decidable P17) (w14 : xW), xCall 199 [.int (jI z3), .int (jI 1), .int (jI 1000)] w9 (some (.int (bz P17)), w14) ∧ CS w14 ∧ (¬ P17 → r = (some (.int (jI (-1))), w14)) ∧ (P17 → ∃ (P22 : Prop) (dP23 : Decidable P22) (w19 : xW), xCall 199 [.int (jI z4), .int (jI 0), .int (jI 1000000000)] w14 (some (.int (bz P22)), w19) ∧ CS w19 ∧ (P22 → ∃ x24, fI w19 39 12 4 x24 ∧ in32 z1 ∧ in32 x24 ∧ (z1 ≤ x24 → in32 z4 ∧ (z4 ≠ 0 → in32 z2 ∧ ∃ r33 w30, xCall 240 [.long (jL z2), .int (jI z1), .long (jL 1000000007)] w19 (some (.long (jL r33)), w30) ∧ CS w30 ∧ in64 (r33 * z4) ∧ ∃ y35, Int.tmod (r33 * z4) 1000000007 = y35 ∧ xGo 278 91 [some (.ref 39), some (.int (jI z1)), some (.int (jI z2)), some (.int (jI z3)), some (.int (jI z4)), some (.long (jL y35)), none, some (.int (jI 1))] [] w30 r) ∧ (z4 = 0 → r = (some (.int (jI 0)), w19))) ∧ (x24 < z1 → r = (some (.int (jI (-2))), w19))) ∧ (¬ P22 → r = (some (.int (jI (-1))), w19)))))) : xCall 278 [.ref 39, .int (jI z1), .int (jI z2), .int (jI z3), .int (jI z4)] w r := E_278 (Z_278_0 hC h)
theorem Z_278_91 {z1 : Int} {z2 : Int} {z3 : Int} {z4 : Int} {z5 : Int} {z7 : Int} {w : xW} {r : Option Value × xW} (hC : CS w) (h : in32 z7 ∧ in32 z1 ∧ (z1 < z7 → r = (some (.int (jI z5)), w)) ∧ (z7 ≤ z1 → 0 ≤ (40 * z1) + z7 ∧ ∃ x4, rL w 43 ((40 * z1) + z7).toNat x4 ∧ in32 z2 ∧ ∃ r10 w7, xCall 240 [.long (jL z2), .int (jI (z1 - z7)), .long (jL 1000000007)] w (some (.long (jL r10)), w7) ∧ CS w7 ∧ in64 (x4 * r10) ∧ ∃ y12, Int.tmod (x4 * r10) 1000000007 = y12 ∧ in32 z3 ∧ ∃ r18 w15, xCall 240 [.long (jL z3), .int (jI z7), .long (jL 1000000007)] w7 (some (.long (jL r18)), w15) ∧ CS w15 ∧ in64 (y12 * r18) ∧ ∃ y20, Int.tmod (y12 * r18) 1000000007 = y20 ∧ ∃ r25 w22, xCall 275 [.ref 39, .int (jI z7), .int (jI (z4 - 1))] w15 (some (.long (jL r25)), w22) ∧ CS w22 ∧ in64 (z5 + (y20 * r25)) ∧ ∃ y27, Int.tmod (z5 + (y20 * r25)) 1000000007 = y27 ∧ xGo 278 91 [some (.ref 39), some (.int (jI z1)), some (.int (jI z2)), some (.int (jI z3)), some (.int (jI z4)), some (.long (jL y27)), none, some (.int (jI (z7 + 1)))] [] w22 r)) : xGo 278 91 [some (.ref 39), some (.int (jI z1)), some (.int (jI z2)), some (.int (jI z3)), some (.int (jI z4)), some (.long (jL z5)), none, some (.int (jI z7))] [] w r := by
  refine g_iload (pc' := 93) d_278_91 rfl rfl ?_
  refine g_iloadn (pc' := 94) d_278_93 rfl rfl ?_
  obtain ⟨hc1, h⟩ := h
  obtain ⟨hc2, h⟩ := h
  refine gz_ic_gt (pc' := 97) (pt := 167) d_278_94 (by decide) rfl hc1 hc2 (fun c => ?_) (fun c => ?_)
  · replace h := h.1 c
    refine g_lload (pc' := 169) d_278_167 rfl rfl ?_
    refine gz_l2i (pc' := 170) d_278_169 rfl ?_
    exact g_iret d_278_170 rt_278 h
  · replace h := h.2 c
    refine g_lload (pc' := 99) d_278_97 rfl rfl ?_
    refine g_aloadn (pc' := 100) d_278_99 rfl rfl ?_
    refine gz_getR (pc' := 103) d_278_100 rfl st_278_24 (kr_39_5 hC) ?_
    refine g_bipush (pc' := 105) (v := jI 40) d_278_103 rfl (by decide) ?_
    refine g_iloadn (pc' := 106) d_278_105 rfl rfl ?_
    refine gz_imul (pc' := 107) d_278_106 rfl ?_
    refine g_iload (pc' := 109) d_278_107 rfl rfl ?_
    refine gz_iadd (pc' := 110) d_278_109 rfl ?_
    obtain ⟨hc3, h⟩ := h
    obtain ⟨x4, hv5, h⟩ := h
    refine gz_lald (pc' := 111) d_278_110 rfl hc3 hv5 ?_
    refine g_iloadn (pc' := 112) d_278_111 rfl rfl ?_
    obtain ⟨hc6, h⟩ := h
    refine gz_i2l (pc' := 113) d_278_112 rfl hc6 ?_
    refine g_iloadn (pc' := 114) d_278_113 rfl rfl ?_
    refine g_iload (pc' := 116) d_278_114 rfl rfl ?_
    refine gz_isub (pc' := 117) d_278_116 rfl ?_
    refine g_ldc2 (pc' := 120) d_278_117 rfl st_278_302 rfl ?_
    obtain ⟨r10, w7, hk8, hC9, h⟩ := h
    refine g_callS (pc' := 123) d_278_120 rfl st_278_208 (Or.inl rfl) na_240 ml_240 rfl rfl rfl rm_278_240 rfl rfl hk8 ?_
    refine gz_lmul (pc' := 124) d_278_123 rfl ?_
    refine g_ldc2 (pc' := 127) d_278_124 rfl st_278_302 rfl ?_
    obtain ⟨hc11, h⟩ := h
    obtain ⟨y12, hz13, h⟩ := h
    refine gz_lrem (pc' := 128) d_278_127 rfl hc11 (s64 (z := 1000000007)) (by decide) hz13 ?_
    refine g_iloadn (pc' := 129) d_278_128 rfl rfl ?_
    obtain ⟨hc14, h⟩ := h
    refine gz_i2l (pc' := 130) d_278_129 rfl hc14 ?_
    refine g_iload (pc' := 132) d_278_130 rfl rfl ?_
    refine g_ldc2 (pc' := 135) d_278_132 rfl st_278_302 rfl ?_
    obtain ⟨r18, w15, hk16, hC17, h⟩ := h
    refine g_callS (pc' := 138) d_278_135 rfl st_278_208 (Or.inl rfl) na_240 ml_240 rfl rfl rfl rm_278_240 rfl rfl hk16 ?_
    refine gz_lmul (pc' := 139) d_278_138 rfl ?_
    refine g_ldc2 (pc' := 142) d_278_139 rfl st_278_302 rfl ?_
    obtain ⟨hc19, h⟩ := h
    obtain ⟨y20, hz21, h⟩ := h
    refine gz_lrem (pc' := 143) d_278_142 rfl hc19 (s64 (z := 1000000007)) (by decide) hz21 ?_
    refine g_aloadn (pc' := 144) d_278_143 rfl rfl ?_
    refine g_iload (pc' := 146) d_278_144 rfl rfl ?_
    refine g_iload (pc' := 148) d_278_146 rfl rfl ?_
    refine g_iconst (pc' := 149) d_278_148 rfl rfl ?_
    refine gz_isub (pc' := 150) d_278_149 rfl ?_
    obtain ⟨r25, w22, hk23, hC24, h⟩ := h
    refine gz_callV (pc' := 153) d_278_150 rfl st_278_311 na_275 ml_275 rfl rfl rfl rm_278_275 rfl rfl ow_275 (ko_39 hC17) hk23 ?_
    refine gz_lmul (pc' := 154) d_278_153 rfl ?_
    refine gz_ladd (pc' := 155) d_278_154 rfl ?_
    refine g_ldc2 (pc' := 158) d_278_155 rfl st_278_302 rfl ?_
    obtain ⟨hc26, h⟩ := h
    obtain ⟨y27, hz28, h⟩ := h
    refine gz_lrem (pc' := 159) d_278_158 rfl hc26 (s64 (z := 1000000007)) (by decide) hz28 ?_
    refine g_lstore (pc' := 161) (l' := [some (.ref 39), some (.int (jI z1)), some (.int (jI z2)), some (.int (jI z3)), some (.int (jI z4)), some (.long (jL y27)), none, some (.int (jI z7))]) d_278_159 rfl ml_278 rfl rfl ?_
    refine gz_iinc (pc' := 164) (l' := [some (.ref 39), some (.int (jI z1)), some (.int (jI z2)), some (.int (jI z3)), some (.int (jI z4)), some (.long (jL y27)), none, some (.int (jI (z7 + 1)))]) d_278_161 rfl rfl ml_278 rfl rfl ?_
    refine g_goto (pt := 91) d_278_164 (by decide) ?_
    exact h
theorem Z_279_0 {z1 : Int} {z2 : Int} {w : xW} {r : Option Value × xW} (hC : CS w) (h : ∀ w2, w2 = pF w 39 0 (.int (jI 0)) → CS w2 → ∃ (P7 : Prop) (dP8 : Decidable P7) (w4 : xW), xCall 280 [.int (jI z1), .int (jI z2)] w2 (some (.int (bz P7)), w4) ∧ CS w4 ∧ (P7 → ∃ w9, xCall 281 [.ref 39, .int (jI z1), .int (jI z2)] w4 (none, w9) ∧ CS w9 ∧ ∃ r15 w12, xCall 285 [.ref 39] w9 (some (.int (jI r15)), w12) ∧ CS w12 ∧ r = (some (.int (jI r15)), w12)) ∧ (¬ P7 → r = (some (.int (jI (-1))), w4))) : xGo 279 0 [some (.ref 39), some (.int (jI z1)), some (.int (jI z2))] [] w r := by
  refine g_aloadn (pc' := 1) d_279_0 rfl rfl ?_
  refine g_iconst (pc' := 2) d_279_1 rfl rfl ?_
  have hpf1 := (kf_39_0 hC)
  have hC3 : CS (pF w 39 0 (.int (jI 0))) := ks_39_0 hC
  have h := h _ rfl hC3
  refine gz_putf (pc' := 5) d_279_2 rfl st_279_118 ft_12_0 ff_12_0 rfl (Or.inl rfl) hpf1 ?_
  refine g_iloadn (pc' := 6) d_279_5 rfl rfl ?_
  refine g_iloadn (pc' := 7) d_279_6 rfl rfl ?_
  obtain ⟨P7, dP8, w4, hk5, hC6, h⟩ := h
  refine g_callS (pc' := 10) d_279_7 rfl st_279_333 (Or.inl rfl) na_280 ml_280 rfl rfl rfl rm_279_280 rfl rfl hk5 ?_
  refine gz_bt_ne (pc' := 13) (pt := 15) d_279_10 (by decide) rfl (fun c => ?_) (fun c => ?_)
  · replace h := h.1 c
    refine g_aloadn (pc' := 16) d_279_15 rfl rfl ?_
    refine g_iloadn (pc' := 17) d_279_16 rfl rfl ?_
    refine g_iloadn (pc' := 18) d_279_17 rfl rfl ?_
    obtain ⟨w9, hk10, hC11, h⟩ := h
    refine gz_callV (pc' := 21) d_279_18 rfl st_279_336 na_281 ml_281 rfl rfl rfl rm_279_281 rfl rfl ow_281 (ko_39 hC6) hk10 ?_
    refine g_aloadn (pc' := 22) d_279_21 rfl rfl ?_
    obtain ⟨r15, w12, hk13, hC14, h⟩ := h
    refine gz_callV (pc' := 25) d_279_22 rfl st_279_339 na_285 ml_285 rfl rfl rfl rm_279_285 rfl rfl ow_285 (ko_39 hC11) hk13 ?_
    exact g_iret d_279_25 rt_279 h
  · replace h := h.2 c
    refine g_iconst (pc' := 14) d_279_13 rfl rfl ?_
    exact g_iret d_279_14 rt_279 h
theorem Z_279 {z1 : Int} {z2 : Int} {w : xW} {r : Option Value × xW} (hC : CS w) (h : ∀ w2, w2 = pF w 39 0 (.int (jI 0)) → CS w2 → ∃ (P7 : Prop) (dP8 : Decidable P7) (w4 : xW), xCall 280 [.int (jI z1), .int (jI z2)] w2 (some (.int (bz P7)), w4) ∧ CS w4 ∧ (P7 → ∃ w9, xCall 281 [.ref 39, .int (jI z1), .int (jI z2)] w4 (none, w9) ∧ CS w9 ∧ ∃ r15 w12, xCall 285 [.ref 39] w9 (some (.int (jI r15)), w12) ∧ CS w12 ∧ r = (some (.int (jI r15)), w12)) ∧ (¬ P7 → r = (some (.int (jI (-1))), w4))) : xCall 279 [.ref 39, .int (jI z1), .int (jI z2)] w r := E_279 (Z_279_0 hC h)
theorem Z_280_0 {z0 : Int} {z1 : Int} {w : xW} {r : Option Value × xW} (hC : CS w) (h : ∃ (P4 : Prop) (dP5 : Decidable P4) (w1 : xW), xCall 199 [.int (jI z0), .int (jI 0), .int (jI 24)] w (some (.int (bz P4)), w1) ∧ CS w1 ∧ (¬ P4 → r = (some (.int (jI 0)), w1)) ∧ (P4 → ∃ (P9 : Prop) (dP10 : Decidable P9) (w6 : xW), xCall 199 [.int (jI z1), .int (jI 0), .int (jI 1000000000)] w1 (some (.int (bz P9)), w6) ∧ CS w6 ∧ (¬ P9 → r = (some (.int (jI 0)), w6)) ∧ (P9 → r = (some (.int (jI 1)), w6)))) : xGo 280 0 [some (.int (jI z0)), some (.int (jI z1))] [] w r := by
  refine g_iloadn (pc' := 1) d_280_0 rfl rfl ?_
  refine g_iconst (pc' := 2) d_280_1 rfl rfl ?_
  refine g_bipush (pc' := 4) (v := jI 24) d_280_2 rfl (by decide) ?_
  obtain ⟨P4, dP5, w1, hk2, hC3, h⟩ := h
  refine g_callS (pc' := 7) d_280_4 rfl st_280_137 (Or.inl rfl) na_199 ml_199 rfl rfl rfl rm_280_199 rfl rfl hk2 ?_
  refine gz_bt_eq (pc' := 10) (pt := 25) d_280_7 (by decide) rfl (fun c => ?_) (fun c => ?_)
  · replace h := h.1 c
    refine g_iconst (pc' := 26) d_280_25 rfl rfl ?_
    exact g_zret d_280_26 rt_280 (Or.inl rfl) h
  · replace h := h.2 c
    refine g_iloadn (pc' := 11) d_280_10 rfl rfl ?_
    refine g_iconst (pc' := 12) d_280_11 rfl rfl ?_
    refine g_ldcw (pc' := 15) d_280_12 rfl st_280_310 rfl ?_
    obtain ⟨P9, dP10, w6, hk7, hC8, h⟩ := h
    refine g_callS (pc' := 18) d_280_15 rfl st_280_137 (Or.inl rfl) na_199 ml_199 rfl rfl rfl rm_280_199 rfl rfl hk7 ?_
    refine gz_bt_eq (pc' := 21) (pt := 25) d_280_18 (by decide) rfl (fun c => ?_) (fun c => ?_)
    · replace h := h.1 c
      refine g_iconst (pc' := 26) d_280_25 rfl rfl ?_
      exact g_zret d_280_26 rt_280 (Or.inl rfl) h
    · replace h := h.2 c
      refine g_iconst (pc' := 22) d_280_21 rfl rfl ?_
      refine g_goto (pt := 26) d_280_22 (by decide) ?_
      exact g_zret d_280_26 rt_280 (Or.inr rfl) h
theorem Z_280 {z0 : Int} {z1 : Int} {w : xW} {r : Option Value × xW} (hC : CS w) (h : ∃ (P4 : Prop) (dP5 : Decidable P4) (w1 : xW), xCall 199 [.int (jI z0), .int (jI 0), .int (jI 24)] w (some (.int (bz P4)), w1) ∧ CS w1 ∧ (¬ P4 → r = (some (.int (jI 0)), w1)) ∧ (P4 → ∃ (P9 : Prop) (dP10 : Decidable P9) (w6 : xW), xCall 199 [.int (jI z1), .int (jI 0), .int (jI 1000000000)] w1 (some (.int (bz P9)), w6) ∧ CS w6 ∧ (¬ P9 → r = (some (.int (jI 0)), w6)) ∧ (P9 → r = (some (.int (jI 1)), w6)))) : xCall 280 [.int (jI z0), .int (jI z1)] w r := E_280 (Z_280_0 hC h)
theorem Z_281_0 {z1 : Int} {z2 : Int} {w : xW} {r : Option Value × xW} (hC : CS w) (h : xGo 281 2 [some (.ref 39), some (.int (jI z1)), some (.int (jI z2)), some (.int (jI 0))] [] w r) : xGo 281 0 [some (.ref 39), some (.int (jI z1)), some (.int (jI z2)), none] [] w r := by
  refine g_iconst (pc' := 1) d_281_0 rfl rfl ?_
  refine g_istoren (pc' := 2) (l' := [some (.ref 39), some (.int (jI z1)), some (.int (jI z2)), some (.int (jI 0))]) d_281_1 rfl ml_281 rfl rfl ?_
  exact h
theorem Z_281 {z1 : Int} {z2 : Int} {w : xW} {r : Option Value × xW} (hC : CS w) (h : xGo 281 2 [some (.ref 39), some (.int (jI z1)), some (.int (jI z2)), some (.int (jI 0))] [] w r) : xCall 281 [.ref 39, .int (jI z1), .int (jI z2)] w r := E_281 (Z_281_0 hC h)
theorem Z_281_2 {z1 : Int} {z2 : Int} {z3 : Int} {w : xW} {r : Option Value × xW} (hC : CS w) (h : in32 z3 ∧ (32 ≤ z3 → in32 z1 ∧ (z1 ≠ 0 → ∃ w3, xCall 282 [.ref 39, .int (jI z1)] w (none, w3) ∧ CS w3 ∧ in32 z2 ∧ ∃ w7, xCall 283 [.ref 39, .long (jL (z2 + 1))] w3 (none, w7) ∧ CS w7 ∧ xGo 281 80 [some (.ref 39), some (.int (jI z1)), some (.int (jI z2)), some (.int (jI 1))] [] w7 r) ∧ (z1 = 0 → in32 z2 ∧ ∃ y11, Int.tmod z2 1000000000 = y11 ∧ ∀ w14, w14 = pL w 56 0 (jL y11) → CS w14 → ∃ y16, Int.tdiv z2 1000000000 = y16 ∧ ∀ w19, w19 = pL w14 56 1 (jL y16) → CS w19 → r = (none, w19))) ∧ (z3 < 32 → (0 ≤ z3 ∧ z3 < 32) ∧ ∀ w23, w23 = pL w 56 (z3).toNat (jL 0) → CS w23 → (z3 ≠ 0 → ∀ w26, w26 = pL w23 57 (z3).toNat (jL 0) → CS w26 → xGo 281 2 [some (.ref 39), some (.int (jI z1)), some (.int (jI z2)), some (.int (jI (z3 + 1)))] [] w26 r) ∧ (z3 = 0 → ∀ w29, w29 = pL w23 57 (z3).toNat (jL 1) → CS w29 → xGo 281 2 [some (.ref 39), some (.int (jI z1)), some (.int (jI z2)), some (.int (jI (z3 + 1)))] [] w29 r))) : xGo 281 2 [some (.ref 39), some (.int (jI z1)), some (.int (jI z2)), some (.int (jI z3))] [] w r := by
  refine g_iloadn (pc' := 3) d_281_2 rfl rfl ?_
  refine g_bipush (pc' := 5) (v := jI 32) d_281_3 rfl (by decide) ?_
  obtain ⟨hc1, h⟩ := h
  refine gz_ic_ge (pc' := 8) (pt := 36) d_281_5 (by decide) rfl hc1 (s32 (z := 32)) (fun c => ?_) (fun c => ?_)
  · replace h := h.1 c
    refine g_iloadn (pc' := 37) d_281_36 rfl rfl ?_
    obtain ⟨hc2, h⟩ := h
    refine gz_if_ne (pc' := 40) (pt := 65) d_281_37 (by decide) rfl hc2 (fun c => ?_) (fun c => ?_)
    · replace h := h.1 c
      refine g_aloadn (pc' := 66) d_281_65 rfl rfl ?_
      refine g_iloadn (pc' := 67) d_281_66 rfl rfl ?_
      obtain ⟨w3, hk4, hC5, h⟩ := h
      refine gz_callV (pc' := 70) d_281_67 rfl st_281_320 na_282 ml_282 rfl rfl rfl rm_281_282 rfl rfl ow_282 (ko_39 hC) hk4 ?_
      refine g_aloadn (pc' := 71) d_281_70 rfl rfl ?_
      refine g_iloadn (pc' := 72) d_281_71 rfl rfl ?_
      obtain ⟨hc6, h⟩ := h
      refine gz_i2l (pc' := 73) d_281_72 rfl hc6 ?_
      refine g_lconst (pc' := 74) (v := jL 1) d_281_73 rfl cl_1 ?_
      refine gz_ladd (pc' := 75) d_281_74 rfl ?_
      obtain ⟨w7, hk8, hC9, h⟩ := h
      refine gz_callV (pc' := 78) d_281_75 rfl st_281_323 na_283 ml_283 rfl rfl rfl rm_281_283 rfl rfl ow_283 (ko_39 hC5) hk8 ?_
      refine g_iconst (pc' := 79) d_281_78 rfl rfl ?_
      refine g_istoren (pc' := 80) (l' := [some (.ref 39), some (.int (jI z1)), some (.int (jI z2)), some (.int (jI 1))]) d_281_79 rfl ml_281 rfl rfl ?_
      exact h
    · replace h := h.2 c
      refine g_aloadn (pc' := 41) d_281_40 rfl rfl ?_
      refine gz_getR (pc' := 44) d_281_41 rfl st_281_63 (kr_39_23 hC) ?_
      refine g_iconst (pc' := 45) d_281_44 rfl rfl ?_
      refine g_iloadn (pc' := 46) d_281_45 rfl rfl ?_
      obtain ⟨hc10, h⟩ := h
      refine gz_i2l (pc' := 47) d_281_46 rfl hc10 ?_
      refine g_ldc2 (pc' := 50) d_281_47 rfl st_281_318 rfl ?_
      obtain ⟨y11, hz12, h⟩ := h
      refine gz_lrem (pc' := 51) d_281_50 rfl (in3264 hc10) (s64 (z := 1000000000)) (by decide) hz12 ?_
      have hs13 := (kh_56 (i := 0) hC ⟨by decide, by decide⟩)
      have hC15 : CS (pL w 56 0 (jL y11)) := hC.putL
      have h := h _ rfl hC15
      refine gz_last (pc' := 52) d_281_51 rfl hs13 ?_
      refine g_aloadn (pc' := 53) d_281_52 rfl rfl ?_
      refine gz_getR (pc' := 56) d_281_53 rfl st_281_63 (kr_39_23 hC15) ?_
      refine g_iconst (pc' := 57) d_281_56 rfl rfl ?_
      refine g_iloadn (pc' := 58) d_281_57 rfl rfl ?_
      refine gz_i2l (pc' := 59) d_281_58 rfl hc10 ?_
      refine g_ldc2 (pc' := 62) d_281_59 rfl st_281_318 rfl ?_
      obtain ⟨y16, hz17, h⟩ := h
      refine gz_ldiv (pc' := 63) d_281_62 rfl (in3264 hc10) (s64 (z := 1000000000)) (by decide) hz17 ?_
      have hs18 := (kh_56 (i := 1) hC15 ⟨by decide, by decide⟩)
      have hC20 : CS (pL (pL w 56 0 (jL y11)) 56 1 (jL y16)) := hC15.putL
      have h := h _ rfl hC20
      refine gz_last (pc' := 64) d_281_63 rfl hs18 ?_
      exact g_vret d_281_64 rt_281 h
  · replace h := h.2 c
    refine g_aloadn (pc' := 9) d_281_8 rfl rfl ?_
    refine gz_getR (pc' := 12) d_281_9 rfl st_281_63 (kr_39_23 hC) ?_
    refine g_iloadn (pc' := 13) d_281_12 rfl rfl ?_
    refine g_lconst (pc' := 14) (v := jL 0) d_281_13 rfl cl_0 ?_
    obtain ⟨hc21, h⟩ := h
    have hs22 := (kh_56 hC hc21)
    have hC24 : CS (pL w 56 (z3).toNat (jL 0)) := hC.putL
    have h := h _ rfl hC24
    refine gz_last (pc' := 15) d_281_14 rfl hs22 ?_
    refine g_aloadn (pc' := 16) d_281_15 rfl rfl ?_
    refine gz_getR (pc' := 19) d_281_16 rfl st_281_66 (kr_39_24 hC24) ?_
    refine g_iloadn (pc' := 20) d_281_19 rfl rfl ?_
    refine g_iloadn (pc' := 21) d_281_20 rfl rfl ?_
    refine gz_if_ne (pc' := 24) (pt := 28) d_281_21 (by decide) rfl hc1 (fun c => ?_) (fun c => ?_)
    · replace h := h.1 c
      refine g_lconst (pc' := 29) (v := jL 0) d_281_28 rfl cl_0 ?_
      have hs25 := (kh_57 hC24 hc21)
      have hC27 : CS (pL (pL w 56 (z3).toNat (jL 0)) 57 (z3).toNat (jL 0)) := hC24.putL
      have h := h _ rfl hC27
      refine gz_last (pc' := 30) d_281_29 rfl hs25 ?_
      refine gz_iinc (pc' := 33) (l' := [some (.ref 39), some (.int (jI z1)), some (.int (jI z2)), some (.int (jI (z3 + 1)))]) d_281_30 rfl rfl ml_281 rfl rfl ?_
      refine g_goto (pt := 2) d_281_33 (by decide) ?_
      exact h
    · replace h := h.2 c
      refine g_lconst (pc' := 25) (v := jL 1) d_281_24 rfl cl_1 ?_
      refine g_goto (pt := 29) d_281_25 (by decide) ?_
      have hs28 := (kh_57 hC24 hc21)
      have hC30 : CS (pL (pL w 56 (z3).toNat (jL 0)) 57 (z3).toNat (jL 1)) := hC24.putL
      have h := h _ rfl hC30
      refine gz_last (pc' := 30) d_281_29 rfl hs28 ?_
      refine gz_iinc (pc' := 33) (l' := [some (.ref 39), some (.int (jI z1)), some (.int (jI z2)), some (.int (jI (z3 + 1)))]) d_281_30 rfl rfl ml_281 rfl rfl ?_
      refine g_goto (pt := 2) d_281_33 (by decide) ?_
      exact h
theorem Z_281_80 {z1 : Int} {z2 : Int} {z3 : Int} {w : xW} {r : Option Value × xW} (hC : CS w) (h : in32 z3 ∧ in32 z1 ∧ (z1 < z3 → r = (none, w)) ∧ (z3 ≤ z1 → in32 z2 ∧ (z2 < z3 → r = (none, w)) ∧ (z3 ≤ z2 → ∃ w4, xCall 283 [.ref 39, .long (jL ((z2 + 1) - z3))] w (none, w4) ∧ CS w4 ∧ 0 ≤ z3 ∧ ∃ x8, rL w4 58 (z3).toNat x8 ∧ in64 x8 ∧ ∃ y11, Int.tmod x8 1000000000 = y11 ∧ ∃ w13, xCall 284 [.ref 39, .int (jI (z3 + 1)), .long (jL y11), .int (jI 0)] w4 (none, w13) ∧ CS w13 ∧ 0 ≤ z3 ∧ ∃ x17, rL w13 58 (z3).toNat x17 ∧ in64 x17 ∧ ∃ y20, Int.tdiv x17 1000000000 = y20 ∧ ∃ w22, xCall 284 [.ref 39, .int (jI (z3 + 1)), .long (jL y20), .int (jI 1)] w13 (none, w22) ∧ CS w22 ∧ xGo 281 80 [some (.ref 39), some (.int (jI z1)), some (.int (jI z2)), some (.int (jI (z3 + 1)))] [] w22 r))) : xGo 281 80 [some (.ref 39), some (.int (jI z1)), some (.int (jI z2)), some (.int (jI z3))] [] w r := by
  refine g_iloadn (pc' := 81) d_281_80 rfl rfl ?_
  refine g_iloadn (pc' := 82) d_281_81 rfl rfl ?_
  obtain ⟨hc1, h⟩ := h
  obtain ⟨hc2, h⟩ := h
  refine gz_ic_gt (pc' := 85) (pt := 143) d_281_82 (by decide) rfl hc1 hc2 (fun c => ?_) (fun c => ?_)
  · replace h := h.1 c
    exact g_vret d_281_143 rt_281 h
  · replace h := h.2 c
    refine g_iloadn (pc' := 86) d_281_85 rfl rfl ?_
    refine g_iloadn (pc' := 87) d_281_86 rfl rfl ?_
    obtain ⟨hc3, h⟩ := h
    refine gz_ic_gt (pc' := 90) (pt := 143) d_281_87 (by decide) rfl hc1 hc3 (fun c => ?_) (fun c => ?_)
    · replace h := h.1 c
      exact g_vret d_281_143 rt_281 h
    · replace h := h.2 c
      refine g_aloadn (pc' := 91) d_281_90 rfl rfl ?_
      refine g_iloadn (pc' := 92) d_281_91 rfl rfl ?_
      refine gz_i2l (pc' := 93) d_281_92 rfl hc3 ?_
      refine g_lconst (pc' := 94) (v := jL 1) d_281_93 rfl cl_1 ?_
      refine gz_ladd (pc' := 95) d_281_94 rfl ?_
      refine g_iloadn (pc' := 96) d_281_95 rfl rfl ?_
      refine gz_i2l (pc' := 97) d_281_96 rfl hc1 ?_
      refine gz_lsub (pc' := 98) d_281_97 rfl ?_
      obtain ⟨w4, hk5, hC6, h⟩ := h
      refine gz_callV (pc' := 101) d_281_98 rfl st_281_323 na_283 ml_283 rfl rfl rfl rm_281_283 rfl rfl ow_283 (ko_39 hC) hk5 ?_
      refine g_aloadn (pc' := 102) d_281_101 rfl rfl ?_
      refine g_iloadn (pc' := 103) d_281_102 rfl rfl ?_
      refine g_iconst (pc' := 104) d_281_103 rfl rfl ?_
      refine gz_iadd (pc' := 105) d_281_104 rfl ?_
      refine g_aloadn (pc' := 106) d_281_105 rfl rfl ?_
      refine gz_getR (pc' := 109) d_281_106 rfl st_281_69 (kr_39_25 hC6) ?_
      refine g_iloadn (pc' := 110) d_281_109 rfl rfl ?_
      obtain ⟨hc7, h⟩ := h
      obtain ⟨x8, hv9, h⟩ := h
      refine gz_lald (pc' := 111) d_281_110 rfl hc7 hv9 ?_
      refine g_ldc2 (pc' := 114) d_281_111 rfl st_281_318 rfl ?_
      obtain ⟨hc10, h⟩ := h
      obtain ⟨y11, hz12, h⟩ := h
      refine gz_lrem (pc' := 115) d_281_114 rfl hc10 (s64 (z := 1000000000)) (by decide) hz12 ?_
      refine g_iconst (pc' := 116) d_281_115 rfl rfl ?_
      obtain ⟨w13, hk14, hC15, h⟩ := h
      refine gz_callV (pc' := 119) d_281_116 rfl st_281_327 na_284 ml_284 rfl rfl rfl rm_281_284 rfl rfl ow_284 (ko_39 hC6) hk14 ?_
      refine g_aloadn (pc' := 120) d_281_119 rfl rfl ?_
      refine g_iloadn (pc' := 121) d_281_120 rfl rfl ?_
      refine g_iconst (pc' := 122) d_281_121 rfl rfl ?_
      refine gz_iadd (pc' := 123) d_281_122 rfl ?_
      refine g_aloadn (pc' := 124) d_281_123 rfl rfl ?_
      refine gz_getR (pc' := 127) d_281_124 rfl st_281_69 (kr_39_25 hC15) ?_
      refine g_iloadn (pc' := 128) d_281_127 rfl rfl ?_
      obtain ⟨hc16, h⟩ := h
      obtain ⟨x17, hv18, h⟩ := h
      refine gz_lald (pc' := 129) d_281_128 rfl hc16 hv18 ?_
      refine g_ldc2 (pc' := 132) d_281_129 rfl st_281_318 rfl ?_
      obtain ⟨hc19, h⟩ := h
      obtain ⟨y20, hz21, h⟩ := h
      refine gz_ldiv (pc' := 133) d_281_132 rfl hc19 (s64 (z := 1000000000)) (by decide) hz21 ?_
      refine g_iconst (pc' := 134) d_281_133 rfl rfl ?_
      obtain ⟨w22, hk23, hC24, h⟩ := h
      refine gz_callV (pc' := 137) d_281_134 rfl st_281_327 na_284 ml_284 rfl rfl rfl rm_281_284 rfl rfl ow_284 (ko_39 hC15) hk23 ?_
      refine gz_iinc (pc' := 140) (l' := [some (.ref 39), some (.int (jI z1)), some (.int (jI z2)), some (.int (jI (z3 + 1)))]) d_281_137 rfl rfl ml_281 rfl rfl ?_
      refine g_goto (pt := 80) d_281_140 (by decide) ?_
      exact h
theorem Z_282_0 {z1 : Int} {w : xW} {r : Option Value × xW} (hC : CS w) (h : xGo 282 2 [some (.ref 39), some (.int (jI z1)), some (.int (jI 0)), none] [] w r) : xGo 282 0 [some (.ref 39), some (.int (jI z1)), none, none] [] w r := by
  refine g_iconst (pc' := 1) d_282_0 rfl rfl ?_
  refine g_istoren (pc' := 2) (l' := [some (.ref 39), some (.int (jI z1)), some (.int (jI 0)), none]) d_282_1 rfl ml_282 rfl rfl ?_
  exact h
theorem Z_282 {z1 : Int} {w : xW} {r : Option Value × xW} (hC : CS w) (h : xGo 282 2 [some (.ref 39), some (.int (jI z1)), some (.int (jI 0)), none] [] w r) : xCall 282 [.ref 39, .int (jI z1)] w r := E_282 (Z_282_0 hC h)
theorem Z_282_2 {z1 : Int} {z2 : Int} {w : xW} {r : Option Value × xW} (hC : CS w) (h : in32 z2 ∧ (26 ≤ z2 → xGo 282 31 [some (.ref 39), some (.int (jI z1)), some (.int (jI 1)), none] [] w r) ∧ (z2 < 26 → (z2 ≠ 0 → (0 ≤ z2 ∧ z2 < 26) ∧ ∀ w4, w4 = pL w 58 (z2).toNat (jL 0) → CS w4 → xGo 282 2 [some (.ref 39), some (.int (jI z1)), some (.int (jI (z2 + 1))), none] [] w4 r) ∧ (z2 = 0 → (0 ≤ z2 ∧ z2 < 26) ∧ ∀ w8, w8 = pL w 58 (z2).toNat (jL 1) → CS w8 → xGo 282 2 [some (.ref 39), some (.int (jI z1)), some (.int (jI (z2 + 1))), none] [] w8 r))) : xGo 282 2 [some (.ref 39), some (.int (jI z1)), some (.int (jI z2)), none] [] w r := by
  refine g_iloadn (pc' := 3) d_282_2 rfl rfl ?_
  refine g_bipush (pc' := 5) (v := jI 26) d_282_3 rfl (by decide) ?_
  obtain ⟨hc1, h⟩ := h
  refine gz_ic_ge (pc' := 8) (pt := 29) d_282_5 (by decide) rfl hc1 (s32 (z := 26)) (fun c => ?_) (fun c => ?_)
  · replace h := h.1 c
    refine g_iconst (pc' := 30) d_282_29 rfl rfl ?_
    refine g_istoren (pc' := 31) (l' := [some (.ref 39), some (.int (jI z1)), some (.int (jI 1)), none]) d_282_30 rfl ml_282 rfl rfl ?_
    exact h
  · replace h := h.2 c
    refine g_aloadn (pc' := 9) d_282_8 rfl rfl ?_
    refine gz_getR (pc' := 12) d_282_9 rfl st_282_69 (kr_39_25 hC) ?_
    refine g_iloadn (pc' := 13) d_282_12 rfl rfl ?_
    refine g_iloadn (pc' := 14) d_282_13 rfl rfl ?_
    refine gz_if_ne (pc' := 17) (pt := 21) d_282_14 (by decide) rfl hc1 (fun c => ?_) (fun c => ?_)
    · replace h := h.1 c
      refine g_lconst (pc' := 22) (v := jL 0) d_282_21 rfl cl_0 ?_
      obtain ⟨hc2, h⟩ := h
      have hs3 := (kh_58 hC hc2)
      have hC5 : CS (pL w 58 (z2).toNat (jL 0)) := hC.putL
      have h := h _ rfl hC5
      refine gz_last (pc' := 23) d_282_22 rfl hs3 ?_
      refine gz_iinc (pc' := 26) (l' := [some (.ref 39), some (.int (jI z1)), some (.int (jI (z2 + 1))), none]) d_282_23 rfl rfl ml_282 rfl rfl ?_
      refine g_goto (pt := 2) d_282_26 (by decide) ?_
      exact h
    · replace h := h.2 c
      refine g_lconst (pc' := 18) (v := jL 1) d_282_17 rfl cl_1 ?_
      refine g_goto (pt := 22) d_282_18 (by decide) ?_
      obtain ⟨hc6, h⟩ := h
      have hs7 := (kh_58 hC hc6)
      have hC9 : CS (pL w 58 (z2).toNat (jL 1)) := hC.putL
      have h := h _ rfl hC9
      refine gz_last (pc' := 23) d_282_22 rfl hs7 ?_
      refine gz_iinc (pc' := 26) (l' := [some (.ref 39), some (.int (jI z1)), some (.int (jI (z2 + 1))), none]) d_282_23 rfl rfl ml_282 rfl rfl ?_
      refine g_goto (pt := 2) d_282_26 (by decide) ?_
      exact h
theorem Z_282_31 {z1 : Int} {z2 : Int} {w : xW} {r : Option Value × xW} (hC : CS w) (h : in32 z2 ∧ in32 z1 ∧ (z1 < z2 → r = (none, w)) ∧ (z2 ≤ z1 → xGo 282 38 [some (.ref 39), some (.int (jI z1)), some (.int (jI z2)), some (.int (jI z2))] [] w r)) : xGo 282 31 [some (.ref 39), some (.int (jI z1)), some (.int (jI z2)), none] [] w r := by
  refine g_iloadn (pc' := 32) d_282_31 rfl rfl ?_
  refine g_iloadn (pc' := 33) d_282_32 rfl rfl ?_
  obtain ⟨hc1, h⟩ := h
  obtain ⟨hc2, h⟩ := h
  refine gz_ic_gt (pc' := 36) (pt := 85) d_282_33 (by decide) rfl hc1 hc2 (fun c => ?_) (fun c => ?_)
  · replace h := h.1 c
    exact g_vret d_282_85 rt_282 h
  · replace h := h.2 c
    refine g_iloadn (pc' := 37) d_282_36 rfl rfl ?_
    refine g_istoren (pc' := 38) (l' := [some (.ref 39), some (.int (jI z1)), some (.int (jI z2)), some (.int (jI z2))]) d_282_37 rfl ml_282 rfl rfl ?_
    exact h
theorem Z_282_38 {z1 : Int} {z2 : Int} {z3 : Int} {w : xW} {r : Option Value × xW} (hC : CS w) (h : in32 z3 ∧ (z3 ≤ 0 → ∀ w3, w3 = pL w 58 0 (jL 0) → CS w3 → xGo 282 31 [some (.ref 39), some (.int (jI z1)), some (.int (jI (z2 + 1))), none] [] w3 r) ∧ (0 < z3 → 0 ≤ z3 ∧ ∃ x6, rL w 58 (z3).toNat x6 ∧ 0 ≤ z3 - 1 ∧ ∃ x9, rL w 58 (z3 - 1).toNat x9 ∧ (0 ≤ z3 ∧ z3 < 26) ∧ ∀ w13, w13 = pL w 58 (z3).toNat (jL ((z3 * x6) + x9)) → CS w13 → xGo 282 38 [some (.ref 39), some (.int (jI z1)), some (.int (jI z2)), some (.int (jI (z3 - 1)))] [] w13 r)) : xGo 282 38 [some (.ref 39), some (.int (jI z1)), some (.int (jI z2)), some (.int (jI z3))] [] w r := by
  refine g_iloadn (pc' := 39) d_282_38 rfl rfl ?_
  obtain ⟨hc1, h⟩ := h
  refine gz_if_le (pc' := 42) (pt := 72) d_282_39 (by decide) rfl hc1 (fun c => ?_) (fun c => ?_)
  · replace h := h.1 c
    refine g_aloadn (pc' := 73) d_282_72 rfl rfl ?_
    refine gz_getR (pc' := 76) d_282_73 rfl st_282_69 (kr_39_25 hC) ?_
    refine g_iconst (pc' := 77) d_282_76 rfl rfl ?_
    refine g_lconst (pc' := 78) (v := jL 0) d_282_77 rfl cl_0 ?_
    have hs2 := (kh_58 (i := 0) hC ⟨by decide, by decide⟩)
    have hC4 : CS (pL w 58 0 (jL 0)) := hC.putL
    have h := h _ rfl hC4
    refine gz_last (pc' := 79) d_282_78 rfl hs2 ?_
    refine gz_iinc (pc' := 82) (l' := [some (.ref 39), some (.int (jI z1)), some (.int (jI (z2 + 1))), some (.int (jI z3))]) d_282_79 rfl rfl ml_282 rfl rfl ?_
    refine g_goto (pt := 31) d_282_82 (by decide) ?_
    exact xGo.more (xle_s (xle_s (xle_s (xle_n xle_0)))) h
  · replace h := h.2 c
    refine g_aloadn (pc' := 43) d_282_42 rfl rfl ?_
    refine gz_getR (pc' := 46) d_282_43 rfl st_282_69 (kr_39_25 hC) ?_
    refine g_iloadn (pc' := 47) d_282_46 rfl rfl ?_
    refine g_iloadn (pc' := 48) d_282_47 rfl rfl ?_
    refine gz_i2l (pc' := 49) d_282_48 rfl hc1 ?_
    refine g_aloadn (pc' := 50) d_282_49 rfl rfl ?_
    refine gz_getR (pc' := 53) d_282_50 rfl st_282_69 (kr_39_25 hC) ?_
    refine g_iloadn (pc' := 54) d_282_53 rfl rfl ?_
    obtain ⟨hc5, h⟩ := h
    obtain ⟨x6, hv7, h⟩ := h
    refine gz_lald (pc' := 55) d_282_54 rfl hc5 hv7 ?_
    refine gz_lmul (pc' := 56) d_282_55 rfl ?_
    refine g_aloadn (pc' := 57) d_282_56 rfl rfl ?_
    refine gz_getR (pc' := 60) d_282_57 rfl st_282_69 (kr_39_25 hC) ?_
    refine g_iloadn (pc' := 61) d_282_60 rfl rfl ?_
    refine g_iconst (pc' := 62) d_282_61 rfl rfl ?_
    refine gz_isub (pc' := 63) d_282_62 rfl ?_
    obtain ⟨hc8, h⟩ := h
    obtain ⟨x9, hv10, h⟩ := h
    refine gz_lald (pc' := 64) d_282_63 rfl hc8 hv10 ?_
    refine gz_ladd (pc' := 65) d_282_64 rfl ?_
    obtain ⟨hc11, h⟩ := h
    have hs12 := (kh_58 hC hc11)
    have hC14 : CS (pL w 58 (z3).toNat (jL ((z3 * x6) + x9))) := hC.putL
    have h := h _ rfl hC14
    refine gz_last (pc' := 66) d_282_65 rfl hs12 ?_
    refine gz_idec (pc' := 69) (c := 1) (l' := [some (.ref 39), some (.int (jI z1)), some (.int (jI z2)), some (.int (jI (z3 - 1)))]) d_282_66 rfl rfl ml_282 rfl rfl ?_
    refine g_goto (pt := 38) d_282_69 (by decide) ?_
    exact h
theorem Z_283_0 {z1 : Int} {w : xW} {r : Option Value × xW} (hC : CS w) (h : xGo 283 5 [some (.ref 39), some (.long (jL z1)), none, some (.long (jL 0)), none, some (.int (jI 0)), none, none] [] w r) : xGo 283 0 [some (.ref 39), some (.long (jL z1)), none, none, none, none, none, none] [] w r := by
  refine g_lconst (pc' := 1) (v := jL 0) d_283_0 rfl cl_0 ?_
  refine g_lstoren (pc' := 2) (l' := [some (.ref 39), some (.long (jL z1)), none, some (.long (jL 0)), none, none, none, none]) d_283_1 rfl ml_283 rfl rfl ?_
  refine g_iconst (pc' := 3) d_283_2 rfl rfl ?_
  refine g_istore (pc' := 5) (l' := [some (.ref 39), some (.long (jL z1)), none, some (.long (jL 0)), none, some (.int (jI 0)), none, none]) d_283_3 rfl ml_283 rfl rfl ?_
  exact h
theorem Z_283 {z1 : Int} {w : xW} {r : Option Value × xW} (hC : CS w) (h : xGo 283 5 [some (.ref 39), some (.long (jL z1)), none, some (.long (jL 0)), none, some (.int (jI 0)), none, none] [] w r) : xCall 283 [.ref 39, .long (jL z1)] w r := E_283 (Z_283_0 hC h)
theorem Z_283_5 {z1 : Int} {z3 : Int} {z5 : Int} {w : xW} {r : Option Value × xW} (hC : CS w) (h : in32 z5 ∧ (32 ≤ z5 → r = (none, w)) ∧ (z5 < 32 → 0 ≤ z5 ∧ ∃ x3, rL w 57 (z5).toNat x3 ∧ in64 ((x3 * z1) + z3) ∧ ∃ y6, Int.tmod ((x3 * z1) + z3) 1000000000 = y6 ∧ (0 ≤ z5 ∧ z5 < 32) ∧ ∀ w10, w10 = pL w 57 (z5).toNat (jL y6) → CS w10 → ∃ y12, Int.tdiv ((x3 * z1) + z3) 1000000000 = y12 ∧ xGo 283 5 [some (.ref 39), some (.long (jL z1)), none, some (.long (jL y12)), none, some (.int (jI (z5 + 1))), none, none] [] w10 r)) : xGo 283 5 [some (.ref 39), some (.long (jL z1)), none, some (.long (jL z3)), none, some (.int (jI z5)), none, none] [] w r := by
  refine g_iload (pc' := 7) d_283_5 rfl rfl ?_
  refine g_bipush (pc' := 9) (v := jI 32) d_283_7 rfl (by decide) ?_
  obtain ⟨hc1, h⟩ := h
  refine gz_ic_ge (pc' := 12) (pt := 51) d_283_9 (by decide) rfl hc1 (s32 (z := 32)) (fun c => ?_) (fun c => ?_)
  · replace h := h.1 c
    exact g_vret d_283_51 rt_283 h
  · replace h := h.2 c
    refine g_aloadn (pc' := 13) d_283_12 rfl rfl ?_
    refine gz_getR (pc' := 16) d_283_13 rfl st_283_66 (kr_39_24 hC) ?_
    refine g_iload (pc' := 18) d_283_16 rfl rfl ?_
    obtain ⟨hc2, h⟩ := h
    obtain ⟨x3, hv4, h⟩ := h
    refine gz_lald (pc' := 19) d_283_18 rfl hc2 hv4 ?_
    refine g_lloadn (pc' := 20) d_283_19 rfl rfl ?_
    refine gz_lmul (pc' := 21) d_283_20 rfl ?_
    refine g_lloadn (pc' := 22) d_283_21 rfl rfl ?_
    refine gz_ladd (pc' := 23) d_283_22 rfl ?_
    refine g_lstore (pc' := 25) (l' := [some (.ref 39), some (.long (jL z1)), none, some (.long (jL z3)), none, some (.int (jI z5)), some (.long (jL ((x3 * z1) + z3))), none]) d_283_23 rfl ml_283 rfl rfl ?_
    refine g_aloadn (pc' := 26) d_283_25 rfl rfl ?_
    refine gz_getR (pc' := 29) d_283_26 rfl st_283_66 (kr_39_24 hC) ?_
    refine g_iload (pc' := 31) d_283_29 rfl rfl ?_
    refine g_lload (pc' := 33) d_283_31 rfl rfl ?_
    refine g_ldc2 (pc' := 36) d_283_33 rfl st_283_318 rfl ?_
    obtain ⟨hc5, h⟩ := h
    obtain ⟨y6, hz7, h⟩ := h
    refine gz_lrem (pc' := 37) d_283_36 rfl hc5 (s64 (z := 1000000000)) (by decide) hz7 ?_
    obtain ⟨hc8, h⟩ := h
    have hs9 := (kh_57 hC hc8)
    have hC11 : CS (pL w 57 (z5).toNat (jL y6)) := hC.putL
    have h := h _ rfl hC11
    refine gz_last (pc' := 38) d_283_37 rfl hs9 ?_
    refine g_lload (pc' := 40) d_283_38 rfl rfl ?_
    refine g_ldc2 (pc' := 43) d_283_40 rfl st_283_318 rfl ?_
    obtain ⟨y12, hz13, h⟩ := h
    refine gz_ldiv (pc' := 44) d_283_43 rfl hc5 (s64 (z := 1000000000)) (by decide) hz13 ?_
    refine g_lstoren (pc' := 45) (l' := [some (.ref 39), some (.long (jL z1)), none, some (.long (jL y12)), none, some (.int (jI z5)), some (.long (jL ((x3 * z1) + z3))), none]) d_283_44 rfl ml_283 rfl rfl ?_
    refine gz_iinc (pc' := 48) (l' := [some (.ref 39), some (.long (jL z1)), none, some (.long (jL y12)), none, some (.int (jI (z5 + 1))), some (.long (jL ((x3 * z1) + z3))), none]) d_283_45 rfl rfl ml_283 rfl rfl ?_
    refine g_goto (pt := 5) d_283_48 (by decide) ?_
    exact xGo.more (xle_s (xle_s (xle_n (xle_s (xle_n (xle_s (xle_n (xle_n xle_0)))))))) h
theorem Z_284_0 {z1 : Int} {z2 : Int} {z4 : Int} {w : xW} {r : Option Value × xW} (hC : CS w) (h : xGo 284 10 [some (.ref 39), some (.int (jI z1)), some (.long (jL z2)), none, some (.int (jI z4)), some (.long (jL 0)), none, some (.long (jL 0)), none, some (.int (jI 31)), none, none] [] w r) : xGo 284 0 [some (.ref 39), some (.int (jI z1)), some (.long (jL z2)), none, some (.int (jI z4)), none, none, none, none, none, none, none] [] w r := by
  refine g_lconst (pc' := 1) (v := jL 0) d_284_0 rfl cl_0 ?_
  refine g_lstore (pc' := 3) (l' := [some (.ref 39), some (.int (jI z1)), some (.long (jL z2)), none, some (.int (jI z4)), some (.long (jL 0)), none, none, none, none, none, none]) d_284_1 rfl ml_284 rfl rfl ?_
  refine g_lconst (pc' := 4) (v := jL 0) d_284_3 rfl cl_0 ?_
  refine g_lstore (pc' := 6) (l' := [some (.ref 39), some (.int (jI z1)), some (.long (jL z2)), none, some (.int (jI z4)), some (.long (jL 0)), none, some (.long (jL 0)), none, none, none, none]) d_284_4 rfl ml_284 rfl rfl ?_
  refine g_bipush (pc' := 8) (v := jI 31) d_284_6 rfl (by decide) ?_
  refine g_istore (pc' := 10) (l' := [some (.ref 39), some (.int (jI z1)), some (.long (jL z2)), none, some (.int (jI z4)), some (.long (jL 0)), none, some (.long (jL 0)), none, some (.int (jI 31)), none, none]) d_284_8 rfl ml_284 rfl rfl ?_
  exact h
theorem Z_284 {z1 : Int} {z2 : Int} {z4 : Int} {w : xW} {r : Option Value × xW} (hC : CS w) (h : xGo 284 10 [some (.ref 39), some (.int (jI z1)), some (.long (jL z2)), none, some (.int (jI z4)), some (.long (jL 0)), none, some (.long (jL 0)), none, some (.int (jI 31)), none, none] [] w r) : xCall 284 [.ref 39, .int (jI z1), .long (jL z2), .int (jI z4)] w r := E_284 (Z_284_0 hC h)
theorem Z_284_10 {z1 : Int} {z2 : Int} {z4 : Int} {z5 : Int} {z7 : Int} {z9 : Int} {w : xW} {r : Option Value × xW} (hC : CS w) (h : in32 z9 ∧ (z9 < 0 → xGo 284 59 [some (.ref 39), some (.int (jI z1)), some (.long (jL z2)), none, some (.int (jI z4)), some (.long (jL z5)), none, some (.long (jL z7)), none, some (.int (jI 0)), none, none] [] w r) ∧ (0 ≤ z9 → 0 ≤ z9 ∧ ∃ x3, rL w 57 (z9).toNat x3 ∧ in32 z1 ∧ in64 ((z5 * 1000000000) + x3) ∧ z1 ≠ 0 ∧ ∃ y8, Int.tdiv ((z5 * 1000000000) + x3) z1 = y8 ∧ (0 ≤ z9 ∧ z9 < 32) ∧ ∀ w12, w12 = pL w 59 (z9).toNat (jL y8) → CS w12 → z1 ≠ 0 ∧ ∃ y15, Int.tmod ((z5 * 1000000000) + x3) z1 = y15 ∧ xGo 284 10 [some (.ref 39), some (.int (jI z1)), some (.long (jL z2)), none, some (.int (jI z4)), some (.long (jL y15)), none, some (.long (jL z7)), none, some (.int (jI (z9 - 1))), none, none] [] w12 r)) : xGo 284 10 [some (.ref 39), some (.int (jI z1)), some (.long (jL z2)), none, some (.int (jI z4)), some (.long (jL z5)), none, some (.long (jL z7)), none, some (.int (jI z9)), none, none] [] w r := by
  refine g_iload (pc' := 12) d_284_10 rfl rfl ?_
  obtain ⟨hc1, h⟩ := h
  refine gz_if_lt (pc' := 15) (pt := 56) d_284_12 (by decide) rfl hc1 (fun c => ?_) (fun c => ?_)
  · replace h := h.1 c
    refine g_iconst (pc' := 57) d_284_56 rfl rfl ?_
    refine g_istore (pc' := 59) (l' := [some (.ref 39), some (.int (jI z1)), some (.long (jL z2)), none, some (.int (jI z4)), some (.long (jL z5)), none, some (.long (jL z7)), none, some (.int (jI 0)), none, none]) d_284_57 rfl ml_284 rfl rfl ?_
    exact h
  · replace h := h.2 c
    refine g_lload (pc' := 17) d_284_15 rfl rfl ?_
    refine g_ldc2 (pc' := 20) d_284_17 rfl st_284_318 rfl ?_
    refine gz_lmul (pc' := 21) d_284_20 rfl ?_
    refine g_aloadn (pc' := 22) d_284_21 rfl rfl ?_
    refine gz_getR (pc' := 25) d_284_22 rfl st_284_66 (kr_39_24 hC) ?_
    refine g_iload (pc' := 27) d_284_25 rfl rfl ?_
    obtain ⟨hc2, h⟩ := h
    obtain ⟨x3, hv4, h⟩ := h
    refine gz_lald (pc' := 28) d_284_27 rfl hc2 hv4 ?_
    refine gz_ladd (pc' := 29) d_284_28 rfl ?_
    refine g_lstore (pc' := 31) (l' := [some (.ref 39), some (.int (jI z1)), some (.long (jL z2)), none, some (.int (jI z4)), some (.long (jL z5)), none, some (.long (jL z7)), none, some (.int (jI z9)), some (.long (jL ((z5 * 1000000000) + x3))), none]) d_284_29 rfl ml_284 rfl rfl ?_
    refine g_aloadn (pc' := 32) d_284_31 rfl rfl ?_
    refine gz_getR (pc' := 35) d_284_32 rfl st_284_72 (kr_39_26 hC) ?_
    refine g_iload (pc' := 37) d_284_35 rfl rfl ?_
    refine g_lload (pc' := 39) d_284_37 rfl rfl ?_
    refine g_iloadn (pc' := 40) d_284_39 rfl rfl ?_
    obtain ⟨hc5, h⟩ := h
    refine gz_i2l (pc' := 41) d_284_40 rfl hc5 ?_
    obtain ⟨hc6, h⟩ := h
    obtain ⟨hc7, h⟩ := h
    obtain ⟨y8, hz9, h⟩ := h
    refine gz_ldiv (pc' := 42) d_284_41 rfl hc6 (in3264 hc5) hc7 hz9 ?_
    obtain ⟨hc10, h⟩ := h
    have hs11 := (kh_59 hC hc10)
    have hC13 : CS (pL w 59 (z9).toNat (jL y8)) := hC.putL
    have h := h _ rfl hC13
    refine gz_last (pc' := 43) d_284_42 rfl hs11 ?_
    refine g_lload (pc' := 45) d_284_43 rfl rfl ?_
    refine g_iloadn (pc' := 46) d_284_45 rfl rfl ?_
    refine gz_i2l (pc' := 47) d_284_46 rfl hc5 ?_
    obtain ⟨hc14, h⟩ := h
    obtain ⟨y15, hz16, h⟩ := h
    refine gz_lrem (pc' := 48) d_284_47 rfl hc6 (in3264 hc5) hc14 hz16 ?_
    refine g_lstore (pc' := 50) (l' := [some (.ref 39), some (.int (jI z1)), some (.long (jL z2)), none, some (.int (jI z4)), some (.long (jL y15)), none, some (.long (jL z7)), none, some (.int (jI z9)), some (.long (jL ((z5 * 1000000000) + x3))), none]) d_284_48 rfl ml_284 rfl rfl ?_
    refine gz_idec (pc' := 53) (c := 1) (l' := [some (.ref 39), some (.int (jI z1)), some (.long (jL z2)), none, some (.int (jI z4)), some (.long (jL y15)), none, some (.long (jL z7)), none, some (.int (jI (z9 - 1))), some (.long (jL ((z5 * 1000000000) + x3))), none]) d_284_50 rfl rfl ml_284 rfl rfl ?_
    refine g_goto (pt := 10) d_284_53 (by decide) ?_
    exact xGo.more (xle_s (xle_s (xle_s (xle_n (xle_s (xle_s (xle_n (xle_s (xle_n (xle_s (xle_n (xle_n xle_0)))))))))))) h
theorem Z_284_59 {z1 : Int} {z2 : Int} {z4 : Int} {z5 : Int} {z7 : Int} {z9 : Int} {w : xW} {r : Option Value × xW} (hC : CS w) (h : in32 (z9 + z4) ∧ (32 ≤ z9 + z4 → r = (none, w)) ∧ (z9 + z4 < 32 → 0 ≤ z9 + z4 ∧ ∃ x3, rL w 56 (z9 + z4).toNat x3 ∧ 0 ≤ z9 ∧ ∃ x6, rL w 59 (z9).toNat x6 ∧ in64 ((x3 + (x6 * z2)) + z7) ∧ ∃ y9, Int.tmod ((x3 + (x6 * z2)) + z7) 1000000000 = y9 ∧ (0 ≤ z9 + z4 ∧ z9 + z4 < 32) ∧ ∀ w13, w13 = pL w 56 (z9 + z4).toNat (jL y9) → CS w13 → ∃ y15, Int.tdiv ((x3 + (x6 * z2)) + z7) 1000000000 = y15 ∧ xGo 284 59 [some (.ref 39), some (.int (jI z1)), some (.long (jL z2)), none, some (.int (jI z4)), some (.long (jL z5)), none, some (.long (jL y15)), none, some (.int (jI (z9 + 1))), none, none] [] w13 r)) : xGo 284 59 [some (.ref 39), some (.int (jI z1)), some (.long (jL z2)), none, some (.int (jI z4)), some (.long (jL z5)), none, some (.long (jL z7)), none, some (.int (jI z9)), none, none] [] w r := by
  refine g_iload (pc' := 61) d_284_59 rfl rfl ?_
  refine g_iload (pc' := 63) d_284_61 rfl rfl ?_
  refine gz_iadd (pc' := 64) d_284_63 rfl ?_
  refine g_bipush (pc' := 66) (v := jI 32) d_284_64 rfl (by decide) ?_
  obtain ⟨hc1, h⟩ := h
  refine gz_ic_ge (pc' := 69) (pt := 124) d_284_66 (by decide) rfl hc1 (s32 (z := 32)) (fun c => ?_) (fun c => ?_)
  · replace h := h.1 c
    exact g_vret d_284_124 rt_284 h
  · replace h := h.2 c
    refine g_aloadn (pc' := 70) d_284_69 rfl rfl ?_
    refine gz_getR (pc' := 73) d_284_70 rfl st_284_63 (kr_39_23 hC) ?_
    refine g_iload (pc' := 75) d_284_73 rfl rfl ?_
    refine g_iload (pc' := 77) d_284_75 rfl rfl ?_
    refine gz_iadd (pc' := 78) d_284_77 rfl ?_
    obtain ⟨hc2, h⟩ := h
    obtain ⟨x3, hv4, h⟩ := h
    refine gz_lald (pc' := 79) d_284_78 rfl hc2 hv4 ?_
    refine g_aloadn (pc' := 80) d_284_79 rfl rfl ?_
    refine gz_getR (pc' := 83) d_284_80 rfl st_284_72 (kr_39_26 hC) ?_
    refine g_iload (pc' := 85) d_284_83 rfl rfl ?_
    obtain ⟨hc5, h⟩ := h
    obtain ⟨x6, hv7, h⟩ := h
    refine gz_lald (pc' := 86) d_284_85 rfl hc5 hv7 ?_
    refine g_lloadn (pc' := 87) d_284_86 rfl rfl ?_
    refine gz_lmul (pc' := 88) d_284_87 rfl ?_
    refine gz_ladd (pc' := 89) d_284_88 rfl ?_
    refine g_lload (pc' := 91) d_284_89 rfl rfl ?_
    refine gz_ladd (pc' := 92) d_284_91 rfl ?_
    refine g_lstore (pc' := 94) (l' := [some (.ref 39), some (.int (jI z1)), some (.long (jL z2)), none, some (.int (jI z4)), some (.long (jL z5)), none, some (.long (jL z7)), none, some (.int (jI z9)), some (.long (jL ((x3 + (x6 * z2)) + z7))), none]) d_284_92 rfl ml_284 rfl rfl ?_
    refine g_aloadn (pc' := 95) d_284_94 rfl rfl ?_
    refine gz_getR (pc' := 98) d_284_95 rfl st_284_63 (kr_39_23 hC) ?_
    refine g_iload (pc' := 100) d_284_98 rfl rfl ?_
    refine g_iload (pc' := 102) d_284_100 rfl rfl ?_
    refine gz_iadd (pc' := 103) d_284_102 rfl ?_
    refine g_lload (pc' := 105) d_284_103 rfl rfl ?_
    refine g_ldc2 (pc' := 108) d_284_105 rfl st_284_318 rfl ?_
    obtain ⟨hc8, h⟩ := h
    obtain ⟨y9, hz10, h⟩ := h
    refine gz_lrem (pc' := 109) d_284_108 rfl hc8 (s64 (z := 1000000000)) (by decide) hz10 ?_
    obtain ⟨hc11, h⟩ := h
    have hs12 := (kh_56 hC hc11)
    have hC14 : CS (pL w 56 (z9 + z4).toNat (jL y9)) := hC.putL
    have h := h _ rfl hC14
    refine gz_last (pc' := 110) d_284_109 rfl hs12 ?_
    refine g_lload (pc' := 112) d_284_110 rfl rfl ?_
    refine g_ldc2 (pc' := 115) d_284_112 rfl st_284_318 rfl ?_
    obtain ⟨y15, hz16, h⟩ := h
    refine gz_ldiv (pc' := 116) d_284_115 rfl hc8 (s64 (z := 1000000000)) (by decide) hz16 ?_
    refine g_lstore (pc' := 118) (l' := [some (.ref 39), some (.int (jI z1)), some (.long (jL z2)), none, some (.int (jI z4)), some (.long (jL z5)), none, some (.long (jL y15)), none, some (.int (jI z9)), some (.long (jL ((x3 + (x6 * z2)) + z7))), none]) d_284_116 rfl ml_284 rfl rfl ?_
    refine gz_iinc (pc' := 121) (l' := [some (.ref 39), some (.int (jI z1)), some (.long (jL z2)), none, some (.int (jI z4)), some (.long (jL z5)), none, some (.long (jL y15)), none, some (.int (jI (z9 + 1))), some (.long (jL ((x3 + (x6 * z2)) + z7))), none]) d_284_118 rfl rfl ml_284 rfl rfl ?_
    refine g_goto (pt := 59) d_284_121 (by decide) ?_
    exact xGo.more (xle_s (xle_s (xle_s (xle_n (xle_s (xle_s (xle_n (xle_s (xle_n (xle_s (xle_n (xle_n xle_0)))))))))))) h
theorem Z_285_0  {w : xW} {r : Option Value × xW} (hC : CS w) (h : xGo 285 3 [some (.ref 39), some (.int (jI 31)), none, none, none] [] w r) : xGo 285 0 [some (.ref 39), none, none, none, none] [] w r := by
  refine g_bipush (pc' := 2) (v := jI 31) d_285_0 rfl (by decide) ?_
  refine g_istoren (pc' := 3) (l' := [some (.ref 39), some (.int (jI 31)), none, none, none]) d_285_2 rfl ml_285 rfl rfl ?_
  exact h
theorem Z_285  {w : xW} {r : Option Value × xW} (hC : CS w) (h : xGo 285 3 [some (.ref 39), some (.int (jI 31)), none, none, none] [] w r) : xCall 285 [.ref 39] w r := E_285 (Z_285_0 hC h)
theorem Z_285_3 {z1 : Int} {w : xW} {r : Option Value × xW} (hC : CS w) (h : in32 z1 ∧ (z1 ≤ 0 → 0 ≤ z1 ∧ ∃ x3, rL w 56 (z1).toNat x3 ∧ xGo 285 33 [some (.ref 39), some (.int (jI z1)), some (.int (jI 0)), some (.long (jL x3)), none] [] w r) ∧ (0 < z1 → 0 ≤ z1 ∧ ∃ x6, rL w 56 (z1).toNat x6 ∧ in64 x6 ∧ (x6 ≠ 0 → 0 ≤ z1 ∧ ∃ x10, rL w 56 (z1).toNat x10 ∧ xGo 285 33 [some (.ref 39), some (.int (jI z1)), some (.int (jI 0)), some (.long (jL x10)), none] [] w r) ∧ (x6 = 0 → xGo 285 3 [some (.ref 39), some (.int (jI (z1 - 1))), none, none, none] [] w r))) : xGo 285 3 [some (.ref 39), some (.int (jI z1)), none, none, none] [] w r := by
  refine g_iloadn (pc' := 4) d_285_3 rfl rfl ?_
  obtain ⟨hc1, h⟩ := h
  refine gz_if_le (pc' := 7) (pt := 24) d_285_4 (by decide) rfl hc1 (fun c => ?_) (fun c => ?_)
  · replace h := h.1 c
    refine g_iconst (pc' := 25) d_285_24 rfl rfl ?_
    refine g_istoren (pc' := 26) (l' := [some (.ref 39), some (.int (jI z1)), some (.int (jI 0)), none, none]) d_285_25 rfl ml_285 rfl rfl ?_
    refine g_aloadn (pc' := 27) d_285_26 rfl rfl ?_
    refine gz_getR (pc' := 30) d_285_27 rfl st_285_63 (kr_39_23 hC) ?_
    refine g_iloadn (pc' := 31) d_285_30 rfl rfl ?_
    obtain ⟨hc2, h⟩ := h
    obtain ⟨x3, hv4, h⟩ := h
    refine gz_lald (pc' := 32) d_285_31 rfl hc2 hv4 ?_
    refine g_lstoren (pc' := 33) (l' := [some (.ref 39), some (.int (jI z1)), some (.int (jI 0)), some (.long (jL x3)), none]) d_285_32 rfl ml_285 rfl rfl ?_
    exact h
  · replace h := h.2 c
    refine g_aloadn (pc' := 8) d_285_7 rfl rfl ?_
    refine gz_getR (pc' := 11) d_285_8 rfl st_285_63 (kr_39_23 hC) ?_
    refine g_iloadn (pc' := 12) d_285_11 rfl rfl ?_
    obtain ⟨hc5, h⟩ := h
    obtain ⟨x6, hv7, h⟩ := h
    refine gz_lald (pc' := 13) d_285_12 rfl hc5 hv7 ?_
    refine g_lconst (pc' := 14) (v := jL 0) d_285_13 rfl cl_0 ?_
    obtain ⟨hc8, h⟩ := h
    refine gz_lc_ne (pc' := 18) (pm := 15) (pt := 24) d_285_14 rfl d_285_15 (by decide) rfl hc8 (s64 (z := 0)) (fun c => ?_) (fun c => ?_)
    · replace h := h.1 c
      refine g_iconst (pc' := 25) d_285_24 rfl rfl ?_
      refine g_istoren (pc' := 26) (l' := [some (.ref 39), some (.int (jI z1)), some (.int (jI 0)), none, none]) d_285_25 rfl ml_285 rfl rfl ?_
      refine g_aloadn (pc' := 27) d_285_26 rfl rfl ?_
      refine gz_getR (pc' := 30) d_285_27 rfl st_285_63 (kr_39_23 hC) ?_
      refine g_iloadn (pc' := 31) d_285_30 rfl rfl ?_
      obtain ⟨hc9, h⟩ := h
      obtain ⟨x10, hv11, h⟩ := h
      refine gz_lald (pc' := 32) d_285_31 rfl hc9 hv11 ?_
      refine g_lstoren (pc' := 33) (l' := [some (.ref 39), some (.int (jI z1)), some (.int (jI 0)), some (.long (jL x10)), none]) d_285_32 rfl ml_285 rfl rfl ?_
      exact h
    · replace h := h.2 c
      refine gz_idec (pc' := 21) (c := 1) (l' := [some (.ref 39), some (.int (jI (z1 - 1))), none, none, none]) d_285_18 rfl rfl ml_285 rfl rfl ?_
      refine g_goto (pt := 3) d_285_21 (by decide) ?_
      exact h
theorem Z_285_33 {z1 : Int} {z2 : Int} {z3 : Int} {w : xW} {r : Option Value × xW} (hC : CS w) (h : in64 z3 ∧ (z3 ≤ 0 → in32 z2 ∧ (z2 ≠ 0 → r = (some (.int (jI ((9 * z1) + z2))), w)) ∧ (z2 = 0 → r = (some (.int (jI ((9 * z1) + 1))), w))) ∧ (0 < z3 → ∃ y3, Int.tdiv z3 10 = y3 ∧ xGo 285 33 [some (.ref 39), some (.int (jI z1)), some (.int (jI (z2 + 1))), some (.long (jL y3)), none] [] w r)) : xGo 285 33 [some (.ref 39), some (.int (jI z1)), some (.int (jI z2)), some (.long (jL z3)), none] [] w r := by
  refine g_lloadn (pc' := 34) d_285_33 rfl rfl ?_
  refine g_lconst (pc' := 35) (v := jL 0) d_285_34 rfl cl_0 ?_
  obtain ⟨hc1, h⟩ := h
  refine gz_lc_le (pc' := 39) (pm := 36) (pt := 51) d_285_35 rfl d_285_36 (by decide) rfl hc1 (s64 (z := 0)) (fun c => ?_) (fun c => ?_)
  · replace h := h.1 c
    refine g_bipush (pc' := 53) (v := jI 9) d_285_51 rfl (by decide) ?_
    refine g_iloadn (pc' := 54) d_285_53 rfl rfl ?_
    refine gz_imul (pc' := 55) d_285_54 rfl ?_
    refine g_iloadn (pc' := 56) d_285_55 rfl rfl ?_
    obtain ⟨hc2, h⟩ := h
    refine gz_if_ne (pc' := 59) (pt := 63) d_285_56 (by decide) rfl hc2 (fun c => ?_) (fun c => ?_)
    · replace h := h.1 c
      refine g_iloadn (pc' := 64) d_285_63 rfl rfl ?_
      refine gz_iadd (pc' := 65) d_285_64 rfl ?_
      exact g_iret d_285_65 rt_285 h
    · replace h := h.2 c
      refine g_iconst (pc' := 60) d_285_59 rfl rfl ?_
      refine g_goto (pt := 64) d_285_60 (by decide) ?_
      refine gz_iadd (pc' := 65) d_285_64 rfl ?_
      exact g_iret d_285_65 rt_285 h
  · replace h := h.2 c
    refine gz_iinc (pc' := 42) (l' := [some (.ref 39), some (.int (jI z1)), some (.int (jI (z2 + 1))), some (.long (jL z3)), none]) d_285_39 rfl rfl ml_285 rfl rfl ?_
    refine g_lloadn (pc' := 43) d_285_42 rfl rfl ?_
    refine g_ldc2 (pc' := 46) d_285_43 rfl st_285_331 rfl ?_
    obtain ⟨y3, hz4, h⟩ := h
    refine gz_ldiv (pc' := 47) d_285_46 rfl hc1 (s64 (z := 10)) (by decide) hz4 ?_
    refine g_lstoren (pc' := 48) (l' := [some (.ref 39), some (.int (jI z1)), some (.int (jI (z2 + 1))), some (.long (jL y3)), none]) d_285_47 rfl ml_285 rfl rfl ?_
    refine g_goto (pt := 33) d_285_48 (by decide) ?_
    exact h
theorem Z_286_0 {z1 : Int} {z2 : Int} {z3 : Int} {w : xW} {r : Option Value × xW} (hC : CS w) (h : ∀ w2, w2 = pF w 39 0 (.int (jI 0)) → CS w2 → ∃ (P7 : Prop) (dP8 : Decidable P7) (w4 : xW), xCall 280 [.int (jI z1), .int (jI z2)] w2 (some (.int (bz P7)), w4) ∧ CS w4 ∧ (¬ P7 → r = (some (.int (jI (-1))), w4)) ∧ (P7 → in32 z3 ∧ (0 ≤ z3 → ∃ w10, xCall 281 [.ref 39, .int (jI z1), .int (jI z2)] w4 (none, w10) ∧ CS w10 ∧ ∃ r16 w13, xCall 285 [.ref 39] w10 (some (.int (jI r16)), w13) ∧ CS w13 ∧ in32 ((r16 - 1) - z3) ∧ (0 ≤ (r16 - 1) - z3 → ∃ y18, Int.tdiv ((r16 - 1) - z3) 9 = y18 ∧ 0 ≤ y18 ∧ ∃ x21, rL w13 56 (y18).toNat x21 ∧ xGo 286 58 [some (.ref 39), some (.int (jI z1)), some (.int (jI z2)), some (.int (jI z3)), some (.int (jI ((r16 - 1) - z3))), some (.long (jL x21)), none, some (.int (jI 0))] [] w13 r) ∧ ((r16 - 1) - z3 < 0 → r = (some (.int (jI (-2))), w13))) ∧ (z3 < 0 → r = (some (.int (jI (-1))), w4)))) : xGo 286 0 [some (.ref 39), some (.int (jI z1)), some (.int (jI z2)), some (.int (jI z3)), none, none, none, none] [] w r := by
  refine g_aloadn (pc' := 1) d_286_0 rfl rfl ?_
  refine g_iconst (pc' := 2) d_286_1 rfl rfl ?_
  have hpf1 := (kf_39_0 hC)
  have hC3 : CS (pF w 39 0 (.int (jI 0))) := ks_39_0 hC
  have h := h _ rfl hC3
  refine gz_putf (pc' := 5) d_286_2 rfl st_286_118 ft_12_0 ff_12_0 rfl (Or.inl rfl) hpf1 ?_
  refine g_iloadn (pc' := 6) d_286_5 rfl rfl ?_
  refine g_iloadn (pc' := 7) d_286_6 rfl rfl ?_
  obtain ⟨P7, dP8, w4, hk5, hC6, h⟩ := h
  refine g_callS (pc' := 10) d_286_7 rfl st_286_333 (Or.inl rfl) na_280 ml_280 rfl rfl rfl rm_286_280 rfl rfl hk5 ?_
  refine gz_bt_eq (pc' := 13) (pt := 17) d_286_10 (by decide) rfl (fun c => ?_) (fun c => ?_)
  · replace h := h.1 c
    refine g_iconst (pc' := 18) d_286_17 rfl rfl ?_
    exact g_iret d_286_18 rt_286 h
  · replace h := h.2 c
    refine g_iloadn (pc' := 14) d_286_13 rfl rfl ?_
    obtain ⟨hc9, h⟩ := h
    refine gz_if_ge (pc' := 17) (pt := 19) d_286_14 (by decide) rfl hc9 (fun c => ?_) (fun c => ?_)
    · replace h := h.1 c
      refine g_aloadn (pc' := 20) d_286_19 rfl rfl ?_
      refine g_iloadn (pc' := 21) d_286_20 rfl rfl ?_
      refine g_iloadn (pc' := 22) d_286_21 rfl rfl ?_
      obtain ⟨w10, hk11, hC12, h⟩ := h
      refine gz_callV (pc' := 25) d_286_22 rfl st_286_336 na_281 ml_281 rfl rfl rfl rm_286_281 rfl rfl ow_281 (ko_39 hC6) hk11 ?_
      refine g_aloadn (pc' := 26) d_286_25 rfl rfl ?_
      obtain ⟨r16, w13, hk14, hC15, h⟩ := h
      refine gz_callV (pc' := 29) d_286_26 rfl st_286_339 na_285 ml_285 rfl rfl rfl rm_286_285 rfl rfl ow_285 (ko_39 hC12) hk14 ?_
      refine g_iconst (pc' := 30) d_286_29 rfl rfl ?_
      refine gz_isub (pc' := 31) d_286_30 rfl ?_
      refine g_iloadn (pc' := 32) d_286_31 rfl rfl ?_
      refine gz_isub (pc' := 33) d_286_32 rfl ?_
      refine g_istore (pc' := 35) (l' := [some (.ref 39), some (.int (jI z1)), some (.int (jI z2)), some (.int (jI z3)), some (.int (jI ((r16 - 1) - z3))), none, none, none]) d_286_33 rfl ml_286 rfl rfl ?_
      refine g_iload (pc' := 37) d_286_35 rfl rfl ?_
      obtain ⟨hc17, h⟩ := h
      refine gz_if_ge (pc' := 40) (pt := 43) d_286_37 (by decide) rfl hc17 (fun c => ?_) (fun c => ?_)
      · replace h := h.1 c
        refine g_aloadn (pc' := 44) d_286_43 rfl rfl ?_
        refine gz_getR (pc' := 47) d_286_44 rfl st_286_63 (kr_39_23 hC15) ?_
        refine g_iload (pc' := 49) d_286_47 rfl rfl ?_
        refine g_bipush (pc' := 51) (v := jI 9) d_286_49 rfl (by decide) ?_
        obtain ⟨y18, hz19, h⟩ := h
        refine gz_idiv (pc' := 52) d_286_51 rfl hc17 (s32 (z := 9)) (by decide) hz19 ?_
        obtain ⟨hc20, h⟩ := h
        obtain ⟨x21, hv22, h⟩ := h
        refine gz_lald (pc' := 53) d_286_52 rfl hc20 hv22 ?_
        refine g_lstore (pc' := 55) (l' := [some (.ref 39), some (.int (jI z1)), some (.int (jI z2)), some (.int (jI z3)), some (.int (jI ((r16 - 1) - z3))), some (.long (jL x21)), none, none]) d_286_53 rfl ml_286 rfl rfl ?_
        refine g_iconst (pc' := 56) d_286_55 rfl rfl ?_
        refine g_istore (pc' := 58) (l' := [some (.ref 39), some (.int (jI z1)), some (.int (jI z2)), some (.int (jI z3)), some (.int (jI ((r16 - 1) - z3))), some (.long (jL x21)), none, some (.int (jI 0))]) d_286_56 rfl ml_286 rfl rfl ?_
        exact h
      · replace h := h.2 c
        refine g_bipush (pc' := 42) (v := jI (-2)) d_286_40 rfl (by decide) ?_
        exact g_iret d_286_42 rt_286 h
    · replace h := h.2 c
      refine g_iconst (pc' := 18) d_286_17 rfl rfl ?_
      exact g_iret d_286_18 rt_286 h
theorem Z_286 {z1 : Int} {z2 : Int} {z3 : Int} {w : xW} {r : Option Value × xW} (hC : CS w) (h : ∀ w2, w2 = pF w 39 0 (.int (jI 0)) → CS w2 → ∃ (P7 : Prop) (dP8 : Decidable P7) (w4 : xW), xCall 280 [.int (jI z1), .int (jI z2)] w2 (some (.int (bz P7)), w4) ∧ CS w4 ∧ (¬ P7 → r = (some (.int (jI (-1))), w4)) ∧ (P7 → in32 z3 ∧ (0 ≤ z3 → ∃ w10, xCall 281 [.ref 39, .int (jI z1), .int (jI z2)] w4 (none, w10) ∧ CS w10 ∧ ∃ r16 w13, xCall 285 [.ref 39] w10 (some (.int (jI r16)), w13) ∧ CS w13 ∧ in32 ((r16 - 1) - z3) ∧ (0 ≤ (r16 - 1) - z3 → ∃ y18, Int.tdiv ((r16 - 1) - z3) 9 = y18 ∧ 0 ≤ y18 ∧ ∃ x21, rL w13 56 (y18).toNat x21 ∧ xGo 286 58 [some (.ref 39), some (.int (jI z1)), some (.int (jI z2)), some (.int (jI z3)), some (.int (jI ((r16 - 1) - z3))), some (.long (jL x21)), none, some (.int (jI 0))] [] w13 r) ∧ ((r16 - 1) - z3 < 0 → r = (some (.int (jI (-2))), w13))) ∧ (z3 < 0 → r = (some (.int (jI (-1))), w4)))) : xCall 286 [.ref 39, .int (jI z1), .int (jI z2), .int (jI z3)] w r := E_286 (Z_286_0 hC h)
theorem Z_286_58 {z1 : Int} {z2 : Int} {z3 : Int} {z4 : Int} {z5 : Int} {z7 : Int} {w : xW} {r : Option Value × xW} (hC : CS w) (h : in32 z4 ∧ ∃ y2, Int.tmod z4 9 = y2 ∧ in32 z7 ∧ in32 y2 ∧ (y2 ≤ z7 → in64 z5 ∧ ∃ y7, Int.tmod z5 10 = y7 ∧ r = (some (.int (jI y7)), w)) ∧ (z7 < y2 → in64 z5 ∧ ∃ y10, Int.tdiv z5 10 = y10 ∧ xGo 286 58 [some (.ref 39), some (.int (jI z1)), some (.int (jI z2)), some (.int (jI z3)), some (.int (jI z4)), some (.long (jL y10)), none, some (.int (jI (z7 + 1)))] [] w r)) : xGo 286 58 [some (.ref 39), some (.int (jI z1)), some (.int (jI z2)), some (.int (jI z3)), some (.int (jI z4)), some (.long (jL z5)), none, some (.int (jI z7))] [] w r := by
  refine g_iload (pc' := 60) d_286_58 rfl rfl ?_
  refine g_iload (pc' := 62) d_286_60 rfl rfl ?_
  refine g_bipush (pc' := 64) (v := jI 9) d_286_62 rfl (by decide) ?_
  obtain ⟨hc1, h⟩ := h
  obtain ⟨y2, hz3, h⟩ := h
  refine gz_irem (pc' := 65) d_286_64 rfl hc1 (s32 (z := 9)) (by decide) hz3 ?_
  obtain ⟨hc4, h⟩ := h
  obtain ⟨hc5, h⟩ := h
  refine gz_ic_ge (pc' := 68) (pt := 82) d_286_65 (by decide) rfl hc4 hc5 (fun c => ?_) (fun c => ?_)
  · replace h := h.1 c
    refine g_lload (pc' := 84) d_286_82 rfl rfl ?_
    refine g_ldc2 (pc' := 87) d_286_84 rfl st_286_331 rfl ?_
    obtain ⟨hc6, h⟩ := h
    obtain ⟨y7, hz8, h⟩ := h
    refine gz_lrem (pc' := 88) d_286_87 rfl hc6 (s64 (z := 10)) (by decide) hz8 ?_
    refine gz_l2i (pc' := 89) d_286_88 rfl ?_
    exact g_iret d_286_89 rt_286 h
  · replace h := h.2 c
    refine g_lload (pc' := 70) d_286_68 rfl rfl ?_
    refine g_ldc2 (pc' := 73) d_286_70 rfl st_286_331 rfl ?_
    obtain ⟨hc9, h⟩ := h
    obtain ⟨y10, hz11, h⟩ := h
    refine gz_ldiv (pc' := 74) d_286_73 rfl hc9 (s64 (z := 10)) (by decide) hz11 ?_
    refine g_lstore (pc' := 76) (l' := [some (.ref 39), some (.int (jI z1)), some (.int (jI z2)), some (.int (jI z3)), some (.int (jI z4)), some (.long (jL y10)), none, some (.int (jI z7))]) d_286_74 rfl ml_286 rfl rfl ?_
    refine gz_iinc (pc' := 79) (l' := [some (.ref 39), some (.int (jI z1)), some (.int (jI z2)), some (.int (jI z3)), some (.int (jI z4)), some (.long (jL y10)), none, some (.int (jI (z7 + 1)))]) d_286_76 rfl rfl ml_286 rfl rfl ?_
    refine g_goto (pt := 58) d_286_79 (by decide) ?_
    exact h
theorem Z_287_0 {z1 : Int} {z2 : Int} {z3 : Int} {w : xW} {r : Option Value × xW} (hC : CS w) (h : ∀ w2, w2 = pF w 39 0 (.int (jI 0)) → CS w2 → ∃ (P7 : Prop) (dP8 : Decidable P7) (w4 : xW), xCall 199 [.int (jI z1), .int (jI 1), .int (jI 15)] w2 (some (.int (bz P7)), w4) ∧ CS w4 ∧ (¬ P7 → r = (some (.long (jL (-9223372036854775808))), w4)) ∧ (P7 → in32 z1 ∧ ∃ y10, Int.tmod z1 2 = y10 ∧ in32 y10 ∧ (y10 = 0 → r = (some (.long (jL (-9223372036854775808))), w4)) ∧ (y10 ≠ 0 → in32 (z1 + 1) ∧ ∃ y14, Int.tdiv (z1 + 1) 2 = y14 ∧ ∃ (P19 : Prop) (dP20 : Decidable P19) (w16 : xW), xCall 199 [.int (jI z2), .int (jI 1), .int (jI y14)] w4 (some (.int (bz P19)), w16) ∧ CS w16 ∧ (¬ P19 → r = (some (.long (jL (-9223372036854775808))), w16)) ∧ (P19 → ∃ (P24 : Prop) (dP25 : Decidable P24) (w21 : xW), xCall 199 [.int (jI z3), .int (jI 0), .int (jI 1)] w16 (some (.int (bz P24)), w21) ∧ CS w21 ∧ (P24 → ∃ x26, fI w21 39 12 4 x26 ∧ in32 x26 ∧ (z1 ≤ x26 → ∃ (P32 : Prop) (dP33 : Decidable P32) (w29 : xW), xCall 288 [.ref 39, .int (jI z1)] w21 (some (.int (bz P32)), w29) ∧ CS w29 ∧ (P32 → in32 z3 ∧ (z3 ≠ 0 → 0 ≤ z2 ∧ ∃ x36, rL w29 61 (z2).toNat x36 ∧ r = (some (.long (jL x36)), w29)) ∧ (z3 = 0 → 0 ≤ z2 ∧ ∃ x39, rL w29 60 (z2).toNat x39 ∧ r = (some (.long (jL x39)), w29))) ∧ (¬ P32 → r = (some (.long (jL (-3))), w29))) ∧ (x26 < z1 → r = (some (.long (jL (-2))), w21))) ∧ (¬ P24 → r = (some (.long (jL (-9223372036854775808))), w21)))))) : xGo 287 0 [some (.ref 39), some (.int (jI z1)), some (.int (jI z2)), some (.int (jI z3))] [] w r := by
  refine g_aloadn (pc' := 1) d_287_0 rfl rfl ?_
  refine g_iconst (pc' := 2) d_287_1 rfl rfl ?_
  have hpf1 := (kf_39_0 hC)
  have hC3 : CS (pF w 39 0 (.int (jI 0))) := ks_39_0 hC
  have h := h _ rfl hC3
  refine gz_putf (pc' := 5) d_287_2 rfl st_287_118 ft_12_0 ff_12_0 rfl (Or.inl rfl) hpf1 ?_
  refine g_iloadn (pc' := 6) d_287_5 rfl rfl ?_
  refine g_iconst (pc' := 7) d_287_6 rfl rfl ?_
  refine g_bipush (pc' := 9) (v := jI 15) d_287_7 rfl (by decide) ?_
  obtain ⟨P7, dP8, w4, hk5, hC6, h⟩ := h
  refine g_callS (pc' := 12) d_287_9 rfl st_287_137 (Or.inl rfl) na_199 ml_199 rfl rfl rfl rm_287_199 rfl rfl hk5 ?_
  refine gz_bt_eq (pc' := 15) (pt := 43) d_287_12 (by decide) rfl (fun c => ?_) (fun c => ?_)
  · replace h := h.1 c
    refine g_ldc2 (pc' := 46) d_287_43 rfl st_287_166 rfl ?_
    exact g_lret d_287_46 rt_287 h
  · replace h := h.2 c
    refine g_iloadn (pc' := 16) d_287_15 rfl rfl ?_
    refine g_iconst (pc' := 17) d_287_16 rfl rfl ?_
    obtain ⟨hc9, h⟩ := h
    obtain ⟨y10, hz11, h⟩ := h
    refine gz_irem (pc' := 18) d_287_17 rfl hc9 (s32 (z := 2)) (by decide) hz11 ?_
    obtain ⟨hc12, h⟩ := h
    refine gz_if_eq (pc' := 21) (pt := 43) d_287_18 (by decide) rfl hc12 (fun c => ?_) (fun c => ?_)
    · replace h := h.1 c
      refine g_ldc2 (pc' := 46) d_287_43 rfl st_287_166 rfl ?_
      exact g_lret d_287_46 rt_287 h
    · replace h := h.2 c
      refine g_iloadn (pc' := 22) d_287_21 rfl rfl ?_
      refine g_iconst (pc' := 23) d_287_22 rfl rfl ?_
      refine g_iloadn (pc' := 24) d_287_23 rfl rfl ?_
      refine g_iconst (pc' := 25) d_287_24 rfl rfl ?_
      refine gz_iadd (pc' := 26) d_287_25 rfl ?_
      refine g_iconst (pc' := 27) d_287_26 rfl rfl ?_
      obtain ⟨hc13, h⟩ := h
      obtain ⟨y14, hz15, h⟩ := h
      refine gz_idiv (pc' := 28) d_287_27 rfl hc13 (s32 (z := 2)) (by decide) hz15 ?_
      obtain ⟨P19, dP20, w16, hk17, hC18, h⟩ := h
      refine g_callS (pc' := 31) d_287_28 rfl st_287_137 (Or.inl rfl) na_199 ml_199 rfl rfl rfl rm_287_199 rfl rfl hk17 ?_
      refine gz_bt_eq (pc' := 34) (pt := 43) d_287_31 (by decide) rfl (fun c => ?_) (fun c => ?_)
      · replace h := h.1 c
        refine g_ldc2 (pc' := 46) d_287_43 rfl st_287_166 rfl ?_
        exact g_lret d_287_46 rt_287 h
      · replace h := h.2 c
        refine g_iloadn (pc' := 35) d_287_34 rfl rfl ?_
        refine g_iconst (pc' := 36) d_287_35 rfl rfl ?_
        refine g_iconst (pc' := 37) d_287_36 rfl rfl ?_
        obtain ⟨P24, dP25, w21, hk22, hC23, h⟩ := h
        refine g_callS (pc' := 40) d_287_37 rfl st_287_137 (Or.inl rfl) na_199 ml_199 rfl rfl rfl rm_287_199 rfl rfl hk22 ?_
        refine gz_bt_ne (pc' := 43) (pt := 47) d_287_40 (by decide) rfl (fun c => ?_) (fun c => ?_)
        · replace h := h.1 c
          refine g_iloadn (pc' := 48) d_287_47 rfl rfl ?_
          refine g_aloadn (pc' := 49) d_287_48 rfl rfl ?_
          obtain ⟨x26, hv27, h⟩ := h
          refine gz_getI (pc' := 52) d_287_49 rfl st_287_20 hv27 ?_
          obtain ⟨hc28, h⟩ := h
          refine gz_ic_le (pc' := 55) (pt := 59) d_287_52 (by decide) rfl hc9 hc28 (fun c => ?_) (fun c => ?_)
          · replace h := h.1 c
            refine g_aloadn (pc' := 60) d_287_59 rfl rfl ?_
            refine g_iloadn (pc' := 61) d_287_60 rfl rfl ?_
            obtain ⟨P32, dP33, w29, hk30, hC31, h⟩ := h
            refine gz_callV (pc' := 64) d_287_61 rfl st_287_346 na_288 ml_288 rfl rfl rfl rm_287_288 rfl rfl ow_288 (ko_39 hC23) hk30 ?_
            refine gz_bt_ne (pc' := 67) (pt := 71) d_287_64 (by decide) rfl (fun c => ?_) (fun c => ?_)
            · replace h := h.1 c
              refine g_iloadn (pc' := 72) d_287_71 rfl rfl ?_
              obtain ⟨hc34, h⟩ := h
              refine gz_if_ne (pc' := 75) (pt := 84) d_287_72 (by decide) rfl hc34 (fun c => ?_) (fun c => ?_)
              · replace h := h.1 c
                refine g_aloadn (pc' := 85) d_287_84 rfl rfl ?_
                refine gz_getR (pc' := 88) d_287_85 rfl st_287_78 (kr_39_28 hC31) ?_
                refine g_iloadn (pc' := 89) d_287_88 rfl rfl ?_
                obtain ⟨hc35, h⟩ := h
                obtain ⟨x36, hv37, h⟩ := h
                refine gz_lald (pc' := 90) d_287_89 rfl hc35 hv37 ?_
                exact g_lret d_287_90 rt_287 h
              · replace h := h.2 c
                refine g_aloadn (pc' := 76) d_287_75 rfl rfl ?_
                refine gz_getR (pc' := 79) d_287_76 rfl st_287_75 (kr_39_27 hC31) ?_
                refine g_iloadn (pc' := 80) d_287_79 rfl rfl ?_
                obtain ⟨hc38, h⟩ := h
                obtain ⟨x39, hv40, h⟩ := h
                refine gz_lald (pc' := 81) d_287_80 rfl hc38 hv40 ?_
                refine g_goto (pt := 90) d_287_81 (by decide) ?_
                exact g_lret d_287_90 rt_287 h
            · replace h := h.2 c
              refine g_ldc2 (pc' := 70) d_287_67 rfl st_287_349 rfl ?_
              exact g_lret d_287_70 rt_287 h
          · replace h := h.2 c
            refine g_ldc2 (pc' := 58) d_287_55 rfl st_287_297 rfl ?_
            exact g_lret d_287_58 rt_287 h
        · replace h := h.2 c
          refine g_ldc2 (pc' := 46) d_287_43 rfl st_287_166 rfl ?_
          exact g_lret d_287_46 rt_287 h
theorem Z_287 {z1 : Int} {z2 : Int} {z3 : Int} {w : xW} {r : Option Value × xW} (hC : CS w) (h : ∀ w2, w2 = pF w 39 0 (.int (jI 0)) → CS w2 → ∃ (P7 : Prop) (dP8 : Decidable P7) (w4 : xW), xCall 199 [.int (jI z1), .int (jI 1), .int (jI 15)] w2 (some (.int (bz P7)), w4) ∧ CS w4 ∧ (¬ P7 → r = (some (.long (jL (-9223372036854775808))), w4)) ∧ (P7 → in32 z1 ∧ ∃ y10, Int.tmod z1 2 = y10 ∧ in32 y10 ∧ (y10 = 0 → r = (some (.long (jL (-9223372036854775808))), w4)) ∧ (y10 ≠ 0 → in32 (z1 + 1) ∧ ∃ y14, Int.tdiv (z1 + 1) 2 = y14 ∧ ∃ (P19 : Prop) (dP20 : Decidable P19) (w16 : xW), xCall 199 [.int (jI z2), .int (jI 1), .int (jI y14)] w4 (some (.int (bz P19)), w16) ∧ CS w16 ∧ (¬ P19 → r = (some (.long (jL (-9223372036854775808))), w16)) ∧ (P19 → ∃ (P24 : Prop) (dP25 : Decidable P24) (w21 : xW), xCall 199 [.int (jI z3), .int (jI 0), .int (jI 1)] w16 (some (.int (bz P24)), w21) ∧ CS w21 ∧ (P24 → ∃ x26, fI w21 39 12 4 x26 ∧ in32 x26 ∧ (z1 ≤ x26 → ∃ (P32 : Prop) (dP33 : Decidable P32) (w29 : xW), xCall 288 [.ref 39, .int (jI z1)] w21 (some (.int (bz P32)), w29) ∧ CS w29 ∧ (P32 → in32 z3 ∧ (z3 ≠ 0 → 0 ≤ z2 ∧ ∃ x36, rL w29 61 (z2).toNat x36 ∧ r = (some (.long (jL x36)), w29)) ∧ (z3 = 0 → 0 ≤ z2 ∧ ∃ x39, rL w29 60 (z2).toNat x39 ∧ r = (some (.long (jL x39)), w29))) ∧ (¬ P32 → r = (some (.long (jL (-3))), w29))) ∧ (x26 < z1 → r = (some (.long (jL (-2))), w21))) ∧ (¬ P24 → r = (some (.long (jL (-9223372036854775808))), w21)))))) : xCall 287 [.ref 39, .int (jI z1), .int (jI z2), .int (jI z3)] w r := E_287 (Z_287_0 hC h)
theorem Z_288_0 {z1 : Int} {w : xW} {r : Option Value × xW} (hC : CS w) (h : ∃ w1, xCall 272 [.ref 39, .int (jI z1)] w (none, w1) ∧ CS w1 ∧ in32 (z1 + 1) ∧ ∃ y5, Int.tdiv (z1 + 1) 2 = y5 ∧ xGo 288 11 [some (.ref 39), some (.int (jI z1)), some (.int (jI y5)), none, none, none, none, none, none, none, none, none, none, none, none, none] [] w1 r) : xGo 288 0 [some (.ref 39), some (.int (jI z1)), none, none, none, none, none, none, none, none, none, none, none, none, none, none] [] w r := by
  refine g_aloadn (pc' := 1) d_288_0 rfl rfl ?_
  refine g_iloadn (pc' := 2) d_288_1 rfl rfl ?_
  obtain ⟨w1, hk2, hC3, h⟩ := h
  refine gz_callV (pc' := 5) d_288_2 rfl st_288_299 na_272 ml_272 rfl rfl rfl rm_288_272 rfl rfl ow_272 (ko_39 hC) hk2 ?_
  refine g_iloadn (pc' := 6) d_288_5 rfl rfl ?_
  refine g_iconst (pc' := 7) d_288_6 rfl rfl ?_
  refine gz_iadd (pc' := 8) d_288_7 rfl ?_
  refine g_iconst (pc' := 9) d_288_8 rfl rfl ?_
  obtain ⟨hc4, h⟩ := h
  obtain ⟨y5, hz6, h⟩ := h
  refine gz_idiv (pc' := 10) d_288_9 rfl hc4 (s32 (z := 2)) (by decide) hz6 ?_
  refine g_istoren (pc' := 11) (l' := [some (.ref 39), some (.int (jI z1)), some (.int (jI y5)), none, none, none, none, none, none, none, none, none, none, none, none, none]) d_288_10 rfl ml_288 rfl rfl ?_
  exact h
theorem Z_288 {z1 : Int} {w : xW} {r : Option Value × xW} (hC : CS w) (h : ∃ w1, xCall 272 [.ref 39, .int (jI z1)] w (none, w1) ∧ CS w1 ∧ in32 (z1 + 1) ∧ ∃ y5, Int.tdiv (z1 + 1) 2 = y5 ∧ xGo 288 11 [some (.ref 39), some (.int (jI z1)), some (.int (jI y5)), none, none, none, none, none, none, none, none, none, none, none, none, none] [] w1 r) : xCall 288 [.ref 39, .int (jI z1)] w r := E_288 (Z_288_0 hC h)
theorem Z_288_11 {z1 : Int} {z2 : Int} {w : xW} {r : Option Value × xW} (hC : CS w) (h : in32 z2 ∧ (z2 ≤ 0 → xGo 288 154 [some (.ref 39), some (.int (jI z1)), some (.int (jI 0)), none, none, none, none, none, none, none, none, none, none, none, none, none] [] w r) ∧ (0 < z2 → ∃ y2, jL 1 <<< ((jI z2).toInt64 &&& 63) = jL y2 ∧ 0 ≤ 2 * z2 ∧ ∃ x5, rL w 55 (2 * z2).toNat x5 ∧ ∃ r10 w7, xCall 195 [.long (jL y2), .long (jL x5)] w (some (.long (jL r10)), w7) ∧ CS w7 ∧ 0 ≤ 2 * z2 ∧ ∃ x12, rL w7 54 (2 * z2).toNat x12 ∧ in64 y2 ∧ in64 r10 ∧ r10 ≠ 0 ∧ ∃ y17, Int.tdiv y2 r10 = y17 ∧ (0 ≤ z2 ∧ z2 < 9) ∧ ∀ w21, w21 = pL w7 60 (z2).toNat (jL (x12 * y17)) → CS w21 → 0 ≤ 2 * z2 ∧ ∃ x24, rL w21 55 (2 * z2).toNat x24 ∧ in64 x24 ∧ r10 ≠ 0 ∧ ∃ y28, Int.tdiv x24 r10 = y28 ∧ ∀ w31, w31 = pL w21 61 (z2).toNat (jL y28) → CS w31 → xGo 288 72 [some (.ref 39), some (.int (jI z1)), some (.int (jI z2)), some (.long (jL y2)), none, some (.long (jL r10)), none, some (.int (jI 0)), none, none, none, none, none, none, none, none] [] w31 r)) : xGo 288 11 [some (.ref 39), some (.int (jI z1)), some (.int (jI z2)), none, none, none, none, none, none, none, none, none, none, none, none, none] [] w r := by
  refine g_iloadn (pc' := 12) d_288_11 rfl rfl ?_
  obtain ⟨hc1, h⟩ := h
  refine gz_if_le (pc' := 15) (pt := 152) d_288_12 (by decide) rfl hc1 (fun c => ?_) (fun c => ?_)
  · replace h := h.1 c
    refine g_iconst (pc' := 153) d_288_152 rfl rfl ?_
    refine g_istoren (pc' := 154) (l' := [some (.ref 39), some (.int (jI z1)), some (.int (jI 0)), none, none, none, none, none, none, none, none, none, none, none, none, none]) d_288_153 rfl ml_288 rfl rfl ?_
    exact h
  · replace h := h.2 c
    refine g_lconst (pc' := 16) (v := jL 1) d_288_15 rfl cl_1 ?_
    refine g_iloadn (pc' := 17) d_288_16 rfl rfl ?_
    obtain ⟨y2, hz3, h⟩ := h
    refine gz_lshl (pc' := 18) d_288_17 rfl hz3 ?_
    refine g_lstoren (pc' := 19) (l' := [some (.ref 39), some (.int (jI z1)), some (.int (jI z2)), some (.long (jL y2)), none, none, none, none, none, none, none, none, none, none, none, none]) d_288_18 rfl ml_288 rfl rfl ?_
    refine g_lloadn (pc' := 20) d_288_19 rfl rfl ?_
    refine g_aloadn (pc' := 21) d_288_20 rfl rfl ?_
    refine gz_getR (pc' := 24) d_288_21 rfl st_288_60 (kr_39_22 hC) ?_
    refine g_iconst (pc' := 25) d_288_24 rfl rfl ?_
    refine g_iloadn (pc' := 26) d_288_25 rfl rfl ?_
    refine gz_imul (pc' := 27) d_288_26 rfl ?_
    obtain ⟨hc4, h⟩ := h
    obtain ⟨x5, hv6, h⟩ := h
    refine gz_lald (pc' := 28) d_288_27 rfl hc4 hv6 ?_
    obtain ⟨r10, w7, hk8, hC9, h⟩ := h
    refine g_callS (pc' := 31) d_288_28 rfl st_288_121 (Or.inl rfl) na_195 ml_195 rfl rfl rfl rm_288_195 rfl rfl hk8 ?_
    refine g_lstore (pc' := 33) (l' := [some (.ref 39), some (.int (jI z1)), some (.int (jI z2)), some (.long (jL y2)), none, some (.long (jL r10)), none, none, none, none, none, none, none, none, none, none]) d_288_31 rfl ml_288 rfl rfl ?_
    refine g_aloadn (pc' := 34) d_288_33 rfl rfl ?_
    refine gz_getR (pc' := 37) d_288_34 rfl st_288_75 (kr_39_27 hC9) ?_
    refine g_iloadn (pc' := 38) d_288_37 rfl rfl ?_
    refine g_aloadn (pc' := 39) d_288_38 rfl rfl ?_
    refine gz_getR (pc' := 42) d_288_39 rfl st_288_57 (kr_39_21 hC9) ?_
    refine g_iconst (pc' := 43) d_288_42 rfl rfl ?_
    refine g_iloadn (pc' := 44) d_288_43 rfl rfl ?_
    refine gz_imul (pc' := 45) d_288_44 rfl ?_
    obtain ⟨hc11, h⟩ := h
    obtain ⟨x12, hv13, h⟩ := h
    refine gz_lald (pc' := 46) d_288_45 rfl hc11 hv13 ?_
    refine g_lloadn (pc' := 47) d_288_46 rfl rfl ?_
    refine g_lload (pc' := 49) d_288_47 rfl rfl ?_
    obtain ⟨hc14, h⟩ := h
    obtain ⟨hc15, h⟩ := h
    obtain ⟨hc16, h⟩ := h
    obtain ⟨y17, hz18, h⟩ := h
    refine gz_ldiv (pc' := 50) d_288_49 rfl hc14 hc15 hc16 hz18 ?_
    refine gz_lmul (pc' := 51) d_288_50 rfl ?_
    obtain ⟨hc19, h⟩ := h
    have hs20 := (kh_60 hC9 hc19)
    have hC22 : CS (pL w7 60 (z2).toNat (jL (x12 * y17))) := hC9.putL
    have h := h _ rfl hC22
    refine gz_last (pc' := 52) d_288_51 rfl hs20 ?_
    refine g_aloadn (pc' := 53) d_288_52 rfl rfl ?_
    refine gz_getR (pc' := 56) d_288_53 rfl st_288_78 (kr_39_28 hC22) ?_
    refine g_iloadn (pc' := 57) d_288_56 rfl rfl ?_
    refine g_aloadn (pc' := 58) d_288_57 rfl rfl ?_
    refine gz_getR (pc' := 61) d_288_58 rfl st_288_60 (kr_39_22 hC22) ?_
    refine g_iconst (pc' := 62) d_288_61 rfl rfl ?_
    refine g_iloadn (pc' := 63) d_288_62 rfl rfl ?_
    refine gz_imul (pc' := 64) d_288_63 rfl ?_
    obtain ⟨hc23, h⟩ := h
    obtain ⟨x24, hv25, h⟩ := h
    refine gz_lald (pc' := 65) d_288_64 rfl hc23 hv25 ?_
    refine g_lload (pc' := 67) d_288_65 rfl rfl ?_
    obtain ⟨hc26, h⟩ := h
    obtain ⟨hc27, h⟩ := h
    obtain ⟨y28, hz29, h⟩ := h
    refine gz_ldiv (pc' := 68) d_288_67 rfl hc26 hc15 hc27 hz29 ?_
    have hs30 := (kh_61 hC22 hc19)
    have hC32 : CS (pL (pL w7 60 (z2).toNat (jL (x12 * y17))) 61 (z2).toNat (jL y28)) := hC22.putL
    have h := h _ rfl hC32
    refine gz_last (pc' := 69) d_288_68 rfl hs30 ?_
    refine g_iconst (pc' := 70) d_288_69 rfl rfl ?_
    refine g_istore (pc' := 72) (l' := [some (.ref 39), some (.int (jI z1)), some (.int (jI z2)), some (.long (jL y2)), none, some (.long (jL r10)), none, some (.int (jI 0)), none, none, none, none, none, none, none, none]) d_288_70 rfl ml_288 rfl rfl ?_
    exact h
theorem Z_288_72 {z1 : Int} {z2 : Int} {z3 : Int} {z5 : Int} {z7 : Int} {w : xW} {r : Option Value × xW} (hC : CS w) (h : in32 z7 ∧ in32 z2 ∧ (z2 < z7 → xGo 288 11 [some (.ref 39), some (.int (jI z1)), some (.int (jI (z2 - 1))), none, none, none, none, none, none, none, none, none, none, none, none, none] [] w r) ∧ (z7 ≤ z2 → 0 ≤ (40 * z2) + z7 ∧ ∃ x4, rL w 43 ((40 * z2) + z7).toNat x4 ∧ 0 ≤ z2 ∧ ∃ x7, rL w 60 (z2).toNat x7 ∧ 0 ≤ z2 ∧ ∃ x10, rL w 61 (z2).toNat x10 ∧ ∃ r15 w12, xCall 195 [.long (jL (x7 * x4)), .long (jL (x10 * z3))] w (some (.long (jL r15)), w12) ∧ CS w12 ∧ in64 (x7 * x4) ∧ in64 r15 ∧ r15 ≠ 0 ∧ ∃ y19, Int.tdiv (x7 * x4) r15 = y19 ∧ in64 (x10 * z3) ∧ r15 ≠ 0 ∧ ∃ y23, Int.tdiv (x10 * z3) r15 = y23 ∧ ∃ w25, xCall 289 [.ref 39, .int (jI (z2 + z7)), .long (jL y19), .long (jL y23)] w12 (none, w25) ∧ CS w25 ∧ xGo 288 72 [some (.ref 39), some (.int (jI z1)), some (.int (jI z2)), some (.long (jL z3)), none, some (.long (jL z5)), none, some (.int (jI (z7 + 1))), none, none, none, none, none, none, none, none] [] w25 r)) : xGo 288 72 [some (.ref 39), some (.int (jI z1)), some (.int (jI z2)), some (.long (jL z3)), none, some (.long (jL z5)), none, some (.int (jI z7)), none, none, none, none, none, none, none, none] [] w r := by
  refine g_iload (pc' := 74) d_288_72 rfl rfl ?_
  refine g_iloadn (pc' := 75) d_288_74 rfl rfl ?_
  obtain ⟨hc1, h⟩ := h
  obtain ⟨hc2, h⟩ := h
  refine gz_ic_gt (pc' := 78) (pt := 146) d_288_75 (by decide) rfl hc1 hc2 (fun c => ?_) (fun c => ?_)
  · replace h := h.1 c
    refine gz_idec (pc' := 149) (c := 1) (l' := [some (.ref 39), some (.int (jI z1)), some (.int (jI (z2 - 1))), some (.long (jL z3)), none, some (.long (jL z5)), none, some (.int (jI z7)), none, none, none, none, none, none, none, none]) d_288_146 rfl rfl ml_288 rfl rfl ?_
    refine g_goto (pt := 11) d_288_149 (by decide) ?_
    exact xGo.more (xle_s (xle_s (xle_s (xle_n (xle_n (xle_n (xle_n (xle_n (xle_n (xle_n (xle_n (xle_n (xle_n (xle_n (xle_n (xle_n xle_0)))))))))))))))) h
  · replace h := h.2 c
    refine g_aloadn (pc' := 79) d_288_78 rfl rfl ?_
    refine gz_getR (pc' := 82) d_288_79 rfl st_288_24 (kr_39_5 hC) ?_
    refine g_bipush (pc' := 84) (v := jI 40) d_288_82 rfl (by decide) ?_
    refine g_iloadn (pc' := 85) d_288_84 rfl rfl ?_
    refine gz_imul (pc' := 86) d_288_85 rfl ?_
    refine g_iload (pc' := 88) d_288_86 rfl rfl ?_
    refine gz_iadd (pc' := 89) d_288_88 rfl ?_
    obtain ⟨hc3, h⟩ := h
    obtain ⟨x4, hv5, h⟩ := h
    refine gz_lald (pc' := 90) d_288_89 rfl hc3 hv5 ?_
    refine g_lstore (pc' := 92) (l' := [some (.ref 39), some (.int (jI z1)), some (.int (jI z2)), some (.long (jL z3)), none, some (.long (jL z5)), none, some (.int (jI z7)), some (.long (jL x4)), none, none, none, none, none, none, none]) d_288_90 rfl ml_288 rfl rfl ?_
    refine g_aloadn (pc' := 93) d_288_92 rfl rfl ?_
    refine gz_getR (pc' := 96) d_288_93 rfl st_288_75 (kr_39_27 hC) ?_
    refine g_iloadn (pc' := 97) d_288_96 rfl rfl ?_
    obtain ⟨hc6, h⟩ := h
    obtain ⟨x7, hv8, h⟩ := h
    refine gz_lald (pc' := 98) d_288_97 rfl hc6 hv8 ?_
    refine g_lload (pc' := 100) d_288_98 rfl rfl ?_
    refine gz_lmul (pc' := 101) d_288_100 rfl ?_
    refine g_lstore (pc' := 103) (l' := [some (.ref 39), some (.int (jI z1)), some (.int (jI z2)), some (.long (jL z3)), none, some (.long (jL z5)), none, some (.int (jI z7)), some (.long (jL x4)), none, some (.long (jL (x7 * x4))), none, none, none, none, none]) d_288_101 rfl ml_288 rfl rfl ?_
    refine g_aloadn (pc' := 104) d_288_103 rfl rfl ?_
    refine gz_getR (pc' := 107) d_288_104 rfl st_288_78 (kr_39_28 hC) ?_
    refine g_iloadn (pc' := 108) d_288_107 rfl rfl ?_
    obtain ⟨hc9, h⟩ := h
    obtain ⟨x10, hv11, h⟩ := h
    refine gz_lald (pc' := 109) d_288_108 rfl hc9 hv11 ?_
    refine g_lloadn (pc' := 110) d_288_109 rfl rfl ?_
    refine gz_lmul (pc' := 111) d_288_110 rfl ?_
    refine g_lstore (pc' := 113) (l' := [some (.ref 39), some (.int (jI z1)), some (.int (jI z2)), some (.long (jL z3)), none, some (.long (jL z5)), none, some (.int (jI z7)), some (.long (jL x4)), none, some (.long (jL (x7 * x4))), none, some (.long (jL (x10 * z3))), none, none, none]) d_288_111 rfl ml_288 rfl rfl ?_
    refine g_lload (pc' := 115) d_288_113 rfl rfl ?_
    refine g_lload (pc' := 117) d_288_115 rfl rfl ?_
    obtain ⟨r15, w12, hk13, hC14, h⟩ := h
    refine g_callS (pc' := 120) d_288_117 rfl st_288_121 (Or.inl rfl) na_195 ml_195 rfl rfl rfl rm_288_195 rfl rfl hk13 ?_
    refine g_lstore (pc' := 122) (l' := [some (.ref 39), some (.int (jI z1)), some (.int (jI z2)), some (.long (jL z3)), none, some (.long (jL z5)), none, some (.int (jI z7)), some (.long (jL x4)), none, some (.long (jL (x7 * x4))), none, some (.long (jL (x10 * z3))), none, some (.long (jL r15)), none]) d_288_120 rfl ml_288 rfl rfl ?_
    refine g_aloadn (pc' := 123) d_288_122 rfl rfl ?_
    refine g_iloadn (pc' := 124) d_288_123 rfl rfl ?_
    refine g_iload (pc' := 126) d_288_124 rfl rfl ?_
    refine gz_iadd (pc' := 127) d_288_126 rfl ?_
    refine g_lload (pc' := 129) d_288_127 rfl rfl ?_
    refine g_lload (pc' := 131) d_288_129 rfl rfl ?_
    obtain ⟨hc16, h⟩ := h
    obtain ⟨hc17, h⟩ := h
    obtain ⟨hc18, h⟩ := h
    obtain ⟨y19, hz20, h⟩ := h
    refine gz_ldiv (pc' := 132) d_288_131 rfl hc16 hc17 hc18 hz20 ?_
    refine g_lload (pc' := 134) d_288_132 rfl rfl ?_
    refine g_lload (pc' := 136) d_288_134 rfl rfl ?_
    obtain ⟨hc21, h⟩ := h
    obtain ⟨hc22, h⟩ := h
    obtain ⟨y23, hz24, h⟩ := h
    refine gz_ldiv (pc' := 137) d_288_136 rfl hc21 hc17 hc22 hz24 ?_
    obtain ⟨w25, hk26, hC27, h⟩ := h
    refine gz_callV (pc' := 140) d_288_137 rfl st_288_343 na_289 ml_289 rfl rfl rfl rm_288_289 rfl rfl ow_289 (ko_39 hC14) hk26 ?_
    refine gz_iinc (pc' := 143) (l' := [some (.ref 39), some (.int (jI z1)), some (.int (jI z2)), some (.long (jL z3)), none, some (.long (jL z5)), none, some (.int (jI (z7 + 1))), some (.long (jL x4)), none, some (.long (jL (x7 * x4))), none, some (.long (jL (x10 * z3))), none, some (.long (jL r15)), none]) d_288_140 rfl rfl ml_288 rfl rfl ?_
    refine g_goto (pt := 72) d_288_143 (by decide) ?_
    exact xGo.more (xle_s (xle_s (xle_s (xle_s (xle_n (xle_s (xle_n (xle_s (xle_n (xle_n (xle_n (xle_n (xle_n (xle_n (xle_n (xle_n xle_0)))))))))))))))) h
theorem Z_288_154 {z1 : Int} {z2 : Int} {w : xW} {r : Option Value × xW} (hC : CS w) (h : in32 z2 ∧ in32 (z1 + 1) ∧ (z1 + 1 < z2 → r = (some (.int (jI 1)), w)) ∧ (z2 ≤ z1 + 1 → 0 ≤ z2 ∧ ∃ x4, rL w 54 (z2).toNat x4 ∧ in64 x4 ∧ (x4 = 0 → xGo 288 154 [some (.ref 39), some (.int (jI z1)), some (.int (jI (z2 + 1))), none, none, none, none, none, none, none, none, none, none, none, none, none] [] w r) ∧ (x4 ≠ 0 → r = (some (.int (jI 0)), w)))) : xGo 288 154 [some (.ref 39), some (.int (jI z1)), some (.int (jI z2)), none, none, none, none, none, none, none, none, none, none, none, none, none] [] w r := by
  refine g_iloadn (pc' := 155) d_288_154 rfl rfl ?_
  refine g_iloadn (pc' := 156) d_288_155 rfl rfl ?_
  refine g_iconst (pc' := 157) d_288_156 rfl rfl ?_
  refine gz_iadd (pc' := 158) d_288_157 rfl ?_
  obtain ⟨hc1, h⟩ := h
  obtain ⟨hc2, h⟩ := h
  refine gz_ic_gt (pc' := 161) (pt := 180) d_288_158 (by decide) rfl hc1 hc2 (fun c => ?_) (fun c => ?_)
  · replace h := h.1 c
    refine g_iconst (pc' := 181) d_288_180 rfl rfl ?_
    exact g_zret d_288_181 rt_288 (Or.inr rfl) h
  · replace h := h.2 c
    refine g_aloadn (pc' := 162) d_288_161 rfl rfl ?_
    refine gz_getR (pc' := 165) d_288_162 rfl st_288_57 (kr_39_21 hC) ?_
    refine g_iloadn (pc' := 166) d_288_165 rfl rfl ?_
    obtain ⟨hc3, h⟩ := h
    obtain ⟨x4, hv5, h⟩ := h
    refine gz_lald (pc' := 167) d_288_166 rfl hc3 hv5 ?_
    refine g_lconst (pc' := 168) (v := jL 0) d_288_167 rfl cl_0 ?_
    obtain ⟨hc6, h⟩ := h
    refine gz_lc_eq (pc' := 172) (pm := 169) (pt := 174) d_288_168 rfl d_288_169 (by decide) rfl hc6 (s64 (z := 0)) (fun c => ?_) (fun c => ?_)
    · replace h := h.1 c
      refine gz_iinc (pc' := 177) (l' := [some (.ref 39), some (.int (jI z1)), some (.int (jI (z2 + 1))), none, none, none, none, none, none, none, none, none, none, none, none, none]) d_288_174 rfl rfl ml_288 rfl rfl ?_
      refine g_goto (pt := 154) d_288_177 (by decide) ?_
      exact h
    · replace h := h.2 c
      refine g_iconst (pc' := 173) d_288_172 rfl rfl ?_
      exact g_zret d_288_173 rt_288 (Or.inl rfl) h
theorem Z_289_0 {z1 : Int} {z2 : Int} {z4 : Int} {w : xW} {r : Option Value × xW} (hC : CS w) (h : 0 ≤ z1 ∧ ∃ x2, rL w 55 (z1).toNat x2 ∧ ∃ r7 w4, xCall 195 [.long (jL x2), .long (jL z4)] w (some (.long (jL r7)), w4) ∧ CS w4 ∧ 0 ≤ z1 ∧ ∃ x9, rL w4 54 (z1).toNat x9 ∧ in64 z4 ∧ in64 r7 ∧ r7 ≠ 0 ∧ ∃ y14, Int.tdiv z4 r7 = y14 ∧ 0 ≤ z1 ∧ ∃ x17, rL w4 55 (z1).toNat x17 ∧ in64 x17 ∧ r7 ≠ 0 ∧ ∃ y21, Int.tdiv x17 r7 = y21 ∧ 0 ≤ z1 ∧ ∃ x24, rL w4 55 (z1).toNat x24 ∧ in64 x24 ∧ r7 ≠ 0 ∧ ∃ y28, Int.tdiv x24 r7 = y28 ∧ ∃ w30, xCall 273 [.ref 39, .int (jI z1), .long (jL ((x9 * y14) - (z2 * y21))), .long (jL (y28 * z4))] w4 (none, w30) ∧ CS w30 ∧ r = (none, w30)) : xGo 289 0 [some (.ref 39), some (.int (jI z1)), some (.long (jL z2)), none, some (.long (jL z4)), none, none, none] [] w r := by
  refine g_aloadn (pc' := 1) d_289_0 rfl rfl ?_
  refine gz_getR (pc' := 4) d_289_1 rfl st_289_60 (kr_39_22 hC) ?_
  refine g_iloadn (pc' := 5) d_289_4 rfl rfl ?_
  obtain ⟨hc1, h⟩ := h
  obtain ⟨x2, hv3, h⟩ := h
  refine gz_lald (pc' := 6) d_289_5 rfl hc1 hv3 ?_
  refine g_lload (pc' := 8) d_289_6 rfl rfl ?_
  obtain ⟨r7, w4, hk5, hC6, h⟩ := h
  refine g_callS (pc' := 11) d_289_8 rfl st_289_121 (Or.inl rfl) na_195 ml_195 rfl rfl rfl rm_289_195 rfl rfl hk5 ?_
  refine g_lstore (pc' := 13) (l' := [some (.ref 39), some (.int (jI z1)), some (.long (jL z2)), none, some (.long (jL z4)), none, some (.long (jL r7)), none]) d_289_11 rfl ml_289 rfl rfl ?_
  refine g_aloadn (pc' := 14) d_289_13 rfl rfl ?_
  refine g_iloadn (pc' := 15) d_289_14 rfl rfl ?_
  refine g_aloadn (pc' := 16) d_289_15 rfl rfl ?_
  refine gz_getR (pc' := 19) d_289_16 rfl st_289_57 (kr_39_21 hC6) ?_
  refine g_iloadn (pc' := 20) d_289_19 rfl rfl ?_
  obtain ⟨hc8, h⟩ := h
  obtain ⟨x9, hv10, h⟩ := h
  refine gz_lald (pc' := 21) d_289_20 rfl hc8 hv10 ?_
  refine g_lload (pc' := 23) d_289_21 rfl rfl ?_
  refine g_lload (pc' := 25) d_289_23 rfl rfl ?_
  obtain ⟨hc11, h⟩ := h
  obtain ⟨hc12, h⟩ := h
  obtain ⟨hc13, h⟩ := h
  obtain ⟨y14, hz15, h⟩ := h
  refine gz_ldiv (pc' := 26) d_289_25 rfl hc11 hc12 hc13 hz15 ?_
  refine gz_lmul (pc' := 27) d_289_26 rfl ?_
  refine g_lloadn (pc' := 28) d_289_27 rfl rfl ?_
  refine g_aloadn (pc' := 29) d_289_28 rfl rfl ?_
  refine gz_getR (pc' := 32) d_289_29 rfl st_289_60 (kr_39_22 hC6) ?_
  refine g_iloadn (pc' := 33) d_289_32 rfl rfl ?_
  obtain ⟨hc16, h⟩ := h
  obtain ⟨x17, hv18, h⟩ := h
  refine gz_lald (pc' := 34) d_289_33 rfl hc16 hv18 ?_
  refine g_lload (pc' := 36) d_289_34 rfl rfl ?_
  obtain ⟨hc19, h⟩ := h
  obtain ⟨hc20, h⟩ := h
  obtain ⟨y21, hz22, h⟩ := h
  refine gz_ldiv (pc' := 37) d_289_36 rfl hc19 hc12 hc20 hz22 ?_
  refine gz_lmul (pc' := 38) d_289_37 rfl ?_
  refine gz_lsub (pc' := 39) d_289_38 rfl ?_
  refine g_aloadn (pc' := 40) d_289_39 rfl rfl ?_
  refine gz_getR (pc' := 43) d_289_40 rfl st_289_60 (kr_39_22 hC6) ?_
  refine g_iloadn (pc' := 44) d_289_43 rfl rfl ?_
  obtain ⟨hc23, h⟩ := h
  obtain ⟨x24, hv25, h⟩ := h
  refine gz_lald (pc' := 45) d_289_44 rfl hc23 hv25 ?_
  refine g_lload (pc' := 47) d_289_45 rfl rfl ?_
  obtain ⟨hc26, h⟩ := h
  obtain ⟨hc27, h⟩ := h
  obtain ⟨y28, hz29, h⟩ := h
  refine gz_ldiv (pc' := 48) d_289_47 rfl hc26 hc12 hc27 hz29 ?_
  refine g_lload (pc' := 50) d_289_48 rfl rfl ?_
  refine gz_lmul (pc' := 51) d_289_50 rfl ?_
  obtain ⟨w30, hk31, hC32, h⟩ := h
  refine gz_callV (pc' := 54) d_289_51 rfl st_289_293 na_273 ml_273 rfl rfl rfl rm_289_273 rfl rfl ow_273 (ko_39 hC6) hk31 ?_
  exact g_vret d_289_54 rt_289 h
theorem Z_289 {z1 : Int} {z2 : Int} {z4 : Int} {w : xW} {r : Option Value × xW} (hC : CS w) (h : 0 ≤ z1 ∧ ∃ x2, rL w 55 (z1).toNat x2 ∧ ∃ r7 w4, xCall 195 [.long (jL x2), .long (jL z4)] w (some (.long (jL r7)), w4) ∧ CS w4 ∧ 0 ≤ z1 ∧ ∃ x9, rL w4 54 (z1).toNat x9 ∧ in64 z4 ∧ in64 r7 ∧ r7 ≠ 0 ∧ ∃ y14, Int.tdiv z4 r7 = y14 ∧ 0 ≤ z1 ∧ ∃ x17, rL w4 55 (z1).toNat x17 ∧ in64 x17 ∧ r7 ≠ 0 ∧ ∃ y21, Int.tdiv x17 r7 = y21 ∧ 0 ≤ z1 ∧ ∃ x24, rL w4 55 (z1).toNat x24 ∧ in64 x24 ∧ r7 ≠ 0 ∧ ∃ y28, Int.tdiv x24 r7 = y28 ∧ ∃ w30, xCall 273 [.ref 39, .int (jI z1), .long (jL ((x9 * y14) - (z2 * y21))), .long (jL (y28 * z4))] w4 (none, w30) ∧ CS w30 ∧ r = (none, w30)) : xCall 289 [.ref 39, .int (jI z1), .long (jL z2), .long (jL z4)] w r := E_289 (Z_289_0 hC h)
theorem Z_290_0 {z1 : Int} {z2 : Int} {z3 : Int} {w : xW} {r : Option Value × xW} (hC : CS w) (h : ∀ w2, w2 = pF w 39 0 (.int (jI 0)) → CS w2 → ∃ (P7 : Prop) (dP8 : Decidable P7) (w4 : xW), xCall 198 [.ref 39, .int (jI z1)] w2 (some (.int (bz P7)), w4) ∧ CS w4 ∧ (¬ P7 → r = (some (.long (jL (-9223372036854775808))), w4)) ∧ (P7 → ∃ (P12 : Prop) (dP13 : Decidable P12) (w9 : xW), xCall 199 [.int (jI z2), .int (jI 0), .int (jI z1)] w4 (some (.int (bz P12)), w9) ∧ CS w9 ∧ (¬ P12 → r = (some (.long (jL (-9223372036854775808))), w9)) ∧ (P12 → ∃ (P17 : Prop) (dP18 : Decidable P17) (w14 : xW), xCall 199 [.int (jI z3), .int (jI 0), .int (jI 2)] w9 (some (.int (bz P17)), w14) ∧ CS w14 ∧ (¬ P17 → r = (some (.long (jL (-9223372036854775808))), w14)) ∧ (P17 → ∃ x19, fI w14 39 12 4 x19 ∧ in32 (z1 - z2) ∧ in32 x19 ∧ (z1 - z2 ≤ x19 → 0 ≤ (40 * z1) + z2 ∧ ∃ x24, rL w14 43 ((40 * z1) + z2).toNat x24 ∧ 0 ≤ (3 * (z1 - z2)) + 1 ∧ ∃ x27, rL w14 41 ((3 * (z1 - z2)) + 1).toNat x27 ∧ 0 ≤ 3 * (z1 - z2) ∧ ∃ x30, rL w14 41 (3 * (z1 - z2)).toNat x30 ∧ 0 ≤ (3 * (z1 - z2)) + 2 ∧ ∃ x33, rL w14 41 ((3 * (z1 - z2)) + 2).toNat x33 ∧ in64 (x24 * x27) ∧ in64 x33 ∧ x33 ≠ 0 ∧ ∃ y38, Int.tdiv (x24 * x27) x33 = y38 ∧ 0 ≤ (3 * (z1 - z2)) + 2 ∧ ∃ x41, rL w14 41 ((3 * (z1 - z2)) + 2).toNat x41 ∧ in64 x41 ∧ x41 ≠ 0 ∧ ∃ y45, Int.tmod (x24 * x27) x41 = y45 ∧ 0 ≤ (3 * (z1 - z2)) + 2 ∧ ∃ x48, rL w14 41 ((3 * (z1 - z2)) + 2).toNat x48 ∧ ∃ w50, xCall 194 [.ref 39, .ref 62, .int (jI 0), .long (jL ((x24 * x30) + y38)), .long (jL y45), .long (jL x48)] w14 (none, w50) ∧ CS w50 ∧ 0 ≤ z3 ∧ ∃ x54, rL w50 62 (z3).toNat x54 ∧ r = (some (.long (jL x54)), w50)) ∧ (x19 < z1 - z2 → r = (some (.long (jL (-9223372036854775808))), w14)))))) : xGo 290 0 [some (.ref 39), some (.int (jI z1)), some (.int (jI z2)), some (.int (jI z3)), none, none, none, none, none] [] w r := by
  refine g_aloadn (pc' := 1) d_290_0 rfl rfl ?_
  refine g_iconst (pc' := 2) d_290_1 rfl rfl ?_
  have hpf1 := (kf_39_0 hC)
  have hC3 : CS (pF w 39 0 (.int (jI 0))) := ks_39_0 hC
  have h := h _ rfl hC3
  refine gz_putf (pc' := 5) d_290_2 rfl st_290_118 ft_12_0 ff_12_0 rfl (Or.inl rfl) hpf1 ?_
  refine g_aloadn (pc' := 6) d_290_5 rfl rfl ?_
  refine g_iloadn (pc' := 7) d_290_6 rfl rfl ?_
  obtain ⟨P7, dP8, w4, hk5, hC6, h⟩ := h
  refine gz_callV (pc' := 10) d_290_7 rfl st_290_145 na_198 ml_198 rfl rfl rfl rm_290_198 rfl rfl ow_198 (ko_39 hC3) hk5 ?_
  refine gz_bt_eq (pc' := 13) (pt := 41) d_290_10 (by decide) rfl (fun c => ?_) (fun c => ?_)
  · replace h := h.1 c
    refine g_ldc2 (pc' := 44) d_290_41 rfl st_290_166 rfl ?_
    exact g_lret d_290_44 rt_290 h
  · replace h := h.2 c
    refine g_iloadn (pc' := 14) d_290_13 rfl rfl ?_
    refine g_iconst (pc' := 15) d_290_14 rfl rfl ?_
    refine g_iloadn (pc' := 16) d_290_15 rfl rfl ?_
    obtain ⟨P12, dP13, w9, hk10, hC11, h⟩ := h
    refine g_callS (pc' := 19) d_290_16 rfl st_290_137 (Or.inl rfl) na_199 ml_199 rfl rfl rfl rm_290_199 rfl rfl hk10 ?_
    refine gz_bt_eq (pc' := 22) (pt := 41) d_290_19 (by decide) rfl (fun c => ?_) (fun c => ?_)
    · replace h := h.1 c
      refine g_ldc2 (pc' := 44) d_290_41 rfl st_290_166 rfl ?_
      exact g_lret d_290_44 rt_290 h
    · replace h := h.2 c
      refine g_iloadn (pc' := 23) d_290_22 rfl rfl ?_
      refine g_iconst (pc' := 24) d_290_23 rfl rfl ?_
      refine g_iconst (pc' := 25) d_290_24 rfl rfl ?_
      obtain ⟨P17, dP18, w14, hk15, hC16, h⟩ := h
      refine g_callS (pc' := 28) d_290_25 rfl st_290_137 (Or.inl rfl) na_199 ml_199 rfl rfl rfl rm_290_199 rfl rfl hk15 ?_
      refine gz_bt_eq (pc' := 31) (pt := 41) d_290_28 (by decide) rfl (fun c => ?_) (fun c => ?_)
      · replace h := h.1 c
        refine g_ldc2 (pc' := 44) d_290_41 rfl st_290_166 rfl ?_
        exact g_lret d_290_44 rt_290 h
      · replace h := h.2 c
        refine g_iloadn (pc' := 32) d_290_31 rfl rfl ?_
        refine g_iloadn (pc' := 33) d_290_32 rfl rfl ?_
        refine gz_isub (pc' := 34) d_290_33 rfl ?_
        refine g_aloadn (pc' := 35) d_290_34 rfl rfl ?_
        obtain ⟨x19, hv20, h⟩ := h
        refine gz_getI (pc' := 38) d_290_35 rfl st_290_20 hv20 ?_
        obtain ⟨hc21, h⟩ := h
        obtain ⟨hc22, h⟩ := h
        refine gz_ic_le (pc' := 41) (pt := 45) d_290_38 (by decide) rfl hc21 hc22 (fun c => ?_) (fun c => ?_)
        · replace h := h.1 c
          refine g_iconst (pc' := 46) d_290_45 rfl rfl ?_
          refine g_iloadn (pc' := 47) d_290_46 rfl rfl ?_
          refine g_iloadn (pc' := 48) d_290_47 rfl rfl ?_
          refine gz_isub (pc' := 49) d_290_48 rfl ?_
          refine gz_imul (pc' := 50) d_290_49 rfl ?_
          refine g_istore (pc' := 52) (l' := [some (.ref 39), some (.int (jI z1)), some (.int (jI z2)), some (.int (jI z3)), some (.int (jI (3 * (z1 - z2)))), none, none, none, none]) d_290_50 rfl ml_290 rfl rfl ?_
          refine g_aloadn (pc' := 53) d_290_52 rfl rfl ?_
          refine gz_getR (pc' := 56) d_290_53 rfl st_290_24 (kr_39_5 hC16) ?_
          refine g_bipush (pc' := 58) (v := jI 40) d_290_56 rfl (by decide) ?_
          refine g_iloadn (pc' := 59) d_290_58 rfl rfl ?_
          refine gz_imul (pc' := 60) d_290_59 rfl ?_
          refine g_iloadn (pc' := 61) d_290_60 rfl rfl ?_
          refine gz_iadd (pc' := 62) d_290_61 rfl ?_
          obtain ⟨hc23, h⟩ := h
          obtain ⟨x24, hv25, h⟩ := h
          refine gz_lald (pc' := 63) d_290_62 rfl hc23 hv25 ?_
          refine g_lstore (pc' := 65) (l' := [some (.ref 39), some (.int (jI z1)), some (.int (jI z2)), some (.int (jI z3)), some (.int (jI (3 * (z1 - z2)))), some (.long (jL x24)), none, none, none]) d_290_63 rfl ml_290 rfl rfl ?_
          refine g_lload (pc' := 67) d_290_65 rfl rfl ?_
          refine g_aloadn (pc' := 68) d_290_67 rfl rfl ?_
          refine gz_getR (pc' := 71) d_290_68 rfl st_290_13 (kr_39_2 hC16) ?_
          refine g_iload (pc' := 73) d_290_71 rfl rfl ?_
          refine g_iconst (pc' := 74) d_290_73 rfl rfl ?_
          refine gz_iadd (pc' := 75) d_290_74 rfl ?_
          obtain ⟨hc26, h⟩ := h
          obtain ⟨x27, hv28, h⟩ := h
          refine gz_lald (pc' := 76) d_290_75 rfl hc26 hv28 ?_
          refine gz_lmul (pc' := 77) d_290_76 rfl ?_
          refine g_lstore (pc' := 79) (l' := [some (.ref 39), some (.int (jI z1)), some (.int (jI z2)), some (.int (jI z3)), some (.int (jI (3 * (z1 - z2)))), some (.long (jL x24)), none, some (.long (jL (x24 * x27))), none]) d_290_77 rfl ml_290 rfl rfl ?_
          refine g_aloadn (pc' := 80) d_290_79 rfl rfl ?_
          refine g_aloadn (pc' := 81) d_290_80 rfl rfl ?_
          refine gz_getR (pc' := 84) d_290_81 rfl st_290_81 (kr_39_29 hC16) ?_
          refine g_iconst (pc' := 85) d_290_84 rfl rfl ?_
          refine g_lload (pc' := 87) d_290_85 rfl rfl ?_
          refine g_aloadn (pc' := 88) d_290_87 rfl rfl ?_
          refine gz_getR (pc' := 91) d_290_88 rfl st_290_13 (kr_39_2 hC16) ?_
          refine g_iload (pc' := 93) d_290_91 rfl rfl ?_
          obtain ⟨hc29, h⟩ := h
          obtain ⟨x30, hv31, h⟩ := h
          refine gz_lald (pc' := 94) d_290_93 rfl hc29 hv31 ?_
          refine gz_lmul (pc' := 95) d_290_94 rfl ?_
          refine g_lload (pc' := 97) d_290_95 rfl rfl ?_
          refine g_aloadn (pc' := 98) d_290_97 rfl rfl ?_
          refine gz_getR (pc' := 101) d_290_98 rfl st_290_13 (kr_39_2 hC16) ?_
          refine g_iload (pc' := 103) d_290_101 rfl rfl ?_
          refine g_iconst (pc' := 104) d_290_103 rfl rfl ?_
          refine gz_iadd (pc' := 105) d_290_104 rfl ?_
          obtain ⟨hc32, h⟩ := h
          obtain ⟨x33, hv34, h⟩ := h
          refine gz_lald (pc' := 106) d_290_105 rfl hc32 hv34 ?_
          obtain ⟨hc35, h⟩ := h
          obtain ⟨hc36, h⟩ := h
          obtain ⟨hc37, h⟩ := h
          obtain ⟨y38, hz39, h⟩ := h
          refine gz_ldiv (pc' := 107) d_290_106 rfl hc35 hc36 hc37 hz39 ?_
          refine gz_ladd (pc' := 108) d_290_107 rfl ?_
          refine g_lload (pc' := 110) d_290_108 rfl rfl ?_
          refine g_aloadn (pc' := 111) d_290_110 rfl rfl ?_
          refine gz_getR (pc' := 114) d_290_111 rfl st_290_13 (kr_39_2 hC16) ?_
          refine g_iload (pc' := 116) d_290_114 rfl rfl ?_
          refine g_iconst (pc' := 117) d_290_116 rfl rfl ?_
          refine gz_iadd (pc' := 118) d_290_117 rfl ?_
          obtain ⟨hc40, h⟩ := h
          obtain ⟨x41, hv42, h⟩ := h
          refine gz_lald (pc' := 119) d_290_118 rfl hc40 hv42 ?_
          obtain ⟨hc43, h⟩ := h
          obtain ⟨hc44, h⟩ := h
          obtain ⟨y45, hz46, h⟩ := h
          refine gz_lrem (pc' := 120) d_290_119 rfl hc35 hc43 hc44 hz46 ?_
          refine g_aloadn (pc' := 121) d_290_120 rfl rfl ?_
          refine gz_getR (pc' := 124) d_290_121 rfl st_290_13 (kr_39_2 hC16) ?_
          refine g_iload (pc' := 126) d_290_124 rfl rfl ?_
          refine g_iconst (pc' := 127) d_290_126 rfl rfl ?_
          refine gz_iadd (pc' := 128) d_290_127 rfl ?_
          obtain ⟨hc47, h⟩ := h
          obtain ⟨x48, hv49, h⟩ := h
          refine gz_lald (pc' := 129) d_290_128 rfl hc47 hv49 ?_
          obtain ⟨w50, hk51, hC52, h⟩ := h
          refine gz_callV (pc' := 132) d_290_129 rfl st_290_134 na_194 ml_194 rfl rfl rfl rm_290_194 rfl rfl ow_194 (ko_39 hC16) hk51 ?_
          refine g_aloadn (pc' := 133) d_290_132 rfl rfl ?_
          refine gz_getR (pc' := 136) d_290_133 rfl st_290_81 (kr_39_29 hC52) ?_
          refine g_iloadn (pc' := 137) d_290_136 rfl rfl ?_
          obtain ⟨hc53, h⟩ := h
          obtain ⟨x54, hv55, h⟩ := h
          refine gz_lald (pc' := 138) d_290_137 rfl hc53 hv55 ?_
          exact g_lret d_290_138 rt_290 h
        · replace h := h.2 c
          refine g_ldc2 (pc' := 44) d_290_41 rfl st_290_166 rfl ?_
          exact g_lret d_290_44 rt_290 h
theorem Z_290 {z1 : Int} {z2 : Int} {z3 : Int} {w : xW} {r : Option Value × xW} (hC : CS w) (h : ∀ w2, w2 = pF w 39 0 (.int (jI 0)) → CS w2 → ∃ (P7 : Prop) (dP8 : Decidable P7) (w4 : xW), xCall 198 [.ref 39, .int (jI z1)] w2 (some (.int (bz P7)), w4) ∧ CS w4 ∧ (¬ P7 → r = (some (.long (jL (-9223372036854775808))), w4)) ∧ (P7 → ∃ (P12 : Prop) (dP13 : Decidable P12) (w9 : xW), xCall 199 [.int (jI z2), .int (jI 0), .int (jI z1)] w4 (some (.int (bz P12)), w9) ∧ CS w9 ∧ (¬ P12 → r = (some (.long (jL (-9223372036854775808))), w9)) ∧ (P12 → ∃ (P17 : Prop) (dP18 : Decidable P17) (w14 : xW), xCall 199 [.int (jI z3), .int (jI 0), .int (jI 2)] w9 (some (.int (bz P17)), w14) ∧ CS w14 ∧ (¬ P17 → r = (some (.long (jL (-9223372036854775808))), w14)) ∧ (P17 → ∃ x19, fI w14 39 12 4 x19 ∧ in32 (z1 - z2) ∧ in32 x19 ∧ (z1 - z2 ≤ x19 → 0 ≤ (40 * z1) + z2 ∧ ∃ x24, rL w14 43 ((40 * z1) + z2).toNat x24 ∧ 0 ≤ (3 * (z1 - z2)) + 1 ∧ ∃ x27, rL w14 41 ((3 * (z1 - z2)) + 1).toNat x27 ∧ 0 ≤ 3 * (z1 - z2) ∧ ∃ x30, rL w14 41 (3 * (z1 - z2)).toNat x30 ∧ 0 ≤ (3 * (z1 - z2)) + 2 ∧ ∃ x33, rL w14 41 ((3 * (z1 - z2)) + 2).toNat x33 ∧ in64 (x24 * x27) ∧ in64 x33 ∧ x33 ≠ 0 ∧ ∃ y38, Int.tdiv (x24 * x27) x33 = y38 ∧ 0 ≤ (3 * (z1 - z2)) + 2 ∧ ∃ x41, rL w14 41 ((3 * (z1 - z2)) + 2).toNat x41 ∧ in64 x41 ∧ x41 ≠ 0 ∧ ∃ y45, Int.tmod (x24 * x27) x41 = y45 ∧ 0 ≤ (3 * (z1 - z2)) + 2 ∧ ∃ x48, rL w14 41 ((3 * (z1 - z2)) + 2).toNat x48 ∧ ∃ w50, xCall 194 [.ref 39, .ref 62, .int (jI 0), .long (jL ((x24 * x30) + y38)), .long (jL y45), .long (jL x48)] w14 (none, w50) ∧ CS w50 ∧ 0 ≤ z3 ∧ ∃ x54, rL w50 62 (z3).toNat x54 ∧ r = (some (.long (jL x54)), w50)) ∧ (x19 < z1 - z2 → r = (some (.long (jL (-9223372036854775808))), w14)))))) : xCall 290 [.ref 39, .int (jI z1), .int (jI z2), .int (jI z3)] w r := E_290 (Z_290_0 hC h)
theorem Z_291_0 {z1 : Int} {z2 : Int} {z3 : Int} {z4 : Int} {w : xW} {r : Option Value × xW} (hC : CS w) (h : ∀ w2, w2 = pF w 39 0 (.int (jI 0)) → CS w2 → ∃ (P7 : Prop) (dP8 : Decidable P7) (w4 : xW), xCall 199 [.int (jI z1), .int (jI 0), .int (jI 10)] w2 (some (.int (bz P7)), w4) ∧ CS w4 ∧ (¬ P7 → r = (some (.long (jL (-9223372036854775808))), w4)) ∧ (P7 → ∃ (P12 : Prop) (dP13 : Decidable P12) (w9 : xW), xCall 199 [.int (jI z2), .int (jI (-9)), .int (jI 9)] w4 (some (.int (bz P12)), w9) ∧ CS w9 ∧ (¬ P12 → r = (some (.long (jL (-9223372036854775808))), w9)) ∧ (P12 → ∃ (P17 : Prop) (dP18 : Decidable P17) (w14 : xW), xCall 199 [.int (jI z3), .int (jI 1), .int (jI 6)] w9 (some (.int (bz P17)), w14) ∧ CS w14 ∧ (¬ P17 → r = (some (.long (jL (-9223372036854775808))), w14)) ∧ (P17 → ∃ (P22 : Prop) (dP23 : Decidable P22) (w19 : xW), xCall 199 [.int (jI z4), .int (jI 0), .int (jI 2)] w14 (some (.int (bz P22)), w19) ∧ CS w19 ∧ (¬ P22 → r = (some (.long (jL (-9223372036854775808))), w19)) ∧ (P22 → ∃ x24, fI w19 39 12 4 x24 ∧ in32 z1 ∧ in32 x24 ∧ (z1 ≤ x24 → xGo 291 64 [some (.ref 39), some (.int (jI z1)), some (.int (jI z2)), some (.int (jI z3)), some (.int (jI z4)), some (.long (jL 0)), none, some (.int (jI 0)), none, none, none] [] w19 r) ∧ (x24 < z1 → r = (some (.long (jL (-9223372036854775808))), w19))))))) : xGo 291 0 [some (.ref 39), some (.int (jI z1)), some (.int (jI z2)), some (.int (jI z3)), some (.int (jI z4)), none, none, none, none, none, none] [] w r := by
  refine g_aloadn (pc' := 1) d_291_0 rfl rfl ?_
  refine g_iconst (pc' := 2) d_291_1 rfl rfl ?_
  have hpf1 := (kf_39_0 hC)
  have hC3 : CS (pF w 39 0 (.int (jI 0))) := ks_39_0 hC
  have h := h _ rfl hC3
  refine gz_putf (pc' := 5) d_291_2 rfl st_291_118 ft_12_0 ff_12_0 rfl (Or.inl rfl) hpf1 ?_
  refine g_iloadn (pc' := 6) d_291_5 rfl rfl ?_
  refine g_iconst (pc' := 7) d_291_6 rfl rfl ?_
  refine g_bipush (pc' := 9) (v := jI 10) d_291_7 rfl (by decide) ?_
  obtain ⟨P7, dP8, w4, hk5, hC6, h⟩ := h
  refine g_callS (pc' := 12) d_291_9 rfl st_291_137 (Or.inl rfl) na_199 ml_199 rfl rfl rfl rm_291_199 rfl rfl hk5 ?_
  refine gz_bt_eq (pc' := 15) (pt := 54) d_291_12 (by decide) rfl (fun c => ?_) (fun c => ?_)
  · replace h := h.1 c
    refine g_ldc2 (pc' := 57) d_291_54 rfl st_291_166 rfl ?_
    exact g_lret d_291_57 rt_291 h
  · replace h := h.2 c
    refine g_iloadn (pc' := 16) d_291_15 rfl rfl ?_
    refine g_bipush (pc' := 18) (v := jI (-9)) d_291_16 rfl (by decide) ?_
    refine g_bipush (pc' := 20) (v := jI 9) d_291_18 rfl (by decide) ?_
    obtain ⟨P12, dP13, w9, hk10, hC11, h⟩ := h
    refine g_callS (pc' := 23) d_291_20 rfl st_291_137 (Or.inl rfl) na_199 ml_199 rfl rfl rfl rm_291_199 rfl rfl hk10 ?_
    refine gz_bt_eq (pc' := 26) (pt := 54) d_291_23 (by decide) rfl (fun c => ?_) (fun c => ?_)
    · replace h := h.1 c
      refine g_ldc2 (pc' := 57) d_291_54 rfl st_291_166 rfl ?_
      exact g_lret d_291_57 rt_291 h
    · replace h := h.2 c
      refine g_iloadn (pc' := 27) d_291_26 rfl rfl ?_
      refine g_iconst (pc' := 28) d_291_27 rfl rfl ?_
      refine g_bipush (pc' := 30) (v := jI 6) d_291_28 rfl (by decide) ?_
      obtain ⟨P17, dP18, w14, hk15, hC16, h⟩ := h
      refine g_callS (pc' := 33) d_291_30 rfl st_291_137 (Or.inl rfl) na_199 ml_199 rfl rfl rfl rm_291_199 rfl rfl hk15 ?_
      refine gz_bt_eq (pc' := 36) (pt := 54) d_291_33 (by decide) rfl (fun c => ?_) (fun c => ?_)
      · replace h := h.1 c
        refine g_ldc2 (pc' := 57) d_291_54 rfl st_291_166 rfl ?_
        exact g_lret d_291_57 rt_291 h
      · replace h := h.2 c
        refine g_iload (pc' := 38) d_291_36 rfl rfl ?_
        refine g_iconst (pc' := 39) d_291_38 rfl rfl ?_
        refine g_iconst (pc' := 40) d_291_39 rfl rfl ?_
        obtain ⟨P22, dP23, w19, hk20, hC21, h⟩ := h
        refine g_callS (pc' := 43) d_291_40 rfl st_291_137 (Or.inl rfl) na_199 ml_199 rfl rfl rfl rm_291_199 rfl rfl hk20 ?_
        refine gz_bt_eq (pc' := 46) (pt := 54) d_291_43 (by decide) rfl (fun c => ?_) (fun c => ?_)
        · replace h := h.1 c
          refine g_ldc2 (pc' := 57) d_291_54 rfl st_291_166 rfl ?_
          exact g_lret d_291_57 rt_291 h
        · replace h := h.2 c
          refine g_iloadn (pc' := 47) d_291_46 rfl rfl ?_
          refine g_aloadn (pc' := 48) d_291_47 rfl rfl ?_
          obtain ⟨x24, hv25, h⟩ := h
          refine gz_getI (pc' := 51) d_291_48 rfl st_291_20 hv25 ?_
          obtain ⟨hc26, h⟩ := h
          obtain ⟨hc27, h⟩ := h
          refine gz_ic_le (pc' := 54) (pt := 58) d_291_51 (by decide) rfl hc26 hc27 (fun c => ?_) (fun c => ?_)
          · replace h := h.1 c
            refine g_lconst (pc' := 59) (v := jL 0) d_291_58 rfl cl_0 ?_
            refine g_lstore (pc' := 61) (l' := [some (.ref 39), some (.int (jI z1)), some (.int (jI z2)), some (.int (jI z3)), some (.int (jI z4)), some (.long (jL 0)), none, none, none, none, none]) d_291_59 rfl ml_291 rfl rfl ?_
            refine g_iconst (pc' := 62) d_291_61 rfl rfl ?_
            refine g_istore (pc' := 64) (l' := [some (.ref 39), some (.int (jI z1)), some (.int (jI z2)), some (.int (jI z3)), some (.int (jI z4)), some (.long (jL 0)), none, some (.int (jI 0)), none, none, none]) d_291_62 rfl ml_291 rfl rfl ?_
            exact h
          · replace h := h.2 c
            refine g_ldc2 (pc' := 57) d_291_54 rfl st_291_166 rfl ?_
            exact g_lret d_291_57 rt_291 h
theorem Z_291 {z1 : Int} {z2 : Int} {z3 : Int} {z4 : Int} {w : xW} {r : Option Value × xW} (hC : CS w) (h : ∀ w2, w2 = pF w 39 0 (.int (jI 0)) → CS w2 → ∃ (P7 : Prop) (dP8 : Decidable P7) (w4 : xW), xCall 199 [.int (jI z1), .int (jI 0), .int (jI 10)] w2 (some (.int (bz P7)), w4) ∧ CS w4 ∧ (¬ P7 → r = (some (.long (jL (-9223372036854775808))), w4)) ∧ (P7 → ∃ (P12 : Prop) (dP13 : Decidable P12) (w9 : xW), xCall 199 [.int (jI z2), .int (jI (-9)), .int (jI 9)] w4 (some (.int (bz P12)), w9) ∧ CS w9 ∧ (¬ P12 → r = (some (.long (jL (-9223372036854775808))), w9)) ∧ (P12 → ∃ (P17 : Prop) (dP18 : Decidable P17) (w14 : xW), xCall 199 [.int (jI z3), .int (jI 1), .int (jI 6)] w9 (some (.int (bz P17)), w14) ∧ CS w14 ∧ (¬ P17 → r = (some (.long (jL (-9223372036854775808))), w14)) ∧ (P17 → ∃ (P22 : Prop) (dP23 : Decidable P22) (w19 : xW), xCall 199 [.int (jI z4), .int (jI 0), .int (jI 2)] w14 (some (.int (bz P22)), w19) ∧ CS w19 ∧ (¬ P22 → r = (some (.long (jL (-9223372036854775808))), w19)) ∧ (P22 → ∃ x24, fI w19 39 12 4 x24 ∧ in32 z1 ∧ in32 x24 ∧ (z1 ≤ x24 → xGo 291 64 [some (.ref 39), some (.int (jI z1)), some (.int (jI z2)), some (.int (jI z3)), some (.int (jI z4)), some (.long (jL 0)), none, some (.int (jI 0)), none, none, none] [] w19 r) ∧ (x24 < z1 → r = (some (.long (jL (-9223372036854775808))), w19))))))) : xCall 291 [.ref 39, .int (jI z1), .int (jI z2), .int (jI z3), .int (jI z4)] w r := E_291 (Z_291_0 hC h)
theorem Z_291_64 {z1 : Int} {z2 : Int} {z3 : Int} {z4 : Int} {z5 : Int} {z7 : Int} {w : xW} {r : Option Value × xW} (hC : CS w) (h : in32 z7 ∧ in32 z1 ∧ (z1 < z7 → in32 z3 ∧ ∃ r7 w4, xCall 268 [.long (jL z3), .int (jI z1)] w (some (.long (jL r7)), w4) ∧ CS w4 ∧ ∃ r11 w8, xCall 193 [.long (jL z5), .long (jL (2310 * r7))] w4 (some (.long (jL r11)), w8) ∧ CS w8 ∧ ∃ w12, xCall 194 [.ref 39, .ref 62, .int (jI 0), .long (jL r11), .long (jL (z5 - (r11 * (2310 * r7)))), .long (jL (2310 * r7))] w8 (none, w12) ∧ CS w12 ∧ 0 ≤ z4 ∧ ∃ x16, rL w12 62 (z4).toNat x16 ∧ r = (some (.long (jL x16)), w12)) ∧ (z7 ≤ z1 → 0 ≤ (40 * z1) + z7 ∧ ∃ x19, rL w 43 ((40 * z1) + z7).toNat x19 ∧ 0 ≤ 3 * (z1 - z7) ∧ ∃ x22, rL w 41 (3 * (z1 - z7)).toNat x22 ∧ 0 ≤ (3 * (z1 - z7)) + 2 ∧ ∃ x25, rL w 41 ((3 * (z1 - z7)) + 2).toNat x25 ∧ 0 ≤ (3 * (z1 - z7)) + 1 ∧ ∃ x28, rL w 41 ((3 * (z1 - z7)) + 1).toNat x28 ∧ 0 ≤ (3 * (z1 - z7)) + 2 ∧ ∃ x31, rL w 41 ((3 * (z1 - z7)) + 2).toNat x31 ∧ in64 x31 ∧ x31 ≠ 0 ∧ ∃ y35, Int.tdiv 2310 x31 = y35 ∧ in32 z2 ∧ ∃ r41 w38, xCall 268 [.long (jL z2), .int (jI z7)] w (some (.long (jL r41)), w38) ∧ CS w38 ∧ in32 z3 ∧ ∃ r46 w43, xCall 268 [.long (jL z3), .int (jI (z1 - z7))] w38 (some (.long (jL r46)), w43) ∧ CS w43 ∧ ∀ v47 : Int, v47 = z5 + ((((x19 * ((x22 * x25) + x28)) * y35) * r41) * r46) → xGo 291 64 [some (.ref 39), some (.int (jI z1)), some (.int (jI z2)), some (.int (jI z3)), some (.int (jI z4)), some (.long (jL v47)), none, some (.int (jI (z7 + 1))), none, none, none] [] w43 r)) : xGo 291 64 [some (.ref 39), some (.int (jI z1)), some (.int (jI z2)), some (.int (jI z3)), some (.int (jI z4)), some (.long (jL z5)), none, some (.int (jI z7)), none, none, none] [] w r := by
  refine g_iload (pc' := 66) d_291_64 rfl rfl ?_
  refine g_iloadn (pc' := 67) d_291_66 rfl rfl ?_
  obtain ⟨hc1, h⟩ := h
  obtain ⟨hc2, h⟩ := h
  refine gz_ic_gt (pc' := 70) (pt := 161) d_291_67 (by decide) rfl hc1 hc2 (fun c => ?_) (fun c => ?_)
  · replace h := h.1 c
    refine g_ldc2 (pc' := 164) d_291_161 rfl st_291_351 rfl ?_
    refine g_iloadn (pc' := 165) d_291_164 rfl rfl ?_
    obtain ⟨hc3, h⟩ := h
    refine gz_i2l (pc' := 166) d_291_165 rfl hc3 ?_
    refine g_iloadn (pc' := 167) d_291_166 rfl rfl ?_
    obtain ⟨r7, w4, hk5, hC6, h⟩ := h
    refine g_callS (pc' := 170) d_291_167 rfl st_291_287 (Or.inl rfl) na_268 ml_268 rfl rfl rfl rm_291_268 rfl rfl hk5 ?_
    refine gz_lmul (pc' := 171) d_291_170 rfl ?_
    refine g_lstore (pc' := 173) (l' := [some (.ref 39), some (.int (jI z1)), some (.int (jI z2)), some (.int (jI z3)), some (.int (jI z4)), some (.long (jL z5)), none, some (.long (jL (2310 * r7))), none, none, none]) d_291_171 rfl ml_291 rfl rfl ?_
    refine g_lload (pc' := 175) d_291_173 rfl rfl ?_
    refine g_lload (pc' := 177) d_291_175 rfl rfl ?_
    obtain ⟨r11, w8, hk9, hC10, h⟩ := h
    refine g_callS (pc' := 180) d_291_177 rfl st_291_131 (Or.inl rfl) na_193 ml_193 rfl rfl rfl rm_291_193 rfl rfl hk9 ?_
    refine g_lstore (pc' := 182) (l' := [some (.ref 39), some (.int (jI z1)), some (.int (jI z2)), some (.int (jI z3)), some (.int (jI z4)), some (.long (jL z5)), none, some (.long (jL (2310 * r7))), none, some (.long (jL r11)), none]) d_291_180 rfl ml_291 rfl rfl ?_
    refine g_aloadn (pc' := 183) d_291_182 rfl rfl ?_
    refine g_aloadn (pc' := 184) d_291_183 rfl rfl ?_
    refine gz_getR (pc' := 187) d_291_184 rfl st_291_81 (kr_39_29 hC10) ?_
    refine g_iconst (pc' := 188) d_291_187 rfl rfl ?_
    refine g_lload (pc' := 190) d_291_188 rfl rfl ?_
    refine g_lload (pc' := 192) d_291_190 rfl rfl ?_
    refine g_lload (pc' := 194) d_291_192 rfl rfl ?_
    refine g_lload (pc' := 196) d_291_194 rfl rfl ?_
    refine gz_lmul (pc' := 197) d_291_196 rfl ?_
    refine gz_lsub (pc' := 198) d_291_197 rfl ?_
    refine g_lload (pc' := 200) d_291_198 rfl rfl ?_
    obtain ⟨w12, hk13, hC14, h⟩ := h
    refine gz_callV (pc' := 203) d_291_200 rfl st_291_134 na_194 ml_194 rfl rfl rfl rm_291_194 rfl rfl ow_194 (ko_39 hC10) hk13 ?_
    refine g_aloadn (pc' := 204) d_291_203 rfl rfl ?_
    refine gz_getR (pc' := 207) d_291_204 rfl st_291_81 (kr_39_29 hC14) ?_
    refine g_iload (pc' := 209) d_291_207 rfl rfl ?_
    obtain ⟨hc15, h⟩ := h
    obtain ⟨x16, hv17, h⟩ := h
    refine gz_lald (pc' := 210) d_291_209 rfl hc15 hv17 ?_
    exact g_lret d_291_210 rt_291 h
  · replace h := h.2 c
    refine g_iconst (pc' := 71) d_291_70 rfl rfl ?_
    refine g_iloadn (pc' := 72) d_291_71 rfl rfl ?_
    refine g_iload (pc' := 74) d_291_72 rfl rfl ?_
    refine gz_isub (pc' := 75) d_291_74 rfl ?_
    refine gz_imul (pc' := 76) d_291_75 rfl ?_
    refine g_istore (pc' := 78) (l' := [some (.ref 39), some (.int (jI z1)), some (.int (jI z2)), some (.int (jI z3)), some (.int (jI z4)), some (.long (jL z5)), none, some (.int (jI z7)), some (.int (jI (3 * (z1 - z7)))), none, none]) d_291_76 rfl ml_291 rfl rfl ?_
    refine g_lload (pc' := 80) d_291_78 rfl rfl ?_
    refine g_aloadn (pc' := 81) d_291_80 rfl rfl ?_
    refine gz_getR (pc' := 84) d_291_81 rfl st_291_24 (kr_39_5 hC) ?_
    refine g_bipush (pc' := 86) (v := jI 40) d_291_84 rfl (by decide) ?_
    refine g_iloadn (pc' := 87) d_291_86 rfl rfl ?_
    refine gz_imul (pc' := 88) d_291_87 rfl ?_
    refine g_iload (pc' := 90) d_291_88 rfl rfl ?_
    refine gz_iadd (pc' := 91) d_291_90 rfl ?_
    obtain ⟨hc18, h⟩ := h
    obtain ⟨x19, hv20, h⟩ := h
    refine gz_lald (pc' := 92) d_291_91 rfl hc18 hv20 ?_
    refine g_aloadn (pc' := 93) d_291_92 rfl rfl ?_
    refine gz_getR (pc' := 96) d_291_93 rfl st_291_13 (kr_39_2 hC) ?_
    refine g_iload (pc' := 98) d_291_96 rfl rfl ?_
    obtain ⟨hc21, h⟩ := h
    obtain ⟨x22, hv23, h⟩ := h
    refine gz_lald (pc' := 99) d_291_98 rfl hc21 hv23 ?_
    refine g_aloadn (pc' := 100) d_291_99 rfl rfl ?_
    refine gz_getR (pc' := 103) d_291_100 rfl st_291_13 (kr_39_2 hC) ?_
    refine g_iload (pc' := 105) d_291_103 rfl rfl ?_
    refine g_iconst (pc' := 106) d_291_105 rfl rfl ?_
    refine gz_iadd (pc' := 107) d_291_106 rfl ?_
    obtain ⟨hc24, h⟩ := h
    obtain ⟨x25, hv26, h⟩ := h
    refine gz_lald (pc' := 108) d_291_107 rfl hc24 hv26 ?_
    refine gz_lmul (pc' := 109) d_291_108 rfl ?_
    refine g_aloadn (pc' := 110) d_291_109 rfl rfl ?_
    refine gz_getR (pc' := 113) d_291_110 rfl st_291_13 (kr_39_2 hC) ?_
    refine g_iload (pc' := 115) d_291_113 rfl rfl ?_
    refine g_iconst (pc' := 116) d_291_115 rfl rfl ?_
    refine gz_iadd (pc' := 117) d_291_116 rfl ?_
    obtain ⟨hc27, h⟩ := h
    obtain ⟨x28, hv29, h⟩ := h
    refine gz_lald (pc' := 118) d_291_117 rfl hc27 hv29 ?_
    refine gz_ladd (pc' := 119) d_291_118 rfl ?_
    refine gz_lmul (pc' := 120) d_291_119 rfl ?_
    refine g_ldc2 (pc' := 123) d_291_120 rfl st_291_351 rfl ?_
    refine g_aloadn (pc' := 124) d_291_123 rfl rfl ?_
    refine gz_getR (pc' := 127) d_291_124 rfl st_291_13 (kr_39_2 hC) ?_
    refine g_iload (pc' := 129) d_291_127 rfl rfl ?_
    refine g_iconst (pc' := 130) d_291_129 rfl rfl ?_
    refine gz_iadd (pc' := 131) d_291_130 rfl ?_
    obtain ⟨hc30, h⟩ := h
    obtain ⟨x31, hv32, h⟩ := h
    refine gz_lald (pc' := 132) d_291_131 rfl hc30 hv32 ?_
    obtain ⟨hc33, h⟩ := h
    obtain ⟨hc34, h⟩ := h
    obtain ⟨y35, hz36, h⟩ := h
    refine gz_ldiv (pc' := 133) d_291_132 rfl (s64 (z := 2310)) hc33 hc34 hz36 ?_
    refine gz_lmul (pc' := 134) d_291_133 rfl ?_
    refine g_iloadn (pc' := 135) d_291_134 rfl rfl ?_
    obtain ⟨hc37, h⟩ := h
    refine gz_i2l (pc' := 136) d_291_135 rfl hc37 ?_
    refine g_iload (pc' := 138) d_291_136 rfl rfl ?_
    obtain ⟨r41, w38, hk39, hC40, h⟩ := h
    refine g_callS (pc' := 141) d_291_138 rfl st_291_287 (Or.inl rfl) na_268 ml_268 rfl rfl rfl rm_291_268 rfl rfl hk39 ?_
    refine gz_lmul (pc' := 142) d_291_141 rfl ?_
    refine g_iloadn (pc' := 143) d_291_142 rfl rfl ?_
    obtain ⟨hc42, h⟩ := h
    refine gz_i2l (pc' := 144) d_291_143 rfl hc42 ?_
    refine g_iloadn (pc' := 145) d_291_144 rfl rfl ?_
    refine g_iload (pc' := 147) d_291_145 rfl rfl ?_
    refine gz_isub (pc' := 148) d_291_147 rfl ?_
    obtain ⟨r46, w43, hk44, hC45, h⟩ := h
    refine g_callS (pc' := 151) d_291_148 rfl st_291_287 (Or.inl rfl) na_268 ml_268 rfl rfl rfl rm_291_268 rfl rfl hk44 ?_
    refine gz_lmul (pc' := 152) d_291_151 rfl ?_
    refine gz_ladd (pc' := 153) d_291_152 rfl ?_
    have h := h _ rfl
    refine g_lstore (pc' := 155) (l' := [some (.ref 39), some (.int (jI z1)), some (.int (jI z2)), some (.int (jI z3)), some (.int (jI z4)), some (.long (jL (z5 + ((((x19 * ((x22 * x25) + x28)) * y35) * r41) * r46)))), none, some (.int (jI z7)), some (.int (jI (3 * (z1 - z7)))), none, none]) d_291_153 rfl ml_291 rfl rfl ?_
    refine gz_iinc (pc' := 158) (l' := [some (.ref 39), some (.int (jI z1)), some (.int (jI z2)), some (.int (jI z3)), some (.int (jI z4)), some (.long (jL (z5 + ((((x19 * ((x22 * x25) + x28)) * y35) * r41) * r46)))), none, some (.int (jI (z7 + 1))), some (.int (jI (3 * (z1 - z7)))), none, none]) d_291_155 rfl rfl ml_291 rfl rfl ?_
    refine g_goto (pt := 64) d_291_158 (by decide) ?_
    exact xGo.more (xle_s (xle_s (xle_s (xle_s (xle_s (xle_s (xle_n (xle_s (xle_n (xle_n (xle_n xle_0))))))))))) h
theorem Z_292_0 {z1 : Int} {z2 : Int} {z3 : Int} {w : xW} {r : Option Value × xW} (hC : CS w) (h : ∀ w2, w2 = pF w 39 0 (.int (jI 0)) → CS w2 → ∃ (P7 : Prop) (dP8 : Decidable P7) (w4 : xW), xCall 198 [.ref 39, .int (jI z1)] w2 (some (.int (bz P7)), w4) ∧ CS w4 ∧ (¬ P7 → r = (some (.int (jI (-1))), w4)) ∧ (P7 → ∃ (P12 : Prop) (dP13 : Decidable P12) (w9 : xW), xCall 228 [.ref 39, .int (jI z3)] w4 (some (.int (bz P12)), w9) ∧ CS w9 ∧ (¬ P12 → r = (some (.int (jI (-1))), w9)) ∧ (P12 → ∃ (P17 : Prop) (dP18 : Decidable P17) (w14 : xW), xCall 199 [.int (jI z2), .int (jI 0), .int (jI (z3 - 1))] w9 (some (.int (bz P17)), w14) ∧ CS w14 ∧ (P17 → ∃ r22 w19, xCall 293 [.ref 39, .int (jI z1), .int (jI z3)] w14 (some (.int (jI r22)), w19) ∧ CS w19 ∧ in32 r22 ∧ (0 ≤ r22 → ∃ r27 w24, xCall 294 [.ref 39, .int (jI z1), .int (jI z2), .int (jI z3)] w19 (some (.int (jI r27)), w24) ∧ CS w24 ∧ r = (some (.int (jI r27)), w24)) ∧ (r22 < 0 → r = (some (.int (jI r22)), w19))) ∧ (¬ P17 → r = (some (.int (jI (-1))), w14))))) : xGo 292 0 [some (.ref 39), some (.int (jI z1)), some (.int (jI z2)), some (.int (jI z3)), none] [] w r := by
  refine g_aloadn (pc' := 1) d_292_0 rfl rfl ?_
  refine g_iconst (pc' := 2) d_292_1 rfl rfl ?_
  have hpf1 := (kf_39_0 hC)
  have hC3 : CS (pF w 39 0 (.int (jI 0))) := ks_39_0 hC
  have h := h _ rfl hC3
  refine gz_putf (pc' := 5) d_292_2 rfl st_292_118 ft_12_0 ff_12_0 rfl (Or.inl rfl) hpf1 ?_
  refine g_aloadn (pc' := 6) d_292_5 rfl rfl ?_
  refine g_iloadn (pc' := 7) d_292_6 rfl rfl ?_
  obtain ⟨P7, dP8, w4, hk5, hC6, h⟩ := h
  refine gz_callV (pc' := 10) d_292_7 rfl st_292_145 na_198 ml_198 rfl rfl rfl rm_292_198 rfl rfl ow_198 (ko_39 hC3) hk5 ?_
  refine gz_bt_eq (pc' := 13) (pt := 32) d_292_10 (by decide) rfl (fun c => ?_) (fun c => ?_)
  · replace h := h.1 c
    refine g_iconst (pc' := 33) d_292_32 rfl rfl ?_
    exact g_iret d_292_33 rt_292 h
  · replace h := h.2 c
    refine g_aloadn (pc' := 14) d_292_13 rfl rfl ?_
    refine g_iloadn (pc' := 15) d_292_14 rfl rfl ?_
    obtain ⟨P12, dP13, w9, hk10, hC11, h⟩ := h
    refine gz_callV (pc' := 18) d_292_15 rfl st_292_185 na_228 ml_228 rfl rfl rfl rm_292_228 rfl rfl ow_228 (ko_39 hC6) hk10 ?_
    refine gz_bt_eq (pc' := 21) (pt := 32) d_292_18 (by decide) rfl (fun c => ?_) (fun c => ?_)
    · replace h := h.1 c
      refine g_iconst (pc' := 33) d_292_32 rfl rfl ?_
      exact g_iret d_292_33 rt_292 h
    · replace h := h.2 c
      refine g_iloadn (pc' := 22) d_292_21 rfl rfl ?_
      refine g_iconst (pc' := 23) d_292_22 rfl rfl ?_
      refine g_iloadn (pc' := 24) d_292_23 rfl rfl ?_
      refine g_iconst (pc' := 25) d_292_24 rfl rfl ?_
      refine gz_isub (pc' := 26) d_292_25 rfl ?_
      obtain ⟨P17, dP18, w14, hk15, hC16, h⟩ := h
      refine g_callS (pc' := 29) d_292_26 rfl st_292_137 (Or.inl rfl) na_199 ml_199 rfl rfl rfl rm_292_199 rfl rfl hk15 ?_
      refine gz_bt_ne (pc' := 32) (pt := 34) d_292_29 (by decide) rfl (fun c => ?_) (fun c => ?_)
      · replace h := h.1 c
        refine g_aloadn (pc' := 35) d_292_34 rfl rfl ?_
        refine g_iloadn (pc' := 36) d_292_35 rfl rfl ?_
        refine g_iloadn (pc' := 37) d_292_36 rfl rfl ?_
        obtain ⟨r22, w19, hk20, hC21, h⟩ := h
        refine gz_callV (pc' := 40) d_292_37 rfl st_292_353 na_293 ml_293 rfl rfl rfl rm_292_293 rfl rfl ow_293 (ko_39 hC16) hk20 ?_
        refine g_istore (pc' := 42) (l' := [some (.ref 39), some (.int (jI z1)), some (.int (jI z2)), some (.int (jI z3)), some (.int (jI r22))]) d_292_40 rfl ml_292 rfl rfl ?_
        refine g_iload (pc' := 44) d_292_42 rfl rfl ?_
        obtain ⟨hc23, h⟩ := h
        refine gz_if_ge (pc' := 47) (pt := 52) d_292_44 (by decide) rfl hc23 (fun c => ?_) (fun c => ?_)
        · replace h := h.1 c
          refine g_aloadn (pc' := 53) d_292_52 rfl rfl ?_
          refine g_iloadn (pc' := 54) d_292_53 rfl rfl ?_
          refine g_iloadn (pc' := 55) d_292_54 rfl rfl ?_
          refine g_iloadn (pc' := 56) d_292_55 rfl rfl ?_
          obtain ⟨r27, w24, hk25, hC26, h⟩ := h
          refine gz_callV (pc' := 59) d_292_56 rfl st_292_356 na_294 ml_294 rfl rfl rfl rm_292_294 rfl rfl ow_294 (ko_39 hC21) hk25 ?_
          exact g_iret d_292_59 rt_292 h
        · replace h := h.2 c
          refine g_iload (pc' := 49) d_292_47 rfl rfl ?_
          refine g_goto (pt := 59) d_292_49 (by decide) ?_
          exact g_iret d_292_59 rt_292 h
      · replace h := h.2 c
        refine g_iconst (pc' := 33) d_292_32 rfl rfl ?_
        exact g_iret d_292_33 rt_292 h
theorem Z_292 {z1 : Int} {z2 : Int} {z3 : Int} {w : xW} {r : Option Value × xW} (hC : CS w) (h : ∀ w2, w2 = pF w 39 0 (.int (jI 0)) → CS w2 → ∃ (P7 : Prop) (dP8 : Decidable P7) (w4 : xW), xCall 198 [.ref 39, .int (jI z1)] w2 (some (.int (bz P7)), w4) ∧ CS w4 ∧ (¬ P7 → r = (some (.int (jI (-1))), w4)) ∧ (P7 → ∃ (P12 : Prop) (dP13 : Decidable P12) (w9 : xW), xCall 228 [.ref 39, .int (jI z3)] w4 (some (.int (bz P12)), w9) ∧ CS w9 ∧ (¬ P12 → r = (some (.int (jI (-1))), w9)) ∧ (P12 → ∃ (P17 : Prop) (dP18 : Decidable P17) (w14 : xW), xCall 199 [.int (jI z2), .int (jI 0), .int (jI (z3 - 1))] w9 (some (.int (bz P17)), w14) ∧ CS w14 ∧ (P17 → ∃ r22 w19, xCall 293 [.ref 39, .int (jI z1), .int (jI z3)] w14 (some (.int (jI r22)), w19) ∧ CS w19 ∧ in32 r22 ∧ (0 ≤ r22 → ∃ r27 w24, xCall 294 [.ref 39, .int (jI z1), .int (jI z2), .int (jI z3)] w19 (some (.int (jI r27)), w24) ∧ CS w24 ∧ r = (some (.int (jI r27)), w24)) ∧ (r22 < 0 → r = (some (.int (jI r22)), w19))) ∧ (¬ P17 → r = (some (.int (jI (-1))), w14))))) : xCall 292 [.ref 39, .int (jI z1), .int (jI z2), .int (jI z3)] w r := E_292 (Z_292_0 hC h)
theorem Z_293_0 {z1 : Int} {z2 : Int} {w : xW} {r : Option Value × xW} (hC : CS w) (h : ∃ x1, fI w 39 12 4 x1 ∧ in32 z1 ∧ in32 x1 ∧ (z1 ≤ x1 → xGo 293 13 [some (.ref 39), some (.int (jI z1)), some (.int (jI z2)), some (.int (jI 0)), none] [] w r) ∧ (x1 < z1 → r = (some (.int (jI (-2))), w))) : xGo 293 0 [some (.ref 39), some (.int (jI z1)), some (.int (jI z2)), none, none] [] w r := by
  refine g_iloadn (pc' := 1) d_293_0 rfl rfl ?_
  refine g_aloadn (pc' := 2) d_293_1 rfl rfl ?_
  obtain ⟨x1, hv2, h⟩ := h
  refine gz_getI (pc' := 5) d_293_2 rfl st_293_20 hv2 ?_
  obtain ⟨hc3, h⟩ := h
  obtain ⟨hc4, h⟩ := h
  refine gz_ic_le (pc' := 8) (pt := 11) d_293_5 (by decide) rfl hc3 hc4 (fun c => ?_) (fun c => ?_)
  · replace h := h.1 c
    refine g_iconst (pc' := 12) d_293_11 rfl rfl ?_
    refine g_istoren (pc' := 13) (l' := [some (.ref 39), some (.int (jI z1)), some (.int (jI z2)), some (.int (jI 0)), none]) d_293_12 rfl ml_293 rfl rfl ?_
    exact h
  · replace h := h.2 c
    refine g_bipush (pc' := 10) (v := jI (-2)) d_293_8 rfl (by decide) ?_
    exact g_iret d_293_10 rt_293 h
theorem Z_293 {z1 : Int} {z2 : Int} {w : xW} {r : Option Value × xW} (hC : CS w) (h : ∃ x1, fI w 39 12 4 x1 ∧ in32 z1 ∧ in32 x1 ∧ (z1 ≤ x1 → xGo 293 13 [some (.ref 39), some (.int (jI z1)), some (.int (jI z2)), some (.int (jI 0)), none] [] w r) ∧ (x1 < z1 → r = (some (.int (jI (-2))), w))) : xCall 293 [.ref 39, .int (jI z1), .int (jI z2)] w r := E_293 (Z_293_0 hC h)
theorem Z_293_13 {z1 : Int} {z2 : Int} {z3 : Int} {w : xW} {r : Option Value × xW} (hC : CS w) (h : in32 z3 ∧ in32 z1 ∧ (z1 < z3 → r = (some (.int (jI 0)), w)) ∧ (z3 ≤ z1 → ∃ r6 w3, xCall 214 [.ref 39, .ref 41, .int (jI (z1 - z3)), .int (jI z2)] w (some (.int (jI r6)), w3) ∧ CS w3 ∧ in32 r6 ∧ (0 ≤ r6 → 0 ≤ (40 * z1) + z3 ∧ ∃ x9, rL w3 43 ((40 * z1) + z3).toNat x9 ∧ ∃ r14 w11, xCall 215 [.long (jL x9), .int (jI z2)] w3 (some (.int (jI r14)), w11) ∧ CS w11 ∧ in32 r14 ∧ ∃ r19 w16, xCall 215 [.long (jL (r6 * r14)), .int (jI z2)] w11 (some (.int (jI r19)), w16) ∧ CS w16 ∧ (0 ≤ z3 ∧ z3 < 39) ∧ ∀ w22, w22 = pI w16 63 (z3).toNat (jI r19) → CS w22 → xGo 293 13 [some (.ref 39), some (.int (jI z1)), some (.int (jI z2)), some (.int (jI (z3 + 1))), none] [] w22 r) ∧ (r6 < 0 → r = (some (.int (jI (-3))), w3)))) : xGo 293 13 [some (.ref 39), some (.int (jI z1)), some (.int (jI z2)), some (.int (jI z3)), none] [] w r := by
  refine g_iloadn (pc' := 14) d_293_13 rfl rfl ?_
  refine g_iloadn (pc' := 15) d_293_14 rfl rfl ?_
  obtain ⟨hc1, h⟩ := h
  obtain ⟨hc2, h⟩ := h
  refine gz_ic_gt (pc' := 18) (pt := 76) d_293_15 (by decide) rfl hc1 hc2 (fun c => ?_) (fun c => ?_)
  · replace h := h.1 c
    refine g_iconst (pc' := 77) d_293_76 rfl rfl ?_
    exact g_iret d_293_77 rt_293 h
  · replace h := h.2 c
    refine g_aloadn (pc' := 19) d_293_18 rfl rfl ?_
    refine g_aloadn (pc' := 20) d_293_19 rfl rfl ?_
    refine gz_getR (pc' := 23) d_293_20 rfl st_293_13 (kr_39_2 hC) ?_
    refine g_iloadn (pc' := 24) d_293_23 rfl rfl ?_
    refine g_iloadn (pc' := 25) d_293_24 rfl rfl ?_
    refine gz_isub (pc' := 26) d_293_25 rfl ?_
    refine g_iloadn (pc' := 27) d_293_26 rfl rfl ?_
    obtain ⟨r6, w3, hk4, hC5, h⟩ := h
    refine gz_callV (pc' := 30) d_293_27 rfl st_293_188 na_214 ml_214 rfl rfl rfl rm_293_214 rfl rfl ow_214 (ko_39 hC) hk4 ?_
    refine g_istore (pc' := 32) (l' := [some (.ref 39), some (.int (jI z1)), some (.int (jI z2)), some (.int (jI z3)), some (.int (jI r6))]) d_293_30 rfl ml_293 rfl rfl ?_
    refine g_iload (pc' := 34) d_293_32 rfl rfl ?_
    obtain ⟨hc7, h⟩ := h
    refine gz_if_ge (pc' := 37) (pt := 40) d_293_34 (by decide) rfl hc7 (fun c => ?_) (fun c => ?_)
    · replace h := h.1 c
      refine g_aloadn (pc' := 41) d_293_40 rfl rfl ?_
      refine gz_getR (pc' := 44) d_293_41 rfl st_293_84 (kr_39_30 hC5) ?_
      refine g_iloadn (pc' := 45) d_293_44 rfl rfl ?_
      refine g_iload (pc' := 47) d_293_45 rfl rfl ?_
      refine gz_i2l (pc' := 48) d_293_47 rfl hc7 ?_
      refine g_aloadn (pc' := 49) d_293_48 rfl rfl ?_
      refine gz_getR (pc' := 52) d_293_49 rfl st_293_24 (kr_39_5 hC5) ?_
      refine g_bipush (pc' := 54) (v := jI 40) d_293_52 rfl (by decide) ?_
      refine g_iloadn (pc' := 55) d_293_54 rfl rfl ?_
      refine gz_imul (pc' := 56) d_293_55 rfl ?_
      refine g_iloadn (pc' := 57) d_293_56 rfl rfl ?_
      refine gz_iadd (pc' := 58) d_293_57 rfl ?_
      obtain ⟨hc8, h⟩ := h
      obtain ⟨x9, hv10, h⟩ := h
      refine gz_lald (pc' := 59) d_293_58 rfl hc8 hv10 ?_
      refine g_iloadn (pc' := 60) d_293_59 rfl rfl ?_
      obtain ⟨r14, w11, hk12, hC13, h⟩ := h
      refine g_callS (pc' := 63) d_293_60 rfl st_293_170 (Or.inl rfl) na_215 ml_215 rfl rfl rfl rm_293_215 rfl rfl hk12 ?_
      obtain ⟨hc15, h⟩ := h
      refine gz_i2l (pc' := 64) d_293_63 rfl hc15 ?_
      refine gz_lmul (pc' := 65) d_293_64 rfl ?_
      refine g_iloadn (pc' := 66) d_293_65 rfl rfl ?_
      obtain ⟨r19, w16, hk17, hC18, h⟩ := h
      refine g_callS (pc' := 69) d_293_66 rfl st_293_170 (Or.inl rfl) na_215 ml_215 rfl rfl rfl rm_293_215 rfl rfl hk17 ?_
      obtain ⟨hc20, h⟩ := h
      have hs21 := (kh_63 hC18 hc20)
      have hC23 : CS (pI w16 63 (z3).toNat (jI r19)) := hC18.putI
      have h := h _ rfl hC23
      refine gz_iast (pc' := 70) d_293_69 rfl hs21 ?_
      refine gz_iinc (pc' := 73) (l' := [some (.ref 39), some (.int (jI z1)), some (.int (jI z2)), some (.int (jI (z3 + 1))), some (.int (jI r6))]) d_293_70 rfl rfl ml_293 rfl rfl ?_
      refine g_goto (pt := 13) d_293_73 (by decide) ?_
      exact xGo.more (xle_s (xle_s (xle_s (xle_s (xle_n xle_0))))) h
    · replace h := h.2 c
      refine g_bipush (pc' := 39) (v := jI (-3)) d_293_37 rfl (by decide) ?_
      exact g_iret d_293_39 rt_293 h
theorem Z_294_0 {z1 : Int} {z2 : Int} {z3 : Int} {w : xW} {r : Option Value × xW} (hC : CS w) (h : xGo 294 6 [some (.ref 39), some (.int (jI z1)), some (.int (jI z2)), some (.int (jI z3)), some (.int (jI 0)), some (.int (jI z1))] [] w r) : xGo 294 0 [some (.ref 39), some (.int (jI z1)), some (.int (jI z2)), some (.int (jI z3)), none, none] [] w r := by
  refine g_iconst (pc' := 1) d_294_0 rfl rfl ?_
  refine g_istore (pc' := 3) (l' := [some (.ref 39), some (.int (jI z1)), some (.int (jI z2)), some (.int (jI z3)), some (.int (jI 0)), none]) d_294_1 rfl ml_294 rfl rfl ?_
  refine g_iloadn (pc' := 4) d_294_3 rfl rfl ?_
  refine g_istore (pc' := 6) (l' := [some (.ref 39), some (.int (jI z1)), some (.int (jI z2)), some (.int (jI z3)), some (.int (jI 0)), some (.int (jI z1))]) d_294_4 rfl ml_294 rfl rfl ?_
  exact h
theorem Z_294 {z1 : Int} {z2 : Int} {z3 : Int} {w : xW} {r : Option Value × xW} (hC : CS w) (h : xGo 294 6 [some (.ref 39), some (.int (jI z1)), some (.int (jI z2)), some (.int (jI z3)), some (.int (jI 0)), some (.int (jI z1))] [] w r) : xCall 294 [.ref 39, .int (jI z1), .int (jI z2), .int (jI z3)] w r := E_294 (Z_294_0 hC h)
theorem Z_294_6 {z1 : Int} {z2 : Int} {z3 : Int} {z4 : Int} {z5 : Int} {w : xW} {r : Option Value × xW} (hC : CS w) (h : in32 z5 ∧ (z5 < 0 → r = (some (.int (jI z4)), w)) ∧ (0 ≤ z5 → 0 ≤ z5 ∧ ∃ x3, rI w 63 (z5).toNat x3 ∧ in32 ((z4 * z2) + x3) ∧ in32 z3 ∧ z3 ≠ 0 ∧ ∃ y8, Int.tmod ((z4 * z2) + x3) z3 = y8 ∧ xGo 294 6 [some (.ref 39), some (.int (jI z1)), some (.int (jI z2)), some (.int (jI z3)), some (.int (jI y8)), some (.int (jI (z5 - 1)))] [] w r)) : xGo 294 6 [some (.ref 39), some (.int (jI z1)), some (.int (jI z2)), some (.int (jI z3)), some (.int (jI z4)), some (.int (jI z5))] [] w r := by
  refine g_iload (pc' := 8) d_294_6 rfl rfl ?_
  obtain ⟨hc1, h⟩ := h
  refine gz_if_lt (pc' := 11) (pt := 33) d_294_8 (by decide) rfl hc1 (fun c => ?_) (fun c => ?_)
  · replace h := h.1 c
    refine g_iload (pc' := 35) d_294_33 rfl rfl ?_
    exact g_iret d_294_35 rt_294 h
  · replace h := h.2 c
    refine g_iload (pc' := 13) d_294_11 rfl rfl ?_
    refine g_iloadn (pc' := 14) d_294_13 rfl rfl ?_
    refine gz_imul (pc' := 15) d_294_14 rfl ?_
    refine g_aloadn (pc' := 16) d_294_15 rfl rfl ?_
    refine gz_getR (pc' := 19) d_294_16 rfl st_294_84 (kr_39_30 hC) ?_
    refine g_iload (pc' := 21) d_294_19 rfl rfl ?_
    obtain ⟨hc2, h⟩ := h
    obtain ⟨x3, hv4, h⟩ := h
    refine gz_iald (pc' := 22) d_294_21 rfl hc2 hv4 ?_
    refine gz_iadd (pc' := 23) d_294_22 rfl ?_
    refine g_iloadn (pc' := 24) d_294_23 rfl rfl ?_
    obtain ⟨hc5, h⟩ := h
    obtain ⟨hc6, h⟩ := h
    obtain ⟨hc7, h⟩ := h
    obtain ⟨y8, hz9, h⟩ := h
    refine gz_irem (pc' := 25) d_294_24 rfl hc5 hc6 hc7 hz9 ?_
    refine g_istore (pc' := 27) (l' := [some (.ref 39), some (.int (jI z1)), some (.int (jI z2)), some (.int (jI z3)), some (.int (jI y8)), some (.int (jI z5))]) d_294_25 rfl ml_294 rfl rfl ?_
    refine gz_idec (pc' := 30) (c := 1) (l' := [some (.ref 39), some (.int (jI z1)), some (.int (jI z2)), some (.int (jI z3)), some (.int (jI y8)), some (.int (jI (z5 - 1)))]) d_294_27 rfl rfl ml_294 rfl rfl ?_
    refine g_goto (pt := 6) d_294_30 (by decide) ?_
    exact h
theorem Z_295_0 {z1 : Int} {z2 : Int} {w : xW} {r : Option Value × xW} (hC : CS w) (h : ∀ w2, w2 = pF w 39 0 (.int (jI 0)) → CS w2 → ∃ (P7 : Prop) (dP8 : Decidable P7) (w4 : xW), xCall 198 [.ref 39, .int (jI z1)] w2 (some (.int (bz P7)), w4) ∧ CS w4 ∧ (¬ P7 → r = (some (.int (jI (-1))), w4)) ∧ (P7 → ∃ (P12 : Prop) (dP13 : Decidable P12) (w9 : xW), xCall 228 [.ref 39, .int (jI z2)] w4 (some (.int (bz P12)), w9) ∧ CS w9 ∧ (P12 → ∃ r17 w14, xCall 293 [.ref 39, .int (jI z1), .int (jI z2)] w9 (some (.int (jI r17)), w14) ∧ CS w14 ∧ in32 r17 ∧ (0 ≤ r17 → xGo 295 42 [some (.ref 39), some (.int (jI z1)), some (.int (jI z2)), some (.int (jI r17)), some (.int (jI 0)), some (.int (jI 0))] [] w14 r) ∧ (r17 < 0 → r = (some (.int (jI r17)), w14))) ∧ (¬ P12 → r = (some (.int (jI (-1))), w9)))) : xGo 295 0 [some (.ref 39), some (.int (jI z1)), some (.int (jI z2)), none, none, none] [] w r := by
  refine g_aloadn (pc' := 1) d_295_0 rfl rfl ?_
  refine g_iconst (pc' := 2) d_295_1 rfl rfl ?_
  have hpf1 := (kf_39_0 hC)
  have hC3 : CS (pF w 39 0 (.int (jI 0))) := ks_39_0 hC
  have h := h _ rfl hC3
  refine gz_putf (pc' := 5) d_295_2 rfl st_295_118 ft_12_0 ff_12_0 rfl (Or.inl rfl) hpf1 ?_
  refine g_aloadn (pc' := 6) d_295_5 rfl rfl ?_
  refine g_iloadn (pc' := 7) d_295_6 rfl rfl ?_
  obtain ⟨P7, dP8, w4, hk5, hC6, h⟩ := h
  refine gz_callV (pc' := 10) d_295_7 rfl st_295_145 na_198 ml_198 rfl rfl rfl rm_295_198 rfl rfl ow_198 (ko_39 hC3) hk5 ?_
  refine gz_bt_eq (pc' := 13) (pt := 21) d_295_10 (by decide) rfl (fun c => ?_) (fun c => ?_)
  · replace h := h.1 c
    refine g_iconst (pc' := 22) d_295_21 rfl rfl ?_
    exact g_iret d_295_22 rt_295 h
  · replace h := h.2 c
    refine g_aloadn (pc' := 14) d_295_13 rfl rfl ?_
    refine g_iloadn (pc' := 15) d_295_14 rfl rfl ?_
    obtain ⟨P12, dP13, w9, hk10, hC11, h⟩ := h
    refine gz_callV (pc' := 18) d_295_15 rfl st_295_185 na_228 ml_228 rfl rfl rfl rm_295_228 rfl rfl ow_228 (ko_39 hC6) hk10 ?_
    refine gz_bt_ne (pc' := 21) (pt := 23) d_295_18 (by decide) rfl (fun c => ?_) (fun c => ?_)
    · replace h := h.1 c
      refine g_aloadn (pc' := 24) d_295_23 rfl rfl ?_
      refine g_iloadn (pc' := 25) d_295_24 rfl rfl ?_
      refine g_iloadn (pc' := 26) d_295_25 rfl rfl ?_
      obtain ⟨r17, w14, hk15, hC16, h⟩ := h
      refine gz_callV (pc' := 29) d_295_26 rfl st_295_353 na_293 ml_293 rfl rfl rfl rm_295_293 rfl rfl ow_293 (ko_39 hC11) hk15 ?_
      refine g_istoren (pc' := 30) (l' := [some (.ref 39), some (.int (jI z1)), some (.int (jI z2)), some (.int (jI r17)), none, none]) d_295_29 rfl ml_295 rfl rfl ?_
      refine g_iloadn (pc' := 31) d_295_30 rfl rfl ?_
      obtain ⟨hc18, h⟩ := h
      refine gz_if_ge (pc' := 34) (pt := 36) d_295_31 (by decide) rfl hc18 (fun c => ?_) (fun c => ?_)
      · replace h := h.1 c
        refine g_iconst (pc' := 37) d_295_36 rfl rfl ?_
        refine g_istore (pc' := 39) (l' := [some (.ref 39), some (.int (jI z1)), some (.int (jI z2)), some (.int (jI r17)), some (.int (jI 0)), none]) d_295_37 rfl ml_295 rfl rfl ?_
        refine g_iconst (pc' := 40) d_295_39 rfl rfl ?_
        refine g_istore (pc' := 42) (l' := [some (.ref 39), some (.int (jI z1)), some (.int (jI z2)), some (.int (jI r17)), some (.int (jI 0)), some (.int (jI 0))]) d_295_40 rfl ml_295 rfl rfl ?_
        exact h
      · replace h := h.2 c
        refine g_iloadn (pc' := 35) d_295_34 rfl rfl ?_
        exact g_iret d_295_35 rt_295 h
    · replace h := h.2 c
      refine g_iconst (pc' := 22) d_295_21 rfl rfl ?_
      exact g_iret d_295_22 rt_295 h
theorem Z_295 {z1 : Int} {z2 : Int} {w : xW} {r : Option Value × xW} (hC : CS w) (h : ∀ w2, w2 = pF w 39 0 (.int (jI 0)) → CS w2 → ∃ (P7 : Prop) (dP8 : Decidable P7) (w4 : xW), xCall 198 [.ref 39, .int (jI z1)] w2 (some (.int (bz P7)), w4) ∧ CS w4 ∧ (¬ P7 → r = (some (.int (jI (-1))), w4)) ∧ (P7 → ∃ (P12 : Prop) (dP13 : Decidable P12) (w9 : xW), xCall 228 [.ref 39, .int (jI z2)] w4 (some (.int (bz P12)), w9) ∧ CS w9 ∧ (P12 → ∃ r17 w14, xCall 293 [.ref 39, .int (jI z1), .int (jI z2)] w9 (some (.int (jI r17)), w14) ∧ CS w14 ∧ in32 r17 ∧ (0 ≤ r17 → xGo 295 42 [some (.ref 39), some (.int (jI z1)), some (.int (jI z2)), some (.int (jI r17)), some (.int (jI 0)), some (.int (jI 0))] [] w14 r) ∧ (r17 < 0 → r = (some (.int (jI r17)), w14))) ∧ (¬ P12 → r = (some (.int (jI (-1))), w9)))) : xCall 295 [.ref 39, .int (jI z1), .int (jI z2)] w r := E_295 (Z_295_0 hC h)
theorem Z_295_42 {z1 : Int} {z2 : Int} {z3 : Int} {z4 : Int} {z5 : Int} {w : xW} {r : Option Value × xW} (hC : CS w) (h : in32 z5 ∧ in32 z2 ∧ (z2 ≤ z5 → r = (some (.int (jI z4)), w)) ∧ (z5 < z2 → ∃ r6 w3, xCall 294 [.ref 39, .int (jI z1), .int (jI z5), .int (jI z2)] w (some (.int (jI r6)), w3) ∧ CS w3 ∧ in32 r6 ∧ (r6 ≠ 0 → xGo 295 42 [some (.ref 39), some (.int (jI z1)), some (.int (jI z2)), some (.int (jI z3)), some (.int (jI (z4 + 0))), some (.int (jI (z5 + 1)))] [] w3 r) ∧ (r6 = 0 → xGo 295 42 [some (.ref 39), some (.int (jI z1)), some (.int (jI z2)), some (.int (jI z3)), some (.int (jI (z4 + 1))), some (.int (jI (z5 + 1)))] [] w3 r))) : xGo 295 42 [some (.ref 39), some (.int (jI z1)), some (.int (jI z2)), some (.int (jI z3)), some (.int (jI z4)), some (.int (jI z5))] [] w r := by
  refine g_iload (pc' := 44) d_295_42 rfl rfl ?_
  refine g_iloadn (pc' := 45) d_295_44 rfl rfl ?_
  obtain ⟨hc1, h⟩ := h
  obtain ⟨hc2, h⟩ := h
  refine gz_ic_ge (pc' := 48) (pt := 75) d_295_45 (by decide) rfl hc1 hc2 (fun c => ?_) (fun c => ?_)
  · replace h := h.1 c
    refine g_iload (pc' := 77) d_295_75 rfl rfl ?_
    exact g_iret d_295_77 rt_295 h
  · replace h := h.2 c
    refine g_iload (pc' := 50) d_295_48 rfl rfl ?_
    refine g_aloadn (pc' := 51) d_295_50 rfl rfl ?_
    refine g_iloadn (pc' := 52) d_295_51 rfl rfl ?_
    refine g_iload (pc' := 54) d_295_52 rfl rfl ?_
    refine g_iloadn (pc' := 55) d_295_54 rfl rfl ?_
    obtain ⟨r6, w3, hk4, hC5, h⟩ := h
    refine gz_callV (pc' := 58) d_295_55 rfl st_295_356 na_294 ml_294 rfl rfl rfl rm_295_294 rfl rfl ow_294 (ko_39 hC) hk4 ?_
    obtain ⟨hc7, h⟩ := h
    refine gz_if_ne (pc' := 61) (pt := 65) d_295_58 (by decide) rfl hc7 (fun c => ?_) (fun c => ?_)
    · replace h := h.1 c
      refine g_iconst (pc' := 66) d_295_65 rfl rfl ?_
      refine gz_iadd (pc' := 67) d_295_66 rfl ?_
      refine g_istore (pc' := 69) (l' := [some (.ref 39), some (.int (jI z1)), some (.int (jI z2)), some (.int (jI z3)), some (.int (jI (z4 + 0))), some (.int (jI z5))]) d_295_67 rfl ml_295 rfl rfl ?_
      refine gz_iinc (pc' := 72) (l' := [some (.ref 39), some (.int (jI z1)), some (.int (jI z2)), some (.int (jI z3)), some (.int (jI (z4 + 0))), some (.int (jI (z5 + 1)))]) d_295_69 rfl rfl ml_295 rfl rfl ?_
      refine g_goto (pt := 42) d_295_72 (by decide) ?_
      exact h
    · replace h := h.2 c
      refine g_iconst (pc' := 62) d_295_61 rfl rfl ?_
      refine g_goto (pt := 66) d_295_62 (by decide) ?_
      refine gz_iadd (pc' := 67) d_295_66 rfl ?_
      refine g_istore (pc' := 69) (l' := [some (.ref 39), some (.int (jI z1)), some (.int (jI z2)), some (.int (jI z3)), some (.int (jI (z4 + 1))), some (.int (jI z5))]) d_295_67 rfl ml_295 rfl rfl ?_
      refine gz_iinc (pc' := 72) (l' := [some (.ref 39), some (.int (jI z1)), some (.int (jI z2)), some (.int (jI z3)), some (.int (jI (z4 + 1))), some (.int (jI (z5 + 1)))]) d_295_69 rfl rfl ml_295 rfl rfl ?_
      refine g_goto (pt := 42) d_295_72 (by decide) ?_
      exact h
theorem Z_296_0 {z1 : Int} {z2 : Int} {w : xW} {r : Option Value × xW} (hC : CS w) (h : ∀ w2, w2 = pF w 39 0 (.int (jI 0)) → CS w2 → ∃ (P7 : Prop) (dP8 : Decidable P7) (w4 : xW), xCall 199 [.int (jI z1), .int (jI 0), .int (jI 37)] w2 (some (.int (bz P7)), w4) ∧ CS w4 ∧ (¬ P7 → r = (some (.long (jL (-9223372036854775808))), w4)) ∧ (P7 → ∃ (P12 : Prop) (dP13 : Decidable P12) (w9 : xW), xCall 199 [.int (jI z2), .int (jI 0), .int (jI 2)] w4 (some (.int (bz P12)), w9) ∧ CS w9 ∧ (¬ P12 → r = (some (.long (jL (-9223372036854775808))), w9)) ∧ (P12 → ∃ x14, fI w9 39 12 4 x14 ∧ in32 (z1 + 1) ∧ in32 x14 ∧ (z1 + 1 ≤ x14 → in32 z1 ∧ (z1 ≠ 0 → 0 ≤ 3 * (z1 + 1) ∧ ∃ x20, rL w9 41 (3 * (z1 + 1)).toNat x20 ∧ 0 ≤ (3 * (z1 + 1)) + 1 ∧ ∃ x23, rL w9 41 ((3 * (z1 + 1)) + 1).toNat x23 ∧ 0 ≤ (3 * (z1 + 1)) + 2 ∧ ∃ x26, rL w9 41 ((3 * (z1 + 1)) + 2).toNat x26 ∧ in64 (-x23) ∧ (0 ≤ -x23 → ∃ r32 w29, xCall 193 [.long (jL (-x20)), .long (jL (z1 + 1))] w9 (some (.long (jL r32)), w29) ∧ CS w29 ∧ ∃ w33, xCall 194 [.ref 39, .ref 62, .int (jI 0), .long (jL r32), .long (jL ((((-x20) - (r32 * (z1 + 1))) * x26) + (-x23))), .long (jL (x26 * (z1 + 1)))] w29 (none, w33) ∧ CS w33 ∧ 0 ≤ z2 ∧ ∃ x37, rL w33 62 (z2).toNat x37 ∧ r = (some (.long (jL x37)), w33)) ∧ (-x23 < 0 → ∃ r42 w39, xCall 193 [.long (jL ((-x20) - 1)), .long (jL (z1 + 1))] w9 (some (.long (jL r42)), w39) ∧ CS w39 ∧ ∃ w43, xCall 194 [.ref 39, .ref 62, .int (jI 0), .long (jL r42), .long (jL (((((-x20) - 1) - (r42 * (z1 + 1))) * x26) + ((-x23) + x26))), .long (jL (x26 * (z1 + 1)))] w39 (none, w43) ∧ CS w43 ∧ 0 ≤ z2 ∧ ∃ x47, rL w43 62 (z2).toNat x47 ∧ r = (some (.long (jL x47)), w43))) ∧ (z1 = 0 → 0 ≤ (3 * (z1 + 1)) + z2 ∧ ∃ x50, rL w9 41 ((3 * (z1 + 1)) + z2).toNat x50 ∧ r = (some (.long (jL x50)), w9))) ∧ (x14 < z1 + 1 → r = (some (.long (jL (-9223372036854775808))), w9))))) : xGo 296 0 [some (.ref 39), some (.int (jI z1)), some (.int (jI z2)), none, none, none, none, none, none, none, none, none] [] w r := by
  refine g_aloadn (pc' := 1) d_296_0 rfl rfl ?_
  refine g_iconst (pc' := 2) d_296_1 rfl rfl ?_
  have hpf1 := (kf_39_0 hC)
  have hC3 : CS (pF w 39 0 (.int (jI 0))) := ks_39_0 hC
  have h := h _ rfl hC3
  refine gz_putf (pc' := 5) d_296_2 rfl st_296_118 ft_12_0 ff_12_0 rfl (Or.inl rfl) hpf1 ?_
  refine g_iloadn (pc' := 6) d_296_5 rfl rfl ?_
  refine g_iconst (pc' := 7) d_296_6 rfl rfl ?_
  refine g_bipush (pc' := 9) (v := jI 37) d_296_7 rfl (by decide) ?_
  obtain ⟨P7, dP8, w4, hk5, hC6, h⟩ := h
  refine g_callS (pc' := 12) d_296_9 rfl st_296_137 (Or.inl rfl) na_199 ml_199 rfl rfl rfl rm_296_199 rfl rfl hk5 ?_
  refine gz_bt_eq (pc' := 15) (pt := 34) d_296_12 (by decide) rfl (fun c => ?_) (fun c => ?_)
  · replace h := h.1 c
    refine g_ldc2 (pc' := 37) d_296_34 rfl st_296_166 rfl ?_
    exact g_lret d_296_37 rt_296 h
  · replace h := h.2 c
    refine g_iloadn (pc' := 16) d_296_15 rfl rfl ?_
    refine g_iconst (pc' := 17) d_296_16 rfl rfl ?_
    refine g_iconst (pc' := 18) d_296_17 rfl rfl ?_
    obtain ⟨P12, dP13, w9, hk10, hC11, h⟩ := h
    refine g_callS (pc' := 21) d_296_18 rfl st_296_137 (Or.inl rfl) na_199 ml_199 rfl rfl rfl rm_296_199 rfl rfl hk10 ?_
    refine gz_bt_eq (pc' := 24) (pt := 34) d_296_21 (by decide) rfl (fun c => ?_) (fun c => ?_)
    · replace h := h.1 c
      refine g_ldc2 (pc' := 37) d_296_34 rfl st_296_166 rfl ?_
      exact g_lret d_296_37 rt_296 h
    · replace h := h.2 c
      refine g_iloadn (pc' := 25) d_296_24 rfl rfl ?_
      refine g_iconst (pc' := 26) d_296_25 rfl rfl ?_
      refine gz_iadd (pc' := 27) d_296_26 rfl ?_
      refine g_aloadn (pc' := 28) d_296_27 rfl rfl ?_
      obtain ⟨x14, hv15, h⟩ := h
      refine gz_getI (pc' := 31) d_296_28 rfl st_296_20 hv15 ?_
      obtain ⟨hc16, h⟩ := h
      obtain ⟨hc17, h⟩ := h
      refine gz_ic_le (pc' := 34) (pt := 38) d_296_31 (by decide) rfl hc16 hc17 (fun c => ?_) (fun c => ?_)
      · replace h := h.1 c
        refine g_iconst (pc' := 39) d_296_38 rfl rfl ?_
        refine g_iloadn (pc' := 40) d_296_39 rfl rfl ?_
        refine g_iconst (pc' := 41) d_296_40 rfl rfl ?_
        refine gz_iadd (pc' := 42) d_296_41 rfl ?_
        refine gz_imul (pc' := 43) d_296_42 rfl ?_
        refine g_istoren (pc' := 44) (l' := [some (.ref 39), some (.int (jI z1)), some (.int (jI z2)), some (.int (jI (3 * (z1 + 1)))), none, none, none, none, none, none, none, none]) d_296_43 rfl ml_296 rfl rfl ?_
        refine g_iloadn (pc' := 45) d_296_44 rfl rfl ?_
        obtain ⟨hc18, h⟩ := h
        refine gz_if_ne (pc' := 48) (pt := 57) d_296_45 (by decide) rfl hc18 (fun c => ?_) (fun c => ?_)
        · replace h := h.1 c
          refine g_aloadn (pc' := 58) d_296_57 rfl rfl ?_
          refine gz_getR (pc' := 61) d_296_58 rfl st_296_13 (kr_39_2 hC11) ?_
          refine g_iloadn (pc' := 62) d_296_61 rfl rfl ?_
          obtain ⟨hc19, h⟩ := h
          obtain ⟨x20, hv21, h⟩ := h
          refine gz_lald (pc' := 63) d_296_62 rfl hc19 hv21 ?_
          refine gz_lneg (pc' := 64) d_296_63 rfl ?_
          refine g_lstore (pc' := 66) (l' := [some (.ref 39), some (.int (jI z1)), some (.int (jI z2)), some (.int (jI (3 * (z1 + 1)))), some (.long (jL (-x20))), none, none, none, none, none, none, none]) d_296_64 rfl ml_296 rfl rfl ?_
          refine g_aloadn (pc' := 67) d_296_66 rfl rfl ?_
          refine gz_getR (pc' := 70) d_296_67 rfl st_296_13 (kr_39_2 hC11) ?_
          refine g_iloadn (pc' := 71) d_296_70 rfl rfl ?_
          refine g_iconst (pc' := 72) d_296_71 rfl rfl ?_
          refine gz_iadd (pc' := 73) d_296_72 rfl ?_
          obtain ⟨hc22, h⟩ := h
          obtain ⟨x23, hv24, h⟩ := h
          refine gz_lald (pc' := 74) d_296_73 rfl hc22 hv24 ?_
          refine gz_lneg (pc' := 75) d_296_74 rfl ?_
          refine g_lstore (pc' := 77) (l' := [some (.ref 39), some (.int (jI z1)), some (.int (jI z2)), some (.int (jI (3 * (z1 + 1)))), some (.long (jL (-x20))), none, some (.long (jL (-x23))), none, none, none, none, none]) d_296_75 rfl ml_296 rfl rfl ?_
          refine g_aloadn (pc' := 78) d_296_77 rfl rfl ?_
          refine gz_getR (pc' := 81) d_296_78 rfl st_296_13 (kr_39_2 hC11) ?_
          refine g_iloadn (pc' := 82) d_296_81 rfl rfl ?_
          refine g_iconst (pc' := 83) d_296_82 rfl rfl ?_
          refine gz_iadd (pc' := 84) d_296_83 rfl ?_
          obtain ⟨hc25, h⟩ := h
          obtain ⟨x26, hv27, h⟩ := h
          refine gz_lald (pc' := 85) d_296_84 rfl hc25 hv27 ?_
          refine g_lstore (pc' := 87) (l' := [some (.ref 39), some (.int (jI z1)), some (.int (jI z2)), some (.int (jI (3 * (z1 + 1)))), some (.long (jL (-x20))), none, some (.long (jL (-x23))), none, some (.long (jL x26)), none, none, none]) d_296_85 rfl ml_296 rfl rfl ?_
          refine g_lload (pc' := 89) d_296_87 rfl rfl ?_
          refine g_lconst (pc' := 90) (v := jL 0) d_296_89 rfl cl_0 ?_
          obtain ⟨hc28, h⟩ := h
          refine gz_lc_ge (pc' := 94) (pm := 91) (pt := 107) d_296_90 rfl d_296_91 (by decide) rfl hc28 (s64 (z := 0)) (fun c => ?_) (fun c => ?_)
          · replace h := h.1 c
            refine g_lload (pc' := 109) d_296_107 rfl rfl ?_
            refine g_iloadn (pc' := 110) d_296_109 rfl rfl ?_
            refine g_iconst (pc' := 111) d_296_110 rfl rfl ?_
            refine gz_iadd (pc' := 112) d_296_111 rfl ?_
            refine gz_i2l (pc' := 113) d_296_112 rfl hc16 ?_
            obtain ⟨r32, w29, hk30, hC31, h⟩ := h
            refine g_callS (pc' := 116) d_296_113 rfl st_296_131 (Or.inl rfl) na_193 ml_193 rfl rfl rfl rm_296_193 rfl rfl hk30 ?_
            refine g_lstore (pc' := 118) (l' := [some (.ref 39), some (.int (jI z1)), some (.int (jI z2)), some (.int (jI (3 * (z1 + 1)))), some (.long (jL (-x20))), none, some (.long (jL (-x23))), none, some (.long (jL x26)), none, some (.long (jL r32)), none]) d_296_116 rfl ml_296 rfl rfl ?_
            refine g_aloadn (pc' := 119) d_296_118 rfl rfl ?_
            refine g_aloadn (pc' := 120) d_296_119 rfl rfl ?_
            refine gz_getR (pc' := 123) d_296_120 rfl st_296_81 (kr_39_29 hC31) ?_
            refine g_iconst (pc' := 124) d_296_123 rfl rfl ?_
            refine g_lload (pc' := 126) d_296_124 rfl rfl ?_
            refine g_lload (pc' := 128) d_296_126 rfl rfl ?_
            refine g_lload (pc' := 130) d_296_128 rfl rfl ?_
            refine g_iloadn (pc' := 131) d_296_130 rfl rfl ?_
            refine g_iconst (pc' := 132) d_296_131 rfl rfl ?_
            refine gz_iadd (pc' := 133) d_296_132 rfl ?_
            refine gz_i2l (pc' := 134) d_296_133 rfl hc16 ?_
            refine gz_lmul (pc' := 135) d_296_134 rfl ?_
            refine gz_lsub (pc' := 136) d_296_135 rfl ?_
            refine g_lload (pc' := 138) d_296_136 rfl rfl ?_
            refine gz_lmul (pc' := 139) d_296_138 rfl ?_
            refine g_lload (pc' := 141) d_296_139 rfl rfl ?_
            refine gz_ladd (pc' := 142) d_296_141 rfl ?_
            refine g_lload (pc' := 144) d_296_142 rfl rfl ?_
            refine g_iloadn (pc' := 145) d_296_144 rfl rfl ?_
            refine g_iconst (pc' := 146) d_296_145 rfl rfl ?_
            refine gz_iadd (pc' := 147) d_296_146 rfl ?_
            refine gz_i2l (pc' := 148) d_296_147 rfl hc16 ?_
            refine gz_lmul (pc' := 149) d_296_148 rfl ?_
            obtain ⟨w33, hk34, hC35, h⟩ := h
            refine gz_callV (pc' := 152) d_296_149 rfl st_296_134 na_194 ml_194 rfl rfl rfl rm_296_194 rfl rfl ow_194 (ko_39 hC31) hk34 ?_
            refine g_aloadn (pc' := 153) d_296_152 rfl rfl ?_
            refine gz_getR (pc' := 156) d_296_153 rfl st_296_81 (kr_39_29 hC35) ?_
            refine g_iloadn (pc' := 157) d_296_156 rfl rfl ?_
            obtain ⟨hc36, h⟩ := h
            obtain ⟨x37, hv38, h⟩ := h
            refine gz_lald (pc' := 158) d_296_157 rfl hc36 hv38 ?_
            exact g_lret d_296_158 rt_296 h
          · replace h := h.2 c
            refine g_lload (pc' := 96) d_296_94 rfl rfl ?_
            refine g_lload (pc' := 98) d_296_96 rfl rfl ?_
            refine gz_ladd (pc' := 99) d_296_98 rfl ?_
            refine g_lstore (pc' := 101) (l' := [some (.ref 39), some (.int (jI z1)), some (.int (jI z2)), some (.int (jI (3 * (z1 + 1)))), some (.long (jL (-x20))), none, some (.long (jL ((-x23) + x26))), none, some (.long (jL x26)), none, none, none]) d_296_99 rfl ml_296 rfl rfl ?_
            refine g_lload (pc' := 103) d_296_101 rfl rfl ?_
            refine g_lconst (pc' := 104) (v := jL 1) d_296_103 rfl cl_1 ?_
            refine gz_lsub (pc' := 105) d_296_104 rfl ?_
            refine g_lstore (pc' := 107) (l' := [some (.ref 39), some (.int (jI z1)), some (.int (jI z2)), some (.int (jI (3 * (z1 + 1)))), some (.long (jL ((-x20) - 1))), none, some (.long (jL ((-x23) + x26))), none, some (.long (jL x26)), none, none, none]) d_296_105 rfl ml_296 rfl rfl ?_
            refine g_lload (pc' := 109) d_296_107 rfl rfl ?_
            refine g_iloadn (pc' := 110) d_296_109 rfl rfl ?_
            refine g_iconst (pc' := 111) d_296_110 rfl rfl ?_
            refine gz_iadd (pc' := 112) d_296_111 rfl ?_
            refine gz_i2l (pc' := 113) d_296_112 rfl hc16 ?_
            obtain ⟨r42, w39, hk40, hC41, h⟩ := h
            refine g_callS (pc' := 116) d_296_113 rfl st_296_131 (Or.inl rfl) na_193 ml_193 rfl rfl rfl rm_296_193 rfl rfl hk40 ?_
            refine g_lstore (pc' := 118) (l' := [some (.ref 39), some (.int (jI z1)), some (.int (jI z2)), some (.int (jI (3 * (z1 + 1)))), some (.long (jL ((-x20) - 1))), none, some (.long (jL ((-x23) + x26))), none, some (.long (jL x26)), none, some (.long (jL r42)), none]) d_296_116 rfl ml_296 rfl rfl ?_
            refine g_aloadn (pc' := 119) d_296_118 rfl rfl ?_
            refine g_aloadn (pc' := 120) d_296_119 rfl rfl ?_
            refine gz_getR (pc' := 123) d_296_120 rfl st_296_81 (kr_39_29 hC41) ?_
            refine g_iconst (pc' := 124) d_296_123 rfl rfl ?_
            refine g_lload (pc' := 126) d_296_124 rfl rfl ?_
            refine g_lload (pc' := 128) d_296_126 rfl rfl ?_
            refine g_lload (pc' := 130) d_296_128 rfl rfl ?_
            refine g_iloadn (pc' := 131) d_296_130 rfl rfl ?_
            refine g_iconst (pc' := 132) d_296_131 rfl rfl ?_
            refine gz_iadd (pc' := 133) d_296_132 rfl ?_
            refine gz_i2l (pc' := 134) d_296_133 rfl hc16 ?_
            refine gz_lmul (pc' := 135) d_296_134 rfl ?_
            refine gz_lsub (pc' := 136) d_296_135 rfl ?_
            refine g_lload (pc' := 138) d_296_136 rfl rfl ?_
            refine gz_lmul (pc' := 139) d_296_138 rfl ?_
            refine g_lload (pc' := 141) d_296_139 rfl rfl ?_
            refine gz_ladd (pc' := 142) d_296_141 rfl ?_
            refine g_lload (pc' := 144) d_296_142 rfl rfl ?_
            refine g_iloadn (pc' := 145) d_296_144 rfl rfl ?_
            refine g_iconst (pc' := 146) d_296_145 rfl rfl ?_
            refine gz_iadd (pc' := 147) d_296_146 rfl ?_
            refine gz_i2l (pc' := 148) d_296_147 rfl hc16 ?_
            refine gz_lmul (pc' := 149) d_296_148 rfl ?_
            obtain ⟨w43, hk44, hC45, h⟩ := h
            refine gz_callV (pc' := 152) d_296_149 rfl st_296_134 na_194 ml_194 rfl rfl rfl rm_296_194 rfl rfl ow_194 (ko_39 hC41) hk44 ?_
            refine g_aloadn (pc' := 153) d_296_152 rfl rfl ?_
            refine gz_getR (pc' := 156) d_296_153 rfl st_296_81 (kr_39_29 hC45) ?_
            refine g_iloadn (pc' := 157) d_296_156 rfl rfl ?_
            obtain ⟨hc46, h⟩ := h
            obtain ⟨x47, hv48, h⟩ := h
            refine gz_lald (pc' := 158) d_296_157 rfl hc46 hv48 ?_
            exact g_lret d_296_158 rt_296 h
        · replace h := h.2 c
          refine g_aloadn (pc' := 49) d_296_48 rfl rfl ?_
          refine gz_getR (pc' := 52) d_296_49 rfl st_296_13 (kr_39_2 hC11) ?_
          refine g_iloadn (pc' := 53) d_296_52 rfl rfl ?_
          refine g_iloadn (pc' := 54) d_296_53 rfl rfl ?_
          refine gz_iadd (pc' := 55) d_296_54 rfl ?_
          obtain ⟨hc49, h⟩ := h
          obtain ⟨x50, hv51, h⟩ := h
          refine gz_lald (pc' := 56) d_296_55 rfl hc49 hv51 ?_
          exact g_lret d_296_56 rt_296 h
      · replace h := h.2 c
        refine g_ldc2 (pc' := 37) d_296_34 rfl st_296_166 rfl ?_
        exact g_lret d_296_37 rt_296 h
theorem Z_296 {z1 : Int} {z2 : Int} {w : xW} {r : Option Value × xW} (hC : CS w) (h : ∀ w2, w2 = pF w 39 0 (.int (jI 0)) → CS w2 → ∃ (P7 : Prop) (dP8 : Decidable P7) (w4 : xW), xCall 199 [.int (jI z1), .int (jI 0), .int (jI 37)] w2 (some (.int (bz P7)), w4) ∧ CS w4 ∧ (¬ P7 → r = (some (.long (jL (-9223372036854775808))), w4)) ∧ (P7 → ∃ (P12 : Prop) (dP13 : Decidable P12) (w9 : xW), xCall 199 [.int (jI z2), .int (jI 0), .int (jI 2)] w4 (some (.int (bz P12)), w9) ∧ CS w9 ∧ (¬ P12 → r = (some (.long (jL (-9223372036854775808))), w9)) ∧ (P12 → ∃ x14, fI w9 39 12 4 x14 ∧ in32 (z1 + 1) ∧ in32 x14 ∧ (z1 + 1 ≤ x14 → in32 z1 ∧ (z1 ≠ 0 → 0 ≤ 3 * (z1 + 1) ∧ ∃ x20, rL w9 41 (3 * (z1 + 1)).toNat x20 ∧ 0 ≤ (3 * (z1 + 1)) + 1 ∧ ∃ x23, rL w9 41 ((3 * (z1 + 1)) + 1).toNat x23 ∧ 0 ≤ (3 * (z1 + 1)) + 2 ∧ ∃ x26, rL w9 41 ((3 * (z1 + 1)) + 2).toNat x26 ∧ in64 (-x23) ∧ (0 ≤ -x23 → ∃ r32 w29, xCall 193 [.long (jL (-x20)), .long (jL (z1 + 1))] w9 (some (.long (jL r32)), w29) ∧ CS w29 ∧ ∃ w33, xCall 194 [.ref 39, .ref 62, .int (jI 0), .long (jL r32), .long (jL ((((-x20) - (r32 * (z1 + 1))) * x26) + (-x23))), .long (jL (x26 * (z1 + 1)))] w29 (none, w33) ∧ CS w33 ∧ 0 ≤ z2 ∧ ∃ x37, rL w33 62 (z2).toNat x37 ∧ r = (some (.long (jL x37)), w33)) ∧ (-x23 < 0 → ∃ r42 w39, xCall 193 [.long (jL ((-x20) - 1)), .long (jL (z1 + 1))] w9 (some (.long (jL r42)), w39) ∧ CS w39 ∧ ∃ w43, xCall 194 [.ref 39, .ref 62, .int (jI 0), .long (jL r42), .long (jL (((((-x20) - 1) - (r42 * (z1 + 1))) * x26) + ((-x23) + x26))), .long (jL (x26 * (z1 + 1)))] w39 (none, w43) ∧ CS w43 ∧ 0 ≤ z2 ∧ ∃ x47, rL w43 62 (z2).toNat x47 ∧ r = (some (.long (jL x47)), w43))) ∧ (z1 = 0 → 0 ≤ (3 * (z1 + 1)) + z2 ∧ ∃ x50, rL w9 41 ((3 * (z1 + 1)) + z2).toNat x50 ∧ r = (some (.long (jL x50)), w9))) ∧ (x14 < z1 + 1 → r = (some (.long (jL (-9223372036854775808))), w9))))) : xCall 296 [.ref 39, .int (jI z1), .int (jI z2)] w r := E_296 (Z_296_0 hC h)
theorem Z_297_0 {z1 : Int} {w : xW} {r : Option Value × xW} (hC : CS w) (h : ∀ w2, w2 = pF w 39 0 (.int (jI 0)) → CS w2 → ∃ (P7 : Prop) (dP8 : Decidable P7) (w4 : xW), xCall 199 [.int (jI z1), .int (jI 0), .int (jI 20)] w2 (some (.int (bz P7)), w4) ∧ CS w4 ∧ (¬ P7 → r = (some (.long (jL (-9223372036854775808))), w4)) ∧ (P7 → ∃ x9, fI w4 39 12 4 x9 ∧ in32 z1 ∧ in32 x9 ∧ (z1 ≤ x9 → ∃ y13, jL 1 <<< ((jI z1).toInt64 &&& 63) = jL y13 ∧ 0 ≤ (3 * z1) + 1 ∧ ∃ x16, rL w4 41 ((3 * z1) + 1).toNat x16 ∧ 0 ≤ (3 * z1) + 2 ∧ ∃ x19, rL w4 41 ((3 * z1) + 2).toNat x19 ∧ in64 ((2 * (1 - y13)) * x16) ∧ in64 x19 ∧ x19 ≠ 0 ∧ ∃ y24, Int.tmod ((2 * (1 - y13)) * x16) x19 = y24 ∧ in64 y24 ∧ (y24 ≠ 0 → r = (some (.long (jL (-9223372036854775808))), w4)) ∧ (y24 = 0 → 0 ≤ 3 * z1 ∧ ∃ x28, rL w4 41 (3 * z1).toNat x28 ∧ 0 ≤ (3 * z1) + 2 ∧ ∃ x31, rL w4 41 ((3 * z1) + 2).toNat x31 ∧ in64 x31 ∧ x31 ≠ 0 ∧ ∃ y35, Int.tdiv ((2 * (1 - y13)) * x16) x31 = y35 ∧ r = (some (.long (jL (((2 * (1 - y13)) * x28) + y35))), w4))) ∧ (x9 < z1 → r = (some (.long (jL (-9223372036854775808))), w4)))) : xGo 297 0 [some (.ref 39), some (.int (jI z1)), none, none, none, none] [] w r := by
  refine g_aloadn (pc' := 1) d_297_0 rfl rfl ?_
  refine g_iconst (pc' := 2) d_297_1 rfl rfl ?_
  have hpf1 := (kf_39_0 hC)
  have hC3 : CS (pF w 39 0 (.int (jI 0))) := ks_39_0 hC
  have h := h _ rfl hC3
  refine gz_putf (pc' := 5) d_297_2 rfl st_297_118 ft_12_0 ff_12_0 rfl (Or.inl rfl) hpf1 ?_
  refine g_iloadn (pc' := 6) d_297_5 rfl rfl ?_
  refine g_iconst (pc' := 7) d_297_6 rfl rfl ?_
  refine g_bipush (pc' := 9) (v := jI 20) d_297_7 rfl (by decide) ?_
  obtain ⟨P7, dP8, w4, hk5, hC6, h⟩ := h
  refine g_callS (pc' := 12) d_297_9 rfl st_297_137 (Or.inl rfl) na_199 ml_199 rfl rfl rfl rm_297_199 rfl rfl hk5 ?_
  refine gz_bt_eq (pc' := 15) (pt := 23) d_297_12 (by decide) rfl (fun c => ?_) (fun c => ?_)
  · replace h := h.1 c
    refine g_ldc2 (pc' := 26) d_297_23 rfl st_297_166 rfl ?_
    exact g_lret d_297_26 rt_297 h
  · replace h := h.2 c
    refine g_iloadn (pc' := 16) d_297_15 rfl rfl ?_
    refine g_aloadn (pc' := 17) d_297_16 rfl rfl ?_
    obtain ⟨x9, hv10, h⟩ := h
    refine gz_getI (pc' := 20) d_297_17 rfl st_297_20 hv10 ?_
    obtain ⟨hc11, h⟩ := h
    obtain ⟨hc12, h⟩ := h
    refine gz_ic_le (pc' := 23) (pt := 27) d_297_20 (by decide) rfl hc11 hc12 (fun c => ?_) (fun c => ?_)
    · replace h := h.1 c
      refine g_ldc2 (pc' := 30) d_297_27 rfl st_297_216 rfl ?_
      refine g_lconst (pc' := 31) (v := jL 1) d_297_30 rfl cl_1 ?_
      refine g_lconst (pc' := 32) (v := jL 1) d_297_31 rfl cl_1 ?_
      refine g_iloadn (pc' := 33) d_297_32 rfl rfl ?_
      obtain ⟨y13, hz14, h⟩ := h
      refine gz_lshl (pc' := 34) d_297_33 rfl hz14 ?_
      refine gz_lsub (pc' := 35) d_297_34 rfl ?_
      refine gz_lmul (pc' := 36) d_297_35 rfl ?_
      refine g_lstoren (pc' := 37) (l' := [some (.ref 39), some (.int (jI z1)), some (.long (jL (2 * (1 - y13)))), none, none, none]) d_297_36 rfl ml_297 rfl rfl ?_
      refine g_lloadn (pc' := 38) d_297_37 rfl rfl ?_
      refine g_aloadn (pc' := 39) d_297_38 rfl rfl ?_
      refine gz_getR (pc' := 42) d_297_39 rfl st_297_13 (kr_39_2 hC6) ?_
      refine g_iconst (pc' := 43) d_297_42 rfl rfl ?_
      refine g_iloadn (pc' := 44) d_297_43 rfl rfl ?_
      refine gz_imul (pc' := 45) d_297_44 rfl ?_
      refine g_iconst (pc' := 46) d_297_45 rfl rfl ?_
      refine gz_iadd (pc' := 47) d_297_46 rfl ?_
      obtain ⟨hc15, h⟩ := h
      obtain ⟨x16, hv17, h⟩ := h
      refine gz_lald (pc' := 48) d_297_47 rfl hc15 hv17 ?_
      refine gz_lmul (pc' := 49) d_297_48 rfl ?_
      refine g_lstore (pc' := 51) (l' := [some (.ref 39), some (.int (jI z1)), some (.long (jL (2 * (1 - y13)))), none, some (.long (jL ((2 * (1 - y13)) * x16))), none]) d_297_49 rfl ml_297 rfl rfl ?_
      refine g_lload (pc' := 53) d_297_51 rfl rfl ?_
      refine g_aloadn (pc' := 54) d_297_53 rfl rfl ?_
      refine gz_getR (pc' := 57) d_297_54 rfl st_297_13 (kr_39_2 hC6) ?_
      refine g_iconst (pc' := 58) d_297_57 rfl rfl ?_
      refine g_iloadn (pc' := 59) d_297_58 rfl rfl ?_
      refine gz_imul (pc' := 60) d_297_59 rfl ?_
      refine g_iconst (pc' := 61) d_297_60 rfl rfl ?_
      refine gz_iadd (pc' := 62) d_297_61 rfl ?_
      obtain ⟨hc18, h⟩ := h
      obtain ⟨x19, hv20, h⟩ := h
      refine gz_lald (pc' := 63) d_297_62 rfl hc18 hv20 ?_
      obtain ⟨hc21, h⟩ := h
      obtain ⟨hc22, h⟩ := h
      obtain ⟨hc23, h⟩ := h
      obtain ⟨y24, hz25, h⟩ := h
      refine gz_lrem (pc' := 64) d_297_63 rfl hc21 hc22 hc23 hz25 ?_
      refine g_lconst (pc' := 65) (v := jL 0) d_297_64 rfl cl_0 ?_
      obtain ⟨hc26, h⟩ := h
      refine gz_lc_ne (pc' := 69) (pm := 66) (pt := 96) d_297_65 rfl d_297_66 (by decide) rfl hc26 (s64 (z := 0)) (fun c => ?_) (fun c => ?_)
      · replace h := h.1 c
        refine g_ldc2 (pc' := 99) d_297_96 rfl st_297_166 rfl ?_
        exact g_lret d_297_99 rt_297 h
      · replace h := h.2 c
        refine g_lloadn (pc' := 70) d_297_69 rfl rfl ?_
        refine g_aloadn (pc' := 71) d_297_70 rfl rfl ?_
        refine gz_getR (pc' := 74) d_297_71 rfl st_297_13 (kr_39_2 hC6) ?_
        refine g_iconst (pc' := 75) d_297_74 rfl rfl ?_
        refine g_iloadn (pc' := 76) d_297_75 rfl rfl ?_
        refine gz_imul (pc' := 77) d_297_76 rfl ?_
        obtain ⟨hc27, h⟩ := h
        obtain ⟨x28, hv29, h⟩ := h
        refine gz_lald (pc' := 78) d_297_77 rfl hc27 hv29 ?_
        refine gz_lmul (pc' := 79) d_297_78 rfl ?_
        refine g_lload (pc' := 81) d_297_79 rfl rfl ?_
        refine g_aloadn (pc' := 82) d_297_81 rfl rfl ?_
        refine gz_getR (pc' := 85) d_297_82 rfl st_297_13 (kr_39_2 hC6) ?_
        refine g_iconst (pc' := 86) d_297_85 rfl rfl ?_
        refine g_iloadn (pc' := 87) d_297_86 rfl rfl ?_
        refine gz_imul (pc' := 88) d_297_87 rfl ?_
        refine g_iconst (pc' := 89) d_297_88 rfl rfl ?_
        refine gz_iadd (pc' := 90) d_297_89 rfl ?_
        obtain ⟨hc30, h⟩ := h
        obtain ⟨x31, hv32, h⟩ := h
        refine gz_lald (pc' := 91) d_297_90 rfl hc30 hv32 ?_
        obtain ⟨hc33, h⟩ := h
        obtain ⟨hc34, h⟩ := h
        obtain ⟨y35, hz36, h⟩ := h
        refine gz_ldiv (pc' := 92) d_297_91 rfl hc21 hc33 hc34 hz36 ?_
        refine gz_ladd (pc' := 93) d_297_92 rfl ?_
        refine g_goto (pt := 99) d_297_93 (by decide) ?_
        exact g_lret d_297_99 rt_297 h
    · replace h := h.2 c
      refine g_ldc2 (pc' := 26) d_297_23 rfl st_297_166 rfl ?_
      exact g_lret d_297_26 rt_297 h
theorem Z_297 {z1 : Int} {w : xW} {r : Option Value × xW} (hC : CS w) (h : ∀ w2, w2 = pF w 39 0 (.int (jI 0)) → CS w2 → ∃ (P7 : Prop) (dP8 : Decidable P7) (w4 : xW), xCall 199 [.int (jI z1), .int (jI 0), .int (jI 20)] w2 (some (.int (bz P7)), w4) ∧ CS w4 ∧ (¬ P7 → r = (some (.long (jL (-9223372036854775808))), w4)) ∧ (P7 → ∃ x9, fI w4 39 12 4 x9 ∧ in32 z1 ∧ in32 x9 ∧ (z1 ≤ x9 → ∃ y13, jL 1 <<< ((jI z1).toInt64 &&& 63) = jL y13 ∧ 0 ≤ (3 * z1) + 1 ∧ ∃ x16, rL w4 41 ((3 * z1) + 1).toNat x16 ∧ 0 ≤ (3 * z1) + 2 ∧ ∃ x19, rL w4 41 ((3 * z1) + 2).toNat x19 ∧ in64 ((2 * (1 - y13)) * x16) ∧ in64 x19 ∧ x19 ≠ 0 ∧ ∃ y24, Int.tmod ((2 * (1 - y13)) * x16) x19 = y24 ∧ in64 y24 ∧ (y24 ≠ 0 → r = (some (.long (jL (-9223372036854775808))), w4)) ∧ (y24 = 0 → 0 ≤ 3 * z1 ∧ ∃ x28, rL w4 41 (3 * z1).toNat x28 ∧ 0 ≤ (3 * z1) + 2 ∧ ∃ x31, rL w4 41 ((3 * z1) + 2).toNat x31 ∧ in64 x31 ∧ x31 ≠ 0 ∧ ∃ y35, Int.tdiv ((2 * (1 - y13)) * x16) x31 = y35 ∧ r = (some (.long (jL (((2 * (1 - y13)) * x28) + y35))), w4))) ∧ (x9 < z1 → r = (some (.long (jL (-9223372036854775808))), w4)))) : xCall 297 [.ref 39, .int (jI z1)] w r := E_297 (Z_297_0 hC h)
theorem Z_298_0 {z1 : Int} {z2 : Int} {w : xW} {r : Option Value × xW} (hC : CS w) (h : ∀ w2, w2 = pF w 39 0 (.int (jI 0)) → CS w2 → ∃ (P7 : Prop) (dP8 : Decidable P7) (w4 : xW), xCall 199 [.int (jI z1), .int (jI 0), .int (jI 30)] w2 (some (.int (bz P7)), w4) ∧ CS w4 ∧ (¬ P7 → r = (some (.long (jL (-9223372036854775808))), w4)) ∧ (P7 → ∃ (P12 : Prop) (dP13 : Decidable P12) (w9 : xW), xCall 199 [.int (jI z2), .int (jI 0), .int (jI 30)] w4 (some (.int (bz P12)), w9) ∧ CS w9 ∧ (P12 → ∃ w14, xCall 299 [.ref 39, .int (jI z1)] w9 (none, w14) ∧ CS w14 ∧ 0 ≤ z2 ∧ ∃ x18, rL w14 64 (z2).toNat x18 ∧ r = (some (.long (jL x18)), w14)) ∧ (¬ P12 → r = (some (.long (jL (-9223372036854775808))), w9)))) : xGo 298 0 [some (.ref 39), some (.int (jI z1)), some (.int (jI z2))] [] w r := by
  refine g_aloadn (pc' := 1) d_298_0 rfl rfl ?_
  refine g_iconst (pc' := 2) d_298_1 rfl rfl ?_
  have hpf1 := (kf_39_0 hC)
  have hC3 : CS (pF w 39 0 (.int (jI 0))) := ks_39_0 hC
  have h := h _ rfl hC3
  refine gz_putf (pc' := 5) d_298_2 rfl st_298_118 ft_12_0 ff_12_0 rfl (Or.inl rfl) hpf1 ?_
  refine g_iloadn (pc' := 6) d_298_5 rfl rfl ?_
  refine g_iconst (pc' := 7) d_298_6 rfl rfl ?_
  refine g_bipush (pc' := 9) (v := jI 30) d_298_7 rfl (by decide) ?_
  obtain ⟨P7, dP8, w4, hk5, hC6, h⟩ := h
  refine g_callS (pc' := 12) d_298_9 rfl st_298_137 (Or.inl rfl) na_199 ml_199 rfl rfl rfl rm_298_199 rfl rfl hk5 ?_
  refine gz_bt_eq (pc' := 15) (pt := 25) d_298_12 (by decide) rfl (fun c => ?_) (fun c => ?_)
  · replace h := h.1 c
    refine g_ldc2 (pc' := 28) d_298_25 rfl st_298_166 rfl ?_
    exact g_lret d_298_28 rt_298 h
  · replace h := h.2 c
    refine g_iloadn (pc' := 16) d_298_15 rfl rfl ?_
    refine g_iconst (pc' := 17) d_298_16 rfl rfl ?_
    refine g_bipush (pc' := 19) (v := jI 30) d_298_17 rfl (by decide) ?_
    obtain ⟨P12, dP13, w9, hk10, hC11, h⟩ := h
    refine g_callS (pc' := 22) d_298_19 rfl st_298_137 (Or.inl rfl) na_199 ml_199 rfl rfl rfl rm_298_199 rfl rfl hk10 ?_
    refine gz_bt_ne (pc' := 25) (pt := 29) d_298_22 (by decide) rfl (fun c => ?_) (fun c => ?_)
    · replace h := h.1 c
      refine g_aloadn (pc' := 30) d_298_29 rfl rfl ?_
      refine g_iloadn (pc' := 31) d_298_30 rfl rfl ?_
      obtain ⟨w14, hk15, hC16, h⟩ := h
      refine gz_callV (pc' := 34) d_298_31 rfl st_298_365 na_299 ml_299 rfl rfl rfl rm_298_299 rfl rfl ow_299 (ko_39 hC11) hk15 ?_
      refine g_aloadn (pc' := 35) d_298_34 rfl rfl ?_
      refine gz_getR (pc' := 38) d_298_35 rfl st_298_87 (kr_39_31 hC16) ?_
      refine g_iloadn (pc' := 39) d_298_38 rfl rfl ?_
      obtain ⟨hc17, h⟩ := h
      obtain ⟨x18, hv19, h⟩ := h
      refine gz_lald (pc' := 40) d_298_39 rfl hc17 hv19 ?_
      exact g_lret d_298_40 rt_298 h
    · replace h := h.2 c
      refine g_ldc2 (pc' := 28) d_298_25 rfl st_298_166 rfl ?_
      exact g_lret d_298_28 rt_298 h
theorem Z_298 {z1 : Int} {z2 : Int} {w : xW} {r : Option Value × xW} (hC : CS w) (h : ∀ w2, w2 = pF w 39 0 (.int (jI 0)) → CS w2 → ∃ (P7 : Prop) (dP8 : Decidable P7) (w4 : xW), xCall 199 [.int (jI z1), .int (jI 0), .int (jI 30)] w2 (some (.int (bz P7)), w4) ∧ CS w4 ∧ (¬ P7 → r = (some (.long (jL (-9223372036854775808))), w4)) ∧ (P7 → ∃ (P12 : Prop) (dP13 : Decidable P12) (w9 : xW), xCall 199 [.int (jI z2), .int (jI 0), .int (jI 30)] w4 (some (.int (bz P12)), w9) ∧ CS w9 ∧ (P12 → ∃ w14, xCall 299 [.ref 39, .int (jI z1)] w9 (none, w14) ∧ CS w14 ∧ 0 ≤ z2 ∧ ∃ x18, rL w14 64 (z2).toNat x18 ∧ r = (some (.long (jL x18)), w14)) ∧ (¬ P12 → r = (some (.long (jL (-9223372036854775808))), w9)))) : xCall 298 [.ref 39, .int (jI z1), .int (jI z2)] w r := E_298 (Z_298_0 hC h)
theorem Z_299_0 {z1 : Int} {w : xW} {r : Option Value × xW} (hC : CS w) (h : xGo 299 2 [some (.ref 39), some (.int (jI z1)), some (.int (jI 0)), none] [] w r) : xGo 299 0 [some (.ref 39), some (.int (jI z1)), none, none] [] w r := by
  refine g_iconst (pc' := 1) d_299_0 rfl rfl ?_
  refine g_istoren (pc' := 2) (l' := [some (.ref 39), some (.int (jI z1)), some (.int (jI 0)), none]) d_299_1 rfl ml_299 rfl rfl ?_
  exact h
theorem Z_299 {z1 : Int} {w : xW} {r : Option Value × xW} (hC : CS w) (h : xGo 299 2 [some (.ref 39), some (.int (jI z1)), some (.int (jI 0)), none] [] w r) : xCall 299 [.ref 39, .int (jI z1)] w r := E_299 (Z_299_0 hC h)
theorem Z_299_2 {z1 : Int} {z2 : Int} {w : xW} {r : Option Value × xW} (hC : CS w) (h : in32 z2 ∧ (32 ≤ z2 → xGo 299 31 [some (.ref 39), some (.int (jI z1)), some (.int (jI 1)), none] [] w r) ∧ (z2 < 32 → (z2 ≠ 0 → (0 ≤ z2 ∧ z2 < 32) ∧ ∀ w4, w4 = pL w 64 (z2).toNat (jL 0) → CS w4 → xGo 299 2 [some (.ref 39), some (.int (jI z1)), some (.int (jI (z2 + 1))), none] [] w4 r) ∧ (z2 = 0 → (0 ≤ z2 ∧ z2 < 32) ∧ ∀ w8, w8 = pL w 64 (z2).toNat (jL 1) → CS w8 → xGo 299 2 [some (.ref 39), some (.int (jI z1)), some (.int (jI (z2 + 1))), none] [] w8 r))) : xGo 299 2 [some (.ref 39), some (.int (jI z1)), some (.int (jI z2)), none] [] w r := by
  refine g_iloadn (pc' := 3) d_299_2 rfl rfl ?_
  refine g_bipush (pc' := 5) (v := jI 32) d_299_3 rfl (by decide) ?_
  obtain ⟨hc1, h⟩ := h
  refine gz_ic_ge (pc' := 8) (pt := 29) d_299_5 (by decide) rfl hc1 (s32 (z := 32)) (fun c => ?_) (fun c => ?_)
  · replace h := h.1 c
    refine g_iconst (pc' := 30) d_299_29 rfl rfl ?_
    refine g_istoren (pc' := 31) (l' := [some (.ref 39), some (.int (jI z1)), some (.int (jI 1)), none]) d_299_30 rfl ml_299 rfl rfl ?_
    exact h
  · replace h := h.2 c
    refine g_aloadn (pc' := 9) d_299_8 rfl rfl ?_
    refine gz_getR (pc' := 12) d_299_9 rfl st_299_87 (kr_39_31 hC) ?_
    refine g_iloadn (pc' := 13) d_299_12 rfl rfl ?_
    refine g_iloadn (pc' := 14) d_299_13 rfl rfl ?_
    refine gz_if_ne (pc' := 17) (pt := 21) d_299_14 (by decide) rfl hc1 (fun c => ?_) (fun c => ?_)
    · replace h := h.1 c
      refine g_lconst (pc' := 22) (v := jL 0) d_299_21 rfl cl_0 ?_
      obtain ⟨hc2, h⟩ := h
      have hs3 := (kh_64 hC hc2)
      have hC5 : CS (pL w 64 (z2).toNat (jL 0)) := hC.putL
      have h := h _ rfl hC5
      refine gz_last (pc' := 23) d_299_22 rfl hs3 ?_
      refine gz_iinc (pc' := 26) (l' := [some (.ref 39), some (.int (jI z1)), some (.int (jI (z2 + 1))), none]) d_299_23 rfl rfl ml_299 rfl rfl ?_
      refine g_goto (pt := 2) d_299_26 (by decide) ?_
      exact h
    · replace h := h.2 c
      refine g_lconst (pc' := 18) (v := jL 1) d_299_17 rfl cl_1 ?_
      refine g_goto (pt := 22) d_299_18 (by decide) ?_
      obtain ⟨hc6, h⟩ := h
      have hs7 := (kh_64 hC hc6)
      have hC9 : CS (pL w 64 (z2).toNat (jL 1)) := hC.putL
      have h := h _ rfl hC9
      refine gz_last (pc' := 23) d_299_22 rfl hs7 ?_
      refine gz_iinc (pc' := 26) (l' := [some (.ref 39), some (.int (jI z1)), some (.int (jI (z2 + 1))), none]) d_299_23 rfl rfl ml_299 rfl rfl ?_
      refine g_goto (pt := 2) d_299_26 (by decide) ?_
      exact h
theorem Z_299_31 {z1 : Int} {z2 : Int} {w : xW} {r : Option Value × xW} (hC : CS w) (h : in32 z2 ∧ in32 z1 ∧ (z1 < z2 → r = (none, w)) ∧ (z2 ≤ z1 → xGo 299 38 [some (.ref 39), some (.int (jI z1)), some (.int (jI z2)), some (.int (jI z2))] [] w r)) : xGo 299 31 [some (.ref 39), some (.int (jI z1)), some (.int (jI z2)), none] [] w r := by
  refine g_iloadn (pc' := 32) d_299_31 rfl rfl ?_
  refine g_iloadn (pc' := 33) d_299_32 rfl rfl ?_
  obtain ⟨hc1, h⟩ := h
  obtain ⟨hc2, h⟩ := h
  refine gz_ic_gt (pc' := 36) (pt := 85) d_299_33 (by decide) rfl hc1 hc2 (fun c => ?_) (fun c => ?_)
  · replace h := h.1 c
    exact g_vret d_299_85 rt_299 h
  · replace h := h.2 c
    refine g_iloadn (pc' := 37) d_299_36 rfl rfl ?_
    refine g_istoren (pc' := 38) (l' := [some (.ref 39), some (.int (jI z1)), some (.int (jI z2)), some (.int (jI z2))]) d_299_37 rfl ml_299 rfl rfl ?_
    exact h
theorem Z_299_38 {z1 : Int} {z2 : Int} {z3 : Int} {w : xW} {r : Option Value × xW} (hC : CS w) (h : in32 z3 ∧ (z3 ≤ 0 → ∀ w3, w3 = pL w 64 0 (jL 0) → CS w3 → xGo 299 31 [some (.ref 39), some (.int (jI z1)), some (.int (jI (z2 + 1))), none] [] w3 r) ∧ (0 < z3 → 0 ≤ z3 ∧ ∃ x6, rL w 64 (z3).toNat x6 ∧ 0 ≤ z3 - 1 ∧ ∃ x9, rL w 64 (z3 - 1).toNat x9 ∧ ∃ r14 w11, xCall 300 [.int (jI z3), .long (jL x6), .long (jL x9)] w (some (.long (jL r14)), w11) ∧ CS w11 ∧ (0 ≤ z3 ∧ z3 < 32) ∧ ∀ w17, w17 = pL w11 64 (z3).toNat (jL r14) → CS w17 → xGo 299 38 [some (.ref 39), some (.int (jI z1)), some (.int (jI z2)), some (.int (jI (z3 - 1)))] [] w17 r)) : xGo 299 38 [some (.ref 39), some (.int (jI z1)), some (.int (jI z2)), some (.int (jI z3))] [] w r := by
  refine g_iloadn (pc' := 39) d_299_38 rfl rfl ?_
  obtain ⟨hc1, h⟩ := h
  refine gz_if_le (pc' := 42) (pt := 72) d_299_39 (by decide) rfl hc1 (fun c => ?_) (fun c => ?_)
  · replace h := h.1 c
    refine g_aloadn (pc' := 73) d_299_72 rfl rfl ?_
    refine gz_getR (pc' := 76) d_299_73 rfl st_299_87 (kr_39_31 hC) ?_
    refine g_iconst (pc' := 77) d_299_76 rfl rfl ?_
    refine g_lconst (pc' := 78) (v := jL 0) d_299_77 rfl cl_0 ?_
    have hs2 := (kh_64 (i := 0) hC ⟨by decide, by decide⟩)
    have hC4 : CS (pL w 64 0 (jL 0)) := hC.putL
    have h := h _ rfl hC4
    refine gz_last (pc' := 79) d_299_78 rfl hs2 ?_
    refine gz_iinc (pc' := 82) (l' := [some (.ref 39), some (.int (jI z1)), some (.int (jI (z2 + 1))), some (.int (jI z3))]) d_299_79 rfl rfl ml_299 rfl rfl ?_
    refine g_goto (pt := 31) d_299_82 (by decide) ?_
    exact xGo.more (xle_s (xle_s (xle_s (xle_n xle_0)))) h
  · replace h := h.2 c
    refine g_aloadn (pc' := 43) d_299_42 rfl rfl ?_
    refine gz_getR (pc' := 46) d_299_43 rfl st_299_87 (kr_39_31 hC) ?_
    refine g_iloadn (pc' := 47) d_299_46 rfl rfl ?_
    refine g_iloadn (pc' := 48) d_299_47 rfl rfl ?_
    refine g_aloadn (pc' := 49) d_299_48 rfl rfl ?_
    refine gz_getR (pc' := 52) d_299_49 rfl st_299_87 (kr_39_31 hC) ?_
    refine g_iloadn (pc' := 53) d_299_52 rfl rfl ?_
    obtain ⟨hc5, h⟩ := h
    obtain ⟨x6, hv7, h⟩ := h
    refine gz_lald (pc' := 54) d_299_53 rfl hc5 hv7 ?_
    refine g_aloadn (pc' := 55) d_299_54 rfl rfl ?_
    refine gz_getR (pc' := 58) d_299_55 rfl st_299_87 (kr_39_31 hC) ?_
    refine g_iloadn (pc' := 59) d_299_58 rfl rfl ?_
    refine g_iconst (pc' := 60) d_299_59 rfl rfl ?_
    refine gz_isub (pc' := 61) d_299_60 rfl ?_
    obtain ⟨hc8, h⟩ := h
    obtain ⟨x9, hv10, h⟩ := h
    refine gz_lald (pc' := 62) d_299_61 rfl hc8 hv10 ?_
    obtain ⟨r14, w11, hk12, hC13, h⟩ := h
    refine g_callS (pc' := 65) d_299_62 rfl st_299_361 (Or.inl rfl) na_300 ml_300 rfl rfl rfl rm_299_300 rfl rfl hk12 ?_
    obtain ⟨hc15, h⟩ := h
    have hs16 := (kh_64 hC13 hc15)
    have hC18 : CS (pL w11 64 (z3).toNat (jL r14)) := hC13.putL
    have h := h _ rfl hC18
    refine gz_last (pc' := 66) d_299_65 rfl hs16 ?_
    refine gz_idec (pc' := 69) (c := 1) (l' := [some (.ref 39), some (.int (jI z1)), some (.int (jI z2)), some (.int (jI (z3 - 1)))]) d_299_66 rfl rfl ml_299 rfl rfl ?_
    refine g_goto (pt := 38) d_299_69 (by decide) ?_
    exact h
theorem Z_300_0 {z0 : Int} {z1 : Int} {z3 : Int} {w : xW} {r : Option Value × xW} (hC : CS w) (h : in64 z1 ∧ (z1 = (-9223372036854775808) → r = (some (.long (jL (-9223372036854775808))), w)) ∧ (z1 ≠ (-9223372036854775808) → in64 z3 ∧ (z3 ≠ (-9223372036854775808) → in64 (9223372036854775807 - z3) ∧ (z1 ≤ 9223372036854775807 - z3 → in64 (z1 + z3) ∧ (z1 + z3 ≠ 0 → in32 z0 ∧ z0 ≠ 0 ∧ ∃ y7, Int.tdiv 9223372036854775807 z0 = y7 ∧ in64 y7 ∧ (z1 + z3 ≤ y7 → r = (some (.long (jL (z0 * (z1 + z3)))), w)) ∧ (y7 < z1 + z3 → r = (some (.long (jL (-9223372036854775808))), w))) ∧ (z1 + z3 = 0 → r = (some (.long (jL 0)), w))) ∧ (9223372036854775807 - z3 < z1 → r = (some (.long (jL (-9223372036854775808))), w))) ∧ (z3 = (-9223372036854775808) → r = (some (.long (jL (-9223372036854775808))), w)))) : xGo 300 0 [some (.int (jI z0)), some (.long (jL z1)), none, some (.long (jL z3)), none] [] w r := by
  refine g_lloadn (pc' := 1) d_300_0 rfl rfl ?_
  refine g_ldc2 (pc' := 4) d_300_1 rfl st_300_166 rfl ?_
  obtain ⟨hc1, h⟩ := h
  refine gz_lc_eq (pc' := 8) (pm := 5) (pt := 16) d_300_4 rfl d_300_5 (by decide) rfl hc1 (s64 (z := (-9223372036854775808))) (fun c => ?_) (fun c => ?_)
  · replace h := h.1 c
    refine g_ldc2 (pc' := 19) d_300_16 rfl st_300_166 rfl ?_
    exact g_lret d_300_19 rt_300 h
  · replace h := h.2 c
    refine g_lloadn (pc' := 9) d_300_8 rfl rfl ?_
    refine g_ldc2 (pc' := 12) d_300_9 rfl st_300_166 rfl ?_
    obtain ⟨hc2, h⟩ := h
    refine gz_lc_ne (pc' := 16) (pm := 13) (pt := 20) d_300_12 rfl d_300_13 (by decide) rfl hc2 (s64 (z := (-9223372036854775808))) (fun c => ?_) (fun c => ?_)
    · replace h := h.1 c
      refine g_lloadn (pc' := 21) d_300_20 rfl rfl ?_
      refine g_ldc2 (pc' := 24) d_300_21 rfl st_300_359 rfl ?_
      refine g_lloadn (pc' := 25) d_300_24 rfl rfl ?_
      refine gz_lsub (pc' := 26) d_300_25 rfl ?_
      obtain ⟨hc3, h⟩ := h
      refine gz_lc_le (pc' := 30) (pm := 27) (pt := 34) d_300_26 rfl d_300_27 (by decide) rfl hc1 hc3 (fun c => ?_) (fun c => ?_)
      · replace h := h.1 c
        refine g_lloadn (pc' := 35) d_300_34 rfl rfl ?_
        refine g_lloadn (pc' := 36) d_300_35 rfl rfl ?_
        refine gz_ladd (pc' := 37) d_300_36 rfl ?_
        refine g_lconst (pc' := 38) (v := jL 0) d_300_37 rfl cl_0 ?_
        obtain ⟨hc4, h⟩ := h
        refine gz_lc_ne (pc' := 42) (pm := 39) (pt := 46) d_300_38 rfl d_300_39 (by decide) rfl hc4 (s64 (z := 0)) (fun c => ?_) (fun c => ?_)
        · replace h := h.1 c
          refine g_lloadn (pc' := 47) d_300_46 rfl rfl ?_
          refine g_lloadn (pc' := 48) d_300_47 rfl rfl ?_
          refine gz_ladd (pc' := 49) d_300_48 rfl ?_
          refine g_ldc2 (pc' := 52) d_300_49 rfl st_300_359 rfl ?_
          refine g_iloadn (pc' := 53) d_300_52 rfl rfl ?_
          obtain ⟨hc5, h⟩ := h
          refine gz_i2l (pc' := 54) d_300_53 rfl hc5 ?_
          obtain ⟨hc6, h⟩ := h
          obtain ⟨y7, hz8, h⟩ := h
          refine gz_ldiv (pc' := 55) d_300_54 rfl (s64 (z := 9223372036854775807)) (in3264 hc5) hc6 hz8 ?_
          obtain ⟨hc9, h⟩ := h
          refine gz_lc_le (pc' := 59) (pm := 56) (pt := 65) d_300_55 rfl d_300_56 (by decide) rfl hc4 hc9 (fun c => ?_) (fun c => ?_)
          · replace h := h.1 c
            refine g_iloadn (pc' := 66) d_300_65 rfl rfl ?_
            refine gz_i2l (pc' := 67) d_300_66 rfl hc5 ?_
            refine g_lloadn (pc' := 68) d_300_67 rfl rfl ?_
            refine g_lloadn (pc' := 69) d_300_68 rfl rfl ?_
            refine gz_ladd (pc' := 70) d_300_69 rfl ?_
            refine gz_lmul (pc' := 71) d_300_70 rfl ?_
            exact g_lret d_300_71 rt_300 h
          · replace h := h.2 c
            refine g_ldc2 (pc' := 62) d_300_59 rfl st_300_166 rfl ?_
            refine g_goto (pt := 71) d_300_62 (by decide) ?_
            exact g_lret d_300_71 rt_300 h
        · replace h := h.2 c
          refine g_lconst (pc' := 43) (v := jL 0) d_300_42 rfl cl_0 ?_
          refine g_goto (pt := 71) d_300_43 (by decide) ?_
          exact g_lret d_300_71 rt_300 h
      · replace h := h.2 c
        refine g_ldc2 (pc' := 33) d_300_30 rfl st_300_166 rfl ?_
        exact g_lret d_300_33 rt_300 h
    · replace h := h.2 c
      refine g_ldc2 (pc' := 19) d_300_16 rfl st_300_166 rfl ?_
      exact g_lret d_300_19 rt_300 h
theorem Z_300 {z0 : Int} {z1 : Int} {z3 : Int} {w : xW} {r : Option Value × xW} (hC : CS w) (h : in64 z1 ∧ (z1 = (-9223372036854775808) → r = (some (.long (jL (-9223372036854775808))), w)) ∧ (z1 ≠ (-9223372036854775808) → in64 z3 ∧ (z3 ≠ (-9223372036854775808) → in64 (9223372036854775807 - z3) ∧ (z1 ≤ 9223372036854775807 - z3 → in64 (z1 + z3) ∧ (z1 + z3 ≠ 0 → in32 z0 ∧ z0 ≠ 0 ∧ ∃ y7, Int.tdiv 9223372036854775807 z0 = y7 ∧ in64 y7 ∧ (z1 + z3 ≤ y7 → r = (some (.long (jL (z0 * (z1 + z3)))), w)) ∧ (y7 < z1 + z3 → r = (some (.long (jL (-9223372036854775808))), w))) ∧ (z1 + z3 = 0 → r = (some (.long (jL 0)), w))) ∧ (9223372036854775807 - z3 < z1 → r = (some (.long (jL (-9223372036854775808))), w))) ∧ (z3 = (-9223372036854775808) → r = (some (.long (jL (-9223372036854775808))), w)))) : xCall 300 [.int (jI z0), .long (jL z1), .long (jL z3)] w r := E_300 (Z_300_0 hC h)
theorem Z_301_0 {z1 : Int} {z2 : Int} {w : xW} {r : Option Value × xW} (hC : CS w) (h : ∀ w2, w2 = pF w 39 0 (.int (jI 0)) → CS w2 → ∃ (P7 : Prop) (dP8 : Decidable P7) (w4 : xW), xCall 199 [.int (jI z1), .int (jI 0), .int (jI 20)] w2 (some (.int (bz P7)), w4) ∧ CS w4 ∧ (¬ P7 → r = (some (.long (jL (-9223372036854775808))), w4)) ∧ (P7 → ∃ (P12 : Prop) (dP13 : Decidable P12) (w9 : xW), xCall 199 [.int (jI z2), .int (jI 0), .int (jI 2)] w4 (some (.int (bz P12)), w9) ∧ CS w9 ∧ (P12 → ∃ w14, xCall 299 [.ref 39, .int (jI z1)] w9 (none, w14) ∧ CS w14 ∧ xGo 301 41 [some (.ref 39), some (.int (jI z1)), some (.int (jI z2)), some (.long (jL 0)), none, some (.long (jL 0)), none, some (.int (jI 0)), none, none, none, none] [] w14 r) ∧ (¬ P12 → r = (some (.long (jL (-9223372036854775808))), w9)))) : xGo 301 0 [some (.ref 39), some (.int (jI z1)), some (.int (jI z2)), none, none, none, none, none, none, none, none, none] [] w r := by
  refine g_aloadn (pc' := 1) d_301_0 rfl rfl ?_
  refine g_iconst (pc' := 2) d_301_1 rfl rfl ?_
  have hpf1 := (kf_39_0 hC)
  have hC3 : CS (pF w 39 0 (.int (jI 0))) := ks_39_0 hC
  have h := h _ rfl hC3
  refine gz_putf (pc' := 5) d_301_2 rfl st_301_118 ft_12_0 ff_12_0 rfl (Or.inl rfl) hpf1 ?_
  refine g_iloadn (pc' := 6) d_301_5 rfl rfl ?_
  refine g_iconst (pc' := 7) d_301_6 rfl rfl ?_
  refine g_bipush (pc' := 9) (v := jI 20) d_301_7 rfl (by decide) ?_
  obtain ⟨P7, dP8, w4, hk5, hC6, h⟩ := h
  refine g_callS (pc' := 12) d_301_9 rfl st_301_137 (Or.inl rfl) na_199 ml_199 rfl rfl rfl rm_301_199 rfl rfl hk5 ?_
  refine gz_bt_eq (pc' := 15) (pt := 24) d_301_12 (by decide) rfl (fun c => ?_) (fun c => ?_)
  · replace h := h.1 c
    refine g_ldc2 (pc' := 27) d_301_24 rfl st_301_166 rfl ?_
    exact g_lret d_301_27 rt_301 h
  · replace h := h.2 c
    refine g_iloadn (pc' := 16) d_301_15 rfl rfl ?_
    refine g_iconst (pc' := 17) d_301_16 rfl rfl ?_
    refine g_iconst (pc' := 18) d_301_17 rfl rfl ?_
    obtain ⟨P12, dP13, w9, hk10, hC11, h⟩ := h
    refine g_callS (pc' := 21) d_301_18 rfl st_301_137 (Or.inl rfl) na_199 ml_199 rfl rfl rfl rm_301_199 rfl rfl hk10 ?_
    refine gz_bt_ne (pc' := 24) (pt := 28) d_301_21 (by decide) rfl (fun c => ?_) (fun c => ?_)
    · replace h := h.1 c
      refine g_aloadn (pc' := 29) d_301_28 rfl rfl ?_
      refine g_iloadn (pc' := 30) d_301_29 rfl rfl ?_
      obtain ⟨w14, hk15, hC16, h⟩ := h
      refine gz_callV (pc' := 33) d_301_30 rfl st_301_365 na_299 ml_299 rfl rfl rfl rm_301_299 rfl rfl ow_299 (ko_39 hC11) hk15 ?_
      refine g_lconst (pc' := 34) (v := jL 0) d_301_33 rfl cl_0 ?_
      refine g_lstoren (pc' := 35) (l' := [some (.ref 39), some (.int (jI z1)), some (.int (jI z2)), some (.long (jL 0)), none, none, none, none, none, none, none, none]) d_301_34 rfl ml_301 rfl rfl ?_
      refine g_lconst (pc' := 36) (v := jL 0) d_301_35 rfl cl_0 ?_
      refine g_lstore (pc' := 38) (l' := [some (.ref 39), some (.int (jI z1)), some (.int (jI z2)), some (.long (jL 0)), none, some (.long (jL 0)), none, none, none, none, none, none]) d_301_36 rfl ml_301 rfl rfl ?_
      refine g_iconst (pc' := 39) d_301_38 rfl rfl ?_
      refine g_istore (pc' := 41) (l' := [some (.ref 39), some (.int (jI z1)), some (.int (jI z2)), some (.long (jL 0)), none, some (.long (jL 0)), none, some (.int (jI 0)), none, none, none, none]) d_301_39 rfl ml_301 rfl rfl ?_
      exact h
    · replace h := h.2 c
      refine g_ldc2 (pc' := 27) d_301_24 rfl st_301_166 rfl ?_
      exact g_lret d_301_27 rt_301 h
theorem Z_301 {z1 : Int} {z2 : Int} {w : xW} {r : Option Value × xW} (hC : CS w) (h : ∀ w2, w2 = pF w 39 0 (.int (jI 0)) → CS w2 → ∃ (P7 : Prop) (dP8 : Decidable P7) (w4 : xW), xCall 199 [.int (jI z1), .int (jI 0), .int (jI 20)] w2 (some (.int (bz P7)), w4) ∧ CS w4 ∧ (¬ P7 → r = (some (.long (jL (-9223372036854775808))), w4)) ∧ (P7 → ∃ (P12 : Prop) (dP13 : Decidable P12) (w9 : xW), xCall 199 [.int (jI z2), .int (jI 0), .int (jI 2)] w4 (some (.int (bz P12)), w9) ∧ CS w9 ∧ (P12 → ∃ w14, xCall 299 [.ref 39, .int (jI z1)] w9 (none, w14) ∧ CS w14 ∧ xGo 301 41 [some (.ref 39), some (.int (jI z1)), some (.int (jI z2)), some (.long (jL 0)), none, some (.long (jL 0)), none, some (.int (jI 0)), none, none, none, none] [] w14 r) ∧ (¬ P12 → r = (some (.long (jL (-9223372036854775808))), w9)))) : xCall 301 [.ref 39, .int (jI z1), .int (jI z2)] w r := E_301 (Z_301_0 hC h)
theorem Z_301_41 {z1 : Int} {z2 : Int} {z3 : Int} {z5 : Int} {z7 : Int} {w : xW} {r : Option Value × xW} (hC : CS w) (h : in32 z7 ∧ in32 z1 ∧ (z1 < z7 → ∃ r6 w3, xCall 193 [.long (jL z5), .long (jL 232792560)] w (some (.long (jL r6)), w3) ∧ CS w3 ∧ ∃ w7, xCall 194 [.ref 39, .ref 62, .int (jI 0), .long (jL (z3 + r6)), .long (jL (z5 - (r6 * 232792560))), .long (jL 232792560)] w3 (none, w7) ∧ CS w7 ∧ 0 ≤ z2 ∧ ∃ x11, rL w7 62 (z2).toNat x11 ∧ r = (some (.long (jL x11)), w7)) ∧ (z7 ≤ z1 → 0 ≤ z7 ∧ ∃ x14, rL w 64 (z7).toNat x14 ∧ in64 x14 ∧ (x14 ≠ (-9223372036854775808) → 0 ≤ z7 ∧ ∃ x18, rL w 64 (z7).toNat x18 ∧ in32 (z7 + 1) ∧ in64 x18 ∧ z7 + 1 ≠ 0 ∧ ∃ y23, Int.tdiv x18 (z7 + 1) = y23 ∧ 0 ≤ z7 ∧ ∃ x26, rL w 64 (z7).toNat x26 ∧ in64 x26 ∧ z7 + 1 ≠ 0 ∧ ∃ y30, Int.tmod x26 (z7 + 1) = y30 ∧ z7 + 1 ≠ 0 ∧ ∃ y33, Int.tdiv 232792560 (z7 + 1) = y33 ∧ ∃ y35, Int.tmod z7 2 = y35 ∧ in32 y35 ∧ (y35 ≠ 0 → ∃ y38, Int.tmod z7 2 = y38 ∧ in32 y38 ∧ (y38 ≠ 0 → xGo 301 41 [some (.ref 39), some (.int (jI z1)), some (.int (jI z2)), some (.long (jL (z3 + (-y23)))), none, some (.long (jL (z5 + (-(y30 * y33))))), none, some (.int (jI (z7 + 1))), none, none, none, none] [] w r) ∧ (y38 = 0 → xGo 301 41 [some (.ref 39), some (.int (jI z1)), some (.int (jI z2)), some (.long (jL (z3 + (-y23)))), none, some (.long (jL (z5 + (y30 * y33)))), none, some (.int (jI (z7 + 1))), none, none, none, none] [] w r)) ∧ (y35 = 0 → ∃ y41, Int.tmod z7 2 = y41 ∧ in32 y41 ∧ (y41 ≠ 0 → xGo 301 41 [some (.ref 39), some (.int (jI z1)), some (.int (jI z2)), some (.long (jL (z3 + y23))), none, some (.long (jL (z5 + (-(y30 * y33))))), none, some (.int (jI (z7 + 1))), none, none, none, none] [] w r) ∧ (y41 = 0 → xGo 301 41 [some (.ref 39), some (.int (jI z1)), some (.int (jI z2)), some (.long (jL (z3 + y23))), none, some (.long (jL (z5 + (y30 * y33)))), none, some (.int (jI (z7 + 1))), none, none, none, none] [] w r))) ∧ (x14 = (-9223372036854775808) → r = (some (.long (jL (-9223372036854775808))), w)))) : xGo 301 41 [some (.ref 39), some (.int (jI z1)), some (.int (jI z2)), some (.long (jL z3)), none, some (.long (jL z5)), none, some (.int (jI z7)), none, none, none, none] [] w r := by
  refine g_iload (pc' := 43) d_301_41 rfl rfl ?_
  refine g_iloadn (pc' := 44) d_301_43 rfl rfl ?_
  obtain ⟨hc1, h⟩ := h
  obtain ⟨hc2, h⟩ := h
  refine gz_ic_gt (pc' := 47) (pt := 149) d_301_44 (by decide) rfl hc1 hc2 (fun c => ?_) (fun c => ?_)
  · replace h := h.1 c
    refine g_lload (pc' := 151) d_301_149 rfl rfl ?_
    refine g_ldc2 (pc' := 154) d_301_151 rfl st_301_368 rfl ?_
    obtain ⟨r6, w3, hk4, hC5, h⟩ := h
    refine g_callS (pc' := 157) d_301_154 rfl st_301_131 (Or.inl rfl) na_193 ml_193 rfl rfl rfl rm_301_193 rfl rfl hk4 ?_
    refine g_lstore (pc' := 159) (l' := [some (.ref 39), some (.int (jI z1)), some (.int (jI z2)), some (.long (jL z3)), none, some (.long (jL z5)), none, some (.long (jL r6)), none, none, none, none]) d_301_157 rfl ml_301 rfl rfl ?_
    refine g_aloadn (pc' := 160) d_301_159 rfl rfl ?_
    refine g_aloadn (pc' := 161) d_301_160 rfl rfl ?_
    refine gz_getR (pc' := 164) d_301_161 rfl st_301_81 (kr_39_29 hC5) ?_
    refine g_iconst (pc' := 165) d_301_164 rfl rfl ?_
    refine g_lloadn (pc' := 166) d_301_165 rfl rfl ?_
    refine g_lload (pc' := 168) d_301_166 rfl rfl ?_
    refine gz_ladd (pc' := 169) d_301_168 rfl ?_
    refine g_lload (pc' := 171) d_301_169 rfl rfl ?_
    refine g_lload (pc' := 173) d_301_171 rfl rfl ?_
    refine g_ldc2 (pc' := 176) d_301_173 rfl st_301_368 rfl ?_
    refine gz_lmul (pc' := 177) d_301_176 rfl ?_
    refine gz_lsub (pc' := 178) d_301_177 rfl ?_
    refine g_ldc2 (pc' := 181) d_301_178 rfl st_301_368 rfl ?_
    obtain ⟨w7, hk8, hC9, h⟩ := h
    refine gz_callV (pc' := 184) d_301_181 rfl st_301_134 na_194 ml_194 rfl rfl rfl rm_301_194 rfl rfl ow_194 (ko_39 hC5) hk8 ?_
    refine g_aloadn (pc' := 185) d_301_184 rfl rfl ?_
    refine gz_getR (pc' := 188) d_301_185 rfl st_301_81 (kr_39_29 hC9) ?_
    refine g_iloadn (pc' := 189) d_301_188 rfl rfl ?_
    obtain ⟨hc10, h⟩ := h
    obtain ⟨x11, hv12, h⟩ := h
    refine gz_lald (pc' := 190) d_301_189 rfl hc10 hv12 ?_
    exact g_lret d_301_190 rt_301 h
  · replace h := h.2 c
    refine g_aloadn (pc' := 48) d_301_47 rfl rfl ?_
    refine gz_getR (pc' := 51) d_301_48 rfl st_301_87 (kr_39_31 hC) ?_
    refine g_iload (pc' := 53) d_301_51 rfl rfl ?_
    obtain ⟨hc13, h⟩ := h
    obtain ⟨x14, hv15, h⟩ := h
    refine gz_lald (pc' := 54) d_301_53 rfl hc13 hv15 ?_
    refine g_ldc2 (pc' := 57) d_301_54 rfl st_301_166 rfl ?_
    obtain ⟨hc16, h⟩ := h
    refine gz_lc_ne (pc' := 61) (pm := 58) (pt := 65) d_301_57 rfl d_301_58 (by decide) rfl hc16 (s64 (z := (-9223372036854775808))) (fun c => ?_) (fun c => ?_)
    · replace h := h.1 c
      refine g_aloadn (pc' := 66) d_301_65 rfl rfl ?_
      refine gz_getR (pc' := 69) d_301_66 rfl st_301_87 (kr_39_31 hC) ?_
      refine g_iload (pc' := 71) d_301_69 rfl rfl ?_
      obtain ⟨hc17, h⟩ := h
      obtain ⟨x18, hv19, h⟩ := h
      refine gz_lald (pc' := 72) d_301_71 rfl hc17 hv19 ?_
      refine g_iload (pc' := 74) d_301_72 rfl rfl ?_
      refine g_iconst (pc' := 75) d_301_74 rfl rfl ?_
      refine gz_iadd (pc' := 76) d_301_75 rfl ?_
      obtain ⟨hc20, h⟩ := h
      refine gz_i2l (pc' := 77) d_301_76 rfl hc20 ?_
      obtain ⟨hc21, h⟩ := h
      obtain ⟨hc22, h⟩ := h
      obtain ⟨y23, hz24, h⟩ := h
      refine gz_ldiv (pc' := 78) d_301_77 rfl hc21 (in3264 hc20) hc22 hz24 ?_
      refine g_lstore (pc' := 80) (l' := [some (.ref 39), some (.int (jI z1)), some (.int (jI z2)), some (.long (jL z3)), none, some (.long (jL z5)), none, some (.int (jI z7)), some (.long (jL y23)), none, none, none]) d_301_78 rfl ml_301 rfl rfl ?_
      refine g_aloadn (pc' := 81) d_301_80 rfl rfl ?_
      refine gz_getR (pc' := 84) d_301_81 rfl st_301_87 (kr_39_31 hC) ?_
      refine g_iload (pc' := 86) d_301_84 rfl rfl ?_
      obtain ⟨hc25, h⟩ := h
      obtain ⟨x26, hv27, h⟩ := h
      refine gz_lald (pc' := 87) d_301_86 rfl hc25 hv27 ?_
      refine g_iload (pc' := 89) d_301_87 rfl rfl ?_
      refine g_iconst (pc' := 90) d_301_89 rfl rfl ?_
      refine gz_iadd (pc' := 91) d_301_90 rfl ?_
      refine gz_i2l (pc' := 92) d_301_91 rfl hc20 ?_
      obtain ⟨hc28, h⟩ := h
      obtain ⟨hc29, h⟩ := h
      obtain ⟨y30, hz31, h⟩ := h
      refine gz_lrem (pc' := 93) d_301_92 rfl hc28 (in3264 hc20) hc29 hz31 ?_
      refine g_ldc2 (pc' := 96) d_301_93 rfl st_301_368 rfl ?_
      refine g_iload (pc' := 98) d_301_96 rfl rfl ?_
      refine g_iconst (pc' := 99) d_301_98 rfl rfl ?_
      refine gz_iadd (pc' := 100) d_301_99 rfl ?_
      refine gz_i2l (pc' := 101) d_301_100 rfl hc20 ?_
      obtain ⟨hc32, h⟩ := h
      obtain ⟨y33, hz34, h⟩ := h
      refine gz_ldiv (pc' := 102) d_301_101 rfl (s64 (z := 232792560)) (in3264 hc20) hc32 hz34 ?_
      refine gz_lmul (pc' := 103) d_301_102 rfl ?_
      refine g_lstore (pc' := 105) (l' := [some (.ref 39), some (.int (jI z1)), some (.int (jI z2)), some (.long (jL z3)), none, some (.long (jL z5)), none, some (.int (jI z7)), some (.long (jL y23)), none, some (.long (jL (y30 * y33))), none]) d_301_103 rfl ml_301 rfl rfl ?_
      refine g_lloadn (pc' := 106) d_301_105 rfl rfl ?_
      refine g_iload (pc' := 108) d_301_106 rfl rfl ?_
      refine g_iconst (pc' := 109) d_301_108 rfl rfl ?_
      obtain ⟨y35, hz36, h⟩ := h
      refine gz_irem (pc' := 110) d_301_109 rfl hc1 (s32 (z := 2)) (by decide) hz36 ?_
      obtain ⟨hc37, h⟩ := h
      refine gz_if_ne (pc' := 113) (pt := 118) d_301_110 (by decide) rfl hc37 (fun c => ?_) (fun c => ?_)
      · replace h := h.1 c
        refine g_lload (pc' := 120) d_301_118 rfl rfl ?_
        refine gz_lneg (pc' := 121) d_301_120 rfl ?_
        refine gz_ladd (pc' := 122) d_301_121 rfl ?_
        refine g_lstoren (pc' := 123) (l' := [some (.ref 39), some (.int (jI z1)), some (.int (jI z2)), some (.long (jL (z3 + (-y23)))), none, some (.long (jL z5)), none, some (.int (jI z7)), some (.long (jL y23)), none, some (.long (jL (y30 * y33))), none]) d_301_122 rfl ml_301 rfl rfl ?_
        refine g_lload (pc' := 125) d_301_123 rfl rfl ?_
        refine g_iload (pc' := 127) d_301_125 rfl rfl ?_
        refine g_iconst (pc' := 128) d_301_127 rfl rfl ?_
        obtain ⟨y38, hz39, h⟩ := h
        refine gz_irem (pc' := 129) d_301_128 rfl hc1 (s32 (z := 2)) (by decide) hz39 ?_
        obtain ⟨hc40, h⟩ := h
        refine gz_if_ne (pc' := 132) (pt := 137) d_301_129 (by decide) rfl hc40 (fun c => ?_) (fun c => ?_)
        · replace h := h.1 c
          refine g_lload (pc' := 139) d_301_137 rfl rfl ?_
          refine gz_lneg (pc' := 140) d_301_139 rfl ?_
          refine gz_ladd (pc' := 141) d_301_140 rfl ?_
          refine g_lstore (pc' := 143) (l' := [some (.ref 39), some (.int (jI z1)), some (.int (jI z2)), some (.long (jL (z3 + (-y23)))), none, some (.long (jL (z5 + (-(y30 * y33))))), none, some (.int (jI z7)), some (.long (jL y23)), none, some (.long (jL (y30 * y33))), none]) d_301_141 rfl ml_301 rfl rfl ?_
          refine gz_iinc (pc' := 146) (l' := [some (.ref 39), some (.int (jI z1)), some (.int (jI z2)), some (.long (jL (z3 + (-y23)))), none, some (.long (jL (z5 + (-(y30 * y33))))), none, some (.int (jI (z7 + 1))), some (.long (jL y23)), none, some (.long (jL (y30 * y33))), none]) d_301_143 rfl rfl ml_301 rfl rfl ?_
          refine g_goto (pt := 41) d_301_146 (by decide) ?_
          exact xGo.more (xle_s (xle_s (xle_s (xle_s (xle_n (xle_s (xle_n (xle_s (xle_n (xle_n (xle_n (xle_n xle_0)))))))))))) h
        · replace h := h.2 c
          refine g_lload (pc' := 134) d_301_132 rfl rfl ?_
          refine g_goto (pt := 140) d_301_134 (by decide) ?_
          refine gz_ladd (pc' := 141) d_301_140 rfl ?_
          refine g_lstore (pc' := 143) (l' := [some (.ref 39), some (.int (jI z1)), some (.int (jI z2)), some (.long (jL (z3 + (-y23)))), none, some (.long (jL (z5 + (y30 * y33)))), none, some (.int (jI z7)), some (.long (jL y23)), none, some (.long (jL (y30 * y33))), none]) d_301_141 rfl ml_301 rfl rfl ?_
          refine gz_iinc (pc' := 146) (l' := [some (.ref 39), some (.int (jI z1)), some (.int (jI z2)), some (.long (jL (z3 + (-y23)))), none, some (.long (jL (z5 + (y30 * y33)))), none, some (.int (jI (z7 + 1))), some (.long (jL y23)), none, some (.long (jL (y30 * y33))), none]) d_301_143 rfl rfl ml_301 rfl rfl ?_
          refine g_goto (pt := 41) d_301_146 (by decide) ?_
          exact xGo.more (xle_s (xle_s (xle_s (xle_s (xle_n (xle_s (xle_n (xle_s (xle_n (xle_n (xle_n (xle_n xle_0)))))))))))) h
      · replace h := h.2 c
        refine g_lload (pc' := 115) d_301_113 rfl rfl ?_
        refine g_goto (pt := 121) d_301_115 (by decide) ?_
        refine gz_ladd (pc' := 122) d_301_121 rfl ?_
        refine g_lstoren (pc' := 123) (l' := [some (.ref 39), some (.int (jI z1)), some (.int (jI z2)), some (.long (jL (z3 + y23))), none, some (.long (jL z5)), none, some (.int (jI z7)), some (.long (jL y23)), none, some (.long (jL (y30 * y33))), none]) d_301_122 rfl ml_301 rfl rfl ?_
        refine g_lload (pc' := 125) d_301_123 rfl rfl ?_
        refine g_iload (pc' := 127) d_301_125 rfl rfl ?_
        refine g_iconst (pc' := 128) d_301_127 rfl rfl ?_
        obtain ⟨y41, hz42, h⟩ := h
        refine gz_irem (pc' := 129) d_301_128 rfl hc1 (s32 (z := 2)) (by decide) hz42 ?_
        obtain ⟨hc43, h⟩ := h
        refine gz_if_ne (pc' := 132) (pt := 137) d_301_129 (by decide) rfl hc43 (fun c => ?_) (fun c => ?_)
        · replace h := h.1 c
          refine g_lload (pc' := 139) d_301_137 rfl rfl ?_
          refine gz_lneg (pc' := 140) d_301_139 rfl ?_
          refine gz_ladd (pc' := 141) d_301_140 rfl ?_
          refine g_lstore (pc' := 143) (l' := [some (.ref 39), some (.int (jI z1)), some (.int (jI z2)), some (.long (jL (z3 + y23))), none, some (.long (jL (z5 + (-(y30 * y33))))), none, some (.int (jI z7)), some (.long (jL y23)), none, some (.long (jL (y30 * y33))), none]) d_301_141 rfl ml_301 rfl rfl ?_
          refine gz_iinc (pc' := 146) (l' := [some (.ref 39), some (.int (jI z1)), some (.int (jI z2)), some (.long (jL (z3 + y23))), none, some (.long (jL (z5 + (-(y30 * y33))))), none, some (.int (jI (z7 + 1))), some (.long (jL y23)), none, some (.long (jL (y30 * y33))), none]) d_301_143 rfl rfl ml_301 rfl rfl ?_
          refine g_goto (pt := 41) d_301_146 (by decide) ?_
          exact xGo.more (xle_s (xle_s (xle_s (xle_s (xle_n (xle_s (xle_n (xle_s (xle_n (xle_n (xle_n (xle_n xle_0)))))))))))) h
        · replace h := h.2 c
          refine g_lload (pc' := 134) d_301_132 rfl rfl ?_
          refine g_goto (pt := 140) d_301_134 (by decide) ?_
          refine gz_ladd (pc' := 141) d_301_140 rfl ?_
          refine g_lstore (pc' := 143) (l' := [some (.ref 39), some (.int (jI z1)), some (.int (jI z2)), some (.long (jL (z3 + y23))), none, some (.long (jL (z5 + (y30 * y33)))), none, some (.int (jI z7)), some (.long (jL y23)), none, some (.long (jL (y30 * y33))), none]) d_301_141 rfl ml_301 rfl rfl ?_
          refine gz_iinc (pc' := 146) (l' := [some (.ref 39), some (.int (jI z1)), some (.int (jI z2)), some (.long (jL (z3 + y23))), none, some (.long (jL (z5 + (y30 * y33)))), none, some (.int (jI (z7 + 1))), some (.long (jL y23)), none, some (.long (jL (y30 * y33))), none]) d_301_143 rfl rfl ml_301 rfl rfl ?_
          refine g_goto (pt := 41) d_301_146 (by decide) ?_
          exact xGo.more (xle_s (xle_s (xle_s (xle_s (xle_n (xle_s (xle_n (xle_s (xle_n (xle_n (xle_n (xle_n xle_0)))))))))))) h
    · replace h := h.2 c
      refine g_ldc2 (pc' := 64) d_301_61 rfl st_301_166 rfl ?_
      exact g_lret d_301_64 rt_301 h
theorem Z_302_0 {z1 : Int} {w : xW} {r : Option Value × xW} (hC : CS w) (h : ∀ w2, w2 = pF w 39 0 (.int (jI 0)) → CS w2 → ∃ (P7 : Prop) (dP8 : Decidable P7) (w4 : xW), xCall 199 [.int (jI z1), .int (jI 0), .int (jI 23)] w2 (some (.int (bz P7)), w4) ∧ CS w4 ∧ (P7 → ∀ w10, w10 = pL w4 66 0 (jL 1) → CS w10 → xGo 302 28 [some (.ref 39), some (.int (jI z1)), some (.int (jI 1)), none] [] w10 r) ∧ (¬ P7 → r = (some (.long (jL (-9223372036854775808))), w4))) : xGo 302 0 [some (.ref 39), some (.int (jI z1)), none, none] [] w r := by
  refine g_aloadn (pc' := 1) d_302_0 rfl rfl ?_
  refine g_iconst (pc' := 2) d_302_1 rfl rfl ?_
  have hpf1 := (kf_39_0 hC)
  have hC3 : CS (pF w 39 0 (.int (jI 0))) := ks_39_0 hC
  have h := h _ rfl hC3
  refine gz_putf (pc' := 5) d_302_2 rfl st_302_118 ft_12_0 ff_12_0 rfl (Or.inl rfl) hpf1 ?_
  refine g_iloadn (pc' := 6) d_302_5 rfl rfl ?_
  refine g_iconst (pc' := 7) d_302_6 rfl rfl ?_
  refine g_bipush (pc' := 9) (v := jI 23) d_302_7 rfl (by decide) ?_
  obtain ⟨P7, dP8, w4, hk5, hC6, h⟩ := h
  refine g_callS (pc' := 12) d_302_9 rfl st_302_137 (Or.inl rfl) na_199 ml_199 rfl rfl rfl rm_302_199 rfl rfl hk5 ?_
  refine gz_bt_ne (pc' := 15) (pt := 19) d_302_12 (by decide) rfl (fun c => ?_) (fun c => ?_)
  · replace h := h.1 c
    refine g_aloadn (pc' := 20) d_302_19 rfl rfl ?_
    refine gz_getR (pc' := 23) d_302_20 rfl st_302_93 (kr_39_33 hC6) ?_
    refine g_iconst (pc' := 24) d_302_23 rfl rfl ?_
    refine g_lconst (pc' := 25) (v := jL 1) d_302_24 rfl cl_1 ?_
    have hs9 := (kh_66 (i := 0) hC6 ⟨by decide, by decide⟩)
    have hC11 : CS (pL w4 66 0 (jL 1)) := hC6.putL
    have h := h _ rfl hC11
    refine gz_last (pc' := 26) d_302_25 rfl hs9 ?_
    refine g_iconst (pc' := 27) d_302_26 rfl rfl ?_
    refine g_istoren (pc' := 28) (l' := [some (.ref 39), some (.int (jI z1)), some (.int (jI 1)), none]) d_302_27 rfl ml_302 rfl rfl ?_
    exact h
  · replace h := h.2 c
    refine g_ldc2 (pc' := 18) d_302_15 rfl st_302_166 rfl ?_
    exact g_lret d_302_18 rt_302 h
theorem Z_302 {z1 : Int} {w : xW} {r : Option Value × xW} (hC : CS w) (h : ∀ w2, w2 = pF w 39 0 (.int (jI 0)) → CS w2 → ∃ (P7 : Prop) (dP8 : Decidable P7) (w4 : xW), xCall 199 [.int (jI z1), .int (jI 0), .int (jI 23)] w2 (some (.int (bz P7)), w4) ∧ CS w4 ∧ (P7 → ∀ w10, w10 = pL w4 66 0 (jL 1) → CS w10 → xGo 302 28 [some (.ref 39), some (.int (jI z1)), some (.int (jI 1)), none] [] w10 r) ∧ (¬ P7 → r = (some (.long (jL (-9223372036854775808))), w4))) : xCall 302 [.ref 39, .int (jI z1)] w r := E_302 (Z_302_0 hC h)
theorem Z_302_28 {z1 : Int} {z2 : Int} {w : xW} {r : Option Value × xW} (hC : CS w) (h : in32 z2 ∧ in32 z1 ∧ (z1 < z2 → 0 ≤ z1 ∧ ∃ x4, rL w 66 (z1).toNat x4 ∧ r = (some (.long (jL x4)), w)) ∧ (z2 ≤ z1 → ∀ w7, w7 = pL w 65 0 (jL 0) → CS w7 → xGo 302 42 [some (.ref 39), some (.int (jI z1)), some (.int (jI z2)), some (.int (jI 1))] [] w7 r)) : xGo 302 28 [some (.ref 39), some (.int (jI z1)), some (.int (jI z2)), none] [] w r := by
  refine g_iloadn (pc' := 29) d_302_28 rfl rfl ?_
  refine g_iloadn (pc' := 30) d_302_29 rfl rfl ?_
  obtain ⟨hc1, h⟩ := h
  obtain ⟨hc2, h⟩ := h
  refine gz_ic_gt (pc' := 33) (pt := 107) d_302_30 (by decide) rfl hc1 hc2 (fun c => ?_) (fun c => ?_)
  · replace h := h.1 c
    refine g_aloadn (pc' := 108) d_302_107 rfl rfl ?_
    refine gz_getR (pc' := 111) d_302_108 rfl st_302_93 (kr_39_33 hC) ?_
    refine g_iloadn (pc' := 112) d_302_111 rfl rfl ?_
    obtain ⟨hc3, h⟩ := h
    obtain ⟨x4, hv5, h⟩ := h
    refine gz_lald (pc' := 113) d_302_112 rfl hc3 hv5 ?_
    exact g_lret d_302_113 rt_302 h
  · replace h := h.2 c
    refine g_aloadn (pc' := 34) d_302_33 rfl rfl ?_
    refine gz_getR (pc' := 37) d_302_34 rfl st_302_90 (kr_39_32 hC) ?_
    refine g_iconst (pc' := 38) d_302_37 rfl rfl ?_
    refine g_lconst (pc' := 39) (v := jL 0) d_302_38 rfl cl_0 ?_
    have hs6 := (kh_65 (i := 0) hC ⟨by decide, by decide⟩)
    have hC8 : CS (pL w 65 0 (jL 0)) := hC.putL
    have h := h _ rfl hC8
    refine gz_last (pc' := 40) d_302_39 rfl hs6 ?_
    refine g_iconst (pc' := 41) d_302_40 rfl rfl ?_
    refine g_istoren (pc' := 42) (l' := [some (.ref 39), some (.int (jI z1)), some (.int (jI z2)), some (.int (jI 1))]) d_302_41 rfl ml_302 rfl rfl ?_
    exact h
theorem Z_302_42 {z1 : Int} {z2 : Int} {z3 : Int} {w : xW} {r : Option Value × xW} (hC : CS w) (h : in32 z3 ∧ in32 z2 ∧ (z2 < z3 → xGo 302 78 [some (.ref 39), some (.int (jI z1)), some (.int (jI z2)), some (.int (jI 0))] [] w r) ∧ (z3 ≤ z2 → 0 ≤ z3 - 1 ∧ ∃ x4, rL w 65 (z3 - 1).toNat x4 ∧ 0 ≤ z2 - z3 ∧ ∃ x7, rL w 66 (z2 - z3).toNat x7 ∧ (0 ≤ z3 ∧ z3 < 24) ∧ ∀ w11, w11 = pL w 65 (z3).toNat (jL (x4 + x7)) → CS w11 → xGo 302 42 [some (.ref 39), some (.int (jI z1)), some (.int (jI z2)), some (.int (jI (z3 + 1)))] [] w11 r)) : xGo 302 42 [some (.ref 39), some (.int (jI z1)), some (.int (jI z2)), some (.int (jI z3))] [] w r := by
  refine g_iloadn (pc' := 43) d_302_42 rfl rfl ?_
  refine g_iloadn (pc' := 44) d_302_43 rfl rfl ?_
  obtain ⟨hc1, h⟩ := h
  obtain ⟨hc2, h⟩ := h
  refine gz_ic_gt (pc' := 47) (pt := 76) d_302_44 (by decide) rfl hc1 hc2 (fun c => ?_) (fun c => ?_)
  · replace h := h.1 c
    refine g_iconst (pc' := 77) d_302_76 rfl rfl ?_
    refine g_istoren (pc' := 78) (l' := [some (.ref 39), some (.int (jI z1)), some (.int (jI z2)), some (.int (jI 0))]) d_302_77 rfl ml_302 rfl rfl ?_
    exact h
  · replace h := h.2 c
    refine g_aloadn (pc' := 48) d_302_47 rfl rfl ?_
    refine gz_getR (pc' := 51) d_302_48 rfl st_302_90 (kr_39_32 hC) ?_
    refine g_iloadn (pc' := 52) d_302_51 rfl rfl ?_
    refine g_aloadn (pc' := 53) d_302_52 rfl rfl ?_
    refine gz_getR (pc' := 56) d_302_53 rfl st_302_90 (kr_39_32 hC) ?_
    refine g_iloadn (pc' := 57) d_302_56 rfl rfl ?_
    refine g_iconst (pc' := 58) d_302_57 rfl rfl ?_
    refine gz_isub (pc' := 59) d_302_58 rfl ?_
    obtain ⟨hc3, h⟩ := h
    obtain ⟨x4, hv5, h⟩ := h
    refine gz_lald (pc' := 60) d_302_59 rfl hc3 hv5 ?_
    refine g_aloadn (pc' := 61) d_302_60 rfl rfl ?_
    refine gz_getR (pc' := 64) d_302_61 rfl st_302_93 (kr_39_33 hC) ?_
    refine g_iloadn (pc' := 65) d_302_64 rfl rfl ?_
    refine g_iloadn (pc' := 66) d_302_65 rfl rfl ?_
    refine gz_isub (pc' := 67) d_302_66 rfl ?_
    obtain ⟨hc6, h⟩ := h
    obtain ⟨x7, hv8, h⟩ := h
    refine gz_lald (pc' := 68) d_302_67 rfl hc6 hv8 ?_
    refine gz_ladd (pc' := 69) d_302_68 rfl ?_
    obtain ⟨hc9, h⟩ := h
    have hs10 := (kh_65 hC hc9)
    have hC12 : CS (pL w 65 (z3).toNat (jL (x4 + x7))) := hC.putL
    have h := h _ rfl hC12
    refine gz_last (pc' := 70) d_302_69 rfl hs10 ?_
    refine gz_iinc (pc' := 73) (l' := [some (.ref 39), some (.int (jI z1)), some (.int (jI z2)), some (.int (jI (z3 + 1)))]) d_302_70 rfl rfl ml_302 rfl rfl ?_
    refine g_goto (pt := 42) d_302_73 (by decide) ?_
    exact h
theorem Z_302_78 {z1 : Int} {z2 : Int} {z3 : Int} {w : xW} {r : Option Value × xW} (hC : CS w) (h : in32 z3 ∧ in32 z2 ∧ (z2 < z3 → xGo 302 28 [some (.ref 39), some (.int (jI z1)), some (.int (jI (z2 + 1))), none] [] w r) ∧ (z3 ≤ z2 → 0 ≤ z3 ∧ ∃ x4, rL w 65 (z3).toNat x4 ∧ (0 ≤ z3 ∧ z3 < 24) ∧ ∀ w8, w8 = pL w 66 (z3).toNat (jL x4) → CS w8 → xGo 302 78 [some (.ref 39), some (.int (jI z1)), some (.int (jI z2)), some (.int (jI (z3 + 1)))] [] w8 r)) : xGo 302 78 [some (.ref 39), some (.int (jI z1)), some (.int (jI z2)), some (.int (jI z3))] [] w r := by
  refine g_iloadn (pc' := 79) d_302_78 rfl rfl ?_
  refine g_iloadn (pc' := 80) d_302_79 rfl rfl ?_
  obtain ⟨hc1, h⟩ := h
  obtain ⟨hc2, h⟩ := h
  refine gz_ic_gt (pc' := 83) (pt := 101) d_302_80 (by decide) rfl hc1 hc2 (fun c => ?_) (fun c => ?_)
  · replace h := h.1 c
    refine gz_iinc (pc' := 104) (l' := [some (.ref 39), some (.int (jI z1)), some (.int (jI (z2 + 1))), some (.int (jI z3))]) d_302_101 rfl rfl ml_302 rfl rfl ?_
    refine g_goto (pt := 28) d_302_104 (by decide) ?_
    exact xGo.more (xle_s (xle_s (xle_s (xle_n xle_0)))) h
  · replace h := h.2 c
    refine g_aloadn (pc' := 84) d_302_83 rfl rfl ?_
    refine gz_getR (pc' := 87) d_302_84 rfl st_302_93 (kr_39_33 hC) ?_
    refine g_iloadn (pc' := 88) d_302_87 rfl rfl ?_
    refine g_aloadn (pc' := 89) d_302_88 rfl rfl ?_
    refine gz_getR (pc' := 92) d_302_89 rfl st_302_90 (kr_39_32 hC) ?_
    refine g_iloadn (pc' := 93) d_302_92 rfl rfl ?_
    obtain ⟨hc3, h⟩ := h
    obtain ⟨x4, hv5, h⟩ := h
    refine gz_lald (pc' := 94) d_302_93 rfl hc3 hv5 ?_
    obtain ⟨hc6, h⟩ := h
    have hs7 := (kh_66 hC hc6)
    have hC9 : CS (pL w 66 (z3).toNat (jL x4)) := hC.putL
    have h := h _ rfl hC9
    refine gz_last (pc' := 95) d_302_94 rfl hs7 ?_
    refine gz_iinc (pc' := 98) (l' := [some (.ref 39), some (.int (jI z1)), some (.int (jI z2)), some (.int (jI (z3 + 1)))]) d_302_95 rfl rfl ml_302 rfl rfl ?_
    refine g_goto (pt := 78) d_302_98 (by decide) ?_
    exact h
theorem Z_303_0 {z1 : Int} {w : xW} {r : Option Value × xW} (hC : CS w) (h : ∀ w2, w2 = pF w 39 0 (.int (jI 0)) → CS w2 → ∃ (P7 : Prop) (dP8 : Decidable P7) (w4 : xW), xCall 199 [.int (jI z1), .int (jI 2), .int (jI 22)] w2 (some (.int (bz P7)), w4) ∧ CS w4 ∧ (¬ P7 → r = (some (.long (jL (-9223372036854775808))), w4)) ∧ (P7 → in32 z1 ∧ ∃ y10, Int.tmod z1 2 = y10 ∧ in32 y10 ∧ (y10 = 1 → r = (some (.long (jL (-9223372036854775808))), w4)) ∧ (y10 ≠ 1 → ∃ x13, fI w4 39 12 4 x13 ∧ in32 x13 ∧ (z1 ≤ x13 → ∃ y16, jL 1 <<< ((jI z1).toInt64 &&& 63) = jL y16 ∧ ∃ y18, jL 1 <<< ((jI z1).toInt64 &&& 63) = jL y18 ∧ 0 ≤ (3 * z1) + 2 ∧ ∃ x21, rL w4 41 ((3 * z1) + 2).toNat x21 ∧ ∃ r26 w23, xCall 195 [.long (jL (y16 * (y18 - 1))), .long (jL (x21 * z1))] w4 (some (.long (jL r26)), w23) ∧ CS w23 ∧ 0 ≤ 3 * z1 ∧ ∃ x28, rL w23 41 (3 * z1).toNat x28 ∧ 0 ≤ (3 * z1) + 2 ∧ ∃ x31, rL w23 41 ((3 * z1) + 2).toNat x31 ∧ 0 ≤ (3 * z1) + 1 ∧ ∃ x34, rL w23 41 ((3 * z1) + 1).toNat x34 ∧ ∃ r39 w36, xCall 304 [.long (jL ((x28 * x31) + x34))] w23 (some (.long (jL r39)), w36) ∧ CS w36 ∧ in64 (x21 * z1) ∧ in64 r26 ∧ r26 ≠ 0 ∧ ∃ y43, Int.tdiv (x21 * z1) r26 = y43 ∧ in64 r39 ∧ in64 y43 ∧ y43 ≠ 0 ∧ ∃ y48, Int.tmod r39 y43 = y48 ∧ in64 y48 ∧ (y48 ≠ 0 → r = (some (.long (jL (-9223372036854775808))), w36)) ∧ (y48 = 0 → in64 (y16 * (y18 - 1)) ∧ r26 ≠ 0 ∧ ∃ y53, Int.tdiv (y16 * (y18 - 1)) r26 = y53 ∧ r26 ≠ 0 ∧ ∃ y56, Int.tdiv (x21 * z1) r26 = y56 ∧ in64 y56 ∧ y56 ≠ 0 ∧ ∃ y60, Int.tdiv r39 y56 = y60 ∧ r = (some (.long (jL (y53 * y60))), w36))) ∧ (x13 < z1 → r = (some (.long (jL (-9223372036854775808))), w4))))) : xGo 303 0 [some (.ref 39), some (.int (jI z1)), none, none, none, none, none, none, none, none] [] w r := by
  refine g_aloadn (pc' := 1) d_303_0 rfl rfl ?_
  refine g_iconst (pc' := 2) d_303_1 rfl rfl ?_
  have hpf1 := (kf_39_0 hC)
  have hC3 : CS (pF w 39 0 (.int (jI 0))) := ks_39_0 hC
  have h := h _ rfl hC3
  refine gz_putf (pc' := 5) d_303_2 rfl st_303_118 ft_12_0 ff_12_0 rfl (Or.inl rfl) hpf1 ?_
  refine g_iloadn (pc' := 6) d_303_5 rfl rfl ?_
  refine g_iconst (pc' := 7) d_303_6 rfl rfl ?_
  refine g_bipush (pc' := 9) (v := jI 22) d_303_7 rfl (by decide) ?_
  obtain ⟨P7, dP8, w4, hk5, hC6, h⟩ := h
  refine g_callS (pc' := 12) d_303_9 rfl st_303_137 (Or.inl rfl) na_199 ml_199 rfl rfl rfl rm_303_199 rfl rfl hk5 ?_
  refine gz_bt_eq (pc' := 15) (pt := 30) d_303_12 (by decide) rfl (fun c => ?_) (fun c => ?_)
  · replace h := h.1 c
    refine g_ldc2 (pc' := 33) d_303_30 rfl st_303_166 rfl ?_
    exact g_lret d_303_33 rt_303 h
  · replace h := h.2 c
    refine g_iloadn (pc' := 16) d_303_15 rfl rfl ?_
    refine g_iconst (pc' := 17) d_303_16 rfl rfl ?_
    obtain ⟨hc9, h⟩ := h
    obtain ⟨y10, hz11, h⟩ := h
    refine gz_irem (pc' := 18) d_303_17 rfl hc9 (s32 (z := 2)) (by decide) hz11 ?_
    refine g_iconst (pc' := 19) d_303_18 rfl rfl ?_
    obtain ⟨hc12, h⟩ := h
    refine gz_ic_eq (pc' := 22) (pt := 30) d_303_19 (by decide) rfl hc12 (s32 (z := 1)) (fun c => ?_) (fun c => ?_)
    · replace h := h.1 c
      refine g_ldc2 (pc' := 33) d_303_30 rfl st_303_166 rfl ?_
      exact g_lret d_303_33 rt_303 h
    · replace h := h.2 c
      refine g_iloadn (pc' := 23) d_303_22 rfl rfl ?_
      refine g_aloadn (pc' := 24) d_303_23 rfl rfl ?_
      obtain ⟨x13, hv14, h⟩ := h
      refine gz_getI (pc' := 27) d_303_24 rfl st_303_20 hv14 ?_
      obtain ⟨hc15, h⟩ := h
      refine gz_ic_le (pc' := 30) (pt := 34) d_303_27 (by decide) rfl hc9 hc15 (fun c => ?_) (fun c => ?_)
      · replace h := h.1 c
        refine g_lconst (pc' := 35) (v := jL 1) d_303_34 rfl cl_1 ?_
        refine g_iloadn (pc' := 36) d_303_35 rfl rfl ?_
        obtain ⟨y16, hz17, h⟩ := h
        refine gz_lshl (pc' := 37) d_303_36 rfl hz17 ?_
        refine g_lconst (pc' := 38) (v := jL 1) d_303_37 rfl cl_1 ?_
        refine g_iloadn (pc' := 39) d_303_38 rfl rfl ?_
        obtain ⟨y18, hz19, h⟩ := h
        refine gz_lshl (pc' := 40) d_303_39 rfl hz19 ?_
        refine g_lconst (pc' := 41) (v := jL 1) d_303_40 rfl cl_1 ?_
        refine gz_lsub (pc' := 42) d_303_41 rfl ?_
        refine gz_lmul (pc' := 43) d_303_42 rfl ?_
        refine g_lstoren (pc' := 44) (l' := [some (.ref 39), some (.int (jI z1)), some (.long (jL (y16 * (y18 - 1)))), none, none, none, none, none, none, none]) d_303_43 rfl ml_303 rfl rfl ?_
        refine g_aloadn (pc' := 45) d_303_44 rfl rfl ?_
        refine gz_getR (pc' := 48) d_303_45 rfl st_303_13 (kr_39_2 hC6) ?_
        refine g_iconst (pc' := 49) d_303_48 rfl rfl ?_
        refine g_iloadn (pc' := 50) d_303_49 rfl rfl ?_
        refine gz_imul (pc' := 51) d_303_50 rfl ?_
        refine g_iconst (pc' := 52) d_303_51 rfl rfl ?_
        refine gz_iadd (pc' := 53) d_303_52 rfl ?_
        obtain ⟨hc20, h⟩ := h
        obtain ⟨x21, hv22, h⟩ := h
        refine gz_lald (pc' := 54) d_303_53 rfl hc20 hv22 ?_
        refine g_iloadn (pc' := 55) d_303_54 rfl rfl ?_
        refine gz_i2l (pc' := 56) d_303_55 rfl hc9 ?_
        refine gz_lmul (pc' := 57) d_303_56 rfl ?_
        refine g_lstore (pc' := 59) (l' := [some (.ref 39), some (.int (jI z1)), some (.long (jL (y16 * (y18 - 1)))), none, some (.long (jL (x21 * z1))), none, none, none, none, none]) d_303_57 rfl ml_303 rfl rfl ?_
        refine g_lloadn (pc' := 60) d_303_59 rfl rfl ?_
        refine g_lload (pc' := 62) d_303_60 rfl rfl ?_
        obtain ⟨r26, w23, hk24, hC25, h⟩ := h
        refine g_callS (pc' := 65) d_303_62 rfl st_303_121 (Or.inl rfl) na_195 ml_195 rfl rfl rfl rm_303_195 rfl rfl hk24 ?_
        refine g_lstore (pc' := 67) (l' := [some (.ref 39), some (.int (jI z1)), some (.long (jL (y16 * (y18 - 1)))), none, some (.long (jL (x21 * z1))), none, some (.long (jL r26)), none, none, none]) d_303_65 rfl ml_303 rfl rfl ?_
        refine g_aloadn (pc' := 68) d_303_67 rfl rfl ?_
        refine gz_getR (pc' := 71) d_303_68 rfl st_303_13 (kr_39_2 hC25) ?_
        refine g_iconst (pc' := 72) d_303_71 rfl rfl ?_
        refine g_iloadn (pc' := 73) d_303_72 rfl rfl ?_
        refine gz_imul (pc' := 74) d_303_73 rfl ?_
        obtain ⟨hc27, h⟩ := h
        obtain ⟨x28, hv29, h⟩ := h
        refine gz_lald (pc' := 75) d_303_74 rfl hc27 hv29 ?_
        refine g_aloadn (pc' := 76) d_303_75 rfl rfl ?_
        refine gz_getR (pc' := 79) d_303_76 rfl st_303_13 (kr_39_2 hC25) ?_
        refine g_iconst (pc' := 80) d_303_79 rfl rfl ?_
        refine g_iloadn (pc' := 81) d_303_80 rfl rfl ?_
        refine gz_imul (pc' := 82) d_303_81 rfl ?_
        refine g_iconst (pc' := 83) d_303_82 rfl rfl ?_
        refine gz_iadd (pc' := 84) d_303_83 rfl ?_
        obtain ⟨hc30, h⟩ := h
        obtain ⟨x31, hv32, h⟩ := h
        refine gz_lald (pc' := 85) d_303_84 rfl hc30 hv32 ?_
        refine gz_lmul (pc' := 86) d_303_85 rfl ?_
        refine g_aloadn (pc' := 87) d_303_86 rfl rfl ?_
        refine gz_getR (pc' := 90) d_303_87 rfl st_303_13 (kr_39_2 hC25) ?_
        refine g_iconst (pc' := 91) d_303_90 rfl rfl ?_
        refine g_iloadn (pc' := 92) d_303_91 rfl rfl ?_
        refine gz_imul (pc' := 93) d_303_92 rfl ?_
        refine g_iconst (pc' := 94) d_303_93 rfl rfl ?_
        refine gz_iadd (pc' := 95) d_303_94 rfl ?_
        obtain ⟨hc33, h⟩ := h
        obtain ⟨x34, hv35, h⟩ := h
        refine gz_lald (pc' := 96) d_303_95 rfl hc33 hv35 ?_
        refine gz_ladd (pc' := 97) d_303_96 rfl ?_
        obtain ⟨r39, w36, hk37, hC38, h⟩ := h
        refine g_callS (pc' := 100) d_303_97 rfl st_303_370 (Or.inl rfl) na_304 ml_304 rfl rfl rfl rm_303_304 rfl rfl hk37 ?_
        refine g_lstore (pc' := 102) (l' := [some (.ref 39), some (.int (jI z1)), some (.long (jL (y16 * (y18 - 1)))), none, some (.long (jL (x21 * z1))), none, some (.long (jL r26)), none, some (.long (jL r39)), none]) d_303_100 rfl ml_303 rfl rfl ?_
        refine g_lload (pc' := 104) d_303_102 rfl rfl ?_
        refine g_lload (pc' := 106) d_303_104 rfl rfl ?_
        refine g_lload (pc' := 108) d_303_106 rfl rfl ?_
        obtain ⟨hc40, h⟩ := h
        obtain ⟨hc41, h⟩ := h
        obtain ⟨hc42, h⟩ := h
        obtain ⟨y43, hz44, h⟩ := h
        refine gz_ldiv (pc' := 109) d_303_108 rfl hc40 hc41 hc42 hz44 ?_
        obtain ⟨hc45, h⟩ := h
        obtain ⟨hc46, h⟩ := h
        obtain ⟨hc47, h⟩ := h
        obtain ⟨y48, hz49, h⟩ := h
        refine gz_lrem (pc' := 110) d_303_109 rfl hc45 hc46 hc47 hz49 ?_
        refine g_lconst (pc' := 111) (v := jL 0) d_303_110 rfl cl_0 ?_
        obtain ⟨hc50, h⟩ := h
        refine gz_lc_ne (pc' := 115) (pm := 112) (pt := 131) d_303_111 rfl d_303_112 (by decide) rfl hc50 (s64 (z := 0)) (fun c => ?_) (fun c => ?_)
        · replace h := h.1 c
          refine g_ldc2 (pc' := 134) d_303_131 rfl st_303_166 rfl ?_
          exact g_lret d_303_134 rt_303 h
        · replace h := h.2 c
          refine g_lloadn (pc' := 116) d_303_115 rfl rfl ?_
          refine g_lload (pc' := 118) d_303_116 rfl rfl ?_
          obtain ⟨hc51, h⟩ := h
          obtain ⟨hc52, h⟩ := h
          obtain ⟨y53, hz54, h⟩ := h
          refine gz_ldiv (pc' := 119) d_303_118 rfl hc51 hc41 hc52 hz54 ?_
          refine g_lload (pc' := 121) d_303_119 rfl rfl ?_
          refine g_lload (pc' := 123) d_303_121 rfl rfl ?_
          refine g_lload (pc' := 125) d_303_123 rfl rfl ?_
          obtain ⟨hc55, h⟩ := h
          obtain ⟨y56, hz57, h⟩ := h
          refine gz_ldiv (pc' := 126) d_303_125 rfl hc40 hc41 hc55 hz57 ?_
          obtain ⟨hc58, h⟩ := h
          obtain ⟨hc59, h⟩ := h
          obtain ⟨y60, hz61, h⟩ := h
          refine gz_ldiv (pc' := 127) d_303_126 rfl hc45 hc58 hc59 hz61 ?_
          refine gz_lmul (pc' := 128) d_303_127 rfl ?_
          refine g_goto (pt := 134) d_303_128 (by decide) ?_
          exact g_lret d_303_134 rt_303 h
      · replace h := h.2 c
        refine g_ldc2 (pc' := 33) d_303_30 rfl st_303_166 rfl ?_
        exact g_lret d_303_33 rt_303 h
theorem Z_303 {z1 : Int} {w : xW} {r : Option Value × xW} (hC : CS w) (h : ∀ w2, w2 = pF w 39 0 (.int (jI 0)) → CS w2 → ∃ (P7 : Prop) (dP8 : Decidable P7) (w4 : xW), xCall 199 [.int (jI z1), .int (jI 2), .int (jI 22)] w2 (some (.int (bz P7)), w4) ∧ CS w4 ∧ (¬ P7 → r = (some (.long (jL (-9223372036854775808))), w4)) ∧ (P7 → in32 z1 ∧ ∃ y10, Int.tmod z1 2 = y10 ∧ in32 y10 ∧ (y10 = 1 → r = (some (.long (jL (-9223372036854775808))), w4)) ∧ (y10 ≠ 1 → ∃ x13, fI w4 39 12 4 x13 ∧ in32 x13 ∧ (z1 ≤ x13 → ∃ y16, jL 1 <<< ((jI z1).toInt64 &&& 63) = jL y16 ∧ ∃ y18, jL 1 <<< ((jI z1).toInt64 &&& 63) = jL y18 ∧ 0 ≤ (3 * z1) + 2 ∧ ∃ x21, rL w4 41 ((3 * z1) + 2).toNat x21 ∧ ∃ r26 w23, xCall 195 [.long (jL (y16 * (y18 - 1))), .long (jL (x21 * z1))] w4 (some (.long (jL r26)), w23) ∧ CS w23 ∧ 0 ≤ 3 * z1 ∧ ∃ x28, rL w23 41 (3 * z1).toNat x28 ∧ 0 ≤ (3 * z1) + 2 ∧ ∃ x31, rL w23 41 ((3 * z1) + 2).toNat x31 ∧ 0 ≤ (3 * z1) + 1 ∧ ∃ x34, rL w23 41 ((3 * z1) + 1).toNat x34 ∧ ∃ r39 w36, xCall 304 [.long (jL ((x28 * x31) + x34))] w23 (some (.long (jL r39)), w36) ∧ CS w36 ∧ in64 (x21 * z1) ∧ in64 r26 ∧ r26 ≠ 0 ∧ ∃ y43, Int.tdiv (x21 * z1) r26 = y43 ∧ in64 r39 ∧ in64 y43 ∧ y43 ≠ 0 ∧ ∃ y48, Int.tmod r39 y43 = y48 ∧ in64 y48 ∧ (y48 ≠ 0 → r = (some (.long (jL (-9223372036854775808))), w36)) ∧ (y48 = 0 → in64 (y16 * (y18 - 1)) ∧ r26 ≠ 0 ∧ ∃ y53, Int.tdiv (y16 * (y18 - 1)) r26 = y53 ∧ r26 ≠ 0 ∧ ∃ y56, Int.tdiv (x21 * z1) r26 = y56 ∧ in64 y56 ∧ y56 ≠ 0 ∧ ∃ y60, Int.tdiv r39 y56 = y60 ∧ r = (some (.long (jL (y53 * y60))), w36))) ∧ (x13 < z1 → r = (some (.long (jL (-9223372036854775808))), w4))))) : xCall 303 [.ref 39, .int (jI z1)] w r := E_303 (Z_303_0 hC h)
theorem Z_304_0 {z0 : Int} {w : xW} {r : Option Value × xW} (hC : CS w) (h : in64 z0 ∧ (0 ≤ z0 → r = (some (.long (jL z0)), w)) ∧ (z0 < 0 → r = (some (.long (jL (-z0))), w))) : xGo 304 0 [some (.long (jL z0)), none] [] w r := by
  refine g_lloadn (pc' := 1) d_304_0 rfl rfl ?_
  refine g_lconst (pc' := 2) (v := jL 0) d_304_1 rfl cl_0 ?_
  obtain ⟨hc1, h⟩ := h
  refine gz_lc_ge (pc' := 6) (pm := 3) (pt := 11) d_304_2 rfl d_304_3 (by decide) rfl hc1 (s64 (z := 0)) (fun c => ?_) (fun c => ?_)
  · replace h := h.1 c
    refine g_lloadn (pc' := 12) d_304_11 rfl rfl ?_
    exact g_lret d_304_12 rt_304 h
  · replace h := h.2 c
    refine g_lloadn (pc' := 7) d_304_6 rfl rfl ?_
    refine gz_lneg (pc' := 8) d_304_7 rfl ?_
    refine g_goto (pt := 12) d_304_8 (by decide) ?_
    exact g_lret d_304_12 rt_304 h
theorem Z_304 {z0 : Int} {w : xW} {r : Option Value × xW} (hC : CS w) (h : in64 z0 ∧ (0 ≤ z0 → r = (some (.long (jL z0)), w)) ∧ (z0 < 0 → r = (some (.long (jL (-z0))), w))) : xCall 304 [.long (jL z0)] w r := E_304 (Z_304_0 hC h)
theorem Z_305_0 {z1 : Int} {w : xW} {r : Option Value × xW} (hC : CS w) (h : ∀ w2, w2 = pF w 39 0 (.int (jI 0)) → CS w2 → ∃ (P7 : Prop) (dP8 : Decidable P7) (w4 : xW), xCall 199 [.int (jI z1), .int (jI 4), .int (jI 38)] w2 (some (.int (bz P7)), w4) ∧ CS w4 ∧ (¬ P7 → r = (some (.int (jI (-1))), w4)) ∧ (P7 → in32 z1 ∧ ∃ y10, Int.tmod z1 2 = y10 ∧ in32 y10 ∧ (y10 ≠ 1 → ∃ x13, fI w4 39 12 4 x13 ∧ in32 x13 ∧ (z1 ≤ x13 → 0 ≤ (3 * z1) - 6 ∧ ∃ x17, rL w4 41 ((3 * z1) - 6).toNat x17 ∧ ∃ r22 w19, xCall 304 [.long (jL x17)] w4 (some (.long (jL r22)), w19) ∧ CS w19 ∧ in64 r22 ∧ (r22 ≠ 0 → 0 ≤ 3 * z1 ∧ ∃ x25, rL w19 41 (3 * z1).toNat x25 ∧ ∃ r30 w27, xCall 304 [.long (jL x25)] w19 (some (.long (jL r30)), w27) ∧ CS w27 ∧ in64 r30 ∧ r22 ≠ 0 ∧ ∃ y33, Int.tdiv r30 r22 = y33 ∧ r = (some (.int (jI y33)), w27)) ∧ (r22 = 0 → r = (some (.int (jI 0)), w19))) ∧ (x13 < z1 → r = (some (.int (jI (-2))), w4))) ∧ (y10 = 1 → r = (some (.int (jI (-1))), w4)))) : xGo 305 0 [some (.ref 39), some (.int (jI z1)), none, none] [] w r := by
  refine g_aloadn (pc' := 1) d_305_0 rfl rfl ?_
  refine g_iconst (pc' := 2) d_305_1 rfl rfl ?_
  have hpf1 := (kf_39_0 hC)
  have hC3 : CS (pF w 39 0 (.int (jI 0))) := ks_39_0 hC
  have h := h _ rfl hC3
  refine gz_putf (pc' := 5) d_305_2 rfl st_305_118 ft_12_0 ff_12_0 rfl (Or.inl rfl) hpf1 ?_
  refine g_iloadn (pc' := 6) d_305_5 rfl rfl ?_
  refine g_iconst (pc' := 7) d_305_6 rfl rfl ?_
  refine g_bipush (pc' := 9) (v := jI 38) d_305_7 rfl (by decide) ?_
  obtain ⟨P7, dP8, w4, hk5, hC6, h⟩ := h
  refine g_callS (pc' := 12) d_305_9 rfl st_305_137 (Or.inl rfl) na_199 ml_199 rfl rfl rfl rm_305_199 rfl rfl hk5 ?_
  refine gz_bt_eq (pc' := 15) (pt := 22) d_305_12 (by decide) rfl (fun c => ?_) (fun c => ?_)
  · replace h := h.1 c
    refine g_iconst (pc' := 23) d_305_22 rfl rfl ?_
    exact g_iret d_305_23 rt_305 h
  · replace h := h.2 c
    refine g_iloadn (pc' := 16) d_305_15 rfl rfl ?_
    refine g_iconst (pc' := 17) d_305_16 rfl rfl ?_
    obtain ⟨hc9, h⟩ := h
    obtain ⟨y10, hz11, h⟩ := h
    refine gz_irem (pc' := 18) d_305_17 rfl hc9 (s32 (z := 2)) (by decide) hz11 ?_
    refine g_iconst (pc' := 19) d_305_18 rfl rfl ?_
    obtain ⟨hc12, h⟩ := h
    refine gz_ic_ne (pc' := 22) (pt := 24) d_305_19 (by decide) rfl hc12 (s32 (z := 1)) (fun c => ?_) (fun c => ?_)
    · replace h := h.1 c
      refine g_iloadn (pc' := 25) d_305_24 rfl rfl ?_
      refine g_aloadn (pc' := 26) d_305_25 rfl rfl ?_
      obtain ⟨x13, hv14, h⟩ := h
      refine gz_getI (pc' := 29) d_305_26 rfl st_305_20 hv14 ?_
      obtain ⟨hc15, h⟩ := h
      refine gz_ic_le (pc' := 32) (pt := 35) d_305_29 (by decide) rfl hc9 hc15 (fun c => ?_) (fun c => ?_)
      · replace h := h.1 c
        refine g_aloadn (pc' := 36) d_305_35 rfl rfl ?_
        refine gz_getR (pc' := 39) d_305_36 rfl st_305_13 (kr_39_2 hC6) ?_
        refine g_iconst (pc' := 40) d_305_39 rfl rfl ?_
        refine g_iloadn (pc' := 41) d_305_40 rfl rfl ?_
        refine gz_imul (pc' := 42) d_305_41 rfl ?_
        refine g_bipush (pc' := 44) (v := jI 6) d_305_42 rfl (by decide) ?_
        refine gz_isub (pc' := 45) d_305_44 rfl ?_
        obtain ⟨hc16, h⟩ := h
        obtain ⟨x17, hv18, h⟩ := h
        refine gz_lald (pc' := 46) d_305_45 rfl hc16 hv18 ?_
        obtain ⟨r22, w19, hk20, hC21, h⟩ := h
        refine g_callS (pc' := 49) d_305_46 rfl st_305_370 (Or.inl rfl) na_304 ml_304 rfl rfl rfl rm_305_304 rfl rfl hk20 ?_
        refine g_lstoren (pc' := 50) (l' := [some (.ref 39), some (.int (jI z1)), some (.long (jL r22)), none]) d_305_49 rfl ml_305 rfl rfl ?_
        refine g_lloadn (pc' := 51) d_305_50 rfl rfl ?_
        refine g_lconst (pc' := 52) (v := jL 0) d_305_51 rfl cl_0 ?_
        obtain ⟨hc23, h⟩ := h
        refine gz_lc_ne (pc' := 56) (pm := 53) (pt := 60) d_305_52 rfl d_305_53 (by decide) rfl hc23 (s64 (z := 0)) (fun c => ?_) (fun c => ?_)
        · replace h := h.1 c
          refine g_aloadn (pc' := 61) d_305_60 rfl rfl ?_
          refine gz_getR (pc' := 64) d_305_61 rfl st_305_13 (kr_39_2 hC21) ?_
          refine g_iconst (pc' := 65) d_305_64 rfl rfl ?_
          refine g_iloadn (pc' := 66) d_305_65 rfl rfl ?_
          refine gz_imul (pc' := 67) d_305_66 rfl ?_
          obtain ⟨hc24, h⟩ := h
          obtain ⟨x25, hv26, h⟩ := h
          refine gz_lald (pc' := 68) d_305_67 rfl hc24 hv26 ?_
          obtain ⟨r30, w27, hk28, hC29, h⟩ := h
          refine g_callS (pc' := 71) d_305_68 rfl st_305_370 (Or.inl rfl) na_304 ml_304 rfl rfl rfl rm_305_304 rfl rfl hk28 ?_
          refine g_lloadn (pc' := 72) d_305_71 rfl rfl ?_
          obtain ⟨hc31, h⟩ := h
          obtain ⟨hc32, h⟩ := h
          obtain ⟨y33, hz34, h⟩ := h
          refine gz_ldiv (pc' := 73) d_305_72 rfl hc31 hc23 hc32 hz34 ?_
          refine gz_l2i (pc' := 74) d_305_73 rfl ?_
          exact g_iret d_305_74 rt_305 h
        · replace h := h.2 c
          refine g_iconst (pc' := 57) d_305_56 rfl rfl ?_
          refine g_goto (pt := 74) d_305_57 (by decide) ?_
          exact g_iret d_305_74 rt_305 h
      · replace h := h.2 c
        refine g_bipush (pc' := 34) (v := jI (-2)) d_305_32 rfl (by decide) ?_
        exact g_iret d_305_34 rt_305 h
    · replace h := h.2 c
      refine g_iconst (pc' := 23) d_305_22 rfl rfl ?_
      exact g_iret d_305_23 rt_305 h
theorem Z_305 {z1 : Int} {w : xW} {r : Option Value × xW} (hC : CS w) (h : ∀ w2, w2 = pF w 39 0 (.int (jI 0)) → CS w2 → ∃ (P7 : Prop) (dP8 : Decidable P7) (w4 : xW), xCall 199 [.int (jI z1), .int (jI 4), .int (jI 38)] w2 (some (.int (bz P7)), w4) ∧ CS w4 ∧ (¬ P7 → r = (some (.int (jI (-1))), w4)) ∧ (P7 → in32 z1 ∧ ∃ y10, Int.tmod z1 2 = y10 ∧ in32 y10 ∧ (y10 ≠ 1 → ∃ x13, fI w4 39 12 4 x13 ∧ in32 x13 ∧ (z1 ≤ x13 → 0 ≤ (3 * z1) - 6 ∧ ∃ x17, rL w4 41 ((3 * z1) - 6).toNat x17 ∧ ∃ r22 w19, xCall 304 [.long (jL x17)] w4 (some (.long (jL r22)), w19) ∧ CS w19 ∧ in64 r22 ∧ (r22 ≠ 0 → 0 ≤ 3 * z1 ∧ ∃ x25, rL w19 41 (3 * z1).toNat x25 ∧ ∃ r30 w27, xCall 304 [.long (jL x25)] w19 (some (.long (jL r30)), w27) ∧ CS w27 ∧ in64 r30 ∧ r22 ≠ 0 ∧ ∃ y33, Int.tdiv r30 r22 = y33 ∧ r = (some (.int (jI y33)), w27)) ∧ (r22 = 0 → r = (some (.int (jI 0)), w19))) ∧ (x13 < z1 → r = (some (.int (jI (-2))), w4))) ∧ (y10 = 1 → r = (some (.int (jI (-1))), w4)))) : xCall 305 [.ref 39, .int (jI z1)] w r := E_305 (Z_305_0 hC h)
