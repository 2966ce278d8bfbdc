/-! Z rows, laid by wip/whole/zp.py -/
theorem Z_138_0 {z1 : Int} {z2 : Int} {z3 : Int} {w : xW} {r : Option Value × xW} (hC : CS w) (h : ∃ (P4 : Prop) (dP5 : Decidable P4) (w1 : xW), xCall 84 [.int (jI z1)] w (some (.int (bz P4)), w1) ∧ CS w1 ∧ (¬ P4 → r = (some (.int (jI (-1))), w1)) ∧ (P4 → ∃ (P9 : Prop) (dP10 : Decidable P9) (w6 : xW), xCall 25 [.int (jI z2)] w1 (some (.int (bz P9)), w6) ∧ CS w6 ∧ (¬ P9 → r = (some (.int (jI (-1))), w6)) ∧ (P9 → in32 z3 ∧ (z3 < 0 → r = (some (.int (jI (-1))), w6)) ∧ (0 ≤ z3 → in32 (z1 - 2) ∧ (z3 ≤ z1 - 2 → ∃ w13, xCall 123 [.ref 28, .int (jI z1), .int (jI z2)] w6 (none, w13) ∧ CS w13 ∧ ∃ r19 w16, xCall 127 [.ref 28, .int (jI z3)] w13 (some (.long (jL r19)), w16) ∧ CS w16 ∧ r = (some (.int (jI r19)), w16)) ∧ (z1 - 2 < z3 → r = (some (.int (jI (-1))), w6)))))) : xGo 138 0 [some (.ref 0), some (.int (jI z1)), some (.int (jI z2)), some (.int (jI z3))] [] w r := by
  refine g_iloadn (pc' := 1) d_138_0 rfl rfl ?_
  obtain ⟨P4, dP5, w1, hk2, hC3, h⟩ := h
  refine g_callS (pc' := 4) d_138_1 rfl st_138_222 (Or.inl rfl) na_84 ml_84 rfl rfl rfl rm_138_84 rfl rfl hk2 ?_
  refine gz_bt_eq (pc' := 7) (pt := 25) d_138_4 (by decide) rfl (fun c => ?_) (fun c => ?_)
  · replace h := h.1 c
    refine g_iconst (pc' := 26) d_138_25 rfl rfl ?_
    exact g_iret d_138_26 rt_138 h
  · replace h := h.2 c
    refine g_iloadn (pc' := 8) d_138_7 rfl rfl ?_
    obtain ⟨P9, dP10, w6, hk7, hC8, h⟩ := h
    refine g_callS (pc' := 11) d_138_8 rfl st_138_124 (Or.inl rfl) na_25 ml_25 rfl rfl rfl rm_138_25 rfl rfl hk7 ?_
    refine gz_bt_eq (pc' := 14) (pt := 25) d_138_11 (by decide) rfl (fun c => ?_) (fun c => ?_)
    · replace h := h.1 c
      refine g_iconst (pc' := 26) d_138_25 rfl rfl ?_
      exact g_iret d_138_26 rt_138 h
    · replace h := h.2 c
      refine g_iloadn (pc' := 15) d_138_14 rfl rfl ?_
      obtain ⟨hc11, h⟩ := h
      refine gz_if_lt (pc' := 18) (pt := 25) d_138_15 (by decide) rfl hc11 (fun c => ?_) (fun c => ?_)
      · replace h := h.1 c
        refine g_iconst (pc' := 26) d_138_25 rfl rfl ?_
        exact g_iret d_138_26 rt_138 h
      · replace h := h.2 c
        refine g_iloadn (pc' := 19) d_138_18 rfl rfl ?_
        refine g_iloadn (pc' := 20) d_138_19 rfl rfl ?_
        refine g_iconst (pc' := 21) d_138_20 rfl rfl ?_
        refine gz_isub (pc' := 22) d_138_21 rfl ?_
        obtain ⟨hc12, h⟩ := h
        refine gz_ic_le (pc' := 25) (pt := 27) d_138_22 (by decide) rfl hc11 hc12 (fun c => ?_) (fun c => ?_)
        · replace h := h.1 c
          refine g_aloadn (pc' := 28) d_138_27 rfl rfl ?_
          refine gz_getR (pc' := 31) d_138_28 rfl st_138_72 (kr_0_10 hC8) ?_
          refine g_iloadn (pc' := 32) d_138_31 rfl rfl ?_
          refine g_iloadn (pc' := 33) d_138_32 rfl rfl ?_
          obtain ⟨w13, hk14, hC15, h⟩ := h
          refine gz_callV (pc' := 36) d_138_33 rfl st_138_310 na_123 ml_123 rfl rfl rfl rm_138_123 rfl rfl ow_123 (ko_28 hC8) hk14 ?_
          refine g_aloadn (pc' := 37) d_138_36 rfl rfl ?_
          refine gz_getR (pc' := 40) d_138_37 rfl st_138_72 (kr_0_10 hC15) ?_
          refine g_iloadn (pc' := 41) d_138_40 rfl rfl ?_
          obtain ⟨r19, w16, hk17, hC18, h⟩ := h
          refine gz_callV (pc' := 44) d_138_41 rfl st_138_313 na_127 ml_127 rfl rfl rfl rm_138_127 rfl rfl ow_127 (ko_28 hC15) hk17 ?_
          refine gz_l2i (pc' := 45) d_138_44 rfl ?_
          exact g_iret d_138_45 rt_138 h
        · replace h := h.2 c
          refine g_iconst (pc' := 26) d_138_25 rfl rfl ?_
          exact g_iret d_138_26 rt_138 h
theorem Z_138 {z1 : Int} {z2 : Int} {z3 : Int} {w : xW} {r : Option Value × xW} (hC : CS w) (h : ∃ (P4 : Prop) (dP5 : Decidable P4) (w1 : xW), xCall 84 [.int (jI z1)] w (some (.int (bz P4)), w1) ∧ CS w1 ∧ (¬ P4 → r = (some (.int (jI (-1))), w1)) ∧ (P4 → ∃ (P9 : Prop) (dP10 : Decidable P9) (w6 : xW), xCall 25 [.int (jI z2)] w1 (some (.int (bz P9)), w6) ∧ CS w6 ∧ (¬ P9 → r = (some (.int (jI (-1))), w6)) ∧ (P9 → in32 z3 ∧ (z3 < 0 → r = (some (.int (jI (-1))), w6)) ∧ (0 ≤ z3 → in32 (z1 - 2) ∧ (z3 ≤ z1 - 2 → ∃ w13, xCall 123 [.ref 28, .int (jI z1), .int (jI z2)] w6 (none, w13) ∧ CS w13 ∧ ∃ r19 w16, xCall 127 [.ref 28, .int (jI z3)] w13 (some (.long (jL r19)), w16) ∧ CS w16 ∧ r = (some (.int (jI r19)), w16)) ∧ (z1 - 2 < z3 → r = (some (.int (jI (-1))), w6)))))) : xCall 138 [.ref 0, .int (jI z1), .int (jI z2), .int (jI z3)] w r := E_138 (Z_138_0 hC h)
theorem Z_139_0 {z1 : Int} {z2 : Int} {w : xW} {r : Option Value × xW} (hC : CS w) (h : ∃ (P4 : Prop) (dP5 : Decidable P4) (w1 : xW), xCall 84 [.int (jI z1)] w (some (.int (bz P4)), w1) ∧ CS w1 ∧ (¬ P4 → r = (some (.int (jI (-1))), w1)) ∧ (P4 → ∃ (P9 : Prop) (dP10 : Decidable P9) (w6 : xW), xCall 25 [.int (jI z2)] w1 (some (.int (bz P9)), w6) ∧ CS w6 ∧ (P9 → ∃ w11, xCall 123 [.ref 28, .int (jI z1), .int (jI z2)] w6 (none, w11) ∧ CS w11 ∧ xGo 139 30 [some (.ref 0), some (.int (jI z1)), some (.int (jI z2)), some (.int (jI 0)), some (.int (jI 2))] [] w11 r) ∧ (¬ P9 → r = (some (.int (jI (-1))), w6)))) : xGo 139 0 [some (.ref 0), some (.int (jI z1)), some (.int (jI z2)), none, none] [] w r := by
  refine g_iloadn (pc' := 1) d_139_0 rfl rfl ?_
  obtain ⟨P4, dP5, w1, hk2, hC3, h⟩ := h
  refine g_callS (pc' := 4) d_139_1 rfl st_139_222 (Or.inl rfl) na_84 ml_84 rfl rfl rfl rm_139_84 rfl rfl hk2 ?_
  refine gz_bt_eq (pc' := 7) (pt := 14) d_139_4 (by decide) rfl (fun c => ?_) (fun c => ?_)
  · replace h := h.1 c
    refine g_iconst (pc' := 15) d_139_14 rfl rfl ?_
    exact g_iret d_139_15 rt_139 h
  · replace h := h.2 c
    refine g_iloadn (pc' := 8) d_139_7 rfl rfl ?_
    obtain ⟨P9, dP10, w6, hk7, hC8, h⟩ := h
    refine g_callS (pc' := 11) d_139_8 rfl st_139_124 (Or.inl rfl) na_25 ml_25 rfl rfl rfl rm_139_25 rfl rfl hk7 ?_
    refine gz_bt_ne (pc' := 14) (pt := 16) d_139_11 (by decide) rfl (fun c => ?_) (fun c => ?_)
    · replace h := h.1 c
      refine g_aloadn (pc' := 17) d_139_16 rfl rfl ?_
      refine gz_getR (pc' := 20) d_139_17 rfl st_139_72 (kr_0_10 hC8) ?_
      refine g_iloadn (pc' := 21) d_139_20 rfl rfl ?_
      refine g_iloadn (pc' := 22) d_139_21 rfl rfl ?_
      obtain ⟨w11, hk12, hC13, h⟩ := h
      refine gz_callV (pc' := 25) d_139_22 rfl st_139_310 na_123 ml_123 rfl rfl rfl rm_139_123 rfl rfl ow_123 (ko_28 hC8) hk12 ?_
      refine g_iconst (pc' := 26) d_139_25 rfl rfl ?_
      refine g_istoren (pc' := 27) (l' := [some (.ref 0), some (.int (jI z1)), some (.int (jI z2)), some (.int (jI 0)), none]) d_139_26 rfl ml_139 rfl rfl ?_
      refine g_iconst (pc' := 28) d_139_27 rfl rfl ?_
      refine g_istore (pc' := 30) (l' := [some (.ref 0), some (.int (jI z1)), some (.int (jI z2)), some (.int (jI 0)), some (.int (jI 2))]) d_139_28 rfl ml_139 rfl rfl ?_
      exact h
    · replace h := h.2 c
      refine g_iconst (pc' := 15) d_139_14 rfl rfl ?_
      exact g_iret d_139_15 rt_139 h
theorem Z_139 {z1 : Int} {z2 : Int} {w : xW} {r : Option Value × xW} (hC : CS w) (h : ∃ (P4 : Prop) (dP5 : Decidable P4) (w1 : xW), xCall 84 [.int (jI z1)] w (some (.int (bz P4)), w1) ∧ CS w1 ∧ (¬ P4 → r = (some (.int (jI (-1))), w1)) ∧ (P4 → ∃ (P9 : Prop) (dP10 : Decidable P9) (w6 : xW), xCall 25 [.int (jI z2)] w1 (some (.int (bz P9)), w6) ∧ CS w6 ∧ (P9 → ∃ w11, xCall 123 [.ref 28, .int (jI z1), .int (jI z2)] w6 (none, w11) ∧ CS w11 ∧ xGo 139 30 [some (.ref 0), some (.int (jI z1)), some (.int (jI z2)), some (.int (jI 0)), some (.int (jI 2))] [] w11 r) ∧ (¬ P9 → r = (some (.int (jI (-1))), w6)))) : xCall 139 [.ref 0, .int (jI z1), .int (jI z2)] w r := E_139 (Z_139_0 hC h)
theorem Z_139_30 {z1 : Int} {z2 : Int} {z3 : Int} {z4 : Int} {w : xW} {r : Option Value × xW} (hC : CS w) (h : in32 z4 ∧ in32 (z1 - 3) ∧ (z1 - 3 < z4 → r = (some (.int (jI z3)), w)) ∧ (z4 ≤ z1 - 3 → ∃ r6 w3, xCall 127 [.ref 28, .int (jI z4)] w (some (.long (jL r6)), w3) ∧ CS w3 ∧ in64 r6 ∧ (r6 ≠ 0 → xGo 139 30 [some (.ref 0), some (.int (jI z1)), some (.int (jI z2)), some (.int (jI z3)), some (.int (jI (z4 + 2)))] [] w3 r) ∧ (r6 = 0 → xGo 139 30 [some (.ref 0), some (.int (jI z1)), some (.int (jI z2)), some (.int (jI (z3 + 1))), some (.int (jI (z4 + 2)))] [] w3 r))) : xGo 139 30 [some (.ref 0), some (.int (jI z1)), some (.int (jI z2)), some (.int (jI z3)), some (.int (jI z4))] [] w r := by
  refine g_iload (pc' := 32) d_139_30 rfl rfl ?_
  refine g_iloadn (pc' := 33) d_139_32 rfl rfl ?_
  refine g_iconst (pc' := 34) d_139_33 rfl rfl ?_
  refine gz_isub (pc' := 35) d_139_34 rfl ?_
  obtain ⟨hc1, h⟩ := h
  obtain ⟨hc2, h⟩ := h
  refine gz_ic_gt (pc' := 38) (pt := 61) d_139_35 (by decide) rfl hc1 hc2 (fun c => ?_) (fun c => ?_)
  · replace h := h.1 c
    refine g_iloadn (pc' := 62) d_139_61 rfl rfl ?_
    exact g_iret d_139_62 rt_139 h
  · replace h := h.2 c
    refine g_aloadn (pc' := 39) d_139_38 rfl rfl ?_
    refine gz_getR (pc' := 42) d_139_39 rfl st_139_72 (kr_0_10 hC) ?_
    refine g_iload (pc' := 44) d_139_42 rfl rfl ?_
    obtain ⟨r6, w3, hk4, hC5, h⟩ := h
    refine gz_callV (pc' := 47) d_139_44 rfl st_139_313 na_127 ml_127 rfl rfl rfl rm_139_127 rfl rfl ow_127 (ko_28 hC) hk4 ?_
    refine g_lconst (pc' := 48) (v := jL 0) d_139_47 rfl cl_0 ?_
    obtain ⟨hc7, h⟩ := h
    refine gz_lc_ne (pc' := 52) (pm := 49) (pt := 55) d_139_48 rfl d_139_49 (by decide) rfl hc7 (s64 (z := 0)) (fun c => ?_) (fun c => ?_)
    · replace h := h.1 c
      refine gz_iinc (pc' := 58) (l' := [some (.ref 0), some (.int (jI z1)), some (.int (jI z2)), some (.int (jI z3)), some (.int (jI (z4 + 2)))]) d_139_55 rfl rfl ml_139 rfl rfl ?_
      refine g_goto (pt := 30) d_139_58 (by decide) ?_
      exact h
    · replace h := h.2 c
      refine gz_iinc (pc' := 55) (l' := [some (.ref 0), some (.int (jI z1)), some (.int (jI z2)), some (.int (jI (z3 + 1))), some (.int (jI z4))]) d_139_52 rfl rfl ml_139 rfl rfl ?_
      refine gz_iinc (pc' := 58) (l' := [some (.ref 0), some (.int (jI z1)), some (.int (jI z2)), some (.int (jI (z3 + 1))), some (.int (jI (z4 + 2)))]) d_139_55 rfl rfl ml_139 rfl rfl ?_
      refine g_goto (pt := 30) d_139_58 (by decide) ?_
      exact h
theorem Z_140_0 {z1 : Int} {w : xW} {r : Option Value × xW} (hC : CS w) (h : ∃ (P4 : Prop) (dP5 : Decidable P4) (w1 : xW), xCall 84 [.int (jI z1)] w (some (.int (bz P4)), w1) ∧ CS w1 ∧ (¬ P4 → r = (some (.int (jI (-1))), w1)) ∧ (P4 → in32 z1 ∧ (5 ≤ z1 → xGo 140 32 [some (.ref 0), some (.int (jI z1)), some (.long (jL (z1 * z1))), none, some (.long (jL ((z1 * z1) * z1))), none, some (.long (jL 0)), none, some (.int (jI 1))] [] w1 r) ∧ (z1 < 5 → r = (some (.int (jI (-1))), w1)))) : xGo 140 0 [some (.ref 0), some (.int (jI z1)), none, none, none, none, none, none, none] [] w r := by
  refine g_iloadn (pc' := 1) d_140_0 rfl rfl ?_
  obtain ⟨P4, dP5, w1, hk2, hC3, h⟩ := h
  refine g_callS (pc' := 4) d_140_1 rfl st_140_222 (Or.inl rfl) na_84 ml_84 rfl rfl rfl rm_140_84 rfl rfl hk2 ?_
  refine gz_bt_eq (pc' := 7) (pt := 12) d_140_4 (by decide) rfl (fun c => ?_) (fun c => ?_)
  · replace h := h.1 c
    refine g_iconst (pc' := 13) d_140_12 rfl rfl ?_
    exact g_iret d_140_13 rt_140 h
  · replace h := h.2 c
    refine g_iloadn (pc' := 8) d_140_7 rfl rfl ?_
    refine g_iconst (pc' := 9) d_140_8 rfl rfl ?_
    obtain ⟨hc6, h⟩ := h
    refine gz_ic_ge (pc' := 12) (pt := 14) d_140_9 (by decide) rfl hc6 (s32 (z := 5)) (fun c => ?_) (fun c => ?_)
    · replace h := h.1 c
      refine g_iloadn (pc' := 15) d_140_14 rfl rfl ?_
      refine gz_i2l (pc' := 16) d_140_15 rfl hc6 ?_
      refine g_iloadn (pc' := 17) d_140_16 rfl rfl ?_
      refine gz_i2l (pc' := 18) d_140_17 rfl hc6 ?_
      refine gz_lmul (pc' := 19) d_140_18 rfl ?_
      refine g_lstoren (pc' := 20) (l' := [some (.ref 0), some (.int (jI z1)), some (.long (jL (z1 * z1))), none, none, none, none, none, none]) d_140_19 rfl ml_140 rfl rfl ?_
      refine g_lloadn (pc' := 21) d_140_20 rfl rfl ?_
      refine g_iloadn (pc' := 22) d_140_21 rfl rfl ?_
      refine gz_i2l (pc' := 23) d_140_22 rfl hc6 ?_
      refine gz_lmul (pc' := 24) d_140_23 rfl ?_
      refine g_lstore (pc' := 26) (l' := [some (.ref 0), some (.int (jI z1)), some (.long (jL (z1 * z1))), none, some (.long (jL ((z1 * z1) * z1))), none, none, none, none]) d_140_24 rfl ml_140 rfl rfl ?_
      refine g_lconst (pc' := 27) (v := jL 0) d_140_26 rfl cl_0 ?_
      refine g_lstore (pc' := 29) (l' := [some (.ref 0), some (.int (jI z1)), some (.long (jL (z1 * z1))), none, some (.long (jL ((z1 * z1) * z1))), none, some (.long (jL 0)), none, none]) d_140_27 rfl ml_140 rfl rfl ?_
      refine g_iconst (pc' := 30) d_140_29 rfl rfl ?_
      refine g_istore (pc' := 32) (l' := [some (.ref 0), some (.int (jI z1)), some (.long (jL (z1 * z1))), none, some (.long (jL ((z1 * z1) * z1))), none, some (.long (jL 0)), none, some (.int (jI 1))]) d_140_30 rfl ml_140 rfl rfl ?_
      exact h
    · replace h := h.2 c
      refine g_iconst (pc' := 13) d_140_12 rfl rfl ?_
      exact g_iret d_140_13 rt_140 h
theorem Z_140 {z1 : Int} {w : xW} {r : Option Value × xW} (hC : CS w) (h : ∃ (P4 : Prop) (dP5 : Decidable P4) (w1 : xW), xCall 84 [.int (jI z1)] w (some (.int (bz P4)), w1) ∧ CS w1 ∧ (¬ P4 → r = (some (.int (jI (-1))), w1)) ∧ (P4 → in32 z1 ∧ (5 ≤ z1 → xGo 140 32 [some (.ref 0), some (.int (jI z1)), some (.long (jL (z1 * z1))), none, some (.long (jL ((z1 * z1) * z1))), none, some (.long (jL 0)), none, some (.int (jI 1))] [] w1 r) ∧ (z1 < 5 → r = (some (.int (jI (-1))), w1)))) : xCall 140 [.ref 0, .int (jI z1)] w r := E_140 (Z_140_0 hC h)
theorem Z_140_32 {z1 : Int} {z2 : Int} {z4 : Int} {z6 : Int} {z8 : Int} {w : xW} {r : Option Value × xW} (hC : CS w) (h : in32 z8 ∧ in32 z1 ∧ (z1 ≤ z8 → in64 z6 ∧ in64 z4 ∧ z4 ≠ 0 ∧ ∃ y6, Int.tmod z6 z4 = y6 ∧ in64 y6 ∧ in64 z2 ∧ z2 ≠ 0 ∧ ∃ y11, Int.tdiv y6 z2 = y11 ∧ r = (some (.int (jI y11)), w)) ∧ (z8 < z1 → ∃ r16 w13, xCall 53 [.long (jL z8), .long (jL z4)] w (some (.long (jL r16)), w13) ∧ CS w13 ∧ xGo 140 32 [some (.ref 0), some (.int (jI z1)), some (.long (jL z2)), none, some (.long (jL z4)), none, some (.long (jL (z6 + r16))), none, some (.int (jI (z8 + 1)))] [] w13 r)) : xGo 140 32 [some (.ref 0), some (.int (jI z1)), some (.long (jL z2)), none, some (.long (jL z4)), none, some (.long (jL z6)), none, some (.int (jI z8))] [] w r := by
  refine g_iload (pc' := 34) d_140_32 rfl rfl ?_
  refine g_iloadn (pc' := 35) d_140_34 rfl rfl ?_
  obtain ⟨hc1, h⟩ := h
  obtain ⟨hc2, h⟩ := h
  refine gz_ic_ge (pc' := 38) (pt := 57) d_140_35 (by decide) rfl hc1 hc2 (fun c => ?_) (fun c => ?_)
  · replace h := h.1 c
    refine g_lload (pc' := 59) d_140_57 rfl rfl ?_
    refine g_lload (pc' := 61) d_140_59 rfl rfl ?_
    obtain ⟨hc3, h⟩ := h
    obtain ⟨hc4, h⟩ := h
    obtain ⟨hc5, h⟩ := h
    obtain ⟨y6, hz7, h⟩ := h
    refine gz_lrem (pc' := 62) d_140_61 rfl hc3 hc4 hc5 hz7 ?_
    refine g_lloadn (pc' := 63) d_140_62 rfl rfl ?_
    obtain ⟨hc8, h⟩ := h
    obtain ⟨hc9, h⟩ := h
    obtain ⟨hc10, h⟩ := h
    obtain ⟨y11, hz12, h⟩ := h
    refine gz_ldiv (pc' := 64) d_140_63 rfl hc8 hc9 hc10 hz12 ?_
    refine gz_l2i (pc' := 65) d_140_64 rfl ?_
    exact g_iret d_140_65 rt_140 h
  · replace h := h.2 c
    refine g_lload (pc' := 40) d_140_38 rfl rfl ?_
    refine g_iload (pc' := 42) d_140_40 rfl rfl ?_
    refine gz_i2l (pc' := 43) d_140_42 rfl hc1 ?_
    refine g_lload (pc' := 45) d_140_43 rfl rfl ?_
    obtain ⟨r16, w13, hk14, hC15, h⟩ := h
    refine g_callS (pc' := 48) d_140_45 rfl st_140_316 (Or.inl rfl) na_53 ml_53 rfl rfl rfl rm_140_53 rfl rfl hk14 ?_
    refine gz_ladd (pc' := 49) d_140_48 rfl ?_
    refine g_lstore (pc' := 51) (l' := [some (.ref 0), some (.int (jI z1)), some (.long (jL z2)), none, some (.long (jL z4)), none, some (.long (jL (z6 + r16))), none, some (.int (jI z8))]) d_140_49 rfl ml_140 rfl rfl ?_
    refine gz_iinc (pc' := 54) (l' := [some (.ref 0), some (.int (jI z1)), some (.long (jL z2)), none, some (.long (jL z4)), none, some (.long (jL (z6 + r16))), none, some (.int (jI (z8 + 1)))]) d_140_51 rfl rfl ml_140 rfl rfl ?_
    refine g_goto (pt := 32) d_140_54 (by decide) ?_
    exact h
theorem Z_141_0 {z1 : Int} {w : xW} {r : Option Value × xW} (hC : CS w) (h : ∃ (P4 : Prop) (dP5 : Decidable P4) (w1 : xW), xCall 84 [.int (jI z1)] w (some (.int (bz P4)), w1) ∧ CS w1 ∧ (P4 → in32 z1 ∧ xGo 141 21 [some (.ref 0), some (.int (jI z1)), some (.long (jL (z1 * z1))), none, some (.long (jL 1)), none, some (.int (jI 2))] [] w1 r) ∧ (¬ P4 → r = (some (.int (jI (-1))), w1))) : xGo 141 0 [some (.ref 0), some (.int (jI z1)), none, none, none, none, none] [] w r := by
  refine g_iloadn (pc' := 1) d_141_0 rfl rfl ?_
  obtain ⟨P4, dP5, w1, hk2, hC3, h⟩ := h
  refine g_callS (pc' := 4) d_141_1 rfl st_141_222 (Or.inl rfl) na_84 ml_84 rfl rfl rfl rm_141_84 rfl rfl hk2 ?_
  refine gz_bt_ne (pc' := 7) (pt := 9) d_141_4 (by decide) rfl (fun c => ?_) (fun c => ?_)
  · replace h := h.1 c
    refine g_iloadn (pc' := 10) d_141_9 rfl rfl ?_
    obtain ⟨hc6, h⟩ := h
    refine gz_i2l (pc' := 11) d_141_10 rfl hc6 ?_
    refine g_iloadn (pc' := 12) d_141_11 rfl rfl ?_
    refine gz_i2l (pc' := 13) d_141_12 rfl hc6 ?_
    refine gz_lmul (pc' := 14) d_141_13 rfl ?_
    refine g_lstoren (pc' := 15) (l' := [some (.ref 0), some (.int (jI z1)), some (.long (jL (z1 * z1))), none, none, none, none]) d_141_14 rfl ml_141 rfl rfl ?_
    refine g_lconst (pc' := 16) (v := jL 1) d_141_15 rfl cl_1 ?_
    refine g_lstore (pc' := 18) (l' := [some (.ref 0), some (.int (jI z1)), some (.long (jL (z1 * z1))), none, some (.long (jL 1)), none, none]) d_141_16 rfl ml_141 rfl rfl ?_
    refine g_iconst (pc' := 19) d_141_18 rfl rfl ?_
    refine g_istore (pc' := 21) (l' := [some (.ref 0), some (.int (jI z1)), some (.long (jL (z1 * z1))), none, some (.long (jL 1)), none, some (.int (jI 2))]) d_141_19 rfl ml_141 rfl rfl ?_
    exact h
  · replace h := h.2 c
    refine g_iconst (pc' := 8) d_141_7 rfl rfl ?_
    exact g_iret d_141_8 rt_141 h
theorem Z_141 {z1 : Int} {w : xW} {r : Option Value × xW} (hC : CS w) (h : ∃ (P4 : Prop) (dP5 : Decidable P4) (w1 : xW), xCall 84 [.int (jI z1)] w (some (.int (bz P4)), w1) ∧ CS w1 ∧ (P4 → in32 z1 ∧ xGo 141 21 [some (.ref 0), some (.int (jI z1)), some (.long (jL (z1 * z1))), none, some (.long (jL 1)), none, some (.int (jI 2))] [] w1 r) ∧ (¬ P4 → r = (some (.int (jI (-1))), w1))) : xCall 141 [.ref 0, .int (jI z1)] w r := E_141 (Z_141_0 hC h)
theorem Z_141_21 {z1 : Int} {z2 : Int} {z4 : Int} {z6 : Int} {w : xW} {r : Option Value × xW} (hC : CS w) (h : in32 z6 ∧ in32 z1 ∧ (z1 ≤ z6 → in64 (z4 + 1) ∧ z1 ≠ 0 ∧ ∃ y5, Int.tdiv (z4 + 1) z1 = y5 ∧ in64 y5 ∧ z1 ≠ 0 ∧ ∃ y9, Int.tmod y5 z1 = y9 ∧ r = (some (.int (jI y9)), w)) ∧ (z6 < z1 → in64 (z4 * z6) ∧ in64 z2 ∧ z2 ≠ 0 ∧ ∃ y14, Int.tmod (z4 * z6) z2 = y14 ∧ xGo 141 21 [some (.ref 0), some (.int (jI z1)), some (.long (jL z2)), none, some (.long (jL y14)), none, some (.int (jI (z6 + 1)))] [] w r)) : xGo 141 21 [some (.ref 0), some (.int (jI z1)), some (.long (jL z2)), none, some (.long (jL z4)), none, some (.int (jI z6))] [] w r := by
  refine g_iload (pc' := 23) d_141_21 rfl rfl ?_
  refine g_iloadn (pc' := 24) d_141_23 rfl rfl ?_
  obtain ⟨hc1, h⟩ := h
  obtain ⟨hc2, h⟩ := h
  refine gz_ic_ge (pc' := 27) (pt := 43) d_141_24 (by decide) rfl hc1 hc2 (fun c => ?_) (fun c => ?_)
  · replace h := h.1 c
    refine g_lload (pc' := 45) d_141_43 rfl rfl ?_
    refine g_lconst (pc' := 46) (v := jL 1) d_141_45 rfl cl_1 ?_
    refine gz_ladd (pc' := 47) d_141_46 rfl ?_
    refine g_iloadn (pc' := 48) d_141_47 rfl rfl ?_
    refine gz_i2l (pc' := 49) d_141_48 rfl hc2 ?_
    obtain ⟨hc3, h⟩ := h
    obtain ⟨hc4, h⟩ := h
    obtain ⟨y5, hz6, h⟩ := h
    refine gz_ldiv (pc' := 50) d_141_49 rfl hc3 (in3264 hc2) hc4 hz6 ?_
    refine g_iloadn (pc' := 51) d_141_50 rfl rfl ?_
    refine gz_i2l (pc' := 52) d_141_51 rfl hc2 ?_
    obtain ⟨hc7, h⟩ := h
    obtain ⟨hc8, h⟩ := h
    obtain ⟨y9, hz10, h⟩ := h
    refine gz_lrem (pc' := 53) d_141_52 rfl hc7 (in3264 hc2) hc8 hz10 ?_
    refine gz_l2i (pc' := 54) d_141_53 rfl ?_
    exact g_iret d_141_54 rt_141 h
  · replace h := h.2 c
    refine g_lload (pc' := 29) d_141_27 rfl rfl ?_
    refine g_iload (pc' := 31) d_141_29 rfl rfl ?_
    refine gz_i2l (pc' := 32) d_141_31 rfl hc1 ?_
    refine gz_lmul (pc' := 33) d_141_32 rfl ?_
    refine g_lloadn (pc' := 34) d_141_33 rfl rfl ?_
    obtain ⟨hc11, h⟩ := h
    obtain ⟨hc12, h⟩ := h
    obtain ⟨hc13, h⟩ := h
    obtain ⟨y14, hz15, h⟩ := h
    refine gz_lrem (pc' := 35) d_141_34 rfl hc11 hc12 hc13 hz15 ?_
    refine g_lstore (pc' := 37) (l' := [some (.ref 0), some (.int (jI z1)), some (.long (jL z2)), none, some (.long (jL y14)), none, some (.int (jI z6))]) d_141_35 rfl ml_141 rfl rfl ?_
    refine gz_iinc (pc' := 40) (l' := [some (.ref 0), some (.int (jI z1)), some (.long (jL z2)), none, some (.long (jL y14)), none, some (.int (jI (z6 + 1)))]) d_141_37 rfl rfl ml_141 rfl rfl ?_
    refine g_goto (pt := 21) d_141_40 (by decide) ?_
    exact h
theorem Z_142_0 {z1 : Int} {w : xW} {r : Option Value × xW} (hC : CS w) (h : ∃ (P4 : Prop) (dP5 : Decidable P4) (w1 : xW), xCall 84 [.int (jI z1)] w (some (.int (bz P4)), w1) ∧ CS w1 ∧ (¬ P4 → r = (some (.int (jI (-1))), w1)) ∧ (P4 → in32 z1 ∧ (z1 < 7 → r = (some (.int (jI (-1))), w1)) ∧ (7 ≤ z1 → ∃ y7, Int.tmod z1 4 = y7 ∧ in32 y7 ∧ (y7 = 3 → xGo 142 26 [some (.ref 0), some (.int (jI z1)), some (.int (jI 0)), some (.int (jI 1))] [] w1 r) ∧ (y7 ≠ 3 → r = (some (.int (jI (-1))), w1))))) : xGo 142 0 [some (.ref 0), some (.int (jI z1)), none, none] [] w r := by
  refine g_iloadn (pc' := 1) d_142_0 rfl rfl ?_
  obtain ⟨P4, dP5, w1, hk2, hC3, h⟩ := h
  refine g_callS (pc' := 4) d_142_1 rfl st_142_222 (Or.inl rfl) na_84 ml_84 rfl rfl rfl rm_142_84 rfl rfl hk2 ?_
  refine gz_bt_eq (pc' := 7) (pt := 20) d_142_4 (by decide) rfl (fun c => ?_) (fun c => ?_)
  · replace h := h.1 c
    refine g_iconst (pc' := 21) d_142_20 rfl rfl ?_
    exact g_iret d_142_21 rt_142 h
  · replace h := h.2 c
    refine g_iloadn (pc' := 8) d_142_7 rfl rfl ?_
    refine g_bipush (pc' := 10) (v := jI 7) d_142_8 rfl (by decide) ?_
    obtain ⟨hc6, h⟩ := h
    refine gz_ic_lt (pc' := 13) (pt := 20) d_142_10 (by decide) rfl hc6 (s32 (z := 7)) (fun c => ?_) (fun c => ?_)
    · replace h := h.1 c
      refine g_iconst (pc' := 21) d_142_20 rfl rfl ?_
      exact g_iret d_142_21 rt_142 h
    · replace h := h.2 c
      refine g_iloadn (pc' := 14) d_142_13 rfl rfl ?_
      refine g_iconst (pc' := 15) d_142_14 rfl rfl ?_
      obtain ⟨y7, hz8, h⟩ := h
      refine gz_irem (pc' := 16) d_142_15 rfl hc6 (s32 (z := 4)) (by decide) hz8 ?_
      refine g_iconst (pc' := 17) d_142_16 rfl rfl ?_
      obtain ⟨hc9, h⟩ := h
      refine gz_ic_eq (pc' := 20) (pt := 22) d_142_17 (by decide) rfl hc9 (s32 (z := 3)) (fun c => ?_) (fun c => ?_)
      · replace h := h.1 c
        refine g_iconst (pc' := 23) d_142_22 rfl rfl ?_
        refine g_istoren (pc' := 24) (l' := [some (.ref 0), some (.int (jI z1)), some (.int (jI 0)), none]) d_142_23 rfl ml_142 rfl rfl ?_
        refine g_iconst (pc' := 25) d_142_24 rfl rfl ?_
        refine g_istoren (pc' := 26) (l' := [some (.ref 0), some (.int (jI z1)), some (.int (jI 0)), some (.int (jI 1))]) d_142_25 rfl ml_142 rfl rfl ?_
        exact h
      · replace h := h.2 c
        refine g_iconst (pc' := 21) d_142_20 rfl rfl ?_
        exact g_iret d_142_21 rt_142 h
theorem Z_142 {z1 : Int} {w : xW} {r : Option Value × xW} (hC : CS w) (h : ∃ (P4 : Prop) (dP5 : Decidable P4) (w1 : xW), xCall 84 [.int (jI z1)] w (some (.int (bz P4)), w1) ∧ CS w1 ∧ (¬ P4 → r = (some (.int (jI (-1))), w1)) ∧ (P4 → in32 z1 ∧ (z1 < 7 → r = (some (.int (jI (-1))), w1)) ∧ (7 ≤ z1 → ∃ y7, Int.tmod z1 4 = y7 ∧ in32 y7 ∧ (y7 = 3 → xGo 142 26 [some (.ref 0), some (.int (jI z1)), some (.int (jI 0)), some (.int (jI 1))] [] w1 r) ∧ (y7 ≠ 3 → r = (some (.int (jI (-1))), w1))))) : xCall 142 [.ref 0, .int (jI z1)] w r := E_142 (Z_142_0 hC h)
theorem Z_142_26 {z1 : Int} {z2 : Int} {z3 : Int} {w : xW} {r : Option Value × xW} (hC : CS w) (h : in32 z3 ∧ in32 z1 ∧ (z1 ≤ z3 → in32 z2 ∧ z1 ≠ 0 ∧ ∃ y5, Int.tdiv z2 z1 = y5 ∧ r = (some (.int (jI y5)), w)) ∧ (z3 < z1 → ∃ r10 w7, xCall 143 [.int (jI z3), .int (jI z1)] w (some (.int (jI r10)), w7) ∧ CS w7 ∧ xGo 142 26 [some (.ref 0), some (.int (jI z1)), some (.int (jI (z2 - (r10 * z3)))), some (.int (jI (z3 + 1)))] [] w7 r)) : xGo 142 26 [some (.ref 0), some (.int (jI z1)), some (.int (jI z2)), some (.int (jI z3))] [] w r := by
  refine g_iloadn (pc' := 27) d_142_26 rfl rfl ?_
  refine g_iloadn (pc' := 28) d_142_27 rfl rfl ?_
  obtain ⟨hc1, h⟩ := h
  obtain ⟨hc2, h⟩ := h
  refine gz_ic_ge (pc' := 31) (pt := 47) d_142_28 (by decide) rfl hc1 hc2 (fun c => ?_) (fun c => ?_)
  · replace h := h.1 c
    refine g_iloadn (pc' := 48) d_142_47 rfl rfl ?_
    refine g_iloadn (pc' := 49) d_142_48 rfl rfl ?_
    obtain ⟨hc3, h⟩ := h
    obtain ⟨hc4, h⟩ := h
    obtain ⟨y5, hz6, h⟩ := h
    refine gz_idiv (pc' := 50) d_142_49 rfl hc3 hc2 hc4 hz6 ?_
    exact g_iret d_142_50 rt_142 h
  · replace h := h.2 c
    refine g_iloadn (pc' := 32) d_142_31 rfl rfl ?_
    refine g_iloadn (pc' := 33) d_142_32 rfl rfl ?_
    refine g_iloadn (pc' := 34) d_142_33 rfl rfl ?_
    obtain ⟨r10, w7, hk8, hC9, h⟩ := h
    refine g_callS (pc' := 37) d_142_34 rfl st_142_319 (Or.inl rfl) na_143 ml_143 rfl rfl rfl rm_142_143 rfl rfl hk8 ?_
    refine g_iloadn (pc' := 38) d_142_37 rfl rfl ?_
    refine gz_imul (pc' := 39) d_142_38 rfl ?_
    refine gz_isub (pc' := 40) d_142_39 rfl ?_
    refine g_istoren (pc' := 41) (l' := [some (.ref 0), some (.int (jI z1)), some (.int (jI (z2 - (r10 * z3)))), some (.int (jI z3))]) d_142_40 rfl ml_142 rfl rfl ?_
    refine gz_iinc (pc' := 44) (l' := [some (.ref 0), some (.int (jI z1)), some (.int (jI (z2 - (r10 * z3)))), some (.int (jI (z3 + 1)))]) d_142_41 rfl rfl ml_142 rfl rfl ?_
    refine g_goto (pt := 26) d_142_44 (by decide) ?_
    exact h
theorem Z_143_0 {z0 : Int} {z1 : Int} {w : xW} {r : Option Value × xW} (hC : CS w) (h : in32 z0 ∧ in32 (z1 - 1) ∧ ∃ y3, Int.tdiv (z1 - 1) 2 = y3 ∧ in32 z1 ∧ ∃ r9 w6, xCall 50 [.long (jL z0), .int (jI y3), .long (jL z1)] w (some (.long (jL r9)), w6) ∧ CS w6 ∧ in64 r9 ∧ (r9 ≤ 1 → r = (some (.int (jI r9)), w6)) ∧ (1 < r9 → r = (some (.int (jI (-1))), w6))) : xGo 143 0 [some (.int (jI z0)), some (.int (jI z1)), none, none] [] w r := by
  refine g_iloadn (pc' := 1) d_143_0 rfl rfl ?_
  obtain ⟨hc1, h⟩ := h
  refine gz_i2l (pc' := 2) d_143_1 rfl hc1 ?_
  refine g_iloadn (pc' := 3) d_143_2 rfl rfl ?_
  refine g_iconst (pc' := 4) d_143_3 rfl rfl ?_
  refine gz_isub (pc' := 5) d_143_4 rfl ?_
  refine g_iconst (pc' := 6) d_143_5 rfl rfl ?_
  obtain ⟨hc2, h⟩ := h
  obtain ⟨y3, hz4, h⟩ := h
  refine gz_idiv (pc' := 7) d_143_6 rfl hc2 (s32 (z := 2)) (by decide) hz4 ?_
  refine g_iloadn (pc' := 8) d_143_7 rfl rfl ?_
  obtain ⟨hc5, h⟩ := h
  refine gz_i2l (pc' := 9) d_143_8 rfl hc5 ?_
  obtain ⟨r9, w6, hk7, hC8, h⟩ := h
  refine g_callS (pc' := 12) d_143_9 rfl st_143_13 (Or.inl rfl) na_50 ml_50 rfl rfl rfl rm_143_50 rfl rfl hk7 ?_
  refine g_lstoren (pc' := 13) (l' := [some (.int (jI z0)), some (.int (jI z1)), some (.long (jL r9)), none]) d_143_12 rfl ml_143 rfl rfl ?_
  refine g_lloadn (pc' := 14) d_143_13 rfl rfl ?_
  refine g_lconst (pc' := 15) (v := jL 1) d_143_14 rfl cl_1 ?_
  obtain ⟨hc10, h⟩ := h
  refine gz_lc_le (pc' := 19) (pm := 16) (pt := 23) d_143_15 rfl d_143_16 (by decide) rfl hc10 (s64 (z := 1)) (fun c => ?_) (fun c => ?_)
  · replace h := h.1 c
    refine g_lloadn (pc' := 24) d_143_23 rfl rfl ?_
    refine gz_l2i (pc' := 25) d_143_24 rfl ?_
    exact g_iret d_143_25 rt_143 h
  · replace h := h.2 c
    refine g_iconst (pc' := 20) d_143_19 rfl rfl ?_
    refine g_goto (pt := 25) d_143_20 (by decide) ?_
    exact g_iret d_143_25 rt_143 h
theorem Z_143 {z0 : Int} {z1 : Int} {w : xW} {r : Option Value × xW} (hC : CS w) (h : in32 z0 ∧ in32 (z1 - 1) ∧ ∃ y3, Int.tdiv (z1 - 1) 2 = y3 ∧ in32 z1 ∧ ∃ r9 w6, xCall 50 [.long (jL z0), .int (jI y3), .long (jL z1)] w (some (.long (jL r9)), w6) ∧ CS w6 ∧ in64 r9 ∧ (r9 ≤ 1 → r = (some (.int (jI r9)), w6)) ∧ (1 < r9 → r = (some (.int (jI (-1))), w6))) : xCall 143 [.int (jI z0), .int (jI z1)] w r := E_143 (Z_143_0 hC h)
theorem Z_144_0 {z1 : Int} {z2 : Int} {z3 : Int} {w : xW} {r : Option Value × xW} (hC : CS w) (h : ∃ (P4 : Prop) (dP5 : Decidable P4) (w1 : xW), xCall 84 [.int (jI z1)] w (some (.int (bz P4)), w1) ∧ CS w1 ∧ (¬ P4 → r = (some (.long (jL (-9223372036854775808))), w1)) ∧ (P4 → in32 z2 ∧ (z2 < 1 → r = (some (.long (jL (-9223372036854775808))), w1)) ∧ (1 ≤ z2 → (4 < z2 → r = (some (.long (jL (-9223372036854775808))), w1)) ∧ (z2 ≤ 4 → ∃ (P10 : Prop) (dP11 : Decidable P10) (w7 : xW), xCall 116 [.int (jI z3)] w1 (some (.int (bz P10)), w7) ∧ CS w7 ∧ (P10 → xGo 144 34 [some (.ref 0), some (.int (jI z1)), some (.int (jI z2)), some (.int (jI z3)), some (.long (jL 0)), none, some (.int (jI 1))] [] w7 r) ∧ (¬ P10 → r = (some (.long (jL (-9223372036854775808))), w7)))))) : xGo 144 0 [some (.ref 0), some (.int (jI z1)), some (.int (jI z2)), some (.int (jI z3)), none, none, none] [] w r := by
  refine g_iloadn (pc' := 1) d_144_0 rfl rfl ?_
  obtain ⟨P4, dP5, w1, hk2, hC3, h⟩ := h
  refine g_callS (pc' := 4) d_144_1 rfl st_144_222 (Or.inl rfl) na_84 ml_84 rfl rfl rfl rm_144_84 rfl rfl hk2 ?_
  refine gz_bt_eq (pc' := 7) (pt := 24) d_144_4 (by decide) rfl (fun c => ?_) (fun c => ?_)
  · replace h := h.1 c
    refine g_ldc2 (pc' := 27) d_144_24 rfl st_144_166 rfl ?_
    exact g_lret d_144_27 rt_144 h
  · replace h := h.2 c
    refine g_iloadn (pc' := 8) d_144_7 rfl rfl ?_
    refine g_iconst (pc' := 9) d_144_8 rfl rfl ?_
    obtain ⟨hc6, h⟩ := h
    refine gz_ic_lt (pc' := 12) (pt := 24) d_144_9 (by decide) rfl hc6 (s32 (z := 1)) (fun c => ?_) (fun c => ?_)
    · replace h := h.1 c
      refine g_ldc2 (pc' := 27) d_144_24 rfl st_144_166 rfl ?_
      exact g_lret d_144_27 rt_144 h
    · replace h := h.2 c
      refine g_iloadn (pc' := 13) d_144_12 rfl rfl ?_
      refine g_iconst (pc' := 14) d_144_13 rfl rfl ?_
      refine gz_ic_gt (pc' := 17) (pt := 24) d_144_14 (by decide) rfl hc6 (s32 (z := 4)) (fun c => ?_) (fun c => ?_)
      · replace h := h.1 c
        refine g_ldc2 (pc' := 27) d_144_24 rfl st_144_166 rfl ?_
        exact g_lret d_144_27 rt_144 h
      · replace h := h.2 c
        refine g_iloadn (pc' := 18) d_144_17 rfl rfl ?_
        obtain ⟨P10, dP11, w7, hk8, hC9, h⟩ := h
        refine g_callS (pc' := 21) d_144_18 rfl st_144_153 (Or.inl rfl) na_116 ml_116 rfl rfl rfl rm_144_116 rfl rfl hk8 ?_
        refine gz_bt_ne (pc' := 24) (pt := 28) d_144_21 (by decide) rfl (fun c => ?_) (fun c => ?_)
        · replace h := h.1 c
          refine g_lconst (pc' := 29) (v := jL 0) d_144_28 rfl cl_0 ?_
          refine g_lstore (pc' := 31) (l' := [some (.ref 0), some (.int (jI z1)), some (.int (jI z2)), some (.int (jI z3)), some (.long (jL 0)), none, none]) d_144_29 rfl ml_144 rfl rfl ?_
          refine g_iconst (pc' := 32) d_144_31 rfl rfl ?_
          refine g_istore (pc' := 34) (l' := [some (.ref 0), some (.int (jI z1)), some (.int (jI z2)), some (.int (jI z3)), some (.long (jL 0)), none, some (.int (jI 1))]) d_144_32 rfl ml_144 rfl rfl ?_
          exact h
        · replace h := h.2 c
          refine g_ldc2 (pc' := 27) d_144_24 rfl st_144_166 rfl ?_
          exact g_lret d_144_27 rt_144 h
theorem Z_144 {z1 : Int} {z2 : Int} {z3 : Int} {w : xW} {r : Option Value × xW} (hC : CS w) (h : ∃ (P4 : Prop) (dP5 : Decidable P4) (w1 : xW), xCall 84 [.int (jI z1)] w (some (.int (bz P4)), w1) ∧ CS w1 ∧ (¬ P4 → r = (some (.long (jL (-9223372036854775808))), w1)) ∧ (P4 → in32 z2 ∧ (z2 < 1 → r = (some (.long (jL (-9223372036854775808))), w1)) ∧ (1 ≤ z2 → (4 < z2 → r = (some (.long (jL (-9223372036854775808))), w1)) ∧ (z2 ≤ 4 → ∃ (P10 : Prop) (dP11 : Decidable P10) (w7 : xW), xCall 116 [.int (jI z3)] w1 (some (.int (bz P10)), w7) ∧ CS w7 ∧ (P10 → xGo 144 34 [some (.ref 0), some (.int (jI z1)), some (.int (jI z2)), some (.int (jI z3)), some (.long (jL 0)), none, some (.int (jI 1))] [] w7 r) ∧ (¬ P10 → r = (some (.long (jL (-9223372036854775808))), w7)))))) : xCall 144 [.ref 0, .int (jI z1), .int (jI z2), .int (jI z3)] w r := E_144 (Z_144_0 hC h)
theorem Z_144_34 {z1 : Int} {z2 : Int} {z3 : Int} {z4 : Int} {z6 : Int} {w : xW} {r : Option Value × xW} (hC : CS w) (h : in32 z6 ∧ in32 z1 ∧ (z1 < z6 → ∃ w3, xCall 16 [.ref 36, .long (jL 0), .long (jL z4), .long (jL (30 * z1))] w (none, w3) ∧ CS w3 ∧ ∃ r9 w6, xCall 117 [.ref 36, .int (jI z3)] w3 (some (.long (jL r9)), w6) ∧ CS w6 ∧ r = (some (.long (jL r9)), w6)) ∧ (z6 ≤ z1 → ∃ r13 w10, xCall 143 [.int (jI z6), .int (jI z1)] w (some (.int (jI r13)), w10) ∧ CS w10 ∧ in32 r13 ∧ ∃ r18 w15, xCall 145 [.ref 0, .ref 7, .int (jI z2), .long (jL z6), .long (jL z1), .long (jL 30)] w10 (some (.long (jL r18)), w15) ∧ CS w15 ∧ xGo 144 34 [some (.ref 0), some (.int (jI z1)), some (.int (jI z2)), some (.int (jI z3)), some (.long (jL (z4 + (r13 * r18)))), none, some (.int (jI (z6 + 1)))] [] w15 r)) : xGo 144 34 [some (.ref 0), some (.int (jI z1)), some (.int (jI z2)), some (.int (jI z3)), some (.long (jL z4)), none, some (.int (jI z6))] [] w r := by
  refine g_iload (pc' := 36) d_144_34 rfl rfl ?_
  refine g_iloadn (pc' := 37) d_144_36 rfl rfl ?_
  obtain ⟨hc1, h⟩ := h
  obtain ⟨hc2, h⟩ := h
  refine gz_ic_gt (pc' := 40) (pt := 76) d_144_37 (by decide) rfl hc1 hc2 (fun c => ?_) (fun c => ?_)
  · replace h := h.1 c
    refine g_aloadn (pc' := 77) d_144_76 rfl rfl ?_
    refine gz_getR (pc' := 80) d_144_77 rfl st_144_95 (kr_0_13 hC) ?_
    refine g_lconst (pc' := 81) (v := jL 0) d_144_80 rfl cl_0 ?_
    refine g_lload (pc' := 83) d_144_81 rfl rfl ?_
    refine g_ldc2 (pc' := 86) d_144_83 rfl st_144_321 rfl ?_
    refine g_iloadn (pc' := 87) d_144_86 rfl rfl ?_
    refine gz_i2l (pc' := 88) d_144_87 rfl hc2 ?_
    refine gz_lmul (pc' := 89) d_144_88 rfl ?_
    obtain ⟨w3, hk4, hC5, h⟩ := h
    refine gz_callV (pc' := 92) d_144_89 rfl st_144_327 na_16 ml_16 rfl rfl rfl rm_144_16 rfl rfl ow_16 (ko_36 hC) hk4 ?_
    refine g_aloadn (pc' := 93) d_144_92 rfl rfl ?_
    refine gz_getR (pc' := 96) d_144_93 rfl st_144_95 (kr_0_13 hC5) ?_
    refine g_iloadn (pc' := 97) d_144_96 rfl rfl ?_
    obtain ⟨r9, w6, hk7, hC8, h⟩ := h
    refine gz_callV (pc' := 100) d_144_97 rfl st_144_171 na_117 ml_117 rfl rfl rfl rm_144_117 rfl rfl ow_117 (ko_36 hC5) hk7 ?_
    exact g_lret d_144_100 rt_144 h
  · replace h := h.2 c
    refine g_lload (pc' := 42) d_144_40 rfl rfl ?_
    refine g_iload (pc' := 44) d_144_42 rfl rfl ?_
    refine g_iloadn (pc' := 45) d_144_44 rfl rfl ?_
    obtain ⟨r13, w10, hk11, hC12, h⟩ := h
    refine g_callS (pc' := 48) d_144_45 rfl st_144_319 (Or.inl rfl) na_143 ml_143 rfl rfl rfl rm_144_143 rfl rfl hk11 ?_
    obtain ⟨hc14, h⟩ := h
    refine gz_i2l (pc' := 49) d_144_48 rfl hc14 ?_
    refine g_aloadn (pc' := 50) d_144_49 rfl rfl ?_
    refine g_aloadn (pc' := 51) d_144_50 rfl rfl ?_
    refine gz_getR (pc' := 54) d_144_51 rfl st_144_35 (kr_0_3 hC12) ?_
    refine g_iloadn (pc' := 55) d_144_54 rfl rfl ?_
    refine g_iload (pc' := 57) d_144_55 rfl rfl ?_
    refine gz_i2l (pc' := 58) d_144_57 rfl hc1 ?_
    refine g_iloadn (pc' := 59) d_144_58 rfl rfl ?_
    refine gz_i2l (pc' := 60) d_144_59 rfl hc2 ?_
    refine g_ldc2 (pc' := 63) d_144_60 rfl st_144_321 rfl ?_
    obtain ⟨r18, w15, hk16, hC17, h⟩ := h
    refine gz_callV (pc' := 66) d_144_63 rfl st_144_323 na_145 ml_145 rfl rfl rfl rm_144_145 rfl rfl ow_145 (ko_0 hC12) hk16 ?_
    refine gz_lmul (pc' := 67) d_144_66 rfl ?_
    refine gz_ladd (pc' := 68) d_144_67 rfl ?_
    refine g_lstore (pc' := 70) (l' := [some (.ref 0), some (.int (jI z1)), some (.int (jI z2)), some (.int (jI z3)), some (.long (jL (z4 + (r13 * r18)))), none, some (.int (jI z6))]) d_144_68 rfl ml_144 rfl rfl ?_
    refine gz_iinc (pc' := 73) (l' := [some (.ref 0), some (.int (jI z1)), some (.int (jI z2)), some (.int (jI z3)), some (.long (jL (z4 + (r13 * r18)))), none, some (.int (jI (z6 + 1)))]) d_144_70 rfl rfl ml_144 rfl rfl ?_
    refine g_goto (pt := 34) d_144_73 (by decide) ?_
    exact h
theorem Z_145_0 {a1 : Nat} {z2 : Int} {z3 : Int} {z5 : Int} {z7 : Int} {w : xW} {r : Option Value × xW} (hC : CS w) (h : xGo 145 9 [some (.ref 0), some (.ref a1), some (.int (jI z2)), some (.long (jL z3)), none, some (.long (jL z5)), none, some (.long (jL z7)), none, some (.long (jL 0)), none, some (.long (jL 1)), none, some (.int (jI z2))] [] w r) : xGo 145 0 [some (.ref 0), some (.ref a1), some (.int (jI z2)), some (.long (jL z3)), none, some (.long (jL z5)), none, some (.long (jL z7)), none, none, none, none, none, none] [] w r := by
  refine g_lconst (pc' := 1) (v := jL 0) d_145_0 rfl cl_0 ?_
  refine g_lstore (pc' := 3) (l' := [some (.ref 0), some (.ref a1), some (.int (jI z2)), some (.long (jL z3)), none, some (.long (jL z5)), none, some (.long (jL z7)), none, some (.long (jL 0)), none, none, none, none]) d_145_1 rfl ml_145 rfl rfl ?_
  refine g_lconst (pc' := 4) (v := jL 1) d_145_3 rfl cl_1 ?_
  refine g_lstore (pc' := 6) (l' := [some (.ref 0), some (.ref a1), some (.int (jI z2)), some (.long (jL z3)), none, some (.long (jL z5)), none, some (.long (jL z7)), none, some (.long (jL 0)), none, some (.long (jL 1)), none, none]) d_145_4 rfl ml_145 rfl rfl ?_
  refine g_iloadn (pc' := 7) d_145_6 rfl rfl ?_
  refine g_istore (pc' := 9) (l' := [some (.ref 0), some (.ref a1), some (.int (jI z2)), some (.long (jL z3)), none, some (.long (jL z5)), none, some (.long (jL z7)), none, some (.long (jL 0)), none, some (.long (jL 1)), none, some (.int (jI z2))]) d_145_7 rfl ml_145 rfl rfl ?_
  exact h
theorem Z_145 {a1 : Nat} {z2 : Int} {z3 : Int} {z5 : Int} {z7 : Int} {w : xW} {r : Option Value × xW} (hC : CS w) (h : xGo 145 9 [some (.ref 0), some (.ref a1), some (.int (jI z2)), some (.long (jL z3)), none, some (.long (jL z5)), none, some (.long (jL z7)), none, some (.long (jL 0)), none, some (.long (jL 1)), none, some (.int (jI z2))] [] w r) : xCall 145 [.ref 0, .ref a1, .int (jI z2), .long (jL z3), .long (jL z5), .long (jL z7)] w r := E_145 (Z_145_0 hC h)
theorem Z_145_9 {a1 : Nat} {z2 : Int} {z3 : Int} {z5 : Int} {z7 : Int} {z9 : Int} {z11 : Int} {z13 : Int} {w : xW} {r : Option Value × xW} (hC : CS w) (h : in32 z13 ∧ (z13 < 0 → r = (some (.long (jL z9)), w)) ∧ (0 ≤ z13 → ∃ r5 w2, xCall 39 [.ref 1, .int (jI z2), .int (jI z13)] w (some (.long (jL r5)), w2) ∧ CS w2 ∧ isO w2 a1 4 ∧ ∃ r10 w7, xCall 146 [.ref a1, .int (jI (z2 - z13)), .long (jL z7)] w2 (some (.long (jL r10)), w7) ∧ CS w7 ∧ xGo 145 9 [some (.ref 0), some (.ref a1), some (.int (jI z2)), some (.long (jL z3)), none, some (.long (jL z5)), none, some (.long (jL z7)), none, some (.long (jL ((z9 * z3) + ((r5 * r10) * z11)))), none, some (.long (jL (z11 * z5))), none, some (.int (jI (z13 - 1)))] [] w7 r)) : xGo 145 9 [some (.ref 0), some (.ref a1), some (.int (jI z2)), some (.long (jL z3)), none, some (.long (jL z5)), none, some (.long (jL z7)), none, some (.long (jL z9)), none, some (.long (jL z11)), none, some (.int (jI z13))] [] w r := by
  refine g_iload (pc' := 11) d_145_9 rfl rfl ?_
  obtain ⟨hc1, h⟩ := h
  refine gz_if_lt (pc' := 14) (pt := 58) d_145_11 (by decide) rfl hc1 (fun c => ?_) (fun c => ?_)
  · replace h := h.1 c
    refine g_lload (pc' := 60) d_145_58 rfl rfl ?_
    exact g_lret d_145_60 rt_145 h
  · replace h := h.2 c
    refine g_lload (pc' := 16) d_145_14 rfl rfl ?_
    refine g_lloadn (pc' := 17) d_145_16 rfl rfl ?_
    refine gz_lmul (pc' := 18) d_145_17 rfl ?_
    refine g_aloadn (pc' := 19) d_145_18 rfl rfl ?_
    refine gz_getR (pc' := 22) d_145_19 rfl st_145_14 (kr_0_0 hC) ?_
    refine g_iloadn (pc' := 23) d_145_22 rfl rfl ?_
    refine g_iload (pc' := 25) d_145_23 rfl rfl ?_
    obtain ⟨r5, w2, hk3, hC4, h⟩ := h
    refine gz_callV (pc' := 28) d_145_25 rfl st_145_336 na_39 ml_39 rfl rfl rfl rm_145_39 rfl rfl ow_39 (ko_1 hC) hk3 ?_
    refine g_aloadn (pc' := 29) d_145_28 rfl rfl ?_
    refine g_iloadn (pc' := 30) d_145_29 rfl rfl ?_
    refine g_iload (pc' := 32) d_145_30 rfl rfl ?_
    refine gz_isub (pc' := 33) d_145_32 rfl ?_
    refine g_lload (pc' := 35) d_145_33 rfl rfl ?_
    obtain ⟨hc6, h⟩ := h
    obtain ⟨r10, w7, hk8, hC9, h⟩ := h
    refine gz_callV (pc' := 38) d_145_35 rfl st_145_461 na_146 ml_146 rfl rfl rfl rm_145_146 rfl rfl ow_146 hc6 hk8 ?_
    refine gz_lmul (pc' := 39) d_145_38 rfl ?_
    refine g_lload (pc' := 41) d_145_39 rfl rfl ?_
    refine gz_lmul (pc' := 42) d_145_41 rfl ?_
    refine gz_ladd (pc' := 43) d_145_42 rfl ?_
    refine g_lstore (pc' := 45) (l' := [some (.ref 0), some (.ref a1), some (.int (jI z2)), some (.long (jL z3)), none, some (.long (jL z5)), none, some (.long (jL z7)), none, some (.long (jL ((z9 * z3) + ((r5 * r10) * z11)))), none, some (.long (jL z11)), none, some (.int (jI z13))]) d_145_43 rfl ml_145 rfl rfl ?_
    refine g_lload (pc' := 47) d_145_45 rfl rfl ?_
    refine g_lload (pc' := 49) d_145_47 rfl rfl ?_
    refine gz_lmul (pc' := 50) d_145_49 rfl ?_
    refine g_lstore (pc' := 52) (l' := [some (.ref 0), some (.ref a1), some (.int (jI z2)), some (.long (jL z3)), none, some (.long (jL z5)), none, some (.long (jL z7)), none, some (.long (jL ((z9 * z3) + ((r5 * r10) * z11)))), none, some (.long (jL (z11 * z5))), none, some (.int (jI z13))]) d_145_50 rfl ml_145 rfl rfl ?_
    refine gz_idec (pc' := 55) (c := 1) (l' := [some (.ref 0), some (.ref a1), some (.int (jI z2)), some (.long (jL z3)), none, some (.long (jL z5)), none, some (.long (jL z7)), none, some (.long (jL ((z9 * z3) + ((r5 * r10) * z11)))), none, some (.long (jL (z11 * z5))), none, some (.int (jI (z13 - 1)))]) d_145_52 rfl rfl ml_145 rfl rfl ?_
    refine g_goto (pt := 9) d_145_55 (by decide) ?_
    exact h
theorem Z_146_0 {e : Nat} {z1 : Int} {z2 : Int} {w : xW} {r : Option Value × xW} (hC : CS w) (he : eIs e) (h : ∃ r4 w1, xCall 31 [.ref e, .int (jI z1)] w (some (.long (jL r4)), w1) ∧ CS w1 ∧ in64 r4 ∧ (r4 ≤ 0 → r = (some (.long (jL 0)), w1)) ∧ (0 < r4 → ∃ r9 w6, xCall 29 [.ref e, .int (jI z1)] w1 (some (.long (jL r9)), w6) ∧ CS w6 ∧ ∃ r13 w10, xCall 30 [.ref e, .int (jI z1)] w6 (some (.long (jL r13)), w10) ∧ CS w10 ∧ in64 z2 ∧ r4 ≠ 0 ∧ ∃ y16, Int.tdiv z2 r4 = y16 ∧ r = (some (.long (jL ((r9 * z2) + (r13 * y16)))), w10))) : xGo 146 0 [some (.ref e), some (.int (jI z1)), some (.long (jL z2)), none, none, none] [] w r := by
  refine g_aloadn (pc' := 1) d_146_0 rfl rfl ?_
  refine g_iloadn (pc' := 2) d_146_1 rfl rfl ?_
  obtain ⟨r4, w1, hk2, hC3, h⟩ := h
  refine gz_callV (pc' := 5) d_146_2 rfl st_146_55 na_31 ml_31 rfl rfl rfl rm_146_31 rfl rfl ow_31 (ko_e he hC) hk2 ?_
  refine g_lstore (pc' := 7) (l' := [some (.ref e), some (.int (jI z1)), some (.long (jL z2)), none, some (.long (jL r4)), none]) d_146_5 rfl ml_146 rfl rfl ?_
  refine g_lload (pc' := 9) d_146_7 rfl rfl ?_
  refine g_lconst (pc' := 10) (v := jL 0) d_146_9 rfl cl_0 ?_
  obtain ⟨hc5, h⟩ := h
  refine gz_lc_le (pc' := 14) (pm := 11) (pt := 35) d_146_10 rfl d_146_11 (by decide) rfl hc5 (s64 (z := 0)) (fun c => ?_) (fun c => ?_)
  · replace h := h.1 c
    refine g_lconst (pc' := 36) (v := jL 0) d_146_35 rfl cl_0 ?_
    exact g_lret d_146_36 rt_146 h
  · replace h := h.2 c
    refine g_aloadn (pc' := 15) d_146_14 rfl rfl ?_
    refine g_iloadn (pc' := 16) d_146_15 rfl rfl ?_
    obtain ⟨r9, w6, hk7, hC8, h⟩ := h
    refine gz_callV (pc' := 19) d_146_16 rfl st_146_38 na_29 ml_29 rfl rfl rfl rm_146_29 rfl rfl ow_29 (ko_e he hC3) hk7 ?_
    refine g_lloadn (pc' := 20) d_146_19 rfl rfl ?_
    refine gz_lmul (pc' := 21) d_146_20 rfl ?_
    refine g_aloadn (pc' := 22) d_146_21 rfl rfl ?_
    refine g_iloadn (pc' := 23) d_146_22 rfl rfl ?_
    obtain ⟨r13, w10, hk11, hC12, h⟩ := h
    refine gz_callV (pc' := 26) d_146_23 rfl st_146_42 na_30 ml_30 rfl rfl rfl rm_146_30 rfl rfl ow_30 (ko_e he hC8) hk11 ?_
    refine g_lloadn (pc' := 27) d_146_26 rfl rfl ?_
    refine g_lload (pc' := 29) d_146_27 rfl rfl ?_
    obtain ⟨hc14, h⟩ := h
    obtain ⟨hc15, h⟩ := h
    obtain ⟨y16, hz17, h⟩ := h
    refine gz_ldiv (pc' := 30) d_146_29 rfl hc14 hc5 hc15 hz17 ?_
    refine gz_lmul (pc' := 31) d_146_30 rfl ?_
    refine gz_ladd (pc' := 32) d_146_31 rfl ?_
    refine g_goto (pt := 36) d_146_32 (by decide) ?_
    exact g_lret d_146_36 rt_146 h
theorem Z_146 {e : Nat} {z1 : Int} {z2 : Int} {w : xW} {r : Option Value × xW} (hC : CS w) (he : eIs e) (h : ∃ r4 w1, xCall 31 [.ref e, .int (jI z1)] w (some (.long (jL r4)), w1) ∧ CS w1 ∧ in64 r4 ∧ (r4 ≤ 0 → r = (some (.long (jL 0)), w1)) ∧ (0 < r4 → ∃ r9 w6, xCall 29 [.ref e, .int (jI z1)] w1 (some (.long (jL r9)), w6) ∧ CS w6 ∧ ∃ r13 w10, xCall 30 [.ref e, .int (jI z1)] w6 (some (.long (jL r13)), w10) ∧ CS w10 ∧ in64 z2 ∧ r4 ≠ 0 ∧ ∃ y16, Int.tdiv z2 r4 = y16 ∧ r = (some (.long (jL ((r9 * z2) + (r13 * y16)))), w10))) : xCall 146 [.ref e, .int (jI z1), .long (jL z2)] w r := E_146 (Z_146_0 hC he h)
theorem Z_147_0 {z1 : Int} {w : xW} {r : Option Value × xW} (hC : CS w) (h : in32 z1 ∧ (z1 < 3 → r = (some (.int (jI (-1))), w)) ∧ (3 ≤ z1 → (z1 ≤ 199 → ∃ w2, xCall 121 [.ref 31, .int (jI z1)] w (none, w2) ∧ CS w2 ∧ xGo 147 35 [some (.ref 0), some (.int (jI z1)), some (.int (jI 0)), some (.ref xP), some (.int (jI 46)), some (.int (jI 0)), none] [] w2 r) ∧ (199 < z1 → r = (some (.int (jI (-1))), w)))) : xGo 147 0 [some (.ref 0), some (.int (jI z1)), none, none, none, none, none] [] w r := by
  refine g_iloadn (pc' := 1) d_147_0 rfl rfl ?_
  refine g_iconst (pc' := 2) d_147_1 rfl rfl ?_
  obtain ⟨hc1, h⟩ := h
  refine gz_ic_lt (pc' := 5) (pt := 12) d_147_2 (by decide) rfl hc1 (s32 (z := 3)) (fun c => ?_) (fun c => ?_)
  · replace h := h.1 c
    refine g_iconst (pc' := 13) d_147_12 rfl rfl ?_
    exact g_iret d_147_13 rt_147 h
  · replace h := h.2 c
    refine g_iloadn (pc' := 6) d_147_5 rfl rfl ?_
    refine g_sipush (pc' := 9) (v := jI 199) d_147_6 rfl (by decide) ?_
    refine gz_ic_le (pc' := 12) (pt := 14) d_147_9 (by decide) rfl hc1 (s32 (z := 199)) (fun c => ?_) (fun c => ?_)
    · replace h := h.1 c
      refine g_aloadn (pc' := 15) d_147_14 rfl rfl ?_
      refine gz_getR (pc' := 18) d_147_15 rfl st_147_81 (kr_0_11 hC) ?_
      refine g_iloadn (pc' := 19) d_147_18 rfl rfl ?_
      obtain ⟨w2, hk3, hC4, h⟩ := h
      refine gz_callV (pc' := 22) d_147_19 rfl st_147_287 na_121 ml_121 rfl rfl rfl rm_147_121 rfl rfl ow_121 (ko_31 hC) hk3 ?_
      refine g_iconst (pc' := 23) d_147_22 rfl rfl ?_
      refine g_istoren (pc' := 24) (l' := [some (.ref 0), some (.int (jI z1)), some (.int (jI 0)), none, none, none, none]) d_147_23 rfl ml_147 rfl rfl ?_
      refine g_gets (pc' := 27) d_147_24 rfl st_147_184 (Or.inl rfl) ?_
      refine g_astoren (pc' := 28) (l' := [some (.ref 0), some (.int (jI z1)), some (.int (jI 0)), some (.ref xP), none, none, none]) d_147_27 rfl ml_147 rfl rfl ?_
      refine g_aloadn (pc' := 29) d_147_28 rfl rfl ?_
      refine g_lenp (pc' := 30) d_147_29 rfl hC4.noP ?_
      refine g_istore (pc' := 32) (l' := [some (.ref 0), some (.int (jI z1)), some (.int (jI 0)), some (.ref xP), some (.int (jI 46)), none, none]) d_147_30 rfl ml_147 rfl rfl ?_
      refine g_iconst (pc' := 33) d_147_32 rfl rfl ?_
      refine g_istore (pc' := 35) (l' := [some (.ref 0), some (.int (jI z1)), some (.int (jI 0)), some (.ref xP), some (.int (jI 46)), some (.int (jI 0)), none]) d_147_33 rfl ml_147 rfl rfl ?_
      exact h
    · replace h := h.2 c
      refine g_iconst (pc' := 13) d_147_12 rfl rfl ?_
      exact g_iret d_147_13 rt_147 h
theorem Z_147 {z1 : Int} {w : xW} {r : Option Value × xW} (hC : CS w) (h : in32 z1 ∧ (z1 < 3 → r = (some (.int (jI (-1))), w)) ∧ (3 ≤ z1 → (z1 ≤ 199 → ∃ w2, xCall 121 [.ref 31, .int (jI z1)] w (none, w2) ∧ CS w2 ∧ xGo 147 35 [some (.ref 0), some (.int (jI z1)), some (.int (jI 0)), some (.ref xP), some (.int (jI 46)), some (.int (jI 0)), none] [] w2 r) ∧ (199 < z1 → r = (some (.int (jI (-1))), w)))) : xCall 147 [.ref 0, .int (jI z1)] w r := E_147 (Z_147_0 hC h)
theorem Z_147_35 {z1 : Int} {z2 : Int} {z4 : Int} {z5 : Int} {w : xW} {r : Option Value × xW} (hC : CS w) (h : in32 z5 ∧ in32 z4 ∧ (z4 ≤ z5 → r = (some (.int (jI z2)), w)) ∧ (z5 < z4 → (0 ≤ z5 ∧ z5 < 46) ∧ (prZ (z5).toNat < 3 → xGo 147 35 [some (.ref 0), some (.int (jI z1)), some (.int (jI z2)), some (.ref xP), some (.int (jI z4)), some (.int (jI (z5 + 1))), none] [] w r) ∧ (3 ≤ prZ (z5).toNat → in32 z1 ∧ (z1 < prZ (z5).toNat → xGo 147 35 [some (.ref 0), some (.int (jI z1)), some (.int (jI z2)), some (.ref xP), some (.int (jI z4)), some (.int (jI (z5 + 1))), none] [] w r) ∧ (prZ (z5).toNat ≤ z1 → ∃ r8 w5, xCall 128 [.ref 31, .int (jI (prZ (z5).toNat))] w (some (.int (jI r8)), w5) ∧ CS w5 ∧ in32 r8 ∧ (r8 ≠ 0 → xGo 147 35 [some (.ref 0), some (.int (jI z1)), some (.int (jI z2)), some (.ref xP), some (.int (jI z4)), some (.int (jI (z5 + 1))), none] [] w5 r) ∧ (r8 = 0 → xGo 147 35 [some (.ref 0), some (.int (jI z1)), some (.int (jI (z2 + 1))), some (.ref xP), some (.int (jI z4)), some (.int (jI (z5 + 1))), none] [] w5 r))))) : xGo 147 35 [some (.ref 0), some (.int (jI z1)), some (.int (jI z2)), some (.ref xP), some (.int (jI z4)), some (.int (jI z5)), none] [] w r := by
  refine g_iload (pc' := 37) d_147_35 rfl rfl ?_
  refine g_iload (pc' := 39) d_147_37 rfl rfl ?_
  obtain ⟨hc1, h⟩ := h
  obtain ⟨hc2, h⟩ := h
  refine gz_ic_ge (pc' := 42) (pt := 81) d_147_39 (by decide) rfl hc1 hc2 (fun c => ?_) (fun c => ?_)
  · replace h := h.1 c
    refine g_iloadn (pc' := 82) d_147_81 rfl rfl ?_
    exact g_iret d_147_82 rt_147 h
  · replace h := h.2 c
    refine g_aloadn (pc' := 43) d_147_42 rfl rfl ?_
    refine g_iload (pc' := 45) d_147_43 rfl rfl ?_
    obtain ⟨hc3, h⟩ := h
    refine gz_pald (pc' := 46) d_147_45 rfl hC.noP hc3 ?_
    refine g_istore (pc' := 48) (l' := [some (.ref 0), some (.int (jI z1)), some (.int (jI z2)), some (.ref xP), some (.int (jI z4)), some (.int (jI z5)), some (.int (jI (prZ (z5).toNat)))]) d_147_46 rfl ml_147 rfl rfl ?_
    refine g_iload (pc' := 50) d_147_48 rfl rfl ?_
    refine g_iconst (pc' := 51) d_147_50 rfl rfl ?_
    refine gz_ic_lt (pc' := 54) (pt := 75) d_147_51 (by decide) rfl (prZ_in _) (s32 (z := 3)) (fun c => ?_) (fun c => ?_)
    · replace h := h.1 c
      refine gz_iinc (pc' := 78) (l' := [some (.ref 0), some (.int (jI z1)), some (.int (jI z2)), some (.ref xP), some (.int (jI z4)), some (.int (jI (z5 + 1))), some (.int (jI (prZ (z5).toNat)))]) d_147_75 rfl rfl ml_147 rfl rfl ?_
      refine g_goto (pt := 35) d_147_78 (by decide) ?_
      exact xGo.more (xle_s (xle_s (xle_s (xle_s (xle_s (xle_s (xle_n xle_0))))))) h
    · replace h := h.2 c
      refine g_iload (pc' := 56) d_147_54 rfl rfl ?_
      refine g_iloadn (pc' := 57) d_147_56 rfl rfl ?_
      obtain ⟨hc4, h⟩ := h
      refine gz_ic_gt (pc' := 60) (pt := 75) d_147_57 (by decide) rfl (prZ_in _) hc4 (fun c => ?_) (fun c => ?_)
      · replace h := h.1 c
        refine gz_iinc (pc' := 78) (l' := [some (.ref 0), some (.int (jI z1)), some (.int (jI z2)), some (.ref xP), some (.int (jI z4)), some (.int (jI (z5 + 1))), some (.int (jI (prZ (z5).toNat)))]) d_147_75 rfl rfl ml_147 rfl rfl ?_
        refine g_goto (pt := 35) d_147_78 (by decide) ?_
        exact xGo.more (xle_s (xle_s (xle_s (xle_s (xle_s (xle_s (xle_n xle_0))))))) h
      · replace h := h.2 c
        refine g_aloadn (pc' := 61) d_147_60 rfl rfl ?_
        refine gz_getR (pc' := 64) d_147_61 rfl st_147_81 (kr_0_11 hC) ?_
        refine g_iload (pc' := 66) d_147_64 rfl rfl ?_
        obtain ⟨r8, w5, hk6, hC7, h⟩ := h
        refine gz_callV (pc' := 69) d_147_66 rfl st_147_290 na_128 ml_128 rfl rfl rfl rm_147_128 rfl rfl ow_128 (ko_31 hC) hk6 ?_
        obtain ⟨hc9, h⟩ := h
        refine gz_if_ne (pc' := 72) (pt := 75) d_147_69 (by decide) rfl hc9 (fun c => ?_) (fun c => ?_)
        · replace h := h.1 c
          refine gz_iinc (pc' := 78) (l' := [some (.ref 0), some (.int (jI z1)), some (.int (jI z2)), some (.ref xP), some (.int (jI z4)), some (.int (jI (z5 + 1))), some (.int (jI (prZ (z5).toNat)))]) d_147_75 rfl rfl ml_147 rfl rfl ?_
          refine g_goto (pt := 35) d_147_78 (by decide) ?_
          exact xGo.more (xle_s (xle_s (xle_s (xle_s (xle_s (xle_s (xle_n xle_0))))))) h
        · replace h := h.2 c
          refine gz_iinc (pc' := 75) (l' := [some (.ref 0), some (.int (jI z1)), some (.int (jI (z2 + 1))), some (.ref xP), some (.int (jI z4)), some (.int (jI z5)), some (.int (jI (prZ (z5).toNat)))]) d_147_72 rfl rfl ml_147 rfl rfl ?_
          refine gz_iinc (pc' := 78) (l' := [some (.ref 0), some (.int (jI z1)), some (.int (jI (z2 + 1))), some (.ref xP), some (.int (jI z4)), some (.int (jI (z5 + 1))), some (.int (jI (prZ (z5).toNat)))]) d_147_75 rfl rfl ml_147 rfl rfl ?_
          refine g_goto (pt := 35) d_147_78 (by decide) ?_
          exact xGo.more (xle_s (xle_s (xle_s (xle_s (xle_s (xle_s (xle_n xle_0))))))) h
theorem Z_148_0 {z1 : Int} {z2 : Int} {z3 : Int} {w : xW} {r : Option Value × xW} (hC : CS w) (h : in32 z1 ∧ (z1 < 0 → r = (some (.long (jL (-9223372036854775808))), w)) ∧ (0 ≤ z1 → (24 < z1 → r = (some (.long (jL (-9223372036854775808))), w)) ∧ (z1 ≤ 24 → in32 z2 ∧ (z2 < 0 → r = (some (.long (jL (-9223372036854775808))), w)) ∧ (0 ≤ z2 → in32 (z1 + 1) ∧ (z1 + 1 < z2 → r = (some (.long (jL (-9223372036854775808))), w)) ∧ (z2 ≤ z1 + 1 → in32 z3 ∧ (z3 < 0 → r = (some (.long (jL (-9223372036854775808))), w)) ∧ (0 ≤ z3 → (z3 ≤ 1 → ∃ x5, fI w 0 0 7 x5 ∧ in32 x5 ∧ (z1 ≤ x5 → ∃ w8, xCall 16 [.ref 36, .long (jL 0), .long (jL 0), .long (jL 1)] w (none, w8) ∧ CS w8 ∧ (z2 ≤ 0 → (z3 ≠ 0 → ∃ x11, fJ w8 36 5 2 x11 ∧ r = (some (.long (jL x11)), w8)) ∧ (z3 = 0 → ∃ r16 w13, xCall 150 [.ref 36] w8 (some (.long (jL r16)), w13) ∧ CS w13 ∧ r = (some (.long (jL r16)), w13))) ∧ (0 < z2 → ∃ w17, xCall 100 [.ref 12, .int (jI ((z1 + 1) - z2)), .ref 36] w8 (none, w17) ∧ CS w17 ∧ ∃ x20, fJ w17 36 5 0 x20 ∧ ∃ r25 w22, xCall 149 [.int (jI ((z1 + 1) - z2))] w17 (some (.int (jI r25)), w22) ∧ CS w22 ∧ in32 r25 ∧ ∀ w28, w28 = pF w22 36 0 (.long (jL (x20 + r25))) → CS w28 → ∃ r33 w30, xCall 39 [.ref 1, .int (jI (z1 + 1)), .int (jI z2)] w28 (some (.long (jL r33)), w30) ∧ CS w30 ∧ ∃ w34, xCall 43 [.ref 36, .long (jL r33)] w30 (none, w34) ∧ CS w34 ∧ ∃ w37, xCall 44 [.ref 36, .long (jL (z1 + 1))] w34 (none, w37) ∧ CS w37 ∧ (z3 ≠ 0 → ∃ x40, fJ w37 36 5 2 x40 ∧ r = (some (.long (jL x40)), w37)) ∧ (z3 = 0 → ∃ r45 w42, xCall 150 [.ref 36] w37 (some (.long (jL r45)), w42) ∧ CS w42 ∧ r = (some (.long (jL r45)), w42)))) ∧ (x5 < z1 → r = (some (.long (jL (-2))), w))) ∧ (1 < z3 → r = (some (.long (jL (-9223372036854775808))), w)))))))) : xGo 148 0 [some (.ref 0), some (.int (jI z1)), some (.int (jI z2)), some (.int (jI z3)), none] [] w r := by
  refine g_iloadn (pc' := 1) d_148_0 rfl rfl ?_
  obtain ⟨hc1, h⟩ := h
  refine gz_if_lt (pc' := 4) (pt := 30) d_148_1 (by decide) rfl hc1 (fun c => ?_) (fun c => ?_)
  · replace h := h.1 c
    refine g_ldc2 (pc' := 33) d_148_30 rfl st_148_166 rfl ?_
    exact g_lret d_148_33 rt_148 h
  · replace h := h.2 c
    refine g_iloadn (pc' := 5) d_148_4 rfl rfl ?_
    refine g_bipush (pc' := 7) (v := jI 24) d_148_5 rfl (by decide) ?_
    refine gz_ic_gt (pc' := 10) (pt := 30) d_148_7 (by decide) rfl hc1 (s32 (z := 24)) (fun c => ?_) (fun c => ?_)
    · replace h := h.1 c
      refine g_ldc2 (pc' := 33) d_148_30 rfl st_148_166 rfl ?_
      exact g_lret d_148_33 rt_148 h
    · replace h := h.2 c
      refine g_iloadn (pc' := 11) d_148_10 rfl rfl ?_
      obtain ⟨hc2, h⟩ := h
      refine gz_if_lt (pc' := 14) (pt := 30) d_148_11 (by decide) rfl hc2 (fun c => ?_) (fun c => ?_)
      · replace h := h.1 c
        refine g_ldc2 (pc' := 33) d_148_30 rfl st_148_166 rfl ?_
        exact g_lret d_148_33 rt_148 h
      · replace h := h.2 c
        refine g_iloadn (pc' := 15) d_148_14 rfl rfl ?_
        refine g_iloadn (pc' := 16) d_148_15 rfl rfl ?_
        refine g_iconst (pc' := 17) d_148_16 rfl rfl ?_
        refine gz_iadd (pc' := 18) d_148_17 rfl ?_
        obtain ⟨hc3, h⟩ := h
        refine gz_ic_gt (pc' := 21) (pt := 30) d_148_18 (by decide) rfl hc2 hc3 (fun c => ?_) (fun c => ?_)
        · replace h := h.1 c
          refine g_ldc2 (pc' := 33) d_148_30 rfl st_148_166 rfl ?_
          exact g_lret d_148_33 rt_148 h
        · replace h := h.2 c
          refine g_iloadn (pc' := 22) d_148_21 rfl rfl ?_
          obtain ⟨hc4, h⟩ := h
          refine gz_if_lt (pc' := 25) (pt := 30) d_148_22 (by decide) rfl hc4 (fun c => ?_) (fun c => ?_)
          · replace h := h.1 c
            refine g_ldc2 (pc' := 33) d_148_30 rfl st_148_166 rfl ?_
            exact g_lret d_148_33 rt_148 h
          · replace h := h.2 c
            refine g_iloadn (pc' := 26) d_148_25 rfl rfl ?_
            refine g_iconst (pc' := 27) d_148_26 rfl rfl ?_
            refine gz_ic_le (pc' := 30) (pt := 34) d_148_27 (by decide) rfl hc4 (s32 (z := 1)) (fun c => ?_) (fun c => ?_)
            · replace h := h.1 c
              refine g_iloadn (pc' := 35) d_148_34 rfl rfl ?_
              refine g_aloadn (pc' := 36) d_148_35 rfl rfl ?_
              obtain ⟨x5, hv6, h⟩ := h
              refine gz_getI (pc' := 39) d_148_36 rfl st_148_49 hv6 ?_
              obtain ⟨hc7, h⟩ := h
              refine gz_ic_le (pc' := 42) (pt := 46) d_148_39 (by decide) rfl hc1 hc7 (fun c => ?_) (fun c => ?_)
              · replace h := h.1 c
                refine g_aloadn (pc' := 47) d_148_46 rfl rfl ?_
                refine gz_getR (pc' := 50) d_148_47 rfl st_148_95 (kr_0_13 hC) ?_
                refine g_lconst (pc' := 51) (v := jL 0) d_148_50 rfl cl_0 ?_
                refine g_lconst (pc' := 52) (v := jL 0) d_148_51 rfl cl_0 ?_
                refine g_lconst (pc' := 53) (v := jL 1) d_148_52 rfl cl_1 ?_
                obtain ⟨w8, hk9, hC10, h⟩ := h
                refine gz_callV (pc' := 56) d_148_53 rfl st_148_327 na_16 ml_16 rfl rfl rfl rm_148_16 rfl rfl ow_16 (ko_36 hC) hk9 ?_
                refine g_iloadn (pc' := 57) d_148_56 rfl rfl ?_
                refine gz_if_le (pc' := 60) (pt := 127) d_148_57 (by decide) rfl hc2 (fun c => ?_) (fun c => ?_)
                · replace h := h.1 c
                  refine g_iloadn (pc' := 128) d_148_127 rfl rfl ?_
                  refine gz_if_ne (pc' := 131) (pt := 141) d_148_128 (by decide) rfl hc4 (fun c => ?_) (fun c => ?_)
                  · replace h := h.1 c
                    refine g_aloadn (pc' := 142) d_148_141 rfl rfl ?_
                    refine gz_getR (pc' := 145) d_148_142 rfl st_148_95 (kr_0_13 hC10) ?_
                    obtain ⟨x11, hv12, h⟩ := h
                    refine gz_getJ (pc' := 148) d_148_145 rfl st_148_349 hv12 ?_
                    exact g_lret d_148_148 rt_148 h
                  · replace h := h.2 c
                    refine g_aloadn (pc' := 132) d_148_131 rfl rfl ?_
                    refine gz_getR (pc' := 135) d_148_132 rfl st_148_95 (kr_0_13 hC10) ?_
                    obtain ⟨r16, w13, hk14, hC15, h⟩ := h
                    refine gz_callV (pc' := 138) d_148_135 rfl st_148_345 na_150 ml_150 rfl rfl rfl rm_148_150 rfl rfl ow_150 (ko_36 hC10) hk14 ?_
                    refine g_goto (pt := 148) d_148_138 (by decide) ?_
                    exact g_lret d_148_148 rt_148 h
                · replace h := h.2 c
                  refine g_iloadn (pc' := 61) d_148_60 rfl rfl ?_
                  refine g_iconst (pc' := 62) d_148_61 rfl rfl ?_
                  refine gz_iadd (pc' := 63) d_148_62 rfl ?_
                  refine g_iloadn (pc' := 64) d_148_63 rfl rfl ?_
                  refine gz_isub (pc' := 65) d_148_64 rfl ?_
                  refine g_istore (pc' := 67) (l' := [some (.ref 0), some (.int (jI z1)), some (.int (jI z2)), some (.int (jI z3)), some (.int (jI ((z1 + 1) - z2)))]) d_148_65 rfl ml_148 rfl rfl ?_
                  refine g_aloadn (pc' := 68) d_148_67 rfl rfl ?_
                  refine gz_getR (pc' := 71) d_148_68 rfl st_148_39 (kr_0_4 hC10) ?_
                  refine g_iload (pc' := 73) d_148_71 rfl rfl ?_
                  refine g_aloadn (pc' := 74) d_148_73 rfl rfl ?_
                  refine gz_getR (pc' := 77) d_148_74 rfl st_148_95 (kr_0_13 hC10) ?_
                  obtain ⟨w17, hk18, hC19, h⟩ := h
                  refine gz_callV (pc' := 80) d_148_77 rfl st_148_168 na_100 ml_100 rfl rfl rfl rm_148_100 rfl rfl ow_100 (ko_12 hC10) hk18 ?_
                  refine g_aloadn (pc' := 81) d_148_80 rfl rfl ?_
                  refine gz_getR (pc' := 84) d_148_81 rfl st_148_95 (kr_0_13 hC19) ?_
                  refine g_dup (pc' := 85) d_148_84 rfl rfl ?_
                  obtain ⟨x20, hv21, h⟩ := h
                  refine gz_getJ (pc' := 88) d_148_85 rfl st_148_218 hv21 ?_
                  refine g_iload (pc' := 90) d_148_88 rfl rfl ?_
                  obtain ⟨r25, w22, hk23, hC24, h⟩ := h
                  refine g_callS (pc' := 93) d_148_90 rfl st_148_333 (Or.inl rfl) na_149 ml_149 rfl rfl rfl rm_148_149 rfl rfl hk23 ?_
                  obtain ⟨hc26, h⟩ := h
                  refine gz_i2l (pc' := 94) d_148_93 rfl hc26 ?_
                  refine gz_ladd (pc' := 95) d_148_94 rfl ?_
                  have hpf27 := (kf_36_0 hC24)
                  have hC29 : CS (pF w22 36 0 (.long (jL (x20 + r25)))) := ks_36_0 hC24
                  have h := h _ rfl hC29
                  refine gz_putf (pc' := 98) d_148_95 rfl st_148_218 ft_5_0 ff_5_0 rfl (Or.inl rfl) hpf27 ?_
                  refine g_aloadn (pc' := 99) d_148_98 rfl rfl ?_
                  refine gz_getR (pc' := 102) d_148_99 rfl st_148_95 (kr_0_13 hC29) ?_
                  refine g_aloadn (pc' := 103) d_148_102 rfl rfl ?_
                  refine gz_getR (pc' := 106) d_148_103 rfl st_148_14 (kr_0_0 hC29) ?_
                  refine g_iloadn (pc' := 107) d_148_106 rfl rfl ?_
                  refine g_iconst (pc' := 108) d_148_107 rfl rfl ?_
                  refine gz_iadd (pc' := 109) d_148_108 rfl ?_
                  refine g_iloadn (pc' := 110) d_148_109 rfl rfl ?_
                  obtain ⟨r33, w30, hk31, hC32, h⟩ := h
                  refine gz_callV (pc' := 113) d_148_110 rfl st_148_336 na_39 ml_39 rfl rfl rfl rm_148_39 rfl rfl ow_39 (ko_1 hC29) hk31 ?_
                  obtain ⟨w34, hk35, hC36, h⟩ := h
                  refine gz_callV (pc' := 116) d_148_113 rfl st_148_339 na_43 ml_43 rfl rfl rfl rm_148_43 rfl rfl ow_43 (ko_36 hC32) hk35 ?_
                  refine g_aloadn (pc' := 117) d_148_116 rfl rfl ?_
                  refine gz_getR (pc' := 120) d_148_117 rfl st_148_95 (kr_0_13 hC36) ?_
                  refine g_iloadn (pc' := 121) d_148_120 rfl rfl ?_
                  refine g_iconst (pc' := 122) d_148_121 rfl rfl ?_
                  refine gz_iadd (pc' := 123) d_148_122 rfl ?_
                  refine gz_i2l (pc' := 124) d_148_123 rfl hc3 ?_
                  obtain ⟨w37, hk38, hC39, h⟩ := h
                  refine gz_callV (pc' := 127) d_148_124 rfl st_148_342 na_44 ml_44 rfl rfl rfl rm_148_44 rfl rfl ow_44 (ko_36 hC36) hk38 ?_
                  refine g_iloadn (pc' := 128) d_148_127 rfl rfl ?_
                  refine gz_if_ne (pc' := 131) (pt := 141) d_148_128 (by decide) rfl hc4 (fun c => ?_) (fun c => ?_)
                  · replace h := h.1 c
                    refine g_aloadn (pc' := 142) d_148_141 rfl rfl ?_
                    refine gz_getR (pc' := 145) d_148_142 rfl st_148_95 (kr_0_13 hC39) ?_
                    obtain ⟨x40, hv41, h⟩ := h
                    refine gz_getJ (pc' := 148) d_148_145 rfl st_148_349 hv41 ?_
                    exact g_lret d_148_148 rt_148 h
                  · replace h := h.2 c
                    refine g_aloadn (pc' := 132) d_148_131 rfl rfl ?_
                    refine gz_getR (pc' := 135) d_148_132 rfl st_148_95 (kr_0_13 hC39) ?_
                    obtain ⟨r45, w42, hk43, hC44, h⟩ := h
                    refine gz_callV (pc' := 138) d_148_135 rfl st_148_345 na_150 ml_150 rfl rfl rfl rm_148_150 rfl rfl ow_150 (ko_36 hC39) hk43 ?_
                    refine g_goto (pt := 148) d_148_138 (by decide) ?_
                    exact g_lret d_148_148 rt_148 h
              · replace h := h.2 c
                refine g_ldc2 (pc' := 45) d_148_42 rfl st_148_331 rfl ?_
                exact g_lret d_148_45 rt_148 h
            · replace h := h.2 c
              refine g_ldc2 (pc' := 33) d_148_30 rfl st_148_166 rfl ?_
              exact g_lret d_148_33 rt_148 h
theorem Z_148 {z1 : Int} {z2 : Int} {z3 : Int} {w : xW} {r : Option Value × xW} (hC : CS w) (h : in32 z1 ∧ (z1 < 0 → r = (some (.long (jL (-9223372036854775808))), w)) ∧ (0 ≤ z1 → (24 < z1 → r = (some (.long (jL (-9223372036854775808))), w)) ∧ (z1 ≤ 24 → in32 z2 ∧ (z2 < 0 → r = (some (.long (jL (-9223372036854775808))), w)) ∧ (0 ≤ z2 → in32 (z1 + 1) ∧ (z1 + 1 < z2 → r = (some (.long (jL (-9223372036854775808))), w)) ∧ (z2 ≤ z1 + 1 → in32 z3 ∧ (z3 < 0 → r = (some (.long (jL (-9223372036854775808))), w)) ∧ (0 ≤ z3 → (z3 ≤ 1 → ∃ x5, fI w 0 0 7 x5 ∧ in32 x5 ∧ (z1 ≤ x5 → ∃ w8, xCall 16 [.ref 36, .long (jL 0), .long (jL 0), .long (jL 1)] w (none, w8) ∧ CS w8 ∧ (z2 ≤ 0 → (z3 ≠ 0 → ∃ x11, fJ w8 36 5 2 x11 ∧ r = (some (.long (jL x11)), w8)) ∧ (z3 = 0 → ∃ r16 w13, xCall 150 [.ref 36] w8 (some (.long (jL r16)), w13) ∧ CS w13 ∧ r = (some (.long (jL r16)), w13))) ∧ (0 < z2 → ∃ w17, xCall 100 [.ref 12, .int (jI ((z1 + 1) - z2)), .ref 36] w8 (none, w17) ∧ CS w17 ∧ ∃ x20, fJ w17 36 5 0 x20 ∧ ∃ r25 w22, xCall 149 [.int (jI ((z1 + 1) - z2))] w17 (some (.int (jI r25)), w22) ∧ CS w22 ∧ in32 r25 ∧ ∀ w28, w28 = pF w22 36 0 (.long (jL (x20 + r25))) → CS w28 → ∃ r33 w30, xCall 39 [.ref 1, .int (jI (z1 + 1)), .int (jI z2)] w28 (some (.long (jL r33)), w30) ∧ CS w30 ∧ ∃ w34, xCall 43 [.ref 36, .long (jL r33)] w30 (none, w34) ∧ CS w34 ∧ ∃ w37, xCall 44 [.ref 36, .long (jL (z1 + 1))] w34 (none, w37) ∧ CS w37 ∧ (z3 ≠ 0 → ∃ x40, fJ w37 36 5 2 x40 ∧ r = (some (.long (jL x40)), w37)) ∧ (z3 = 0 → ∃ r45 w42, xCall 150 [.ref 36] w37 (some (.long (jL r45)), w42) ∧ CS w42 ∧ r = (some (.long (jL r45)), w42)))) ∧ (x5 < z1 → r = (some (.long (jL (-2))), w))) ∧ (1 < z3 → r = (some (.long (jL (-9223372036854775808))), w)))))))) : xCall 148 [.ref 0, .int (jI z1), .int (jI z2), .int (jI z3)] w r := E_148 (Z_148_0 hC h)
theorem Z_149_0 {z0 : Int} {w : xW} {r : Option Value × xW} (hC : CS w) (h : in32 z0 ∧ (z0 ≠ 1 → r = (some (.int (jI 0)), w)) ∧ (z0 = 1 → r = (some (.int (jI 1)), w))) : xGo 149 0 [some (.int (jI z0))] [] w r := by
  refine g_iloadn (pc' := 1) d_149_0 rfl rfl ?_
  refine g_iconst (pc' := 2) d_149_1 rfl rfl ?_
  obtain ⟨hc1, h⟩ := h
  refine gz_ic_ne (pc' := 5) (pt := 9) d_149_2 (by decide) rfl hc1 (s32 (z := 1)) (fun c => ?_) (fun c => ?_)
  · replace h := h.1 c
    refine g_iconst (pc' := 10) d_149_9 rfl rfl ?_
    exact g_iret d_149_10 rt_149 h
  · replace h := h.2 c
    refine g_iconst (pc' := 6) d_149_5 rfl rfl ?_
    refine g_goto (pt := 10) d_149_6 (by decide) ?_
    exact g_iret d_149_10 rt_149 h
theorem Z_149 {z0 : Int} {w : xW} {r : Option Value × xW} (hC : CS w) (h : in32 z0 ∧ (z0 ≠ 1 → r = (some (.int (jI 0)), w)) ∧ (z0 = 1 → r = (some (.int (jI 1)), w))) : xCall 149 [.int (jI z0)] w r := E_149 (Z_149_0 hC h)
theorem Z_150_0 {q : Nat} {w : xW} {r : Option Value × xW} (hC : CS w) (h : ∃ x1, fJ w q 5 0 x1 ∧ ∃ x3, fJ w q 5 2 x3 ∧ ∃ x5, fJ w q 5 1 x5 ∧ r = (some (.long (jL ((x1 * x3) + x5))), w)) : xGo 150 0 [some (.ref q)] [] w r := by
  refine g_aloadn (pc' := 1) d_150_0 rfl rfl ?_
  obtain ⟨x1, hv2, h⟩ := h
  refine gz_getJ (pc' := 4) d_150_1 rfl st_150_25 hv2 ?_
  refine g_aloadn (pc' := 5) d_150_4 rfl rfl ?_
  obtain ⟨x3, hv4, h⟩ := h
  refine gz_getJ (pc' := 8) d_150_5 rfl st_150_7 hv4 ?_
  refine gz_lmul (pc' := 9) d_150_8 rfl ?_
  refine g_aloadn (pc' := 10) d_150_9 rfl rfl ?_
  obtain ⟨x5, hv6, h⟩ := h
  refine gz_getJ (pc' := 13) d_150_10 rfl st_150_28 hv6 ?_
  refine gz_ladd (pc' := 14) d_150_13 rfl ?_
  exact g_lret d_150_14 rt_150 h
theorem Z_150 {q : Nat} {w : xW} {r : Option Value × xW} (hC : CS w) (h : ∃ x1, fJ w q 5 0 x1 ∧ ∃ x3, fJ w q 5 2 x3 ∧ ∃ x5, fJ w q 5 1 x5 ∧ r = (some (.long (jL ((x1 * x3) + x5))), w)) : xCall 150 [.ref q] w r := E_150 (Z_150_0 hC h)
theorem Z_151_0 {z1 : Int} {z2 : Int} {w : xW} {r : Option Value × xW} (hC : CS w) (h : ∃ (P4 : Prop) (dP5 : Decidable P4) (w1 : xW), xCall 152 [.int (jI z1), .int (jI z2)] w (some (.int (bz P4)), w1) ∧ CS w1 ∧ (P4 → ∃ x6, fI w1 0 0 7 x6 ∧ in32 z1 ∧ in32 x6 ∧ (z1 ≤ x6 → ∃ w10, xCall 153 [.ref 0, .int (jI z1)] w1 (none, w10) ∧ CS w10 ∧ in32 z2 ∧ ∃ r17 w14, xCall 154 [.ref 0, .int (jI z1), .long (jL z2)] w10 (some (.long (jL r17)), w14) ∧ CS w14 ∧ r = (some (.int (jI r17)), w14)) ∧ (x6 < z1 → r = (some (.int (jI (-2))), w1))) ∧ (¬ P4 → r = (some (.int (jI (-1))), w1))) : xGo 151 0 [some (.ref 0), some (.int (jI z1)), some (.int (jI z2))] [] w r := by
  refine g_iloadn (pc' := 1) d_151_0 rfl rfl ?_
  refine g_iloadn (pc' := 2) d_151_1 rfl rfl ?_
  obtain ⟨P4, dP5, w1, hk2, hC3, h⟩ := h
  refine g_callS (pc' := 5) d_151_2 rfl st_151_352 (Or.inl rfl) na_152 ml_152 rfl rfl rfl rm_151_152 rfl rfl hk2 ?_
  refine gz_bt_ne (pc' := 8) (pt := 10) d_151_5 (by decide) rfl (fun c => ?_) (fun c => ?_)
  · replace h := h.1 c
    refine g_iloadn (pc' := 11) d_151_10 rfl rfl ?_
    refine g_aloadn (pc' := 12) d_151_11 rfl rfl ?_
    obtain ⟨x6, hv7, h⟩ := h
    refine gz_getI (pc' := 15) d_151_12 rfl st_151_49 hv7 ?_
    obtain ⟨hc8, h⟩ := h
    obtain ⟨hc9, h⟩ := h
    refine gz_ic_le (pc' := 18) (pt := 21) d_151_15 (by decide) rfl hc8 hc9 (fun c => ?_) (fun c => ?_)
    · replace h := h.1 c
      refine g_aloadn (pc' := 22) d_151_21 rfl rfl ?_
      refine g_iloadn (pc' := 23) d_151_22 rfl rfl ?_
      obtain ⟨w10, hk11, hC12, h⟩ := h
      refine gz_callV (pc' := 26) d_151_23 rfl st_151_355 na_153 ml_153 rfl rfl rfl rm_151_153 rfl rfl ow_153 (ko_0 hC3) hk11 ?_
      refine g_aloadn (pc' := 27) d_151_26 rfl rfl ?_
      refine g_iloadn (pc' := 28) d_151_27 rfl rfl ?_
      refine g_iloadn (pc' := 29) d_151_28 rfl rfl ?_
      obtain ⟨hc13, h⟩ := h
      refine gz_i2l (pc' := 30) d_151_29 rfl hc13 ?_
      obtain ⟨r17, w14, hk15, hC16, h⟩ := h
      refine gz_callV (pc' := 33) d_151_30 rfl st_151_358 na_154 ml_154 rfl rfl rfl rm_151_154 rfl rfl ow_154 (ko_0 hC12) hk15 ?_
      refine gz_l2i (pc' := 34) d_151_33 rfl ?_
      exact g_iret d_151_34 rt_151 h
    · replace h := h.2 c
      refine g_bipush (pc' := 20) (v := jI (-2)) d_151_18 rfl (by decide) ?_
      exact g_iret d_151_20 rt_151 h
  · replace h := h.2 c
    refine g_iconst (pc' := 9) d_151_8 rfl rfl ?_
    exact g_iret d_151_9 rt_151 h
theorem Z_151 {z1 : Int} {z2 : Int} {w : xW} {r : Option Value × xW} (hC : CS w) (h : ∃ (P4 : Prop) (dP5 : Decidable P4) (w1 : xW), xCall 152 [.int (jI z1), .int (jI z2)] w (some (.int (bz P4)), w1) ∧ CS w1 ∧ (P4 → ∃ x6, fI w1 0 0 7 x6 ∧ in32 z1 ∧ in32 x6 ∧ (z1 ≤ x6 → ∃ w10, xCall 153 [.ref 0, .int (jI z1)] w1 (none, w10) ∧ CS w10 ∧ in32 z2 ∧ ∃ r17 w14, xCall 154 [.ref 0, .int (jI z1), .long (jL z2)] w10 (some (.long (jL r17)), w14) ∧ CS w14 ∧ r = (some (.int (jI r17)), w14)) ∧ (x6 < z1 → r = (some (.int (jI (-2))), w1))) ∧ (¬ P4 → r = (some (.int (jI (-1))), w1))) : xCall 151 [.ref 0, .int (jI z1), .int (jI z2)] w r := E_151 (Z_151_0 hC h)
theorem Z_152_0 {z0 : Int} {z1 : Int} {w : xW} {r : Option Value × xW} (hC : CS w) (h : in32 z0 ∧ (z0 < 0 → r = (some (.int (jI 0)), w)) ∧ (0 ≤ z0 → (24 < z0 → r = (some (.int (jI 0)), w)) ∧ (z0 ≤ 24 → in32 z1 ∧ (z1 < 0 → r = (some (.int (jI 0)), w)) ∧ (0 ≤ z1 → (1000000000 < z1 → r = (some (.int (jI 0)), w)) ∧ (z1 ≤ 1000000000 → r = (some (.int (jI 1)), w)))))) : xGo 152 0 [some (.int (jI z0)), some (.int (jI z1))] [] w r := by
  refine g_iloadn (pc' := 1) d_152_0 rfl rfl ?_
  obtain ⟨hc1, h⟩ := h
  refine gz_if_lt (pc' := 4) (pt := 25) d_152_1 (by decide) rfl hc1 (fun c => ?_) (fun c => ?_)
  · replace h := h.1 c
    refine g_iconst (pc' := 26) d_152_25 rfl rfl ?_
    exact g_zret d_152_26 rt_152 (Or.inl rfl) h
  · replace h := h.2 c
    refine g_iloadn (pc' := 5) d_152_4 rfl rfl ?_
    refine g_bipush (pc' := 7) (v := jI 24) d_152_5 rfl (by decide) ?_
    refine gz_ic_gt (pc' := 10) (pt := 25) d_152_7 (by decide) rfl hc1 (s32 (z := 24)) (fun c => ?_) (fun c => ?_)
    · replace h := h.1 c
      refine g_iconst (pc' := 26) d_152_25 rfl rfl ?_
      exact g_zret d_152_26 rt_152 (Or.inl rfl) h
    · replace h := h.2 c
      refine g_iloadn (pc' := 11) d_152_10 rfl rfl ?_
      obtain ⟨hc2, h⟩ := h
      refine gz_if_lt (pc' := 14) (pt := 25) d_152_11 (by decide) rfl hc2 (fun c => ?_) (fun c => ?_)
      · replace h := h.1 c
        refine g_iconst (pc' := 26) d_152_25 rfl rfl ?_
        exact g_zret d_152_26 rt_152 (Or.inl rfl) h
      · replace h := h.2 c
        refine g_iloadn (pc' := 15) d_152_14 rfl rfl ?_
        refine g_ldcw (pc' := 18) d_152_15 rfl st_152_417 rfl ?_
        refine gz_ic_gt (pc' := 21) (pt := 25) d_152_18 (by decide) rfl hc2 (s32 (z := 1000000000)) (fun c => ?_) (fun c => ?_)
        · replace h := h.1 c
          refine g_iconst (pc' := 26) d_152_25 rfl rfl ?_
          exact g_zret d_152_26 rt_152 (Or.inl rfl) h
        · replace h := h.2 c
          refine g_iconst (pc' := 22) d_152_21 rfl rfl ?_
          refine g_goto (pt := 26) d_152_22 (by decide) ?_
          exact g_zret d_152_26 rt_152 (Or.inr rfl) h
theorem Z_152 {z0 : Int} {z1 : Int} {w : xW} {r : Option Value × xW} (hC : CS w) (h : in32 z0 ∧ (z0 < 0 → r = (some (.int (jI 0)), w)) ∧ (0 ≤ z0 → (24 < z0 → r = (some (.int (jI 0)), w)) ∧ (z0 ≤ 24 → in32 z1 ∧ (z1 < 0 → r = (some (.int (jI 0)), w)) ∧ (0 ≤ z1 → (1000000000 < z1 → r = (some (.int (jI 0)), w)) ∧ (z1 ≤ 1000000000 → r = (some (.int (jI 1)), w)))))) : xCall 152 [.int (jI z0), .int (jI z1)] w r := E_152 (Z_152_0 hC h)
theorem Z_153_0 {z1 : Int} {w : xW} {r : Option Value × xW} (hC : CS w) (h : xGo 153 2 [some (.ref 0), some (.int (jI z1)), some (.int (jI 0))] [] w r) : xGo 153 0 [some (.ref 0), some (.int (jI z1)), none] [] w r := by
  refine g_iconst (pc' := 1) d_153_0 rfl rfl ?_
  refine g_istoren (pc' := 2) (l' := [some (.ref 0), some (.int (jI z1)), some (.int (jI 0))]) d_153_1 rfl ml_153 rfl rfl ?_
  exact h
theorem Z_153 {z1 : Int} {w : xW} {r : Option Value × xW} (hC : CS w) (h : xGo 153 2 [some (.ref 0), some (.int (jI z1)), some (.int (jI 0))] [] w r) : xCall 153 [.ref 0, .int (jI z1)] w r := E_153 (Z_153_0 hC h)
theorem Z_153_2 {z1 : Int} {z2 : Int} {w : xW} {r : Option Value × xW} (hC : CS w) (h : in32 z2 ∧ in32 z1 ∧ (z1 < z2 → r = (none, w)) ∧ (z2 ≤ z1 → (40 ≤ z2 → r = (none, w)) ∧ (z2 < 40 → ∃ r6 w3, xCall 73 [.ref 12, .int (jI z2), .long (jL 1000000007)] w (some (.long (jL r6)), w3) ∧ CS w3 ∧ ∃ r10 w7, xCall 149 [.int (jI z2)] w3 (some (.int (jI r10)), w7) ∧ CS w7 ∧ in32 r10 ∧ (0 ≤ z2 ∧ z2 < 40) ∧ ∀ w14, w14 = pL w7 37 (z2).toNat (jL (r6 + r10)) → CS w14 → xGo 153 2 [some (.ref 0), some (.int (jI z1)), some (.int (jI (z2 + 1)))] [] w14 r))) : xGo 153 2 [some (.ref 0), some (.int (jI z1)), some (.int (jI z2))] [] w r := by
  refine g_iloadn (pc' := 3) d_153_2 rfl rfl ?_
  refine g_iloadn (pc' := 4) d_153_3 rfl rfl ?_
  obtain ⟨hc1, h⟩ := h
  obtain ⟨hc2, h⟩ := h
  refine gz_ic_gt (pc' := 7) (pt := 45) d_153_4 (by decide) rfl hc1 hc2 (fun c => ?_) (fun c => ?_)
  · replace h := h.1 c
    exact g_vret d_153_45 rt_153 h
  · replace h := h.2 c
    refine g_iloadn (pc' := 8) d_153_7 rfl rfl ?_
    refine g_aloadn (pc' := 9) d_153_8 rfl rfl ?_
    refine gz_getR (pc' := 12) d_153_9 rfl st_153_99 (kr_0_14 hC) ?_
    refine gz_lenl (pc' := 13) (m := 40) d_153_12 rfl (kl_37 hC) rfl ?_
    refine gz_ic_ge (pc' := 16) (pt := 45) d_153_13 (by decide) rfl hc1 (s32 (z := 40)) (fun c => ?_) (fun c => ?_)
    · replace h := h.1 c
      exact g_vret d_153_45 rt_153 h
    · replace h := h.2 c
      refine g_aloadn (pc' := 17) d_153_16 rfl rfl ?_
      refine gz_getR (pc' := 20) d_153_17 rfl st_153_99 (kr_0_14 hC) ?_
      refine g_iloadn (pc' := 21) d_153_20 rfl rfl ?_
      refine g_aloadn (pc' := 22) d_153_21 rfl rfl ?_
      refine gz_getR (pc' := 25) d_153_22 rfl st_153_39 (kr_0_4 hC) ?_
      refine g_iloadn (pc' := 26) d_153_25 rfl rfl ?_
      refine g_ldc2 (pc' := 29) d_153_26 rfl st_153_369 rfl ?_
      obtain ⟨r6, w3, hk4, hC5, h⟩ := h
      refine gz_callV (pc' := 32) d_153_29 rfl st_153_444 na_73 ml_73 rfl rfl rfl rm_153_73 rfl rfl ow_73 (ko_12 hC) hk4 ?_
      refine g_iloadn (pc' := 33) d_153_32 rfl rfl ?_
      obtain ⟨r10, w7, hk8, hC9, h⟩ := h
      refine g_callS (pc' := 36) d_153_33 rfl st_153_333 (Or.inl rfl) na_149 ml_149 rfl rfl rfl rm_153_149 rfl rfl hk8 ?_
      obtain ⟨hc11, h⟩ := h
      refine gz_i2l (pc' := 37) d_153_36 rfl hc11 ?_
      refine gz_ladd (pc' := 38) d_153_37 rfl ?_
      obtain ⟨hc12, h⟩ := h
      have hs13 := (kh_37 hC9 hc12)
      have hC15 : CS (pL w7 37 (z2).toNat (jL (r6 + r10))) := hC9.putL
      have h := h _ rfl hC15
      refine gz_last (pc' := 39) d_153_38 rfl hs13 ?_
      refine gz_iinc (pc' := 42) (l' := [some (.ref 0), some (.int (jI z1)), some (.int (jI (z2 + 1)))]) d_153_39 rfl rfl ml_153 rfl rfl ?_
      refine g_goto (pt := 2) d_153_42 (by decide) ?_
      exact h
theorem Z_154_0 {z1 : Int} {z2 : Int} {w : xW} {r : Option Value × xW} (hC : CS w) (h : in32 z1 ∧ (z1 < 0 → r = (some (.long (jL 0)), w)) ∧ (0 ≤ z1 → (z1 < 40 → xGo 154 23 [some (.ref 0), some (.int (jI z1)), some (.long (jL z2)), none, some (.long (jL 0)), none, some (.int (jI (z1 + 1))), none, none] [] w r) ∧ (40 ≤ z1 → r = (some (.long (jL 0)), w)))) : xGo 154 0 [some (.ref 0), some (.int (jI z1)), some (.long (jL z2)), none, none, none, none, none, none] [] w r := by
  refine g_iloadn (pc' := 1) d_154_0 rfl rfl ?_
  obtain ⟨hc1, h⟩ := h
  refine gz_if_lt (pc' := 4) (pt := 13) d_154_1 (by decide) rfl hc1 (fun c => ?_) (fun c => ?_)
  · replace h := h.1 c
    refine g_lconst (pc' := 14) (v := jL 0) d_154_13 rfl cl_0 ?_
    exact g_lret d_154_14 rt_154 h
  · replace h := h.2 c
    refine g_iloadn (pc' := 5) d_154_4 rfl rfl ?_
    refine g_aloadn (pc' := 6) d_154_5 rfl rfl ?_
    refine gz_getR (pc' := 9) d_154_6 rfl st_154_99 (kr_0_14 hC) ?_
    refine gz_lenl (pc' := 10) (m := 40) d_154_9 rfl (kl_37 hC) rfl ?_
    refine gz_ic_lt (pc' := 13) (pt := 15) d_154_10 (by decide) rfl hc1 (s32 (z := 40)) (fun c => ?_) (fun c => ?_)
    · replace h := h.1 c
      refine g_lconst (pc' := 16) (v := jL 0) d_154_15 rfl cl_0 ?_
      refine g_lstore (pc' := 18) (l' := [some (.ref 0), some (.int (jI z1)), some (.long (jL z2)), none, some (.long (jL 0)), none, none, none, none]) d_154_16 rfl ml_154 rfl rfl ?_
      refine g_iloadn (pc' := 19) d_154_18 rfl rfl ?_
      refine g_iconst (pc' := 20) d_154_19 rfl rfl ?_
      refine gz_iadd (pc' := 21) d_154_20 rfl ?_
      refine g_istore (pc' := 23) (l' := [some (.ref 0), some (.int (jI z1)), some (.long (jL z2)), none, some (.long (jL 0)), none, some (.int (jI (z1 + 1))), none, none]) d_154_21 rfl ml_154 rfl rfl ?_
      exact h
    · replace h := h.2 c
      refine g_lconst (pc' := 14) (v := jL 0) d_154_13 rfl cl_0 ?_
      exact g_lret d_154_14 rt_154 h
theorem Z_154 {z1 : Int} {z2 : Int} {w : xW} {r : Option Value × xW} (hC : CS w) (h : in32 z1 ∧ (z1 < 0 → r = (some (.long (jL 0)), w)) ∧ (0 ≤ z1 → (z1 < 40 → xGo 154 23 [some (.ref 0), some (.int (jI z1)), some (.long (jL z2)), none, some (.long (jL 0)), none, some (.int (jI (z1 + 1))), none, none] [] w r) ∧ (40 ≤ z1 → r = (some (.long (jL 0)), w)))) : xCall 154 [.ref 0, .int (jI z1), .long (jL z2)] w r := E_154 (Z_154_0 hC h)
theorem Z_154_23 {z1 : Int} {z2 : Int} {z4 : Int} {z6 : Int} {w : xW} {r : Option Value × xW} (hC : CS w) (h : in32 z6 ∧ (z6 < 1 → in64 (z4 * z2) ∧ ∃ y3, Int.tmod (z4 * z2) 1000000007 = y3 ∧ in32 (z1 + 1) ∧ ∃ r9 w6, xCall 53 [.long (jL (z1 + 1)), .long (jL 1000000007)] w (some (.long (jL r9)), w6) ∧ CS w6 ∧ in64 (y3 * r9) ∧ ∃ y11, Int.tmod (y3 * r9) 1000000007 = y11 ∧ r = (some (.long (jL y11)), w6)) ∧ (1 ≤ z6 → ∃ r16 w13, xCall 39 [.ref 1, .int (jI (z1 + 1)), .int (jI z6)] w (some (.long (jL r16)), w13) ∧ CS w13 ∧ 0 ≤ (z1 + 1) - z6 ∧ ∃ x18, rL w13 37 ((z1 + 1) - z6).toNat x18 ∧ in64 (r16 * x18) ∧ ∃ y21, Int.tmod (r16 * x18) 1000000007 = y21 ∧ in64 ((z4 * z2) + y21) ∧ ∃ y24, Int.tmod ((z4 * z2) + y21) 1000000007 = y24 ∧ xGo 154 23 [some (.ref 0), some (.int (jI z1)), some (.long (jL z2)), none, some (.long (jL y24)), none, some (.int (jI (z6 - 1))), none, none] [] w13 r)) : xGo 154 23 [some (.ref 0), some (.int (jI z1)), some (.long (jL z2)), none, some (.long (jL z4)), none, some (.int (jI z6)), none, none] [] w r := by
  refine g_iload (pc' := 25) d_154_23 rfl rfl ?_
  refine g_iconst (pc' := 26) d_154_25 rfl rfl ?_
  obtain ⟨hc1, h⟩ := h
  refine gz_ic_lt (pc' := 29) (pt := 78) d_154_26 (by decide) rfl hc1 (s32 (z := 1)) (fun c => ?_) (fun c => ?_)
  · replace h := h.1 c
    refine g_lload (pc' := 80) d_154_78 rfl rfl ?_
    refine g_lloadn (pc' := 81) d_154_80 rfl rfl ?_
    refine gz_lmul (pc' := 82) d_154_81 rfl ?_
    refine g_ldc2 (pc' := 85) d_154_82 rfl st_154_369 rfl ?_
    obtain ⟨hc2, h⟩ := h
    obtain ⟨y3, hz4, h⟩ := h
    refine gz_lrem (pc' := 86) d_154_85 rfl hc2 (s64 (z := 1000000007)) (by decide) hz4 ?_
    refine g_iloadn (pc' := 87) d_154_86 rfl rfl ?_
    refine g_iconst (pc' := 88) d_154_87 rfl rfl ?_
    refine gz_iadd (pc' := 89) d_154_88 rfl ?_
    obtain ⟨hc5, h⟩ := h
    refine gz_i2l (pc' := 90) d_154_89 rfl hc5 ?_
    refine g_ldc2 (pc' := 93) d_154_90 rfl st_154_369 rfl ?_
    obtain ⟨r9, w6, hk7, hC8, h⟩ := h
    refine g_callS (pc' := 96) d_154_93 rfl st_154_316 (Or.inl rfl) na_53 ml_53 rfl rfl rfl rm_154_53 rfl rfl hk7 ?_
    refine gz_lmul (pc' := 97) d_154_96 rfl ?_
    refine g_ldc2 (pc' := 100) d_154_97 rfl st_154_369 rfl ?_
    obtain ⟨hc10, h⟩ := h
    obtain ⟨y11, hz12, h⟩ := h
    refine gz_lrem (pc' := 101) d_154_100 rfl hc10 (s64 (z := 1000000007)) (by decide) hz12 ?_
    exact g_lret d_154_101 rt_154 h
  · replace h := h.2 c
    refine g_aloadn (pc' := 30) d_154_29 rfl rfl ?_
    refine gz_getR (pc' := 33) d_154_30 rfl st_154_14 (kr_0_0 hC) ?_
    refine g_iloadn (pc' := 34) d_154_33 rfl rfl ?_
    refine g_iconst (pc' := 35) d_154_34 rfl rfl ?_
    refine gz_iadd (pc' := 36) d_154_35 rfl ?_
    refine g_iload (pc' := 38) d_154_36 rfl rfl ?_
    obtain ⟨r16, w13, hk14, hC15, h⟩ := h
    refine gz_callV (pc' := 41) d_154_38 rfl st_154_336 na_39 ml_39 rfl rfl rfl rm_154_39 rfl rfl ow_39 (ko_1 hC) hk14 ?_
    refine g_aloadn (pc' := 42) d_154_41 rfl rfl ?_
    refine gz_getR (pc' := 45) d_154_42 rfl st_154_99 (kr_0_14 hC15) ?_
    refine g_iloadn (pc' := 46) d_154_45 rfl rfl ?_
    refine g_iconst (pc' := 47) d_154_46 rfl rfl ?_
    refine gz_iadd (pc' := 48) d_154_47 rfl ?_
    refine g_iload (pc' := 50) d_154_48 rfl rfl ?_
    refine gz_isub (pc' := 51) d_154_50 rfl ?_
    obtain ⟨hc17, h⟩ := h
    obtain ⟨x18, hv19, h⟩ := h
    refine gz_lald (pc' := 52) d_154_51 rfl hc17 hv19 ?_
    refine gz_lmul (pc' := 53) d_154_52 rfl ?_
    refine g_ldc2 (pc' := 56) d_154_53 rfl st_154_369 rfl ?_
    obtain ⟨hc20, h⟩ := h
    obtain ⟨y21, hz22, h⟩ := h
    refine gz_lrem (pc' := 57) d_154_56 rfl hc20 (s64 (z := 1000000007)) (by decide) hz22 ?_
    refine g_lstore (pc' := 59) (l' := [some (.ref 0), some (.int (jI z1)), some (.long (jL z2)), none, some (.long (jL z4)), none, some (.int (jI z6)), some (.long (jL y21)), none]) d_154_57 rfl ml_154 rfl rfl ?_
    refine g_lload (pc' := 61) d_154_59 rfl rfl ?_
    refine g_lloadn (pc' := 62) d_154_61 rfl rfl ?_
    refine gz_lmul (pc' := 63) d_154_62 rfl ?_
    refine g_lload (pc' := 65) d_154_63 rfl rfl ?_
    refine gz_ladd (pc' := 66) d_154_65 rfl ?_
    refine g_ldc2 (pc' := 69) d_154_66 rfl st_154_369 rfl ?_
    obtain ⟨hc23, h⟩ := h
    obtain ⟨y24, hz25, h⟩ := h
    refine gz_lrem (pc' := 70) d_154_69 rfl hc23 (s64 (z := 1000000007)) (by decide) hz25 ?_
    refine g_lstore (pc' := 72) (l' := [some (.ref 0), some (.int (jI z1)), some (.long (jL z2)), none, some (.long (jL y24)), none, some (.int (jI z6)), some (.long (jL y21)), none]) d_154_70 rfl ml_154 rfl rfl ?_
    refine gz_idec (pc' := 75) (c := 1) (l' := [some (.ref 0), some (.int (jI z1)), some (.long (jL z2)), none, some (.long (jL y24)), none, some (.int (jI (z6 - 1))), some (.long (jL y21)), none]) d_154_72 rfl rfl ml_154 rfl rfl ?_
    refine g_goto (pt := 23) d_154_75 (by decide) ?_
    exact xGo.more (xle_s (xle_s (xle_s (xle_n (xle_s (xle_n (xle_s (xle_n (xle_n xle_0))))))))) h
theorem Z_155_0 {z1 : Int} {z2 : Int} {w : xW} {r : Option Value × xW} (hC : CS w) (h : ∃ (P4 : Prop) (dP5 : Decidable P4) (w1 : xW), xCall 152 [.int (jI z1), .int (jI z2)] w (some (.int (bz P4)), w1) ∧ CS w1 ∧ (P4 → ∃ w6, xCall 156 [.ref 0, .int (jI z1), .int (jI z2)] w1 (none, w6) ∧ CS w6 ∧ ∃ r12 w9, xCall 162 [.ref 34] w6 (some (.int (jI r12)), w9) ∧ CS w9 ∧ r = (some (.int (jI r12)), w9)) ∧ (¬ P4 → r = (some (.int (jI (-1))), w1))) : xGo 155 0 [some (.ref 0), some (.int (jI z1)), some (.int (jI z2))] [] w r := by
  refine g_iloadn (pc' := 1) d_155_0 rfl rfl ?_
  refine g_iloadn (pc' := 2) d_155_1 rfl rfl ?_
  obtain ⟨P4, dP5, w1, hk2, hC3, h⟩ := h
  refine g_callS (pc' := 5) d_155_2 rfl st_155_352 (Or.inl rfl) na_152 ml_152 rfl rfl rfl rm_155_152 rfl rfl hk2 ?_
  refine gz_bt_ne (pc' := 8) (pt := 10) d_155_5 (by decide) rfl (fun c => ?_) (fun c => ?_)
  · replace h := h.1 c
    refine g_aloadn (pc' := 11) d_155_10 rfl rfl ?_
    refine g_iloadn (pc' := 12) d_155_11 rfl rfl ?_
    refine g_iloadn (pc' := 13) d_155_12 rfl rfl ?_
    obtain ⟨w6, hk7, hC8, h⟩ := h
    refine gz_callV (pc' := 16) d_155_13 rfl st_155_362 na_156 ml_156 rfl rfl rfl rm_155_156 rfl rfl ow_156 (ko_0 hC3) hk7 ?_
    refine g_aloadn (pc' := 17) d_155_16 rfl rfl ?_
    refine gz_getR (pc' := 20) d_155_17 rfl st_155_88 (kr_0_12 hC8) ?_
    obtain ⟨r12, w9, hk10, hC11, h⟩ := h
    refine gz_callV (pc' := 23) d_155_20 rfl st_155_365 na_162 ml_162 rfl rfl rfl rm_155_162 rfl rfl ow_162 (ko_34 hC8) hk10 ?_
    exact g_iret d_155_23 rt_155 h
  · replace h := h.2 c
    refine g_iconst (pc' := 9) d_155_8 rfl rfl ?_
    exact g_iret d_155_9 rt_155 h
theorem Z_155 {z1 : Int} {z2 : Int} {w : xW} {r : Option Value × xW} (hC : CS w) (h : ∃ (P4 : Prop) (dP5 : Decidable P4) (w1 : xW), xCall 152 [.int (jI z1), .int (jI z2)] w (some (.int (bz P4)), w1) ∧ CS w1 ∧ (P4 → ∃ w6, xCall 156 [.ref 0, .int (jI z1), .int (jI z2)] w1 (none, w6) ∧ CS w6 ∧ ∃ r12 w9, xCall 162 [.ref 34] w6 (some (.int (jI r12)), w9) ∧ CS w9 ∧ r = (some (.int (jI r12)), w9)) ∧ (¬ P4 → r = (some (.int (jI (-1))), w1))) : xCall 155 [.ref 0, .int (jI z1), .int (jI z2)] w r := E_155 (Z_155_0 hC h)
theorem Z_156_0 {z1 : Int} {z2 : Int} {w : xW} {r : Option Value × xW} (hC : CS w) (h : ∃ w1, xCall 157 [.ref 34] w (none, w1) ∧ CS w1 ∧ xGo 156 11 [some (.ref 0), some (.int (jI z1)), some (.int (jI z2)), some (.int (jI (z1 + 1))), none, none, none] [] w1 r) : xGo 156 0 [some (.ref 0), some (.int (jI z1)), some (.int (jI z2)), none, none, none, none] [] w r := by
  refine g_aloadn (pc' := 1) d_156_0 rfl rfl ?_
  refine gz_getR (pc' := 4) d_156_1 rfl st_156_88 (kr_0_12 hC) ?_
  obtain ⟨w1, hk2, hC3, h⟩ := h
  refine gz_callV (pc' := 7) d_156_4 rfl st_156_464 na_157 ml_157 rfl rfl rfl rm_156_157 rfl rfl ow_157 (ko_34 hC) hk2 ?_
  refine g_iloadn (pc' := 8) d_156_7 rfl rfl ?_
  refine g_iconst (pc' := 9) d_156_8 rfl rfl ?_
  refine gz_iadd (pc' := 10) d_156_9 rfl ?_
  refine g_istoren (pc' := 11) (l' := [some (.ref 0), some (.int (jI z1)), some (.int (jI z2)), some (.int (jI (z1 + 1))), none, none, none]) d_156_10 rfl ml_156 rfl rfl ?_
  exact h
theorem Z_156 {z1 : Int} {z2 : Int} {w : xW} {r : Option Value × xW} (hC : CS w) (h : ∃ w1, xCall 157 [.ref 34] w (none, w1) ∧ CS w1 ∧ xGo 156 11 [some (.ref 0), some (.int (jI z1)), some (.int (jI z2)), some (.int (jI (z1 + 1))), none, none, none] [] w1 r) : xCall 156 [.ref 0, .int (jI z1), .int (jI z2)] w r := E_156 (Z_156_0 hC h)
theorem Z_156_11 {z1 : Int} {z2 : Int} {z3 : Int} {w : xW} {r : Option Value × xW} (hC : CS w) (h : in32 z3 ∧ (z3 < 1 → in32 z2 ∧ ∃ w3, xCall 158 [.ref 34, .long (jL z2), .long (jL 0)] w (none, w3) ∧ CS w3 ∧ ∃ w6, xCall 159 [.ref 34, .long (jL 223092870)] w3 (none, w6) ∧ CS w6 ∧ in32 (z1 + 1) ∧ ∃ w10, xCall 159 [.ref 34, .long (jL (z1 + 1))] w6 (none, w10) ∧ CS w10 ∧ ∃ w13, xCall 160 [.ref 34] w10 (none, w13) ∧ CS w13 ∧ r = (none, w13)) ∧ (1 ≤ z3 → ∃ r19 w16, xCall 146 [.ref 7, .int (jI ((z1 + 1) - z3)), .long (jL 223092870)] w (some (.long (jL r19)), w16) ∧ CS w16 ∧ ∃ r23 w20, xCall 149 [.int (jI ((z1 + 1) - z3))] w16 (some (.int (jI r23)), w20) ∧ CS w20 ∧ in32 r23 ∧ in32 z2 ∧ ∃ r29 w26, xCall 39 [.ref 1, .int (jI (z1 + 1)), .int (jI z3)] w20 (some (.long (jL r29)), w26) ∧ CS w26 ∧ ∃ w30, xCall 158 [.ref 34, .long (jL z2), .long (jL (r29 * (r19 + (r23 * 223092870))))] w26 (none, w30) ∧ CS w30 ∧ xGo 156 11 [some (.ref 0), some (.int (jI z1)), some (.int (jI z2)), some (.int (jI (z3 - 1))), none, none, none] [] w30 r)) : xGo 156 11 [some (.ref 0), some (.int (jI z1)), some (.int (jI z2)), some (.int (jI z3)), none, none, none] [] w r := by
  refine g_iloadn (pc' := 12) d_156_11 rfl rfl ?_
  refine g_iconst (pc' := 13) d_156_12 rfl rfl ?_
  obtain ⟨hc1, h⟩ := h
  refine gz_ic_lt (pc' := 16) (pt := 77) d_156_13 (by decide) rfl hc1 (s32 (z := 1)) (fun c => ?_) (fun c => ?_)
  · replace h := h.1 c
    refine g_aloadn (pc' := 78) d_156_77 rfl rfl ?_
    refine gz_getR (pc' := 81) d_156_78 rfl st_156_88 (kr_0_12 hC) ?_
    refine g_iloadn (pc' := 82) d_156_81 rfl rfl ?_
    obtain ⟨hc2, h⟩ := h
    refine gz_i2l (pc' := 83) d_156_82 rfl hc2 ?_
    refine g_lconst (pc' := 84) (v := jL 0) d_156_83 rfl cl_0 ?_
    obtain ⟨w3, hk4, hC5, h⟩ := h
    refine gz_callV (pc' := 87) d_156_84 rfl st_156_469 na_158 ml_158 rfl rfl rfl rm_156_158 rfl rfl ow_158 (ko_34 hC) hk4 ?_
    refine g_aloadn (pc' := 88) d_156_87 rfl rfl ?_
    refine gz_getR (pc' := 91) d_156_88 rfl st_156_88 (kr_0_12 hC5) ?_
    refine g_ldc2 (pc' := 94) d_156_91 rfl st_156_467 rfl ?_
    obtain ⟨w6, hk7, hC8, h⟩ := h
    refine gz_callV (pc' := 97) d_156_94 rfl st_156_473 na_159 ml_159 rfl rfl rfl rm_156_159 rfl rfl ow_159 (ko_34 hC5) hk7 ?_
    refine g_aloadn (pc' := 98) d_156_97 rfl rfl ?_
    refine gz_getR (pc' := 101) d_156_98 rfl st_156_88 (kr_0_12 hC8) ?_
    refine g_iloadn (pc' := 102) d_156_101 rfl rfl ?_
    refine g_iconst (pc' := 103) d_156_102 rfl rfl ?_
    refine gz_iadd (pc' := 104) d_156_103 rfl ?_
    obtain ⟨hc9, h⟩ := h
    refine gz_i2l (pc' := 105) d_156_104 rfl hc9 ?_
    obtain ⟨w10, hk11, hC12, h⟩ := h
    refine gz_callV (pc' := 108) d_156_105 rfl st_156_473 na_159 ml_159 rfl rfl rfl rm_156_159 rfl rfl ow_159 (ko_34 hC8) hk11 ?_
    refine g_aloadn (pc' := 109) d_156_108 rfl rfl ?_
    refine gz_getR (pc' := 112) d_156_109 rfl st_156_88 (kr_0_12 hC12) ?_
    obtain ⟨w13, hk14, hC15, h⟩ := h
    refine gz_callV (pc' := 115) d_156_112 rfl st_156_474 na_160 ml_160 rfl rfl rfl rm_156_160 rfl rfl ow_160 (ko_34 hC12) hk14 ?_
    exact g_vret d_156_115 rt_156 h
  · replace h := h.2 c
    refine g_iloadn (pc' := 17) d_156_16 rfl rfl ?_
    refine g_iconst (pc' := 18) d_156_17 rfl rfl ?_
    refine gz_iadd (pc' := 19) d_156_18 rfl ?_
    refine g_iloadn (pc' := 20) d_156_19 rfl rfl ?_
    refine gz_isub (pc' := 21) d_156_20 rfl ?_
    refine g_istore (pc' := 23) (l' := [some (.ref 0), some (.int (jI z1)), some (.int (jI z2)), some (.int (jI z3)), some (.int (jI ((z1 + 1) - z3))), none, none]) d_156_21 rfl ml_156 rfl rfl ?_
    refine g_aloadn (pc' := 24) d_156_23 rfl rfl ?_
    refine gz_getR (pc' := 27) d_156_24 rfl st_156_35 (kr_0_3 hC) ?_
    refine g_iload (pc' := 29) d_156_27 rfl rfl ?_
    refine g_ldc2 (pc' := 32) d_156_29 rfl st_156_467 rfl ?_
    obtain ⟨r19, w16, hk17, hC18, h⟩ := h
    refine gz_callV (pc' := 35) d_156_32 rfl st_156_461 na_146 ml_146 rfl rfl rfl rm_156_146 rfl rfl ow_146 (ko_7 hC) hk17 ?_
    refine g_iload (pc' := 37) d_156_35 rfl rfl ?_
    obtain ⟨r23, w20, hk21, hC22, h⟩ := h
    refine g_callS (pc' := 40) d_156_37 rfl st_156_333 (Or.inl rfl) na_149 ml_149 rfl rfl rfl rm_156_149 rfl rfl hk21 ?_
    obtain ⟨hc24, h⟩ := h
    refine gz_i2l (pc' := 41) d_156_40 rfl hc24 ?_
    refine g_ldc2 (pc' := 44) d_156_41 rfl st_156_467 rfl ?_
    refine gz_lmul (pc' := 45) d_156_44 rfl ?_
    refine gz_ladd (pc' := 46) d_156_45 rfl ?_
    refine g_lstore (pc' := 48) (l' := [some (.ref 0), some (.int (jI z1)), some (.int (jI z2)), some (.int (jI z3)), some (.int (jI ((z1 + 1) - z3))), some (.long (jL (r19 + (r23 * 223092870)))), none]) d_156_46 rfl ml_156 rfl rfl ?_
    refine g_aloadn (pc' := 49) d_156_48 rfl rfl ?_
    refine gz_getR (pc' := 52) d_156_49 rfl st_156_88 (kr_0_12 hC22) ?_
    refine g_iloadn (pc' := 53) d_156_52 rfl rfl ?_
    obtain ⟨hc25, h⟩ := h
    refine gz_i2l (pc' := 54) d_156_53 rfl hc25 ?_
    refine g_aloadn (pc' := 55) d_156_54 rfl rfl ?_
    refine gz_getR (pc' := 58) d_156_55 rfl st_156_14 (kr_0_0 hC22) ?_
    refine g_iloadn (pc' := 59) d_156_58 rfl rfl ?_
    refine g_iconst (pc' := 60) d_156_59 rfl rfl ?_
    refine gz_iadd (pc' := 61) d_156_60 rfl ?_
    refine g_iloadn (pc' := 62) d_156_61 rfl rfl ?_
    obtain ⟨r29, w26, hk27, hC28, h⟩ := h
    refine gz_callV (pc' := 65) d_156_62 rfl st_156_336 na_39 ml_39 rfl rfl rfl rm_156_39 rfl rfl ow_39 (ko_1 hC22) hk27 ?_
    refine g_lload (pc' := 67) d_156_65 rfl rfl ?_
    refine gz_lmul (pc' := 68) d_156_67 rfl ?_
    obtain ⟨w30, hk31, hC32, h⟩ := h
    refine gz_callV (pc' := 71) d_156_68 rfl st_156_469 na_158 ml_158 rfl rfl rfl rm_156_158 rfl rfl ow_158 (ko_34 hC28) hk31 ?_
    refine gz_idec (pc' := 74) (c := 1) (l' := [some (.ref 0), some (.int (jI z1)), some (.int (jI z2)), some (.int (jI (z3 - 1))), some (.int (jI ((z1 + 1) - z3))), some (.long (jL (r19 + (r23 * 223092870)))), none]) d_156_71 rfl rfl ml_156 rfl rfl ?_
    refine g_goto (pt := 11) d_156_74 (by decide) ?_
    exact xGo.more (xle_s (xle_s (xle_s (xle_s (xle_n (xle_n (xle_n xle_0))))))) h
theorem Z_157_0  {w : xW} {r : Option Value × xW} (hC : CS w) (h : ∃ w1, xCall 6 [.ref 35, .long (jL 0)] w (none, w1) ∧ CS w1 ∧ r = (none, w1)) : xGo 157 0 [some (.ref 34)] [] w r := by
  refine g_aloadn (pc' := 1) d_157_0 rfl rfl ?_
  refine gz_getR (pc' := 4) d_157_1 rfl st_157_9 (kr_34_0 hC) ?_
  refine g_lconst (pc' := 5) (v := jL 0) d_157_4 rfl cl_0 ?_
  obtain ⟨w1, hk2, hC3, h⟩ := h
  refine g_callS (pc' := 8) d_157_5 rfl st_157_17 (Or.inl rfl) na_6 ml_6 rfl rfl rfl rm_157_6 rfl rfl hk2 ?_
  exact g_vret d_157_8 rt_157 h
theorem Z_157  {w : xW} {r : Option Value × xW} (hC : CS w) (h : ∃ w1, xCall 6 [.ref 35, .long (jL 0)] w (none, w1) ∧ CS w1 ∧ r = (none, w1)) : xCall 157 [.ref 34] w r := E_157 (Z_157_0 hC h)
theorem Z_158_0 {z1 : Int} {z3 : Int} {w : xW} {r : Option Value × xW} (hC : CS w) (h : xGo 158 6 [some (.ref 34), some (.long (jL z1)), none, some (.long (jL z3)), none, some (.long (jL z3)), none, some (.int (jI 0)), none, none] [] w r) : xGo 158 0 [some (.ref 34), some (.long (jL z1)), none, some (.long (jL z3)), none, none, none, none, none, none] [] w r := by
  refine g_lloadn (pc' := 1) d_158_0 rfl rfl ?_
  refine g_lstore (pc' := 3) (l' := [some (.ref 34), some (.long (jL z1)), none, some (.long (jL z3)), none, some (.long (jL z3)), none, none, none, none]) d_158_1 rfl ml_158 rfl rfl ?_
  refine g_iconst (pc' := 4) d_158_3 rfl rfl ?_
  refine g_istore (pc' := 6) (l' := [some (.ref 34), some (.long (jL z1)), none, some (.long (jL z3)), none, some (.long (jL z3)), none, some (.int (jI 0)), none, none]) d_158_4 rfl ml_158 rfl rfl ?_
  exact h
theorem Z_158 {z1 : Int} {z3 : Int} {w : xW} {r : Option Value × xW} (hC : CS w) (h : xGo 158 6 [some (.ref 34), some (.long (jL z1)), none, some (.long (jL z3)), none, some (.long (jL z3)), none, some (.int (jI 0)), none, none] [] w r) : xCall 158 [.ref 34, .long (jL z1), .long (jL z3)] w r := E_158 (Z_158_0 hC h)
theorem Z_158_6 {z1 : Int} {z3 : Int} {z5 : Int} {z7 : Int} {w : xW} {r : Option Value × xW} (hC : CS w) (h : in32 z7 ∧ (28 ≤ z7 → r = (none, w)) ∧ (z7 < 28 → 0 ≤ z7 ∧ ∃ x3, rL w 35 (z7).toNat x3 ∧ ∃ r8 w5, xCall 17 [.long (jL ((x3 * z1) + z5)), .long (jL 1000000000)] w (some (.long (jL r8)), w5) ∧ CS w5 ∧ (0 ≤ z7 ∧ z7 < 28) ∧ ∀ w11, w11 = pL w5 35 (z7).toNat (jL r8) → CS w11 → ∃ r16 w13, xCall 19 [.long (jL ((x3 * z1) + z5)), .long (jL 1000000000)] w11 (some (.long (jL r16)), w13) ∧ CS w13 ∧ xGo 158 6 [some (.ref 34), some (.long (jL z1)), none, some (.long (jL z3)), none, some (.long (jL r16)), none, some (.int (jI (z7 + 1))), none, none] [] w13 r)) : xGo 158 6 [some (.ref 34), some (.long (jL z1)), none, some (.long (jL z3)), none, some (.long (jL z5)), none, some (.int (jI z7)), none, none] [] w r := by
  refine g_iload (pc' := 8) d_158_6 rfl rfl ?_
  refine g_bipush (pc' := 10) (v := jI 28) d_158_8 rfl (by decide) ?_
  obtain ⟨hc1, h⟩ := h
  refine gz_ic_ge (pc' := 13) (pt := 58) d_158_10 (by decide) rfl hc1 (s32 (z := 28)) (fun c => ?_) (fun c => ?_)
  · replace h := h.1 c
    exact g_vret d_158_58 rt_158 h
  · replace h := h.2 c
    refine g_aloadn (pc' := 14) d_158_13 rfl rfl ?_
    refine gz_getR (pc' := 17) d_158_14 rfl st_158_9 (kr_34_0 hC) ?_
    refine g_iload (pc' := 19) d_158_17 rfl rfl ?_
    obtain ⟨hc2, h⟩ := h
    obtain ⟨x3, hv4, h⟩ := h
    refine gz_lald (pc' := 20) d_158_19 rfl hc2 hv4 ?_
    refine g_lloadn (pc' := 21) d_158_20 rfl rfl ?_
    refine gz_lmul (pc' := 22) d_158_21 rfl ?_
    refine g_lload (pc' := 24) d_158_22 rfl rfl ?_
    refine gz_ladd (pc' := 25) d_158_24 rfl ?_
    refine g_lstore (pc' := 27) (l' := [some (.ref 34), some (.long (jL z1)), none, some (.long (jL z3)), none, some (.long (jL z5)), none, some (.int (jI z7)), some (.long (jL ((x3 * z1) + z5))), none]) d_158_25 rfl ml_158 rfl rfl ?_
    refine g_aloadn (pc' := 28) d_158_27 rfl rfl ?_
    refine gz_getR (pc' := 31) d_158_28 rfl st_158_9 (kr_34_0 hC) ?_
    refine g_iload (pc' := 33) d_158_31 rfl rfl ?_
    refine g_lload (pc' := 35) d_158_33 rfl rfl ?_
    refine g_ldc2 (pc' := 38) d_158_35 rfl st_158_23 rfl ?_
    obtain ⟨r8, w5, hk6, hC7, h⟩ := h
    refine g_callS (pc' := 41) d_158_38 rfl st_158_25 (Or.inl rfl) na_17 ml_17 rfl rfl rfl rm_158_17 rfl rfl hk6 ?_
    obtain ⟨hc9, h⟩ := h
    have hs10 := (kh_35 hC7 hc9)
    have hC12 : CS (pL w5 35 (z7).toNat (jL r8)) := hC7.putL
    have h := h _ rfl hC12
    refine gz_last (pc' := 42) d_158_41 rfl hs10 ?_
    refine g_lload (pc' := 44) d_158_42 rfl rfl ?_
    refine g_ldc2 (pc' := 47) d_158_44 rfl st_158_23 rfl ?_
    obtain ⟨r16, w13, hk14, hC15, h⟩ := h
    refine g_callS (pc' := 50) d_158_47 rfl st_158_31 (Or.inl rfl) na_19 ml_19 rfl rfl rfl rm_158_19 rfl rfl hk14 ?_
    refine g_lstore (pc' := 52) (l' := [some (.ref 34), some (.long (jL z1)), none, some (.long (jL z3)), none, some (.long (jL r16)), none, some (.int (jI z7)), some (.long (jL ((x3 * z1) + z5))), none]) d_158_50 rfl ml_158 rfl rfl ?_
    refine gz_iinc (pc' := 55) (l' := [some (.ref 34), some (.long (jL z1)), none, some (.long (jL z3)), none, some (.long (jL r16)), none, some (.int (jI (z7 + 1))), some (.long (jL ((x3 * z1) + z5))), none]) d_158_52 rfl rfl ml_158 rfl rfl ?_
    refine g_goto (pt := 6) d_158_55 (by decide) ?_
    exact xGo.more (xle_s (xle_s (xle_n (xle_s (xle_n (xle_s (xle_n (xle_s (xle_n (xle_n xle_0)))))))))) h
theorem Z_159_0 {z1 : Int} {w : xW} {r : Option Value × xW} (hC : CS w) (h : in64 z1 ∧ (0 < z1 → xGo 159 13 [some (.ref 34), some (.long (jL z1)), none, some (.long (jL 0)), none, some (.int (jI 27)), none, none] [] w r) ∧ (z1 ≤ 0 → r = (none, w))) : xGo 159 0 [some (.ref 34), some (.long (jL z1)), none, none, none, none, none, none] [] w r := by
  refine g_lloadn (pc' := 1) d_159_0 rfl rfl ?_
  refine g_lconst (pc' := 2) (v := jL 0) d_159_1 rfl cl_0 ?_
  obtain ⟨hc1, h⟩ := h
  refine gz_lc_gt (pc' := 6) (pm := 3) (pt := 7) d_159_2 rfl d_159_3 (by decide) rfl hc1 (s64 (z := 0)) (fun c => ?_) (fun c => ?_)
  · replace h := h.1 c
    refine g_lconst (pc' := 8) (v := jL 0) d_159_7 rfl cl_0 ?_
    refine g_lstoren (pc' := 9) (l' := [some (.ref 34), some (.long (jL z1)), none, some (.long (jL 0)), none, none, none, none]) d_159_8 rfl ml_159 rfl rfl ?_
    refine g_bipush (pc' := 11) (v := jI 27) d_159_9 rfl (by decide) ?_
    refine g_istore (pc' := 13) (l' := [some (.ref 34), some (.long (jL z1)), none, some (.long (jL 0)), none, some (.int (jI 27)), none, none]) d_159_11 rfl ml_159 rfl rfl ?_
    exact h
  · replace h := h.2 c
    exact g_vret d_159_6 rt_159 h
theorem Z_159 {z1 : Int} {w : xW} {r : Option Value × xW} (hC : CS w) (h : in64 z1 ∧ (0 < z1 → xGo 159 13 [some (.ref 34), some (.long (jL z1)), none, some (.long (jL 0)), none, some (.int (jI 27)), none, none] [] w r) ∧ (z1 ≤ 0 → r = (none, w))) : xCall 159 [.ref 34, .long (jL z1)] w r := E_159 (Z_159_0 hC h)
theorem Z_159_13 {z1 : Int} {z3 : Int} {z5 : Int} {w : xW} {r : Option Value × xW} (hC : CS w) (h : in32 z5 ∧ (z5 < 0 → r = (none, w)) ∧ (0 ≤ z5 → 0 ≤ z5 ∧ ∃ x3, rL w 35 (z5).toNat x3 ∧ in64 ((z3 * 1000000000) + x3) ∧ in64 z1 ∧ z1 ≠ 0 ∧ ∃ y8, Int.tdiv ((z3 * 1000000000) + x3) z1 = y8 ∧ (0 ≤ z5 ∧ z5 < 28) ∧ ∀ w12, w12 = pL w 35 (z5).toNat (jL y8) → CS w12 → z1 ≠ 0 ∧ ∃ y15, Int.tmod ((z3 * 1000000000) + x3) z1 = y15 ∧ xGo 159 13 [some (.ref 34), some (.long (jL z1)), none, some (.long (jL y15)), none, some (.int (jI (z5 - 1))), none, none] [] w12 r)) : xGo 159 13 [some (.ref 34), some (.long (jL z1)), none, some (.long (jL z3)), none, some (.int (jI z5)), none, none] [] w r := by
  refine g_iload (pc' := 15) d_159_13 rfl rfl ?_
  obtain ⟨hc1, h⟩ := h
  refine gz_if_lt (pc' := 18) (pt := 55) d_159_15 (by decide) rfl hc1 (fun c => ?_) (fun c => ?_)
  · replace h := h.1 c
    exact g_vret d_159_55 rt_159 h
  · replace h := h.2 c
    refine g_lloadn (pc' := 19) d_159_18 rfl rfl ?_
    refine g_ldc2 (pc' := 22) d_159_19 rfl st_159_23 rfl ?_
    refine gz_lmul (pc' := 23) d_159_22 rfl ?_
    refine g_aloadn (pc' := 24) d_159_23 rfl rfl ?_
    refine gz_getR (pc' := 27) d_159_24 rfl st_159_9 (kr_34_0 hC) ?_
    refine g_iload (pc' := 29) d_159_27 rfl rfl ?_
    obtain ⟨hc2, h⟩ := h
    obtain ⟨x3, hv4, h⟩ := h
    refine gz_lald (pc' := 30) d_159_29 rfl hc2 hv4 ?_
    refine gz_ladd (pc' := 31) d_159_30 rfl ?_
    refine g_lstore (pc' := 33) (l' := [some (.ref 34), some (.long (jL z1)), none, some (.long (jL z3)), none, some (.int (jI z5)), some (.long (jL ((z3 * 1000000000) + x3))), none]) d_159_31 rfl ml_159 rfl rfl ?_
    refine g_aloadn (pc' := 34) d_159_33 rfl rfl ?_
    refine gz_getR (pc' := 37) d_159_34 rfl st_159_9 (kr_34_0 hC) ?_
    refine g_iload (pc' := 39) d_159_37 rfl rfl ?_
    refine g_lload (pc' := 41) d_159_39 rfl rfl ?_
    refine g_lloadn (pc' := 42) d_159_41 rfl rfl ?_
    obtain ⟨hc5, h⟩ := h
    obtain ⟨hc6, h⟩ := h
    obtain ⟨hc7, h⟩ := h
    obtain ⟨y8, hz9, h⟩ := h
    refine gz_ldiv (pc' := 43) d_159_42 rfl hc5 hc6 hc7 hz9 ?_
    obtain ⟨hc10, h⟩ := h
    have hs11 := (kh_35 hC hc10)
    have hC13 : CS (pL w 35 (z5).toNat (jL y8)) := hC.putL
    have h := h _ rfl hC13
    refine gz_last (pc' := 44) d_159_43 rfl hs11 ?_
    refine g_lload (pc' := 46) d_159_44 rfl rfl ?_
    refine g_lloadn (pc' := 47) d_159_46 rfl rfl ?_
    obtain ⟨hc14, h⟩ := h
    obtain ⟨y15, hz16, h⟩ := h
    refine gz_lrem (pc' := 48) d_159_47 rfl hc5 hc6 hc14 hz16 ?_
    refine g_lstoren (pc' := 49) (l' := [some (.ref 34), some (.long (jL z1)), none, some (.long (jL y15)), none, some (.int (jI z5)), some (.long (jL ((z3 * 1000000000) + x3))), none]) d_159_48 rfl ml_159 rfl rfl ?_
    refine gz_idec (pc' := 52) (c := 1) (l' := [some (.ref 34), some (.long (jL z1)), none, some (.long (jL y15)), none, some (.int (jI (z5 - 1))), some (.long (jL ((z3 * 1000000000) + x3))), none]) d_159_49 rfl rfl ml_159 rfl rfl ?_
    refine g_goto (pt := 13) d_159_52 (by decide) ?_
    exact xGo.more (xle_s (xle_s (xle_n (xle_s (xle_n (xle_s (xle_n (xle_n xle_0)))))))) h
theorem Z_160_0  {w : xW} {r : Option Value × xW} (hC : CS w) (h : ∀ w2, w2 = pF w 34 1 (.int (jI 252)) → CS w2 → xGo 160 7 [some (.ref 34)] [] w2 r) : xGo 160 0 [some (.ref 34)] [] w r := by
  refine g_aloadn (pc' := 1) d_160_0 rfl rfl ?_
  refine g_sipush (pc' := 4) (v := jI 252) d_160_1 rfl (by decide) ?_
  have hpf1 := (kf_34_1 hC)
  have hC3 : CS (pF w 34 1 (.int (jI 252))) := ks_34_1 hC
  have h := h _ rfl hC3
  refine gz_putf (pc' := 7) d_160_4 rfl st_160_13 ft_10_1 ff_10_1 rfl (Or.inl rfl) hpf1 ?_
  exact h
theorem Z_160  {w : xW} {r : Option Value × xW} (hC : CS w) (h : ∀ w2, w2 = pF w 34 1 (.int (jI 252)) → CS w2 → xGo 160 7 [some (.ref 34)] [] w2 r) : xCall 160 [.ref 34] w r := E_160 (Z_160_0 hC h)
theorem Z_160_7  {w : xW} {r : Option Value × xW} (hC : CS w) (h : ∃ x1, fI w 34 10 1 x1 ∧ in32 x1 ∧ (x1 ≤ 1 → r = (none, w)) ∧ (1 < x1 → ∃ r7 w4, xCall 161 [.ref 34, .int (jI (x1 - 1))] w (some (.int (jI r7)), w4) ∧ CS w4 ∧ in32 r7 ∧ (r7 ≠ 0 → r = (none, w4)) ∧ (r7 = 0 → ∃ x9, fI w4 34 10 1 x9 ∧ ∀ w12, w12 = pF w4 34 1 (.int (jI (x9 - 1))) → CS w12 → xGo 160 7 [some (.ref 34)] [] w12 r))) : xGo 160 7 [some (.ref 34)] [] w r := by
  refine g_aloadn (pc' := 8) d_160_7 rfl rfl ?_
  obtain ⟨x1, hv2, h⟩ := h
  refine gz_getI (pc' := 11) d_160_8 rfl st_160_13 hv2 ?_
  refine g_iconst (pc' := 12) d_160_11 rfl rfl ?_
  obtain ⟨hc3, h⟩ := h
  refine gz_ic_le (pc' := 15) (pt := 41) d_160_12 (by decide) rfl hc3 (s32 (z := 1)) (fun c => ?_) (fun c => ?_)
  · replace h := h.1 c
    exact g_vret d_160_41 rt_160 h
  · replace h := h.2 c
    refine g_aloadn (pc' := 16) d_160_15 rfl rfl ?_
    refine g_aloadn (pc' := 17) d_160_16 rfl rfl ?_
    refine gz_getI (pc' := 20) d_160_17 rfl st_160_13 hv2 ?_
    refine g_iconst (pc' := 21) d_160_20 rfl rfl ?_
    refine gz_isub (pc' := 22) d_160_21 rfl ?_
    obtain ⟨r7, w4, hk5, hC6, h⟩ := h
    refine gz_callV (pc' := 25) d_160_22 rfl st_160_34 na_161 ml_161 rfl rfl rfl rm_160_161 rfl rfl ow_161 (ko_34 hC) hk5 ?_
    obtain ⟨hc8, h⟩ := h
    refine gz_if_ne (pc' := 28) (pt := 41) d_160_25 (by decide) rfl hc8 (fun c => ?_) (fun c => ?_)
    · replace h := h.1 c
      exact g_vret d_160_41 rt_160 h
    · replace h := h.2 c
      refine g_aloadn (pc' := 29) d_160_28 rfl rfl ?_
      refine g_dup (pc' := 30) d_160_29 rfl rfl ?_
      obtain ⟨x9, hv10, h⟩ := h
      refine gz_getI (pc' := 33) d_160_30 rfl st_160_13 hv10 ?_
      refine g_iconst (pc' := 34) d_160_33 rfl rfl ?_
      refine gz_isub (pc' := 35) d_160_34 rfl ?_
      have hpf11 := (kf_34_1 hC6)
      have hC13 : CS (pF w4 34 1 (.int (jI (x9 - 1)))) := ks_34_1 hC6
      have h := h _ rfl hC13
      refine gz_putf (pc' := 38) d_160_35 rfl st_160_13 ft_10_1 ff_10_1 rfl (Or.inl rfl) hpf11 ?_
      refine g_goto (pt := 7) d_160_38 (by decide) ?_
      exact h
theorem Z_161_0 {z1 : Int} {w : xW} {r : Option Value × xW} (hC : CS w) (h : in32 z1 ∧ (z1 < 0 → r = (some (.int (jI 0)), w)) ∧ (0 ≤ z1 → (z1 < 252 → ∃ y2, Int.tdiv z1 9 = y2 ∧ 0 ≤ y2 ∧ ∃ x5, rL w 35 (y2).toNat x5 ∧ xGo 161 26 [some (.ref 34), some (.int (jI z1)), some (.long (jL x5)), none, some (.int (jI 0))] [] w r) ∧ (252 ≤ z1 → r = (some (.int (jI 0)), w)))) : xGo 161 0 [some (.ref 34), some (.int (jI z1)), none, none, none] [] w r := by
  refine g_iloadn (pc' := 1) d_161_0 rfl rfl ?_
  obtain ⟨hc1, h⟩ := h
  refine gz_if_lt (pc' := 4) (pt := 11) d_161_1 (by decide) rfl hc1 (fun c => ?_) (fun c => ?_)
  · replace h := h.1 c
    refine g_iconst (pc' := 12) d_161_11 rfl rfl ?_
    exact g_iret d_161_12 rt_161 h
  · replace h := h.2 c
    refine g_iloadn (pc' := 5) d_161_4 rfl rfl ?_
    refine g_sipush (pc' := 8) (v := jI 252) d_161_5 rfl (by decide) ?_
    refine gz_ic_lt (pc' := 11) (pt := 13) d_161_8 (by decide) rfl hc1 (s32 (z := 252)) (fun c => ?_) (fun c => ?_)
    · replace h := h.1 c
      refine g_aloadn (pc' := 14) d_161_13 rfl rfl ?_
      refine gz_getR (pc' := 17) d_161_14 rfl st_161_9 (kr_34_0 hC) ?_
      refine g_iloadn (pc' := 18) d_161_17 rfl rfl ?_
      refine g_bipush (pc' := 20) (v := jI 9) d_161_18 rfl (by decide) ?_
      obtain ⟨y2, hz3, h⟩ := h
      refine gz_idiv (pc' := 21) d_161_20 rfl hc1 (s32 (z := 9)) (by decide) hz3 ?_
      obtain ⟨hc4, h⟩ := h
      obtain ⟨x5, hv6, h⟩ := h
      refine gz_lald (pc' := 22) d_161_21 rfl hc4 hv6 ?_
      refine g_lstoren (pc' := 23) (l' := [some (.ref 34), some (.int (jI z1)), some (.long (jL x5)), none, none]) d_161_22 rfl ml_161 rfl rfl ?_
      refine g_iconst (pc' := 24) d_161_23 rfl rfl ?_
      refine g_istore (pc' := 26) (l' := [some (.ref 34), some (.int (jI z1)), some (.long (jL x5)), none, some (.int (jI 0))]) d_161_24 rfl ml_161 rfl rfl ?_
      exact h
    · replace h := h.2 c
      refine g_iconst (pc' := 12) d_161_11 rfl rfl ?_
      exact g_iret d_161_12 rt_161 h
theorem Z_161 {z1 : Int} {w : xW} {r : Option Value × xW} (hC : CS w) (h : in32 z1 ∧ (z1 < 0 → r = (some (.int (jI 0)), w)) ∧ (0 ≤ z1 → (z1 < 252 → ∃ y2, Int.tdiv z1 9 = y2 ∧ 0 ≤ y2 ∧ ∃ x5, rL w 35 (y2).toNat x5 ∧ xGo 161 26 [some (.ref 34), some (.int (jI z1)), some (.long (jL x5)), none, some (.int (jI 0))] [] w r) ∧ (252 ≤ z1 → r = (some (.int (jI 0)), w)))) : xCall 161 [.ref 34, .int (jI z1)] w r := E_161 (Z_161_0 hC h)
theorem Z_161_26 {z1 : Int} {z2 : Int} {z4 : Int} {w : xW} {r : Option Value × xW} (hC : CS w) (h : in32 z1 ∧ ∃ y2, Int.tmod z1 9 = y2 ∧ in32 z4 ∧ in32 y2 ∧ (y2 ≤ z4 → in64 z2 ∧ ∃ y7, Int.tmod z2 10 = y7 ∧ r = (some (.int (jI y7)), w)) ∧ (z4 < y2 → in64 z2 ∧ ∃ y10, Int.tdiv z2 10 = y10 ∧ xGo 161 26 [some (.ref 34), some (.int (jI z1)), some (.long (jL y10)), none, some (.int (jI (z4 + 1)))] [] w r)) : xGo 161 26 [some (.ref 34), some (.int (jI z1)), some (.long (jL z2)), none, some (.int (jI z4))] [] w r := by
  refine g_iload (pc' := 28) d_161_26 rfl rfl ?_
  refine g_iloadn (pc' := 29) d_161_28 rfl rfl ?_
  refine g_bipush (pc' := 31) (v := jI 9) d_161_29 rfl (by decide) ?_
  obtain ⟨hc1, h⟩ := h
  obtain ⟨y2, hz3, h⟩ := h
  refine gz_irem (pc' := 32) d_161_31 rfl hc1 (s32 (z := 9)) (by decide) hz3 ?_
  obtain ⟨hc4, h⟩ := h
  obtain ⟨hc5, h⟩ := h
  refine gz_ic_ge (pc' := 35) (pt := 47) d_161_32 (by decide) rfl hc4 hc5 (fun c => ?_) (fun c => ?_)
  · replace h := h.1 c
    refine g_lloadn (pc' := 48) d_161_47 rfl rfl ?_
    refine g_ldc2 (pc' := 51) d_161_48 rfl st_161_38 rfl ?_
    obtain ⟨hc6, h⟩ := h
    obtain ⟨y7, hz8, h⟩ := h
    refine gz_lrem (pc' := 52) d_161_51 rfl hc6 (s64 (z := 10)) (by decide) hz8 ?_
    refine gz_l2i (pc' := 53) d_161_52 rfl ?_
    exact g_iret d_161_53 rt_161 h
  · replace h := h.2 c
    refine g_lloadn (pc' := 36) d_161_35 rfl rfl ?_
    refine g_ldc2 (pc' := 39) d_161_36 rfl st_161_38 rfl ?_
    obtain ⟨hc9, h⟩ := h
    obtain ⟨y10, hz11, h⟩ := h
    refine gz_ldiv (pc' := 40) d_161_39 rfl hc9 (s64 (z := 10)) (by decide) hz11 ?_
    refine g_lstoren (pc' := 41) (l' := [some (.ref 34), some (.int (jI z1)), some (.long (jL y10)), none, some (.int (jI z4))]) d_161_40 rfl ml_161 rfl rfl ?_
    refine gz_iinc (pc' := 44) (l' := [some (.ref 34), some (.int (jI z1)), some (.long (jL y10)), none, some (.int (jI (z4 + 1)))]) d_161_41 rfl rfl ml_161 rfl rfl ?_
    refine g_goto (pt := 26) d_161_44 (by decide) ?_
    exact h
theorem Z_162_0  {w : xW} {r : Option Value × xW} (hC : CS w) (h : ∃ x1, fI w 34 10 1 x1 ∧ r = (some (.int (jI x1)), w)) : xGo 162 0 [some (.ref 34)] [] w r := by
  refine g_aloadn (pc' := 1) d_162_0 rfl rfl ?_
  obtain ⟨x1, hv2, h⟩ := h
  refine gz_getI (pc' := 4) d_162_1 rfl st_162_13 hv2 ?_
  exact g_iret d_162_4 rt_162 h
theorem Z_162  {w : xW} {r : Option Value × xW} (hC : CS w) (h : ∃ x1, fI w 34 10 1 x1 ∧ r = (some (.int (jI x1)), w)) : xCall 162 [.ref 34] w r := E_162 (Z_162_0 hC h)
theorem Z_163_0 {z1 : Int} {z2 : Int} {z3 : Int} {w : xW} {r : Option Value × xW} (hC : CS w) (h : ∃ (P4 : Prop) (dP5 : Decidable P4) (w1 : xW), xCall 152 [.int (jI z1), .int (jI z2)] w (some (.int (bz P4)), w1) ∧ CS w1 ∧ (¬ P4 → r = (some (.int (jI (-1))), w1)) ∧ (P4 → in32 z3 ∧ (0 ≤ z3 → ∃ w7, xCall 156 [.ref 0, .int (jI z1), .int (jI z2)] w1 (none, w7) ∧ CS w7 ∧ ∃ r13 w10, xCall 162 [.ref 34] w7 (some (.int (jI r13)), w10) ∧ CS w10 ∧ in32 r13 ∧ (z3 < r13 → ∃ r18 w15, xCall 164 [.ref 34, .int (jI z3)] w10 (some (.int (jI r18)), w15) ∧ CS w15 ∧ r = (some (.int (jI r18)), w15)) ∧ (r13 ≤ z3 → r = (some (.int (jI (-2))), w10))) ∧ (z3 < 0 → r = (some (.int (jI (-1))), w1)))) : xGo 163 0 [some (.ref 0), some (.int (jI z1)), some (.int (jI z2)), some (.int (jI z3))] [] w r := by
  refine g_iloadn (pc' := 1) d_163_0 rfl rfl ?_
  refine g_iloadn (pc' := 2) d_163_1 rfl rfl ?_
  obtain ⟨P4, dP5, w1, hk2, hC3, h⟩ := h
  refine g_callS (pc' := 5) d_163_2 rfl st_163_352 (Or.inl rfl) na_152 ml_152 rfl rfl rfl rm_163_152 rfl rfl hk2 ?_
  refine gz_bt_eq (pc' := 8) (pt := 12) d_163_5 (by decide) rfl (fun c => ?_) (fun c => ?_)
  · replace h := h.1 c
    refine g_iconst (pc' := 13) d_163_12 rfl rfl ?_
    exact g_iret d_163_13 rt_163 h
  · replace h := h.2 c
    refine g_iloadn (pc' := 9) d_163_8 rfl rfl ?_
    obtain ⟨hc6, h⟩ := h
    refine gz_if_ge (pc' := 12) (pt := 14) d_163_9 (by decide) rfl hc6 (fun c => ?_) (fun c => ?_)
    · replace h := h.1 c
      refine g_aloadn (pc' := 15) d_163_14 rfl rfl ?_
      refine g_iloadn (pc' := 16) d_163_15 rfl rfl ?_
      refine g_iloadn (pc' := 17) d_163_16 rfl rfl ?_
      obtain ⟨w7, hk8, hC9, h⟩ := h
      refine gz_callV (pc' := 20) d_163_17 rfl st_163_362 na_156 ml_156 rfl rfl rfl rm_163_156 rfl rfl ow_156 (ko_0 hC3) hk8 ?_
      refine g_iloadn (pc' := 21) d_163_20 rfl rfl ?_
      refine g_aloadn (pc' := 22) d_163_21 rfl rfl ?_
      refine gz_getR (pc' := 25) d_163_22 rfl st_163_88 (kr_0_12 hC9) ?_
      obtain ⟨r13, w10, hk11, hC12, h⟩ := h
      refine gz_callV (pc' := 28) d_163_25 rfl st_163_365 na_162 ml_162 rfl rfl rfl rm_163_162 rfl rfl ow_162 (ko_34 hC9) hk11 ?_
      obtain ⟨hc14, h⟩ := h
      refine gz_ic_lt (pc' := 31) (pt := 36) d_163_28 (by decide) rfl hc6 hc14 (fun c => ?_) (fun c => ?_)
      · replace h := h.1 c
        refine g_aloadn (pc' := 37) d_163_36 rfl rfl ?_
        refine gz_getR (pc' := 40) d_163_37 rfl st_163_88 (kr_0_12 hC12) ?_
        refine g_iloadn (pc' := 41) d_163_40 rfl rfl ?_
        obtain ⟨r18, w15, hk16, hC17, h⟩ := h
        refine gz_callV (pc' := 44) d_163_41 rfl st_163_366 na_164 ml_164 rfl rfl rfl rm_163_164 rfl rfl ow_164 (ko_34 hC12) hk16 ?_
        exact g_iret d_163_44 rt_163 h
      · replace h := h.2 c
        refine g_bipush (pc' := 33) (v := jI (-2)) d_163_31 rfl (by decide) ?_
        refine g_goto (pt := 44) d_163_33 (by decide) ?_
        exact g_iret d_163_44 rt_163 h
    · replace h := h.2 c
      refine g_iconst (pc' := 13) d_163_12 rfl rfl ?_
      exact g_iret d_163_13 rt_163 h
theorem Z_163 {z1 : Int} {z2 : Int} {z3 : Int} {w : xW} {r : Option Value × xW} (hC : CS w) (h : ∃ (P4 : Prop) (dP5 : Decidable P4) (w1 : xW), xCall 152 [.int (jI z1), .int (jI z2)] w (some (.int (bz P4)), w1) ∧ CS w1 ∧ (¬ P4 → r = (some (.int (jI (-1))), w1)) ∧ (P4 → in32 z3 ∧ (0 ≤ z3 → ∃ w7, xCall 156 [.ref 0, .int (jI z1), .int (jI z2)] w1 (none, w7) ∧ CS w7 ∧ ∃ r13 w10, xCall 162 [.ref 34] w7 (some (.int (jI r13)), w10) ∧ CS w10 ∧ in32 r13 ∧ (z3 < r13 → ∃ r18 w15, xCall 164 [.ref 34, .int (jI z3)] w10 (some (.int (jI r18)), w15) ∧ CS w15 ∧ r = (some (.int (jI r18)), w15)) ∧ (r13 ≤ z3 → r = (some (.int (jI (-2))), w10))) ∧ (z3 < 0 → r = (some (.int (jI (-1))), w1)))) : xCall 163 [.ref 0, .int (jI z1), .int (jI z2), .int (jI z3)] w r := E_163 (Z_163_0 hC h)
theorem Z_164_0 {z1 : Int} {w : xW} {r : Option Value × xW} (hC : CS w) (h : ∃ x1, fI w 34 10 1 x1 ∧ ∃ r6 w3, xCall 161 [.ref 34, .int (jI ((x1 - 1) - z1))] w (some (.int (jI r6)), w3) ∧ CS w3 ∧ r = (some (.int (jI r6)), w3)) : xGo 164 0 [some (.ref 34), some (.int (jI z1))] [] w r := by
  refine g_aloadn (pc' := 1) d_164_0 rfl rfl ?_
  refine g_aloadn (pc' := 2) d_164_1 rfl rfl ?_
  obtain ⟨x1, hv2, h⟩ := h
  refine gz_getI (pc' := 5) d_164_2 rfl st_164_13 hv2 ?_
  refine g_iconst (pc' := 6) d_164_5 rfl rfl ?_
  refine gz_isub (pc' := 7) d_164_6 rfl ?_
  refine g_iloadn (pc' := 8) d_164_7 rfl rfl ?_
  refine gz_isub (pc' := 9) d_164_8 rfl ?_
  obtain ⟨r6, w3, hk4, hC5, h⟩ := h
  refine gz_callV (pc' := 12) d_164_9 rfl st_164_34 na_161 ml_161 rfl rfl rfl rm_164_161 rfl rfl ow_161 (ko_34 hC) hk4 ?_
  exact g_iret d_164_12 rt_164 h
theorem Z_164 {z1 : Int} {w : xW} {r : Option Value × xW} (hC : CS w) (h : ∃ x1, fI w 34 10 1 x1 ∧ ∃ r6 w3, xCall 161 [.ref 34, .int (jI ((x1 - 1) - z1))] w (some (.int (jI r6)), w3) ∧ CS w3 ∧ r = (some (.int (jI r6)), w3)) : xCall 164 [.ref 34, .int (jI z1)] w r := E_164 (Z_164_0 hC h)
theorem Z_165_0 {z1 : Int} {z2 : Int} {z3 : Int} {z4 : Int} {w : xW} {r : Option Value × xW} (hC : CS w) (h : ∃ (P4 : Prop) (dP5 : Decidable P4) (w1 : xW), xCall 152 [.int (jI z1), .int (jI z4)] w (some (.int (bz P4)), w1) ∧ CS w1 ∧ (¬ P4 → r = (some (.int (jI (-1))), w1)) ∧ (P4 → in32 z2 ∧ (z2 < 0 → r = (some (.int (jI (-1))), w1)) ∧ (0 ≤ z2 → (1000 < z2 → r = (some (.int (jI (-1))), w1)) ∧ (z2 ≤ 1000 → in32 z3 ∧ (z3 < 1 → r = (some (.int (jI (-1))), w1)) ∧ (1 ≤ z3 → (z3 ≤ 1000 → ∃ x8, fI w1 0 0 7 x8 ∧ in32 z1 ∧ in32 x8 ∧ (z1 ≤ x8 → in32 z4 ∧ (z4 ≠ 0 → ∃ w13, xCall 153 [.ref 0, .int (jI z1)] w1 (none, w13) ∧ CS w13 ∧ ∃ r19 w16, xCall 50 [.long (jL z2), .int (jI z1), .long (jL 1000000007)] w13 (some (.long (jL r19)), w16) ∧ CS w16 ∧ in64 (r19 * z4) ∧ ∃ y21, Int.tmod (r19 * z4) 1000000007 = y21 ∧ xGo 165 79 [some (.ref 0), some (.int (jI z1)), some (.int (jI z2)), some (.int (jI z3)), some (.int (jI z4)), some (.long (jL y21)), none, some (.int (jI 1)), none, none] [] w16 r) ∧ (z4 = 0 → r = (some (.int (jI 0)), w1))) ∧ (x8 < z1 → r = (some (.int (jI (-2))), w1))) ∧ (1000 < z3 → r = (some (.int (jI (-1))), w1))))))) : xGo 165 0 [some (.ref 0), some (.int (jI z1)), some (.int (jI z2)), some (.int (jI z3)), some (.int (jI z4)), none, none, none, none, none] [] w r := by
  refine g_iloadn (pc' := 1) d_165_0 rfl rfl ?_
  refine g_iload (pc' := 3) d_165_1 rfl rfl ?_
  obtain ⟨P4, dP5, w1, hk2, hC3, h⟩ := h
  refine g_callS (pc' := 6) d_165_3 rfl st_165_352 (Or.inl rfl) na_152 ml_152 rfl rfl rfl rm_165_152 rfl rfl hk2 ?_
  refine gz_bt_eq (pc' := 9) (pt := 32) d_165_6 (by decide) rfl (fun c => ?_) (fun c => ?_)
  · replace h := h.1 c
    refine g_iconst (pc' := 33) d_165_32 rfl rfl ?_
    exact g_iret d_165_33 rt_165 h
  · replace h := h.2 c
    refine g_iloadn (pc' := 10) d_165_9 rfl rfl ?_
    obtain ⟨hc6, h⟩ := h
    refine gz_if_lt (pc' := 13) (pt := 32) d_165_10 (by decide) rfl hc6 (fun c => ?_) (fun c => ?_)
    · replace h := h.1 c
      refine g_iconst (pc' := 33) d_165_32 rfl rfl ?_
      exact g_iret d_165_33 rt_165 h
    · replace h := h.2 c
      refine g_iloadn (pc' := 14) d_165_13 rfl rfl ?_
      refine g_sipush (pc' := 17) (v := jI 1000) d_165_14 rfl (by decide) ?_
      refine gz_ic_gt (pc' := 20) (pt := 32) d_165_17 (by decide) rfl hc6 (s32 (z := 1000)) (fun c => ?_) (fun c => ?_)
      · replace h := h.1 c
        refine g_iconst (pc' := 33) d_165_32 rfl rfl ?_
        exact g_iret d_165_33 rt_165 h
      · replace h := h.2 c
        refine g_iloadn (pc' := 21) d_165_20 rfl rfl ?_
        refine g_iconst (pc' := 22) d_165_21 rfl rfl ?_
        obtain ⟨hc7, h⟩ := h
        refine gz_ic_lt (pc' := 25) (pt := 32) d_165_22 (by decide) rfl hc7 (s32 (z := 1)) (fun c => ?_) (fun c => ?_)
        · replace h := h.1 c
          refine g_iconst (pc' := 33) d_165_32 rfl rfl ?_
          exact g_iret d_165_33 rt_165 h
        · replace h := h.2 c
          refine g_iloadn (pc' := 26) d_165_25 rfl rfl ?_
          refine g_sipush (pc' := 29) (v := jI 1000) d_165_26 rfl (by decide) ?_
          refine gz_ic_le (pc' := 32) (pt := 34) d_165_29 (by decide) rfl hc7 (s32 (z := 1000)) (fun c => ?_) (fun c => ?_)
          · replace h := h.1 c
            refine g_iloadn (pc' := 35) d_165_34 rfl rfl ?_
            refine g_aloadn (pc' := 36) d_165_35 rfl rfl ?_
            obtain ⟨x8, hv9, h⟩ := h
            refine gz_getI (pc' := 39) d_165_36 rfl st_165_49 hv9 ?_
            obtain ⟨hc10, h⟩ := h
            obtain ⟨hc11, h⟩ := h
            refine gz_ic_le (pc' := 42) (pt := 45) d_165_39 (by decide) rfl hc10 hc11 (fun c => ?_) (fun c => ?_)
            · replace h := h.1 c
              refine g_iload (pc' := 47) d_165_45 rfl rfl ?_
              obtain ⟨hc12, h⟩ := h
              refine gz_if_ne (pc' := 50) (pt := 52) d_165_47 (by decide) rfl hc12 (fun c => ?_) (fun c => ?_)
              · replace h := h.1 c
                refine g_aloadn (pc' := 53) d_165_52 rfl rfl ?_
                refine g_iloadn (pc' := 54) d_165_53 rfl rfl ?_
                obtain ⟨w13, hk14, hC15, h⟩ := h
                refine gz_callV (pc' := 57) d_165_54 rfl st_165_355 na_153 ml_153 rfl rfl rfl rm_165_153 rfl rfl ow_153 (ko_0 hC3) hk14 ?_
                refine g_iloadn (pc' := 58) d_165_57 rfl rfl ?_
                refine gz_i2l (pc' := 59) d_165_58 rfl hc6 ?_
                refine g_iloadn (pc' := 60) d_165_59 rfl rfl ?_
                refine g_ldc2 (pc' := 63) d_165_60 rfl st_165_369 rfl ?_
                obtain ⟨r19, w16, hk17, hC18, h⟩ := h
                refine g_callS (pc' := 66) d_165_63 rfl st_165_302 (Or.inl rfl) na_50 ml_50 rfl rfl rfl rm_165_50 rfl rfl hk17 ?_
                refine g_iload (pc' := 68) d_165_66 rfl rfl ?_
                refine gz_i2l (pc' := 69) d_165_68 rfl hc12 ?_
                refine gz_lmul (pc' := 70) d_165_69 rfl ?_
                refine g_ldc2 (pc' := 73) d_165_70 rfl st_165_369 rfl ?_
                obtain ⟨hc20, h⟩ := h
                obtain ⟨y21, hz22, h⟩ := h
                refine gz_lrem (pc' := 74) d_165_73 rfl hc20 (s64 (z := 1000000007)) (by decide) hz22 ?_
                refine g_lstore (pc' := 76) (l' := [some (.ref 0), some (.int (jI z1)), some (.int (jI z2)), some (.int (jI z3)), some (.int (jI z4)), some (.long (jL y21)), none, none, none, none]) d_165_74 rfl ml_165 rfl rfl ?_
                refine g_iconst (pc' := 77) d_165_76 rfl rfl ?_
                refine g_istore (pc' := 79) (l' := [some (.ref 0), some (.int (jI z1)), some (.int (jI z2)), some (.int (jI z3)), some (.int (jI z4)), some (.long (jL y21)), none, some (.int (jI 1)), none, none]) d_165_77 rfl ml_165 rfl rfl ?_
                exact h
              · replace h := h.2 c
                refine g_iconst (pc' := 51) d_165_50 rfl rfl ?_
                exact g_iret d_165_51 rt_165 h
            · replace h := h.2 c
              refine g_bipush (pc' := 44) (v := jI (-2)) d_165_42 rfl (by decide) ?_
              exact g_iret d_165_44 rt_165 h
          · replace h := h.2 c
            refine g_iconst (pc' := 33) d_165_32 rfl rfl ?_
            exact g_iret d_165_33 rt_165 h
theorem Z_165 {z1 : Int} {z2 : Int} {z3 : Int} {z4 : Int} {w : xW} {r : Option Value × xW} (hC : CS w) (h : ∃ (P4 : Prop) (dP5 : Decidable P4) (w1 : xW), xCall 152 [.int (jI z1), .int (jI z4)] w (some (.int (bz P4)), w1) ∧ CS w1 ∧ (¬ P4 → r = (some (.int (jI (-1))), w1)) ∧ (P4 → in32 z2 ∧ (z2 < 0 → r = (some (.int (jI (-1))), w1)) ∧ (0 ≤ z2 → (1000 < z2 → r = (some (.int (jI (-1))), w1)) ∧ (z2 ≤ 1000 → in32 z3 ∧ (z3 < 1 → r = (some (.int (jI (-1))), w1)) ∧ (1 ≤ z3 → (z3 ≤ 1000 → ∃ x8, fI w1 0 0 7 x8 ∧ in32 z1 ∧ in32 x8 ∧ (z1 ≤ x8 → in32 z4 ∧ (z4 ≠ 0 → ∃ w13, xCall 153 [.ref 0, .int (jI z1)] w1 (none, w13) ∧ CS w13 ∧ ∃ r19 w16, xCall 50 [.long (jL z2), .int (jI z1), .long (jL 1000000007)] w13 (some (.long (jL r19)), w16) ∧ CS w16 ∧ in64 (r19 * z4) ∧ ∃ y21, Int.tmod (r19 * z4) 1000000007 = y21 ∧ xGo 165 79 [some (.ref 0), some (.int (jI z1)), some (.int (jI z2)), some (.int (jI z3)), some (.int (jI z4)), some (.long (jL y21)), none, some (.int (jI 1)), none, none] [] w16 r) ∧ (z4 = 0 → r = (some (.int (jI 0)), w1))) ∧ (x8 < z1 → r = (some (.int (jI (-2))), w1))) ∧ (1000 < z3 → r = (some (.int (jI (-1))), w1))))))) : xCall 165 [.ref 0, .int (jI z1), .int (jI z2), .int (jI z3), .int (jI z4)] w r := E_165 (Z_165_0 hC h)
theorem Z_165_79 {z1 : Int} {z2 : Int} {z3 : Int} {z4 : Int} {z5 : Int} {z7 : Int} {w : xW} {r : Option Value × xW} (hC : CS w) (h : in32 z7 ∧ in32 z1 ∧ (z1 < z7 → r = (some (.int (jI z5)), w)) ∧ (z7 ≤ z1 → ∃ r6 w3, xCall 39 [.ref 1, .int (jI z1), .int (jI z7)] w (some (.long (jL r6)), w3) ∧ CS w3 ∧ in32 z2 ∧ ∃ r11 w8, xCall 50 [.long (jL z2), .int (jI (z1 - z7)), .long (jL 1000000007)] w3 (some (.long (jL r11)), w8) ∧ CS w8 ∧ in64 (r6 * r11) ∧ ∃ y13, Int.tmod (r6 * r11) 1000000007 = y13 ∧ in32 z3 ∧ ∃ r19 w16, xCall 50 [.long (jL z3), .int (jI z7), .long (jL 1000000007)] w8 (some (.long (jL r19)), w16) ∧ CS w16 ∧ in64 (y13 * r19) ∧ ∃ y21, Int.tmod (y13 * r19) 1000000007 = y21 ∧ in32 (z4 - 1) ∧ ∃ r27 w24, xCall 154 [.ref 0, .int (jI z7), .long (jL (z4 - 1))] w16 (some (.long (jL r27)), w24) ∧ CS w24 ∧ in64 (z5 + (y21 * r27)) ∧ ∃ y29, Int.tmod (z5 + (y21 * r27)) 1000000007 = y29 ∧ xGo 165 79 [some (.ref 0), some (.int (jI z1)), some (.int (jI z2)), some (.int (jI z3)), some (.int (jI z4)), some (.long (jL y29)), none, some (.int (jI (z7 + 1))), none, none] [] w24 r)) : xGo 165 79 [some (.ref 0), some (.int (jI z1)), some (.int (jI z2)), some (.int (jI z3)), some (.int (jI z4)), some (.long (jL z5)), none, some (.int (jI z7)), none, none] [] w r := by
  refine g_iload (pc' := 81) d_165_79 rfl rfl ?_
  refine g_iloadn (pc' := 82) d_165_81 rfl rfl ?_
  obtain ⟨hc1, h⟩ := h
  obtain ⟨hc2, h⟩ := h
  refine gz_ic_gt (pc' := 85) (pt := 162) d_165_82 (by decide) rfl hc1 hc2 (fun c => ?_) (fun c => ?_)
  · replace h := h.1 c
    refine g_lload (pc' := 164) d_165_162 rfl rfl ?_
    refine gz_l2i (pc' := 165) d_165_164 rfl ?_
    exact g_iret d_165_165 rt_165 h
  · replace h := h.2 c
    refine g_aloadn (pc' := 86) d_165_85 rfl rfl ?_
    refine gz_getR (pc' := 89) d_165_86 rfl st_165_14 (kr_0_0 hC) ?_
    refine g_iloadn (pc' := 90) d_165_89 rfl rfl ?_
    refine g_iload (pc' := 92) d_165_90 rfl rfl ?_
    obtain ⟨r6, w3, hk4, hC5, h⟩ := h
    refine gz_callV (pc' := 95) d_165_92 rfl st_165_336 na_39 ml_39 rfl rfl rfl rm_165_39 rfl rfl ow_39 (ko_1 hC) hk4 ?_
    refine g_iloadn (pc' := 96) d_165_95 rfl rfl ?_
    obtain ⟨hc7, h⟩ := h
    refine gz_i2l (pc' := 97) d_165_96 rfl hc7 ?_
    refine g_iloadn (pc' := 98) d_165_97 rfl rfl ?_
    refine g_iload (pc' := 100) d_165_98 rfl rfl ?_
    refine gz_isub (pc' := 101) d_165_100 rfl ?_
    refine g_ldc2 (pc' := 104) d_165_101 rfl st_165_369 rfl ?_
    obtain ⟨r11, w8, hk9, hC10, h⟩ := h
    refine g_callS (pc' := 107) d_165_104 rfl st_165_302 (Or.inl rfl) na_50 ml_50 rfl rfl rfl rm_165_50 rfl rfl hk9 ?_
    refine gz_lmul (pc' := 108) d_165_107 rfl ?_
    refine g_ldc2 (pc' := 111) d_165_108 rfl st_165_369 rfl ?_
    obtain ⟨hc12, h⟩ := h
    obtain ⟨y13, hz14, h⟩ := h
    refine gz_lrem (pc' := 112) d_165_111 rfl hc12 (s64 (z := 1000000007)) (by decide) hz14 ?_
    refine g_lstore (pc' := 114) (l' := [some (.ref 0), some (.int (jI z1)), some (.int (jI z2)), some (.int (jI z3)), some (.int (jI z4)), some (.long (jL z5)), none, some (.int (jI z7)), some (.long (jL y13)), none]) d_165_112 rfl ml_165 rfl rfl ?_
    refine g_lload (pc' := 116) d_165_114 rfl rfl ?_
    refine g_iloadn (pc' := 117) d_165_116 rfl rfl ?_
    obtain ⟨hc15, h⟩ := h
    refine gz_i2l (pc' := 118) d_165_117 rfl hc15 ?_
    refine g_iload (pc' := 120) d_165_118 rfl rfl ?_
    refine g_ldc2 (pc' := 123) d_165_120 rfl st_165_369 rfl ?_
    obtain ⟨r19, w16, hk17, hC18, h⟩ := h
    refine g_callS (pc' := 126) d_165_123 rfl st_165_302 (Or.inl rfl) na_50 ml_50 rfl rfl rfl rm_165_50 rfl rfl hk17 ?_
    refine gz_lmul (pc' := 127) d_165_126 rfl ?_
    refine g_ldc2 (pc' := 130) d_165_127 rfl st_165_369 rfl ?_
    obtain ⟨hc20, h⟩ := h
    obtain ⟨y21, hz22, h⟩ := h
    refine gz_lrem (pc' := 131) d_165_130 rfl hc20 (s64 (z := 1000000007)) (by decide) hz22 ?_
    refine g_lstore (pc' := 133) (l' := [some (.ref 0), some (.int (jI z1)), some (.int (jI z2)), some (.int (jI z3)), some (.int (jI z4)), some (.long (jL z5)), none, some (.int (jI z7)), some (.long (jL y21)), none]) d_165_131 rfl ml_165 rfl rfl ?_
    refine g_lload (pc' := 135) d_165_133 rfl rfl ?_
    refine g_lload (pc' := 137) d_165_135 rfl rfl ?_
    refine g_aloadn (pc' := 138) d_165_137 rfl rfl ?_
    refine g_iload (pc' := 140) d_165_138 rfl rfl ?_
    refine g_iload (pc' := 142) d_165_140 rfl rfl ?_
    refine g_iconst (pc' := 143) d_165_142 rfl rfl ?_
    refine gz_isub (pc' := 144) d_165_143 rfl ?_
    obtain ⟨hc23, h⟩ := h
    refine gz_i2l (pc' := 145) d_165_144 rfl hc23 ?_
    obtain ⟨r27, w24, hk25, hC26, h⟩ := h
    refine gz_callV (pc' := 148) d_165_145 rfl st_165_358 na_154 ml_154 rfl rfl rfl rm_165_154 rfl rfl ow_154 (ko_0 hC18) hk25 ?_
    refine gz_lmul (pc' := 149) d_165_148 rfl ?_
    refine gz_ladd (pc' := 150) d_165_149 rfl ?_
    refine g_ldc2 (pc' := 153) d_165_150 rfl st_165_369 rfl ?_
    obtain ⟨hc28, h⟩ := h
    obtain ⟨y29, hz30, h⟩ := h
    refine gz_lrem (pc' := 154) d_165_153 rfl hc28 (s64 (z := 1000000007)) (by decide) hz30 ?_
    refine g_lstore (pc' := 156) (l' := [some (.ref 0), some (.int (jI z1)), some (.int (jI z2)), some (.int (jI z3)), some (.int (jI z4)), some (.long (jL y29)), none, some (.int (jI z7)), some (.long (jL y21)), none]) d_165_154 rfl ml_165 rfl rfl ?_
    refine gz_iinc (pc' := 159) (l' := [some (.ref 0), some (.int (jI z1)), some (.int (jI z2)), some (.int (jI z3)), some (.int (jI z4)), some (.long (jL y29)), none, some (.int (jI (z7 + 1))), some (.long (jL y21)), none]) d_165_156 rfl rfl ml_165 rfl rfl ?_
    refine g_goto (pt := 79) d_165_159 (by decide) ?_
    exact xGo.more (xle_s (xle_s (xle_s (xle_s (xle_s (xle_s (xle_n (xle_s (xle_n (xle_n xle_0)))))))))) h
theorem Z_166_0 {z1 : Int} {z2 : Int} {z3 : Int} {w : xW} {r : Option Value × xW} (hC : CS w) (h : in32 z1 ∧ (z1 < 1 → r = (some (.long (jL (-9223372036854775808))), w)) ∧ (1 ≤ z1 → (15 < z1 → r = (some (.long (jL (-9223372036854775808))), w)) ∧ (z1 ≤ 15 → ∃ y2, Int.tmod z1 2 = y2 ∧ in32 y2 ∧ (y2 = 0 → r = (some (.long (jL (-9223372036854775808))), w)) ∧ (y2 ≠ 0 → in32 z3 ∧ (z3 < 0 → r = (some (.long (jL (-9223372036854775808))), w)) ∧ (0 ≤ z3 → (z3 ≤ 1 → in32 z2 ∧ (z2 < 1 → r = (some (.long (jL (-9223372036854775808))), w)) ∧ (1 ≤ z2 → in32 (z1 + 1) ∧ ∃ y8, Int.tdiv (z1 + 1) 2 = y8 ∧ in32 y8 ∧ (z2 ≤ y8 → ∃ x11, fI w 0 0 7 x11 ∧ in32 x11 ∧ (z1 ≤ x11 → ∃ (P17 : Prop) (dP18 : Decidable P17) (w14 : xW), xCall 167 [.ref 0, .int (jI z1)] w (some (.int (bz P17)), w14) ∧ CS w14 ∧ (P17 → 0 ≤ z2 ∧ ∃ x20, rL w14 38 (z2).toNat x20 ∧ ∃ y22, jL x20 <<< ((jI z2).toInt64 &&& 63) = jL y22 ∧ ∃ w24, xCall 16 [.ref 36, .long (jL 0), .long (jL y22), .long (jL (30030 * (z1 + 1)))] w14 (none, w24) ∧ CS w24 ∧ (z3 ≠ 0 → ∃ x27, fJ w24 36 5 2 x27 ∧ r = (some (.long (jL x27)), w24)) ∧ (z3 = 0 → ∃ r32 w29, xCall 150 [.ref 36] w24 (some (.long (jL r32)), w29) ∧ CS w29 ∧ r = (some (.long (jL r32)), w29))) ∧ (¬ P17 → r = (some (.long (jL (-3))), w14))) ∧ (x11 < z1 → r = (some (.long (jL (-2))), w))) ∧ (y8 < z2 → r = (some (.long (jL (-9223372036854775808))), w)))) ∧ (1 < z3 → r = (some (.long (jL (-9223372036854775808))), w))))))) : xGo 166 0 [some (.ref 0), some (.int (jI z1)), some (.int (jI z2)), some (.int (jI z3))] [] w r := by
  refine g_iloadn (pc' := 1) d_166_0 rfl rfl ?_
  refine g_iconst (pc' := 2) d_166_1 rfl rfl ?_
  obtain ⟨hc1, h⟩ := h
  refine gz_ic_lt (pc' := 5) (pt := 26) d_166_2 (by decide) rfl hc1 (s32 (z := 1)) (fun c => ?_) (fun c => ?_)
  · replace h := h.1 c
    refine g_ldc2 (pc' := 29) d_166_26 rfl st_166_166 rfl ?_
    exact g_lret d_166_29 rt_166 h
  · replace h := h.2 c
    refine g_iloadn (pc' := 6) d_166_5 rfl rfl ?_
    refine g_bipush (pc' := 8) (v := jI 15) d_166_6 rfl (by decide) ?_
    refine gz_ic_gt (pc' := 11) (pt := 26) d_166_8 (by decide) rfl hc1 (s32 (z := 15)) (fun c => ?_) (fun c => ?_)
    · replace h := h.1 c
      refine g_ldc2 (pc' := 29) d_166_26 rfl st_166_166 rfl ?_
      exact g_lret d_166_29 rt_166 h
    · replace h := h.2 c
      refine g_iloadn (pc' := 12) d_166_11 rfl rfl ?_
      refine g_iconst (pc' := 13) d_166_12 rfl rfl ?_
      obtain ⟨y2, hz3, h⟩ := h
      refine gz_irem (pc' := 14) d_166_13 rfl hc1 (s32 (z := 2)) (by decide) hz3 ?_
      obtain ⟨hc4, h⟩ := h
      refine gz_if_eq (pc' := 17) (pt := 26) d_166_14 (by decide) rfl hc4 (fun c => ?_) (fun c => ?_)
      · replace h := h.1 c
        refine g_ldc2 (pc' := 29) d_166_26 rfl st_166_166 rfl ?_
        exact g_lret d_166_29 rt_166 h
      · replace h := h.2 c
        refine g_iloadn (pc' := 18) d_166_17 rfl rfl ?_
        obtain ⟨hc5, h⟩ := h
        refine gz_if_lt (pc' := 21) (pt := 26) d_166_18 (by decide) rfl hc5 (fun c => ?_) (fun c => ?_)
        · replace h := h.1 c
          refine g_ldc2 (pc' := 29) d_166_26 rfl st_166_166 rfl ?_
          exact g_lret d_166_29 rt_166 h
        · replace h := h.2 c
          refine g_iloadn (pc' := 22) d_166_21 rfl rfl ?_
          refine g_iconst (pc' := 23) d_166_22 rfl rfl ?_
          refine gz_ic_le (pc' := 26) (pt := 30) d_166_23 (by decide) rfl hc5 (s32 (z := 1)) (fun c => ?_) (fun c => ?_)
          · replace h := h.1 c
            refine g_iloadn (pc' := 31) d_166_30 rfl rfl ?_
            refine g_iconst (pc' := 32) d_166_31 rfl rfl ?_
            obtain ⟨hc6, h⟩ := h
            refine gz_ic_lt (pc' := 35) (pt := 44) d_166_32 (by decide) rfl hc6 (s32 (z := 1)) (fun c => ?_) (fun c => ?_)
            · replace h := h.1 c
              refine g_ldc2 (pc' := 47) d_166_44 rfl st_166_166 rfl ?_
              exact g_lret d_166_47 rt_166 h
            · replace h := h.2 c
              refine g_iloadn (pc' := 36) d_166_35 rfl rfl ?_
              refine g_iloadn (pc' := 37) d_166_36 rfl rfl ?_
              refine g_iconst (pc' := 38) d_166_37 rfl rfl ?_
              refine gz_iadd (pc' := 39) d_166_38 rfl ?_
              refine g_iconst (pc' := 40) d_166_39 rfl rfl ?_
              obtain ⟨hc7, h⟩ := h
              obtain ⟨y8, hz9, h⟩ := h
              refine gz_idiv (pc' := 41) d_166_40 rfl hc7 (s32 (z := 2)) (by decide) hz9 ?_
              obtain ⟨hc10, h⟩ := h
              refine gz_ic_le (pc' := 44) (pt := 48) d_166_41 (by decide) rfl hc6 hc10 (fun c => ?_) (fun c => ?_)
              · replace h := h.1 c
                refine g_iloadn (pc' := 49) d_166_48 rfl rfl ?_
                refine g_aloadn (pc' := 50) d_166_49 rfl rfl ?_
                obtain ⟨x11, hv12, h⟩ := h
                refine gz_getI (pc' := 53) d_166_50 rfl st_166_49 hv12 ?_
                obtain ⟨hc13, h⟩ := h
                refine gz_ic_le (pc' := 56) (pt := 60) d_166_53 (by decide) rfl hc1 hc13 (fun c => ?_) (fun c => ?_)
                · replace h := h.1 c
                  refine g_aloadn (pc' := 61) d_166_60 rfl rfl ?_
                  refine g_iloadn (pc' := 62) d_166_61 rfl rfl ?_
                  obtain ⟨P17, dP18, w14, hk15, hC16, h⟩ := h
                  refine gz_callV (pc' := 65) d_166_62 rfl st_166_371 na_167 ml_167 rfl rfl rfl rm_166_167 rfl rfl ow_167 (ko_0 hC) hk15 ?_
                  refine gz_bt_ne (pc' := 68) (pt := 72) d_166_65 (by decide) rfl (fun c => ?_) (fun c => ?_)
                  · replace h := h.1 c
                    refine g_aloadn (pc' := 73) d_166_72 rfl rfl ?_
                    refine gz_getR (pc' := 76) d_166_73 rfl st_166_95 (kr_0_13 hC16) ?_
                    refine g_lconst (pc' := 77) (v := jL 0) d_166_76 rfl cl_0 ?_
                    refine g_aloadn (pc' := 78) d_166_77 rfl rfl ?_
                    refine gz_getR (pc' := 81) d_166_78 rfl st_166_103 (kr_0_15 hC16) ?_
                    refine g_iloadn (pc' := 82) d_166_81 rfl rfl ?_
                    obtain ⟨hc19, h⟩ := h
                    obtain ⟨x20, hv21, h⟩ := h
                    refine gz_lald (pc' := 83) d_166_82 rfl hc19 hv21 ?_
                    refine g_iloadn (pc' := 84) d_166_83 rfl rfl ?_
                    obtain ⟨y22, hz23, h⟩ := h
                    refine gz_lshl (pc' := 85) d_166_84 rfl hz23 ?_
                    refine g_ldc2 (pc' := 88) d_166_85 rfl st_166_376 rfl ?_
                    refine g_iloadn (pc' := 89) d_166_88 rfl rfl ?_
                    refine g_iconst (pc' := 90) d_166_89 rfl rfl ?_
                    refine gz_iadd (pc' := 91) d_166_90 rfl ?_
                    refine gz_i2l (pc' := 92) d_166_91 rfl hc7 ?_
                    refine gz_lmul (pc' := 93) d_166_92 rfl ?_
                    obtain ⟨w24, hk25, hC26, h⟩ := h
                    refine gz_callV (pc' := 96) d_166_93 rfl st_166_327 na_16 ml_16 rfl rfl rfl rm_166_16 rfl rfl ow_16 (ko_36 hC16) hk25 ?_
                    refine g_iloadn (pc' := 97) d_166_96 rfl rfl ?_
                    refine gz_if_ne (pc' := 100) (pt := 110) d_166_97 (by decide) rfl hc5 (fun c => ?_) (fun c => ?_)
                    · replace h := h.1 c
                      refine g_aloadn (pc' := 111) d_166_110 rfl rfl ?_
                      refine gz_getR (pc' := 114) d_166_111 rfl st_166_95 (kr_0_13 hC26) ?_
                      obtain ⟨x27, hv28, h⟩ := h
                      refine gz_getJ (pc' := 117) d_166_114 rfl st_166_349 hv28 ?_
                      exact g_lret d_166_117 rt_166 h
                    · replace h := h.2 c
                      refine g_aloadn (pc' := 101) d_166_100 rfl rfl ?_
                      refine gz_getR (pc' := 104) d_166_101 rfl st_166_95 (kr_0_13 hC26) ?_
                      obtain ⟨r32, w29, hk30, hC31, h⟩ := h
                      refine gz_callV (pc' := 107) d_166_104 rfl st_166_345 na_150 ml_150 rfl rfl rfl rm_166_150 rfl rfl ow_150 (ko_36 hC26) hk30 ?_
                      refine g_goto (pt := 117) d_166_107 (by decide) ?_
                      exact g_lret d_166_117 rt_166 h
                  · replace h := h.2 c
                    refine g_ldc2 (pc' := 71) d_166_68 rfl st_166_374 rfl ?_
                    exact g_lret d_166_71 rt_166 h
                · replace h := h.2 c
                  refine g_ldc2 (pc' := 59) d_166_56 rfl st_166_331 rfl ?_
                  exact g_lret d_166_59 rt_166 h
              · replace h := h.2 c
                refine g_ldc2 (pc' := 47) d_166_44 rfl st_166_166 rfl ?_
                exact g_lret d_166_47 rt_166 h
          · replace h := h.2 c
            refine g_ldc2 (pc' := 29) d_166_26 rfl st_166_166 rfl ?_
            exact g_lret d_166_29 rt_166 h
theorem Z_166 {z1 : Int} {z2 : Int} {z3 : Int} {w : xW} {r : Option Value × xW} (hC : CS w) (h : in32 z1 ∧ (z1 < 1 → r = (some (.long (jL (-9223372036854775808))), w)) ∧ (1 ≤ z1 → (15 < z1 → r = (some (.long (jL (-9223372036854775808))), w)) ∧ (z1 ≤ 15 → ∃ y2, Int.tmod z1 2 = y2 ∧ in32 y2 ∧ (y2 = 0 → r = (some (.long (jL (-9223372036854775808))), w)) ∧ (y2 ≠ 0 → in32 z3 ∧ (z3 < 0 → r = (some (.long (jL (-9223372036854775808))), w)) ∧ (0 ≤ z3 → (z3 ≤ 1 → in32 z2 ∧ (z2 < 1 → r = (some (.long (jL (-9223372036854775808))), w)) ∧ (1 ≤ z2 → in32 (z1 + 1) ∧ ∃ y8, Int.tdiv (z1 + 1) 2 = y8 ∧ in32 y8 ∧ (z2 ≤ y8 → ∃ x11, fI w 0 0 7 x11 ∧ in32 x11 ∧ (z1 ≤ x11 → ∃ (P17 : Prop) (dP18 : Decidable P17) (w14 : xW), xCall 167 [.ref 0, .int (jI z1)] w (some (.int (bz P17)), w14) ∧ CS w14 ∧ (P17 → 0 ≤ z2 ∧ ∃ x20, rL w14 38 (z2).toNat x20 ∧ ∃ y22, jL x20 <<< ((jI z2).toInt64 &&& 63) = jL y22 ∧ ∃ w24, xCall 16 [.ref 36, .long (jL 0), .long (jL y22), .long (jL (30030 * (z1 + 1)))] w14 (none, w24) ∧ CS w24 ∧ (z3 ≠ 0 → ∃ x27, fJ w24 36 5 2 x27 ∧ r = (some (.long (jL x27)), w24)) ∧ (z3 = 0 → ∃ r32 w29, xCall 150 [.ref 36] w24 (some (.long (jL r32)), w29) ∧ CS w29 ∧ r = (some (.long (jL r32)), w29))) ∧ (¬ P17 → r = (some (.long (jL (-3))), w14))) ∧ (x11 < z1 → r = (some (.long (jL (-2))), w))) ∧ (y8 < z2 → r = (some (.long (jL (-9223372036854775808))), w)))) ∧ (1 < z3 → r = (some (.long (jL (-9223372036854775808))), w))))))) : xCall 166 [.ref 0, .int (jI z1), .int (jI z2), .int (jI z3)] w r := E_166 (Z_166_0 hC h)
theorem Z_167_0 {z1 : Int} {w : xW} {r : Option Value × xW} (hC : CS w) (h : in32 z1 ∧ (z1 < 1 → r = (some (.int (jI 0)), w)) ∧ (1 ≤ z1 → in32 (z1 + 1) ∧ (z1 + 1 < 40 → xGo 167 20 [some (.ref 0), some (.int (jI z1)), some (.int (jI 1)), none, none, none] [] w r) ∧ (40 ≤ z1 + 1 → r = (some (.int (jI 0)), w)))) : xGo 167 0 [some (.ref 0), some (.int (jI z1)), none, none, none, none] [] w r := by
  refine g_iloadn (pc' := 1) d_167_0 rfl rfl ?_
  refine g_iconst (pc' := 2) d_167_1 rfl rfl ?_
  obtain ⟨hc1, h⟩ := h
  refine gz_ic_lt (pc' := 5) (pt := 16) d_167_2 (by decide) rfl hc1 (s32 (z := 1)) (fun c => ?_) (fun c => ?_)
  · replace h := h.1 c
    refine g_iconst (pc' := 17) d_167_16 rfl rfl ?_
    exact g_zret d_167_17 rt_167 (Or.inl rfl) h
  · replace h := h.2 c
    refine g_iloadn (pc' := 6) d_167_5 rfl rfl ?_
    refine g_iconst (pc' := 7) d_167_6 rfl rfl ?_
    refine gz_iadd (pc' := 8) d_167_7 rfl ?_
    refine g_aloadn (pc' := 9) d_167_8 rfl rfl ?_
    refine gz_getR (pc' := 12) d_167_9 rfl st_167_99 (kr_0_14 hC) ?_
    refine gz_lenl (pc' := 13) (m := 40) d_167_12 rfl (kl_37 hC) rfl ?_
    obtain ⟨hc2, h⟩ := h
    refine gz_ic_lt (pc' := 16) (pt := 18) d_167_13 (by decide) rfl hc2 (s32 (z := 40)) (fun c => ?_) (fun c => ?_)
    · replace h := h.1 c
      refine g_iconst (pc' := 19) d_167_18 rfl rfl ?_
      refine g_istoren (pc' := 20) (l' := [some (.ref 0), some (.int (jI z1)), some (.int (jI 1)), none, none, none]) d_167_19 rfl ml_167 rfl rfl ?_
      exact h
    · replace h := h.2 c
      refine g_iconst (pc' := 17) d_167_16 rfl rfl ?_
      exact g_zret d_167_17 rt_167 (Or.inl rfl) h
theorem Z_167 {z1 : Int} {w : xW} {r : Option Value × xW} (hC : CS w) (h : in32 z1 ∧ (z1 < 1 → r = (some (.int (jI 0)), w)) ∧ (1 ≤ z1 → in32 (z1 + 1) ∧ (z1 + 1 < 40 → xGo 167 20 [some (.ref 0), some (.int (jI z1)), some (.int (jI 1)), none, none, none] [] w r) ∧ (40 ≤ z1 + 1 → r = (some (.int (jI 0)), w)))) : xCall 167 [.ref 0, .int (jI z1)] w r := E_167 (Z_167_0 hC h)
theorem Z_167_20 {z1 : Int} {z2 : Int} {w : xW} {r : Option Value × xW} (hC : CS w) (h : in32 z2 ∧ in32 (z1 + 1) ∧ (z1 + 1 < z2 → ∃ y3, Int.tdiv (z1 + 1) 2 = y3 ∧ xGo 167 88 [some (.ref 0), some (.int (jI z1)), some (.int (jI y3)), none, none, none] [] w r) ∧ (z2 ≤ z1 + 1 → ∃ r8 w5, xCall 146 [.ref 12, .int (jI ((z1 + 1) - z2)), .long (jL 30030)] w (some (.long (jL r8)), w5) ∧ CS w5 ∧ ∃ r12 w9, xCall 149 [.int (jI ((z1 + 1) - z2))] w5 (some (.int (jI r12)), w9) ∧ CS w9 ∧ in32 r12 ∧ ∃ r17 w14, xCall 39 [.ref 1, .int (jI (z1 + 1)), .int (jI z2)] w9 (some (.long (jL r17)), w14) ∧ CS w14 ∧ (0 ≤ z2 ∧ z2 < 40) ∧ ∀ w20, w20 = pL w14 37 (z2).toNat (jL (r17 * (r8 + (r12 * 30030)))) → CS w20 → xGo 167 20 [some (.ref 0), some (.int (jI z1)), some (.int (jI (z2 + 1))), none, none, none] [] w20 r)) : xGo 167 20 [some (.ref 0), some (.int (jI z1)), some (.int (jI z2)), none, none, none] [] w r := by
  refine g_iloadn (pc' := 21) d_167_20 rfl rfl ?_
  refine g_iloadn (pc' := 22) d_167_21 rfl rfl ?_
  refine g_iconst (pc' := 23) d_167_22 rfl rfl ?_
  refine gz_iadd (pc' := 24) d_167_23 rfl ?_
  obtain ⟨hc1, h⟩ := h
  obtain ⟨hc2, h⟩ := h
  refine gz_ic_gt (pc' := 27) (pt := 82) d_167_24 (by decide) rfl hc1 hc2 (fun c => ?_) (fun c => ?_)
  · replace h := h.1 c
    refine g_iloadn (pc' := 83) d_167_82 rfl rfl ?_
    refine g_iconst (pc' := 84) d_167_83 rfl rfl ?_
    refine gz_iadd (pc' := 85) d_167_84 rfl ?_
    refine g_iconst (pc' := 86) d_167_85 rfl rfl ?_
    obtain ⟨y3, hz4, h⟩ := h
    refine gz_idiv (pc' := 87) d_167_86 rfl hc2 (s32 (z := 2)) (by decide) hz4 ?_
    refine g_istoren (pc' := 88) (l' := [some (.ref 0), some (.int (jI z1)), some (.int (jI y3)), none, none, none]) d_167_87 rfl ml_167 rfl rfl ?_
    exact h
  · replace h := h.2 c
    refine g_iloadn (pc' := 28) d_167_27 rfl rfl ?_
    refine g_iconst (pc' := 29) d_167_28 rfl rfl ?_
    refine gz_iadd (pc' := 30) d_167_29 rfl ?_
    refine g_iloadn (pc' := 31) d_167_30 rfl rfl ?_
    refine gz_isub (pc' := 32) d_167_31 rfl ?_
    refine g_istoren (pc' := 33) (l' := [some (.ref 0), some (.int (jI z1)), some (.int (jI z2)), some (.int (jI ((z1 + 1) - z2))), none, none]) d_167_32 rfl ml_167 rfl rfl ?_
    refine g_aloadn (pc' := 34) d_167_33 rfl rfl ?_
    refine gz_getR (pc' := 37) d_167_34 rfl st_167_39 (kr_0_4 hC) ?_
    refine g_iloadn (pc' := 38) d_167_37 rfl rfl ?_
    refine g_ldc2 (pc' := 41) d_167_38 rfl st_167_376 rfl ?_
    obtain ⟨r8, w5, hk6, hC7, h⟩ := h
    refine gz_callV (pc' := 44) d_167_41 rfl st_167_461 na_146 ml_146 rfl rfl rfl rm_167_146 rfl rfl ow_146 (ko_12 hC) hk6 ?_
    refine g_iloadn (pc' := 45) d_167_44 rfl rfl ?_
    obtain ⟨r12, w9, hk10, hC11, h⟩ := h
    refine g_callS (pc' := 48) d_167_45 rfl st_167_333 (Or.inl rfl) na_149 ml_149 rfl rfl rfl rm_167_149 rfl rfl hk10 ?_
    obtain ⟨hc13, h⟩ := h
    refine gz_i2l (pc' := 49) d_167_48 rfl hc13 ?_
    refine g_ldc2 (pc' := 52) d_167_49 rfl st_167_376 rfl ?_
    refine gz_lmul (pc' := 53) d_167_52 rfl ?_
    refine gz_ladd (pc' := 54) d_167_53 rfl ?_
    refine g_lstore (pc' := 56) (l' := [some (.ref 0), some (.int (jI z1)), some (.int (jI z2)), some (.int (jI ((z1 + 1) - z2))), some (.long (jL (r8 + (r12 * 30030)))), none]) d_167_54 rfl ml_167 rfl rfl ?_
    refine g_aloadn (pc' := 57) d_167_56 rfl rfl ?_
    refine gz_getR (pc' := 60) d_167_57 rfl st_167_99 (kr_0_14 hC11) ?_
    refine g_iloadn (pc' := 61) d_167_60 rfl rfl ?_
    refine g_aloadn (pc' := 62) d_167_61 rfl rfl ?_
    refine gz_getR (pc' := 65) d_167_62 rfl st_167_14 (kr_0_0 hC11) ?_
    refine g_iloadn (pc' := 66) d_167_65 rfl rfl ?_
    refine g_iconst (pc' := 67) d_167_66 rfl rfl ?_
    refine gz_iadd (pc' := 68) d_167_67 rfl ?_
    refine g_iloadn (pc' := 69) d_167_68 rfl rfl ?_
    obtain ⟨r17, w14, hk15, hC16, h⟩ := h
    refine gz_callV (pc' := 72) d_167_69 rfl st_167_336 na_39 ml_39 rfl rfl rfl rm_167_39 rfl rfl ow_39 (ko_1 hC11) hk15 ?_
    refine g_lload (pc' := 74) d_167_72 rfl rfl ?_
    refine gz_lmul (pc' := 75) d_167_74 rfl ?_
    obtain ⟨hc18, h⟩ := h
    have hs19 := (kh_37 hC16 hc18)
    have hC21 : CS (pL w14 37 (z2).toNat (jL (r17 * (r8 + (r12 * 30030))))) := hC16.putL
    have h := h _ rfl hC21
    refine gz_last (pc' := 76) d_167_75 rfl hs19 ?_
    refine gz_iinc (pc' := 79) (l' := [some (.ref 0), some (.int (jI z1)), some (.int (jI (z2 + 1))), some (.int (jI ((z1 + 1) - z2))), some (.long (jL (r8 + (r12 * 30030)))), none]) d_167_76 rfl rfl ml_167 rfl rfl ?_
    refine g_goto (pt := 20) d_167_79 (by decide) ?_
    exact xGo.more (xle_s (xle_s (xle_s (xle_n (xle_n (xle_n xle_0)))))) h
theorem Z_167_88 {z1 : Int} {z2 : Int} {w : xW} {r : Option Value × xW} (hC : CS w) (h : in32 z2 ∧ (z2 < 1 → r = (some (.int (jI 1)), w)) ∧ (1 ≤ z2 → 0 ≤ 2 * z2 ∧ ∃ x3, rL w 37 (2 * z2).toNat x3 ∧ (0 ≤ z2 ∧ z2 < 40) ∧ ∀ w7, w7 = pL w 38 (z2).toNat (jL x3) → CS w7 → xGo 167 112 [some (.ref 0), some (.int (jI z1)), some (.int (jI z2)), some (.long (jL x3)), none, some (.int (jI 0))] [] w7 r)) : xGo 167 88 [some (.ref 0), some (.int (jI z1)), some (.int (jI z2)), none, none, none] [] w r := by
  refine g_iloadn (pc' := 89) d_167_88 rfl rfl ?_
  refine g_iconst (pc' := 90) d_167_89 rfl rfl ?_
  obtain ⟨hc1, h⟩ := h
  refine gz_ic_lt (pc' := 93) (pt := 171) d_167_90 (by decide) rfl hc1 (s32 (z := 1)) (fun c => ?_) (fun c => ?_)
  · replace h := h.1 c
    refine g_iconst (pc' := 172) d_167_171 rfl rfl ?_
    exact g_zret d_167_172 rt_167 (Or.inr rfl) h
  · replace h := h.2 c
    refine g_aloadn (pc' := 94) d_167_93 rfl rfl ?_
    refine gz_getR (pc' := 97) d_167_94 rfl st_167_99 (kr_0_14 hC) ?_
    refine g_iconst (pc' := 98) d_167_97 rfl rfl ?_
    refine g_iloadn (pc' := 99) d_167_98 rfl rfl ?_
    refine gz_imul (pc' := 100) d_167_99 rfl ?_
    obtain ⟨hc2, h⟩ := h
    obtain ⟨x3, hv4, h⟩ := h
    refine gz_lald (pc' := 101) d_167_100 rfl hc2 hv4 ?_
    refine g_lstoren (pc' := 102) (l' := [some (.ref 0), some (.int (jI z1)), some (.int (jI z2)), some (.long (jL x3)), none, none]) d_167_101 rfl ml_167 rfl rfl ?_
    refine g_aloadn (pc' := 103) d_167_102 rfl rfl ?_
    refine gz_getR (pc' := 106) d_167_103 rfl st_167_103 (kr_0_15 hC) ?_
    refine g_iloadn (pc' := 107) d_167_106 rfl rfl ?_
    refine g_lloadn (pc' := 108) d_167_107 rfl rfl ?_
    obtain ⟨hc5, h⟩ := h
    have hs6 := (kh_38 hC hc5)
    have hC8 : CS (pL w 38 (z2).toNat (jL x3)) := hC.putL
    have h := h _ rfl hC8
    refine gz_last (pc' := 109) d_167_108 rfl hs6 ?_
    refine g_iconst (pc' := 110) d_167_109 rfl rfl ?_
    refine g_istore (pc' := 112) (l' := [some (.ref 0), some (.int (jI z1)), some (.int (jI z2)), some (.long (jL x3)), none, some (.int (jI 0))]) d_167_110 rfl ml_167 rfl rfl ?_
    exact h
theorem Z_167_112 {z1 : Int} {z2 : Int} {z3 : Int} {z5 : Int} {w : xW} {r : Option Value × xW} (hC : CS w) (h : in32 z5 ∧ in32 z2 ∧ (z2 < z5 → 0 ≤ (2 * z2) - 1 ∧ ∃ x4, rL w 37 ((2 * z2) - 1).toNat x4 ∧ in64 x4 ∧ (x4 = 0 → xGo 167 88 [some (.ref 0), some (.int (jI z1)), some (.int (jI (z2 - 1))), none, none, none] [] w r) ∧ (x4 ≠ 0 → r = (some (.int (jI 0)), w))) ∧ (z5 ≤ z2 → 0 ≤ z2 + z5 ∧ ∃ x8, rL w 37 (z2 + z5).toNat x8 ∧ ∃ r13 w10, xCall 39 [.ref 1, .int (jI z2), .int (jI z5)] w (some (.long (jL r13)), w10) ∧ CS w10 ∧ (0 ≤ z2 + z5 ∧ z2 + z5 < 40) ∧ ∀ w16, w16 = pL w10 37 (z2 + z5).toNat (jL (x8 - (z3 * r13))) → CS w16 → xGo 167 112 [some (.ref 0), some (.int (jI z1)), some (.int (jI z2)), some (.long (jL z3)), none, some (.int (jI (z5 + 1)))] [] w16 r)) : xGo 167 112 [some (.ref 0), some (.int (jI z1)), some (.int (jI z2)), some (.long (jL z3)), none, some (.int (jI z5))] [] w r := by
  refine g_iload (pc' := 114) d_167_112 rfl rfl ?_
  refine g_iloadn (pc' := 115) d_167_114 rfl rfl ?_
  obtain ⟨hc1, h⟩ := h
  obtain ⟨hc2, h⟩ := h
  refine gz_ic_gt (pc' := 118) (pt := 148) d_167_115 (by decide) rfl hc1 hc2 (fun c => ?_) (fun c => ?_)
  · replace h := h.1 c
    refine g_aloadn (pc' := 149) d_167_148 rfl rfl ?_
    refine gz_getR (pc' := 152) d_167_149 rfl st_167_99 (kr_0_14 hC) ?_
    refine g_iconst (pc' := 153) d_167_152 rfl rfl ?_
    refine g_iloadn (pc' := 154) d_167_153 rfl rfl ?_
    refine gz_imul (pc' := 155) d_167_154 rfl ?_
    refine g_iconst (pc' := 156) d_167_155 rfl rfl ?_
    refine gz_isub (pc' := 157) d_167_156 rfl ?_
    obtain ⟨hc3, h⟩ := h
    obtain ⟨x4, hv5, h⟩ := h
    refine gz_lald (pc' := 158) d_167_157 rfl hc3 hv5 ?_
    refine g_lconst (pc' := 159) (v := jL 0) d_167_158 rfl cl_0 ?_
    obtain ⟨hc6, h⟩ := h
    refine gz_lc_eq (pc' := 163) (pm := 160) (pt := 165) d_167_159 rfl d_167_160 (by decide) rfl hc6 (s64 (z := 0)) (fun c => ?_) (fun c => ?_)
    · replace h := h.1 c
      refine gz_idec (pc' := 168) (c := 1) (l' := [some (.ref 0), some (.int (jI z1)), some (.int (jI (z2 - 1))), some (.long (jL z3)), none, some (.int (jI z5))]) d_167_165 rfl rfl ml_167 rfl rfl ?_
      refine g_goto (pt := 88) d_167_168 (by decide) ?_
      exact xGo.more (xle_s (xle_s (xle_s (xle_n (xle_n (xle_n xle_0)))))) h
    · replace h := h.2 c
      refine g_iconst (pc' := 164) d_167_163 rfl rfl ?_
      exact g_zret d_167_164 rt_167 (Or.inl rfl) h
  · replace h := h.2 c
    refine g_aloadn (pc' := 119) d_167_118 rfl rfl ?_
    refine gz_getR (pc' := 122) d_167_119 rfl st_167_99 (kr_0_14 hC) ?_
    refine g_iloadn (pc' := 123) d_167_122 rfl rfl ?_
    refine g_iload (pc' := 125) d_167_123 rfl rfl ?_
    refine gz_iadd (pc' := 126) d_167_125 rfl ?_
    refine g_dup2 (pc' := 127) d_167_126 rfl ⟨rfl, rfl⟩ ?_
    obtain ⟨hc7, h⟩ := h
    obtain ⟨x8, hv9, h⟩ := h
    refine gz_lald (pc' := 128) d_167_127 rfl hc7 hv9 ?_
    refine g_lloadn (pc' := 129) d_167_128 rfl rfl ?_
    refine g_aloadn (pc' := 130) d_167_129 rfl rfl ?_
    refine gz_getR (pc' := 133) d_167_130 rfl st_167_14 (kr_0_0 hC) ?_
    refine g_iloadn (pc' := 134) d_167_133 rfl rfl ?_
    refine g_iload (pc' := 136) d_167_134 rfl rfl ?_
    obtain ⟨r13, w10, hk11, hC12, h⟩ := h
    refine gz_callV (pc' := 139) d_167_136 rfl st_167_336 na_39 ml_39 rfl rfl rfl rm_167_39 rfl rfl ow_39 (ko_1 hC) hk11 ?_
    refine gz_lmul (pc' := 140) d_167_139 rfl ?_
    refine gz_lsub (pc' := 141) d_167_140 rfl ?_
    obtain ⟨hc14, h⟩ := h
    have hs15 := (kh_37 hC12 hc14)
    have hC17 : CS (pL w10 37 (z2 + z5).toNat (jL (x8 - (z3 * r13)))) := hC12.putL
    have h := h _ rfl hC17
    refine gz_last (pc' := 142) d_167_141 rfl hs15 ?_
    refine gz_iinc (pc' := 145) (l' := [some (.ref 0), some (.int (jI z1)), some (.int (jI z2)), some (.long (jL z3)), none, some (.int (jI (z5 + 1)))]) d_167_142 rfl rfl ml_167 rfl rfl ?_
    refine g_goto (pt := 112) d_167_145 (by decide) ?_
    exact h
theorem Z_168_0 {z1 : Int} {z2 : Int} {z3 : Int} {w : xW} {r : Option Value × xW} (hC : CS w) (h : ∃ (P4 : Prop) (dP5 : Decidable P4) (w1 : xW), xCall 24 [.int (jI z1)] w (some (.int (bz P4)), w1) ∧ CS w1 ∧ (¬ P4 → r = (some (.long (jL (-9223372036854775808))), w1)) ∧ (P4 → in32 z2 ∧ (z2 < 0 → r = (some (.long (jL (-9223372036854775808))), w1)) ∧ (0 ≤ z2 → in32 z1 ∧ (z1 < z2 → r = (some (.long (jL (-9223372036854775808))), w1)) ∧ (z2 ≤ z1 → ∃ (P11 : Prop) (dP12 : Decidable P11) (w8 : xW), xCall 116 [.int (jI z3)] w1 (some (.int (bz P11)), w8) ∧ CS w8 ∧ (¬ P11 → r = (some (.long (jL (-9223372036854775808))), w8)) ∧ (P11 → ∃ x13, fI w8 0 0 7 x13 ∧ in32 (z1 - z2) ∧ in32 x13 ∧ (z1 - z2 ≤ x13 → ∃ w17, xCall 100 [.ref 12, .int (jI (z1 - z2)), .ref 36] w8 (none, w17) ∧ CS w17 ∧ ∃ r23 w20, xCall 39 [.ref 1, .int (jI z1), .int (jI z2)] w17 (some (.long (jL r23)), w20) ∧ CS w20 ∧ ∃ w24, xCall 43 [.ref 36, .long (jL r23)] w20 (none, w24) ∧ CS w24 ∧ ∃ r30 w27, xCall 117 [.ref 36, .int (jI z3)] w24 (some (.long (jL r30)), w27) ∧ CS w27 ∧ r = (some (.long (jL r30)), w27)) ∧ (x13 < z1 - z2 → r = (some (.long (jL (-9223372036854775808))), w8))))))) : xGo 168 0 [some (.ref 0), some (.int (jI z1)), some (.int (jI z2)), some (.int (jI z3))] [] w r := by
  refine g_iloadn (pc' := 1) d_168_0 rfl rfl ?_
  obtain ⟨P4, dP5, w1, hk2, hC3, h⟩ := h
  refine g_callS (pc' := 4) d_168_1 rfl st_168_120 (Or.inl rfl) na_24 ml_24 rfl rfl rfl rm_168_24 rfl rfl hk2 ?_
  refine gz_bt_eq (pc' := 7) (pt := 33) d_168_4 (by decide) rfl (fun c => ?_) (fun c => ?_)
  · replace h := h.1 c
    refine g_ldc2 (pc' := 36) d_168_33 rfl st_168_166 rfl ?_
    exact g_lret d_168_36 rt_168 h
  · replace h := h.2 c
    refine g_iloadn (pc' := 8) d_168_7 rfl rfl ?_
    obtain ⟨hc6, h⟩ := h
    refine gz_if_lt (pc' := 11) (pt := 33) d_168_8 (by decide) rfl hc6 (fun c => ?_) (fun c => ?_)
    · replace h := h.1 c
      refine g_ldc2 (pc' := 36) d_168_33 rfl st_168_166 rfl ?_
      exact g_lret d_168_36 rt_168 h
    · replace h := h.2 c
      refine g_iloadn (pc' := 12) d_168_11 rfl rfl ?_
      refine g_iloadn (pc' := 13) d_168_12 rfl rfl ?_
      obtain ⟨hc7, h⟩ := h
      refine gz_ic_gt (pc' := 16) (pt := 33) d_168_13 (by decide) rfl hc6 hc7 (fun c => ?_) (fun c => ?_)
      · replace h := h.1 c
        refine g_ldc2 (pc' := 36) d_168_33 rfl st_168_166 rfl ?_
        exact g_lret d_168_36 rt_168 h
      · replace h := h.2 c
        refine g_iloadn (pc' := 17) d_168_16 rfl rfl ?_
        obtain ⟨P11, dP12, w8, hk9, hC10, h⟩ := h
        refine g_callS (pc' := 20) d_168_17 rfl st_168_153 (Or.inl rfl) na_116 ml_116 rfl rfl rfl rm_168_116 rfl rfl hk9 ?_
        refine gz_bt_eq (pc' := 23) (pt := 33) d_168_20 (by decide) rfl (fun c => ?_) (fun c => ?_)
        · replace h := h.1 c
          refine g_ldc2 (pc' := 36) d_168_33 rfl st_168_166 rfl ?_
          exact g_lret d_168_36 rt_168 h
        · replace h := h.2 c
          refine g_iloadn (pc' := 24) d_168_23 rfl rfl ?_
          refine g_iloadn (pc' := 25) d_168_24 rfl rfl ?_
          refine gz_isub (pc' := 26) d_168_25 rfl ?_
          refine g_aloadn (pc' := 27) d_168_26 rfl rfl ?_
          obtain ⟨x13, hv14, h⟩ := h
          refine gz_getI (pc' := 30) d_168_27 rfl st_168_49 hv14 ?_
          obtain ⟨hc15, h⟩ := h
          obtain ⟨hc16, h⟩ := h
          refine gz_ic_le (pc' := 33) (pt := 37) d_168_30 (by decide) rfl hc15 hc16 (fun c => ?_) (fun c => ?_)
          · replace h := h.1 c
            refine g_aloadn (pc' := 38) d_168_37 rfl rfl ?_
            refine gz_getR (pc' := 41) d_168_38 rfl st_168_39 (kr_0_4 hC10) ?_
            refine g_iloadn (pc' := 42) d_168_41 rfl rfl ?_
            refine g_iloadn (pc' := 43) d_168_42 rfl rfl ?_
            refine gz_isub (pc' := 44) d_168_43 rfl ?_
            refine g_aloadn (pc' := 45) d_168_44 rfl rfl ?_
            refine gz_getR (pc' := 48) d_168_45 rfl st_168_95 (kr_0_13 hC10) ?_
            obtain ⟨w17, hk18, hC19, h⟩ := h
            refine gz_callV (pc' := 51) d_168_48 rfl st_168_168 na_100 ml_100 rfl rfl rfl rm_168_100 rfl rfl ow_100 (ko_12 hC10) hk18 ?_
            refine g_aloadn (pc' := 52) d_168_51 rfl rfl ?_
            refine gz_getR (pc' := 55) d_168_52 rfl st_168_95 (kr_0_13 hC19) ?_
            refine g_aloadn (pc' := 56) d_168_55 rfl rfl ?_
            refine gz_getR (pc' := 59) d_168_56 rfl st_168_14 (kr_0_0 hC19) ?_
            refine g_iloadn (pc' := 60) d_168_59 rfl rfl ?_
            refine g_iloadn (pc' := 61) d_168_60 rfl rfl ?_
            obtain ⟨r23, w20, hk21, hC22, h⟩ := h
            refine gz_callV (pc' := 64) d_168_61 rfl st_168_336 na_39 ml_39 rfl rfl rfl rm_168_39 rfl rfl ow_39 (ko_1 hC19) hk21 ?_
            obtain ⟨w24, hk25, hC26, h⟩ := h
            refine gz_callV (pc' := 67) d_168_64 rfl st_168_339 na_43 ml_43 rfl rfl rfl rm_168_43 rfl rfl ow_43 (ko_36 hC22) hk25 ?_
            refine g_aloadn (pc' := 68) d_168_67 rfl rfl ?_
            refine gz_getR (pc' := 71) d_168_68 rfl st_168_95 (kr_0_13 hC26) ?_
            refine g_iloadn (pc' := 72) d_168_71 rfl rfl ?_
            obtain ⟨r30, w27, hk28, hC29, h⟩ := h
            refine gz_callV (pc' := 75) d_168_72 rfl st_168_171 na_117 ml_117 rfl rfl rfl rm_168_117 rfl rfl ow_117 (ko_36 hC26) hk28 ?_
            exact g_lret d_168_75 rt_168 h
          · replace h := h.2 c
            refine g_ldc2 (pc' := 36) d_168_33 rfl st_168_166 rfl ?_
            exact g_lret d_168_36 rt_168 h
theorem Z_168 {z1 : Int} {z2 : Int} {z3 : Int} {w : xW} {r : Option Value × xW} (hC : CS w) (h : ∃ (P4 : Prop) (dP5 : Decidable P4) (w1 : xW), xCall 24 [.int (jI z1)] w (some (.int (bz P4)), w1) ∧ CS w1 ∧ (¬ P4 → r = (some (.long (jL (-9223372036854775808))), w1)) ∧ (P4 → in32 z2 ∧ (z2 < 0 → r = (some (.long (jL (-9223372036854775808))), w1)) ∧ (0 ≤ z2 → in32 z1 ∧ (z1 < z2 → r = (some (.long (jL (-9223372036854775808))), w1)) ∧ (z2 ≤ z1 → ∃ (P11 : Prop) (dP12 : Decidable P11) (w8 : xW), xCall 116 [.int (jI z3)] w1 (some (.int (bz P11)), w8) ∧ CS w8 ∧ (¬ P11 → r = (some (.long (jL (-9223372036854775808))), w8)) ∧ (P11 → ∃ x13, fI w8 0 0 7 x13 ∧ in32 (z1 - z2) ∧ in32 x13 ∧ (z1 - z2 ≤ x13 → ∃ w17, xCall 100 [.ref 12, .int (jI (z1 - z2)), .ref 36] w8 (none, w17) ∧ CS w17 ∧ ∃ r23 w20, xCall 39 [.ref 1, .int (jI z1), .int (jI z2)] w17 (some (.long (jL r23)), w20) ∧ CS w20 ∧ ∃ w24, xCall 43 [.ref 36, .long (jL r23)] w20 (none, w24) ∧ CS w24 ∧ ∃ r30 w27, xCall 117 [.ref 36, .int (jI z3)] w24 (some (.long (jL r30)), w27) ∧ CS w27 ∧ r = (some (.long (jL r30)), w27)) ∧ (x13 < z1 - z2 → r = (some (.long (jL (-9223372036854775808))), w8))))))) : xCall 168 [.ref 0, .int (jI z1), .int (jI z2), .int (jI z3)] w r := E_168 (Z_168_0 hC h)
theorem Z_169_0 {z1 : Int} {z2 : Int} {z3 : Int} {z4 : Int} {w : xW} {r : Option Value × xW} (hC : CS w) (h : in32 z1 ∧ (z1 < 0 → r = (some (.long (jL (-9223372036854775808))), w)) ∧ (0 ≤ z1 → (10 < z1 → r = (some (.long (jL (-9223372036854775808))), w)) ∧ (z1 ≤ 10 → in32 z2 ∧ (z2 < (-9) → r = (some (.long (jL (-9223372036854775808))), w)) ∧ ((-9) ≤ z2 → (9 < z2 → r = (some (.long (jL (-9223372036854775808))), w)) ∧ (z2 ≤ 9 → in32 z3 ∧ (z3 < 1 → r = (some (.long (jL (-9223372036854775808))), w)) ∧ (1 ≤ z3 → (6 < z3 → r = (some (.long (jL (-9223372036854775808))), w)) ∧ (z3 ≤ 6 → ∃ (P7 : Prop) (dP8 : Decidable P7) (w4 : xW), xCall 116 [.int (jI z4)] w (some (.int (bz P7)), w4) ∧ CS w4 ∧ (¬ P7 → r = (some (.long (jL (-9223372036854775808))), w4)) ∧ (P7 → ∃ x9, fI w4 0 0 7 x9 ∧ in32 x9 ∧ (z1 ≤ x9 → xGo 169 61 [some (.ref 0), some (.int (jI z1)), some (.int (jI z2)), some (.int (jI z3)), some (.int (jI z4)), some (.long (jL 2310)), none, some (.int (jI 0))] [] w4 r) ∧ (x9 < z1 → r = (some (.long (jL (-9223372036854775808))), w4)))))))))) : xGo 169 0 [some (.ref 0), some (.int (jI z1)), some (.int (jI z2)), some (.int (jI z3)), some (.int (jI z4)), none, none, none] [] w r := by
  refine g_iloadn (pc' := 1) d_169_0 rfl rfl ?_
  obtain ⟨hc1, h⟩ := h
  refine gz_if_lt (pc' := 4) (pt := 49) d_169_1 (by decide) rfl hc1 (fun c => ?_) (fun c => ?_)
  · replace h := h.1 c
    refine g_ldc2 (pc' := 52) d_169_49 rfl st_169_166 rfl ?_
    exact g_lret d_169_52 rt_169 h
  · replace h := h.2 c
    refine g_iloadn (pc' := 5) d_169_4 rfl rfl ?_
    refine g_bipush (pc' := 7) (v := jI 10) d_169_5 rfl (by decide) ?_
    refine gz_ic_gt (pc' := 10) (pt := 49) d_169_7 (by decide) rfl hc1 (s32 (z := 10)) (fun c => ?_) (fun c => ?_)
    · replace h := h.1 c
      refine g_ldc2 (pc' := 52) d_169_49 rfl st_169_166 rfl ?_
      exact g_lret d_169_52 rt_169 h
    · replace h := h.2 c
      refine g_iloadn (pc' := 11) d_169_10 rfl rfl ?_
      refine g_bipush (pc' := 13) (v := jI (-9)) d_169_11 rfl (by decide) ?_
      obtain ⟨hc2, h⟩ := h
      refine gz_ic_lt (pc' := 16) (pt := 49) d_169_13 (by decide) rfl hc2 (s32 (z := (-9))) (fun c => ?_) (fun c => ?_)
      · replace h := h.1 c
        refine g_ldc2 (pc' := 52) d_169_49 rfl st_169_166 rfl ?_
        exact g_lret d_169_52 rt_169 h
      · replace h := h.2 c
        refine g_iloadn (pc' := 17) d_169_16 rfl rfl ?_
        refine g_bipush (pc' := 19) (v := jI 9) d_169_17 rfl (by decide) ?_
        refine gz_ic_gt (pc' := 22) (pt := 49) d_169_19 (by decide) rfl hc2 (s32 (z := 9)) (fun c => ?_) (fun c => ?_)
        · replace h := h.1 c
          refine g_ldc2 (pc' := 52) d_169_49 rfl st_169_166 rfl ?_
          exact g_lret d_169_52 rt_169 h
        · replace h := h.2 c
          refine g_iloadn (pc' := 23) d_169_22 rfl rfl ?_
          refine g_iconst (pc' := 24) d_169_23 rfl rfl ?_
          obtain ⟨hc3, h⟩ := h
          refine gz_ic_lt (pc' := 27) (pt := 49) d_169_24 (by decide) rfl hc3 (s32 (z := 1)) (fun c => ?_) (fun c => ?_)
          · replace h := h.1 c
            refine g_ldc2 (pc' := 52) d_169_49 rfl st_169_166 rfl ?_
            exact g_lret d_169_52 rt_169 h
          · replace h := h.2 c
            refine g_iloadn (pc' := 28) d_169_27 rfl rfl ?_
            refine g_bipush (pc' := 30) (v := jI 6) d_169_28 rfl (by decide) ?_
            refine gz_ic_gt (pc' := 33) (pt := 49) d_169_30 (by decide) rfl hc3 (s32 (z := 6)) (fun c => ?_) (fun c => ?_)
            · replace h := h.1 c
              refine g_ldc2 (pc' := 52) d_169_49 rfl st_169_166 rfl ?_
              exact g_lret d_169_52 rt_169 h
            · replace h := h.2 c
              refine g_iload (pc' := 35) d_169_33 rfl rfl ?_
              obtain ⟨P7, dP8, w4, hk5, hC6, h⟩ := h
              refine g_callS (pc' := 38) d_169_35 rfl st_169_153 (Or.inl rfl) na_116 ml_116 rfl rfl rfl rm_169_116 rfl rfl hk5 ?_
              refine gz_bt_eq (pc' := 41) (pt := 49) d_169_38 (by decide) rfl (fun c => ?_) (fun c => ?_)
              · replace h := h.1 c
                refine g_ldc2 (pc' := 52) d_169_49 rfl st_169_166 rfl ?_
                exact g_lret d_169_52 rt_169 h
              · replace h := h.2 c
                refine g_iloadn (pc' := 42) d_169_41 rfl rfl ?_
                refine g_aloadn (pc' := 43) d_169_42 rfl rfl ?_
                obtain ⟨x9, hv10, h⟩ := h
                refine gz_getI (pc' := 46) d_169_43 rfl st_169_49 hv10 ?_
                obtain ⟨hc11, h⟩ := h
                refine gz_ic_le (pc' := 49) (pt := 53) d_169_46 (by decide) rfl hc1 hc11 (fun c => ?_) (fun c => ?_)
                · replace h := h.1 c
                  refine g_ldc2 (pc' := 56) d_169_53 rfl st_169_378 rfl ?_
                  refine g_lstore (pc' := 58) (l' := [some (.ref 0), some (.int (jI z1)), some (.int (jI z2)), some (.int (jI z3)), some (.int (jI z4)), some (.long (jL 2310)), none, none]) d_169_56 rfl ml_169 rfl rfl ?_
                  refine g_iconst (pc' := 59) d_169_58 rfl rfl ?_
                  refine g_istore (pc' := 61) (l' := [some (.ref 0), some (.int (jI z1)), some (.int (jI z2)), some (.int (jI z3)), some (.int (jI z4)), some (.long (jL 2310)), none, some (.int (jI 0))]) d_169_59 rfl ml_169 rfl rfl ?_
                  exact h
                · replace h := h.2 c
                  refine g_ldc2 (pc' := 52) d_169_49 rfl st_169_166 rfl ?_
                  exact g_lret d_169_52 rt_169 h
theorem Z_169 {z1 : Int} {z2 : Int} {z3 : Int} {z4 : Int} {w : xW} {r : Option Value × xW} (hC : CS w) (h : in32 z1 ∧ (z1 < 0 → r = (some (.long (jL (-9223372036854775808))), w)) ∧ (0 ≤ z1 → (10 < z1 → r = (some (.long (jL (-9223372036854775808))), w)) ∧ (z1 ≤ 10 → in32 z2 ∧ (z2 < (-9) → r = (some (.long (jL (-9223372036854775808))), w)) ∧ ((-9) ≤ z2 → (9 < z2 → r = (some (.long (jL (-9223372036854775808))), w)) ∧ (z2 ≤ 9 → in32 z3 ∧ (z3 < 1 → r = (some (.long (jL (-9223372036854775808))), w)) ∧ (1 ≤ z3 → (6 < z3 → r = (some (.long (jL (-9223372036854775808))), w)) ∧ (z3 ≤ 6 → ∃ (P7 : Prop) (dP8 : Decidable P7) (w4 : xW), xCall 116 [.int (jI z4)] w (some (.int (bz P7)), w4) ∧ CS w4 ∧ (¬ P7 → r = (some (.long (jL (-9223372036854775808))), w4)) ∧ (P7 → ∃ x9, fI w4 0 0 7 x9 ∧ in32 x9 ∧ (z1 ≤ x9 → xGo 169 61 [some (.ref 0), some (.int (jI z1)), some (.int (jI z2)), some (.int (jI z3)), some (.int (jI z4)), some (.long (jL 2310)), none, some (.int (jI 0))] [] w4 r) ∧ (x9 < z1 → r = (some (.long (jL (-9223372036854775808))), w4)))))))))) : xCall 169 [.ref 0, .int (jI z1), .int (jI z2), .int (jI z3), .int (jI z4)] w r := E_169 (Z_169_0 hC h)
theorem Z_169_61 {z1 : Int} {z2 : Int} {z3 : Int} {z4 : Int} {z5 : Int} {z7 : Int} {w : xW} {r : Option Value × xW} (hC : CS w) (h : in32 z7 ∧ in32 z1 ∧ (z1 ≤ z7 → in32 z2 ∧ in32 z3 ∧ ∃ r8 w5, xCall 145 [.ref 0, .ref 12, .int (jI z1), .long (jL z2), .long (jL z3), .long (jL 2310)] w (some (.long (jL r8)), w5) ∧ CS w5 ∧ ∃ w9, xCall 16 [.ref 36, .long (jL 0), .long (jL r8), .long (jL z5)] w5 (none, w9) ∧ CS w9 ∧ ∃ r15 w12, xCall 117 [.ref 36, .int (jI z4)] w9 (some (.long (jL r15)), w12) ∧ CS w12 ∧ r = (some (.long (jL r15)), w12)) ∧ (z7 < z1 → in32 z3 ∧ xGo 169 61 [some (.ref 0), some (.int (jI z1)), some (.int (jI z2)), some (.int (jI z3)), some (.int (jI z4)), some (.long (jL (z5 * z3))), none, some (.int (jI (z7 + 1)))] [] w r)) : xGo 169 61 [some (.ref 0), some (.int (jI z1)), some (.int (jI z2)), some (.int (jI z3)), some (.int (jI z4)), some (.long (jL z5)), none, some (.int (jI z7))] [] w r := by
  refine g_iload (pc' := 63) d_169_61 rfl rfl ?_
  refine g_iloadn (pc' := 64) d_169_63 rfl rfl ?_
  obtain ⟨hc1, h⟩ := h
  obtain ⟨hc2, h⟩ := h
  refine gz_ic_ge (pc' := 67) (pt := 80) d_169_64 (by decide) rfl hc1 hc2 (fun c => ?_) (fun c => ?_)
  · replace h := h.1 c
    refine g_aloadn (pc' := 81) d_169_80 rfl rfl ?_
    refine gz_getR (pc' := 84) d_169_81 rfl st_169_95 (kr_0_13 hC) ?_
    refine g_lconst (pc' := 85) (v := jL 0) d_169_84 rfl cl_0 ?_
    refine g_aloadn (pc' := 86) d_169_85 rfl rfl ?_
    refine g_aloadn (pc' := 87) d_169_86 rfl rfl ?_
    refine gz_getR (pc' := 90) d_169_87 rfl st_169_39 (kr_0_4 hC) ?_
    refine g_iloadn (pc' := 91) d_169_90 rfl rfl ?_
    refine g_iloadn (pc' := 92) d_169_91 rfl rfl ?_
    obtain ⟨hc3, h⟩ := h
    refine gz_i2l (pc' := 93) d_169_92 rfl hc3 ?_
    refine g_iloadn (pc' := 94) d_169_93 rfl rfl ?_
    obtain ⟨hc4, h⟩ := h
    refine gz_i2l (pc' := 95) d_169_94 rfl hc4 ?_
    refine g_ldc2 (pc' := 98) d_169_95 rfl st_169_378 rfl ?_
    obtain ⟨r8, w5, hk6, hC7, h⟩ := h
    refine gz_callV (pc' := 101) d_169_98 rfl st_169_323 na_145 ml_145 rfl rfl rfl rm_169_145 rfl rfl ow_145 (ko_0 hC) hk6 ?_
    refine g_lload (pc' := 103) d_169_101 rfl rfl ?_
    obtain ⟨w9, hk10, hC11, h⟩ := h
    refine gz_callV (pc' := 106) d_169_103 rfl st_169_327 na_16 ml_16 rfl rfl rfl rm_169_16 rfl rfl ow_16 (ko_36 hC7) hk10 ?_
    refine g_aloadn (pc' := 107) d_169_106 rfl rfl ?_
    refine gz_getR (pc' := 110) d_169_107 rfl st_169_95 (kr_0_13 hC11) ?_
    refine g_iload (pc' := 112) d_169_110 rfl rfl ?_
    obtain ⟨r15, w12, hk13, hC14, h⟩ := h
    refine gz_callV (pc' := 115) d_169_112 rfl st_169_171 na_117 ml_117 rfl rfl rfl rm_169_117 rfl rfl ow_117 (ko_36 hC11) hk13 ?_
    exact g_lret d_169_115 rt_169 h
  · replace h := h.2 c
    refine g_lload (pc' := 69) d_169_67 rfl rfl ?_
    refine g_iloadn (pc' := 70) d_169_69 rfl rfl ?_
    obtain ⟨hc16, h⟩ := h
    refine gz_i2l (pc' := 71) d_169_70 rfl hc16 ?_
    refine gz_lmul (pc' := 72) d_169_71 rfl ?_
    refine g_lstore (pc' := 74) (l' := [some (.ref 0), some (.int (jI z1)), some (.int (jI z2)), some (.int (jI z3)), some (.int (jI z4)), some (.long (jL (z5 * z3))), none, some (.int (jI z7))]) d_169_72 rfl ml_169 rfl rfl ?_
    refine gz_iinc (pc' := 77) (l' := [some (.ref 0), some (.int (jI z1)), some (.int (jI z2)), some (.int (jI z3)), some (.int (jI z4)), some (.long (jL (z5 * z3))), none, some (.int (jI (z7 + 1)))]) d_169_74 rfl rfl ml_169 rfl rfl ?_
    refine g_goto (pt := 61) d_169_77 (by decide) ?_
    exact h
theorem Z_170_0 {z1 : Int} {z2 : Int} {z3 : Int} {w : xW} {r : Option Value × xW} (hC : CS w) (h : ∃ (P4 : Prop) (dP5 : Decidable P4) (w1 : xW), xCall 24 [.int (jI z1)] w (some (.int (bz P4)), w1) ∧ CS w1 ∧ (¬ P4 → r = (some (.int (jI (-1))), w1)) ∧ (P4 → ∃ (P9 : Prop) (dP10 : Decidable P9) (w6 : xW), xCall 84 [.int (jI z3)] w1 (some (.int (bz P9)), w6) ∧ CS w6 ∧ (¬ P9 → r = (some (.int (jI (-1))), w6)) ∧ (P9 → in32 z2 ∧ (z2 < 0 → r = (some (.int (jI (-1))), w6)) ∧ (0 ≤ z2 → in32 (z3 - 1) ∧ (z2 ≤ z3 - 1 → ∃ x13, fI w6 0 0 7 x13 ∧ in32 z1 ∧ in32 x13 ∧ (z1 ≤ x13 → ∃ (P20 : Prop) (dP21 : Decidable P20) (w17 : xW), xCall 171 [.ref 0, .int (jI z1), .int (jI z3)] w6 (some (.int (bz P20)), w17) ∧ CS w17 ∧ (¬ P20 → r = (some (.int (jI (-3))), w17)) ∧ (P20 → ∃ r25 w22, xCall 172 [.ref 0, .int (jI z1), .long (jL z2), .int (jI z3)] w17 (some (.long (jL r25)), w22) ∧ CS w22 ∧ r = (some (.int (jI r25)), w22))) ∧ (x13 < z1 → r = (some (.int (jI (-2))), w6))) ∧ (z3 - 1 < z2 → r = (some (.int (jI (-1))), w6)))))) : xGo 170 0 [some (.ref 0), some (.int (jI z1)), some (.int (jI z2)), some (.int (jI z3))] [] w r := by
  refine g_iloadn (pc' := 1) d_170_0 rfl rfl ?_
  obtain ⟨P4, dP5, w1, hk2, hC3, h⟩ := h
  refine g_callS (pc' := 4) d_170_1 rfl st_170_120 (Or.inl rfl) na_24 ml_24 rfl rfl rfl rm_170_24 rfl rfl hk2 ?_
  refine gz_bt_eq (pc' := 7) (pt := 25) d_170_4 (by decide) rfl (fun c => ?_) (fun c => ?_)
  · replace h := h.1 c
    refine g_iconst (pc' := 26) d_170_25 rfl rfl ?_
    exact g_iret d_170_26 rt_170 h
  · replace h := h.2 c
    refine g_iloadn (pc' := 8) d_170_7 rfl rfl ?_
    obtain ⟨P9, dP10, w6, hk7, hC8, h⟩ := h
    refine g_callS (pc' := 11) d_170_8 rfl st_170_222 (Or.inl rfl) na_84 ml_84 rfl rfl rfl rm_170_84 rfl rfl hk7 ?_
    refine gz_bt_eq (pc' := 14) (pt := 25) d_170_11 (by decide) rfl (fun c => ?_) (fun c => ?_)
    · replace h := h.1 c
      refine g_iconst (pc' := 26) d_170_25 rfl rfl ?_
      exact g_iret d_170_26 rt_170 h
    · replace h := h.2 c
      refine g_iloadn (pc' := 15) d_170_14 rfl rfl ?_
      obtain ⟨hc11, h⟩ := h
      refine gz_if_lt (pc' := 18) (pt := 25) d_170_15 (by decide) rfl hc11 (fun c => ?_) (fun c => ?_)
      · replace h := h.1 c
        refine g_iconst (pc' := 26) d_170_25 rfl rfl ?_
        exact g_iret d_170_26 rt_170 h
      · replace h := h.2 c
        refine g_iloadn (pc' := 19) d_170_18 rfl rfl ?_
        refine g_iloadn (pc' := 20) d_170_19 rfl rfl ?_
        refine g_iconst (pc' := 21) d_170_20 rfl rfl ?_
        refine gz_isub (pc' := 22) d_170_21 rfl ?_
        obtain ⟨hc12, h⟩ := h
        refine gz_ic_le (pc' := 25) (pt := 27) d_170_22 (by decide) rfl hc11 hc12 (fun c => ?_) (fun c => ?_)
        · replace h := h.1 c
          refine g_iloadn (pc' := 28) d_170_27 rfl rfl ?_
          refine g_aloadn (pc' := 29) d_170_28 rfl rfl ?_
          obtain ⟨x13, hv14, h⟩ := h
          refine gz_getI (pc' := 32) d_170_29 rfl st_170_49 hv14 ?_
          obtain ⟨hc15, h⟩ := h
          obtain ⟨hc16, h⟩ := h
          refine gz_ic_le (pc' := 35) (pt := 38) d_170_32 (by decide) rfl hc15 hc16 (fun c => ?_) (fun c => ?_)
          · replace h := h.1 c
            refine g_aloadn (pc' := 39) d_170_38 rfl rfl ?_
            refine g_iloadn (pc' := 40) d_170_39 rfl rfl ?_
            refine g_iloadn (pc' := 41) d_170_40 rfl rfl ?_
            obtain ⟨P20, dP21, w17, hk18, hC19, h⟩ := h
            refine gz_callV (pc' := 44) d_170_41 rfl st_170_380 na_171 ml_171 rfl rfl rfl rm_170_171 rfl rfl ow_171 (ko_0 hC8) hk18 ?_
            refine gz_bt_eq (pc' := 47) (pt := 59) d_170_44 (by decide) rfl (fun c => ?_) (fun c => ?_)
            · replace h := h.1 c
              refine g_bipush (pc' := 61) (v := jI (-3)) d_170_59 rfl (by decide) ?_
              exact g_iret d_170_61 rt_170 h
            · replace h := h.2 c
              refine g_aloadn (pc' := 48) d_170_47 rfl rfl ?_
              refine g_iloadn (pc' := 49) d_170_48 rfl rfl ?_
              refine g_iloadn (pc' := 50) d_170_49 rfl rfl ?_
              refine gz_i2l (pc' := 51) d_170_50 rfl hc11 ?_
              refine g_iloadn (pc' := 52) d_170_51 rfl rfl ?_
              obtain ⟨r25, w22, hk23, hC24, h⟩ := h
              refine gz_callV (pc' := 55) d_170_52 rfl st_170_383 na_172 ml_172 rfl rfl rfl rm_170_172 rfl rfl ow_172 (ko_0 hC19) hk23 ?_
              refine gz_l2i (pc' := 56) d_170_55 rfl ?_
              refine g_goto (pt := 61) d_170_56 (by decide) ?_
              exact g_iret d_170_61 rt_170 h
          · replace h := h.2 c
            refine g_bipush (pc' := 37) (v := jI (-2)) d_170_35 rfl (by decide) ?_
            exact g_iret d_170_37 rt_170 h
        · replace h := h.2 c
          refine g_iconst (pc' := 26) d_170_25 rfl rfl ?_
          exact g_iret d_170_26 rt_170 h
theorem Z_170 {z1 : Int} {z2 : Int} {z3 : Int} {w : xW} {r : Option Value × xW} (hC : CS w) (h : ∃ (P4 : Prop) (dP5 : Decidable P4) (w1 : xW), xCall 24 [.int (jI z1)] w (some (.int (bz P4)), w1) ∧ CS w1 ∧ (¬ P4 → r = (some (.int (jI (-1))), w1)) ∧ (P4 → ∃ (P9 : Prop) (dP10 : Decidable P9) (w6 : xW), xCall 84 [.int (jI z3)] w1 (some (.int (bz P9)), w6) ∧ CS w6 ∧ (¬ P9 → r = (some (.int (jI (-1))), w6)) ∧ (P9 → in32 z2 ∧ (z2 < 0 → r = (some (.int (jI (-1))), w6)) ∧ (0 ≤ z2 → in32 (z3 - 1) ∧ (z2 ≤ z3 - 1 → ∃ x13, fI w6 0 0 7 x13 ∧ in32 z1 ∧ in32 x13 ∧ (z1 ≤ x13 → ∃ (P20 : Prop) (dP21 : Decidable P20) (w17 : xW), xCall 171 [.ref 0, .int (jI z1), .int (jI z3)] w6 (some (.int (bz P20)), w17) ∧ CS w17 ∧ (¬ P20 → r = (some (.int (jI (-3))), w17)) ∧ (P20 → ∃ r25 w22, xCall 172 [.ref 0, .int (jI z1), .long (jL z2), .int (jI z3)] w17 (some (.long (jL r25)), w22) ∧ CS w22 ∧ r = (some (.int (jI r25)), w22))) ∧ (x13 < z1 → r = (some (.int (jI (-2))), w6))) ∧ (z3 - 1 < z2 → r = (some (.int (jI (-1))), w6)))))) : xCall 170 [.ref 0, .int (jI z1), .int (jI z2), .int (jI z3)] w r := E_170 (Z_170_0 hC h)
theorem Z_171_0 {z1 : Int} {z2 : Int} {w : xW} {r : Option Value × xW} (hC : CS w) (h : in32 z2 ∧ (3 ≤ z2 → xGo 171 9 [some (.ref 0), some (.int (jI z1)), some (.int (jI z2)), some (.int (jI 0))] [] w r) ∧ (z2 < 3 → r = (some (.int (jI 0)), w))) : xGo 171 0 [some (.ref 0), some (.int (jI z1)), some (.int (jI z2)), none] [] w r := by
  refine g_iloadn (pc' := 1) d_171_0 rfl rfl ?_
  refine g_iconst (pc' := 2) d_171_1 rfl rfl ?_
  obtain ⟨hc1, h⟩ := h
  refine gz_ic_ge (pc' := 5) (pt := 7) d_171_2 (by decide) rfl hc1 (s32 (z := 3)) (fun c => ?_) (fun c => ?_)
  · replace h := h.1 c
    refine g_iconst (pc' := 8) d_171_7 rfl rfl ?_
    refine g_istoren (pc' := 9) (l' := [some (.ref 0), some (.int (jI z1)), some (.int (jI z2)), some (.int (jI 0))]) d_171_8 rfl ml_171 rfl rfl ?_
    exact h
  · replace h := h.2 c
    refine g_iconst (pc' := 6) d_171_5 rfl rfl ?_
    exact g_zret d_171_6 rt_171 (Or.inl rfl) h
theorem Z_171 {z1 : Int} {z2 : Int} {w : xW} {r : Option Value × xW} (hC : CS w) (h : in32 z2 ∧ (3 ≤ z2 → xGo 171 9 [some (.ref 0), some (.int (jI z1)), some (.int (jI z2)), some (.int (jI 0))] [] w r) ∧ (z2 < 3 → r = (some (.int (jI 0)), w))) : xCall 171 [.ref 0, .int (jI z1), .int (jI z2)] w r := E_171 (Z_171_0 hC h)
theorem Z_171_9 {z1 : Int} {z2 : Int} {z3 : Int} {w : xW} {r : Option Value × xW} (hC : CS w) (h : in32 z3 ∧ in32 z1 ∧ (z1 < z3 → r = (some (.int (jI 1)), w)) ∧ (z3 ≤ z1 → (40 ≤ z3 → r = (some (.int (jI 1)), w)) ∧ (z3 < 40 → ∃ r6 w3, xCall 31 [.ref 12, .int (jI z3)] w (some (.long (jL r6)), w3) ∧ CS w3 ∧ in32 z2 ∧ in64 r6 ∧ z2 ≠ 0 ∧ ∃ y10, Int.tmod r6 z2 = y10 ∧ in64 y10 ∧ (y10 ≠ 0 → ∃ r16 w13, xCall 39 [.ref 1, .int (jI z1), .int (jI z3)] w3 (some (.long (jL r16)), w13) ∧ CS w13 ∧ in64 r16 ∧ z2 ≠ 0 ∧ ∃ y19, Int.tmod r16 z2 = y19 ∧ ∃ r24 w21, xCall 73 [.ref 12, .int (jI z3), .long (jL z2)] w13 (some (.long (jL r24)), w21) ∧ CS w21 ∧ in64 (y19 * r24) ∧ z2 ≠ 0 ∧ ∃ y27, Int.tmod (y19 * r24) z2 = y27 ∧ (0 ≤ z3 ∧ z3 < 40) ∧ ∀ w31, w31 = pL w21 37 (z3).toNat (jL y27) → CS w31 → xGo 171 9 [some (.ref 0), some (.int (jI z1)), some (.int (jI z2)), some (.int (jI (z3 + 1)))] [] w31 r) ∧ (y10 = 0 → r = (some (.int (jI 0)), w3))))) : xGo 171 9 [some (.ref 0), some (.int (jI z1)), some (.int (jI z2)), some (.int (jI z3))] [] w r := by
  refine g_iloadn (pc' := 10) d_171_9 rfl rfl ?_
  refine g_iloadn (pc' := 11) d_171_10 rfl rfl ?_
  obtain ⟨hc1, h⟩ := h
  obtain ⟨hc2, h⟩ := h
  refine gz_ic_gt (pc' := 14) (pt := 79) d_171_11 (by decide) rfl hc1 hc2 (fun c => ?_) (fun c => ?_)
  · replace h := h.1 c
    refine g_iconst (pc' := 80) d_171_79 rfl rfl ?_
    exact g_zret d_171_80 rt_171 (Or.inr rfl) h
  · replace h := h.2 c
    refine g_iloadn (pc' := 15) d_171_14 rfl rfl ?_
    refine g_aloadn (pc' := 16) d_171_15 rfl rfl ?_
    refine gz_getR (pc' := 19) d_171_16 rfl st_171_99 (kr_0_14 hC) ?_
    refine gz_lenl (pc' := 20) (m := 40) d_171_19 rfl (kl_37 hC) rfl ?_
    refine gz_ic_ge (pc' := 23) (pt := 79) d_171_20 (by decide) rfl hc1 (s32 (z := 40)) (fun c => ?_) (fun c => ?_)
    · replace h := h.1 c
      refine g_iconst (pc' := 80) d_171_79 rfl rfl ?_
      exact g_zret d_171_80 rt_171 (Or.inr rfl) h
    · replace h := h.2 c
      refine g_aloadn (pc' := 24) d_171_23 rfl rfl ?_
      refine gz_getR (pc' := 27) d_171_24 rfl st_171_39 (kr_0_4 hC) ?_
      refine g_iloadn (pc' := 28) d_171_27 rfl rfl ?_
      obtain ⟨r6, w3, hk4, hC5, h⟩ := h
      refine gz_callV (pc' := 31) d_171_28 rfl st_171_204 na_31 ml_31 rfl rfl rfl rm_171_31 rfl rfl ow_31 (ko_12 hC) hk4 ?_
      refine g_iloadn (pc' := 32) d_171_31 rfl rfl ?_
      obtain ⟨hc7, h⟩ := h
      refine gz_i2l (pc' := 33) d_171_32 rfl hc7 ?_
      obtain ⟨hc8, h⟩ := h
      obtain ⟨hc9, h⟩ := h
      obtain ⟨y10, hz11, h⟩ := h
      refine gz_lrem (pc' := 34) d_171_33 rfl hc8 (in3264 hc7) hc9 hz11 ?_
      refine g_lconst (pc' := 35) (v := jL 0) d_171_34 rfl cl_0 ?_
      obtain ⟨hc12, h⟩ := h
      refine gz_lc_ne (pc' := 39) (pm := 36) (pt := 41) d_171_35 rfl d_171_36 (by decide) rfl hc12 (s64 (z := 0)) (fun c => ?_) (fun c => ?_)
      · replace h := h.1 c
        refine g_aloadn (pc' := 42) d_171_41 rfl rfl ?_
        refine gz_getR (pc' := 45) d_171_42 rfl st_171_99 (kr_0_14 hC5) ?_
        refine g_iloadn (pc' := 46) d_171_45 rfl rfl ?_
        refine g_aloadn (pc' := 47) d_171_46 rfl rfl ?_
        refine gz_getR (pc' := 50) d_171_47 rfl st_171_14 (kr_0_0 hC5) ?_
        refine g_iloadn (pc' := 51) d_171_50 rfl rfl ?_
        refine g_iloadn (pc' := 52) d_171_51 rfl rfl ?_
        obtain ⟨r16, w13, hk14, hC15, h⟩ := h
        refine gz_callV (pc' := 55) d_171_52 rfl st_171_336 na_39 ml_39 rfl rfl rfl rm_171_39 rfl rfl ow_39 (ko_1 hC5) hk14 ?_
        refine g_iloadn (pc' := 56) d_171_55 rfl rfl ?_
        refine gz_i2l (pc' := 57) d_171_56 rfl hc7 ?_
        obtain ⟨hc17, h⟩ := h
        obtain ⟨hc18, h⟩ := h
        obtain ⟨y19, hz20, h⟩ := h
        refine gz_lrem (pc' := 58) d_171_57 rfl hc17 (in3264 hc7) hc18 hz20 ?_
        refine g_aloadn (pc' := 59) d_171_58 rfl rfl ?_
        refine gz_getR (pc' := 62) d_171_59 rfl st_171_39 (kr_0_4 hC15) ?_
        refine g_iloadn (pc' := 63) d_171_62 rfl rfl ?_
        refine g_iloadn (pc' := 64) d_171_63 rfl rfl ?_
        refine gz_i2l (pc' := 65) d_171_64 rfl hc7 ?_
        obtain ⟨r24, w21, hk22, hC23, h⟩ := h
        refine gz_callV (pc' := 68) d_171_65 rfl st_171_444 na_73 ml_73 rfl rfl rfl rm_171_73 rfl rfl ow_73 (ko_12 hC15) hk22 ?_
        refine gz_lmul (pc' := 69) d_171_68 rfl ?_
        refine g_iloadn (pc' := 70) d_171_69 rfl rfl ?_
        refine gz_i2l (pc' := 71) d_171_70 rfl hc7 ?_
        obtain ⟨hc25, h⟩ := h
        obtain ⟨hc26, h⟩ := h
        obtain ⟨y27, hz28, h⟩ := h
        refine gz_lrem (pc' := 72) d_171_71 rfl hc25 (in3264 hc7) hc26 hz28 ?_
        obtain ⟨hc29, h⟩ := h
        have hs30 := (kh_37 hC23 hc29)
        have hC32 : CS (pL w21 37 (z3).toNat (jL y27)) := hC23.putL
        have h := h _ rfl hC32
        refine gz_last (pc' := 73) d_171_72 rfl hs30 ?_
        refine gz_iinc (pc' := 76) (l' := [some (.ref 0), some (.int (jI z1)), some (.int (jI z2)), some (.int (jI (z3 + 1)))]) d_171_73 rfl rfl ml_171 rfl rfl ?_
        refine g_goto (pt := 9) d_171_76 (by decide) ?_
        exact h
      · replace h := h.2 c
        refine g_iconst (pc' := 40) d_171_39 rfl rfl ?_
        exact g_zret d_171_40 rt_171 (Or.inl rfl) h
theorem Z_172_0 {z1 : Int} {z2 : Int} {z4 : Int} {w : xW} {r : Option Value × xW} (hC : CS w) (h : in32 z4 ∧ (3 ≤ z4 → xGo 172 14 [some (.ref 0), some (.int (jI z1)), some (.long (jL z2)), none, some (.int (jI z4)), some (.long (jL 0)), none, some (.int (jI 0))] [] w r) ∧ (z4 < 3 → r = (some (.long (jL 0)), w))) : xGo 172 0 [some (.ref 0), some (.int (jI z1)), some (.long (jL z2)), none, some (.int (jI z4)), none, none, none] [] w r := by
  refine g_iload (pc' := 2) d_172_0 rfl rfl ?_
  refine g_iconst (pc' := 3) d_172_2 rfl rfl ?_
  obtain ⟨hc1, h⟩ := h
  refine gz_ic_ge (pc' := 6) (pt := 8) d_172_3 (by decide) rfl hc1 (s32 (z := 3)) (fun c => ?_) (fun c => ?_)
  · replace h := h.1 c
    refine g_lconst (pc' := 9) (v := jL 0) d_172_8 rfl cl_0 ?_
    refine g_lstore (pc' := 11) (l' := [some (.ref 0), some (.int (jI z1)), some (.long (jL z2)), none, some (.int (jI z4)), some (.long (jL 0)), none, none]) d_172_9 rfl ml_172 rfl rfl ?_
    refine g_iconst (pc' := 12) d_172_11 rfl rfl ?_
    refine g_istore (pc' := 14) (l' := [some (.ref 0), some (.int (jI z1)), some (.long (jL z2)), none, some (.int (jI z4)), some (.long (jL 0)), none, some (.int (jI 0))]) d_172_12 rfl ml_172 rfl rfl ?_
    exact h
  · replace h := h.2 c
    refine g_lconst (pc' := 7) (v := jL 0) d_172_6 rfl cl_0 ?_
    exact g_lret d_172_7 rt_172 h
theorem Z_172 {z1 : Int} {z2 : Int} {z4 : Int} {w : xW} {r : Option Value × xW} (hC : CS w) (h : in32 z4 ∧ (3 ≤ z4 → xGo 172 14 [some (.ref 0), some (.int (jI z1)), some (.long (jL z2)), none, some (.int (jI z4)), some (.long (jL 0)), none, some (.int (jI 0))] [] w r) ∧ (z4 < 3 → r = (some (.long (jL 0)), w))) : xCall 172 [.ref 0, .int (jI z1), .long (jL z2), .int (jI z4)] w r := E_172 (Z_172_0 hC h)
theorem Z_172_14 {z1 : Int} {z2 : Int} {z4 : Int} {z5 : Int} {z7 : Int} {w : xW} {r : Option Value × xW} (hC : CS w) (h : in32 z7 ∧ in32 z1 ∧ (z1 < z7 → r = (some (.long (jL z5)), w)) ∧ (z7 ≤ z1 → (40 ≤ z7 → r = (some (.long (jL z5)), w)) ∧ (z7 < 40 → 0 ≤ z7 ∧ ∃ x4, rL w 37 (z7).toNat x4 ∧ in32 z4 ∧ in64 ((z5 * z2) + x4) ∧ z4 ≠ 0 ∧ ∃ y9, Int.tmod ((z5 * z2) + x4) z4 = y9 ∧ xGo 172 14 [some (.ref 0), some (.int (jI z1)), some (.long (jL z2)), none, some (.int (jI z4)), some (.long (jL y9)), none, some (.int (jI (z7 + 1)))] [] w r))) : xGo 172 14 [some (.ref 0), some (.int (jI z1)), some (.long (jL z2)), none, some (.int (jI z4)), some (.long (jL z5)), none, some (.int (jI z7))] [] w r := by
  refine g_iload (pc' := 16) d_172_14 rfl rfl ?_
  refine g_iloadn (pc' := 17) d_172_16 rfl rfl ?_
  obtain ⟨hc1, h⟩ := h
  obtain ⟨hc2, h⟩ := h
  refine gz_ic_gt (pc' := 20) (pt := 54) d_172_17 (by decide) rfl hc1 hc2 (fun c => ?_) (fun c => ?_)
  · replace h := h.1 c
    refine g_lload (pc' := 56) d_172_54 rfl rfl ?_
    exact g_lret d_172_56 rt_172 h
  · replace h := h.2 c
    refine g_iload (pc' := 22) d_172_20 rfl rfl ?_
    refine g_aloadn (pc' := 23) d_172_22 rfl rfl ?_
    refine gz_getR (pc' := 26) d_172_23 rfl st_172_99 (kr_0_14 hC) ?_
    refine gz_lenl (pc' := 27) (m := 40) d_172_26 rfl (kl_37 hC) rfl ?_
    refine gz_ic_ge (pc' := 30) (pt := 54) d_172_27 (by decide) rfl hc1 (s32 (z := 40)) (fun c => ?_) (fun c => ?_)
    · replace h := h.1 c
      refine g_lload (pc' := 56) d_172_54 rfl rfl ?_
      exact g_lret d_172_56 rt_172 h
    · replace h := h.2 c
      refine g_lload (pc' := 32) d_172_30 rfl rfl ?_
      refine g_lloadn (pc' := 33) d_172_32 rfl rfl ?_
      refine gz_lmul (pc' := 34) d_172_33 rfl ?_
      refine g_aloadn (pc' := 35) d_172_34 rfl rfl ?_
      refine gz_getR (pc' := 38) d_172_35 rfl st_172_99 (kr_0_14 hC) ?_
      refine g_iload (pc' := 40) d_172_38 rfl rfl ?_
      obtain ⟨hc3, h⟩ := h
      obtain ⟨x4, hv5, h⟩ := h
      refine gz_lald (pc' := 41) d_172_40 rfl hc3 hv5 ?_
      refine gz_ladd (pc' := 42) d_172_41 rfl ?_
      refine g_iload (pc' := 44) d_172_42 rfl rfl ?_
      obtain ⟨hc6, h⟩ := h
      refine gz_i2l (pc' := 45) d_172_44 rfl hc6 ?_
      obtain ⟨hc7, h⟩ := h
      obtain ⟨hc8, h⟩ := h
      obtain ⟨y9, hz10, h⟩ := h
      refine gz_lrem (pc' := 46) d_172_45 rfl hc7 (in3264 hc6) hc8 hz10 ?_
      refine g_lstore (pc' := 48) (l' := [some (.ref 0), some (.int (jI z1)), some (.long (jL z2)), none, some (.int (jI z4)), some (.long (jL y9)), none, some (.int (jI z7))]) d_172_46 rfl ml_172 rfl rfl ?_
      refine gz_iinc (pc' := 51) (l' := [some (.ref 0), some (.int (jI z1)), some (.long (jL z2)), none, some (.int (jI z4)), some (.long (jL y9)), none, some (.int (jI (z7 + 1)))]) d_172_48 rfl rfl ml_172 rfl rfl ?_
      refine g_goto (pt := 14) d_172_51 (by decide) ?_
      exact h
theorem Z_173_0 {z1 : Int} {z2 : Int} {w : xW} {r : Option Value × xW} (hC : CS w) (h : ∃ (P4 : Prop) (dP5 : Decidable P4) (w1 : xW), xCall 24 [.int (jI z1)] w (some (.int (bz P4)), w1) ∧ CS w1 ∧ (¬ P4 → r = (some (.int (jI (-1))), w1)) ∧ (P4 → ∃ (P9 : Prop) (dP10 : Decidable P9) (w6 : xW), xCall 84 [.int (jI z2)] w1 (some (.int (bz P9)), w6) ∧ CS w6 ∧ (P9 → ∃ x11, fI w6 0 0 7 x11 ∧ in32 z1 ∧ in32 x11 ∧ (z1 ≤ x11 → ∃ (P18 : Prop) (dP19 : Decidable P18) (w15 : xW), xCall 171 [.ref 0, .int (jI z1), .int (jI z2)] w6 (some (.int (bz P18)), w15) ∧ CS w15 ∧ (P18 → xGo 173 44 [some (.ref 0), some (.int (jI z1)), some (.int (jI z2)), some (.int (jI 0)), some (.int (jI 0))] [] w15 r) ∧ (¬ P18 → r = (some (.int (jI (-3))), w15))) ∧ (x11 < z1 → r = (some (.int (jI (-2))), w6))) ∧ (¬ P9 → r = (some (.int (jI (-1))), w6)))) : xGo 173 0 [some (.ref 0), some (.int (jI z1)), some (.int (jI z2)), none, none] [] w r := by
  refine g_iloadn (pc' := 1) d_173_0 rfl rfl ?_
  obtain ⟨P4, dP5, w1, hk2, hC3, h⟩ := h
  refine g_callS (pc' := 4) d_173_1 rfl st_173_120 (Or.inl rfl) na_24 ml_24 rfl rfl rfl rm_173_24 rfl rfl hk2 ?_
  refine gz_bt_eq (pc' := 7) (pt := 14) d_173_4 (by decide) rfl (fun c => ?_) (fun c => ?_)
  · replace h := h.1 c
    refine g_iconst (pc' := 15) d_173_14 rfl rfl ?_
    exact g_iret d_173_15 rt_173 h
  · replace h := h.2 c
    refine g_iloadn (pc' := 8) d_173_7 rfl rfl ?_
    obtain ⟨P9, dP10, w6, hk7, hC8, h⟩ := h
    refine g_callS (pc' := 11) d_173_8 rfl st_173_222 (Or.inl rfl) na_84 ml_84 rfl rfl rfl rm_173_84 rfl rfl hk7 ?_
    refine gz_bt_ne (pc' := 14) (pt := 16) d_173_11 (by decide) rfl (fun c => ?_) (fun c => ?_)
    · replace h := h.1 c
      refine g_iloadn (pc' := 17) d_173_16 rfl rfl ?_
      refine g_aloadn (pc' := 18) d_173_17 rfl rfl ?_
      obtain ⟨x11, hv12, h⟩ := h
      refine gz_getI (pc' := 21) d_173_18 rfl st_173_49 hv12 ?_
      obtain ⟨hc13, h⟩ := h
      obtain ⟨hc14, h⟩ := h
      refine gz_ic_le (pc' := 24) (pt := 27) d_173_21 (by decide) rfl hc13 hc14 (fun c => ?_) (fun c => ?_)
      · replace h := h.1 c
        refine g_aloadn (pc' := 28) d_173_27 rfl rfl ?_
        refine g_iloadn (pc' := 29) d_173_28 rfl rfl ?_
        refine g_iloadn (pc' := 30) d_173_29 rfl rfl ?_
        obtain ⟨P18, dP19, w15, hk16, hC17, h⟩ := h
        refine gz_callV (pc' := 33) d_173_30 rfl st_173_380 na_171 ml_171 rfl rfl rfl rm_173_171 rfl rfl ow_171 (ko_0 hC8) hk16 ?_
        refine gz_bt_ne (pc' := 36) (pt := 39) d_173_33 (by decide) rfl (fun c => ?_) (fun c => ?_)
        · replace h := h.1 c
          refine g_iconst (pc' := 40) d_173_39 rfl rfl ?_
          refine g_istoren (pc' := 41) (l' := [some (.ref 0), some (.int (jI z1)), some (.int (jI z2)), some (.int (jI 0)), none]) d_173_40 rfl ml_173 rfl rfl ?_
          refine g_iconst (pc' := 42) d_173_41 rfl rfl ?_
          refine g_istore (pc' := 44) (l' := [some (.ref 0), some (.int (jI z1)), some (.int (jI z2)), some (.int (jI 0)), some (.int (jI 0))]) d_173_42 rfl ml_173 rfl rfl ?_
          exact h
        · replace h := h.2 c
          refine g_bipush (pc' := 38) (v := jI (-3)) d_173_36 rfl (by decide) ?_
          exact g_iret d_173_38 rt_173 h
      · replace h := h.2 c
        refine g_bipush (pc' := 26) (v := jI (-2)) d_173_24 rfl (by decide) ?_
        exact g_iret d_173_26 rt_173 h
    · replace h := h.2 c
      refine g_iconst (pc' := 15) d_173_14 rfl rfl ?_
      exact g_iret d_173_15 rt_173 h
theorem Z_173 {z1 : Int} {z2 : Int} {w : xW} {r : Option Value × xW} (hC : CS w) (h : ∃ (P4 : Prop) (dP5 : Decidable P4) (w1 : xW), xCall 24 [.int (jI z1)] w (some (.int (bz P4)), w1) ∧ CS w1 ∧ (¬ P4 → r = (some (.int (jI (-1))), w1)) ∧ (P4 → ∃ (P9 : Prop) (dP10 : Decidable P9) (w6 : xW), xCall 84 [.int (jI z2)] w1 (some (.int (bz P9)), w6) ∧ CS w6 ∧ (P9 → ∃ x11, fI w6 0 0 7 x11 ∧ in32 z1 ∧ in32 x11 ∧ (z1 ≤ x11 → ∃ (P18 : Prop) (dP19 : Decidable P18) (w15 : xW), xCall 171 [.ref 0, .int (jI z1), .int (jI z2)] w6 (some (.int (bz P18)), w15) ∧ CS w15 ∧ (P18 → xGo 173 44 [some (.ref 0), some (.int (jI z1)), some (.int (jI z2)), some (.int (jI 0)), some (.int (jI 0))] [] w15 r) ∧ (¬ P18 → r = (some (.int (jI (-3))), w15))) ∧ (x11 < z1 → r = (some (.int (jI (-2))), w6))) ∧ (¬ P9 → r = (some (.int (jI (-1))), w6)))) : xCall 173 [.ref 0, .int (jI z1), .int (jI z2)] w r := E_173 (Z_173_0 hC h)
theorem Z_173_44 {z1 : Int} {z2 : Int} {z3 : Int} {z4 : Int} {w : xW} {r : Option Value × xW} (hC : CS w) (h : in32 z4 ∧ in32 z2 ∧ (z2 ≤ z4 → r = (some (.int (jI z3)), w)) ∧ (z4 < z2 → ∃ r6 w3, xCall 172 [.ref 0, .int (jI z1), .long (jL z4), .int (jI z2)] w (some (.long (jL r6)), w3) ∧ CS w3 ∧ in64 r6 ∧ (r6 ≠ 0 → xGo 173 44 [some (.ref 0), some (.int (jI z1)), some (.int (jI z2)), some (.int (jI z3)), some (.int (jI (z4 + 1)))] [] w3 r) ∧ (r6 = 0 → xGo 173 44 [some (.ref 0), some (.int (jI z1)), some (.int (jI z2)), some (.int (jI (z3 + 1))), some (.int (jI (z4 + 1)))] [] w3 r))) : xGo 173 44 [some (.ref 0), some (.int (jI z1)), some (.int (jI z2)), some (.int (jI z3)), some (.int (jI z4))] [] w r := by
  refine g_iload (pc' := 46) d_173_44 rfl rfl ?_
  refine g_iloadn (pc' := 47) d_173_46 rfl rfl ?_
  obtain ⟨hc1, h⟩ := h
  obtain ⟨hc2, h⟩ := h
  refine gz_ic_ge (pc' := 50) (pt := 73) d_173_47 (by decide) rfl hc1 hc2 (fun c => ?_) (fun c => ?_)
  · replace h := h.1 c
    refine g_iloadn (pc' := 74) d_173_73 rfl rfl ?_
    exact g_iret d_173_74 rt_173 h
  · replace h := h.2 c
    refine g_aloadn (pc' := 51) d_173_50 rfl rfl ?_
    refine g_iloadn (pc' := 52) d_173_51 rfl rfl ?_
    refine g_iload (pc' := 54) d_173_52 rfl rfl ?_
    refine gz_i2l (pc' := 55) d_173_54 rfl hc1 ?_
    refine g_iloadn (pc' := 56) d_173_55 rfl rfl ?_
    obtain ⟨r6, w3, hk4, hC5, h⟩ := h
    refine gz_callV (pc' := 59) d_173_56 rfl st_173_383 na_172 ml_172 rfl rfl rfl rm_173_172 rfl rfl ow_172 (ko_0 hC) hk4 ?_
    refine g_lconst (pc' := 60) (v := jL 0) d_173_59 rfl cl_0 ?_
    obtain ⟨hc7, h⟩ := h
    refine gz_lc_ne (pc' := 64) (pm := 61) (pt := 67) d_173_60 rfl d_173_61 (by decide) rfl hc7 (s64 (z := 0)) (fun c => ?_) (fun c => ?_)
    · replace h := h.1 c
      refine gz_iinc (pc' := 70) (l' := [some (.ref 0), some (.int (jI z1)), some (.int (jI z2)), some (.int (jI z3)), some (.int (jI (z4 + 1)))]) d_173_67 rfl rfl ml_173 rfl rfl ?_
      refine g_goto (pt := 44) d_173_70 (by decide) ?_
      exact h
    · replace h := h.2 c
      refine gz_iinc (pc' := 67) (l' := [some (.ref 0), some (.int (jI z1)), some (.int (jI z2)), some (.int (jI (z3 + 1))), some (.int (jI z4))]) d_173_64 rfl rfl ml_173 rfl rfl ?_
      refine gz_iinc (pc' := 70) (l' := [some (.ref 0), some (.int (jI z1)), some (.int (jI z2)), some (.int (jI (z3 + 1))), some (.int (jI (z4 + 1)))]) d_173_67 rfl rfl ml_173 rfl rfl ?_
      refine g_goto (pt := 44) d_173_70 (by decide) ?_
      exact h
theorem Z_174_0 {z1 : Int} {z2 : Int} {w : xW} {r : Option Value × xW} (hC : CS w) (h : in32 z1 ∧ (z1 < 0 → r = (some (.long (jL (-9223372036854775808))), w)) ∧ (0 ≤ z1 → (38 ≤ z1 → r = (some (.long (jL (-9223372036854775808))), w)) ∧ (z1 < 38 → ∃ (P5 : Prop) (dP6 : Decidable P5) (w2 : xW), xCall 116 [.int (jI z2)] w (some (.int (bz P5)), w2) ∧ CS w2 ∧ (¬ P5 → r = (some (.long (jL (-9223372036854775808))), w2)) ∧ (P5 → ∃ x7, fI w2 0 0 7 x7 ∧ in32 (z1 + 1) ∧ in32 x7 ∧ (z1 + 1 ≤ x7 → ∃ w11, xCall 100 [.ref 12, .int (jI (z1 + 1)), .ref 36] w2 (none, w11) ∧ CS w11 ∧ (z1 ≤ 0 → ∃ r17 w14, xCall 117 [.ref 36, .int (jI z2)] w11 (some (.long (jL r17)), w14) ∧ CS w14 ∧ r = (some (.long (jL r17)), w14)) ∧ (0 < z1 → ∃ w18, xCall 43 [.ref 36, .long (jL (-1))] w11 (none, w18) ∧ CS w18 ∧ ∃ w21, xCall 44 [.ref 36, .long (jL (z1 + 1))] w18 (none, w21) ∧ CS w21 ∧ ∃ r27 w24, xCall 117 [.ref 36, .int (jI z2)] w21 (some (.long (jL r27)), w24) ∧ CS w24 ∧ r = (some (.long (jL r27)), w24))) ∧ (x7 < z1 + 1 → r = (some (.long (jL (-9223372036854775808))), w2)))))) : xGo 174 0 [some (.ref 0), some (.int (jI z1)), some (.int (jI z2))] [] w r := by
  refine g_iloadn (pc' := 1) d_174_0 rfl rfl ?_
  obtain ⟨hc1, h⟩ := h
  refine gz_if_lt (pc' := 4) (pt := 27) d_174_1 (by decide) rfl hc1 (fun c => ?_) (fun c => ?_)
  · replace h := h.1 c
    refine g_ldc2 (pc' := 30) d_174_27 rfl st_174_166 rfl ?_
    exact g_lret d_174_30 rt_174 h
  · replace h := h.2 c
    refine g_iloadn (pc' := 5) d_174_4 rfl rfl ?_
    refine g_bipush (pc' := 7) (v := jI 38) d_174_5 rfl (by decide) ?_
    refine gz_ic_ge (pc' := 10) (pt := 27) d_174_7 (by decide) rfl hc1 (s32 (z := 38)) (fun c => ?_) (fun c => ?_)
    · replace h := h.1 c
      refine g_ldc2 (pc' := 30) d_174_27 rfl st_174_166 rfl ?_
      exact g_lret d_174_30 rt_174 h
    · replace h := h.2 c
      refine g_iloadn (pc' := 11) d_174_10 rfl rfl ?_
      obtain ⟨P5, dP6, w2, hk3, hC4, h⟩ := h
      refine g_callS (pc' := 14) d_174_11 rfl st_174_153 (Or.inl rfl) na_116 ml_116 rfl rfl rfl rm_174_116 rfl rfl hk3 ?_
      refine gz_bt_eq (pc' := 17) (pt := 27) d_174_14 (by decide) rfl (fun c => ?_) (fun c => ?_)
      · replace h := h.1 c
        refine g_ldc2 (pc' := 30) d_174_27 rfl st_174_166 rfl ?_
        exact g_lret d_174_30 rt_174 h
      · replace h := h.2 c
        refine g_iloadn (pc' := 18) d_174_17 rfl rfl ?_
        refine g_iconst (pc' := 19) d_174_18 rfl rfl ?_
        refine gz_iadd (pc' := 20) d_174_19 rfl ?_
        refine g_aloadn (pc' := 21) d_174_20 rfl rfl ?_
        obtain ⟨x7, hv8, h⟩ := h
        refine gz_getI (pc' := 24) d_174_21 rfl st_174_49 hv8 ?_
        obtain ⟨hc9, h⟩ := h
        obtain ⟨hc10, h⟩ := h
        refine gz_ic_le (pc' := 27) (pt := 31) d_174_24 (by decide) rfl hc9 hc10 (fun c => ?_) (fun c => ?_)
        · replace h := h.1 c
          refine g_aloadn (pc' := 32) d_174_31 rfl rfl ?_
          refine gz_getR (pc' := 35) d_174_32 rfl st_174_39 (kr_0_4 hC4) ?_
          refine g_iloadn (pc' := 36) d_174_35 rfl rfl ?_
          refine g_iconst (pc' := 37) d_174_36 rfl rfl ?_
          refine gz_iadd (pc' := 38) d_174_37 rfl ?_
          refine g_aloadn (pc' := 39) d_174_38 rfl rfl ?_
          refine gz_getR (pc' := 42) d_174_39 rfl st_174_95 (kr_0_13 hC4) ?_
          obtain ⟨w11, hk12, hC13, h⟩ := h
          refine gz_callV (pc' := 45) d_174_42 rfl st_174_168 na_100 ml_100 rfl rfl rfl rm_174_100 rfl rfl ow_100 (ko_12 hC4) hk12 ?_
          refine g_iloadn (pc' := 46) d_174_45 rfl rfl ?_
          refine gz_if_le (pc' := 49) (pt := 70) d_174_46 (by decide) rfl hc1 (fun c => ?_) (fun c => ?_)
          · replace h := h.1 c
            refine g_aloadn (pc' := 71) d_174_70 rfl rfl ?_
            refine gz_getR (pc' := 74) d_174_71 rfl st_174_95 (kr_0_13 hC13) ?_
            refine g_iloadn (pc' := 75) d_174_74 rfl rfl ?_
            obtain ⟨r17, w14, hk15, hC16, h⟩ := h
            refine gz_callV (pc' := 78) d_174_75 rfl st_174_171 na_117 ml_117 rfl rfl rfl rm_174_117 rfl rfl ow_117 (ko_36 hC13) hk15 ?_
            exact g_lret d_174_78 rt_174 h
          · replace h := h.2 c
            refine g_aloadn (pc' := 50) d_174_49 rfl rfl ?_
            refine gz_getR (pc' := 53) d_174_50 rfl st_174_95 (kr_0_13 hC13) ?_
            refine g_ldc2 (pc' := 56) d_174_53 rfl st_174_387 rfl ?_
            obtain ⟨w18, hk19, hC20, h⟩ := h
            refine gz_callV (pc' := 59) d_174_56 rfl st_174_339 na_43 ml_43 rfl rfl rfl rm_174_43 rfl rfl ow_43 (ko_36 hC13) hk19 ?_
            refine g_aloadn (pc' := 60) d_174_59 rfl rfl ?_
            refine gz_getR (pc' := 63) d_174_60 rfl st_174_95 (kr_0_13 hC20) ?_
            refine g_iloadn (pc' := 64) d_174_63 rfl rfl ?_
            refine g_iconst (pc' := 65) d_174_64 rfl rfl ?_
            refine gz_iadd (pc' := 66) d_174_65 rfl ?_
            refine gz_i2l (pc' := 67) d_174_66 rfl hc9 ?_
            obtain ⟨w21, hk22, hC23, h⟩ := h
            refine gz_callV (pc' := 70) d_174_67 rfl st_174_342 na_44 ml_44 rfl rfl rfl rm_174_44 rfl rfl ow_44 (ko_36 hC20) hk22 ?_
            refine g_aloadn (pc' := 71) d_174_70 rfl rfl ?_
            refine gz_getR (pc' := 74) d_174_71 rfl st_174_95 (kr_0_13 hC23) ?_
            refine g_iloadn (pc' := 75) d_174_74 rfl rfl ?_
            obtain ⟨r27, w24, hk25, hC26, h⟩ := h
            refine gz_callV (pc' := 78) d_174_75 rfl st_174_171 na_117 ml_117 rfl rfl rfl rm_174_117 rfl rfl ow_117 (ko_36 hC23) hk25 ?_
            exact g_lret d_174_78 rt_174 h
        · replace h := h.2 c
          refine g_ldc2 (pc' := 30) d_174_27 rfl st_174_166 rfl ?_
          exact g_lret d_174_30 rt_174 h
theorem Z_174 {z1 : Int} {z2 : Int} {w : xW} {r : Option Value × xW} (hC : CS w) (h : in32 z1 ∧ (z1 < 0 → r = (some (.long (jL (-9223372036854775808))), w)) ∧ (0 ≤ z1 → (38 ≤ z1 → r = (some (.long (jL (-9223372036854775808))), w)) ∧ (z1 < 38 → ∃ (P5 : Prop) (dP6 : Decidable P5) (w2 : xW), xCall 116 [.int (jI z2)] w (some (.int (bz P5)), w2) ∧ CS w2 ∧ (¬ P5 → r = (some (.long (jL (-9223372036854775808))), w2)) ∧ (P5 → ∃ x7, fI w2 0 0 7 x7 ∧ in32 (z1 + 1) ∧ in32 x7 ∧ (z1 + 1 ≤ x7 → ∃ w11, xCall 100 [.ref 12, .int (jI (z1 + 1)), .ref 36] w2 (none, w11) ∧ CS w11 ∧ (z1 ≤ 0 → ∃ r17 w14, xCall 117 [.ref 36, .int (jI z2)] w11 (some (.long (jL r17)), w14) ∧ CS w14 ∧ r = (some (.long (jL r17)), w14)) ∧ (0 < z1 → ∃ w18, xCall 43 [.ref 36, .long (jL (-1))] w11 (none, w18) ∧ CS w18 ∧ ∃ w21, xCall 44 [.ref 36, .long (jL (z1 + 1))] w18 (none, w21) ∧ CS w21 ∧ ∃ r27 w24, xCall 117 [.ref 36, .int (jI z2)] w21 (some (.long (jL r27)), w24) ∧ CS w24 ∧ r = (some (.long (jL r27)), w24))) ∧ (x7 < z1 + 1 → r = (some (.long (jL (-9223372036854775808))), w2)))))) : xCall 174 [.ref 0, .int (jI z1), .int (jI z2)] w r := E_174 (Z_174_0 hC h)
theorem Z_175_0 {z1 : Int} {w : xW} {r : Option Value × xW} (hC : CS w) (h : in32 z1 ∧ (z1 < 0 → r = (some (.long (jL (-9223372036854775808))), w)) ∧ (0 ≤ z1 → (20 < z1 → r = (some (.long (jL (-9223372036854775808))), w)) ∧ (z1 ≤ 20 → ∃ x2, fI w 0 0 7 x2 ∧ in32 x2 ∧ (z1 ≤ x2 → ∃ w5, xCall 100 [.ref 12, .int (jI z1), .ref 36] w (none, w5) ∧ CS w5 ∧ ∃ y8, jL 1 <<< ((jI z1).toInt64 &&& 63) = jL y8 ∧ ∃ w10, xCall 43 [.ref 36, .long (jL (2 * (1 - y8)))] w5 (none, w10) ∧ CS w10 ∧ ∃ x13, fJ w10 36 5 1 x13 ∧ in64 x13 ∧ (x13 ≠ 0 → r = (some (.long (jL (-9223372036854775808))), w10)) ∧ (x13 = 0 → ∃ x16, fJ w10 36 5 0 x16 ∧ r = (some (.long (jL x16)), w10))) ∧ (x2 < z1 → r = (some (.long (jL (-9223372036854775808))), w))))) : xGo 175 0 [some (.ref 0), some (.int (jI z1))] [] w r := by
  refine g_iloadn (pc' := 1) d_175_0 rfl rfl ?_
  obtain ⟨hc1, h⟩ := h
  refine gz_if_lt (pc' := 4) (pt := 18) d_175_1 (by decide) rfl hc1 (fun c => ?_) (fun c => ?_)
  · replace h := h.1 c
    refine g_ldc2 (pc' := 21) d_175_18 rfl st_175_166 rfl ?_
    exact g_lret d_175_21 rt_175 h
  · replace h := h.2 c
    refine g_iloadn (pc' := 5) d_175_4 rfl rfl ?_
    refine g_bipush (pc' := 7) (v := jI 20) d_175_5 rfl (by decide) ?_
    refine gz_ic_gt (pc' := 10) (pt := 18) d_175_7 (by decide) rfl hc1 (s32 (z := 20)) (fun c => ?_) (fun c => ?_)
    · replace h := h.1 c
      refine g_ldc2 (pc' := 21) d_175_18 rfl st_175_166 rfl ?_
      exact g_lret d_175_21 rt_175 h
    · replace h := h.2 c
      refine g_iloadn (pc' := 11) d_175_10 rfl rfl ?_
      refine g_aloadn (pc' := 12) d_175_11 rfl rfl ?_
      obtain ⟨x2, hv3, h⟩ := h
      refine gz_getI (pc' := 15) d_175_12 rfl st_175_49 hv3 ?_
      obtain ⟨hc4, h⟩ := h
      refine gz_ic_le (pc' := 18) (pt := 22) d_175_15 (by decide) rfl hc1 hc4 (fun c => ?_) (fun c => ?_)
      · replace h := h.1 c
        refine g_aloadn (pc' := 23) d_175_22 rfl rfl ?_
        refine gz_getR (pc' := 26) d_175_23 rfl st_175_39 (kr_0_4 hC) ?_
        refine g_iloadn (pc' := 27) d_175_26 rfl rfl ?_
        refine g_aloadn (pc' := 28) d_175_27 rfl rfl ?_
        refine gz_getR (pc' := 31) d_175_28 rfl st_175_95 (kr_0_13 hC) ?_
        obtain ⟨w5, hk6, hC7, h⟩ := h
        refine gz_callV (pc' := 34) d_175_31 rfl st_175_168 na_100 ml_100 rfl rfl rfl rm_175_100 rfl rfl ow_100 (ko_12 hC) hk6 ?_
        refine g_aloadn (pc' := 35) d_175_34 rfl rfl ?_
        refine gz_getR (pc' := 38) d_175_35 rfl st_175_95 (kr_0_13 hC7) ?_
        refine g_ldc2 (pc' := 41) d_175_38 rfl st_175_389 rfl ?_
        refine g_lconst (pc' := 42) (v := jL 1) d_175_41 rfl cl_1 ?_
        refine g_lconst (pc' := 43) (v := jL 1) d_175_42 rfl cl_1 ?_
        refine g_iloadn (pc' := 44) d_175_43 rfl rfl ?_
        obtain ⟨y8, hz9, h⟩ := h
        refine gz_lshl (pc' := 45) d_175_44 rfl hz9 ?_
        refine gz_lsub (pc' := 46) d_175_45 rfl ?_
        refine gz_lmul (pc' := 47) d_175_46 rfl ?_
        obtain ⟨w10, hk11, hC12, h⟩ := h
        refine gz_callV (pc' := 50) d_175_47 rfl st_175_339 na_43 ml_43 rfl rfl rfl rm_175_43 rfl rfl ow_43 (ko_36 hC7) hk11 ?_
        refine g_aloadn (pc' := 51) d_175_50 rfl rfl ?_
        refine gz_getR (pc' := 54) d_175_51 rfl st_175_95 (kr_0_13 hC12) ?_
        obtain ⟨x13, hv14, h⟩ := h
        refine gz_getJ (pc' := 57) d_175_54 rfl st_175_391 hv14 ?_
        refine g_lconst (pc' := 58) (v := jL 0) d_175_57 rfl cl_0 ?_
        obtain ⟨hc15, h⟩ := h
        refine gz_lc_ne (pc' := 62) (pm := 59) (pt := 72) d_175_58 rfl d_175_59 (by decide) rfl hc15 (s64 (z := 0)) (fun c => ?_) (fun c => ?_)
        · replace h := h.1 c
          refine g_ldc2 (pc' := 75) d_175_72 rfl st_175_166 rfl ?_
          exact g_lret d_175_75 rt_175 h
        · replace h := h.2 c
          refine g_aloadn (pc' := 63) d_175_62 rfl rfl ?_
          refine gz_getR (pc' := 66) d_175_63 rfl st_175_95 (kr_0_13 hC12) ?_
          obtain ⟨x16, hv17, h⟩ := h
          refine gz_getJ (pc' := 69) d_175_66 rfl st_175_218 hv17 ?_
          refine g_goto (pt := 75) d_175_69 (by decide) ?_
          exact g_lret d_175_75 rt_175 h
      · replace h := h.2 c
        refine g_ldc2 (pc' := 21) d_175_18 rfl st_175_166 rfl ?_
        exact g_lret d_175_21 rt_175 h
theorem Z_175 {z1 : Int} {w : xW} {r : Option Value × xW} (hC : CS w) (h : in32 z1 ∧ (z1 < 0 → r = (some (.long (jL (-9223372036854775808))), w)) ∧ (0 ≤ z1 → (20 < z1 → r = (some (.long (jL (-9223372036854775808))), w)) ∧ (z1 ≤ 20 → ∃ x2, fI w 0 0 7 x2 ∧ in32 x2 ∧ (z1 ≤ x2 → ∃ w5, xCall 100 [.ref 12, .int (jI z1), .ref 36] w (none, w5) ∧ CS w5 ∧ ∃ y8, jL 1 <<< ((jI z1).toInt64 &&& 63) = jL y8 ∧ ∃ w10, xCall 43 [.ref 36, .long (jL (2 * (1 - y8)))] w5 (none, w10) ∧ CS w10 ∧ ∃ x13, fJ w10 36 5 1 x13 ∧ in64 x13 ∧ (x13 ≠ 0 → r = (some (.long (jL (-9223372036854775808))), w10)) ∧ (x13 = 0 → ∃ x16, fJ w10 36 5 0 x16 ∧ r = (some (.long (jL x16)), w10))) ∧ (x2 < z1 → r = (some (.long (jL (-9223372036854775808))), w))))) : xCall 175 [.ref 0, .int (jI z1)] w r := E_175 (Z_175_0 hC h)
theorem Z_176_0 {z1 : Int} {z2 : Int} {w : xW} {r : Option Value × xW} (hC : CS w) (h : in32 z1 ∧ (z1 < 0 → r = (some (.long (jL (-9223372036854775808))), w)) ∧ (0 ≤ z1 → (30 < z1 → r = (some (.long (jL (-9223372036854775808))), w)) ∧ (z1 ≤ 30 → in32 z2 ∧ (z2 < 0 → r = (some (.long (jL (-9223372036854775808))), w)) ∧ (0 ≤ z2 → (z2 ≤ 30 → ∃ w3, xCall 177 [.ref 0, .int (jI z1)] w (none, w3) ∧ CS w3 ∧ 0 ≤ z2 ∧ ∃ x7, rL w3 37 (z2).toNat x7 ∧ in64 x7 ∧ (0 ≤ x7 → 0 ≤ z2 ∧ ∃ x11, rL w3 37 (z2).toNat x11 ∧ r = (some (.long (jL x11)), w3)) ∧ (x7 < 0 → r = (some (.long (jL (-9223372036854775808))), w3))) ∧ (30 < z2 → r = (some (.long (jL (-9223372036854775808))), w)))))) : xGo 176 0 [some (.ref 0), some (.int (jI z1)), some (.int (jI z2))] [] w r := by
  refine g_iloadn (pc' := 1) d_176_0 rfl rfl ?_
  obtain ⟨hc1, h⟩ := h
  refine gz_if_lt (pc' := 4) (pt := 20) d_176_1 (by decide) rfl hc1 (fun c => ?_) (fun c => ?_)
  · replace h := h.1 c
    refine g_ldc2 (pc' := 23) d_176_20 rfl st_176_166 rfl ?_
    exact g_lret d_176_23 rt_176 h
  · replace h := h.2 c
    refine g_iloadn (pc' := 5) d_176_4 rfl rfl ?_
    refine g_bipush (pc' := 7) (v := jI 30) d_176_5 rfl (by decide) ?_
    refine gz_ic_gt (pc' := 10) (pt := 20) d_176_7 (by decide) rfl hc1 (s32 (z := 30)) (fun c => ?_) (fun c => ?_)
    · replace h := h.1 c
      refine g_ldc2 (pc' := 23) d_176_20 rfl st_176_166 rfl ?_
      exact g_lret d_176_23 rt_176 h
    · replace h := h.2 c
      refine g_iloadn (pc' := 11) d_176_10 rfl rfl ?_
      obtain ⟨hc2, h⟩ := h
      refine gz_if_lt (pc' := 14) (pt := 20) d_176_11 (by decide) rfl hc2 (fun c => ?_) (fun c => ?_)
      · replace h := h.1 c
        refine g_ldc2 (pc' := 23) d_176_20 rfl st_176_166 rfl ?_
        exact g_lret d_176_23 rt_176 h
      · replace h := h.2 c
        refine g_iloadn (pc' := 15) d_176_14 rfl rfl ?_
        refine g_bipush (pc' := 17) (v := jI 30) d_176_15 rfl (by decide) ?_
        refine gz_ic_le (pc' := 20) (pt := 24) d_176_17 (by decide) rfl hc2 (s32 (z := 30)) (fun c => ?_) (fun c => ?_)
        · replace h := h.1 c
          refine g_aloadn (pc' := 25) d_176_24 rfl rfl ?_
          refine g_iloadn (pc' := 26) d_176_25 rfl rfl ?_
          obtain ⟨w3, hk4, hC5, h⟩ := h
          refine gz_callV (pc' := 29) d_176_26 rfl st_176_394 na_177 ml_177 rfl rfl rfl rm_176_177 rfl rfl ow_177 (ko_0 hC) hk4 ?_
          refine g_aloadn (pc' := 30) d_176_29 rfl rfl ?_
          refine gz_getR (pc' := 33) d_176_30 rfl st_176_99 (kr_0_14 hC5) ?_
          refine g_iloadn (pc' := 34) d_176_33 rfl rfl ?_
          obtain ⟨hc6, h⟩ := h
          obtain ⟨x7, hv8, h⟩ := h
          refine gz_lald (pc' := 35) d_176_34 rfl hc6 hv8 ?_
          refine g_lconst (pc' := 36) (v := jL 0) d_176_35 rfl cl_0 ?_
          obtain ⟨hc9, h⟩ := h
          refine gz_lc_ge (pc' := 40) (pm := 37) (pt := 46) d_176_36 rfl d_176_37 (by decide) rfl hc9 (s64 (z := 0)) (fun c => ?_) (fun c => ?_)
          · replace h := h.1 c
            refine g_aloadn (pc' := 47) d_176_46 rfl rfl ?_
            refine gz_getR (pc' := 50) d_176_47 rfl st_176_99 (kr_0_14 hC5) ?_
            refine g_iloadn (pc' := 51) d_176_50 rfl rfl ?_
            obtain ⟨hc10, h⟩ := h
            obtain ⟨x11, hv12, h⟩ := h
            refine gz_lald (pc' := 52) d_176_51 rfl hc10 hv12 ?_
            exact g_lret d_176_52 rt_176 h
          · replace h := h.2 c
            refine g_ldc2 (pc' := 43) d_176_40 rfl st_176_166 rfl ?_
            refine g_goto (pt := 52) d_176_43 (by decide) ?_
            exact g_lret d_176_52 rt_176 h
        · replace h := h.2 c
          refine g_ldc2 (pc' := 23) d_176_20 rfl st_176_166 rfl ?_
          exact g_lret d_176_23 rt_176 h
theorem Z_176 {z1 : Int} {z2 : Int} {w : xW} {r : Option Value × xW} (hC : CS w) (h : in32 z1 ∧ (z1 < 0 → r = (some (.long (jL (-9223372036854775808))), w)) ∧ (0 ≤ z1 → (30 < z1 → r = (some (.long (jL (-9223372036854775808))), w)) ∧ (z1 ≤ 30 → in32 z2 ∧ (z2 < 0 → r = (some (.long (jL (-9223372036854775808))), w)) ∧ (0 ≤ z2 → (z2 ≤ 30 → ∃ w3, xCall 177 [.ref 0, .int (jI z1)] w (none, w3) ∧ CS w3 ∧ 0 ≤ z2 ∧ ∃ x7, rL w3 37 (z2).toNat x7 ∧ in64 x7 ∧ (0 ≤ x7 → 0 ≤ z2 ∧ ∃ x11, rL w3 37 (z2).toNat x11 ∧ r = (some (.long (jL x11)), w3)) ∧ (x7 < 0 → r = (some (.long (jL (-9223372036854775808))), w3))) ∧ (30 < z2 → r = (some (.long (jL (-9223372036854775808))), w)))))) : xCall 176 [.ref 0, .int (jI z1), .int (jI z2)] w r := E_176 (Z_176_0 hC h)
theorem Z_177_0 {z1 : Int} {w : xW} {r : Option Value × xW} (hC : CS w) (h : ∃ w1, xCall 6 [.ref 37, .long (jL 0)] w (none, w1) ∧ CS w1 ∧ ∀ w5, w5 = pL w1 37 0 (jL 1) → CS w5 → xGo 177 17 [some (.ref 0), some (.int (jI z1)), some (.int (jI 1)), none] [] w5 r) : xGo 177 0 [some (.ref 0), some (.int (jI z1)), none, none] [] w r := by
  refine g_aloadn (pc' := 1) d_177_0 rfl rfl ?_
  refine gz_getR (pc' := 4) d_177_1 rfl st_177_99 (kr_0_14 hC) ?_
  refine g_lconst (pc' := 5) (v := jL 0) d_177_4 rfl cl_0 ?_
  obtain ⟨w1, hk2, hC3, h⟩ := h
  refine g_callS (pc' := 8) d_177_5 rfl st_177_477 (Or.inl rfl) na_6 ml_6 rfl rfl rfl rm_177_6 rfl rfl hk2 ?_
  refine g_aloadn (pc' := 9) d_177_8 rfl rfl ?_
  refine gz_getR (pc' := 12) d_177_9 rfl st_177_99 (kr_0_14 hC3) ?_
  refine g_iconst (pc' := 13) d_177_12 rfl rfl ?_
  refine g_lconst (pc' := 14) (v := jL 1) d_177_13 rfl cl_1 ?_
  have hs4 := (kh_37 (i := 0) hC3 ⟨by decide, by decide⟩)
  have hC6 : CS (pL w1 37 0 (jL 1)) := hC3.putL
  have h := h _ rfl hC6
  refine gz_last (pc' := 15) d_177_14 rfl hs4 ?_
  refine g_iconst (pc' := 16) d_177_15 rfl rfl ?_
  refine g_istoren (pc' := 17) (l' := [some (.ref 0), some (.int (jI z1)), some (.int (jI 1)), none]) d_177_16 rfl ml_177 rfl rfl ?_
  exact h
theorem Z_177 {z1 : Int} {w : xW} {r : Option Value × xW} (hC : CS w) (h : ∃ w1, xCall 6 [.ref 37, .long (jL 0)] w (none, w1) ∧ CS w1 ∧ ∀ w5, w5 = pL w1 37 0 (jL 1) → CS w5 → xGo 177 17 [some (.ref 0), some (.int (jI z1)), some (.int (jI 1)), none] [] w5 r) : xCall 177 [.ref 0, .int (jI z1)] w r := E_177 (Z_177_0 hC h)
theorem Z_177_17 {z1 : Int} {z2 : Int} {w : xW} {r : Option Value × xW} (hC : CS w) (h : in32 z2 ∧ in32 z1 ∧ (z1 < z2 → r = (none, w)) ∧ (z2 ≤ z1 → ∃ r6 w3, xCall 13 [.int (jI z2), .int (jI 30)] w (some (.int (jI r6)), w3) ∧ CS w3 ∧ xGo 177 29 [some (.ref 0), some (.int (jI z1)), some (.int (jI z2)), some (.int (jI r6))] [] w3 r)) : xGo 177 17 [some (.ref 0), some (.int (jI z1)), some (.int (jI z2)), none] [] w r := by
  refine g_iloadn (pc' := 18) d_177_17 rfl rfl ?_
  refine g_iloadn (pc' := 19) d_177_18 rfl rfl ?_
  obtain ⟨hc1, h⟩ := h
  obtain ⟨hc2, h⟩ := h
  refine gz_ic_gt (pc' := 22) (pt := 77) d_177_19 (by decide) rfl hc1 hc2 (fun c => ?_) (fun c => ?_)
  · replace h := h.1 c
    exact g_vret d_177_77 rt_177 h
  · replace h := h.2 c
    refine g_iloadn (pc' := 23) d_177_22 rfl rfl ?_
    refine g_bipush (pc' := 25) (v := jI 30) d_177_23 rfl (by decide) ?_
    obtain ⟨r6, w3, hk4, hC5, h⟩ := h
    refine g_callS (pc' := 28) d_177_25 rfl st_177_482 (Or.inl rfl) na_13 ml_13 rfl rfl rfl rm_177_13 rfl rfl hk4 ?_
    refine g_istoren (pc' := 29) (l' := [some (.ref 0), some (.int (jI z1)), some (.int (jI z2)), some (.int (jI r6))]) d_177_28 rfl ml_177 rfl rfl ?_
    exact h
theorem Z_177_29 {z1 : Int} {z2 : Int} {z3 : Int} {w : xW} {r : Option Value × xW} (hC : CS w) (h : in32 z3 ∧ (z3 < 1 → ∀ w3, w3 = pL w 37 0 (jL 0) → CS w3 → xGo 177 17 [some (.ref 0), some (.int (jI z1)), some (.int (jI (z2 + 1))), none] [] w3 r) ∧ (1 ≤ z3 → 0 ≤ z3 ∧ ∃ x6, rL w 37 (z3).toNat x6 ∧ 0 ≤ z3 - 1 ∧ ∃ x9, rL w 37 (z3 - 1).toNat x9 ∧ ∃ r14 w11, xCall 178 [.int (jI z3), .long (jL x6), .long (jL x9)] w (some (.long (jL r14)), w11) ∧ CS w11 ∧ (0 ≤ z3 ∧ z3 < 40) ∧ ∀ w17, w17 = pL w11 37 (z3).toNat (jL r14) → CS w17 → xGo 177 29 [some (.ref 0), some (.int (jI z1)), some (.int (jI z2)), some (.int (jI (z3 - 1)))] [] w17 r)) : xGo 177 29 [some (.ref 0), some (.int (jI z1)), some (.int (jI z2)), some (.int (jI z3))] [] w r := by
  refine g_iloadn (pc' := 30) d_177_29 rfl rfl ?_
  refine g_iconst (pc' := 31) d_177_30 rfl rfl ?_
  obtain ⟨hc1, h⟩ := h
  refine gz_ic_lt (pc' := 34) (pt := 64) d_177_31 (by decide) rfl hc1 (s32 (z := 1)) (fun c => ?_) (fun c => ?_)
  · replace h := h.1 c
    refine g_aloadn (pc' := 65) d_177_64 rfl rfl ?_
    refine gz_getR (pc' := 68) d_177_65 rfl st_177_99 (kr_0_14 hC) ?_
    refine g_iconst (pc' := 69) d_177_68 rfl rfl ?_
    refine g_lconst (pc' := 70) (v := jL 0) d_177_69 rfl cl_0 ?_
    have hs2 := (kh_37 (i := 0) hC ⟨by decide, by decide⟩)
    have hC4 : CS (pL w 37 0 (jL 0)) := hC.putL
    have h := h _ rfl hC4
    refine gz_last (pc' := 71) d_177_70 rfl hs2 ?_
    refine gz_iinc (pc' := 74) (l' := [some (.ref 0), some (.int (jI z1)), some (.int (jI (z2 + 1))), some (.int (jI z3))]) d_177_71 rfl rfl ml_177 rfl rfl ?_
    refine g_goto (pt := 17) d_177_74 (by decide) ?_
    exact xGo.more (xle_s (xle_s (xle_s (xle_n xle_0)))) h
  · replace h := h.2 c
    refine g_aloadn (pc' := 35) d_177_34 rfl rfl ?_
    refine gz_getR (pc' := 38) d_177_35 rfl st_177_99 (kr_0_14 hC) ?_
    refine g_iloadn (pc' := 39) d_177_38 rfl rfl ?_
    refine g_iloadn (pc' := 40) d_177_39 rfl rfl ?_
    refine g_aloadn (pc' := 41) d_177_40 rfl rfl ?_
    refine gz_getR (pc' := 44) d_177_41 rfl st_177_99 (kr_0_14 hC) ?_
    refine g_iloadn (pc' := 45) d_177_44 rfl rfl ?_
    obtain ⟨hc5, h⟩ := h
    obtain ⟨x6, hv7, h⟩ := h
    refine gz_lald (pc' := 46) d_177_45 rfl hc5 hv7 ?_
    refine g_aloadn (pc' := 47) d_177_46 rfl rfl ?_
    refine gz_getR (pc' := 50) d_177_47 rfl st_177_99 (kr_0_14 hC) ?_
    refine g_iloadn (pc' := 51) d_177_50 rfl rfl ?_
    refine g_iconst (pc' := 52) d_177_51 rfl rfl ?_
    refine gz_isub (pc' := 53) d_177_52 rfl ?_
    obtain ⟨hc8, h⟩ := h
    obtain ⟨x9, hv10, h⟩ := h
    refine gz_lald (pc' := 54) d_177_53 rfl hc8 hv10 ?_
    obtain ⟨r14, w11, hk12, hC13, h⟩ := h
    refine g_callS (pc' := 57) d_177_54 rfl st_177_485 (Or.inl rfl) na_178 ml_178 rfl rfl rfl rm_177_178 rfl rfl hk12 ?_
    obtain ⟨hc15, h⟩ := h
    have hs16 := (kh_37 hC13 hc15)
    have hC18 : CS (pL w11 37 (z3).toNat (jL r14)) := hC13.putL
    have h := h _ rfl hC18
    refine gz_last (pc' := 58) d_177_57 rfl hs16 ?_
    refine gz_idec (pc' := 61) (c := 1) (l' := [some (.ref 0), some (.int (jI z1)), some (.int (jI z2)), some (.int (jI (z3 - 1)))]) d_177_58 rfl rfl ml_177 rfl rfl ?_
    refine g_goto (pt := 29) d_177_61 (by decide) ?_
    exact h
theorem Z_178_0 {z0 : Int} {z1 : Int} {z3 : Int} {w : xW} {r : Option Value × xW} (hC : CS w) (h : in32 z0 ∧ (z0 < 1 → r = (some (.long (jL (-1))), w)) ∧ (1 ≤ z0 → in64 z1 ∧ (z1 < 0 → r = (some (.long (jL (-1))), w)) ∧ (0 ≤ z1 → in64 z3 ∧ (z3 < 0 → r = (some (.long (jL (-1))), w)) ∧ (0 ≤ z3 → in64 (9223372036854775807 - z3) ∧ (9223372036854775807 - z3 < z1 → r = (some (.long (jL (-1))), w)) ∧ (z1 ≤ 9223372036854775807 - z3 → z0 ≠ 0 ∧ ∃ y6, Int.tdiv 9223372036854775807 z0 = y6 ∧ in64 (z1 + z3) ∧ in64 y6 ∧ (z1 + z3 ≤ y6 → r = (some (.long (jL (z0 * (z1 + z3)))), w)) ∧ (y6 < z1 + z3 → r = (some (.long (jL (-1))), w))))))) : xGo 178 0 [some (.int (jI z0)), some (.long (jL z1)), none, some (.long (jL z3)), none] [] w r := by
  refine g_iloadn (pc' := 1) d_178_0 rfl rfl ?_
  refine g_iconst (pc' := 2) d_178_1 rfl rfl ?_
  obtain ⟨hc1, h⟩ := h
  refine gz_ic_lt (pc' := 5) (pt := 40) d_178_2 (by decide) rfl hc1 (s32 (z := 1)) (fun c => ?_) (fun c => ?_)
  · replace h := h.1 c
    refine g_ldc2 (pc' := 43) d_178_40 rfl st_178_387 rfl ?_
    exact g_lret d_178_43 rt_178 h
  · replace h := h.2 c
    refine g_lloadn (pc' := 6) d_178_5 rfl rfl ?_
    refine g_lconst (pc' := 7) (v := jL 0) d_178_6 rfl cl_0 ?_
    obtain ⟨hc2, h⟩ := h
    refine gz_lc_lt (pc' := 11) (pm := 8) (pt := 40) d_178_7 rfl d_178_8 (by decide) rfl hc2 (s64 (z := 0)) (fun c => ?_) (fun c => ?_)
    · replace h := h.1 c
      refine g_ldc2 (pc' := 43) d_178_40 rfl st_178_387 rfl ?_
      exact g_lret d_178_43 rt_178 h
    · replace h := h.2 c
      refine g_lloadn (pc' := 12) d_178_11 rfl rfl ?_
      refine g_lconst (pc' := 13) (v := jL 0) d_178_12 rfl cl_0 ?_
      obtain ⟨hc3, h⟩ := h
      refine gz_lc_lt (pc' := 17) (pm := 14) (pt := 40) d_178_13 rfl d_178_14 (by decide) rfl hc3 (s64 (z := 0)) (fun c => ?_) (fun c => ?_)
      · replace h := h.1 c
        refine g_ldc2 (pc' := 43) d_178_40 rfl st_178_387 rfl ?_
        exact g_lret d_178_43 rt_178 h
      · replace h := h.2 c
        refine g_lloadn (pc' := 18) d_178_17 rfl rfl ?_
        refine g_ldc2 (pc' := 21) d_178_18 rfl st_178_489 rfl ?_
        refine g_lloadn (pc' := 22) d_178_21 rfl rfl ?_
        refine gz_lsub (pc' := 23) d_178_22 rfl ?_
        obtain ⟨hc4, h⟩ := h
        refine gz_lc_gt (pc' := 27) (pm := 24) (pt := 40) d_178_23 rfl d_178_24 (by decide) rfl hc2 hc4 (fun c => ?_) (fun c => ?_)
        · replace h := h.1 c
          refine g_ldc2 (pc' := 43) d_178_40 rfl st_178_387 rfl ?_
          exact g_lret d_178_43 rt_178 h
        · replace h := h.2 c
          refine g_lloadn (pc' := 28) d_178_27 rfl rfl ?_
          refine g_lloadn (pc' := 29) d_178_28 rfl rfl ?_
          refine gz_ladd (pc' := 30) d_178_29 rfl ?_
          refine g_ldc2 (pc' := 33) d_178_30 rfl st_178_489 rfl ?_
          refine g_iloadn (pc' := 34) d_178_33 rfl rfl ?_
          refine gz_i2l (pc' := 35) d_178_34 rfl hc1 ?_
          obtain ⟨hc5, h⟩ := h
          obtain ⟨y6, hz7, h⟩ := h
          refine gz_ldiv (pc' := 36) d_178_35 rfl (s64 (z := 9223372036854775807)) (in3264 hc1) hc5 hz7 ?_
          obtain ⟨hc8, h⟩ := h
          obtain ⟨hc9, h⟩ := h
          refine gz_lc_le (pc' := 40) (pm := 37) (pt := 44) d_178_36 rfl d_178_37 (by decide) rfl hc8 hc9 (fun c => ?_) (fun c => ?_)
          · replace h := h.1 c
            refine g_iloadn (pc' := 45) d_178_44 rfl rfl ?_
            refine gz_i2l (pc' := 46) d_178_45 rfl hc1 ?_
            refine g_lloadn (pc' := 47) d_178_46 rfl rfl ?_
            refine g_lloadn (pc' := 48) d_178_47 rfl rfl ?_
            refine gz_ladd (pc' := 49) d_178_48 rfl ?_
            refine gz_lmul (pc' := 50) d_178_49 rfl ?_
            exact g_lret d_178_50 rt_178 h
          · replace h := h.2 c
            refine g_ldc2 (pc' := 43) d_178_40 rfl st_178_387 rfl ?_
            exact g_lret d_178_43 rt_178 h
theorem Z_178 {z0 : Int} {z1 : Int} {z3 : Int} {w : xW} {r : Option Value × xW} (hC : CS w) (h : in32 z0 ∧ (z0 < 1 → r = (some (.long (jL (-1))), w)) ∧ (1 ≤ z0 → in64 z1 ∧ (z1 < 0 → r = (some (.long (jL (-1))), w)) ∧ (0 ≤ z1 → in64 z3 ∧ (z3 < 0 → r = (some (.long (jL (-1))), w)) ∧ (0 ≤ z3 → in64 (9223372036854775807 - z3) ∧ (9223372036854775807 - z3 < z1 → r = (some (.long (jL (-1))), w)) ∧ (z1 ≤ 9223372036854775807 - z3 → z0 ≠ 0 ∧ ∃ y6, Int.tdiv 9223372036854775807 z0 = y6 ∧ in64 (z1 + z3) ∧ in64 y6 ∧ (z1 + z3 ≤ y6 → r = (some (.long (jL (z0 * (z1 + z3)))), w)) ∧ (y6 < z1 + z3 → r = (some (.long (jL (-1))), w))))))) : xCall 178 [.int (jI z0), .long (jL z1), .long (jL z3)] w r := E_178 (Z_178_0 hC h)
theorem Z_179_0 {z1 : Int} {z2 : Int} {w : xW} {r : Option Value × xW} (hC : CS w) (h : in32 z1 ∧ (z1 < 0 → r = (some (.long (jL (-9223372036854775808))), w)) ∧ (0 ≤ z1 → (20 < z1 → r = (some (.long (jL (-9223372036854775808))), w)) ∧ (z1 ≤ 20 → ∃ (P5 : Prop) (dP6 : Decidable P5) (w2 : xW), xCall 116 [.int (jI z2)] w (some (.int (bz P5)), w2) ∧ CS w2 ∧ (P5 → ∃ w7, xCall 177 [.ref 0, .int (jI z1)] w2 (none, w7) ∧ CS w7 ∧ ∃ w10, xCall 37 [.ref 3, .long (jL 232792560)] w7 (none, w10) ∧ CS w10 ∧ xGo 179 38 [some (.ref 0), some (.int (jI z1)), some (.int (jI z2)), some (.int (jI 0)), none] [] w10 r) ∧ (¬ P5 → r = (some (.long (jL (-9223372036854775808))), w2))))) : xGo 179 0 [some (.ref 0), some (.int (jI z1)), some (.int (jI z2)), none, none] [] w r := by
  refine g_iloadn (pc' := 1) d_179_0 rfl rfl ?_
  obtain ⟨hc1, h⟩ := h
  refine gz_if_lt (pc' := 4) (pt := 17) d_179_1 (by decide) rfl hc1 (fun c => ?_) (fun c => ?_)
  · replace h := h.1 c
    refine g_ldc2 (pc' := 20) d_179_17 rfl st_179_166 rfl ?_
    exact g_lret d_179_20 rt_179 h
  · replace h := h.2 c
    refine g_iloadn (pc' := 5) d_179_4 rfl rfl ?_
    refine g_bipush (pc' := 7) (v := jI 20) d_179_5 rfl (by decide) ?_
    refine gz_ic_gt (pc' := 10) (pt := 17) d_179_7 (by decide) rfl hc1 (s32 (z := 20)) (fun c => ?_) (fun c => ?_)
    · replace h := h.1 c
      refine g_ldc2 (pc' := 20) d_179_17 rfl st_179_166 rfl ?_
      exact g_lret d_179_20 rt_179 h
    · replace h := h.2 c
      refine g_iloadn (pc' := 11) d_179_10 rfl rfl ?_
      obtain ⟨P5, dP6, w2, hk3, hC4, h⟩ := h
      refine g_callS (pc' := 14) d_179_11 rfl st_179_153 (Or.inl rfl) na_116 ml_116 rfl rfl rfl rm_179_116 rfl rfl hk3 ?_
      refine gz_bt_ne (pc' := 17) (pt := 21) d_179_14 (by decide) rfl (fun c => ?_) (fun c => ?_)
      · replace h := h.1 c
        refine g_aloadn (pc' := 22) d_179_21 rfl rfl ?_
        refine g_iloadn (pc' := 23) d_179_22 rfl rfl ?_
        obtain ⟨w7, hk8, hC9, h⟩ := h
        refine gz_callV (pc' := 26) d_179_23 rfl st_179_394 na_177 ml_177 rfl rfl rfl rm_179_177 rfl rfl ow_177 (ko_0 hC4) hk8 ?_
        refine g_aloadn (pc' := 27) d_179_26 rfl rfl ?_
        refine gz_getR (pc' := 30) d_179_27 rfl st_179_21 (kr_0_1 hC9) ?_
        refine g_ldc2 (pc' := 33) d_179_30 rfl st_179_397 rfl ?_
        obtain ⟨w10, hk11, hC12, h⟩ := h
        refine gz_callV (pc' := 36) d_179_33 rfl st_179_195 na_37 ml_37 rfl rfl rfl rm_179_37 rfl rfl ow_37 (ko_3 hC9) hk11 ?_
        refine g_iconst (pc' := 37) d_179_36 rfl rfl ?_
        refine g_istoren (pc' := 38) (l' := [some (.ref 0), some (.int (jI z1)), some (.int (jI z2)), some (.int (jI 0)), none]) d_179_37 rfl ml_179 rfl rfl ?_
        exact h
      · replace h := h.2 c
        refine g_ldc2 (pc' := 20) d_179_17 rfl st_179_166 rfl ?_
        exact g_lret d_179_20 rt_179 h
theorem Z_179 {z1 : Int} {z2 : Int} {w : xW} {r : Option Value × xW} (hC : CS w) (h : in32 z1 ∧ (z1 < 0 → r = (some (.long (jL (-9223372036854775808))), w)) ∧ (0 ≤ z1 → (20 < z1 → r = (some (.long (jL (-9223372036854775808))), w)) ∧ (z1 ≤ 20 → ∃ (P5 : Prop) (dP6 : Decidable P5) (w2 : xW), xCall 116 [.int (jI z2)] w (some (.int (bz P5)), w2) ∧ CS w2 ∧ (P5 → ∃ w7, xCall 177 [.ref 0, .int (jI z1)] w2 (none, w7) ∧ CS w7 ∧ ∃ w10, xCall 37 [.ref 3, .long (jL 232792560)] w7 (none, w10) ∧ CS w10 ∧ xGo 179 38 [some (.ref 0), some (.int (jI z1)), some (.int (jI z2)), some (.int (jI 0)), none] [] w10 r) ∧ (¬ P5 → r = (some (.long (jL (-9223372036854775808))), w2))))) : xCall 179 [.ref 0, .int (jI z1), .int (jI z2)] w r := E_179 (Z_179_0 hC h)
theorem Z_179_38 {z1 : Int} {z2 : Int} {z3 : Int} {w : xW} {r : Option Value × xW} (hC : CS w) (h : in32 z3 ∧ in32 z1 ∧ (z1 < z3 → ∃ w3, xCall 42 [.ref 3, .ref 36] w (none, w3) ∧ CS w3 ∧ ∃ r9 w6, xCall 117 [.ref 36, .int (jI z2)] w3 (some (.long (jL r9)), w6) ∧ CS w6 ∧ r = (some (.long (jL r9)), w6)) ∧ (z3 ≤ z1 → 0 ≤ z3 ∧ ∃ x11, rL w 37 (z3).toNat x11 ∧ in64 x11 ∧ (0 ≤ x11 → ∃ y14, Int.tmod z3 2 = y14 ∧ in32 y14 ∧ (y14 ≠ 0 → 0 ≤ z3 ∧ ∃ x18, rL w 37 (z3).toNat x18 ∧ in32 (z3 + 1) ∧ in64 x18 ∧ z3 + 1 ≠ 0 ∧ ∃ y23, Int.tdiv x18 (z3 + 1) = y23 ∧ 0 ≤ z3 ∧ ∃ x26, rL w 37 (z3).toNat x26 ∧ in64 x26 ∧ z3 + 1 ≠ 0 ∧ ∃ y30, Int.tmod x26 (z3 + 1) = y30 ∧ ∃ w32, xCall 41 [.ref 3, .long (jL (-1)), .long (jL y23), .long (jL y30), .long (jL (z3 + 1))] w (none, w32) ∧ CS w32 ∧ xGo 179 38 [some (.ref 0), some (.int (jI z1)), some (.int (jI z2)), some (.int (jI (z3 + 1))), none] [] w32 r) ∧ (y14 = 0 → 0 ≤ z3 ∧ ∃ x36, rL w 37 (z3).toNat x36 ∧ in32 (z3 + 1) ∧ in64 x36 ∧ z3 + 1 ≠ 0 ∧ ∃ y41, Int.tdiv x36 (z3 + 1) = y41 ∧ 0 ≤ z3 ∧ ∃ x44, rL w 37 (z3).toNat x44 ∧ in64 x44 ∧ z3 + 1 ≠ 0 ∧ ∃ y48, Int.tmod x44 (z3 + 1) = y48 ∧ ∃ w50, xCall 41 [.ref 3, .long (jL 1), .long (jL y41), .long (jL y48), .long (jL (z3 + 1))] w (none, w50) ∧ CS w50 ∧ xGo 179 38 [some (.ref 0), some (.int (jI z1)), some (.int (jI z2)), some (.int (jI (z3 + 1))), none] [] w50 r)) ∧ (x11 < 0 → r = (some (.long (jL (-9223372036854775808))), w)))) : xGo 179 38 [some (.ref 0), some (.int (jI z1)), some (.int (jI z2)), some (.int (jI z3)), none] [] w r := by
  refine g_iloadn (pc' := 39) d_179_38 rfl rfl ?_
  refine g_iloadn (pc' := 40) d_179_39 rfl rfl ?_
  obtain ⟨hc1, h⟩ := h
  obtain ⟨hc2, h⟩ := h
  refine gz_ic_gt (pc' := 43) (pt := 112) d_179_40 (by decide) rfl hc1 hc2 (fun c => ?_) (fun c => ?_)
  · replace h := h.1 c
    refine g_aloadn (pc' := 113) d_179_112 rfl rfl ?_
    refine gz_getR (pc' := 116) d_179_113 rfl st_179_21 (kr_0_1 hC) ?_
    refine g_aloadn (pc' := 117) d_179_116 rfl rfl ?_
    refine gz_getR (pc' := 120) d_179_117 rfl st_179_95 (kr_0_13 hC) ?_
    obtain ⟨w3, hk4, hC5, h⟩ := h
    refine gz_callV (pc' := 123) d_179_120 rfl st_179_214 na_42 ml_42 rfl rfl rfl rm_179_42 rfl rfl ow_42 (ko_3 hC) hk4 ?_
    refine g_aloadn (pc' := 124) d_179_123 rfl rfl ?_
    refine gz_getR (pc' := 127) d_179_124 rfl st_179_95 (kr_0_13 hC5) ?_
    refine g_iloadn (pc' := 128) d_179_127 rfl rfl ?_
    obtain ⟨r9, w6, hk7, hC8, h⟩ := h
    refine gz_callV (pc' := 131) d_179_128 rfl st_179_171 na_117 ml_117 rfl rfl rfl rm_179_117 rfl rfl ow_117 (ko_36 hC5) hk7 ?_
    exact g_lret d_179_131 rt_179 h
  · replace h := h.2 c
    refine g_aloadn (pc' := 44) d_179_43 rfl rfl ?_
    refine gz_getR (pc' := 47) d_179_44 rfl st_179_99 (kr_0_14 hC) ?_
    refine g_iloadn (pc' := 48) d_179_47 rfl rfl ?_
    obtain ⟨hc10, h⟩ := h
    obtain ⟨x11, hv12, h⟩ := h
    refine gz_lald (pc' := 49) d_179_48 rfl hc10 hv12 ?_
    refine g_lconst (pc' := 50) (v := jL 0) d_179_49 rfl cl_0 ?_
    obtain ⟨hc13, h⟩ := h
    refine gz_lc_ge (pc' := 54) (pm := 51) (pt := 58) d_179_50 rfl d_179_51 (by decide) rfl hc13 (s64 (z := 0)) (fun c => ?_) (fun c => ?_)
    · replace h := h.1 c
      refine g_iloadn (pc' := 59) d_179_58 rfl rfl ?_
      refine g_iconst (pc' := 60) d_179_59 rfl rfl ?_
      refine gz_iadd (pc' := 61) d_179_60 rfl ?_
      refine g_istore (pc' := 63) (l' := [some (.ref 0), some (.int (jI z1)), some (.int (jI z2)), some (.int (jI z3)), some (.int (jI (z3 + 1)))]) d_179_61 rfl ml_179 rfl rfl ?_
      refine g_aloadn (pc' := 64) d_179_63 rfl rfl ?_
      refine gz_getR (pc' := 67) d_179_64 rfl st_179_21 (kr_0_1 hC) ?_
      refine g_iloadn (pc' := 68) d_179_67 rfl rfl ?_
      refine g_iconst (pc' := 69) d_179_68 rfl rfl ?_
      obtain ⟨y14, hz15, h⟩ := h
      refine gz_irem (pc' := 70) d_179_69 rfl hc1 (s32 (z := 2)) (by decide) hz15 ?_
      obtain ⟨hc16, h⟩ := h
      refine gz_if_ne (pc' := 73) (pt := 77) d_179_70 (by decide) rfl hc16 (fun c => ?_) (fun c => ?_)
      · replace h := h.1 c
        refine g_ldc2 (pc' := 80) d_179_77 rfl st_179_387 rfl ?_
        refine g_aloadn (pc' := 81) d_179_80 rfl rfl ?_
        refine gz_getR (pc' := 84) d_179_81 rfl st_179_99 (kr_0_14 hC) ?_
        refine g_iloadn (pc' := 85) d_179_84 rfl rfl ?_
        obtain ⟨hc17, h⟩ := h
        obtain ⟨x18, hv19, h⟩ := h
        refine gz_lald (pc' := 86) d_179_85 rfl hc17 hv19 ?_
        refine g_iload (pc' := 88) d_179_86 rfl rfl ?_
        obtain ⟨hc20, h⟩ := h
        refine gz_i2l (pc' := 89) d_179_88 rfl hc20 ?_
        obtain ⟨hc21, h⟩ := h
        obtain ⟨hc22, h⟩ := h
        obtain ⟨y23, hz24, h⟩ := h
        refine gz_ldiv (pc' := 90) d_179_89 rfl hc21 (in3264 hc20) hc22 hz24 ?_
        refine g_aloadn (pc' := 91) d_179_90 rfl rfl ?_
        refine gz_getR (pc' := 94) d_179_91 rfl st_179_99 (kr_0_14 hC) ?_
        refine g_iloadn (pc' := 95) d_179_94 rfl rfl ?_
        obtain ⟨hc25, h⟩ := h
        obtain ⟨x26, hv27, h⟩ := h
        refine gz_lald (pc' := 96) d_179_95 rfl hc25 hv27 ?_
        refine g_iload (pc' := 98) d_179_96 rfl rfl ?_
        refine gz_i2l (pc' := 99) d_179_98 rfl hc20 ?_
        obtain ⟨hc28, h⟩ := h
        obtain ⟨hc29, h⟩ := h
        obtain ⟨y30, hz31, h⟩ := h
        refine gz_lrem (pc' := 100) d_179_99 rfl hc28 (in3264 hc20) hc29 hz31 ?_
        refine g_iload (pc' := 102) d_179_100 rfl rfl ?_
        refine gz_i2l (pc' := 103) d_179_102 rfl hc20 ?_
        obtain ⟨w32, hk33, hC34, h⟩ := h
        refine gz_callV (pc' := 106) d_179_103 rfl st_179_207 na_41 ml_41 rfl rfl rfl rm_179_41 rfl rfl ow_41 (ko_3 hC) hk33 ?_
        refine gz_iinc (pc' := 109) (l' := [some (.ref 0), some (.int (jI z1)), some (.int (jI z2)), some (.int (jI (z3 + 1))), some (.int (jI (z3 + 1)))]) d_179_106 rfl rfl ml_179 rfl rfl ?_
        refine g_goto (pt := 38) d_179_109 (by decide) ?_
        exact xGo.more (xle_s (xle_s (xle_s (xle_s (xle_n xle_0))))) h
      · replace h := h.2 c
        refine g_lconst (pc' := 74) (v := jL 1) d_179_73 rfl cl_1 ?_
        refine g_goto (pt := 80) d_179_74 (by decide) ?_
        refine g_aloadn (pc' := 81) d_179_80 rfl rfl ?_
        refine gz_getR (pc' := 84) d_179_81 rfl st_179_99 (kr_0_14 hC) ?_
        refine g_iloadn (pc' := 85) d_179_84 rfl rfl ?_
        obtain ⟨hc35, h⟩ := h
        obtain ⟨x36, hv37, h⟩ := h
        refine gz_lald (pc' := 86) d_179_85 rfl hc35 hv37 ?_
        refine g_iload (pc' := 88) d_179_86 rfl rfl ?_
        obtain ⟨hc38, h⟩ := h
        refine gz_i2l (pc' := 89) d_179_88 rfl hc38 ?_
        obtain ⟨hc39, h⟩ := h
        obtain ⟨hc40, h⟩ := h
        obtain ⟨y41, hz42, h⟩ := h
        refine gz_ldiv (pc' := 90) d_179_89 rfl hc39 (in3264 hc38) hc40 hz42 ?_
        refine g_aloadn (pc' := 91) d_179_90 rfl rfl ?_
        refine gz_getR (pc' := 94) d_179_91 rfl st_179_99 (kr_0_14 hC) ?_
        refine g_iloadn (pc' := 95) d_179_94 rfl rfl ?_
        obtain ⟨hc43, h⟩ := h
        obtain ⟨x44, hv45, h⟩ := h
        refine gz_lald (pc' := 96) d_179_95 rfl hc43 hv45 ?_
        refine g_iload (pc' := 98) d_179_96 rfl rfl ?_
        refine gz_i2l (pc' := 99) d_179_98 rfl hc38 ?_
        obtain ⟨hc46, h⟩ := h
        obtain ⟨hc47, h⟩ := h
        obtain ⟨y48, hz49, h⟩ := h
        refine gz_lrem (pc' := 100) d_179_99 rfl hc46 (in3264 hc38) hc47 hz49 ?_
        refine g_iload (pc' := 102) d_179_100 rfl rfl ?_
        refine gz_i2l (pc' := 103) d_179_102 rfl hc38 ?_
        obtain ⟨w50, hk51, hC52, h⟩ := h
        refine gz_callV (pc' := 106) d_179_103 rfl st_179_207 na_41 ml_41 rfl rfl rfl rm_179_41 rfl rfl ow_41 (ko_3 hC) hk51 ?_
        refine gz_iinc (pc' := 109) (l' := [some (.ref 0), some (.int (jI z1)), some (.int (jI z2)), some (.int (jI (z3 + 1))), some (.int (jI (z3 + 1)))]) d_179_106 rfl rfl ml_179 rfl rfl ?_
        refine g_goto (pt := 38) d_179_109 (by decide) ?_
        exact xGo.more (xle_s (xle_s (xle_s (xle_s (xle_n xle_0))))) h
    · replace h := h.2 c
      refine g_ldc2 (pc' := 57) d_179_54 rfl st_179_166 rfl ?_
      exact g_lret d_179_57 rt_179 h
theorem Z_181_0 {z1 : Int} {w : xW} {r : Option Value × xW} (hC : CS w) (h : in32 z1 ∧ (22 < z1 → r = (some (.long (jL (-9223372036854775808))), w)) ∧ (z1 ≤ 22 → ∃ (P5 : Prop) (dP6 : Decidable P5) (w2 : xW), xCall 47 [.int (jI z1)] w (some (.int (bz P5)), w2) ∧ CS w2 ∧ (¬ P5 → r = (some (.long (jL (-9223372036854775808))), w2)) ∧ (P5 → ∃ x7, fI w2 0 0 7 x7 ∧ in32 x7 ∧ (z1 ≤ x7 → ∃ y10, jL 1 <<< ((jI z1).toInt64 &&& 63) = jL y10 ∧ ∃ w12, xCall 100 [.ref 12, .int (jI z1), .ref 36] w2 (none, w12) ∧ CS w12 ∧ ∃ r18 w15, xCall 63 [.ref 12, .int (jI z1)] w12 (some (.int (jI r18)), w15) ∧ CS w15 ∧ in32 r18 ∧ ∃ w20, xCall 43 [.ref 36, .long (jL ((r18 * y10) * (y10 - 1)))] w15 (none, w20) ∧ CS w20 ∧ ∃ w23, xCall 44 [.ref 36, .long (jL z1)] w20 (none, w23) ∧ CS w23 ∧ ∃ x26, fJ w23 36 5 1 x26 ∧ in64 x26 ∧ (x26 ≠ 0 → r = (some (.long (jL (-9223372036854775808))), w23)) ∧ (x26 = 0 → ∃ x29, fJ w23 36 5 0 x29 ∧ r = (some (.long (jL x29)), w23))) ∧ (x7 < z1 → r = (some (.long (jL (-9223372036854775808))), w2))))) : xGo 181 0 [some (.ref 0), some (.int (jI z1)), none, none] [] w r := by
  refine g_iloadn (pc' := 1) d_181_0 rfl rfl ?_
  refine g_bipush (pc' := 3) (v := jI 22) d_181_1 rfl (by decide) ?_
  obtain ⟨hc1, h⟩ := h
  refine gz_ic_gt (pc' := 6) (pt := 21) d_181_3 (by decide) rfl hc1 (s32 (z := 22)) (fun c => ?_) (fun c => ?_)
  · replace h := h.1 c
    refine g_ldc2 (pc' := 24) d_181_21 rfl st_181_166 rfl ?_
    exact g_lret d_181_24 rt_181 h
  · replace h := h.2 c
    refine g_iloadn (pc' := 7) d_181_6 rfl rfl ?_
    obtain ⟨P5, dP6, w2, hk3, hC4, h⟩ := h
    refine g_callS (pc' := 10) d_181_7 rfl st_181_190 (Or.inl rfl) na_47 ml_47 rfl rfl rfl rm_181_47 rfl rfl hk3 ?_
    refine gz_bt_eq (pc' := 13) (pt := 21) d_181_10 (by decide) rfl (fun c => ?_) (fun c => ?_)
    · replace h := h.1 c
      refine g_ldc2 (pc' := 24) d_181_21 rfl st_181_166 rfl ?_
      exact g_lret d_181_24 rt_181 h
    · replace h := h.2 c
      refine g_iloadn (pc' := 14) d_181_13 rfl rfl ?_
      refine g_aloadn (pc' := 15) d_181_14 rfl rfl ?_
      obtain ⟨x7, hv8, h⟩ := h
      refine gz_getI (pc' := 18) d_181_15 rfl st_181_49 hv8 ?_
      obtain ⟨hc9, h⟩ := h
      refine gz_ic_le (pc' := 21) (pt := 25) d_181_18 (by decide) rfl hc1 hc9 (fun c => ?_) (fun c => ?_)
      · replace h := h.1 c
        refine g_lconst (pc' := 26) (v := jL 1) d_181_25 rfl cl_1 ?_
        refine g_iloadn (pc' := 27) d_181_26 rfl rfl ?_
        obtain ⟨y10, hz11, h⟩ := h
        refine gz_lshl (pc' := 28) d_181_27 rfl hz11 ?_
        refine g_lstoren (pc' := 29) (l' := [some (.ref 0), some (.int (jI z1)), some (.long (jL y10)), none]) d_181_28 rfl ml_181 rfl rfl ?_
        refine g_aloadn (pc' := 30) d_181_29 rfl rfl ?_
        refine gz_getR (pc' := 33) d_181_30 rfl st_181_39 (kr_0_4 hC4) ?_
        refine g_iloadn (pc' := 34) d_181_33 rfl rfl ?_
        refine g_aloadn (pc' := 35) d_181_34 rfl rfl ?_
        refine gz_getR (pc' := 38) d_181_35 rfl st_181_95 (kr_0_13 hC4) ?_
        obtain ⟨w12, hk13, hC14, h⟩ := h
        refine gz_callV (pc' := 41) d_181_38 rfl st_181_168 na_100 ml_100 rfl rfl rfl rm_181_100 rfl rfl ow_100 (ko_12 hC4) hk13 ?_
        refine g_aloadn (pc' := 42) d_181_41 rfl rfl ?_
        refine gz_getR (pc' := 45) d_181_42 rfl st_181_95 (kr_0_13 hC14) ?_
        refine g_aloadn (pc' := 46) d_181_45 rfl rfl ?_
        refine gz_getR (pc' := 49) d_181_46 rfl st_181_39 (kr_0_4 hC14) ?_
        refine g_iloadn (pc' := 50) d_181_49 rfl rfl ?_
        obtain ⟨r18, w15, hk16, hC17, h⟩ := h
        refine gz_callV (pc' := 53) d_181_50 rfl st_181_255 na_63 ml_63 rfl rfl rfl rm_181_63 rfl rfl ow_63 (ko_12 hC14) hk16 ?_
        obtain ⟨hc19, h⟩ := h
        refine gz_i2l (pc' := 54) d_181_53 rfl hc19 ?_
        refine g_lloadn (pc' := 55) d_181_54 rfl rfl ?_
        refine gz_lmul (pc' := 56) d_181_55 rfl ?_
        refine g_lloadn (pc' := 57) d_181_56 rfl rfl ?_
        refine g_lconst (pc' := 58) (v := jL 1) d_181_57 rfl cl_1 ?_
        refine gz_lsub (pc' := 59) d_181_58 rfl ?_
        refine gz_lmul (pc' := 60) d_181_59 rfl ?_
        obtain ⟨w20, hk21, hC22, h⟩ := h
        refine gz_callV (pc' := 63) d_181_60 rfl st_181_339 na_43 ml_43 rfl rfl rfl rm_181_43 rfl rfl ow_43 (ko_36 hC17) hk21 ?_
        refine g_aloadn (pc' := 64) d_181_63 rfl rfl ?_
        refine gz_getR (pc' := 67) d_181_64 rfl st_181_95 (kr_0_13 hC22) ?_
        refine g_iloadn (pc' := 68) d_181_67 rfl rfl ?_
        refine gz_i2l (pc' := 69) d_181_68 rfl hc1 ?_
        obtain ⟨w23, hk24, hC25, h⟩ := h
        refine gz_callV (pc' := 72) d_181_69 rfl st_181_342 na_44 ml_44 rfl rfl rfl rm_181_44 rfl rfl ow_44 (ko_36 hC22) hk24 ?_
        refine g_aloadn (pc' := 73) d_181_72 rfl rfl ?_
        refine gz_getR (pc' := 76) d_181_73 rfl st_181_95 (kr_0_13 hC25) ?_
        obtain ⟨x26, hv27, h⟩ := h
        refine gz_getJ (pc' := 79) d_181_76 rfl st_181_391 hv27 ?_
        refine g_lconst (pc' := 80) (v := jL 0) d_181_79 rfl cl_0 ?_
        obtain ⟨hc28, h⟩ := h
        refine gz_lc_ne (pc' := 84) (pm := 81) (pt := 94) d_181_80 rfl d_181_81 (by decide) rfl hc28 (s64 (z := 0)) (fun c => ?_) (fun c => ?_)
        · replace h := h.1 c
          refine g_ldc2 (pc' := 97) d_181_94 rfl st_181_166 rfl ?_
          exact g_lret d_181_97 rt_181 h
        · replace h := h.2 c
          refine g_aloadn (pc' := 85) d_181_84 rfl rfl ?_
          refine gz_getR (pc' := 88) d_181_85 rfl st_181_95 (kr_0_13 hC25) ?_
          obtain ⟨x29, hv30, h⟩ := h
          refine gz_getJ (pc' := 91) d_181_88 rfl st_181_218 hv30 ?_
          refine g_goto (pt := 97) d_181_91 (by decide) ?_
          exact g_lret d_181_97 rt_181 h
      · replace h := h.2 c
        refine g_ldc2 (pc' := 24) d_181_21 rfl st_181_166 rfl ?_
        exact g_lret d_181_24 rt_181 h
theorem Z_181 {z1 : Int} {w : xW} {r : Option Value × xW} (hC : CS w) (h : in32 z1 ∧ (22 < z1 → r = (some (.long (jL (-9223372036854775808))), w)) ∧ (z1 ≤ 22 → ∃ (P5 : Prop) (dP6 : Decidable P5) (w2 : xW), xCall 47 [.int (jI z1)] w (some (.int (bz P5)), w2) ∧ CS w2 ∧ (¬ P5 → r = (some (.long (jL (-9223372036854775808))), w2)) ∧ (P5 → ∃ x7, fI w2 0 0 7 x7 ∧ in32 x7 ∧ (z1 ≤ x7 → ∃ y10, jL 1 <<< ((jI z1).toInt64 &&& 63) = jL y10 ∧ ∃ w12, xCall 100 [.ref 12, .int (jI z1), .ref 36] w2 (none, w12) ∧ CS w12 ∧ ∃ r18 w15, xCall 63 [.ref 12, .int (jI z1)] w12 (some (.int (jI r18)), w15) ∧ CS w15 ∧ in32 r18 ∧ ∃ w20, xCall 43 [.ref 36, .long (jL ((r18 * y10) * (y10 - 1)))] w15 (none, w20) ∧ CS w20 ∧ ∃ w23, xCall 44 [.ref 36, .long (jL z1)] w20 (none, w23) ∧ CS w23 ∧ ∃ x26, fJ w23 36 5 1 x26 ∧ in64 x26 ∧ (x26 ≠ 0 → r = (some (.long (jL (-9223372036854775808))), w23)) ∧ (x26 = 0 → ∃ x29, fJ w23 36 5 0 x29 ∧ r = (some (.long (jL x29)), w23))) ∧ (x7 < z1 → r = (some (.long (jL (-9223372036854775808))), w2))))) : xCall 181 [.ref 0, .int (jI z1)] w r := E_181 (Z_181_0 hC h)
theorem Z_182_0 {z1 : Int} {w : xW} {r : Option Value × xW} (hC : CS w) (h : in32 z1 ∧ (z1 < 4 → r = (some (.int (jI (-1))), w)) ∧ (4 ≤ z1 → (38 < z1 → r = (some (.int (jI (-1))), w)) ∧ (z1 ≤ 38 → ∃ y2, Int.tmod z1 2 = y2 ∧ in32 y2 ∧ (y2 = 0 → ∃ x5, fI w 0 0 7 x5 ∧ in32 x5 ∧ (z1 ≤ x5 → ∃ r11 w8, xCall 29 [.ref 12, .int (jI (z1 - 2))] w (some (.long (jL r11)), w8) ∧ CS w8 ∧ ∃ r15 w12, xCall 183 [.long (jL r11)] w8 (some (.long (jL r15)), w12) ∧ CS w12 ∧ in64 r15 ∧ (r15 ≠ 0 → ∃ r20 w17, xCall 29 [.ref 12, .int (jI z1)] w12 (some (.long (jL r20)), w17) ∧ CS w17 ∧ ∃ r24 w21, xCall 183 [.long (jL r20)] w17 (some (.long (jL r24)), w21) ∧ CS w21 ∧ in64 r24 ∧ r15 ≠ 0 ∧ ∃ y27, Int.tdiv r24 r15 = y27 ∧ r = (some (.int (jI y27)), w21)) ∧ (r15 = 0 → r = (some (.int (jI 0)), w12))) ∧ (x5 < z1 → r = (some (.int (jI (-2))), w))) ∧ (y2 ≠ 0 → r = (some (.int (jI (-1))), w))))) : xGo 182 0 [some (.ref 0), some (.int (jI z1)), none, none] [] w r := by
  refine g_iloadn (pc' := 1) d_182_0 rfl rfl ?_
  refine g_iconst (pc' := 2) d_182_1 rfl rfl ?_
  obtain ⟨hc1, h⟩ := h
  refine gz_ic_lt (pc' := 5) (pt := 17) d_182_2 (by decide) rfl hc1 (s32 (z := 4)) (fun c => ?_) (fun c => ?_)
  · replace h := h.1 c
    refine g_iconst (pc' := 18) d_182_17 rfl rfl ?_
    exact g_iret d_182_18 rt_182 h
  · replace h := h.2 c
    refine g_iloadn (pc' := 6) d_182_5 rfl rfl ?_
    refine g_bipush (pc' := 8) (v := jI 38) d_182_6 rfl (by decide) ?_
    refine gz_ic_gt (pc' := 11) (pt := 17) d_182_8 (by decide) rfl hc1 (s32 (z := 38)) (fun c => ?_) (fun c => ?_)
    · replace h := h.1 c
      refine g_iconst (pc' := 18) d_182_17 rfl rfl ?_
      exact g_iret d_182_18 rt_182 h
    · replace h := h.2 c
      refine g_iloadn (pc' := 12) d_182_11 rfl rfl ?_
      refine g_iconst (pc' := 13) d_182_12 rfl rfl ?_
      obtain ⟨y2, hz3, h⟩ := h
      refine gz_irem (pc' := 14) d_182_13 rfl hc1 (s32 (z := 2)) (by decide) hz3 ?_
      obtain ⟨hc4, h⟩ := h
      refine gz_if_eq (pc' := 17) (pt := 19) d_182_14 (by decide) rfl hc4 (fun c => ?_) (fun c => ?_)
      · replace h := h.1 c
        refine g_iloadn (pc' := 20) d_182_19 rfl rfl ?_
        refine g_aloadn (pc' := 21) d_182_20 rfl rfl ?_
        obtain ⟨x5, hv6, h⟩ := h
        refine gz_getI (pc' := 24) d_182_21 rfl st_182_49 hv6 ?_
        obtain ⟨hc7, h⟩ := h
        refine gz_ic_le (pc' := 27) (pt := 30) d_182_24 (by decide) rfl hc1 hc7 (fun c => ?_) (fun c => ?_)
        · replace h := h.1 c
          refine g_aloadn (pc' := 31) d_182_30 rfl rfl ?_
          refine gz_getR (pc' := 34) d_182_31 rfl st_182_39 (kr_0_4 hC) ?_
          refine g_iloadn (pc' := 35) d_182_34 rfl rfl ?_
          refine g_iconst (pc' := 36) d_182_35 rfl rfl ?_
          refine gz_isub (pc' := 37) d_182_36 rfl ?_
          obtain ⟨r11, w8, hk9, hC10, h⟩ := h
          refine gz_callV (pc' := 40) d_182_37 rfl st_182_198 na_29 ml_29 rfl rfl rfl rm_182_29 rfl rfl ow_29 (ko_12 hC) hk9 ?_
          obtain ⟨r15, w12, hk13, hC14, h⟩ := h
          refine g_callS (pc' := 43) d_182_40 rfl st_182_405 (Or.inl rfl) na_183 ml_183 rfl rfl rfl rm_182_183 rfl rfl hk13 ?_
          refine g_lstoren (pc' := 44) (l' := [some (.ref 0), some (.int (jI z1)), some (.long (jL r15)), none]) d_182_43 rfl ml_182 rfl rfl ?_
          refine g_lloadn (pc' := 45) d_182_44 rfl rfl ?_
          refine g_lconst (pc' := 46) (v := jL 0) d_182_45 rfl cl_0 ?_
          obtain ⟨hc16, h⟩ := h
          refine gz_lc_ne (pc' := 50) (pm := 47) (pt := 54) d_182_46 rfl d_182_47 (by decide) rfl hc16 (s64 (z := 0)) (fun c => ?_) (fun c => ?_)
          · replace h := h.1 c
            refine g_aloadn (pc' := 55) d_182_54 rfl rfl ?_
            refine gz_getR (pc' := 58) d_182_55 rfl st_182_39 (kr_0_4 hC14) ?_
            refine g_iloadn (pc' := 59) d_182_58 rfl rfl ?_
            obtain ⟨r20, w17, hk18, hC19, h⟩ := h
            refine gz_callV (pc' := 62) d_182_59 rfl st_182_198 na_29 ml_29 rfl rfl rfl rm_182_29 rfl rfl ow_29 (ko_12 hC14) hk18 ?_
            obtain ⟨r24, w21, hk22, hC23, h⟩ := h
            refine g_callS (pc' := 65) d_182_62 rfl st_182_405 (Or.inl rfl) na_183 ml_183 rfl rfl rfl rm_182_183 rfl rfl hk22 ?_
            refine g_lloadn (pc' := 66) d_182_65 rfl rfl ?_
            obtain ⟨hc25, h⟩ := h
            obtain ⟨hc26, h⟩ := h
            obtain ⟨y27, hz28, h⟩ := h
            refine gz_ldiv (pc' := 67) d_182_66 rfl hc25 hc16 hc26 hz28 ?_
            refine gz_l2i (pc' := 68) d_182_67 rfl ?_
            exact g_iret d_182_68 rt_182 h
          · replace h := h.2 c
            refine g_iconst (pc' := 51) d_182_50 rfl rfl ?_
            refine g_goto (pt := 68) d_182_51 (by decide) ?_
            exact g_iret d_182_68 rt_182 h
        · replace h := h.2 c
          refine g_bipush (pc' := 29) (v := jI (-2)) d_182_27 rfl (by decide) ?_
          exact g_iret d_182_29 rt_182 h
      · replace h := h.2 c
        refine g_iconst (pc' := 18) d_182_17 rfl rfl ?_
        exact g_iret d_182_18 rt_182 h
theorem Z_182 {z1 : Int} {w : xW} {r : Option Value × xW} (hC : CS w) (h : in32 z1 ∧ (z1 < 4 → r = (some (.int (jI (-1))), w)) ∧ (4 ≤ z1 → (38 < z1 → r = (some (.int (jI (-1))), w)) ∧ (z1 ≤ 38 → ∃ y2, Int.tmod z1 2 = y2 ∧ in32 y2 ∧ (y2 = 0 → ∃ x5, fI w 0 0 7 x5 ∧ in32 x5 ∧ (z1 ≤ x5 → ∃ r11 w8, xCall 29 [.ref 12, .int (jI (z1 - 2))] w (some (.long (jL r11)), w8) ∧ CS w8 ∧ ∃ r15 w12, xCall 183 [.long (jL r11)] w8 (some (.long (jL r15)), w12) ∧ CS w12 ∧ in64 r15 ∧ (r15 ≠ 0 → ∃ r20 w17, xCall 29 [.ref 12, .int (jI z1)] w12 (some (.long (jL r20)), w17) ∧ CS w17 ∧ ∃ r24 w21, xCall 183 [.long (jL r20)] w17 (some (.long (jL r24)), w21) ∧ CS w21 ∧ in64 r24 ∧ r15 ≠ 0 ∧ ∃ y27, Int.tdiv r24 r15 = y27 ∧ r = (some (.int (jI y27)), w21)) ∧ (r15 = 0 → r = (some (.int (jI 0)), w12))) ∧ (x5 < z1 → r = (some (.int (jI (-2))), w))) ∧ (y2 ≠ 0 → r = (some (.int (jI (-1))), w))))) : xCall 182 [.ref 0, .int (jI z1)] w r := E_182 (Z_182_0 hC h)
theorem Z_183_0 {z0 : Int} {w : xW} {r : Option Value × xW} (hC : CS w) (h : in64 z0 ∧ (0 ≤ z0 → r = (some (.long (jL z0)), w)) ∧ (z0 < 0 → r = (some (.long (jL (-z0))), w))) : xGo 183 0 [some (.long (jL z0)), none] [] w r := by
  refine g_lloadn (pc' := 1) d_183_0 rfl rfl ?_
  refine g_lconst (pc' := 2) (v := jL 0) d_183_1 rfl cl_0 ?_
  obtain ⟨hc1, h⟩ := h
  refine gz_lc_ge (pc' := 6) (pm := 3) (pt := 11) d_183_2 rfl d_183_3 (by decide) rfl hc1 (s64 (z := 0)) (fun c => ?_) (fun c => ?_)
  · replace h := h.1 c
    refine g_lloadn (pc' := 12) d_183_11 rfl rfl ?_
    exact g_lret d_183_12 rt_183 h
  · replace h := h.2 c
    refine g_lloadn (pc' := 7) d_183_6 rfl rfl ?_
    refine gz_lneg (pc' := 8) d_183_7 rfl ?_
    refine g_goto (pt := 12) d_183_8 (by decide) ?_
    exact g_lret d_183_12 rt_183 h
theorem Z_183 {z0 : Int} {w : xW} {r : Option Value × xW} (hC : CS w) (h : in64 z0 ∧ (0 ≤ z0 → r = (some (.long (jL z0)), w)) ∧ (z0 < 0 → r = (some (.long (jL (-z0))), w))) : xCall 183 [.long (jL z0)] w r := E_183 (Z_183_0 hC h)
theorem Z_185_0  {w : xW} {r : Option Value × xW} (hC : CS w) (h : xGo 185 4 [some (.ref 0), some (.int (jI 0)), some (.int (jI 0))] [] w r) : xGo 185 0 [some (.ref 0), none, none] [] w r := by
  refine g_iconst (pc' := 1) d_185_0 rfl rfl ?_
  refine g_istoren (pc' := 2) (l' := [some (.ref 0), some (.int (jI 0)), none]) d_185_1 rfl ml_185 rfl rfl ?_
  refine g_iconst (pc' := 3) d_185_2 rfl rfl ?_
  refine g_istoren (pc' := 4) (l' := [some (.ref 0), some (.int (jI 0)), some (.int (jI 0))]) d_185_3 rfl ml_185 rfl rfl ?_
  exact h
theorem Z_185  {w : xW} {r : Option Value × xW} (hC : CS w) (h : xGo 185 4 [some (.ref 0), some (.int (jI 0)), some (.int (jI 0))] [] w r) : xCall 185 [.ref 0] w r := E_185 (Z_185_0 hC h)
theorem Z_185_4 {z1 : Int} {z2 : Int} {w : xW} {r : Option Value × xW} (hC : CS w) (h : ∃ x1, fI w 0 0 7 x1 ∧ in32 z2 ∧ in32 x1 ∧ (x1 < z2 → r = (some (.int (jI z1)), w)) ∧ (z2 ≤ x1 → ∃ (P8 : Prop) (dP9 : Decidable P8) (w5 : xW), xCall 27 [.ref 0, .int (jI z2)] w (some (.int (bz P8)), w5) ∧ CS w5 ∧ (P8 → xGo 185 4 [some (.ref 0), some (.int (jI z1)), some (.int (jI (z2 + 1)))] [] w5 r) ∧ (¬ P8 → xGo 185 4 [some (.ref 0), some (.int (jI (z1 + 1))), some (.int (jI (z2 + 1)))] [] w5 r))) : xGo 185 4 [some (.ref 0), some (.int (jI z1)), some (.int (jI z2))] [] w r := by
  refine g_iloadn (pc' := 5) d_185_4 rfl rfl ?_
  refine g_aloadn (pc' := 6) d_185_5 rfl rfl ?_
  obtain ⟨x1, hv2, h⟩ := h
  refine gz_getI (pc' := 9) d_185_6 rfl st_185_49 hv2 ?_
  obtain ⟨hc3, h⟩ := h
  obtain ⟨hc4, h⟩ := h
  refine gz_ic_gt (pc' := 12) (pt := 29) d_185_9 (by decide) rfl hc3 hc4 (fun c => ?_) (fun c => ?_)
  · replace h := h.1 c
    refine g_iloadn (pc' := 30) d_185_29 rfl rfl ?_
    exact g_iret d_185_30 rt_185 h
  · replace h := h.2 c
    refine g_aloadn (pc' := 13) d_185_12 rfl rfl ?_
    refine g_iloadn (pc' := 14) d_185_13 rfl rfl ?_
    obtain ⟨P8, dP9, w5, hk6, hC7, h⟩ := h
    refine gz_callV (pc' := 17) d_185_14 rfl st_185_174 na_27 ml_27 rfl rfl rfl rm_185_27 rfl rfl ow_27 (ko_0 hC) hk6 ?_
    refine gz_bt_ne (pc' := 20) (pt := 23) d_185_17 (by decide) rfl (fun c => ?_) (fun c => ?_)
    · replace h := h.1 c
      refine gz_iinc (pc' := 26) (l' := [some (.ref 0), some (.int (jI z1)), some (.int (jI (z2 + 1)))]) d_185_23 rfl rfl ml_185 rfl rfl ?_
      refine g_goto (pt := 4) d_185_26 (by decide) ?_
      exact h
    · replace h := h.2 c
      refine gz_iinc (pc' := 23) (l' := [some (.ref 0), some (.int (jI (z1 + 1))), some (.int (jI z2))]) d_185_20 rfl rfl ml_185 rfl rfl ?_
      refine gz_iinc (pc' := 26) (l' := [some (.ref 0), some (.int (jI (z1 + 1))), some (.int (jI (z2 + 1)))]) d_185_23 rfl rfl ml_185 rfl rfl ?_
      refine g_goto (pt := 4) d_185_26 (by decide) ?_
      exact h
theorem Z_186_0  {w : xW} {r : Option Value × xW} (hC : CS w) (h : xGo 186 4 [some (.ref 0), some (.int (jI 0)), some (.int (jI 0))] [] w r) : xGo 186 0 [some (.ref 0), none, none] [] w r := by
  refine g_iconst (pc' := 1) d_186_0 rfl rfl ?_
  refine g_istoren (pc' := 2) (l' := [some (.ref 0), some (.int (jI 0)), none]) d_186_1 rfl ml_186 rfl rfl ?_
  refine g_iconst (pc' := 3) d_186_2 rfl rfl ?_
  refine g_istoren (pc' := 4) (l' := [some (.ref 0), some (.int (jI 0)), some (.int (jI 0))]) d_186_3 rfl ml_186 rfl rfl ?_
  exact h
theorem Z_186  {w : xW} {r : Option Value × xW} (hC : CS w) (h : xGo 186 4 [some (.ref 0), some (.int (jI 0)), some (.int (jI 0))] [] w r) : xCall 186 [.ref 0] w r := E_186 (Z_186_0 hC h)
theorem Z_186_4 {z1 : Int} {z2 : Int} {w : xW} {r : Option Value × xW} (hC : CS w) (h : ∃ r4 w1, xCall 93 [.ref 24] w (some (.int (jI r4)), w1) ∧ CS w1 ∧ in32 z2 ∧ in32 r4 ∧ (r4 ≤ z2 → r = (some (.int (jI z1)), w1)) ∧ (z2 < r4 → ∃ (P10 : Prop) (dP11 : Decidable P10) (w7 : xW), xCall 97 [.ref 0, .int (jI z2)] w1 (some (.int (bz P10)), w7) ∧ CS w7 ∧ (P10 → xGo 186 4 [some (.ref 0), some (.int (jI z1)), some (.int (jI (z2 + 1)))] [] w7 r) ∧ (¬ P10 → xGo 186 4 [some (.ref 0), some (.int (jI (z1 + 1))), some (.int (jI (z2 + 1)))] [] w7 r))) : xGo 186 4 [some (.ref 0), some (.int (jI z1)), some (.int (jI z2))] [] w r := by
  refine g_iloadn (pc' := 5) d_186_4 rfl rfl ?_
  refine g_aloadn (pc' := 6) d_186_5 rfl rfl ?_
  refine gz_getR (pc' := 9) d_186_6 rfl st_186_65 (kr_0_9 hC) ?_
  obtain ⟨r4, w1, hk2, hC3, h⟩ := h
  refine gz_callV (pc' := 12) d_186_9 rfl st_186_238 na_93 ml_93 rfl rfl rfl rm_186_93 rfl rfl ow_93 (ko_24 hC) hk2 ?_
  obtain ⟨hc5, h⟩ := h
  obtain ⟨hc6, h⟩ := h
  refine gz_ic_ge (pc' := 15) (pt := 32) d_186_12 (by decide) rfl hc5 hc6 (fun c => ?_) (fun c => ?_)
  · replace h := h.1 c
    refine g_iloadn (pc' := 33) d_186_32 rfl rfl ?_
    exact g_iret d_186_33 rt_186 h
  · replace h := h.2 c
    refine g_aloadn (pc' := 16) d_186_15 rfl rfl ?_
    refine g_iloadn (pc' := 17) d_186_16 rfl rfl ?_
    obtain ⟨P10, dP11, w7, hk8, hC9, h⟩ := h
    refine gz_callV (pc' := 20) d_186_17 rfl st_186_252 na_97 ml_97 rfl rfl rfl rm_186_97 rfl rfl ow_97 (ko_0 hC3) hk8 ?_
    refine gz_bt_ne (pc' := 23) (pt := 26) d_186_20 (by decide) rfl (fun c => ?_) (fun c => ?_)
    · replace h := h.1 c
      refine gz_iinc (pc' := 29) (l' := [some (.ref 0), some (.int (jI z1)), some (.int (jI (z2 + 1)))]) d_186_26 rfl rfl ml_186 rfl rfl ?_
      refine g_goto (pt := 4) d_186_29 (by decide) ?_
      exact h
    · replace h := h.2 c
      refine gz_iinc (pc' := 26) (l' := [some (.ref 0), some (.int (jI (z1 + 1))), some (.int (jI z2))]) d_186_23 rfl rfl ml_186 rfl rfl ?_
      refine gz_iinc (pc' := 29) (l' := [some (.ref 0), some (.int (jI (z1 + 1))), some (.int (jI (z2 + 1)))]) d_186_26 rfl rfl ml_186 rfl rfl ?_
      refine g_goto (pt := 4) d_186_29 (by decide) ?_
      exact h
theorem Z_189_0 {a0 : Nat} {z1 : Int} {z2 : Int} {z4 : Int} {z6 : Int} {w : xW} {r : Option Value × xW} (hC : CS w) (h : ((0 : Int) ≤ 3 * z1 ∧ hasL w a0 (3 * z1).toNat) ∧ ∀ w3, w3 = pL w a0 (3 * z1).toNat (jL z2) → CS w3 → ((0 : Int) ≤ (3 * z1) + 1 ∧ hasL w3 a0 ((3 * z1) + 1).toNat) ∧ ∀ w7, w7 = pL w3 a0 ((3 * z1) + 1).toNat (jL z4) → CS w7 → ((0 : Int) ≤ (3 * z1) + 2 ∧ hasL w7 a0 ((3 * z1) + 2).toNat) ∧ ∀ w11, w11 = pL w7 a0 ((3 * z1) + 2).toNat (jL z6) → CS w11 → r = (none, w11)) : xGo 189 0 [some (.ref a0), some (.int (jI z1)), some (.long (jL z2)), none, some (.long (jL z4)), none, some (.long (jL z6)), none] [] w r := by
  refine g_aloadn (pc' := 1) d_189_0 rfl rfl ?_
  refine g_iconst (pc' := 2) d_189_1 rfl rfl ?_
  refine g_iloadn (pc' := 3) d_189_2 rfl rfl ?_
  refine gz_imul (pc' := 4) d_189_3 rfl ?_
  refine g_lloadn (pc' := 5) d_189_4 rfl rfl ?_
  obtain ⟨hc1, h⟩ := h
  have hs2 := hc1
  have hC4 : CS (pL w a0 (3 * z1).toNat (jL z2)) := hC.putL
  have h := h _ rfl hC4
  refine gz_last (pc' := 6) d_189_5 rfl hs2 ?_
  refine g_aloadn (pc' := 7) d_189_6 rfl rfl ?_
  refine g_iconst (pc' := 8) d_189_7 rfl rfl ?_
  refine g_iloadn (pc' := 9) d_189_8 rfl rfl ?_
  refine gz_imul (pc' := 10) d_189_9 rfl ?_
  refine g_iconst (pc' := 11) d_189_10 rfl rfl ?_
  refine gz_iadd (pc' := 12) d_189_11 rfl ?_
  refine g_lload (pc' := 14) d_189_12 rfl rfl ?_
  obtain ⟨hc5, h⟩ := h
  have hs6 := hc5
  have hC8 : CS (pL (pL w a0 (3 * z1).toNat (jL z2)) a0 ((3 * z1) + 1).toNat (jL z4)) := hC4.putL
  have h := h _ rfl hC8
  refine gz_last (pc' := 15) d_189_14 rfl hs6 ?_
  refine g_aloadn (pc' := 16) d_189_15 rfl rfl ?_
  refine g_iconst (pc' := 17) d_189_16 rfl rfl ?_
  refine g_iloadn (pc' := 18) d_189_17 rfl rfl ?_
  refine gz_imul (pc' := 19) d_189_18 rfl ?_
  refine g_iconst (pc' := 20) d_189_19 rfl rfl ?_
  refine gz_iadd (pc' := 21) d_189_20 rfl ?_
  refine g_lload (pc' := 23) d_189_21 rfl rfl ?_
  obtain ⟨hc9, h⟩ := h
  have hs10 := hc9
  have hC12 : CS (pL (pL (pL w a0 (3 * z1).toNat (jL z2)) a0 ((3 * z1) + 1).toNat (jL z4)) a0 ((3 * z1) + 2).toNat (jL z6)) := hC8.putL
  have h := h _ rfl hC12
  refine gz_last (pc' := 24) d_189_23 rfl hs10 ?_
  exact g_vret d_189_24 rt_189 h
theorem Z_189 {a0 : Nat} {z1 : Int} {z2 : Int} {z4 : Int} {z6 : Int} {w : xW} {r : Option Value × xW} (hC : CS w) (h : ((0 : Int) ≤ 3 * z1 ∧ hasL w a0 (3 * z1).toNat) ∧ ∀ w3, w3 = pL w a0 (3 * z1).toNat (jL z2) → CS w3 → ((0 : Int) ≤ (3 * z1) + 1 ∧ hasL w3 a0 ((3 * z1) + 1).toNat) ∧ ∀ w7, w7 = pL w3 a0 ((3 * z1) + 1).toNat (jL z4) → CS w7 → ((0 : Int) ≤ (3 * z1) + 2 ∧ hasL w7 a0 ((3 * z1) + 2).toNat) ∧ ∀ w11, w11 = pL w7 a0 ((3 * z1) + 2).toNat (jL z6) → CS w11 → r = (none, w11)) : xCall 189 [.ref a0, .int (jI z1), .long (jL z2), .long (jL z4), .long (jL z6)] w r := E_189 (Z_189_0 hC h)
theorem Z_190_0 {a1 : Nat} {z2 : Int} {z3 : Int} {w : xW} {r : Option Value × xW} (hC : CS w) (h : ∀ w2, w2 = pF w 39 8 (.long (jL 0)) → CS w2 → ∀ w5, w5 = pF w2 39 9 (.long (jL 0)) → CS w5 → xGo 190 13 [some (.ref 39), some (.ref a1), some (.int (jI z2)), some (.int (jI z3)), some (.int (jI 0))] [] w5 r) : xGo 190 0 [some (.ref 39), some (.ref a1), some (.int (jI z2)), some (.int (jI z3)), none] [] w r := by
  refine g_aloadn (pc' := 1) d_190_0 rfl rfl ?_
  refine g_lconst (pc' := 2) (v := jL 0) d_190_1 rfl cl_0 ?_
  have hpf1 := (kf_39_8 hC)
  have hC3 : CS (pF w 39 8 (.long (jL 0))) := ks_39_8 hC
  have h := h _ rfl hC3
  refine gz_putf (pc' := 5) d_190_2 rfl st_190_107 ft_12_8 ff_12_8 rfl (Or.inl rfl) hpf1 ?_
  refine g_aloadn (pc' := 6) d_190_5 rfl rfl ?_
  refine g_lconst (pc' := 7) (v := jL 0) d_190_6 rfl cl_0 ?_
  have hpf4 := (kf_39_9 hC3)
  have hC6 : CS (pF (pF w 39 8 (.long (jL 0))) 39 9 (.long (jL 0))) := ks_39_9 hC3
  have h := h _ rfl hC6
  refine gz_putf (pc' := 10) d_190_7 rfl st_190_111 ft_12_9 ff_12_9 rfl (Or.inl rfl) hpf4 ?_
  refine g_iconst (pc' := 11) d_190_10 rfl rfl ?_
  refine g_istore (pc' := 13) (l' := [some (.ref 39), some (.ref a1), some (.int (jI z2)), some (.int (jI z3)), some (.int (jI 0))]) d_190_11 rfl ml_190 rfl rfl ?_
  exact h
theorem Z_190 {a1 : Nat} {z2 : Int} {z3 : Int} {w : xW} {r : Option Value × xW} (hC : CS w) (h : ∀ w2, w2 = pF w 39 8 (.long (jL 0)) → CS w2 → ∀ w5, w5 = pF w2 39 9 (.long (jL 0)) → CS w5 → xGo 190 13 [some (.ref 39), some (.ref a1), some (.int (jI z2)), some (.int (jI z3)), some (.int (jI 0))] [] w5 r) : xCall 190 [.ref 39, .ref a1, .int (jI z2), .int (jI z3)] w r := E_190 (Z_190_0 hC h)
theorem Z_190_13 {a1 : Nat} {z2 : Int} {z3 : Int} {z4 : Int} {w : xW} {r : Option Value × xW} (hC : CS w) (h : in32 z4 ∧ in32 z3 ∧ (z3 < z4 → ∃ x3, fJ w 39 12 8 x3 ∧ ∃ x5, fJ w 39 12 9 x5 ∧ in64 x5 ∧ ∃ y8, Int.tdiv x5 7420738134810 = y8 ∧ ∀ w11, w11 = pF w 39 8 (.long (jL (x3 + y8))) → CS w11 → ∃ x13, fJ w11 39 12 9 x13 ∧ in64 x13 ∧ ∃ y16, Int.tmod x13 7420738134810 = y16 ∧ ∀ w19, w19 = pF w11 39 9 (.long (jL y16)) → CS w19 → r = (none, w19)) ∧ (z4 ≤ z3 → 0 ≤ (40 * z2) + z4 ∧ ∃ x22, rL w 43 ((40 * z2) + z4).toNat x22 ∧ ∃ w24, xCall 191 [.ref 39, .ref a1, .long (jL x22), .int (jI z4)] w (none, w24) ∧ CS w24 ∧ xGo 190 13 [some (.ref 39), some (.ref a1), some (.int (jI z2)), some (.int (jI z3)), some (.int (jI (z4 + 1)))] [] w24 r)) : xGo 190 13 [some (.ref 39), some (.ref a1), some (.int (jI z2)), some (.int (jI z3)), some (.int (jI z4))] [] w r := by
  refine g_iload (pc' := 15) d_190_13 rfl rfl ?_
  refine g_iloadn (pc' := 16) d_190_15 rfl rfl ?_
  obtain ⟨hc1, h⟩ := h
  obtain ⟨hc2, h⟩ := h
  refine gz_ic_gt (pc' := 19) (pt := 44) d_190_16 (by decide) rfl hc1 hc2 (fun c => ?_) (fun c => ?_)
  · replace h := h.1 c
    refine g_aloadn (pc' := 45) d_190_44 rfl rfl ?_
    refine g_dup (pc' := 46) d_190_45 rfl rfl ?_
    obtain ⟨x3, hv4, h⟩ := h
    refine gz_getJ (pc' := 49) d_190_46 rfl st_190_107 hv4 ?_
    refine g_aloadn (pc' := 50) d_190_49 rfl rfl ?_
    obtain ⟨x5, hv6, h⟩ := h
    refine gz_getJ (pc' := 53) d_190_50 rfl st_190_111 hv6 ?_
    refine g_ldc2 (pc' := 56) d_190_53 rfl st_190_125 rfl ?_
    obtain ⟨hc7, h⟩ := h
    obtain ⟨y8, hz9, h⟩ := h
    refine gz_ldiv (pc' := 57) d_190_56 rfl hc7 (s64 (z := 7420738134810)) (by decide) hz9 ?_
    refine gz_ladd (pc' := 58) d_190_57 rfl ?_
    have hpf10 := (kf_39_8 hC)
    have hC12 : CS (pF w 39 8 (.long (jL (x3 + y8)))) := ks_39_8 hC
    have h := h _ rfl hC12
    refine gz_putf (pc' := 61) d_190_58 rfl st_190_107 ft_12_8 ff_12_8 rfl (Or.inl rfl) hpf10 ?_
    refine g_aloadn (pc' := 62) d_190_61 rfl rfl ?_
    refine g_aloadn (pc' := 63) d_190_62 rfl rfl ?_
    obtain ⟨x13, hv14, h⟩ := h
    refine gz_getJ (pc' := 66) d_190_63 rfl st_190_111 hv14 ?_
    refine g_ldc2 (pc' := 69) d_190_66 rfl st_190_125 rfl ?_
    obtain ⟨hc15, h⟩ := h
    obtain ⟨y16, hz17, h⟩ := h
    refine gz_lrem (pc' := 70) d_190_69 rfl hc15 (s64 (z := 7420738134810)) (by decide) hz17 ?_
    have hpf18 := (kf_39_9 hC12)
    have hC20 : CS (pF (pF w 39 8 (.long (jL (x3 + y8)))) 39 9 (.long (jL y16))) := ks_39_9 hC12
    have h := h _ rfl hC20
    refine gz_putf (pc' := 73) d_190_70 rfl st_190_111 ft_12_9 ff_12_9 rfl (Or.inl rfl) hpf18 ?_
    exact g_vret d_190_73 rt_190 h
  · replace h := h.2 c
    refine g_aloadn (pc' := 20) d_190_19 rfl rfl ?_
    refine g_aloadn (pc' := 21) d_190_20 rfl rfl ?_
    refine g_aloadn (pc' := 22) d_190_21 rfl rfl ?_
    refine gz_getR (pc' := 25) d_190_22 rfl st_190_24 (kr_39_5 hC) ?_
    refine g_bipush (pc' := 27) (v := jI 40) d_190_25 rfl (by decide) ?_
    refine g_iloadn (pc' := 28) d_190_27 rfl rfl ?_
    refine gz_imul (pc' := 29) d_190_28 rfl ?_
    refine g_iload (pc' := 31) d_190_29 rfl rfl ?_
    refine gz_iadd (pc' := 32) d_190_31 rfl ?_
    obtain ⟨hc21, h⟩ := h
    obtain ⟨x22, hv23, h⟩ := h
    refine gz_lald (pc' := 33) d_190_32 rfl hc21 hv23 ?_
    refine g_iload (pc' := 35) d_190_33 rfl rfl ?_
    obtain ⟨w24, hk25, hC26, h⟩ := h
    refine gz_callV (pc' := 38) d_190_35 rfl st_190_127 na_191 ml_191 rfl rfl rfl rm_190_191 rfl rfl ow_191 (ko_39 hC) hk25 ?_
    refine gz_iinc (pc' := 41) (l' := [some (.ref 39), some (.ref a1), some (.int (jI z2)), some (.int (jI z3)), some (.int (jI (z4 + 1)))]) d_190_38 rfl rfl ml_190 rfl rfl ?_
    refine g_goto (pt := 13) d_190_41 (by decide) ?_
    exact h
