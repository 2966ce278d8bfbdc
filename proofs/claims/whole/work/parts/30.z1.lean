/-! Z rows, laid by wip/whole/zp.py -/
theorem Z_79 {z1 : Int} {w : xW} {r : Option Value × xW} (hC : CS w) (h : ∃ (P4 : Prop) (dP5 : Decidable P4) (w1 : xW), xCall 24 [.int (jI z1)] w (some (.int (bz P4)), w1) ∧ CS w1 ∧ (P4 → ∃ x6, fI w1 0 0 7 x6 ∧ in32 z1 ∧ in32 x6 ∧ (z1 ≤ x6 → ∃ (P13 : Prop) (dP14 : Decidable P13) (w10 : xW), xCall 27 [.ref 0, .int (jI z1)] w1 (some (.int (bz P13)), w10) ∧ CS w10 ∧ (¬ P13 → r = (some (.int (jI 0)), w10)) ∧ (P13 → r = (some (.int (jI 1)), w10))) ∧ (x6 < z1 → r = (some (.int (jI (-2))), w1))) ∧ (¬ P4 → r = (some (.int (jI (-1))), w1))) : xCall 79 [.ref 0, .int (jI z1)] w r := E_79 (Z_79_0 hC h)
theorem Z_80_0 {z1 : Int} {w : xW} {r : Option Value × xW} (hC : CS w) (h : ∃ (P4 : Prop) (dP5 : Decidable P4) (w1 : xW), xCall 24 [.int (jI z1)] w (some (.int (bz P4)), w1) ∧ CS w1 ∧ (P4 → ∃ x6, fI w1 0 0 7 x6 ∧ in32 z1 ∧ in32 x6 ∧ (z1 ≤ x6 → xGo 80 24 [some (.ref 0), some (.int (jI z1)), some (.int (jI 0)), some (.int (jI 0))] [] w1 r) ∧ (x6 < z1 → r = (some (.int (jI (-2))), w1))) ∧ (¬ P4 → r = (some (.int (jI (-1))), w1))) : xGo 80 0 [some (.ref 0), some (.int (jI z1)), none, none] [] w r := by
  refine g_iloadn (pc' := 1) d_80_0 rfl rfl ?_
  obtain ⟨P4, dP5, w1, hk2, hC3, h⟩ := h
  refine g_callS (pc' := 4) d_80_1 rfl st_80_120 (Or.inl rfl) na_24 ml_24 rfl rfl rfl rm_80_24 rfl rfl hk2 ?_
  refine gz_bt_ne (pc' := 7) (pt := 9) d_80_4 (by decide) rfl (fun c => ?_) (fun c => ?_)
  · replace h := h.1 c
    refine g_iloadn (pc' := 10) d_80_9 rfl rfl ?_
    refine g_aloadn (pc' := 11) d_80_10 rfl rfl ?_
    obtain ⟨x6, hv7, h⟩ := h
    refine gz_getI (pc' := 14) d_80_11 rfl st_80_49 hv7 ?_
    obtain ⟨hc8, h⟩ := h
    obtain ⟨hc9, h⟩ := h
    refine gz_ic_le (pc' := 17) (pt := 20) d_80_14 (by decide) rfl hc8 hc9 (fun c => ?_) (fun c => ?_)
    · replace h := h.1 c
      refine g_iconst (pc' := 21) d_80_20 rfl rfl ?_
      refine g_istoren (pc' := 22) (l' := [some (.ref 0), some (.int (jI z1)), some (.int (jI 0)), none]) d_80_21 rfl ml_80 rfl rfl ?_
      refine g_iconst (pc' := 23) d_80_22 rfl rfl ?_
      refine g_istoren (pc' := 24) (l' := [some (.ref 0), some (.int (jI z1)), some (.int (jI 0)), some (.int (jI 0))]) d_80_23 rfl ml_80 rfl rfl ?_
      exact h
    · replace h := h.2 c
      refine g_bipush (pc' := 19) (v := jI (-2)) d_80_17 rfl (by decide) ?_
      exact g_iret d_80_19 rt_80 h
  · replace h := h.2 c
    refine g_iconst (pc' := 8) d_80_7 rfl rfl ?_
    exact g_iret d_80_8 rt_80 h
theorem Z_80 {z1 : Int} {w : xW} {r : Option Value × xW} (hC : CS w) (h : ∃ (P4 : Prop) (dP5 : Decidable P4) (w1 : xW), xCall 24 [.int (jI z1)] w (some (.int (bz P4)), w1) ∧ CS w1 ∧ (P4 → ∃ x6, fI w1 0 0 7 x6 ∧ in32 z1 ∧ in32 x6 ∧ (z1 ≤ x6 → xGo 80 24 [some (.ref 0), some (.int (jI z1)), some (.int (jI 0)), some (.int (jI 0))] [] w1 r) ∧ (x6 < z1 → r = (some (.int (jI (-2))), w1))) ∧ (¬ P4 → r = (some (.int (jI (-1))), w1))) : xCall 80 [.ref 0, .int (jI z1)] w r := E_80 (Z_80_0 hC h)
theorem Z_80_24 {z1 : Int} {z2 : Int} {z3 : Int} {w : xW} {r : Option Value × xW} (hC : CS w) (h : in32 z3 ∧ (2 < z3 → r = (some (.int (jI z2)), w)) ∧ (z3 ≤ 2 → (z3 ≠ 0 → ∃ w2, xCall 33 [.ref 0, .int (jI z1), .int (jI z3)] w (none, w2) ∧ CS w2 ∧ ∃ (P8 : Prop) (dP9 : Decidable P8) (w5 : xW), xCall 56 [.ref 12, .int (jI z1), .ref 36] w2 (some (.int (bz P8)), w5) ∧ CS w5 ∧ (¬ P8 → xGo 80 24 [some (.ref 0), some (.int (jI z1)), some (.int (jI z2)), some (.int (jI (z3 + 1)))] [] w5 r) ∧ (P8 → xGo 80 24 [some (.ref 0), some (.int (jI z1)), some (.int (jI (z2 + 1))), some (.int (jI (z3 + 1)))] [] w5 r)) ∧ (z3 = 0 → ∃ (P13 : Prop) (dP14 : Decidable P13) (w10 : xW), xCall 26 [.ref 0, .int (jI z1)] w (some (.int (bz P13)), w10) ∧ CS w10 ∧ (P13 → ∃ w15, xCall 33 [.ref 0, .int (jI z1), .int (jI z3)] w10 (none, w15) ∧ CS w15 ∧ ∃ (P21 : Prop) (dP22 : Decidable P21) (w18 : xW), xCall 56 [.ref 12, .int (jI z1), .ref 36] w15 (some (.int (bz P21)), w18) ∧ CS w18 ∧ (¬ P21 → xGo 80 24 [some (.ref 0), some (.int (jI z1)), some (.int (jI z2)), some (.int (jI (z3 + 1)))] [] w18 r) ∧ (P21 → xGo 80 24 [some (.ref 0), some (.int (jI z1)), some (.int (jI (z2 + 1))), some (.int (jI (z3 + 1)))] [] w18 r)) ∧ (¬ P13 → xGo 80 24 [some (.ref 0), some (.int (jI z1)), some (.int (jI z2)), some (.int (jI (z3 + 1)))] [] w10 r)))) : xGo 80 24 [some (.ref 0), some (.int (jI z1)), some (.int (jI z2)), some (.int (jI z3))] [] w r := by
  refine g_iloadn (pc' := 25) d_80_24 rfl rfl ?_
  refine g_iconst (pc' := 26) d_80_25 rfl rfl ?_
  obtain ⟨hc1, h⟩ := h
  refine gz_ic_gt (pc' := 29) (pt := 74) d_80_26 (by decide) rfl hc1 (s32 (z := 2)) (fun c => ?_) (fun c => ?_)
  · replace h := h.1 c
    refine g_iloadn (pc' := 75) d_80_74 rfl rfl ?_
    exact g_iret d_80_75 rt_80 h
  · replace h := h.2 c
    refine g_iloadn (pc' := 30) d_80_29 rfl rfl ?_
    refine gz_if_ne (pc' := 33) (pt := 44) d_80_30 (by decide) rfl hc1 (fun c => ?_) (fun c => ?_)
    · replace h := h.1 c
      refine g_aloadn (pc' := 45) d_80_44 rfl rfl ?_
      refine g_iloadn (pc' := 46) d_80_45 rfl rfl ?_
      refine g_iloadn (pc' := 47) d_80_46 rfl rfl ?_
      obtain ⟨w2, hk3, hC4, h⟩ := h
      refine gz_callV (pc' := 50) d_80_47 rfl st_80_177 na_33 ml_33 rfl rfl rfl rm_80_33 rfl rfl ow_33 (ko_0 hC) hk3 ?_
      refine g_aloadn (pc' := 51) d_80_50 rfl rfl ?_
      refine gz_getR (pc' := 54) d_80_51 rfl st_80_39 (kr_0_4 hC4) ?_
      refine g_iloadn (pc' := 55) d_80_54 rfl rfl ?_
      refine g_aloadn (pc' := 56) d_80_55 rfl rfl ?_
      refine gz_getR (pc' := 59) d_80_56 rfl st_80_95 (kr_0_13 hC4) ?_
      obtain ⟨P8, dP9, w5, hk6, hC7, h⟩ := h
      refine gz_callV (pc' := 62) d_80_59 rfl st_80_180 na_56 ml_56 rfl rfl rfl rm_80_56 rfl rfl ow_56 (ko_12 hC4) hk6 ?_
      refine gz_bt_eq (pc' := 65) (pt := 68) d_80_62 (by decide) rfl (fun c => ?_) (fun c => ?_)
      · replace h := h.1 c
        refine gz_iinc (pc' := 71) (l' := [some (.ref 0), some (.int (jI z1)), some (.int (jI z2)), some (.int (jI (z3 + 1)))]) d_80_68 rfl rfl ml_80 rfl rfl ?_
        refine g_goto (pt := 24) d_80_71 (by decide) ?_
        exact h
      · replace h := h.2 c
        refine gz_iinc (pc' := 68) (l' := [some (.ref 0), some (.int (jI z1)), some (.int (jI (z2 + 1))), some (.int (jI z3))]) d_80_65 rfl rfl ml_80 rfl rfl ?_
        refine gz_iinc (pc' := 71) (l' := [some (.ref 0), some (.int (jI z1)), some (.int (jI (z2 + 1))), some (.int (jI (z3 + 1)))]) d_80_68 rfl rfl ml_80 rfl rfl ?_
        refine g_goto (pt := 24) d_80_71 (by decide) ?_
        exact h
    · replace h := h.2 c
      refine g_aloadn (pc' := 34) d_80_33 rfl rfl ?_
      refine g_iloadn (pc' := 35) d_80_34 rfl rfl ?_
      obtain ⟨P13, dP14, w10, hk11, hC12, h⟩ := h
      refine gz_callV (pc' := 38) d_80_35 rfl st_80_127 na_26 ml_26 rfl rfl rfl rm_80_26 rfl rfl ow_26 (ko_0 hC) hk11 ?_
      refine gz_bt_ne (pc' := 41) (pt := 44) d_80_38 (by decide) rfl (fun c => ?_) (fun c => ?_)
      · replace h := h.1 c
        refine g_aloadn (pc' := 45) d_80_44 rfl rfl ?_
        refine g_iloadn (pc' := 46) d_80_45 rfl rfl ?_
        refine g_iloadn (pc' := 47) d_80_46 rfl rfl ?_
        obtain ⟨w15, hk16, hC17, h⟩ := h
        refine gz_callV (pc' := 50) d_80_47 rfl st_80_177 na_33 ml_33 rfl rfl rfl rm_80_33 rfl rfl ow_33 (ko_0 hC12) hk16 ?_
        refine g_aloadn (pc' := 51) d_80_50 rfl rfl ?_
        refine gz_getR (pc' := 54) d_80_51 rfl st_80_39 (kr_0_4 hC17) ?_
        refine g_iloadn (pc' := 55) d_80_54 rfl rfl ?_
        refine g_aloadn (pc' := 56) d_80_55 rfl rfl ?_
        refine gz_getR (pc' := 59) d_80_56 rfl st_80_95 (kr_0_13 hC17) ?_
        obtain ⟨P21, dP22, w18, hk19, hC20, h⟩ := h
        refine gz_callV (pc' := 62) d_80_59 rfl st_80_180 na_56 ml_56 rfl rfl rfl rm_80_56 rfl rfl ow_56 (ko_12 hC17) hk19 ?_
        refine gz_bt_eq (pc' := 65) (pt := 68) d_80_62 (by decide) rfl (fun c => ?_) (fun c => ?_)
        · replace h := h.1 c
          refine gz_iinc (pc' := 71) (l' := [some (.ref 0), some (.int (jI z1)), some (.int (jI z2)), some (.int (jI (z3 + 1)))]) d_80_68 rfl rfl ml_80 rfl rfl ?_
          refine g_goto (pt := 24) d_80_71 (by decide) ?_
          exact h
        · replace h := h.2 c
          refine gz_iinc (pc' := 68) (l' := [some (.ref 0), some (.int (jI z1)), some (.int (jI (z2 + 1))), some (.int (jI z3))]) d_80_65 rfl rfl ml_80 rfl rfl ?_
          refine gz_iinc (pc' := 71) (l' := [some (.ref 0), some (.int (jI z1)), some (.int (jI (z2 + 1))), some (.int (jI (z3 + 1)))]) d_80_68 rfl rfl ml_80 rfl rfl ?_
          refine g_goto (pt := 24) d_80_71 (by decide) ?_
          exact h
      · replace h := h.2 c
        refine g_goto (pt := 68) d_80_41 (by decide) ?_
        refine gz_iinc (pc' := 71) (l' := [some (.ref 0), some (.int (jI z1)), some (.int (jI z2)), some (.int (jI (z3 + 1)))]) d_80_68 rfl rfl ml_80 rfl rfl ?_
        refine g_goto (pt := 24) d_80_71 (by decide) ?_
        exact h
theorem Z_81_0 {z1 : Int} {z2 : Int} {w : xW} {r : Option Value × xW} (hC : CS w) (h : ∃ (P4 : Prop) (dP5 : Decidable P4) (w1 : xW), xCall 24 [.int (jI z1)] w (some (.int (bz P4)), w1) ∧ CS w1 ∧ (¬ P4 → r = (some (.int (jI (-1))), w1)) ∧ (P4 → in32 z2 ∧ (0 ≤ z2 → xGo 81 28 [some (.ref 0), some (.int (jI z1)), some (.int (jI z2)), some (.int (jI 0)), some (.ref xP), some (.int (jI 46)), some (.int (jI 0)), none] [] w1 r) ∧ (z2 < 0 → r = (some (.int (jI (-1))), w1)))) : xGo 81 0 [some (.ref 0), some (.int (jI z1)), some (.int (jI z2)), none, none, none, none, none] [] w r := by
  refine g_iloadn (pc' := 1) d_81_0 rfl rfl ?_
  obtain ⟨P4, dP5, w1, hk2, hC3, h⟩ := h
  refine g_callS (pc' := 4) d_81_1 rfl st_81_120 (Or.inl rfl) na_24 ml_24 rfl rfl rfl rm_81_24 rfl rfl hk2 ?_
  refine gz_bt_eq (pc' := 7) (pt := 11) d_81_4 (by decide) rfl (fun c => ?_) (fun c => ?_)
  · replace h := h.1 c
    refine g_iconst (pc' := 12) d_81_11 rfl rfl ?_
    exact g_iret d_81_12 rt_81 h
  · replace h := h.2 c
    refine g_iloadn (pc' := 8) d_81_7 rfl rfl ?_
    obtain ⟨hc6, h⟩ := h
    refine gz_if_ge (pc' := 11) (pt := 13) d_81_8 (by decide) rfl hc6 (fun c => ?_) (fun c => ?_)
    · replace h := h.1 c
      refine g_iconst (pc' := 14) d_81_13 rfl rfl ?_
      refine g_istoren (pc' := 15) (l' := [some (.ref 0), some (.int (jI z1)), some (.int (jI z2)), some (.int (jI 0)), none, none, none, none]) d_81_14 rfl ml_81 rfl rfl ?_
      refine g_gets (pc' := 18) d_81_15 rfl st_81_184 (Or.inl rfl) ?_
      refine g_astore (pc' := 20) (l' := [some (.ref 0), some (.int (jI z1)), some (.int (jI z2)), some (.int (jI 0)), some (.ref xP), none, none, none]) d_81_18 rfl ml_81 rfl rfl ?_
      refine g_aload (pc' := 22) d_81_20 rfl rfl ?_
      refine g_lenp (pc' := 23) d_81_22 rfl hC3.noP ?_
      refine g_istore (pc' := 25) (l' := [some (.ref 0), some (.int (jI z1)), some (.int (jI z2)), some (.int (jI 0)), some (.ref xP), some (.int (jI 46)), none, none]) d_81_23 rfl ml_81 rfl rfl ?_
      refine g_iconst (pc' := 26) d_81_25 rfl rfl ?_
      refine g_istore (pc' := 28) (l' := [some (.ref 0), some (.int (jI z1)), some (.int (jI z2)), some (.int (jI 0)), some (.ref xP), some (.int (jI 46)), some (.int (jI 0)), none]) d_81_26 rfl ml_81 rfl rfl ?_
      exact h
    · replace h := h.2 c
      refine g_iconst (pc' := 12) d_81_11 rfl rfl ?_
      exact g_iret d_81_12 rt_81 h
theorem Z_81 {z1 : Int} {z2 : Int} {w : xW} {r : Option Value × xW} (hC : CS w) (h : ∃ (P4 : Prop) (dP5 : Decidable P4) (w1 : xW), xCall 24 [.int (jI z1)] w (some (.int (bz P4)), w1) ∧ CS w1 ∧ (¬ P4 → r = (some (.int (jI (-1))), w1)) ∧ (P4 → in32 z2 ∧ (0 ≤ z2 → xGo 81 28 [some (.ref 0), some (.int (jI z1)), some (.int (jI z2)), some (.int (jI 0)), some (.ref xP), some (.int (jI 46)), some (.int (jI 0)), none] [] w1 r) ∧ (z2 < 0 → r = (some (.int (jI (-1))), w1)))) : xCall 81 [.ref 0, .int (jI z1), .int (jI z2)] w r := E_81 (Z_81_0 hC h)
theorem Z_81_28 {z1 : Int} {z2 : Int} {z3 : Int} {z5 : Int} {z6 : Int} {w : xW} {r : Option Value × xW} (hC : CS w) (h : in32 z6 ∧ in32 z5 ∧ (z5 ≤ z6 → r = (some (.int (jI (-2))), w)) ∧ (z6 < z5 → (0 ≤ z6 ∧ z6 < 46) ∧ ∃ (P7 : Prop) (dP8 : Decidable P7) (w4 : xW), xCall 52 [.int (jI (prZ (z6).toNat)), .int (jI z1)] w (some (.int (bz P7)), w4) ∧ CS w4 ∧ (P7 → in32 z3 ∧ in32 z2 ∧ (z3 ≠ z2 → xGo 81 28 [some (.ref 0), some (.int (jI z1)), some (.int (jI z2)), some (.int (jI (z3 + 1))), some (.ref xP), some (.int (jI z5)), some (.int (jI (z6 + 1))), none] [] w4 r) ∧ (z3 = z2 → r = (some (.int (jI (prZ (z6).toNat))), w4))) ∧ (¬ P7 → xGo 81 28 [some (.ref 0), some (.int (jI z1)), some (.int (jI z2)), some (.int (jI z3)), some (.ref xP), some (.int (jI z5)), some (.int (jI (z6 + 1))), none] [] w4 r))) : xGo 81 28 [some (.ref 0), some (.int (jI z1)), some (.int (jI z2)), some (.int (jI z3)), some (.ref xP), some (.int (jI z5)), some (.int (jI z6)), none] [] w r := by
  refine g_iload (pc' := 30) d_81_28 rfl rfl ?_
  refine g_iload (pc' := 32) d_81_30 rfl rfl ?_
  obtain ⟨hc1, h⟩ := h
  obtain ⟨hc2, h⟩ := h
  refine gz_ic_ge (pc' := 35) (pt := 71) d_81_32 (by decide) rfl hc1 hc2 (fun c => ?_) (fun c => ?_)
  · replace h := h.1 c
    refine g_bipush (pc' := 73) (v := jI (-2)) d_81_71 rfl (by decide) ?_
    exact g_iret d_81_73 rt_81 h
  · replace h := h.2 c
    refine g_aload (pc' := 37) d_81_35 rfl rfl ?_
    refine g_iload (pc' := 39) d_81_37 rfl rfl ?_
    obtain ⟨hc3, h⟩ := h
    refine gz_pald (pc' := 40) d_81_39 rfl hC.noP hc3 ?_
    refine g_istore (pc' := 42) (l' := [some (.ref 0), some (.int (jI z1)), some (.int (jI z2)), some (.int (jI z3)), some (.ref xP), some (.int (jI z5)), some (.int (jI z6)), some (.int (jI (prZ (z6).toNat)))]) d_81_40 rfl ml_81 rfl rfl ?_
    refine g_iload (pc' := 44) d_81_42 rfl rfl ?_
    refine g_iloadn (pc' := 45) d_81_44 rfl rfl ?_
    obtain ⟨P7, dP8, w4, hk5, hC6, h⟩ := h
    refine g_callS (pc' := 48) d_81_45 rfl st_81_187 (Or.inl rfl) na_52 ml_52 rfl rfl rfl rm_81_52 rfl rfl hk5 ?_
    refine gz_bt_ne (pc' := 51) (pt := 54) d_81_48 (by decide) rfl (fun c => ?_) (fun c => ?_)
    · replace h := h.1 c
      refine g_iloadn (pc' := 55) d_81_54 rfl rfl ?_
      refine g_iloadn (pc' := 56) d_81_55 rfl rfl ?_
      obtain ⟨hc9, h⟩ := h
      obtain ⟨hc10, h⟩ := h
      refine gz_ic_ne (pc' := 59) (pt := 62) d_81_56 (by decide) rfl hc9 hc10 (fun c => ?_) (fun c => ?_)
      · replace h := h.1 c
        refine gz_iinc (pc' := 65) (l' := [some (.ref 0), some (.int (jI z1)), some (.int (jI z2)), some (.int (jI (z3 + 1))), some (.ref xP), some (.int (jI z5)), some (.int (jI z6)), some (.int (jI (prZ (z6).toNat)))]) d_81_62 rfl rfl ml_81 rfl rfl ?_
        refine gz_iinc (pc' := 68) (l' := [some (.ref 0), some (.int (jI z1)), some (.int (jI z2)), some (.int (jI (z3 + 1))), some (.ref xP), some (.int (jI z5)), some (.int (jI (z6 + 1))), some (.int (jI (prZ (z6).toNat)))]) d_81_65 rfl rfl ml_81 rfl rfl ?_
        refine g_goto (pt := 28) d_81_68 (by decide) ?_
        exact xGo.more (xle_s (xle_s (xle_s (xle_s (xle_s (xle_s (xle_s (xle_n xle_0)))))))) h
      · replace h := h.2 c
        refine g_iload (pc' := 61) d_81_59 rfl rfl ?_
        exact g_iret d_81_61 rt_81 h
    · replace h := h.2 c
      refine g_goto (pt := 65) d_81_51 (by decide) ?_
      refine gz_iinc (pc' := 68) (l' := [some (.ref 0), some (.int (jI z1)), some (.int (jI z2)), some (.int (jI z3)), some (.ref xP), some (.int (jI z5)), some (.int (jI (z6 + 1))), some (.int (jI (prZ (z6).toNat)))]) d_81_65 rfl rfl ml_81 rfl rfl ?_
      refine g_goto (pt := 28) d_81_68 (by decide) ?_
      exact xGo.more (xle_s (xle_s (xle_s (xle_s (xle_s (xle_s (xle_s (xle_n xle_0)))))))) h
theorem Z_82_0 {z1 : Int} {w : xW} {r : Option Value × xW} (hC : CS w) (h : ∃ (P4 : Prop) (dP5 : Decidable P4) (w1 : xW), xCall 24 [.int (jI z1)] w (some (.int (bz P4)), w1) ∧ CS w1 ∧ (¬ P4 → r = (some (.long (jL (-9223372036854775808))), w1)) ∧ (P4 → ∃ (P9 : Prop) (dP10 : Decidable P9) (w6 : xW), xCall 47 [.int (jI z1)] w1 (some (.int (bz P9)), w6) ∧ CS w6 ∧ (P9 → ∃ w11, xCall 37 [.ref 3, .long (jL 7420738134810)] w6 (none, w11) ∧ CS w11 ∧ ∃ r17 w14, xCall 29 [.ref 7, .int (jI z1)] w11 (some (.long (jL r17)), w14) ∧ CS w14 ∧ ∃ r21 w18, xCall 30 [.ref 7, .int (jI z1)] w14 (some (.long (jL r21)), w18) ∧ CS w18 ∧ ∃ r25 w22, xCall 31 [.ref 7, .int (jI z1)] w18 (some (.long (jL r25)), w22) ∧ CS w22 ∧ ∃ w26, xCall 41 [.ref 3, .long (jL 1), .long (jL r17), .long (jL r21), .long (jL r25)] w22 (none, w26) ∧ CS w26 ∧ ∃ w29, xCall 55 [.ref 0, .int (jI z1), .int (jI 1)] w26 (none, w29) ∧ CS w29 ∧ ∃ w32, xCall 42 [.ref 3, .ref 36] w29 (none, w32) ∧ CS w32 ∧ ∃ x35, fJ w32 36 5 0 x35 ∧ r = (some (.long (jL x35)), w32)) ∧ (¬ P9 → r = (some (.long (jL (-9223372036854775808))), w6)))) : xGo 82 0 [some (.ref 0), some (.int (jI z1))] [] w r := by
  refine g_iloadn (pc' := 1) d_82_0 rfl rfl ?_
  obtain ⟨P4, dP5, w1, hk2, hC3, h⟩ := h
  refine g_callS (pc' := 4) d_82_1 rfl st_82_120 (Or.inl rfl) na_24 ml_24 rfl rfl rfl rm_82_24 rfl rfl hk2 ?_
  refine gz_bt_eq (pc' := 7) (pt := 14) d_82_4 (by decide) rfl (fun c => ?_) (fun c => ?_)
  · replace h := h.1 c
    refine g_ldc2 (pc' := 17) d_82_14 rfl st_82_166 rfl ?_
    exact g_lret d_82_17 rt_82 h
  · replace h := h.2 c
    refine g_iloadn (pc' := 8) d_82_7 rfl rfl ?_
    obtain ⟨P9, dP10, w6, hk7, hC8, h⟩ := h
    refine g_callS (pc' := 11) d_82_8 rfl st_82_190 (Or.inl rfl) na_47 ml_47 rfl rfl rfl rm_82_47 rfl rfl hk7 ?_
    refine gz_bt_ne (pc' := 14) (pt := 18) d_82_11 (by decide) rfl (fun c => ?_) (fun c => ?_)
    · replace h := h.1 c
      refine g_aloadn (pc' := 19) d_82_18 rfl rfl ?_
      refine gz_getR (pc' := 22) d_82_19 rfl st_82_21 (kr_0_1 hC8) ?_
      refine g_ldc2 (pc' := 25) d_82_22 rfl st_82_193 rfl ?_
      obtain ⟨w11, hk12, hC13, h⟩ := h
      refine gz_callV (pc' := 28) d_82_25 rfl st_82_195 na_37 ml_37 rfl rfl rfl rm_82_37 rfl rfl ow_37 (ko_3 hC8) hk12 ?_
      refine g_aloadn (pc' := 29) d_82_28 rfl rfl ?_
      refine gz_getR (pc' := 32) d_82_29 rfl st_82_21 (kr_0_1 hC13) ?_
      refine g_lconst (pc' := 33) (v := jL 1) d_82_32 rfl cl_1 ?_
      refine g_aloadn (pc' := 34) d_82_33 rfl rfl ?_
      refine gz_getR (pc' := 37) d_82_34 rfl st_82_35 (kr_0_3 hC13) ?_
      refine g_iloadn (pc' := 38) d_82_37 rfl rfl ?_
      obtain ⟨r17, w14, hk15, hC16, h⟩ := h
      refine gz_callV (pc' := 41) d_82_38 rfl st_82_198 na_29 ml_29 rfl rfl rfl rm_82_29 rfl rfl ow_29 (ko_7 hC13) hk15 ?_
      refine g_aloadn (pc' := 42) d_82_41 rfl rfl ?_
      refine gz_getR (pc' := 45) d_82_42 rfl st_82_35 (kr_0_3 hC16) ?_
      refine g_iloadn (pc' := 46) d_82_45 rfl rfl ?_
      obtain ⟨r21, w18, hk19, hC20, h⟩ := h
      refine gz_callV (pc' := 49) d_82_46 rfl st_82_201 na_30 ml_30 rfl rfl rfl rm_82_30 rfl rfl ow_30 (ko_7 hC16) hk19 ?_
      refine g_aloadn (pc' := 50) d_82_49 rfl rfl ?_
      refine gz_getR (pc' := 53) d_82_50 rfl st_82_35 (kr_0_3 hC20) ?_
      refine g_iloadn (pc' := 54) d_82_53 rfl rfl ?_
      obtain ⟨r25, w22, hk23, hC24, h⟩ := h
      refine gz_callV (pc' := 57) d_82_54 rfl st_82_204 na_31 ml_31 rfl rfl rfl rm_82_31 rfl rfl ow_31 (ko_7 hC20) hk23 ?_
      obtain ⟨w26, hk27, hC28, h⟩ := h
      refine gz_callV (pc' := 60) d_82_57 rfl st_82_207 na_41 ml_41 rfl rfl rfl rm_82_41 rfl rfl ow_41 (ko_3 hC24) hk27 ?_
      refine g_aloadn (pc' := 61) d_82_60 rfl rfl ?_
      refine g_iloadn (pc' := 62) d_82_61 rfl rfl ?_
      refine g_iconst (pc' := 63) d_82_62 rfl rfl ?_
      obtain ⟨w29, hk30, hC31, h⟩ := h
      refine gz_callV (pc' := 66) d_82_63 rfl st_82_211 na_55 ml_55 rfl rfl rfl rm_82_55 rfl rfl ow_55 (ko_0 hC28) hk30 ?_
      refine g_aloadn (pc' := 67) d_82_66 rfl rfl ?_
      refine gz_getR (pc' := 70) d_82_67 rfl st_82_21 (kr_0_1 hC31) ?_
      refine g_aloadn (pc' := 71) d_82_70 rfl rfl ?_
      refine gz_getR (pc' := 74) d_82_71 rfl st_82_95 (kr_0_13 hC31) ?_
      obtain ⟨w32, hk33, hC34, h⟩ := h
      refine gz_callV (pc' := 77) d_82_74 rfl st_82_214 na_42 ml_42 rfl rfl rfl rm_82_42 rfl rfl ow_42 (ko_3 hC31) hk33 ?_
      refine g_aloadn (pc' := 78) d_82_77 rfl rfl ?_
      refine gz_getR (pc' := 81) d_82_78 rfl st_82_95 (kr_0_13 hC34) ?_
      obtain ⟨x35, hv36, h⟩ := h
      refine gz_getJ (pc' := 84) d_82_81 rfl st_82_218 hv36 ?_
      exact g_lret d_82_84 rt_82 h
    · replace h := h.2 c
      refine g_ldc2 (pc' := 17) d_82_14 rfl st_82_166 rfl ?_
      exact g_lret d_82_17 rt_82 h
theorem Z_82 {z1 : Int} {w : xW} {r : Option Value × xW} (hC : CS w) (h : ∃ (P4 : Prop) (dP5 : Decidable P4) (w1 : xW), xCall 24 [.int (jI z1)] w (some (.int (bz P4)), w1) ∧ CS w1 ∧ (¬ P4 → r = (some (.long (jL (-9223372036854775808))), w1)) ∧ (P4 → ∃ (P9 : Prop) (dP10 : Decidable P9) (w6 : xW), xCall 47 [.int (jI z1)] w1 (some (.int (bz P9)), w6) ∧ CS w6 ∧ (P9 → ∃ w11, xCall 37 [.ref 3, .long (jL 7420738134810)] w6 (none, w11) ∧ CS w11 ∧ ∃ r17 w14, xCall 29 [.ref 7, .int (jI z1)] w11 (some (.long (jL r17)), w14) ∧ CS w14 ∧ ∃ r21 w18, xCall 30 [.ref 7, .int (jI z1)] w14 (some (.long (jL r21)), w18) ∧ CS w18 ∧ ∃ r25 w22, xCall 31 [.ref 7, .int (jI z1)] w18 (some (.long (jL r25)), w22) ∧ CS w22 ∧ ∃ w26, xCall 41 [.ref 3, .long (jL 1), .long (jL r17), .long (jL r21), .long (jL r25)] w22 (none, w26) ∧ CS w26 ∧ ∃ w29, xCall 55 [.ref 0, .int (jI z1), .int (jI 1)] w26 (none, w29) ∧ CS w29 ∧ ∃ w32, xCall 42 [.ref 3, .ref 36] w29 (none, w32) ∧ CS w32 ∧ ∃ x35, fJ w32 36 5 0 x35 ∧ r = (some (.long (jL x35)), w32)) ∧ (¬ P9 → r = (some (.long (jL (-9223372036854775808))), w6)))) : xCall 82 [.ref 0, .int (jI z1)] w r := E_82 (Z_82_0 hC h)
theorem Z_83_0 {z1 : Int} {z2 : Int} {w : xW} {r : Option Value × xW} (hC : CS w) (h : ∃ (P4 : Prop) (dP5 : Decidable P4) (w1 : xW), xCall 24 [.int (jI z1)] w (some (.int (bz P4)), w1) ∧ CS w1 ∧ (¬ P4 → r = (some (.int (jI (-1))), w1)) ∧ (P4 → ∃ (P9 : Prop) (dP10 : Decidable P9) (w6 : xW), xCall 84 [.int (jI z2)] w1 (some (.int (bz P9)), w6) ∧ CS w6 ∧ (P9 → ∃ x11, fI w6 0 0 7 x11 ∧ in32 z1 ∧ in32 x11 ∧ (z1 ≤ x11 → ∃ r18 w15, xCall 85 [.ref 0, .int (jI z1), .int (jI z2)] w6 (some (.int (jI r18)), w15) ∧ CS w15 ∧ in32 r18 ∧ (r18 < 0 → r = (some (.int (jI r18)), w15)) ∧ (0 ≤ r18 → ∃ w20, xCall 86 [.ref 24, .int (jI z1), .int (jI z2), .int (jI r18)] w15 (none, w20) ∧ CS w20 ∧ r = (some (.int (jI r18)), w20))) ∧ (x11 < z1 → r = (some (.int (jI (-2))), w6))) ∧ (¬ P9 → r = (some (.int (jI (-1))), w6)))) : xGo 83 0 [some (.ref 0), some (.int (jI z1)), some (.int (jI z2)), none] [] w r := by
  refine g_iloadn (pc' := 1) d_83_0 rfl rfl ?_
  obtain ⟨P4, dP5, w1, hk2, hC3, h⟩ := h
  refine g_callS (pc' := 4) d_83_1 rfl st_83_120 (Or.inl rfl) na_24 ml_24 rfl rfl rfl rm_83_24 rfl rfl hk2 ?_
  refine gz_bt_eq (pc' := 7) (pt := 14) d_83_4 (by decide) rfl (fun c => ?_) (fun c => ?_)
  · replace h := h.1 c
    refine g_iconst (pc' := 15) d_83_14 rfl rfl ?_
    exact g_iret d_83_15 rt_83 h
  · replace h := h.2 c
    refine g_iloadn (pc' := 8) d_83_7 rfl rfl ?_
    obtain ⟨P9, dP10, w6, hk7, hC8, h⟩ := h
    refine g_callS (pc' := 11) d_83_8 rfl st_83_222 (Or.inl rfl) na_84 ml_84 rfl rfl rfl rm_83_84 rfl rfl hk7 ?_
    refine gz_bt_ne (pc' := 14) (pt := 16) d_83_11 (by decide) rfl (fun c => ?_) (fun c => ?_)
    · replace h := h.1 c
      refine g_iloadn (pc' := 17) d_83_16 rfl rfl ?_
      refine g_aloadn (pc' := 18) d_83_17 rfl rfl ?_
      obtain ⟨x11, hv12, h⟩ := h
      refine gz_getI (pc' := 21) d_83_18 rfl st_83_49 hv12 ?_
      obtain ⟨hc13, h⟩ := h
      obtain ⟨hc14, h⟩ := h
      refine gz_ic_le (pc' := 24) (pt := 27) d_83_21 (by decide) rfl hc13 hc14 (fun c => ?_) (fun c => ?_)
      · replace h := h.1 c
        refine g_aloadn (pc' := 28) d_83_27 rfl rfl ?_
        refine g_iloadn (pc' := 29) d_83_28 rfl rfl ?_
        refine g_iloadn (pc' := 30) d_83_29 rfl rfl ?_
        obtain ⟨r18, w15, hk16, hC17, h⟩ := h
        refine gz_callV (pc' := 33) d_83_30 rfl st_83_225 na_85 ml_85 rfl rfl rfl rm_83_85 rfl rfl ow_85 (ko_0 hC8) hk16 ?_
        refine g_istoren (pc' := 34) (l' := [some (.ref 0), some (.int (jI z1)), some (.int (jI z2)), some (.int (jI r18))]) d_83_33 rfl ml_83 rfl rfl ?_
        refine g_iloadn (pc' := 35) d_83_34 rfl rfl ?_
        obtain ⟨hc19, h⟩ := h
        refine gz_if_lt (pc' := 38) (pt := 48) d_83_35 (by decide) rfl hc19 (fun c => ?_) (fun c => ?_)
        · replace h := h.1 c
          refine g_iloadn (pc' := 49) d_83_48 rfl rfl ?_
          exact g_iret d_83_49 rt_83 h
        · replace h := h.2 c
          refine g_aloadn (pc' := 39) d_83_38 rfl rfl ?_
          refine gz_getR (pc' := 42) d_83_39 rfl st_83_65 (kr_0_9 hC17) ?_
          refine g_iloadn (pc' := 43) d_83_42 rfl rfl ?_
          refine g_iloadn (pc' := 44) d_83_43 rfl rfl ?_
          refine g_iloadn (pc' := 45) d_83_44 rfl rfl ?_
          obtain ⟨w20, hk21, hC22, h⟩ := h
          refine gz_callV (pc' := 48) d_83_45 rfl st_83_228 na_86 ml_86 rfl rfl rfl rm_83_86 rfl rfl ow_86 (ko_24 hC17) hk21 ?_
          refine g_iloadn (pc' := 49) d_83_48 rfl rfl ?_
          exact g_iret d_83_49 rt_83 h
      · replace h := h.2 c
        refine g_bipush (pc' := 26) (v := jI (-2)) d_83_24 rfl (by decide) ?_
        exact g_iret d_83_26 rt_83 h
    · replace h := h.2 c
      refine g_iconst (pc' := 15) d_83_14 rfl rfl ?_
      exact g_iret d_83_15 rt_83 h
theorem Z_83 {z1 : Int} {z2 : Int} {w : xW} {r : Option Value × xW} (hC : CS w) (h : ∃ (P4 : Prop) (dP5 : Decidable P4) (w1 : xW), xCall 24 [.int (jI z1)] w (some (.int (bz P4)), w1) ∧ CS w1 ∧ (¬ P4 → r = (some (.int (jI (-1))), w1)) ∧ (P4 → ∃ (P9 : Prop) (dP10 : Decidable P9) (w6 : xW), xCall 84 [.int (jI z2)] w1 (some (.int (bz P9)), w6) ∧ CS w6 ∧ (P9 → ∃ x11, fI w6 0 0 7 x11 ∧ in32 z1 ∧ in32 x11 ∧ (z1 ≤ x11 → ∃ r18 w15, xCall 85 [.ref 0, .int (jI z1), .int (jI z2)] w6 (some (.int (jI r18)), w15) ∧ CS w15 ∧ in32 r18 ∧ (r18 < 0 → r = (some (.int (jI r18)), w15)) ∧ (0 ≤ r18 → ∃ w20, xCall 86 [.ref 24, .int (jI z1), .int (jI z2), .int (jI r18)] w15 (none, w20) ∧ CS w20 ∧ r = (some (.int (jI r18)), w20))) ∧ (x11 < z1 → r = (some (.int (jI (-2))), w6))) ∧ (¬ P9 → r = (some (.int (jI (-1))), w6)))) : xCall 83 [.ref 0, .int (jI z1), .int (jI z2)] w r := E_83 (Z_83_0 hC h)
theorem Z_84_0 {z0 : Int} {w : xW} {r : Option Value × xW} (hC : CS w) (h : in32 z0 ∧ (z0 < 3 → r = (some (.int (jI 0)), w)) ∧ (3 ≤ z0 → (z0 ≤ 199 → xGo 84 23 [some (.int (jI z0)), some (.ref xP), some (.int (jI 46)), some (.int (jI 0)), none] [] w r) ∧ (199 < z0 → r = (some (.int (jI 0)), w)))) : xGo 84 0 [some (.int (jI z0)), none, none, none, none] [] w r := by
  refine g_iloadn (pc' := 1) d_84_0 rfl rfl ?_
  refine g_iconst (pc' := 2) d_84_1 rfl rfl ?_
  obtain ⟨hc1, h⟩ := h
  refine gz_ic_lt (pc' := 5) (pt := 12) d_84_2 (by decide) rfl hc1 (s32 (z := 3)) (fun c => ?_) (fun c => ?_)
  · replace h := h.1 c
    refine g_iconst (pc' := 13) d_84_12 rfl rfl ?_
    exact g_zret d_84_13 rt_84 (Or.inl rfl) h
  · replace h := h.2 c
    refine g_iloadn (pc' := 6) d_84_5 rfl rfl ?_
    refine g_sipush (pc' := 9) (v := jI 199) d_84_6 rfl (by decide) ?_
    refine gz_ic_le (pc' := 12) (pt := 14) d_84_9 (by decide) rfl hc1 (s32 (z := 199)) (fun c => ?_) (fun c => ?_)
    · replace h := h.1 c
      refine g_gets (pc' := 17) d_84_14 rfl st_84_184 (Or.inl rfl) ?_
      refine g_astoren (pc' := 18) (l' := [some (.int (jI z0)), some (.ref xP), none, none, none]) d_84_17 rfl ml_84 rfl rfl ?_
      refine g_aloadn (pc' := 19) d_84_18 rfl rfl ?_
      refine g_lenp (pc' := 20) d_84_19 rfl hC.noP ?_
      refine g_istoren (pc' := 21) (l' := [some (.int (jI z0)), some (.ref xP), some (.int (jI 46)), none, none]) d_84_20 rfl ml_84 rfl rfl ?_
      refine g_iconst (pc' := 22) d_84_21 rfl rfl ?_
      refine g_istoren (pc' := 23) (l' := [some (.int (jI z0)), some (.ref xP), some (.int (jI 46)), some (.int (jI 0)), none]) d_84_22 rfl ml_84 rfl rfl ?_
      exact h
    · replace h := h.2 c
      refine g_iconst (pc' := 13) d_84_12 rfl rfl ?_
      exact g_zret d_84_13 rt_84 (Or.inl rfl) h
theorem Z_84 {z0 : Int} {w : xW} {r : Option Value × xW} (hC : CS w) (h : in32 z0 ∧ (z0 < 3 → r = (some (.int (jI 0)), w)) ∧ (3 ≤ z0 → (z0 ≤ 199 → xGo 84 23 [some (.int (jI z0)), some (.ref xP), some (.int (jI 46)), some (.int (jI 0)), none] [] w r) ∧ (199 < z0 → r = (some (.int (jI 0)), w)))) : xCall 84 [.int (jI z0)] w r := E_84 (Z_84_0 hC h)
theorem Z_84_23 {z0 : Int} {z2 : Int} {z3 : Int} {w : xW} {r : Option Value × xW} (hC : CS w) (h : in32 z3 ∧ in32 z2 ∧ (z2 ≤ z3 → r = (some (.int (jI 0)), w)) ∧ (z3 < z2 → (0 ≤ z3 ∧ z3 < 46) ∧ in32 z0 ∧ (prZ (z3).toNat ≠ z0 → xGo 84 23 [some (.int (jI z0)), some (.ref xP), some (.int (jI z2)), some (.int (jI (z3 + 1))), none] [] w r) ∧ (prZ (z3).toNat = z0 → r = (some (.int (jI 1)), w)))) : xGo 84 23 [some (.int (jI z0)), some (.ref xP), some (.int (jI z2)), some (.int (jI z3)), none] [] w r := by
  refine g_iloadn (pc' := 24) d_84_23 rfl rfl ?_
  refine g_iloadn (pc' := 25) d_84_24 rfl rfl ?_
  obtain ⟨hc1, h⟩ := h
  obtain ⟨hc2, h⟩ := h
  refine gz_ic_ge (pc' := 28) (pt := 47) d_84_25 (by decide) rfl hc1 hc2 (fun c => ?_) (fun c => ?_)
  · replace h := h.1 c
    refine g_iconst (pc' := 48) d_84_47 rfl rfl ?_
    exact g_zret d_84_48 rt_84 (Or.inl rfl) h
  · replace h := h.2 c
    refine g_aloadn (pc' := 29) d_84_28 rfl rfl ?_
    refine g_iloadn (pc' := 30) d_84_29 rfl rfl ?_
    obtain ⟨hc3, h⟩ := h
    refine gz_pald (pc' := 31) d_84_30 rfl hC.noP hc3 ?_
    refine g_istore (pc' := 33) (l' := [some (.int (jI z0)), some (.ref xP), some (.int (jI z2)), some (.int (jI z3)), some (.int (jI (prZ (z3).toNat)))]) d_84_31 rfl ml_84 rfl rfl ?_
    refine g_iload (pc' := 35) d_84_33 rfl rfl ?_
    refine g_iloadn (pc' := 36) d_84_35 rfl rfl ?_
    obtain ⟨hc4, h⟩ := h
    refine gz_ic_ne (pc' := 39) (pt := 41) d_84_36 (by decide) rfl (prZ_in _) hc4 (fun c => ?_) (fun c => ?_)
    · replace h := h.1 c
      refine gz_iinc (pc' := 44) (l' := [some (.int (jI z0)), some (.ref xP), some (.int (jI z2)), some (.int (jI (z3 + 1))), some (.int (jI (prZ (z3).toNat)))]) d_84_41 rfl rfl ml_84 rfl rfl ?_
      refine g_goto (pt := 23) d_84_44 (by decide) ?_
      exact xGo.more (xle_s (xle_s (xle_s (xle_s (xle_n xle_0))))) h
    · replace h := h.2 c
      refine g_iconst (pc' := 40) d_84_39 rfl rfl ?_
      exact g_zret d_84_40 rt_84 (Or.inr rfl) h
theorem Z_85_0 {z1 : Int} {z2 : Int} {w : xW} {r : Option Value × xW} (hC : CS w) (h : in32 z2 ∧ (z2 < 3 → r = (some (.int (jI (-3))), w)) ∧ (3 ≤ z2 → ∃ r5 w2, xCall 31 [.ref 12, .int (jI z1)] w (some (.long (jL r5)), w2) ∧ CS w2 ∧ in64 r5 ∧ z2 ≠ 0 ∧ ∃ y8, Int.tmod r5 z2 = y8 ∧ in64 y8 ∧ (y8 ≠ 0 → ∃ r14 w11, xCall 73 [.ref 12, .int (jI z1), .long (jL z2)] w2 (some (.long (jL r14)), w11) ∧ CS w11 ∧ r = (some (.int (jI r14)), w11)) ∧ (y8 = 0 → r = (some (.int (jI (-3))), w2)))) : xGo 85 0 [some (.ref 0), some (.int (jI z1)), some (.int (jI z2))] [] w r := by
  refine g_iloadn (pc' := 1) d_85_0 rfl rfl ?_
  refine g_iconst (pc' := 2) d_85_1 rfl rfl ?_
  obtain ⟨hc1, h⟩ := h
  refine gz_ic_lt (pc' := 5) (pt := 21) d_85_2 (by decide) rfl hc1 (s32 (z := 3)) (fun c => ?_) (fun c => ?_)
  · replace h := h.1 c
    refine g_bipush (pc' := 23) (v := jI (-3)) d_85_21 rfl (by decide) ?_
    exact g_iret d_85_23 rt_85 h
  · replace h := h.2 c
    refine g_aloadn (pc' := 6) d_85_5 rfl rfl ?_
    refine gz_getR (pc' := 9) d_85_6 rfl st_85_39 (kr_0_4 hC) ?_
    refine g_iloadn (pc' := 10) d_85_9 rfl rfl ?_
    obtain ⟨r5, w2, hk3, hC4, h⟩ := h
    refine gz_callV (pc' := 13) d_85_10 rfl st_85_204 na_31 ml_31 rfl rfl rfl rm_85_31 rfl rfl ow_31 (ko_12 hC) hk3 ?_
    refine g_iloadn (pc' := 14) d_85_13 rfl rfl ?_
    refine gz_i2l (pc' := 15) d_85_14 rfl hc1 ?_
    obtain ⟨hc6, h⟩ := h
    obtain ⟨hc7, h⟩ := h
    obtain ⟨y8, hz9, h⟩ := h
    refine gz_lrem (pc' := 16) d_85_15 rfl hc6 (in3264 hc1) hc7 hz9 ?_
    refine g_lconst (pc' := 17) (v := jL 0) d_85_16 rfl cl_0 ?_
    obtain ⟨hc10, h⟩ := h
    refine gz_lc_ne (pc' := 21) (pm := 18) (pt := 24) d_85_17 rfl d_85_18 (by decide) rfl hc10 (s64 (z := 0)) (fun c => ?_) (fun c => ?_)
    · replace h := h.1 c
      refine g_aloadn (pc' := 25) d_85_24 rfl rfl ?_
      refine gz_getR (pc' := 28) d_85_25 rfl st_85_39 (kr_0_4 hC4) ?_
      refine g_iloadn (pc' := 29) d_85_28 rfl rfl ?_
      refine g_iloadn (pc' := 30) d_85_29 rfl rfl ?_
      refine gz_i2l (pc' := 31) d_85_30 rfl hc1 ?_
      obtain ⟨r14, w11, hk12, hC13, h⟩ := h
      refine gz_callV (pc' := 34) d_85_31 rfl st_85_444 na_73 ml_73 rfl rfl rfl rm_85_73 rfl rfl ow_73 (ko_12 hC4) hk12 ?_
      refine gz_l2i (pc' := 35) d_85_34 rfl ?_
      exact g_iret d_85_35 rt_85 h
    · replace h := h.2 c
      refine g_bipush (pc' := 23) (v := jI (-3)) d_85_21 rfl (by decide) ?_
      exact g_iret d_85_23 rt_85 h
theorem Z_85 {z1 : Int} {z2 : Int} {w : xW} {r : Option Value × xW} (hC : CS w) (h : in32 z2 ∧ (z2 < 3 → r = (some (.int (jI (-3))), w)) ∧ (3 ≤ z2 → ∃ r5 w2, xCall 31 [.ref 12, .int (jI z1)] w (some (.long (jL r5)), w2) ∧ CS w2 ∧ in64 r5 ∧ z2 ≠ 0 ∧ ∃ y8, Int.tmod r5 z2 = y8 ∧ in64 y8 ∧ (y8 ≠ 0 → ∃ r14 w11, xCall 73 [.ref 12, .int (jI z1), .long (jL z2)] w2 (some (.long (jL r14)), w11) ∧ CS w11 ∧ r = (some (.int (jI r14)), w11)) ∧ (y8 = 0 → r = (some (.int (jI (-3))), w2)))) : xCall 85 [.ref 0, .int (jI z1), .int (jI z2)] w r := E_85 (Z_85_0 hC h)
theorem Z_86_0 {z1 : Int} {z2 : Int} {z3 : Int} {w : xW} {r : Option Value × xW} (hC : CS w) (h : ∃ r4 w1, xCall 87 [.ref 24, .int (jI z1), .int (jI z2)] w (some (.int (jI r4)), w1) ∧ CS w1 ∧ in32 r4 ∧ (r4 ≠ 20 → ∃ x6, fI w1 24 7 3 x6 ∧ in32 x6 ∧ (r4 ≠ x6 → ∃ (P12 : Prop) (dP13 : Decidable P12) (w9 : xW), xCall 89 [.ref 24, .int (jI r4)] w1 (some (.int (bz P12)), w9) ∧ CS w9 ∧ (¬ P12 → r = (none, w9)) ∧ (P12 → (0 ≤ r4 ∧ r4 < 20) ∧ ∀ w16, w16 = pI w9 25 (r4).toNat (jI z1) → CS w16 → ∀ w19, w19 = pI w16 26 (r4).toNat (jI z2) → CS w19 → ∀ w22, w22 = pI w19 27 (r4).toNat (jI z3) → CS w22 → r = (none, w22))) ∧ (r4 = x6 → ∀ w25, w25 = pF w1 24 3 (.int (jI (x6 + 1))) → CS w25 → ∃ (P30 : Prop) (dP31 : Decidable P30) (w27 : xW), xCall 89 [.ref 24, .int (jI r4)] w25 (some (.int (bz P30)), w27) ∧ CS w27 ∧ (¬ P30 → r = (none, w27)) ∧ (P30 → (0 ≤ r4 ∧ r4 < 20) ∧ ∀ w34, w34 = pI w27 25 (r4).toNat (jI z1) → CS w34 → ∀ w37, w37 = pI w34 26 (r4).toNat (jI z2) → CS w37 → ∀ w40, w40 = pI w37 27 (r4).toNat (jI z3) → CS w40 → r = (none, w40)))) ∧ (r4 = 20 → ∃ w42, xCall 88 [.ref 24] w1 (none, w42) ∧ CS w42 ∧ ∃ x45, fI w42 24 7 3 x45 ∧ in32 x45 ∧ (19 ≠ x45 → ∃ (P51 : Prop) (dP52 : Decidable P51) (w48 : xW), xCall 89 [.ref 24, .int (jI 19)] w42 (some (.int (bz P51)), w48) ∧ CS w48 ∧ (¬ P51 → r = (none, w48)) ∧ (P51 → ∀ w54, w54 = pI w48 25 19 (jI z1) → CS w54 → ∀ w57, w57 = pI w54 26 19 (jI z2) → CS w57 → ∀ w60, w60 = pI w57 27 19 (jI z3) → CS w60 → r = (none, w60))) ∧ (19 = x45 → ∀ w63, w63 = pF w42 24 3 (.int (jI (x45 + 1))) → CS w63 → ∃ (P68 : Prop) (dP69 : Decidable P68) (w65 : xW), xCall 89 [.ref 24, .int (jI 19)] w63 (some (.int (bz P68)), w65) ∧ CS w65 ∧ (¬ P68 → r = (none, w65)) ∧ (P68 → ∀ w71, w71 = pI w65 25 19 (jI z1) → CS w71 → ∀ w74, w74 = pI w71 26 19 (jI z2) → CS w74 → ∀ w77, w77 = pI w74 27 19 (jI z3) → CS w77 → r = (none, w77))))) : xGo 86 0 [some (.ref 24), some (.int (jI z1)), some (.int (jI z2)), some (.int (jI z3)), none] [] w r := by
  refine g_aloadn (pc' := 1) d_86_0 rfl rfl ?_
  refine g_iloadn (pc' := 2) d_86_1 rfl rfl ?_
  refine g_iloadn (pc' := 3) d_86_2 rfl rfl ?_
  obtain ⟨r4, w1, hk2, hC3, h⟩ := h
  refine gz_callV (pc' := 6) d_86_3 rfl st_86_29 na_87 ml_87 rfl rfl rfl rm_86_87 rfl rfl ow_87 (ko_24 hC) hk2 ?_
  refine g_istore (pc' := 8) (l' := [some (.ref 24), some (.int (jI z1)), some (.int (jI z2)), some (.int (jI z3)), some (.int (jI r4))]) d_86_6 rfl ml_86 rfl rfl ?_
  refine g_iload (pc' := 10) d_86_8 rfl rfl ?_
  refine g_bipush (pc' := 12) (v := jI 20) d_86_10 rfl (by decide) ?_
  obtain ⟨hc5, h⟩ := h
  refine gz_ic_ne (pc' := 15) (pt := 23) d_86_12 (by decide) rfl hc5 (s32 (z := 20)) (fun c => ?_) (fun c => ?_)
  · replace h := h.1 c
    refine g_iload (pc' := 25) d_86_23 rfl rfl ?_
    refine g_aloadn (pc' := 26) d_86_25 rfl rfl ?_
    obtain ⟨x6, hv7, h⟩ := h
    refine gz_getI (pc' := 29) d_86_26 rfl st_86_21 hv7 ?_
    obtain ⟨hc8, h⟩ := h
    refine gz_ic_ne (pc' := 32) (pt := 42) d_86_29 (by decide) rfl hc5 hc8 (fun c => ?_) (fun c => ?_)
    · replace h := h.1 c
      refine g_aloadn (pc' := 43) d_86_42 rfl rfl ?_
      refine g_iload (pc' := 45) d_86_43 rfl rfl ?_
      obtain ⟨P12, dP13, w9, hk10, hC11, h⟩ := h
      refine gz_callV (pc' := 48) d_86_45 rfl st_86_25 na_89 ml_89 rfl rfl rfl rm_86_89 rfl rfl ow_89 (ko_24 hC3) hk10 ?_
      refine gz_bt_eq (pc' := 51) (pt := 75) d_86_48 (by decide) rfl (fun c => ?_) (fun c => ?_)
      · replace h := h.1 c
        exact g_vret d_86_75 rt_86 h
      · replace h := h.2 c
        refine g_aloadn (pc' := 52) d_86_51 rfl rfl ?_
        refine gz_getR (pc' := 55) d_86_52 rfl st_86_11 (kr_24_0 hC11) ?_
        refine g_iload (pc' := 57) d_86_55 rfl rfl ?_
        refine g_iloadn (pc' := 58) d_86_57 rfl rfl ?_
        obtain ⟨hc14, h⟩ := h
        have hs15 := (kh_25 hC11 hc14)
        have hC17 : CS (pI w9 25 (r4).toNat (jI z1)) := hC11.putI
        have h := h _ rfl hC17
        refine gz_iast (pc' := 59) d_86_58 rfl hs15 ?_
        refine g_aloadn (pc' := 60) d_86_59 rfl rfl ?_
        refine gz_getR (pc' := 63) d_86_60 rfl st_86_15 (kr_24_1 hC17) ?_
        refine g_iload (pc' := 65) d_86_63 rfl rfl ?_
        refine g_iloadn (pc' := 66) d_86_65 rfl rfl ?_
        have hs18 := (kh_26 hC17 hc14)
        have hC20 : CS (pI (pI w9 25 (r4).toNat (jI z1)) 26 (r4).toNat (jI z2)) := hC17.putI
        have h := h _ rfl hC20
        refine gz_iast (pc' := 67) d_86_66 rfl hs18 ?_
        refine g_aloadn (pc' := 68) d_86_67 rfl rfl ?_
        refine gz_getR (pc' := 71) d_86_68 rfl st_86_18 (kr_24_2 hC20) ?_
        refine g_iload (pc' := 73) d_86_71 rfl rfl ?_
        refine g_iloadn (pc' := 74) d_86_73 rfl rfl ?_
        have hs21 := (kh_27 hC20 hc14)
        have hC23 : CS (pI (pI (pI w9 25 (r4).toNat (jI z1)) 26 (r4).toNat (jI z2)) 27 (r4).toNat (jI z3)) := hC20.putI
        have h := h _ rfl hC23
        refine gz_iast (pc' := 75) d_86_74 rfl hs21 ?_
        exact g_vret d_86_75 rt_86 h
    · replace h := h.2 c
      refine g_aloadn (pc' := 33) d_86_32 rfl rfl ?_
      refine g_dup (pc' := 34) d_86_33 rfl rfl ?_
      refine gz_getI (pc' := 37) d_86_34 rfl st_86_21 hv7 ?_
      refine g_iconst (pc' := 38) d_86_37 rfl rfl ?_
      refine gz_iadd (pc' := 39) d_86_38 rfl ?_
      have hpf24 := (kf_24_3 hC3)
      have hC26 : CS (pF w1 24 3 (.int (jI (x6 + 1)))) := ks_24_3 hC3
      have h := h _ rfl hC26
      refine gz_putf (pc' := 42) d_86_39 rfl st_86_21 ft_7_3 ff_7_3 rfl (Or.inl rfl) hpf24 ?_
      refine g_aloadn (pc' := 43) d_86_42 rfl rfl ?_
      refine g_iload (pc' := 45) d_86_43 rfl rfl ?_
      obtain ⟨P30, dP31, w27, hk28, hC29, h⟩ := h
      refine gz_callV (pc' := 48) d_86_45 rfl st_86_25 na_89 ml_89 rfl rfl rfl rm_86_89 rfl rfl ow_89 (ko_24 hC26) hk28 ?_
      refine gz_bt_eq (pc' := 51) (pt := 75) d_86_48 (by decide) rfl (fun c => ?_) (fun c => ?_)
      · replace h := h.1 c
        exact g_vret d_86_75 rt_86 h
      · replace h := h.2 c
        refine g_aloadn (pc' := 52) d_86_51 rfl rfl ?_
        refine gz_getR (pc' := 55) d_86_52 rfl st_86_11 (kr_24_0 hC29) ?_
        refine g_iload (pc' := 57) d_86_55 rfl rfl ?_
        refine g_iloadn (pc' := 58) d_86_57 rfl rfl ?_
        obtain ⟨hc32, h⟩ := h
        have hs33 := (kh_25 hC29 hc32)
        have hC35 : CS (pI w27 25 (r4).toNat (jI z1)) := hC29.putI
        have h := h _ rfl hC35
        refine gz_iast (pc' := 59) d_86_58 rfl hs33 ?_
        refine g_aloadn (pc' := 60) d_86_59 rfl rfl ?_
        refine gz_getR (pc' := 63) d_86_60 rfl st_86_15 (kr_24_1 hC35) ?_
        refine g_iload (pc' := 65) d_86_63 rfl rfl ?_
        refine g_iloadn (pc' := 66) d_86_65 rfl rfl ?_
        have hs36 := (kh_26 hC35 hc32)
        have hC38 : CS (pI (pI w27 25 (r4).toNat (jI z1)) 26 (r4).toNat (jI z2)) := hC35.putI
        have h := h _ rfl hC38
        refine gz_iast (pc' := 67) d_86_66 rfl hs36 ?_
        refine g_aloadn (pc' := 68) d_86_67 rfl rfl ?_
        refine gz_getR (pc' := 71) d_86_68 rfl st_86_18 (kr_24_2 hC38) ?_
        refine g_iload (pc' := 73) d_86_71 rfl rfl ?_
        refine g_iloadn (pc' := 74) d_86_73 rfl rfl ?_
        have hs39 := (kh_27 hC38 hc32)
        have hC41 : CS (pI (pI (pI w27 25 (r4).toNat (jI z1)) 26 (r4).toNat (jI z2)) 27 (r4).toNat (jI z3)) := hC38.putI
        have h := h _ rfl hC41
        refine gz_iast (pc' := 75) d_86_74 rfl hs39 ?_
        exact g_vret d_86_75 rt_86 h
  · replace h := h.2 c
    refine g_aloadn (pc' := 16) d_86_15 rfl rfl ?_
    obtain ⟨w42, hk43, hC44, h⟩ := h
    refine gz_callV (pc' := 19) d_86_16 rfl st_86_33 na_88 ml_88 rfl rfl rfl rm_86_88 rfl rfl ow_88 (ko_24 hC3) hk43 ?_
    refine g_bipush (pc' := 21) (v := jI 19) d_86_19 rfl (by decide) ?_
    refine g_istore (pc' := 23) (l' := [some (.ref 24), some (.int (jI z1)), some (.int (jI z2)), some (.int (jI z3)), some (.int (jI 19))]) d_86_21 rfl ml_86 rfl rfl ?_
    refine g_iload (pc' := 25) d_86_23 rfl rfl ?_
    refine g_aloadn (pc' := 26) d_86_25 rfl rfl ?_
    obtain ⟨x45, hv46, h⟩ := h
    refine gz_getI (pc' := 29) d_86_26 rfl st_86_21 hv46 ?_
    obtain ⟨hc47, h⟩ := h
    refine gz_ic_ne (pc' := 32) (pt := 42) d_86_29 (by decide) rfl (s32 (z := 19)) hc47 (fun c => ?_) (fun c => ?_)
    · replace h := h.1 c
      refine g_aloadn (pc' := 43) d_86_42 rfl rfl ?_
      refine g_iload (pc' := 45) d_86_43 rfl rfl ?_
      obtain ⟨P51, dP52, w48, hk49, hC50, h⟩ := h
      refine gz_callV (pc' := 48) d_86_45 rfl st_86_25 na_89 ml_89 rfl rfl rfl rm_86_89 rfl rfl ow_89 (ko_24 hC44) hk49 ?_
      refine gz_bt_eq (pc' := 51) (pt := 75) d_86_48 (by decide) rfl (fun c => ?_) (fun c => ?_)
      · replace h := h.1 c
        exact g_vret d_86_75 rt_86 h
      · replace h := h.2 c
        refine g_aloadn (pc' := 52) d_86_51 rfl rfl ?_
        refine gz_getR (pc' := 55) d_86_52 rfl st_86_11 (kr_24_0 hC50) ?_
        refine g_iload (pc' := 57) d_86_55 rfl rfl ?_
        refine g_iloadn (pc' := 58) d_86_57 rfl rfl ?_
        have hs53 := (kh_25 (i := 19) hC50 ⟨by decide, by decide⟩)
        have hC55 : CS (pI w48 25 19 (jI z1)) := hC50.putI
        have h := h _ rfl hC55
        refine gz_iast (pc' := 59) d_86_58 rfl hs53 ?_
        refine g_aloadn (pc' := 60) d_86_59 rfl rfl ?_
        refine gz_getR (pc' := 63) d_86_60 rfl st_86_15 (kr_24_1 hC55) ?_
        refine g_iload (pc' := 65) d_86_63 rfl rfl ?_
        refine g_iloadn (pc' := 66) d_86_65 rfl rfl ?_
        have hs56 := (kh_26 (i := 19) hC55 ⟨by decide, by decide⟩)
        have hC58 : CS (pI (pI w48 25 19 (jI z1)) 26 19 (jI z2)) := hC55.putI
        have h := h _ rfl hC58
        refine gz_iast (pc' := 67) d_86_66 rfl hs56 ?_
        refine g_aloadn (pc' := 68) d_86_67 rfl rfl ?_
        refine gz_getR (pc' := 71) d_86_68 rfl st_86_18 (kr_24_2 hC58) ?_
        refine g_iload (pc' := 73) d_86_71 rfl rfl ?_
        refine g_iloadn (pc' := 74) d_86_73 rfl rfl ?_
        have hs59 := (kh_27 (i := 19) hC58 ⟨by decide, by decide⟩)
        have hC61 : CS (pI (pI (pI w48 25 19 (jI z1)) 26 19 (jI z2)) 27 19 (jI z3)) := hC58.putI
        have h := h _ rfl hC61
        refine gz_iast (pc' := 75) d_86_74 rfl hs59 ?_
        exact g_vret d_86_75 rt_86 h
    · replace h := h.2 c
      refine g_aloadn (pc' := 33) d_86_32 rfl rfl ?_
      refine g_dup (pc' := 34) d_86_33 rfl rfl ?_
      refine gz_getI (pc' := 37) d_86_34 rfl st_86_21 hv46 ?_
      refine g_iconst (pc' := 38) d_86_37 rfl rfl ?_
      refine gz_iadd (pc' := 39) d_86_38 rfl ?_
      have hpf62 := (kf_24_3 hC44)
      have hC64 : CS (pF w42 24 3 (.int (jI (x45 + 1)))) := ks_24_3 hC44
      have h := h _ rfl hC64
      refine gz_putf (pc' := 42) d_86_39 rfl st_86_21 ft_7_3 ff_7_3 rfl (Or.inl rfl) hpf62 ?_
      refine g_aloadn (pc' := 43) d_86_42 rfl rfl ?_
      refine g_iload (pc' := 45) d_86_43 rfl rfl ?_
      obtain ⟨P68, dP69, w65, hk66, hC67, h⟩ := h
      refine gz_callV (pc' := 48) d_86_45 rfl st_86_25 na_89 ml_89 rfl rfl rfl rm_86_89 rfl rfl ow_89 (ko_24 hC64) hk66 ?_
      refine gz_bt_eq (pc' := 51) (pt := 75) d_86_48 (by decide) rfl (fun c => ?_) (fun c => ?_)
      · replace h := h.1 c
        exact g_vret d_86_75 rt_86 h
      · replace h := h.2 c
        refine g_aloadn (pc' := 52) d_86_51 rfl rfl ?_
        refine gz_getR (pc' := 55) d_86_52 rfl st_86_11 (kr_24_0 hC67) ?_
        refine g_iload (pc' := 57) d_86_55 rfl rfl ?_
        refine g_iloadn (pc' := 58) d_86_57 rfl rfl ?_
        have hs70 := (kh_25 (i := 19) hC67 ⟨by decide, by decide⟩)
        have hC72 : CS (pI w65 25 19 (jI z1)) := hC67.putI
        have h := h _ rfl hC72
        refine gz_iast (pc' := 59) d_86_58 rfl hs70 ?_
        refine g_aloadn (pc' := 60) d_86_59 rfl rfl ?_
        refine gz_getR (pc' := 63) d_86_60 rfl st_86_15 (kr_24_1 hC72) ?_
        refine g_iload (pc' := 65) d_86_63 rfl rfl ?_
        refine g_iloadn (pc' := 66) d_86_65 rfl rfl ?_
        have hs73 := (kh_26 (i := 19) hC72 ⟨by decide, by decide⟩)
        have hC75 : CS (pI (pI w65 25 19 (jI z1)) 26 19 (jI z2)) := hC72.putI
        have h := h _ rfl hC75
        refine gz_iast (pc' := 67) d_86_66 rfl hs73 ?_
        refine g_aloadn (pc' := 68) d_86_67 rfl rfl ?_
        refine gz_getR (pc' := 71) d_86_68 rfl st_86_18 (kr_24_2 hC75) ?_
        refine g_iload (pc' := 73) d_86_71 rfl rfl ?_
        refine g_iloadn (pc' := 74) d_86_73 rfl rfl ?_
        have hs76 := (kh_27 (i := 19) hC75 ⟨by decide, by decide⟩)
        have hC78 : CS (pI (pI (pI w65 25 19 (jI z1)) 26 19 (jI z2)) 27 19 (jI z3)) := hC75.putI
        have h := h _ rfl hC78
        refine gz_iast (pc' := 75) d_86_74 rfl hs76 ?_
        exact g_vret d_86_75 rt_86 h
theorem Z_86 {z1 : Int} {z2 : Int} {z3 : Int} {w : xW} {r : Option Value × xW} (hC : CS w) (h : ∃ r4 w1, xCall 87 [.ref 24, .int (jI z1), .int (jI z2)] w (some (.int (jI r4)), w1) ∧ CS w1 ∧ in32 r4 ∧ (r4 ≠ 20 → ∃ x6, fI w1 24 7 3 x6 ∧ in32 x6 ∧ (r4 ≠ x6 → ∃ (P12 : Prop) (dP13 : Decidable P12) (w9 : xW), xCall 89 [.ref 24, .int (jI r4)] w1 (some (.int (bz P12)), w9) ∧ CS w9 ∧ (¬ P12 → r = (none, w9)) ∧ (P12 → (0 ≤ r4 ∧ r4 < 20) ∧ ∀ w16, w16 = pI w9 25 (r4).toNat (jI z1) → CS w16 → ∀ w19, w19 = pI w16 26 (r4).toNat (jI z2) → CS w19 → ∀ w22, w22 = pI w19 27 (r4).toNat (jI z3) → CS w22 → r = (none, w22))) ∧ (r4 = x6 → ∀ w25, w25 = pF w1 24 3 (.int (jI (x6 + 1))) → CS w25 → ∃ (P30 : Prop) (dP31 : Decidable P30) (w27 : xW), xCall 89 [.ref 24, .int (jI r4)] w25 (some (.int (bz P30)), w27) ∧ CS w27 ∧ (¬ P30 → r = (none, w27)) ∧ (P30 → (0 ≤ r4 ∧ r4 < 20) ∧ ∀ w34, w34 = pI w27 25 (r4).toNat (jI z1) → CS w34 → ∀ w37, w37 = pI w34 26 (r4).toNat (jI z2) → CS w37 → ∀ w40, w40 = pI w37 27 (r4).toNat (jI z3) → CS w40 → r = (none, w40)))) ∧ (r4 = 20 → ∃ w42, xCall 88 [.ref 24] w1 (none, w42) ∧ CS w42 ∧ ∃ x45, fI w42 24 7 3 x45 ∧ in32 x45 ∧ (19 ≠ x45 → ∃ (P51 : Prop) (dP52 : Decidable P51) (w48 : xW), xCall 89 [.ref 24, .int (jI 19)] w42 (some (.int (bz P51)), w48) ∧ CS w48 ∧ (¬ P51 → r = (none, w48)) ∧ (P51 → ∀ w54, w54 = pI w48 25 19 (jI z1) → CS w54 → ∀ w57, w57 = pI w54 26 19 (jI z2) → CS w57 → ∀ w60, w60 = pI w57 27 19 (jI z3) → CS w60 → r = (none, w60))) ∧ (19 = x45 → ∀ w63, w63 = pF w42 24 3 (.int (jI (x45 + 1))) → CS w63 → ∃ (P68 : Prop) (dP69 : Decidable P68) (w65 : xW), xCall 89 [.ref 24, .int (jI 19)] w63 (some (.int (bz P68)), w65) ∧ CS w65 ∧ (¬ P68 → r = (none, w65)) ∧ (P68 → ∀ w71, w71 = pI w65 25 19 (jI z1) → CS w71 → ∀ w74, w74 = pI w71 26 19 (jI z2) → CS w74 → ∀ w77, w77 = pI w74 27 19 (jI z3) → CS w77 → r = (none, w77))))) : xCall 86 [.ref 24, .int (jI z1), .int (jI z2), .int (jI z3)] w r := E_86 (Z_86_0 hC h)
theorem Z_87_0 {z1 : Int} {z2 : Int} {w : xW} {r : Option Value × xW} (hC : CS w) (h : xGo 87 2 [some (.ref 24), some (.int (jI z1)), some (.int (jI z2)), some (.int (jI 0))] [] w r) : xGo 87 0 [some (.ref 24), some (.int (jI z1)), some (.int (jI z2)), none] [] w r := by
  refine g_iconst (pc' := 1) d_87_0 rfl rfl ?_
  refine g_istoren (pc' := 2) (l' := [some (.ref 24), some (.int (jI z1)), some (.int (jI z2)), some (.int (jI 0))]) d_87_1 rfl ml_87 rfl rfl ?_
  exact h
theorem Z_87 {z1 : Int} {z2 : Int} {w : xW} {r : Option Value × xW} (hC : CS w) (h : xGo 87 2 [some (.ref 24), some (.int (jI z1)), some (.int (jI z2)), some (.int (jI 0))] [] w r) : xCall 87 [.ref 24, .int (jI z1), .int (jI z2)] w r := E_87 (Z_87_0 hC h)
theorem Z_87_2 {z1 : Int} {z2 : Int} {z3 : Int} {w : xW} {r : Option Value × xW} (hC : CS w) (h : ∃ x1, fI w 24 7 3 x1 ∧ in32 z3 ∧ in32 x1 ∧ (x1 ≤ z3 → r = (some (.int (jI x1)), w)) ∧ (z3 < x1 → (20 ≤ z3 → r = (some (.int (jI x1)), w)) ∧ (z3 < 20 → 0 ≤ z3 ∧ ∃ x6, rI w 25 (z3).toNat x6 ∧ in32 x6 ∧ in32 z1 ∧ (x6 ≠ z1 → xGo 87 2 [some (.ref 24), some (.int (jI z1)), some (.int (jI z2)), some (.int (jI (z3 + 1)))] [] w r) ∧ (x6 = z1 → 0 ≤ z3 ∧ ∃ x11, rI w 26 (z3).toNat x11 ∧ in32 x11 ∧ in32 z2 ∧ (x11 ≠ z2 → xGo 87 2 [some (.ref 24), some (.int (jI z1)), some (.int (jI z2)), some (.int (jI (z3 + 1)))] [] w r) ∧ (x11 = z2 → r = (some (.int (jI z3)), w)))))) : xGo 87 2 [some (.ref 24), some (.int (jI z1)), some (.int (jI z2)), some (.int (jI z3))] [] w r := by
  refine g_iloadn (pc' := 3) d_87_2 rfl rfl ?_
  refine g_aloadn (pc' := 4) d_87_3 rfl rfl ?_
  obtain ⟨x1, hv2, h⟩ := h
  refine gz_getI (pc' := 7) d_87_4 rfl st_87_21 hv2 ?_
  obtain ⟨hc3, h⟩ := h
  obtain ⟨hc4, h⟩ := h
  refine gz_ic_ge (pc' := 10) (pt := 44) d_87_7 (by decide) rfl hc3 hc4 (fun c => ?_) (fun c => ?_)
  · replace h := h.1 c
    refine g_aloadn (pc' := 45) d_87_44 rfl rfl ?_
    refine gz_getI (pc' := 48) d_87_45 rfl st_87_21 hv2 ?_
    exact g_iret d_87_48 rt_87 h
  · replace h := h.2 c
    refine g_iloadn (pc' := 11) d_87_10 rfl rfl ?_
    refine g_bipush (pc' := 13) (v := jI 20) d_87_11 rfl (by decide) ?_
    refine gz_ic_ge (pc' := 16) (pt := 44) d_87_13 (by decide) rfl hc3 (s32 (z := 20)) (fun c => ?_) (fun c => ?_)
    · replace h := h.1 c
      refine g_aloadn (pc' := 45) d_87_44 rfl rfl ?_
      refine gz_getI (pc' := 48) d_87_45 rfl st_87_21 hv2 ?_
      exact g_iret d_87_48 rt_87 h
    · replace h := h.2 c
      refine g_aloadn (pc' := 17) d_87_16 rfl rfl ?_
      refine gz_getR (pc' := 20) d_87_17 rfl st_87_11 (kr_24_0 hC) ?_
      refine g_iloadn (pc' := 21) d_87_20 rfl rfl ?_
      obtain ⟨hc5, h⟩ := h
      obtain ⟨x6, hv7, h⟩ := h
      refine gz_iald (pc' := 22) d_87_21 rfl hc5 hv7 ?_
      refine g_iloadn (pc' := 23) d_87_22 rfl rfl ?_
      obtain ⟨hc8, h⟩ := h
      obtain ⟨hc9, h⟩ := h
      refine gz_ic_ne (pc' := 26) (pt := 38) d_87_23 (by decide) rfl hc8 hc9 (fun c => ?_) (fun c => ?_)
      · replace h := h.1 c
        refine gz_iinc (pc' := 41) (l' := [some (.ref 24), some (.int (jI z1)), some (.int (jI z2)), some (.int (jI (z3 + 1)))]) d_87_38 rfl rfl ml_87 rfl rfl ?_
        refine g_goto (pt := 2) d_87_41 (by decide) ?_
        exact h
      · replace h := h.2 c
        refine g_aloadn (pc' := 27) d_87_26 rfl rfl ?_
        refine gz_getR (pc' := 30) d_87_27 rfl st_87_15 (kr_24_1 hC) ?_
        refine g_iloadn (pc' := 31) d_87_30 rfl rfl ?_
        obtain ⟨hc10, h⟩ := h
        obtain ⟨x11, hv12, h⟩ := h
        refine gz_iald (pc' := 32) d_87_31 rfl hc10 hv12 ?_
        refine g_iloadn (pc' := 33) d_87_32 rfl rfl ?_
        obtain ⟨hc13, h⟩ := h
        obtain ⟨hc14, h⟩ := h
        refine gz_ic_ne (pc' := 36) (pt := 38) d_87_33 (by decide) rfl hc13 hc14 (fun c => ?_) (fun c => ?_)
        · replace h := h.1 c
          refine gz_iinc (pc' := 41) (l' := [some (.ref 24), some (.int (jI z1)), some (.int (jI z2)), some (.int (jI (z3 + 1)))]) d_87_38 rfl rfl ml_87 rfl rfl ?_
          refine g_goto (pt := 2) d_87_41 (by decide) ?_
          exact h
        · replace h := h.2 c
          refine g_iloadn (pc' := 37) d_87_36 rfl rfl ?_
          exact g_iret d_87_37 rt_87 h
theorem Z_89_0 {z1 : Int} {w : xW} {r : Option Value × xW} (hC : CS w) (h : in32 z1 ∧ (z1 < 0 → r = (some (.int (jI 0)), w)) ∧ (0 ≤ z1 → ∃ x2, fI w 24 7 3 x2 ∧ in32 x2 ∧ (x2 ≤ z1 → r = (some (.int (jI 0)), w)) ∧ (z1 < x2 → (20 ≤ z1 → r = (some (.int (jI 0)), w)) ∧ (z1 < 20 → r = (some (.int (jI 1)), w))))) : xGo 89 0 [some (.ref 24), some (.int (jI z1))] [] w r := by
  refine g_iloadn (pc' := 1) d_89_0 rfl rfl ?_
  obtain ⟨hc1, h⟩ := h
  refine gz_if_lt (pc' := 4) (pt := 22) d_89_1 (by decide) rfl hc1 (fun c => ?_) (fun c => ?_)
  · replace h := h.1 c
    refine g_iconst (pc' := 23) d_89_22 rfl rfl ?_
    exact g_zret d_89_23 rt_89 (Or.inl rfl) h
  · replace h := h.2 c
    refine g_iloadn (pc' := 5) d_89_4 rfl rfl ?_
    refine g_aloadn (pc' := 6) d_89_5 rfl rfl ?_
    obtain ⟨x2, hv3, h⟩ := h
    refine gz_getI (pc' := 9) d_89_6 rfl st_89_21 hv3 ?_
    obtain ⟨hc4, h⟩ := h
    refine gz_ic_ge (pc' := 12) (pt := 22) d_89_9 (by decide) rfl hc1 hc4 (fun c => ?_) (fun c => ?_)
    · replace h := h.1 c
      refine g_iconst (pc' := 23) d_89_22 rfl rfl ?_
      exact g_zret d_89_23 rt_89 (Or.inl rfl) h
    · replace h := h.2 c
      refine g_iloadn (pc' := 13) d_89_12 rfl rfl ?_
      refine g_bipush (pc' := 15) (v := jI 20) d_89_13 rfl (by decide) ?_
      refine gz_ic_ge (pc' := 18) (pt := 22) d_89_15 (by decide) rfl hc1 (s32 (z := 20)) (fun c => ?_) (fun c => ?_)
      · replace h := h.1 c
        refine g_iconst (pc' := 23) d_89_22 rfl rfl ?_
        exact g_zret d_89_23 rt_89 (Or.inl rfl) h
      · replace h := h.2 c
        refine g_iconst (pc' := 19) d_89_18 rfl rfl ?_
        refine g_goto (pt := 23) d_89_19 (by decide) ?_
        exact g_zret d_89_23 rt_89 (Or.inr rfl) h
theorem Z_89 {z1 : Int} {w : xW} {r : Option Value × xW} (hC : CS w) (h : in32 z1 ∧ (z1 < 0 → r = (some (.int (jI 0)), w)) ∧ (0 ≤ z1 → ∃ x2, fI w 24 7 3 x2 ∧ in32 x2 ∧ (x2 ≤ z1 → r = (some (.int (jI 0)), w)) ∧ (z1 < x2 → (20 ≤ z1 → r = (some (.int (jI 0)), w)) ∧ (z1 < 20 → r = (some (.int (jI 1)), w))))) : xCall 89 [.ref 24, .int (jI z1)] w r := E_89 (Z_89_0 hC h)
theorem Z_90_0 {z1 : Int} {z2 : Int} {w : xW} {r : Option Value × xW} (hC : CS w) (h : ∃ (P4 : Prop) (dP5 : Decidable P4) (w1 : xW), xCall 24 [.int (jI z1)] w (some (.int (bz P4)), w1) ∧ CS w1 ∧ (¬ P4 → r = (some (.int (jI (-1))), w1)) ∧ (P4 → ∃ (P9 : Prop) (dP10 : Decidable P9) (w6 : xW), xCall 84 [.int (jI z2)] w1 (some (.int (bz P9)), w6) ∧ CS w6 ∧ (P9 → ∃ (P14 : Prop) (dP15 : Decidable P14) (w11 : xW), xCall 47 [.int (jI z1)] w6 (some (.int (bz P14)), w11) ∧ CS w11 ∧ (¬ P14 → r = (some (.int (jI (-3))), w11)) ∧ (P14 → in32 z1 ∧ in32 (z2 - 1) ∧ z2 - 1 ≠ 0 ∧ ∃ y19, Int.tmod z1 (z2 - 1) = y19 ∧ in32 y19 ∧ (y19 ≠ 0 → ∃ r25 w22, xCall 91 [.int (jI z1), .int (jI z2)] w11 (some (.long (jL r25)), w22) ∧ CS w22 ∧ r = (some (.int (jI r25)), w22)) ∧ (y19 = 0 → r = (some (.int (jI (-3))), w11)))) ∧ (¬ P9 → r = (some (.int (jI (-1))), w6)))) : xGo 90 0 [some (.ref 0), some (.int (jI z1)), some (.int (jI z2))] [] w r := by
  refine g_iloadn (pc' := 1) d_90_0 rfl rfl ?_
  obtain ⟨P4, dP5, w1, hk2, hC3, h⟩ := h
  refine g_callS (pc' := 4) d_90_1 rfl st_90_120 (Or.inl rfl) na_24 ml_24 rfl rfl rfl rm_90_24 rfl rfl hk2 ?_
  refine gz_bt_eq (pc' := 7) (pt := 14) d_90_4 (by decide) rfl (fun c => ?_) (fun c => ?_)
  · replace h := h.1 c
    refine g_iconst (pc' := 15) d_90_14 rfl rfl ?_
    exact g_iret d_90_15 rt_90 h
  · replace h := h.2 c
    refine g_iloadn (pc' := 8) d_90_7 rfl rfl ?_
    obtain ⟨P9, dP10, w6, hk7, hC8, h⟩ := h
    refine g_callS (pc' := 11) d_90_8 rfl st_90_222 (Or.inl rfl) na_84 ml_84 rfl rfl rfl rm_90_84 rfl rfl hk7 ?_
    refine gz_bt_ne (pc' := 14) (pt := 16) d_90_11 (by decide) rfl (fun c => ?_) (fun c => ?_)
    · replace h := h.1 c
      refine g_iloadn (pc' := 17) d_90_16 rfl rfl ?_
      obtain ⟨P14, dP15, w11, hk12, hC13, h⟩ := h
      refine g_callS (pc' := 20) d_90_17 rfl st_90_190 (Or.inl rfl) na_47 ml_47 rfl rfl rfl rm_90_47 rfl rfl hk12 ?_
      refine gz_bt_eq (pc' := 23) (pt := 31) d_90_20 (by decide) rfl (fun c => ?_) (fun c => ?_)
      · replace h := h.1 c
        refine g_bipush (pc' := 33) (v := jI (-3)) d_90_31 rfl (by decide) ?_
        exact g_iret d_90_33 rt_90 h
      · replace h := h.2 c
        refine g_iloadn (pc' := 24) d_90_23 rfl rfl ?_
        refine g_iloadn (pc' := 25) d_90_24 rfl rfl ?_
        refine g_iconst (pc' := 26) d_90_25 rfl rfl ?_
        refine gz_isub (pc' := 27) d_90_26 rfl ?_
        obtain ⟨hc16, h⟩ := h
        obtain ⟨hc17, h⟩ := h
        obtain ⟨hc18, h⟩ := h
        obtain ⟨y19, hz20, h⟩ := h
        refine gz_irem (pc' := 28) d_90_27 rfl hc16 hc17 hc18 hz20 ?_
        obtain ⟨hc21, h⟩ := h
        refine gz_if_ne (pc' := 31) (pt := 34) d_90_28 (by decide) rfl hc21 (fun c => ?_) (fun c => ?_)
        · replace h := h.1 c
          refine g_iloadn (pc' := 35) d_90_34 rfl rfl ?_
          refine g_iloadn (pc' := 36) d_90_35 rfl rfl ?_
          obtain ⟨r25, w22, hk23, hC24, h⟩ := h
          refine g_callS (pc' := 39) d_90_36 rfl st_90_232 (Or.inl rfl) na_91 ml_91 rfl rfl rfl rm_90_91 rfl rfl hk23 ?_
          refine gz_l2i (pc' := 40) d_90_39 rfl ?_
          exact g_iret d_90_40 rt_90 h
        · replace h := h.2 c
          refine g_bipush (pc' := 33) (v := jI (-3)) d_90_31 rfl (by decide) ?_
          exact g_iret d_90_33 rt_90 h
    · replace h := h.2 c
      refine g_iconst (pc' := 15) d_90_14 rfl rfl ?_
      exact g_iret d_90_15 rt_90 h
theorem Z_90 {z1 : Int} {z2 : Int} {w : xW} {r : Option Value × xW} (hC : CS w) (h : ∃ (P4 : Prop) (dP5 : Decidable P4) (w1 : xW), xCall 24 [.int (jI z1)] w (some (.int (bz P4)), w1) ∧ CS w1 ∧ (¬ P4 → r = (some (.int (jI (-1))), w1)) ∧ (P4 → ∃ (P9 : Prop) (dP10 : Decidable P9) (w6 : xW), xCall 84 [.int (jI z2)] w1 (some (.int (bz P9)), w6) ∧ CS w6 ∧ (P9 → ∃ (P14 : Prop) (dP15 : Decidable P14) (w11 : xW), xCall 47 [.int (jI z1)] w6 (some (.int (bz P14)), w11) ∧ CS w11 ∧ (¬ P14 → r = (some (.int (jI (-3))), w11)) ∧ (P14 → in32 z1 ∧ in32 (z2 - 1) ∧ z2 - 1 ≠ 0 ∧ ∃ y19, Int.tmod z1 (z2 - 1) = y19 ∧ in32 y19 ∧ (y19 ≠ 0 → ∃ r25 w22, xCall 91 [.int (jI z1), .int (jI z2)] w11 (some (.long (jL r25)), w22) ∧ CS w22 ∧ r = (some (.int (jI r25)), w22)) ∧ (y19 = 0 → r = (some (.int (jI (-3))), w11)))) ∧ (¬ P9 → r = (some (.int (jI (-1))), w6)))) : xCall 90 [.ref 0, .int (jI z1), .int (jI z2)] w r := E_90 (Z_90_0 hC h)
theorem Z_91_0 {z0 : Int} {z1 : Int} {w : xW} {r : Option Value × xW} (hC : CS w) (h : in32 z1 ∧ (z1 ≤ 0 → r = (some (.long (jL 0)), w)) ∧ (0 < z1 → ∃ r5 w2, xCall 49 [.int (jI z0), .int (jI z1), .long (jL (z1 * z1))] w (some (.long (jL r5)), w2) ∧ CS w2 ∧ in64 r5 ∧ z1 ≠ 0 ∧ ∃ y8, Int.tdiv r5 z1 = y8 ∧ r = (some (.long (jL y8)), w2))) : xGo 91 0 [some (.int (jI z0)), some (.int (jI z1))] [] w r := by
  refine g_iloadn (pc' := 1) d_91_0 rfl rfl ?_
  obtain ⟨hc1, h⟩ := h
  refine gz_if_le (pc' := 4) (pt := 20) d_91_1 (by decide) rfl hc1 (fun c => ?_) (fun c => ?_)
  · replace h := h.1 c
    refine g_lconst (pc' := 21) (v := jL 0) d_91_20 rfl cl_0 ?_
    exact g_lret d_91_21 rt_91 h
  · replace h := h.2 c
    refine g_iloadn (pc' := 5) d_91_4 rfl rfl ?_
    refine g_iloadn (pc' := 6) d_91_5 rfl rfl ?_
    refine g_iloadn (pc' := 7) d_91_6 rfl rfl ?_
    refine gz_i2l (pc' := 8) d_91_7 rfl hc1 ?_
    refine g_iloadn (pc' := 9) d_91_8 rfl rfl ?_
    refine gz_i2l (pc' := 10) d_91_9 rfl hc1 ?_
    refine gz_lmul (pc' := 11) d_91_10 rfl ?_
    obtain ⟨r5, w2, hk3, hC4, h⟩ := h
    refine g_callS (pc' := 14) d_91_11 rfl st_91_19 (Or.inl rfl) na_49 ml_49 rfl rfl rfl rm_91_49 rfl rfl hk3 ?_
    refine g_iloadn (pc' := 15) d_91_14 rfl rfl ?_
    refine gz_i2l (pc' := 16) d_91_15 rfl hc1 ?_
    obtain ⟨hc6, h⟩ := h
    obtain ⟨hc7, h⟩ := h
    obtain ⟨y8, hz9, h⟩ := h
    refine gz_ldiv (pc' := 17) d_91_16 rfl hc6 (in3264 hc1) hc7 hz9 ?_
    refine g_goto (pt := 21) d_91_17 (by decide) ?_
    exact g_lret d_91_21 rt_91 h
theorem Z_91 {z0 : Int} {z1 : Int} {w : xW} {r : Option Value × xW} (hC : CS w) (h : in32 z1 ∧ (z1 ≤ 0 → r = (some (.long (jL 0)), w)) ∧ (0 < z1 → ∃ r5 w2, xCall 49 [.int (jI z0), .int (jI z1), .long (jL (z1 * z1))] w (some (.long (jL r5)), w2) ∧ CS w2 ∧ in64 r5 ∧ z1 ≠ 0 ∧ ∃ y8, Int.tdiv r5 z1 = y8 ∧ r = (some (.long (jL y8)), w2))) : xCall 91 [.int (jI z0), .int (jI z1)] w r := E_91 (Z_91_0 hC h)
theorem Z_93_0  {w : xW} {r : Option Value × xW} (hC : CS w) (h : ∃ x1, fI w 24 7 3 x1 ∧ r = (some (.int (jI x1)), w)) : xGo 93 0 [some (.ref 24)] [] w r := by
  refine g_aloadn (pc' := 1) d_93_0 rfl rfl ?_
  obtain ⟨x1, hv2, h⟩ := h
  refine gz_getI (pc' := 4) d_93_1 rfl st_93_21 hv2 ?_
  exact g_iret d_93_4 rt_93 h
theorem Z_93  {w : xW} {r : Option Value × xW} (hC : CS w) (h : ∃ x1, fI w 24 7 3 x1 ∧ r = (some (.int (jI x1)), w)) : xCall 93 [.ref 24] w r := E_93 (Z_93_0 hC h)
theorem Z_94_0 {z1 : Int} {w : xW} {r : Option Value × xW} (hC : CS w) (h : ∃ (P4 : Prop) (dP5 : Decidable P4) (w1 : xW), xCall 89 [.ref 24, .int (jI z1)] w (some (.int (bz P4)), w1) ∧ CS w1 ∧ (¬ P4 → r = (some (.int (jI (-1))), w1)) ∧ (P4 → 0 ≤ z1 ∧ ∃ x7, rI w1 25 (z1).toNat x7 ∧ r = (some (.int (jI x7)), w1))) : xGo 94 0 [some (.ref 24), some (.int (jI z1))] [] w r := by
  refine g_aloadn (pc' := 1) d_94_0 rfl rfl ?_
  refine g_iloadn (pc' := 2) d_94_1 rfl rfl ?_
  obtain ⟨P4, dP5, w1, hk2, hC3, h⟩ := h
  refine gz_callV (pc' := 5) d_94_2 rfl st_94_25 na_89 ml_89 rfl rfl rfl rm_94_89 rfl rfl ow_89 (ko_24 hC) hk2 ?_
  refine gz_bt_eq (pc' := 8) (pt := 17) d_94_5 (by decide) rfl (fun c => ?_) (fun c => ?_)
  · replace h := h.1 c
    refine g_iconst (pc' := 18) d_94_17 rfl rfl ?_
    exact g_iret d_94_18 rt_94 h
  · replace h := h.2 c
    refine g_aloadn (pc' := 9) d_94_8 rfl rfl ?_
    refine gz_getR (pc' := 12) d_94_9 rfl st_94_11 (kr_24_0 hC3) ?_
    refine g_iloadn (pc' := 13) d_94_12 rfl rfl ?_
    obtain ⟨hc6, h⟩ := h
    obtain ⟨x7, hv8, h⟩ := h
    refine gz_iald (pc' := 14) d_94_13 rfl hc6 hv8 ?_
    refine g_goto (pt := 18) d_94_14 (by decide) ?_
    exact g_iret d_94_18 rt_94 h
theorem Z_94 {z1 : Int} {w : xW} {r : Option Value × xW} (hC : CS w) (h : ∃ (P4 : Prop) (dP5 : Decidable P4) (w1 : xW), xCall 89 [.ref 24, .int (jI z1)] w (some (.int (bz P4)), w1) ∧ CS w1 ∧ (¬ P4 → r = (some (.int (jI (-1))), w1)) ∧ (P4 → 0 ≤ z1 ∧ ∃ x7, rI w1 25 (z1).toNat x7 ∧ r = (some (.int (jI x7)), w1))) : xCall 94 [.ref 24, .int (jI z1)] w r := E_94 (Z_94_0 hC h)
theorem Z_95_0 {z1 : Int} {w : xW} {r : Option Value × xW} (hC : CS w) (h : ∃ (P4 : Prop) (dP5 : Decidable P4) (w1 : xW), xCall 89 [.ref 24, .int (jI z1)] w (some (.int (bz P4)), w1) ∧ CS w1 ∧ (¬ P4 → r = (some (.int (jI (-1))), w1)) ∧ (P4 → 0 ≤ z1 ∧ ∃ x7, rI w1 26 (z1).toNat x7 ∧ r = (some (.int (jI x7)), w1))) : xGo 95 0 [some (.ref 24), some (.int (jI z1))] [] w r := by
  refine g_aloadn (pc' := 1) d_95_0 rfl rfl ?_
  refine g_iloadn (pc' := 2) d_95_1 rfl rfl ?_
  obtain ⟨P4, dP5, w1, hk2, hC3, h⟩ := h
  refine gz_callV (pc' := 5) d_95_2 rfl st_95_25 na_89 ml_89 rfl rfl rfl rm_95_89 rfl rfl ow_89 (ko_24 hC) hk2 ?_
  refine gz_bt_eq (pc' := 8) (pt := 17) d_95_5 (by decide) rfl (fun c => ?_) (fun c => ?_)
  · replace h := h.1 c
    refine g_iconst (pc' := 18) d_95_17 rfl rfl ?_
    exact g_iret d_95_18 rt_95 h
  · replace h := h.2 c
    refine g_aloadn (pc' := 9) d_95_8 rfl rfl ?_
    refine gz_getR (pc' := 12) d_95_9 rfl st_95_15 (kr_24_1 hC3) ?_
    refine g_iloadn (pc' := 13) d_95_12 rfl rfl ?_
    obtain ⟨hc6, h⟩ := h
    obtain ⟨x7, hv8, h⟩ := h
    refine gz_iald (pc' := 14) d_95_13 rfl hc6 hv8 ?_
    refine g_goto (pt := 18) d_95_14 (by decide) ?_
    exact g_iret d_95_18 rt_95 h
theorem Z_95 {z1 : Int} {w : xW} {r : Option Value × xW} (hC : CS w) (h : ∃ (P4 : Prop) (dP5 : Decidable P4) (w1 : xW), xCall 89 [.ref 24, .int (jI z1)] w (some (.int (bz P4)), w1) ∧ CS w1 ∧ (¬ P4 → r = (some (.int (jI (-1))), w1)) ∧ (P4 → 0 ≤ z1 ∧ ∃ x7, rI w1 26 (z1).toNat x7 ∧ r = (some (.int (jI x7)), w1))) : xCall 95 [.ref 24, .int (jI z1)] w r := E_95 (Z_95_0 hC h)
theorem Z_96_0 {z1 : Int} {w : xW} {r : Option Value × xW} (hC : CS w) (h : ∃ (P4 : Prop) (dP5 : Decidable P4) (w1 : xW), xCall 89 [.ref 24, .int (jI z1)] w (some (.int (bz P4)), w1) ∧ CS w1 ∧ (¬ P4 → r = (some (.int (jI (-1))), w1)) ∧ (P4 → 0 ≤ z1 ∧ ∃ x7, rI w1 27 (z1).toNat x7 ∧ r = (some (.int (jI x7)), w1))) : xGo 96 0 [some (.ref 24), some (.int (jI z1))] [] w r := by
  refine g_aloadn (pc' := 1) d_96_0 rfl rfl ?_
  refine g_iloadn (pc' := 2) d_96_1 rfl rfl ?_
  obtain ⟨P4, dP5, w1, hk2, hC3, h⟩ := h
  refine gz_callV (pc' := 5) d_96_2 rfl st_96_25 na_89 ml_89 rfl rfl rfl rm_96_89 rfl rfl ow_89 (ko_24 hC) hk2 ?_
  refine gz_bt_eq (pc' := 8) (pt := 17) d_96_5 (by decide) rfl (fun c => ?_) (fun c => ?_)
  · replace h := h.1 c
    refine g_iconst (pc' := 18) d_96_17 rfl rfl ?_
    exact g_iret d_96_18 rt_96 h
  · replace h := h.2 c
    refine g_aloadn (pc' := 9) d_96_8 rfl rfl ?_
    refine gz_getR (pc' := 12) d_96_9 rfl st_96_18 (kr_24_2 hC3) ?_
    refine g_iloadn (pc' := 13) d_96_12 rfl rfl ?_
    obtain ⟨hc6, h⟩ := h
    obtain ⟨x7, hv8, h⟩ := h
    refine gz_iald (pc' := 14) d_96_13 rfl hc6 hv8 ?_
    refine g_goto (pt := 18) d_96_14 (by decide) ?_
    exact g_iret d_96_18 rt_96 h
theorem Z_96 {z1 : Int} {w : xW} {r : Option Value × xW} (hC : CS w) (h : ∃ (P4 : Prop) (dP5 : Decidable P4) (w1 : xW), xCall 89 [.ref 24, .int (jI z1)] w (some (.int (bz P4)), w1) ∧ CS w1 ∧ (¬ P4 → r = (some (.int (jI (-1))), w1)) ∧ (P4 → 0 ≤ z1 ∧ ∃ x7, rI w1 27 (z1).toNat x7 ∧ r = (some (.int (jI x7)), w1))) : xCall 96 [.ref 24, .int (jI z1)] w r := E_96 (Z_96_0 hC h)
theorem Z_97_0 {z1 : Int} {w : xW} {r : Option Value × xW} (hC : CS w) (h : ∃ r4 w1, xCall 94 [.ref 24, .int (jI z1)] w (some (.int (jI r4)), w1) ∧ CS w1 ∧ ∃ r8 w5, xCall 95 [.ref 24, .int (jI z1)] w1 (some (.int (jI r8)), w5) ∧ CS w5 ∧ ∃ r12 w9, xCall 85 [.ref 0, .int (jI r4), .int (jI r8)] w5 (some (.int (jI r12)), w9) ∧ CS w9 ∧ ∃ r16 w13, xCall 96 [.ref 24, .int (jI z1)] w9 (some (.int (jI r16)), w13) ∧ CS w13 ∧ in32 r12 ∧ in32 r16 ∧ (r12 ≠ r16 → r = (some (.int (jI 0)), w13)) ∧ (r12 = r16 → r = (some (.int (jI 1)), w13))) : xGo 97 0 [some (.ref 0), some (.int (jI z1))] [] w r := by
  refine g_aloadn (pc' := 1) d_97_0 rfl rfl ?_
  refine g_aloadn (pc' := 2) d_97_1 rfl rfl ?_
  refine gz_getR (pc' := 5) d_97_2 rfl st_97_65 (kr_0_9 hC) ?_
  refine g_iloadn (pc' := 6) d_97_5 rfl rfl ?_
  obtain ⟨r4, w1, hk2, hC3, h⟩ := h
  refine gz_callV (pc' := 9) d_97_6 rfl st_97_242 na_94 ml_94 rfl rfl rfl rm_97_94 rfl rfl ow_94 (ko_24 hC) hk2 ?_
  refine g_aloadn (pc' := 10) d_97_9 rfl rfl ?_
  refine gz_getR (pc' := 13) d_97_10 rfl st_97_65 (kr_0_9 hC3) ?_
  refine g_iloadn (pc' := 14) d_97_13 rfl rfl ?_
  obtain ⟨r8, w5, hk6, hC7, h⟩ := h
  refine gz_callV (pc' := 17) d_97_14 rfl st_97_246 na_95 ml_95 rfl rfl rfl rm_97_95 rfl rfl ow_95 (ko_24 hC3) hk6 ?_
  obtain ⟨r12, w9, hk10, hC11, h⟩ := h
  refine gz_callV (pc' := 20) d_97_17 rfl st_97_225 na_85 ml_85 rfl rfl rfl rm_97_85 rfl rfl ow_85 (ko_0 hC7) hk10 ?_
  refine g_aloadn (pc' := 21) d_97_20 rfl rfl ?_
  refine gz_getR (pc' := 24) d_97_21 rfl st_97_65 (kr_0_9 hC11) ?_
  refine g_iloadn (pc' := 25) d_97_24 rfl rfl ?_
  obtain ⟨r16, w13, hk14, hC15, h⟩ := h
  refine gz_callV (pc' := 28) d_97_25 rfl st_97_249 na_96 ml_96 rfl rfl rfl rm_97_96 rfl rfl ow_96 (ko_24 hC11) hk14 ?_
  obtain ⟨hc17, h⟩ := h
  obtain ⟨hc18, h⟩ := h
  refine gz_ic_ne (pc' := 31) (pt := 35) d_97_28 (by decide) rfl hc17 hc18 (fun c => ?_) (fun c => ?_)
  · replace h := h.1 c
    refine g_iconst (pc' := 36) d_97_35 rfl rfl ?_
    exact g_zret d_97_36 rt_97 (Or.inl rfl) h
  · replace h := h.2 c
    refine g_iconst (pc' := 32) d_97_31 rfl rfl ?_
    refine g_goto (pt := 36) d_97_32 (by decide) ?_
    exact g_zret d_97_36 rt_97 (Or.inr rfl) h
theorem Z_97 {z1 : Int} {w : xW} {r : Option Value × xW} (hC : CS w) (h : ∃ r4 w1, xCall 94 [.ref 24, .int (jI z1)] w (some (.int (jI r4)), w1) ∧ CS w1 ∧ ∃ r8 w5, xCall 95 [.ref 24, .int (jI z1)] w1 (some (.int (jI r8)), w5) ∧ CS w5 ∧ ∃ r12 w9, xCall 85 [.ref 0, .int (jI r4), .int (jI r8)] w5 (some (.int (jI r12)), w9) ∧ CS w9 ∧ ∃ r16 w13, xCall 96 [.ref 24, .int (jI z1)] w9 (some (.int (jI r16)), w13) ∧ CS w13 ∧ in32 r12 ∧ in32 r16 ∧ (r12 ≠ r16 → r = (some (.int (jI 0)), w13)) ∧ (r12 = r16 → r = (some (.int (jI 1)), w13))) : xCall 97 [.ref 0, .int (jI z1)] w r := E_97 (Z_97_0 hC h)
theorem Z_98_0 {z1 : Int} {z2 : Int} {w : xW} {r : Option Value × xW} (hC : CS w) (h : ∃ (P4 : Prop) (dP5 : Decidable P4) (w1 : xW), xCall 84 [.int (jI z2)] w (some (.int (bz P4)), w1) ∧ CS w1 ∧ (¬ P4 → r = (some (.int (jI (-100))), w1)) ∧ (P4 → ∃ (P9 : Prop) (dP10 : Decidable P9) (w6 : xW), xCall 99 [.ref 0, .int (jI z1)] w1 (some (.int (bz P9)), w6) ∧ CS w6 ∧ (P9 → ∃ r14 w11, xCall 63 [.ref 12, .int (jI z1)] w6 (some (.int (jI r14)), w11) ∧ CS w11 ∧ in32 r14 ∧ (r14 ≠ 0 → ∃ w16, xCall 100 [.ref 12, .int (jI z1), .ref 36] w11 (none, w16) ∧ CS w16 ∧ ∃ r22 w19, xCall 101 [.ref 36, .int (jI z2)] w16 (some (.int (jI r22)), w19) ∧ CS w19 ∧ ∃ r26 w23, xCall 102 [.ref 36, .int (jI z2)] w19 (some (.int (jI r26)), w23) ∧ CS w23 ∧ r = (some (.int (jI (r22 - r26))), w23)) ∧ (r14 = 0 → r = (some (.int (jI 100)), w11))) ∧ (¬ P9 → r = (some (.int (jI (-100))), w6)))) : xGo 98 0 [some (.ref 0), some (.int (jI z1)), some (.int (jI z2))] [] w r := by
  refine g_iloadn (pc' := 1) d_98_0 rfl rfl ?_
  obtain ⟨P4, dP5, w1, hk2, hC3, h⟩ := h
  refine g_callS (pc' := 4) d_98_1 rfl st_98_222 (Or.inl rfl) na_84 ml_84 rfl rfl rfl rm_98_84 rfl rfl hk2 ?_
  refine gz_bt_eq (pc' := 7) (pt := 15) d_98_4 (by decide) rfl (fun c => ?_) (fun c => ?_)
  · replace h := h.1 c
    refine g_bipush (pc' := 17) (v := jI (-100)) d_98_15 rfl (by decide) ?_
    exact g_iret d_98_17 rt_98 h
  · replace h := h.2 c
    refine g_aloadn (pc' := 8) d_98_7 rfl rfl ?_
    refine g_iloadn (pc' := 9) d_98_8 rfl rfl ?_
    obtain ⟨P9, dP10, w6, hk7, hC8, h⟩ := h
    refine gz_callV (pc' := 12) d_98_9 rfl st_98_163 na_99 ml_99 rfl rfl rfl rm_98_99 rfl rfl ow_99 (ko_0 hC3) hk7 ?_
    refine gz_bt_ne (pc' := 15) (pt := 18) d_98_12 (by decide) rfl (fun c => ?_) (fun c => ?_)
    · replace h := h.1 c
      refine g_aloadn (pc' := 19) d_98_18 rfl rfl ?_
      refine gz_getR (pc' := 22) d_98_19 rfl st_98_39 (kr_0_4 hC8) ?_
      refine g_iloadn (pc' := 23) d_98_22 rfl rfl ?_
      obtain ⟨r14, w11, hk12, hC13, h⟩ := h
      refine gz_callV (pc' := 26) d_98_23 rfl st_98_255 na_63 ml_63 rfl rfl rfl rm_98_63 rfl rfl ow_63 (ko_12 hC8) hk12 ?_
      obtain ⟨hc15, h⟩ := h
      refine gz_if_ne (pc' := 29) (pt := 32) d_98_26 (by decide) rfl hc15 (fun c => ?_) (fun c => ?_)
      · replace h := h.1 c
        refine g_aloadn (pc' := 33) d_98_32 rfl rfl ?_
        refine gz_getR (pc' := 36) d_98_33 rfl st_98_39 (kr_0_4 hC13) ?_
        refine g_iloadn (pc' := 37) d_98_36 rfl rfl ?_
        refine g_aloadn (pc' := 38) d_98_37 rfl rfl ?_
        refine gz_getR (pc' := 41) d_98_38 rfl st_98_95 (kr_0_13 hC13) ?_
        obtain ⟨w16, hk17, hC18, h⟩ := h
        refine gz_callV (pc' := 44) d_98_41 rfl st_98_168 na_100 ml_100 rfl rfl rfl rm_98_100 rfl rfl ow_100 (ko_12 hC13) hk17 ?_
        refine g_aloadn (pc' := 45) d_98_44 rfl rfl ?_
        refine gz_getR (pc' := 48) d_98_45 rfl st_98_95 (kr_0_13 hC18) ?_
        refine g_iloadn (pc' := 49) d_98_48 rfl rfl ?_
        obtain ⟨r22, w19, hk20, hC21, h⟩ := h
        refine gz_callV (pc' := 52) d_98_49 rfl st_98_258 na_101 ml_101 rfl rfl rfl rm_98_101 rfl rfl ow_101 (ko_36 hC18) hk20 ?_
        refine g_aloadn (pc' := 53) d_98_52 rfl rfl ?_
        refine gz_getR (pc' := 56) d_98_53 rfl st_98_95 (kr_0_13 hC21) ?_
        refine g_iloadn (pc' := 57) d_98_56 rfl rfl ?_
        obtain ⟨r26, w23, hk24, hC25, h⟩ := h
        refine gz_callV (pc' := 60) d_98_57 rfl st_98_261 na_102 ml_102 rfl rfl rfl rm_98_102 rfl rfl ow_102 (ko_36 hC21) hk24 ?_
        refine gz_isub (pc' := 61) d_98_60 rfl ?_
        exact g_iret d_98_61 rt_98 h
      · replace h := h.2 c
        refine g_bipush (pc' := 31) (v := jI 100) d_98_29 rfl (by decide) ?_
        exact g_iret d_98_31 rt_98 h
    · replace h := h.2 c
      refine g_bipush (pc' := 17) (v := jI (-100)) d_98_15 rfl (by decide) ?_
      exact g_iret d_98_17 rt_98 h
theorem Z_98 {z1 : Int} {z2 : Int} {w : xW} {r : Option Value × xW} (hC : CS w) (h : ∃ (P4 : Prop) (dP5 : Decidable P4) (w1 : xW), xCall 84 [.int (jI z2)] w (some (.int (bz P4)), w1) ∧ CS w1 ∧ (¬ P4 → r = (some (.int (jI (-100))), w1)) ∧ (P4 → ∃ (P9 : Prop) (dP10 : Decidable P9) (w6 : xW), xCall 99 [.ref 0, .int (jI z1)] w1 (some (.int (bz P9)), w6) ∧ CS w6 ∧ (P9 → ∃ r14 w11, xCall 63 [.ref 12, .int (jI z1)] w6 (some (.int (jI r14)), w11) ∧ CS w11 ∧ in32 r14 ∧ (r14 ≠ 0 → ∃ w16, xCall 100 [.ref 12, .int (jI z1), .ref 36] w11 (none, w16) ∧ CS w16 ∧ ∃ r22 w19, xCall 101 [.ref 36, .int (jI z2)] w16 (some (.int (jI r22)), w19) ∧ CS w19 ∧ ∃ r26 w23, xCall 102 [.ref 36, .int (jI z2)] w19 (some (.int (jI r26)), w23) ∧ CS w23 ∧ r = (some (.int (jI (r22 - r26))), w23)) ∧ (r14 = 0 → r = (some (.int (jI 100)), w11))) ∧ (¬ P9 → r = (some (.int (jI (-100))), w6)))) : xCall 98 [.ref 0, .int (jI z1), .int (jI z2)] w r := E_98 (Z_98_0 hC h)
theorem Z_99_0 {z1 : Int} {w : xW} {r : Option Value × xW} (hC : CS w) (h : in32 z1 ∧ (z1 < 0 → r = (some (.int (jI 0)), w)) ∧ (0 ≤ z1 → ∃ x2, fI w 0 0 7 x2 ∧ in32 x2 ∧ (x2 < z1 → r = (some (.int (jI 0)), w)) ∧ (z1 ≤ x2 → r = (some (.int (jI 1)), w)))) : xGo 99 0 [some (.ref 0), some (.int (jI z1))] [] w r := by
  refine g_iloadn (pc' := 1) d_99_0 rfl rfl ?_
  obtain ⟨hc1, h⟩ := h
  refine gz_if_lt (pc' := 4) (pt := 16) d_99_1 (by decide) rfl hc1 (fun c => ?_) (fun c => ?_)
  · replace h := h.1 c
    refine g_iconst (pc' := 17) d_99_16 rfl rfl ?_
    exact g_zret d_99_17 rt_99 (Or.inl rfl) h
  · replace h := h.2 c
    refine g_iloadn (pc' := 5) d_99_4 rfl rfl ?_
    refine g_aloadn (pc' := 6) d_99_5 rfl rfl ?_
    obtain ⟨x2, hv3, h⟩ := h
    refine gz_getI (pc' := 9) d_99_6 rfl st_99_49 hv3 ?_
    obtain ⟨hc4, h⟩ := h
    refine gz_ic_gt (pc' := 12) (pt := 16) d_99_9 (by decide) rfl hc1 hc4 (fun c => ?_) (fun c => ?_)
    · replace h := h.1 c
      refine g_iconst (pc' := 17) d_99_16 rfl rfl ?_
      exact g_zret d_99_17 rt_99 (Or.inl rfl) h
    · replace h := h.2 c
      refine g_iconst (pc' := 13) d_99_12 rfl rfl ?_
      refine g_goto (pt := 17) d_99_13 (by decide) ?_
      exact g_zret d_99_17 rt_99 (Or.inr rfl) h
theorem Z_99 {z1 : Int} {w : xW} {r : Option Value × xW} (hC : CS w) (h : in32 z1 ∧ (z1 < 0 → r = (some (.int (jI 0)), w)) ∧ (0 ≤ z1 → ∃ x2, fI w 0 0 7 x2 ∧ in32 x2 ∧ (x2 < z1 → r = (some (.int (jI 0)), w)) ∧ (z1 ≤ x2 → r = (some (.int (jI 1)), w)))) : xCall 99 [.ref 0, .int (jI z1)] w r := E_99 (Z_99_0 hC h)
theorem Z_100_0 {e : Nat} {z1 : Int} {a2 : Nat} {w : xW} {r : Option Value × xW} (hC : CS w) (he : eIs e) (h : ∃ r4 w1, xCall 29 [.ref e, .int (jI z1)] w (some (.long (jL r4)), w1) ∧ CS w1 ∧ ∃ r8 w5, xCall 30 [.ref e, .int (jI z1)] w1 (some (.long (jL r8)), w5) ∧ CS w5 ∧ ∃ r12 w9, xCall 31 [.ref e, .int (jI z1)] w5 (some (.long (jL r12)), w9) ∧ CS w9 ∧ isO w9 a2 5 ∧ ∃ w14, xCall 16 [.ref a2, .long (jL r4), .long (jL r8), .long (jL r12)] w9 (none, w14) ∧ CS w14 ∧ r = (none, w14)) : xGo 100 0 [some (.ref e), some (.int (jI z1)), some (.ref a2)] [] w r := by
  refine g_aloadn (pc' := 1) d_100_0 rfl rfl ?_
  refine g_aloadn (pc' := 2) d_100_1 rfl rfl ?_
  refine g_iloadn (pc' := 3) d_100_2 rfl rfl ?_
  obtain ⟨r4, w1, hk2, hC3, h⟩ := h
  refine gz_callV (pc' := 6) d_100_3 rfl st_100_38 na_29 ml_29 rfl rfl rfl rm_100_29 rfl rfl ow_29 (ko_e he hC) hk2 ?_
  refine g_aloadn (pc' := 7) d_100_6 rfl rfl ?_
  refine g_iloadn (pc' := 8) d_100_7 rfl rfl ?_
  obtain ⟨r8, w5, hk6, hC7, h⟩ := h
  refine gz_callV (pc' := 11) d_100_8 rfl st_100_42 na_30 ml_30 rfl rfl rfl rm_100_30 rfl rfl ow_30 (ko_e he hC3) hk6 ?_
  refine g_aloadn (pc' := 12) d_100_11 rfl rfl ?_
  refine g_iloadn (pc' := 13) d_100_12 rfl rfl ?_
  obtain ⟨r12, w9, hk10, hC11, h⟩ := h
  refine gz_callV (pc' := 16) d_100_13 rfl st_100_55 na_31 ml_31 rfl rfl rfl rm_100_31 rfl rfl ow_31 (ko_e he hC7) hk10 ?_
  obtain ⟨hc13, h⟩ := h
  obtain ⟨w14, hk15, hC16, h⟩ := h
  refine gz_callV (pc' := 19) d_100_16 rfl st_100_58 na_16 ml_16 rfl rfl rfl rm_100_16 rfl rfl ow_16 hc13 hk15 ?_
  exact g_vret d_100_19 rt_100 h
theorem Z_100 {e : Nat} {z1 : Int} {a2 : Nat} {w : xW} {r : Option Value × xW} (hC : CS w) (he : eIs e) (h : ∃ r4 w1, xCall 29 [.ref e, .int (jI z1)] w (some (.long (jL r4)), w1) ∧ CS w1 ∧ ∃ r8 w5, xCall 30 [.ref e, .int (jI z1)] w1 (some (.long (jL r8)), w5) ∧ CS w5 ∧ ∃ r12 w9, xCall 31 [.ref e, .int (jI z1)] w5 (some (.long (jL r12)), w9) ∧ CS w9 ∧ isO w9 a2 5 ∧ ∃ w14, xCall 16 [.ref a2, .long (jL r4), .long (jL r8), .long (jL r12)] w9 (none, w14) ∧ CS w14 ∧ r = (none, w14)) : xCall 100 [.ref e, .int (jI z1), .ref a2] w r := E_100 (Z_100_0 hC he h)
theorem Z_101_0 {q : Nat} {z1 : Int} {w : xW} {r : Option Value × xW} (hC : CS w) (h : in32 z1 ∧ (z1 < 2 → r = (some (.int (jI 0)), w)) ∧ (2 ≤ z1 → ∃ x2, fJ w q 5 0 x2 ∧ in64 x2 ∧ (x2 ≠ 0 → ∃ x5, fJ w q 5 1 x5 ∧ xGo 101 39 [some (.ref q), some (.int (jI z1)), some (.long (jL x2)), none, some (.long (jL x5)), none, some (.int (jI 0)), none, none] [] w r) ∧ (x2 = 0 → ∃ x7, fJ w q 5 1 x7 ∧ in64 x7 ∧ (x7 ≠ 0 → xGo 101 39 [some (.ref q), some (.int (jI z1)), some (.long (jL x2)), none, some (.long (jL x7)), none, some (.int (jI 0)), none, none] [] w r) ∧ (x7 = 0 → r = (some (.int (jI 0)), w))))) : xGo 101 0 [some (.ref q), some (.int (jI z1)), none, none, none, none, none, none, none] [] w r := by
  refine g_iloadn (pc' := 1) d_101_0 rfl rfl ?_
  refine g_iconst (pc' := 2) d_101_1 rfl rfl ?_
  obtain ⟨hc1, h⟩ := h
  refine gz_ic_lt (pc' := 5) (pt := 23) d_101_2 (by decide) rfl hc1 (s32 (z := 2)) (fun c => ?_) (fun c => ?_)
  · replace h := h.1 c
    refine g_iconst (pc' := 24) d_101_23 rfl rfl ?_
    exact g_iret d_101_24 rt_101 h
  · replace h := h.2 c
    refine g_aloadn (pc' := 6) d_101_5 rfl rfl ?_
    obtain ⟨x2, hv3, h⟩ := h
    refine gz_getJ (pc' := 9) d_101_6 rfl st_101_25 hv3 ?_
    refine g_lconst (pc' := 10) (v := jL 0) d_101_9 rfl cl_0 ?_
    obtain ⟨hc4, h⟩ := h
    refine gz_lc_ne (pc' := 14) (pm := 11) (pt := 25) d_101_10 rfl d_101_11 (by decide) rfl hc4 (s64 (z := 0)) (fun c => ?_) (fun c => ?_)
    · replace h := h.1 c
      refine g_aloadn (pc' := 26) d_101_25 rfl rfl ?_
      refine gz_getJ (pc' := 29) d_101_26 rfl st_101_25 hv3 ?_
      refine g_lstoren (pc' := 30) (l' := [some (.ref q), some (.int (jI z1)), some (.long (jL x2)), none, none, none, none, none, none]) d_101_29 rfl ml_101 rfl rfl ?_
      refine g_aloadn (pc' := 31) d_101_30 rfl rfl ?_
      obtain ⟨x5, hv6, h⟩ := h
      refine gz_getJ (pc' := 34) d_101_31 rfl st_101_28 hv6 ?_
      refine g_lstore (pc' := 36) (l' := [some (.ref q), some (.int (jI z1)), some (.long (jL x2)), none, some (.long (jL x5)), none, none, none, none]) d_101_34 rfl ml_101 rfl rfl ?_
      refine g_iconst (pc' := 37) d_101_36 rfl rfl ?_
      refine g_istore (pc' := 39) (l' := [some (.ref q), some (.int (jI z1)), some (.long (jL x2)), none, some (.long (jL x5)), none, some (.int (jI 0)), none, none]) d_101_37 rfl ml_101 rfl rfl ?_
      exact h
    · replace h := h.2 c
      refine g_aloadn (pc' := 15) d_101_14 rfl rfl ?_
      obtain ⟨x7, hv8, h⟩ := h
      refine gz_getJ (pc' := 18) d_101_15 rfl st_101_28 hv8 ?_
      refine g_lconst (pc' := 19) (v := jL 0) d_101_18 rfl cl_0 ?_
      obtain ⟨hc9, h⟩ := h
      refine gz_lc_ne (pc' := 23) (pm := 20) (pt := 25) d_101_19 rfl d_101_20 (by decide) rfl hc9 (s64 (z := 0)) (fun c => ?_) (fun c => ?_)
      · replace h := h.1 c
        refine g_aloadn (pc' := 26) d_101_25 rfl rfl ?_
        refine gz_getJ (pc' := 29) d_101_26 rfl st_101_25 hv3 ?_
        refine g_lstoren (pc' := 30) (l' := [some (.ref q), some (.int (jI z1)), some (.long (jL x2)), none, none, none, none, none, none]) d_101_29 rfl ml_101 rfl rfl ?_
        refine g_aloadn (pc' := 31) d_101_30 rfl rfl ?_
        refine gz_getJ (pc' := 34) d_101_31 rfl st_101_28 hv8 ?_
        refine g_lstore (pc' := 36) (l' := [some (.ref q), some (.int (jI z1)), some (.long (jL x2)), none, some (.long (jL x7)), none, none, none, none]) d_101_34 rfl ml_101 rfl rfl ?_
        refine g_iconst (pc' := 37) d_101_36 rfl rfl ?_
        refine g_istore (pc' := 39) (l' := [some (.ref q), some (.int (jI z1)), some (.long (jL x2)), none, some (.long (jL x7)), none, some (.int (jI 0)), none, none]) d_101_37 rfl ml_101 rfl rfl ?_
        exact h
      · replace h := h.2 c
        refine g_iconst (pc' := 24) d_101_23 rfl rfl ?_
        exact g_iret d_101_24 rt_101 h
theorem Z_101 {q : Nat} {z1 : Int} {w : xW} {r : Option Value × xW} (hC : CS w) (h : in32 z1 ∧ (z1 < 2 → r = (some (.int (jI 0)), w)) ∧ (2 ≤ z1 → ∃ x2, fJ w q 5 0 x2 ∧ in64 x2 ∧ (x2 ≠ 0 → ∃ x5, fJ w q 5 1 x5 ∧ xGo 101 39 [some (.ref q), some (.int (jI z1)), some (.long (jL x2)), none, some (.long (jL x5)), none, some (.int (jI 0)), none, none] [] w r) ∧ (x2 = 0 → ∃ x7, fJ w q 5 1 x7 ∧ in64 x7 ∧ (x7 ≠ 0 → xGo 101 39 [some (.ref q), some (.int (jI z1)), some (.long (jL x2)), none, some (.long (jL x7)), none, some (.int (jI 0)), none, none] [] w r) ∧ (x7 = 0 → r = (some (.int (jI 0)), w))))) : xCall 101 [.ref q, .int (jI z1)] w r := E_101 (Z_101_0 hC h)
theorem Z_101_39 {q : Nat} {z1 : Int} {z2 : Int} {z4 : Int} {z6 : Int} {w : xW} {r : Option Value × xW} (hC : CS w) (h : in32 z6 ∧ (64 ≤ z6 → r = (some (.int (jI 64)), w)) ∧ (z6 < 64 → in32 z1 ∧ ∃ r6 w3, xCall 17 [.long (jL z2), .long (jL z1)] w (some (.long (jL r6)), w3) ∧ CS w3 ∧ ∃ x7, fJ w3 q 5 2 x7 ∧ in64 ((r6 * x7) + z4) ∧ z1 ≠ 0 ∧ ∃ y11, Int.tmod ((r6 * x7) + z4) z1 = y11 ∧ in64 y11 ∧ (y11 = 0 → ∃ r17 w14, xCall 19 [.long (jL z2), .long (jL z1)] w3 (some (.long (jL r17)), w14) ∧ CS w14 ∧ z1 ≠ 0 ∧ ∃ y19, Int.tdiv ((r6 * x7) + z4) z1 = y19 ∧ xGo 101 39 [some (.ref q), some (.int (jI z1)), some (.long (jL r17)), none, some (.long (jL y19)), none, some (.int (jI (z6 + 1))), none, none] [] w14 r) ∧ (y11 ≠ 0 → r = (some (.int (jI z6)), w3)))) : xGo 101 39 [some (.ref q), some (.int (jI z1)), some (.long (jL z2)), none, some (.long (jL z4)), none, some (.int (jI z6)), none, none] [] w r := by
  refine g_iload (pc' := 41) d_101_39 rfl rfl ?_
  refine g_bipush (pc' := 43) (v := jI 64) d_101_41 rfl (by decide) ?_
  obtain ⟨hc1, h⟩ := h
  refine gz_ic_ge (pc' := 46) (pt := 95) d_101_43 (by decide) rfl hc1 (s32 (z := 64)) (fun c => ?_) (fun c => ?_)
  · replace h := h.1 c
    refine g_bipush (pc' := 97) (v := jI 64) d_101_95 rfl (by decide) ?_
    exact g_iret d_101_97 rt_101 h
  · replace h := h.2 c
    refine g_lloadn (pc' := 47) d_101_46 rfl rfl ?_
    refine g_iloadn (pc' := 48) d_101_47 rfl rfl ?_
    obtain ⟨hc2, h⟩ := h
    refine gz_i2l (pc' := 49) d_101_48 rfl hc2 ?_
    obtain ⟨r6, w3, hk4, hC5, h⟩ := h
    refine g_callS (pc' := 52) d_101_49 rfl st_101_13 (Or.inl rfl) na_17 ml_17 rfl rfl rfl rm_101_17 rfl rfl hk4 ?_
    refine g_aloadn (pc' := 53) d_101_52 rfl rfl ?_
    obtain ⟨x7, hv8, h⟩ := h
    refine gz_getJ (pc' := 56) d_101_53 rfl st_101_7 hv8 ?_
    refine gz_lmul (pc' := 57) d_101_56 rfl ?_
    refine g_lload (pc' := 59) d_101_57 rfl rfl ?_
    refine gz_ladd (pc' := 60) d_101_59 rfl ?_
    refine g_lstore (pc' := 62) (l' := [some (.ref q), some (.int (jI z1)), some (.long (jL z2)), none, some (.long (jL z4)), none, some (.int (jI z6)), some (.long (jL ((r6 * x7) + z4))), none]) d_101_60 rfl ml_101 rfl rfl ?_
    refine g_lload (pc' := 64) d_101_62 rfl rfl ?_
    refine g_iloadn (pc' := 65) d_101_64 rfl rfl ?_
    refine gz_i2l (pc' := 66) d_101_65 rfl hc2 ?_
    obtain ⟨hc9, h⟩ := h
    obtain ⟨hc10, h⟩ := h
    obtain ⟨y11, hz12, h⟩ := h
    refine gz_lrem (pc' := 67) d_101_66 rfl hc9 (in3264 hc2) hc10 hz12 ?_
    refine g_lconst (pc' := 68) (v := jL 0) d_101_67 rfl cl_0 ?_
    obtain ⟨hc13, h⟩ := h
    refine gz_lc_eq (pc' := 72) (pm := 69) (pt := 75) d_101_68 rfl d_101_69 (by decide) rfl hc13 (s64 (z := 0)) (fun c => ?_) (fun c => ?_)
    · replace h := h.1 c
      refine g_lloadn (pc' := 76) d_101_75 rfl rfl ?_
      refine g_iloadn (pc' := 77) d_101_76 rfl rfl ?_
      refine gz_i2l (pc' := 78) d_101_77 rfl hc2 ?_
      obtain ⟨r17, w14, hk15, hC16, h⟩ := h
      refine g_callS (pc' := 81) d_101_78 rfl st_101_22 (Or.inl rfl) na_19 ml_19 rfl rfl rfl rm_101_19 rfl rfl hk15 ?_
      refine g_lstoren (pc' := 82) (l' := [some (.ref q), some (.int (jI z1)), some (.long (jL r17)), none, some (.long (jL z4)), none, some (.int (jI z6)), some (.long (jL ((r6 * x7) + z4))), none]) d_101_81 rfl ml_101 rfl rfl ?_
      refine g_lload (pc' := 84) d_101_82 rfl rfl ?_
      refine g_iloadn (pc' := 85) d_101_84 rfl rfl ?_
      refine gz_i2l (pc' := 86) d_101_85 rfl hc2 ?_
      obtain ⟨hc18, h⟩ := h
      obtain ⟨y19, hz20, h⟩ := h
      refine gz_ldiv (pc' := 87) d_101_86 rfl hc9 (in3264 hc2) hc18 hz20 ?_
      refine g_lstore (pc' := 89) (l' := [some (.ref q), some (.int (jI z1)), some (.long (jL r17)), none, some (.long (jL y19)), none, some (.int (jI z6)), some (.long (jL ((r6 * x7) + z4))), none]) d_101_87 rfl ml_101 rfl rfl ?_
      refine gz_iinc (pc' := 92) (l' := [some (.ref q), some (.int (jI z1)), some (.long (jL r17)), none, some (.long (jL y19)), none, some (.int (jI (z6 + 1))), some (.long (jL ((r6 * x7) + z4))), none]) d_101_89 rfl rfl ml_101 rfl rfl ?_
      refine g_goto (pt := 39) d_101_92 (by decide) ?_
      exact xGo.more (xle_s (xle_s (xle_s (xle_n (xle_s (xle_n (xle_s (xle_n (xle_n xle_0))))))))) h
    · replace h := h.2 c
      refine g_iload (pc' := 74) d_101_72 rfl rfl ?_
      exact g_iret d_101_74 rt_101 h
theorem Z_102_0 {q : Nat} {z1 : Int} {w : xW} {r : Option Value × xW} (hC : CS w) (h : in32 z1 ∧ (2 ≤ z1 → ∃ x2, fJ w q 5 2 x2 ∧ xGo 102 15 [some (.ref q), some (.int (jI z1)), some (.long (jL x2)), none, some (.int (jI 0))] [] w r) ∧ (z1 < 2 → r = (some (.int (jI 0)), w))) : xGo 102 0 [some (.ref q), some (.int (jI z1)), none, none, none] [] w r := by
  refine g_iloadn (pc' := 1) d_102_0 rfl rfl ?_
  refine g_iconst (pc' := 2) d_102_1 rfl rfl ?_
  obtain ⟨hc1, h⟩ := h
  refine gz_ic_ge (pc' := 5) (pt := 7) d_102_2 (by decide) rfl hc1 (s32 (z := 2)) (fun c => ?_) (fun c => ?_)
  · replace h := h.1 c
    refine g_aloadn (pc' := 8) d_102_7 rfl rfl ?_
    obtain ⟨x2, hv3, h⟩ := h
    refine gz_getJ (pc' := 11) d_102_8 rfl st_102_7 hv3 ?_
    refine g_lstoren (pc' := 12) (l' := [some (.ref q), some (.int (jI z1)), some (.long (jL x2)), none, none]) d_102_11 rfl ml_102 rfl rfl ?_
    refine g_iconst (pc' := 13) d_102_12 rfl rfl ?_
    refine g_istore (pc' := 15) (l' := [some (.ref q), some (.int (jI z1)), some (.long (jL x2)), none, some (.int (jI 0))]) d_102_13 rfl ml_102 rfl rfl ?_
    exact h
  · replace h := h.2 c
    refine g_iconst (pc' := 6) d_102_5 rfl rfl ?_
    exact g_iret d_102_6 rt_102 h
theorem Z_102 {q : Nat} {z1 : Int} {w : xW} {r : Option Value × xW} (hC : CS w) (h : in32 z1 ∧ (2 ≤ z1 → ∃ x2, fJ w q 5 2 x2 ∧ xGo 102 15 [some (.ref q), some (.int (jI z1)), some (.long (jL x2)), none, some (.int (jI 0))] [] w r) ∧ (z1 < 2 → r = (some (.int (jI 0)), w))) : xCall 102 [.ref q, .int (jI z1)] w r := E_102 (Z_102_0 hC h)
theorem Z_102_15 {q : Nat} {z1 : Int} {z2 : Int} {z4 : Int} {w : xW} {r : Option Value × xW} (hC : CS w) (h : in32 z4 ∧ (64 ≤ z4 → r = (some (.int (jI 64)), w)) ∧ (z4 < 64 → in32 z1 ∧ in64 z2 ∧ z1 ≠ 0 ∧ ∃ y5, Int.tmod z2 z1 = y5 ∧ in64 y5 ∧ (y5 = 0 → z1 ≠ 0 ∧ ∃ y9, Int.tdiv z2 z1 = y9 ∧ xGo 102 15 [some (.ref q), some (.int (jI z1)), some (.long (jL y9)), none, some (.int (jI (z4 + 1)))] [] w r) ∧ (y5 ≠ 0 → r = (some (.int (jI z4)), w)))) : xGo 102 15 [some (.ref q), some (.int (jI z1)), some (.long (jL z2)), none, some (.int (jI z4))] [] w r := by
  refine g_iload (pc' := 17) d_102_15 rfl rfl ?_
  refine g_bipush (pc' := 19) (v := jI 64) d_102_17 rfl (by decide) ?_
  obtain ⟨hc1, h⟩ := h
  refine gz_ic_ge (pc' := 22) (pt := 45) d_102_19 (by decide) rfl hc1 (s32 (z := 64)) (fun c => ?_) (fun c => ?_)
  · replace h := h.1 c
    refine g_bipush (pc' := 47) (v := jI 64) d_102_45 rfl (by decide) ?_
    exact g_iret d_102_47 rt_102 h
  · replace h := h.2 c
    refine g_lloadn (pc' := 23) d_102_22 rfl rfl ?_
    refine g_iloadn (pc' := 24) d_102_23 rfl rfl ?_
    obtain ⟨hc2, h⟩ := h
    refine gz_i2l (pc' := 25) d_102_24 rfl hc2 ?_
    obtain ⟨hc3, h⟩ := h
    obtain ⟨hc4, h⟩ := h
    obtain ⟨y5, hz6, h⟩ := h
    refine gz_lrem (pc' := 26) d_102_25 rfl hc3 (in3264 hc2) hc4 hz6 ?_
    refine g_lconst (pc' := 27) (v := jL 0) d_102_26 rfl cl_0 ?_
    obtain ⟨hc7, h⟩ := h
    refine gz_lc_eq (pc' := 31) (pm := 28) (pt := 34) d_102_27 rfl d_102_28 (by decide) rfl hc7 (s64 (z := 0)) (fun c => ?_) (fun c => ?_)
    · replace h := h.1 c
      refine g_lloadn (pc' := 35) d_102_34 rfl rfl ?_
      refine g_iloadn (pc' := 36) d_102_35 rfl rfl ?_
      refine gz_i2l (pc' := 37) d_102_36 rfl hc2 ?_
      obtain ⟨hc8, h⟩ := h
      obtain ⟨y9, hz10, h⟩ := h
      refine gz_ldiv (pc' := 38) d_102_37 rfl hc3 (in3264 hc2) hc8 hz10 ?_
      refine g_lstoren (pc' := 39) (l' := [some (.ref q), some (.int (jI z1)), some (.long (jL y9)), none, some (.int (jI z4))]) d_102_38 rfl ml_102 rfl rfl ?_
      refine gz_iinc (pc' := 42) (l' := [some (.ref q), some (.int (jI z1)), some (.long (jL y9)), none, some (.int (jI (z4 + 1)))]) d_102_39 rfl rfl ml_102 rfl rfl ?_
      refine g_goto (pt := 15) d_102_42 (by decide) ?_
      exact h
    · replace h := h.2 c
      refine g_iload (pc' := 33) d_102_31 rfl rfl ?_
      exact g_iret d_102_33 rt_102 h
theorem Z_103_0 {z1 : Int} {z2 : Int} {z3 : Int} {w : xW} {r : Option Value × xW} (hC : CS w) (h : ∃ (P4 : Prop) (dP5 : Decidable P4) (w1 : xW), xCall 84 [.int (jI z1)] w (some (.int (bz P4)), w1) ∧ CS w1 ∧ (¬ P4 → r = (some (.int (jI (-1))), w1)) ∧ (P4 → ∃ (P9 : Prop) (dP10 : Decidable P9) (w6 : xW), xCall 24 [.int (jI z2)] w1 (some (.int (bz P9)), w6) ∧ CS w6 ∧ (¬ P9 → r = (some (.int (jI (-1))), w6)) ∧ (P9 → ∃ (P14 : Prop) (dP15 : Decidable P14) (w11 : xW), xCall 24 [.int (jI z3)] w6 (some (.int (bz P14)), w11) ∧ CS w11 ∧ (P14 → ∃ x16, fI w11 0 0 7 x16 ∧ in32 z2 ∧ in32 x16 ∧ (x16 < z2 → r = (some (.int (jI (-2))), w11)) ∧ (z2 ≤ x16 → in32 z3 ∧ (z3 ≤ x16 → ∃ r24 w21, xCall 68 [.ref 23, .int (jI z1), .int (jI z2), .int (jI z3)] w11 (some (.int (jI r24)), w21) ∧ CS w21 ∧ r = (some (.int (jI r24)), w21)) ∧ (x16 < z3 → r = (some (.int (jI (-2))), w11)))) ∧ (¬ P14 → r = (some (.int (jI (-1))), w11))))) : xGo 103 0 [some (.ref 0), some (.int (jI z1)), some (.int (jI z2)), some (.int (jI z3))] [] w r := by
  refine g_iloadn (pc' := 1) d_103_0 rfl rfl ?_
  obtain ⟨P4, dP5, w1, hk2, hC3, h⟩ := h
  refine g_callS (pc' := 4) d_103_1 rfl st_103_222 (Or.inl rfl) na_84 ml_84 rfl rfl rfl rm_103_84 rfl rfl hk2 ?_
  refine gz_bt_eq (pc' := 7) (pt := 21) d_103_4 (by decide) rfl (fun c => ?_) (fun c => ?_)
  · replace h := h.1 c
    refine g_iconst (pc' := 22) d_103_21 rfl rfl ?_
    exact g_iret d_103_22 rt_103 h
  · replace h := h.2 c
    refine g_iloadn (pc' := 8) d_103_7 rfl rfl ?_
    obtain ⟨P9, dP10, w6, hk7, hC8, h⟩ := h
    refine g_callS (pc' := 11) d_103_8 rfl st_103_120 (Or.inl rfl) na_24 ml_24 rfl rfl rfl rm_103_24 rfl rfl hk7 ?_
    refine gz_bt_eq (pc' := 14) (pt := 21) d_103_11 (by decide) rfl (fun c => ?_) (fun c => ?_)
    · replace h := h.1 c
      refine g_iconst (pc' := 22) d_103_21 rfl rfl ?_
      exact g_iret d_103_22 rt_103 h
    · replace h := h.2 c
      refine g_iloadn (pc' := 15) d_103_14 rfl rfl ?_
      obtain ⟨P14, dP15, w11, hk12, hC13, h⟩ := h
      refine g_callS (pc' := 18) d_103_15 rfl st_103_120 (Or.inl rfl) na_24 ml_24 rfl rfl rfl rm_103_24 rfl rfl hk12 ?_
      refine gz_bt_ne (pc' := 21) (pt := 23) d_103_18 (by decide) rfl (fun c => ?_) (fun c => ?_)
      · replace h := h.1 c
        refine g_iloadn (pc' := 24) d_103_23 rfl rfl ?_
        refine g_aloadn (pc' := 25) d_103_24 rfl rfl ?_
        obtain ⟨x16, hv17, h⟩ := h
        refine gz_getI (pc' := 28) d_103_25 rfl st_103_49 hv17 ?_
        obtain ⟨hc18, h⟩ := h
        obtain ⟨hc19, h⟩ := h
        refine gz_ic_gt (pc' := 31) (pt := 39) d_103_28 (by decide) rfl hc18 hc19 (fun c => ?_) (fun c => ?_)
        · replace h := h.1 c
          refine g_bipush (pc' := 41) (v := jI (-2)) d_103_39 rfl (by decide) ?_
          exact g_iret d_103_41 rt_103 h
        · replace h := h.2 c
          refine g_iloadn (pc' := 32) d_103_31 rfl rfl ?_
          refine g_aloadn (pc' := 33) d_103_32 rfl rfl ?_
          refine gz_getI (pc' := 36) d_103_33 rfl st_103_49 hv17 ?_
          obtain ⟨hc20, h⟩ := h
          refine gz_ic_le (pc' := 39) (pt := 42) d_103_36 (by decide) rfl hc20 hc19 (fun c => ?_) (fun c => ?_)
          · replace h := h.1 c
            refine g_aloadn (pc' := 43) d_103_42 rfl rfl ?_
            refine gz_getR (pc' := 46) d_103_43 rfl st_103_58 (kr_0_8 hC13) ?_
            refine g_iloadn (pc' := 47) d_103_46 rfl rfl ?_
            refine g_iloadn (pc' := 48) d_103_47 rfl rfl ?_
            refine g_iloadn (pc' := 49) d_103_48 rfl rfl ?_
            obtain ⟨r24, w21, hk22, hC23, h⟩ := h
            refine gz_callV (pc' := 52) d_103_49 rfl st_103_264 na_68 ml_68 rfl rfl rfl rm_103_68 rfl rfl ow_68 (ko_23 hC13) hk22 ?_
            exact g_iret d_103_52 rt_103 h
          · replace h := h.2 c
            refine g_bipush (pc' := 41) (v := jI (-2)) d_103_39 rfl (by decide) ?_
            exact g_iret d_103_41 rt_103 h
      · replace h := h.2 c
        refine g_iconst (pc' := 22) d_103_21 rfl rfl ?_
        exact g_iret d_103_22 rt_103 h
theorem Z_103 {z1 : Int} {z2 : Int} {z3 : Int} {w : xW} {r : Option Value × xW} (hC : CS w) (h : ∃ (P4 : Prop) (dP5 : Decidable P4) (w1 : xW), xCall 84 [.int (jI z1)] w (some (.int (bz P4)), w1) ∧ CS w1 ∧ (¬ P4 → r = (some (.int (jI (-1))), w1)) ∧ (P4 → ∃ (P9 : Prop) (dP10 : Decidable P9) (w6 : xW), xCall 24 [.int (jI z2)] w1 (some (.int (bz P9)), w6) ∧ CS w6 ∧ (¬ P9 → r = (some (.int (jI (-1))), w6)) ∧ (P9 → ∃ (P14 : Prop) (dP15 : Decidable P14) (w11 : xW), xCall 24 [.int (jI z3)] w6 (some (.int (bz P14)), w11) ∧ CS w11 ∧ (P14 → ∃ x16, fI w11 0 0 7 x16 ∧ in32 z2 ∧ in32 x16 ∧ (x16 < z2 → r = (some (.int (jI (-2))), w11)) ∧ (z2 ≤ x16 → in32 z3 ∧ (z3 ≤ x16 → ∃ r24 w21, xCall 68 [.ref 23, .int (jI z1), .int (jI z2), .int (jI z3)] w11 (some (.int (jI r24)), w21) ∧ CS w21 ∧ r = (some (.int (jI r24)), w21)) ∧ (x16 < z3 → r = (some (.int (jI (-2))), w11)))) ∧ (¬ P14 → r = (some (.int (jI (-1))), w11))))) : xCall 103 [.ref 0, .int (jI z1), .int (jI z2), .int (jI z3)] w r := E_103 (Z_103_0 hC h)
theorem Z_104_0 {z1 : Int} {z2 : Int} {z3 : Int} {w : xW} {r : Option Value × xW} (hC : CS w) (h : ∃ (P4 : Prop) (dP5 : Decidable P4) (w1 : xW), xCall 84 [.int (jI z1)] w (some (.int (bz P4)), w1) ∧ CS w1 ∧ (¬ P4 → r = (some (.int (jI (-1))), w1)) ∧ (P4 → ∃ (P9 : Prop) (dP10 : Decidable P9) (w6 : xW), xCall 24 [.int (jI z2)] w1 (some (.int (bz P9)), w6) ∧ CS w6 ∧ (¬ P9 → r = (some (.int (jI (-1))), w6)) ∧ (P9 → ∃ (P14 : Prop) (dP15 : Decidable P14) (w11 : xW), xCall 24 [.int (jI z3)] w6 (some (.int (bz P14)), w11) ∧ CS w11 ∧ (P14 → ∃ x16, fI w11 0 0 7 x16 ∧ in32 z2 ∧ in32 x16 ∧ (x16 < z2 → r = (some (.int (jI (-2))), w11)) ∧ (z2 ≤ x16 → in32 z3 ∧ (z3 ≤ x16 → ∃ r24 w21, xCall 105 [.ref 23, .int (jI z1), .int (jI z2), .int (jI z3)] w11 (some (.int (jI r24)), w21) ∧ CS w21 ∧ r = (some (.int (jI r24)), w21)) ∧ (x16 < z3 → r = (some (.int (jI (-2))), w11)))) ∧ (¬ P14 → r = (some (.int (jI (-1))), w11))))) : xGo 104 0 [some (.ref 0), some (.int (jI z1)), some (.int (jI z2)), some (.int (jI z3))] [] w r := by
  refine g_iloadn (pc' := 1) d_104_0 rfl rfl ?_
  obtain ⟨P4, dP5, w1, hk2, hC3, h⟩ := h
  refine g_callS (pc' := 4) d_104_1 rfl st_104_222 (Or.inl rfl) na_84 ml_84 rfl rfl rfl rm_104_84 rfl rfl hk2 ?_
  refine gz_bt_eq (pc' := 7) (pt := 21) d_104_4 (by decide) rfl (fun c => ?_) (fun c => ?_)
  · replace h := h.1 c
    refine g_iconst (pc' := 22) d_104_21 rfl rfl ?_
    exact g_iret d_104_22 rt_104 h
  · replace h := h.2 c
    refine g_iloadn (pc' := 8) d_104_7 rfl rfl ?_
    obtain ⟨P9, dP10, w6, hk7, hC8, h⟩ := h
    refine g_callS (pc' := 11) d_104_8 rfl st_104_120 (Or.inl rfl) na_24 ml_24 rfl rfl rfl rm_104_24 rfl rfl hk7 ?_
    refine gz_bt_eq (pc' := 14) (pt := 21) d_104_11 (by decide) rfl (fun c => ?_) (fun c => ?_)
    · replace h := h.1 c
      refine g_iconst (pc' := 22) d_104_21 rfl rfl ?_
      exact g_iret d_104_22 rt_104 h
    · replace h := h.2 c
      refine g_iloadn (pc' := 15) d_104_14 rfl rfl ?_
      obtain ⟨P14, dP15, w11, hk12, hC13, h⟩ := h
      refine g_callS (pc' := 18) d_104_15 rfl st_104_120 (Or.inl rfl) na_24 ml_24 rfl rfl rfl rm_104_24 rfl rfl hk12 ?_
      refine gz_bt_ne (pc' := 21) (pt := 23) d_104_18 (by decide) rfl (fun c => ?_) (fun c => ?_)
      · replace h := h.1 c
        refine g_iloadn (pc' := 24) d_104_23 rfl rfl ?_
        refine g_aloadn (pc' := 25) d_104_24 rfl rfl ?_
        obtain ⟨x16, hv17, h⟩ := h
        refine gz_getI (pc' := 28) d_104_25 rfl st_104_49 hv17 ?_
        obtain ⟨hc18, h⟩ := h
        obtain ⟨hc19, h⟩ := h
        refine gz_ic_gt (pc' := 31) (pt := 39) d_104_28 (by decide) rfl hc18 hc19 (fun c => ?_) (fun c => ?_)
        · replace h := h.1 c
          refine g_bipush (pc' := 41) (v := jI (-2)) d_104_39 rfl (by decide) ?_
          exact g_iret d_104_41 rt_104 h
        · replace h := h.2 c
          refine g_iloadn (pc' := 32) d_104_31 rfl rfl ?_
          refine g_aloadn (pc' := 33) d_104_32 rfl rfl ?_
          refine gz_getI (pc' := 36) d_104_33 rfl st_104_49 hv17 ?_
          obtain ⟨hc20, h⟩ := h
          refine gz_ic_le (pc' := 39) (pt := 42) d_104_36 (by decide) rfl hc20 hc19 (fun c => ?_) (fun c => ?_)
          · replace h := h.1 c
            refine g_aloadn (pc' := 43) d_104_42 rfl rfl ?_
            refine gz_getR (pc' := 46) d_104_43 rfl st_104_58 (kr_0_8 hC13) ?_
            refine g_iloadn (pc' := 47) d_104_46 rfl rfl ?_
            refine g_iloadn (pc' := 48) d_104_47 rfl rfl ?_
            refine g_iloadn (pc' := 49) d_104_48 rfl rfl ?_
            obtain ⟨r24, w21, hk22, hC23, h⟩ := h
            refine gz_callV (pc' := 52) d_104_49 rfl st_104_268 na_105 ml_105 rfl rfl rfl rm_104_105 rfl rfl ow_105 (ko_23 hC13) hk22 ?_
            exact g_iret d_104_52 rt_104 h
          · replace h := h.2 c
            refine g_bipush (pc' := 41) (v := jI (-2)) d_104_39 rfl (by decide) ?_
            exact g_iret d_104_41 rt_104 h
      · replace h := h.2 c
        refine g_iconst (pc' := 22) d_104_21 rfl rfl ?_
        exact g_iret d_104_22 rt_104 h
theorem Z_104 {z1 : Int} {z2 : Int} {z3 : Int} {w : xW} {r : Option Value × xW} (hC : CS w) (h : ∃ (P4 : Prop) (dP5 : Decidable P4) (w1 : xW), xCall 84 [.int (jI z1)] w (some (.int (bz P4)), w1) ∧ CS w1 ∧ (¬ P4 → r = (some (.int (jI (-1))), w1)) ∧ (P4 → ∃ (P9 : Prop) (dP10 : Decidable P9) (w6 : xW), xCall 24 [.int (jI z2)] w1 (some (.int (bz P9)), w6) ∧ CS w6 ∧ (¬ P9 → r = (some (.int (jI (-1))), w6)) ∧ (P9 → ∃ (P14 : Prop) (dP15 : Decidable P14) (w11 : xW), xCall 24 [.int (jI z3)] w6 (some (.int (bz P14)), w11) ∧ CS w11 ∧ (P14 → ∃ x16, fI w11 0 0 7 x16 ∧ in32 z2 ∧ in32 x16 ∧ (x16 < z2 → r = (some (.int (jI (-2))), w11)) ∧ (z2 ≤ x16 → in32 z3 ∧ (z3 ≤ x16 → ∃ r24 w21, xCall 105 [.ref 23, .int (jI z1), .int (jI z2), .int (jI z3)] w11 (some (.int (jI r24)), w21) ∧ CS w21 ∧ r = (some (.int (jI r24)), w21)) ∧ (x16 < z3 → r = (some (.int (jI (-2))), w11)))) ∧ (¬ P14 → r = (some (.int (jI (-1))), w11))))) : xCall 104 [.ref 0, .int (jI z1), .int (jI z2), .int (jI z3)] w r := E_104 (Z_104_0 hC h)
theorem Z_105_0 {z1 : Int} {z2 : Int} {z3 : Int} {w : xW} {r : Option Value × xW} (hC : CS w) (h : ∃ (P4 : Prop) (dP5 : Decidable P4) (w1 : xW), xCall 69 [.ref 23, .int (jI z1), .int (jI z2)] w (some (.int (bz P4)), w1) ∧ CS w1 ∧ (¬ P4 → r = (some (.int (jI (-3))), w1)) ∧ (P4 → ∃ (P9 : Prop) (dP10 : Decidable P9) (w6 : xW), xCall 69 [.ref 23, .int (jI z1), .int (jI z3)] w1 (some (.int (bz P9)), w6) ∧ CS w6 ∧ (¬ P9 → r = (some (.int (jI (-3))), w6)) ∧ (P9 → in32 (z2 - z3) ∧ in32 (z1 * (z1 - 1)) ∧ z1 * (z1 - 1) ≠ 0 ∧ ∃ y14, Int.tmod (z2 - z3) (z1 * (z1 - 1)) = y14 ∧ in32 y14 ∧ (y14 = 0 → in32 z1 ∧ ∃ r21 w18, xCall 70 [.ref 23, .int (jI z2), .long (jL (z1 * z1))] w6 (some (.long (jL r21)), w18) ∧ CS w18 ∧ ∃ r25 w22, xCall 50 [.long (jL z1), .int (jI (z2 - 1)), .long (jL (z1 * z1))] w18 (some (.long (jL r25)), w22) ∧ CS w22 ∧ ∃ r29 w26, xCall 70 [.ref 23, .int (jI z3), .long (jL (z1 * z1))] w22 (some (.long (jL r29)), w26) ∧ CS w26 ∧ ∃ r33 w30, xCall 50 [.long (jL z1), .int (jI (z3 - 1)), .long (jL (z1 * z1))] w26 (some (.long (jL r33)), w30) ∧ CS w30 ∧ ∃ r37 w34, xCall 54 [.long (jL ((r21 * (1 - r25)) - (r29 * (1 - r33)))), .long (jL (z1 * z1))] w30 (some (.long (jL r37)), w34) ∧ CS w34 ∧ r = (some (.int (jI r37)), w34)) ∧ (y14 ≠ 0 → r = (some (.int (jI (-3))), w6))))) : xGo 105 0 [some (.ref 23), some (.int (jI z1)), some (.int (jI z2)), some (.int (jI z3)), none, none, none, none, none, none] [] w r := by
  refine g_aloadn (pc' := 1) d_105_0 rfl rfl ?_
  refine g_iloadn (pc' := 2) d_105_1 rfl rfl ?_
  refine g_iloadn (pc' := 3) d_105_2 rfl rfl ?_
  obtain ⟨P4, dP5, w1, hk2, hC3, h⟩ := h
  refine gz_callV (pc' := 6) d_105_3 rfl st_105_66 na_69 ml_69 rfl rfl rfl rm_105_69 rfl rfl ow_69 (ko_23 hC) hk2 ?_
  refine gz_bt_eq (pc' := 9) (pt := 30) d_105_6 (by decide) rfl (fun c => ?_) (fun c => ?_)
  · replace h := h.1 c
    refine g_bipush (pc' := 32) (v := jI (-3)) d_105_30 rfl (by decide) ?_
    exact g_iret d_105_32 rt_105 h
  · replace h := h.2 c
    refine g_aloadn (pc' := 10) d_105_9 rfl rfl ?_
    refine g_iloadn (pc' := 11) d_105_10 rfl rfl ?_
    refine g_iloadn (pc' := 12) d_105_11 rfl rfl ?_
    obtain ⟨P9, dP10, w6, hk7, hC8, h⟩ := h
    refine gz_callV (pc' := 15) d_105_12 rfl st_105_66 na_69 ml_69 rfl rfl rfl rm_105_69 rfl rfl ow_69 (ko_23 hC3) hk7 ?_
    refine gz_bt_eq (pc' := 18) (pt := 30) d_105_15 (by decide) rfl (fun c => ?_) (fun c => ?_)
    · replace h := h.1 c
      refine g_bipush (pc' := 32) (v := jI (-3)) d_105_30 rfl (by decide) ?_
      exact g_iret d_105_32 rt_105 h
    · replace h := h.2 c
      refine g_iloadn (pc' := 19) d_105_18 rfl rfl ?_
      refine g_iloadn (pc' := 20) d_105_19 rfl rfl ?_
      refine gz_isub (pc' := 21) d_105_20 rfl ?_
      refine g_iloadn (pc' := 22) d_105_21 rfl rfl ?_
      refine g_iloadn (pc' := 23) d_105_22 rfl rfl ?_
      refine g_iconst (pc' := 24) d_105_23 rfl rfl ?_
      refine gz_isub (pc' := 25) d_105_24 rfl ?_
      refine gz_imul (pc' := 26) d_105_25 rfl ?_
      obtain ⟨hc11, h⟩ := h
      obtain ⟨hc12, h⟩ := h
      obtain ⟨hc13, h⟩ := h
      obtain ⟨y14, hz15, h⟩ := h
      refine gz_irem (pc' := 27) d_105_26 rfl hc11 hc12 hc13 hz15 ?_
      obtain ⟨hc16, h⟩ := h
      refine gz_if_eq (pc' := 30) (pt := 33) d_105_27 (by decide) rfl hc16 (fun c => ?_) (fun c => ?_)
      · replace h := h.1 c
        refine g_iloadn (pc' := 34) d_105_33 rfl rfl ?_
        obtain ⟨hc17, h⟩ := h
        refine gz_i2l (pc' := 35) d_105_34 rfl hc17 ?_
        refine g_iloadn (pc' := 36) d_105_35 rfl rfl ?_
        refine gz_i2l (pc' := 37) d_105_36 rfl hc17 ?_
        refine gz_lmul (pc' := 38) d_105_37 rfl ?_
        refine g_lstore (pc' := 40) (l' := [some (.ref 23), some (.int (jI z1)), some (.int (jI z2)), some (.int (jI z3)), some (.long (jL (z1 * z1))), none, none, none, none, none]) d_105_38 rfl ml_105 rfl rfl ?_
        refine g_aloadn (pc' := 41) d_105_40 rfl rfl ?_
        refine g_iloadn (pc' := 42) d_105_41 rfl rfl ?_
        refine g_lload (pc' := 44) d_105_42 rfl rfl ?_
        obtain ⟨r21, w18, hk19, hC20, h⟩ := h
        refine gz_callV (pc' := 47) d_105_44 rfl st_105_70 na_70 ml_70 rfl rfl rfl rm_105_70 rfl rfl ow_70 (ko_23 hC8) hk19 ?_
        refine g_lconst (pc' := 48) (v := jL 1) d_105_47 rfl cl_1 ?_
        refine g_iloadn (pc' := 49) d_105_48 rfl rfl ?_
        refine gz_i2l (pc' := 50) d_105_49 rfl hc17 ?_
        refine g_iloadn (pc' := 51) d_105_50 rfl rfl ?_
        refine g_iconst (pc' := 52) d_105_51 rfl rfl ?_
        refine gz_isub (pc' := 53) d_105_52 rfl ?_
        refine g_lload (pc' := 55) d_105_53 rfl rfl ?_
        obtain ⟨r25, w22, hk23, hC24, h⟩ := h
        refine g_callS (pc' := 58) d_105_55 rfl st_105_80 (Or.inl rfl) na_50 ml_50 rfl rfl rfl rm_105_50 rfl rfl hk23 ?_
        refine gz_lsub (pc' := 59) d_105_58 rfl ?_
        refine gz_lmul (pc' := 60) d_105_59 rfl ?_
        refine g_lstore (pc' := 62) (l' := [some (.ref 23), some (.int (jI z1)), some (.int (jI z2)), some (.int (jI z3)), some (.long (jL (z1 * z1))), none, some (.long (jL (r21 * (1 - r25)))), none, none, none]) d_105_60 rfl ml_105 rfl rfl ?_
        refine g_aloadn (pc' := 63) d_105_62 rfl rfl ?_
        refine g_iloadn (pc' := 64) d_105_63 rfl rfl ?_
        refine g_lload (pc' := 66) d_105_64 rfl rfl ?_
        obtain ⟨r29, w26, hk27, hC28, h⟩ := h
        refine gz_callV (pc' := 69) d_105_66 rfl st_105_70 na_70 ml_70 rfl rfl rfl rm_105_70 rfl rfl ow_70 (ko_23 hC24) hk27 ?_
        refine g_lconst (pc' := 70) (v := jL 1) d_105_69 rfl cl_1 ?_
        refine g_iloadn (pc' := 71) d_105_70 rfl rfl ?_
        refine gz_i2l (pc' := 72) d_105_71 rfl hc17 ?_
        refine g_iloadn (pc' := 73) d_105_72 rfl rfl ?_
        refine g_iconst (pc' := 74) d_105_73 rfl rfl ?_
        refine gz_isub (pc' := 75) d_105_74 rfl ?_
        refine g_lload (pc' := 77) d_105_75 rfl rfl ?_
        obtain ⟨r33, w30, hk31, hC32, h⟩ := h
        refine g_callS (pc' := 80) d_105_77 rfl st_105_80 (Or.inl rfl) na_50 ml_50 rfl rfl rfl rm_105_50 rfl rfl hk31 ?_
        refine gz_lsub (pc' := 81) d_105_80 rfl ?_
        refine gz_lmul (pc' := 82) d_105_81 rfl ?_
        refine g_lstore (pc' := 84) (l' := [some (.ref 23), some (.int (jI z1)), some (.int (jI z2)), some (.int (jI z3)), some (.long (jL (z1 * z1))), none, some (.long (jL (r21 * (1 - r25)))), none, some (.long (jL (r29 * (1 - r33)))), none]) d_105_82 rfl ml_105 rfl rfl ?_
        refine g_lload (pc' := 86) d_105_84 rfl rfl ?_
        refine g_lload (pc' := 88) d_105_86 rfl rfl ?_
        refine gz_lsub (pc' := 89) d_105_88 rfl ?_
        refine g_lload (pc' := 91) d_105_89 rfl rfl ?_
        obtain ⟨r37, w34, hk35, hC36, h⟩ := h
        refine g_callS (pc' := 94) d_105_91 rfl st_105_74 (Or.inl rfl) na_54 ml_54 rfl rfl rfl rm_105_54 rfl rfl hk35 ?_
        refine gz_l2i (pc' := 95) d_105_94 rfl ?_
        exact g_iret d_105_95 rt_105 h
      · replace h := h.2 c
        refine g_bipush (pc' := 32) (v := jI (-3)) d_105_30 rfl (by decide) ?_
        exact g_iret d_105_32 rt_105 h
theorem Z_105 {z1 : Int} {z2 : Int} {z3 : Int} {w : xW} {r : Option Value × xW} (hC : CS w) (h : ∃ (P4 : Prop) (dP5 : Decidable P4) (w1 : xW), xCall 69 [.ref 23, .int (jI z1), .int (jI z2)] w (some (.int (bz P4)), w1) ∧ CS w1 ∧ (¬ P4 → r = (some (.int (jI (-3))), w1)) ∧ (P4 → ∃ (P9 : Prop) (dP10 : Decidable P9) (w6 : xW), xCall 69 [.ref 23, .int (jI z1), .int (jI z3)] w1 (some (.int (bz P9)), w6) ∧ CS w6 ∧ (¬ P9 → r = (some (.int (jI (-3))), w6)) ∧ (P9 → in32 (z2 - z3) ∧ in32 (z1 * (z1 - 1)) ∧ z1 * (z1 - 1) ≠ 0 ∧ ∃ y14, Int.tmod (z2 - z3) (z1 * (z1 - 1)) = y14 ∧ in32 y14 ∧ (y14 = 0 → in32 z1 ∧ ∃ r21 w18, xCall 70 [.ref 23, .int (jI z2), .long (jL (z1 * z1))] w6 (some (.long (jL r21)), w18) ∧ CS w18 ∧ ∃ r25 w22, xCall 50 [.long (jL z1), .int (jI (z2 - 1)), .long (jL (z1 * z1))] w18 (some (.long (jL r25)), w22) ∧ CS w22 ∧ ∃ r29 w26, xCall 70 [.ref 23, .int (jI z3), .long (jL (z1 * z1))] w22 (some (.long (jL r29)), w26) ∧ CS w26 ∧ ∃ r33 w30, xCall 50 [.long (jL z1), .int (jI (z3 - 1)), .long (jL (z1 * z1))] w26 (some (.long (jL r33)), w30) ∧ CS w30 ∧ ∃ r37 w34, xCall 54 [.long (jL ((r21 * (1 - r25)) - (r29 * (1 - r33)))), .long (jL (z1 * z1))] w30 (some (.long (jL r37)), w34) ∧ CS w34 ∧ r = (some (.int (jI r37)), w34)) ∧ (y14 ≠ 0 → r = (some (.int (jI (-3))), w6))))) : xCall 105 [.ref 23, .int (jI z1), .int (jI z2), .int (jI z3)] w r := E_105 (Z_105_0 hC h)
theorem Z_106_0 {z1 : Int} {w : xW} {r : Option Value × xW} (hC : CS w) (h : ∃ (P4 : Prop) (dP5 : Decidable P4) (w1 : xW), xCall 24 [.int (jI z1)] w (some (.int (bz P4)), w1) ∧ CS w1 ∧ (P4 → ∃ x6, fI w1 0 0 7 x6 ∧ in32 z1 ∧ in32 x6 ∧ (z1 ≤ x6 → ∃ r13 w10, xCall 61 [.ref 23, .int (jI z1), .int (jI 63)] w1 (some (.int (jI r13)), w10) ∧ CS w10 ∧ r = (some (.int (jI r13)), w10)) ∧ (x6 < z1 → r = (some (.int (jI (-2))), w1))) ∧ (¬ P4 → r = (some (.int (jI (-1))), w1))) : xGo 106 0 [some (.ref 0), some (.int (jI z1))] [] w r := by
  refine g_iloadn (pc' := 1) d_106_0 rfl rfl ?_
  obtain ⟨P4, dP5, w1, hk2, hC3, h⟩ := h
  refine g_callS (pc' := 4) d_106_1 rfl st_106_120 (Or.inl rfl) na_24 ml_24 rfl rfl rfl rm_106_24 rfl rfl hk2 ?_
  refine gz_bt_ne (pc' := 7) (pt := 9) d_106_4 (by decide) rfl (fun c => ?_) (fun c => ?_)
  · replace h := h.1 c
    refine g_iloadn (pc' := 10) d_106_9 rfl rfl ?_
    refine g_aloadn (pc' := 11) d_106_10 rfl rfl ?_
    obtain ⟨x6, hv7, h⟩ := h
    refine gz_getI (pc' := 14) d_106_11 rfl st_106_49 hv7 ?_
    obtain ⟨hc8, h⟩ := h
    obtain ⟨hc9, h⟩ := h
    refine gz_ic_le (pc' := 17) (pt := 22) d_106_14 (by decide) rfl hc8 hc9 (fun c => ?_) (fun c => ?_)
    · replace h := h.1 c
      refine g_aloadn (pc' := 23) d_106_22 rfl rfl ?_
      refine gz_getR (pc' := 26) d_106_23 rfl st_106_58 (kr_0_8 hC3) ?_
      refine g_iloadn (pc' := 27) d_106_26 rfl rfl ?_
      refine g_bipush (pc' := 29) (v := jI 63) d_106_27 rfl (by decide) ?_
      obtain ⟨r13, w10, hk11, hC12, h⟩ := h
      refine gz_callV (pc' := 32) d_106_29 rfl st_106_142 na_61 ml_61 rfl rfl rfl rm_106_61 rfl rfl ow_61 (ko_23 hC3) hk11 ?_
      exact g_iret d_106_32 rt_106 h
    · replace h := h.2 c
      refine g_bipush (pc' := 19) (v := jI (-2)) d_106_17 rfl (by decide) ?_
      refine g_goto (pt := 32) d_106_19 (by decide) ?_
      exact g_iret d_106_32 rt_106 h
  · replace h := h.2 c
    refine g_iconst (pc' := 8) d_106_7 rfl rfl ?_
    exact g_iret d_106_8 rt_106 h
theorem Z_106 {z1 : Int} {w : xW} {r : Option Value × xW} (hC : CS w) (h : ∃ (P4 : Prop) (dP5 : Decidable P4) (w1 : xW), xCall 24 [.int (jI z1)] w (some (.int (bz P4)), w1) ∧ CS w1 ∧ (P4 → ∃ x6, fI w1 0 0 7 x6 ∧ in32 z1 ∧ in32 x6 ∧ (z1 ≤ x6 → ∃ r13 w10, xCall 61 [.ref 23, .int (jI z1), .int (jI 63)] w1 (some (.int (jI r13)), w10) ∧ CS w10 ∧ r = (some (.int (jI r13)), w10)) ∧ (x6 < z1 → r = (some (.int (jI (-2))), w1))) ∧ (¬ P4 → r = (some (.int (jI (-1))), w1))) : xCall 106 [.ref 0, .int (jI z1)] w r := E_106 (Z_106_0 hC h)
theorem Z_107_0 {z1 : Int} {w : xW} {r : Option Value × xW} (hC : CS w) (h : ∃ (P4 : Prop) (dP5 : Decidable P4) (w1 : xW), xCall 76 [.int (jI z1)] w (some (.int (bz P4)), w1) ∧ CS w1 ∧ (¬ P4 → r = (some (.long (jL (-9223372036854775808))), w1)) ∧ (P4 → ∃ r9 w6, xCall 77 [.ref 0, .int (jI z1)] w1 (some (.long (jL r9)), w6) ∧ CS w6 ∧ r = (some (.long (jL r9)), w6))) : xGo 107 0 [some (.ref 0), some (.int (jI z1))] [] w r := by
  refine g_iloadn (pc' := 1) d_107_0 rfl rfl ?_
  obtain ⟨P4, dP5, w1, hk2, hC3, h⟩ := h
  refine g_callS (pc' := 4) d_107_1 rfl st_107_146 (Or.inl rfl) na_76 ml_76 rfl rfl rfl rm_107_76 rfl rfl hk2 ?_
  refine gz_bt_eq (pc' := 7) (pt := 15) d_107_4 (by decide) rfl (fun c => ?_) (fun c => ?_)
  · replace h := h.1 c
    refine g_ldc2 (pc' := 18) d_107_15 rfl st_107_166 rfl ?_
    exact g_lret d_107_18 rt_107 h
  · replace h := h.2 c
    refine g_aloadn (pc' := 8) d_107_7 rfl rfl ?_
    refine g_iloadn (pc' := 9) d_107_8 rfl rfl ?_
    obtain ⟨r9, w6, hk7, hC8, h⟩ := h
    refine gz_callV (pc' := 12) d_107_9 rfl st_107_149 na_77 ml_77 rfl rfl rfl rm_107_77 rfl rfl ow_77 (ko_0 hC3) hk7 ?_
    refine g_goto (pt := 18) d_107_12 (by decide) ?_
    exact g_lret d_107_18 rt_107 h
theorem Z_107 {z1 : Int} {w : xW} {r : Option Value × xW} (hC : CS w) (h : ∃ (P4 : Prop) (dP5 : Decidable P4) (w1 : xW), xCall 76 [.int (jI z1)] w (some (.int (bz P4)), w1) ∧ CS w1 ∧ (¬ P4 → r = (some (.long (jL (-9223372036854775808))), w1)) ∧ (P4 → ∃ r9 w6, xCall 77 [.ref 0, .int (jI z1)] w1 (some (.long (jL r9)), w6) ∧ CS w6 ∧ r = (some (.long (jL r9)), w6))) : xCall 107 [.ref 0, .int (jI z1)] w r := E_107 (Z_107_0 hC h)
theorem Z_108_0 {z1 : Int} {w : xW} {r : Option Value × xW} (hC : CS w) (h : in32 z1 ∧ (z1 < 0 → r = (some (.int (jI (-1))), w)) ∧ (0 ≤ z1 → (z1 ≤ 1 → xGo 108 19 [some (.ref 0), some (.int (jI z1)), some (.int (jI (-2))), some (.int (jI 0)), some (.int (jI 1))] [] w r) ∧ (1 < z1 → r = (some (.int (jI (-1))), w)))) : xGo 108 0 [some (.ref 0), some (.int (jI z1)), none, none, none] [] w r := by
  refine g_iloadn (pc' := 1) d_108_0 rfl rfl ?_
  obtain ⟨hc1, h⟩ := h
  refine gz_if_lt (pc' := 4) (pt := 9) d_108_1 (by decide) rfl hc1 (fun c => ?_) (fun c => ?_)
  · replace h := h.1 c
    refine g_iconst (pc' := 10) d_108_9 rfl rfl ?_
    exact g_iret d_108_10 rt_108 h
  · replace h := h.2 c
    refine g_iloadn (pc' := 5) d_108_4 rfl rfl ?_
    refine g_iconst (pc' := 6) d_108_5 rfl rfl ?_
    refine gz_ic_le (pc' := 9) (pt := 11) d_108_6 (by decide) rfl hc1 (s32 (z := 1)) (fun c => ?_) (fun c => ?_)
    · replace h := h.1 c
      refine g_bipush (pc' := 13) (v := jI (-2)) d_108_11 rfl (by decide) ?_
      refine g_istoren (pc' := 14) (l' := [some (.ref 0), some (.int (jI z1)), some (.int (jI (-2))), none, none]) d_108_13 rfl ml_108 rfl rfl ?_
      refine g_iconst (pc' := 15) d_108_14 rfl rfl ?_
      refine g_istoren (pc' := 16) (l' := [some (.ref 0), some (.int (jI z1)), some (.int (jI (-2))), some (.int (jI 0)), none]) d_108_15 rfl ml_108 rfl rfl ?_
      refine g_iconst (pc' := 17) d_108_16 rfl rfl ?_
      refine g_istore (pc' := 19) (l' := [some (.ref 0), some (.int (jI z1)), some (.int (jI (-2))), some (.int (jI 0)), some (.int (jI 1))]) d_108_17 rfl ml_108 rfl rfl ?_
      exact h
    · replace h := h.2 c
      refine g_iconst (pc' := 10) d_108_9 rfl rfl ?_
      exact g_iret d_108_10 rt_108 h
theorem Z_108 {z1 : Int} {w : xW} {r : Option Value × xW} (hC : CS w) (h : in32 z1 ∧ (z1 < 0 → r = (some (.int (jI (-1))), w)) ∧ (0 ≤ z1 → (z1 ≤ 1 → xGo 108 19 [some (.ref 0), some (.int (jI z1)), some (.int (jI (-2))), some (.int (jI 0)), some (.int (jI 1))] [] w r) ∧ (1 < z1 → r = (some (.int (jI (-1))), w)))) : xCall 108 [.ref 0, .int (jI z1)] w r := E_108 (Z_108_0 hC h)
theorem Z_108_19 {z1 : Int} {z2 : Int} {z3 : Int} {z4 : Int} {w : xW} {r : Option Value × xW} (hC : CS w) (h : ∃ x1, fI w 0 0 7 x1 ∧ in32 z4 ∧ in32 x1 ∧ (x1 < z4 → in32 z1 ∧ (z1 ≠ 0 → r = (some (.int (jI z3)), w)) ∧ (z1 = 0 → r = (some (.int (jI z2)), w))) ∧ (z4 ≤ x1 → ∃ r9 w6, xCall 61 [.ref 23, .int (jI z4), .int (jI 4)] w (some (.int (jI r9)), w6) ∧ CS w6 ∧ in32 r9 ∧ (r9 ≠ 0 → in32 z3 ∧ (z3 ≠ 0 → xGo 108 19 [some (.ref 0), some (.int (jI z1)), some (.int (jI z2)), some (.int (jI (z3 + 1))), some (.int (jI (z4 + 1)))] [] w6 r) ∧ (z3 = 0 → xGo 108 19 [some (.ref 0), some (.int (jI z1)), some (.int (jI z4)), some (.int (jI (z3 + 1))), some (.int (jI (z4 + 1)))] [] w6 r)) ∧ (r9 = 0 → xGo 108 19 [some (.ref 0), some (.int (jI z1)), some (.int (jI z2)), some (.int (jI z3)), some (.int (jI (z4 + 1)))] [] w6 r))) : xGo 108 19 [some (.ref 0), some (.int (jI z1)), some (.int (jI z2)), some (.int (jI z3)), some (.int (jI z4))] [] w r := by
  refine g_iload (pc' := 21) d_108_19 rfl rfl ?_
  refine g_aloadn (pc' := 22) d_108_21 rfl rfl ?_
  obtain ⟨x1, hv2, h⟩ := h
  refine gz_getI (pc' := 25) d_108_22 rfl st_108_49 hv2 ?_
  obtain ⟨hc3, h⟩ := h
  obtain ⟨hc4, h⟩ := h
  refine gz_ic_gt (pc' := 28) (pt := 60) d_108_25 (by decide) rfl hc3 hc4 (fun c => ?_) (fun c => ?_)
  · replace h := h.1 c
    refine g_iloadn (pc' := 61) d_108_60 rfl rfl ?_
    obtain ⟨hc5, h⟩ := h
    refine gz_if_ne (pc' := 64) (pt := 68) d_108_61 (by decide) rfl hc5 (fun c => ?_) (fun c => ?_)
    · replace h := h.1 c
      refine g_iloadn (pc' := 69) d_108_68 rfl rfl ?_
      exact g_iret d_108_69 rt_108 h
    · replace h := h.2 c
      refine g_iloadn (pc' := 65) d_108_64 rfl rfl ?_
      refine g_goto (pt := 69) d_108_65 (by decide) ?_
      exact g_iret d_108_69 rt_108 h
  · replace h := h.2 c
    refine g_aloadn (pc' := 29) d_108_28 rfl rfl ?_
    refine gz_getR (pc' := 32) d_108_29 rfl st_108_58 (kr_0_8 hC) ?_
    refine g_iload (pc' := 34) d_108_32 rfl rfl ?_
    refine g_iconst (pc' := 35) d_108_34 rfl rfl ?_
    obtain ⟨r9, w6, hk7, hC8, h⟩ := h
    refine gz_callV (pc' := 38) d_108_35 rfl st_108_142 na_61 ml_61 rfl rfl rfl rm_108_61 rfl rfl ow_61 (ko_23 hC) hk7 ?_
    obtain ⟨hc10, h⟩ := h
    refine gz_if_ne (pc' := 41) (pt := 44) d_108_38 (by decide) rfl hc10 (fun c => ?_) (fun c => ?_)
    · replace h := h.1 c
      refine g_iloadn (pc' := 45) d_108_44 rfl rfl ?_
      obtain ⟨hc11, h⟩ := h
      refine gz_if_ne (pc' := 48) (pt := 51) d_108_45 (by decide) rfl hc11 (fun c => ?_) (fun c => ?_)
      · replace h := h.1 c
        refine gz_iinc (pc' := 54) (l' := [some (.ref 0), some (.int (jI z1)), some (.int (jI z2)), some (.int (jI (z3 + 1))), some (.int (jI z4))]) d_108_51 rfl rfl ml_108 rfl rfl ?_
        refine gz_iinc (pc' := 57) (l' := [some (.ref 0), some (.int (jI z1)), some (.int (jI z2)), some (.int (jI (z3 + 1))), some (.int (jI (z4 + 1)))]) d_108_54 rfl rfl ml_108 rfl rfl ?_
        refine g_goto (pt := 19) d_108_57 (by decide) ?_
        exact h
      · replace h := h.2 c
        refine g_iload (pc' := 50) d_108_48 rfl rfl ?_
        refine g_istoren (pc' := 51) (l' := [some (.ref 0), some (.int (jI z1)), some (.int (jI z4)), some (.int (jI z3)), some (.int (jI z4))]) d_108_50 rfl ml_108 rfl rfl ?_
        refine gz_iinc (pc' := 54) (l' := [some (.ref 0), some (.int (jI z1)), some (.int (jI z4)), some (.int (jI (z3 + 1))), some (.int (jI z4))]) d_108_51 rfl rfl ml_108 rfl rfl ?_
        refine gz_iinc (pc' := 57) (l' := [some (.ref 0), some (.int (jI z1)), some (.int (jI z4)), some (.int (jI (z3 + 1))), some (.int (jI (z4 + 1)))]) d_108_54 rfl rfl ml_108 rfl rfl ?_
        refine g_goto (pt := 19) d_108_57 (by decide) ?_
        exact h
    · replace h := h.2 c
      refine g_goto (pt := 54) d_108_41 (by decide) ?_
      refine gz_iinc (pc' := 57) (l' := [some (.ref 0), some (.int (jI z1)), some (.int (jI z2)), some (.int (jI z3)), some (.int (jI (z4 + 1)))]) d_108_54 rfl rfl ml_108 rfl rfl ?_
      refine g_goto (pt := 19) d_108_57 (by decide) ?_
      exact h
theorem Z_110_0 {z1 : Int} {w : xW} {r : Option Value × xW} (hC : CS w) (h : xGo 110 2 [some (.ref 0), some (.int (jI z1)), some (.int (jI 0))] [] w r) : xGo 110 0 [some (.ref 0), some (.int (jI z1)), none] [] w r := by
  refine g_iconst (pc' := 1) d_110_0 rfl rfl ?_
  refine g_istoren (pc' := 2) (l' := [some (.ref 0), some (.int (jI z1)), some (.int (jI 0))]) d_110_1 rfl ml_110 rfl rfl ?_
  exact h
theorem Z_110 {z1 : Int} {w : xW} {r : Option Value × xW} (hC : CS w) (h : xGo 110 2 [some (.ref 0), some (.int (jI z1)), some (.int (jI 0))] [] w r) : xCall 110 [.ref 0, .int (jI z1)] w r := E_110 (Z_110_0 hC h)
theorem Z_110_2 {z1 : Int} {z2 : Int} {w : xW} {r : Option Value × xW} (hC : CS w) (h : ∃ x1, fI w 0 0 7 x1 ∧ in32 z2 ∧ in32 x1 ∧ (x1 < z2 → r = (some (.int (jI 1)), w)) ∧ (z2 ≤ x1 → ∃ r8 w5, xCall 61 [.ref 23, .int (jI z2), .int (jI z1)] w (some (.int (jI r8)), w5) ∧ CS w5 ∧ in32 r8 ∧ (r8 = 0 → xGo 110 2 [some (.ref 0), some (.int (jI z1)), some (.int (jI (z2 + 1)))] [] w5 r) ∧ (r8 ≠ 0 → r = (some (.int (jI 0)), w5)))) : xGo 110 2 [some (.ref 0), some (.int (jI z1)), some (.int (jI z2))] [] w r := by
  refine g_iloadn (pc' := 3) d_110_2 rfl rfl ?_
  refine g_aloadn (pc' := 4) d_110_3 rfl rfl ?_
  obtain ⟨x1, hv2, h⟩ := h
  refine gz_getI (pc' := 7) d_110_4 rfl st_110_49 hv2 ?_
  obtain ⟨hc3, h⟩ := h
  obtain ⟨hc4, h⟩ := h
  refine gz_ic_gt (pc' := 10) (pt := 30) d_110_7 (by decide) rfl hc3 hc4 (fun c => ?_) (fun c => ?_)
  · replace h := h.1 c
    refine g_iconst (pc' := 31) d_110_30 rfl rfl ?_
    exact g_zret d_110_31 rt_110 (Or.inr rfl) h
  · replace h := h.2 c
    refine g_aloadn (pc' := 11) d_110_10 rfl rfl ?_
    refine gz_getR (pc' := 14) d_110_11 rfl st_110_58 (kr_0_8 hC) ?_
    refine g_iloadn (pc' := 15) d_110_14 rfl rfl ?_
    refine g_iloadn (pc' := 16) d_110_15 rfl rfl ?_
    obtain ⟨r8, w5, hk6, hC7, h⟩ := h
    refine gz_callV (pc' := 19) d_110_16 rfl st_110_142 na_61 ml_61 rfl rfl rfl rm_110_61 rfl rfl ow_61 (ko_23 hC) hk6 ?_
    obtain ⟨hc9, h⟩ := h
    refine gz_if_eq (pc' := 22) (pt := 24) d_110_19 (by decide) rfl hc9 (fun c => ?_) (fun c => ?_)
    · replace h := h.1 c
      refine gz_iinc (pc' := 27) (l' := [some (.ref 0), some (.int (jI z1)), some (.int (jI (z2 + 1)))]) d_110_24 rfl rfl ml_110 rfl rfl ?_
      refine g_goto (pt := 2) d_110_27 (by decide) ?_
      exact h
    · replace h := h.2 c
      refine g_iconst (pc' := 23) d_110_22 rfl rfl ?_
      exact g_zret d_110_23 rt_110 (Or.inl rfl) h
theorem Z_112_0 {z1 : Int} {z2 : Int} {z3 : Int} {w : xW} {r : Option Value × xW} (hC : CS w) (h : in32 z1 ∧ (z1 < 0 → r = (some (.int (jI (-1))), w)) ∧ (0 ≤ z1 → in32 z2 ∧ (z2 < 1 → r = (some (.int (jI (-1))), w)) ∧ (1 ≤ z2 → (20 < z2 → r = (some (.int (jI (-1))), w)) ∧ (z2 ≤ 20 → ∃ (P6 : Prop) (dP7 : Decidable P6) (w3 : xW), xCall 76 [.int (jI z3)] w (some (.int (bz P6)), w3) ∧ CS w3 ∧ (P6 → ∃ x8, fI w3 0 0 7 x8 ∧ in32 x8 ∧ (0 ≤ x8 → ∃ w11, xCall 111 [.ref 17, .ref 12] w3 (none, w11) ∧ CS w11 ∧ ∃ w14, xCall 113 [.ref 0, .int (jI z1), .int (jI z2)] w11 (none, w14) ∧ CS w14 ∧ xGo 112 57 [some (.ref 0), some (.int (jI z1)), some (.int (jI z2)), some (.int (jI z3)), some (.int (jI 0)), some (.int (jI 0))] [] w14 r) ∧ (x8 < 0 → r = (some (.int (jI (-2))), w3))) ∧ (¬ P6 → r = (some (.int (jI (-1))), w3)))))) : xGo 112 0 [some (.ref 0), some (.int (jI z1)), some (.int (jI z2)), some (.int (jI z3)), none, none] [] w r := by
  refine g_iloadn (pc' := 1) d_112_0 rfl rfl ?_
  obtain ⟨hc1, h⟩ := h
  refine gz_if_lt (pc' := 4) (pt := 22) d_112_1 (by decide) rfl hc1 (fun c => ?_) (fun c => ?_)
  · replace h := h.1 c
    refine g_iconst (pc' := 23) d_112_22 rfl rfl ?_
    exact g_iret d_112_23 rt_112 h
  · replace h := h.2 c
    refine g_iloadn (pc' := 5) d_112_4 rfl rfl ?_
    refine g_iconst (pc' := 6) d_112_5 rfl rfl ?_
    obtain ⟨hc2, h⟩ := h
    refine gz_ic_lt (pc' := 9) (pt := 22) d_112_6 (by decide) rfl hc2 (s32 (z := 1)) (fun c => ?_) (fun c => ?_)
    · replace h := h.1 c
      refine g_iconst (pc' := 23) d_112_22 rfl rfl ?_
      exact g_iret d_112_23 rt_112 h
    · replace h := h.2 c
      refine g_iloadn (pc' := 10) d_112_9 rfl rfl ?_
      refine g_bipush (pc' := 12) (v := jI 20) d_112_10 rfl (by decide) ?_
      refine gz_ic_gt (pc' := 15) (pt := 22) d_112_12 (by decide) rfl hc2 (s32 (z := 20)) (fun c => ?_) (fun c => ?_)
      · replace h := h.1 c
        refine g_iconst (pc' := 23) d_112_22 rfl rfl ?_
        exact g_iret d_112_23 rt_112 h
      · replace h := h.2 c
        refine g_iloadn (pc' := 16) d_112_15 rfl rfl ?_
        obtain ⟨P6, dP7, w3, hk4, hC5, h⟩ := h
        refine g_callS (pc' := 19) d_112_16 rfl st_112_146 (Or.inl rfl) na_76 ml_76 rfl rfl rfl rm_112_76 rfl rfl hk4 ?_
        refine gz_bt_ne (pc' := 22) (pt := 24) d_112_19 (by decide) rfl (fun c => ?_) (fun c => ?_)
        · replace h := h.1 c
          refine g_aloadn (pc' := 25) d_112_24 rfl rfl ?_
          obtain ⟨x8, hv9, h⟩ := h
          refine gz_getI (pc' := 28) d_112_25 rfl st_112_49 hv9 ?_
          obtain ⟨hc10, h⟩ := h
          refine gz_if_ge (pc' := 31) (pt := 34) d_112_28 (by decide) rfl hc10 (fun c => ?_) (fun c => ?_)
          · replace h := h.1 c
            refine g_aloadn (pc' := 35) d_112_34 rfl rfl ?_
            refine gz_getR (pc' := 38) d_112_35 rfl st_112_42 (kr_0_5 hC5) ?_
            refine g_aloadn (pc' := 39) d_112_38 rfl rfl ?_
            refine gz_getR (pc' := 42) d_112_39 rfl st_112_39 (kr_0_4 hC5) ?_
            obtain ⟨w11, hk12, hC13, h⟩ := h
            refine gz_callV (pc' := 45) d_112_42 rfl st_112_274 na_111 ml_111 rfl rfl rfl rm_112_111 rfl rfl ow_111 (ko_17 hC5) hk12 ?_
            refine g_aloadn (pc' := 46) d_112_45 rfl rfl ?_
            refine g_iloadn (pc' := 47) d_112_46 rfl rfl ?_
            refine g_iloadn (pc' := 48) d_112_47 rfl rfl ?_
            obtain ⟨w14, hk15, hC16, h⟩ := h
            refine gz_callV (pc' := 51) d_112_48 rfl st_112_278 na_113 ml_113 rfl rfl rfl rm_112_113 rfl rfl ow_113 (ko_0 hC13) hk15 ?_
            refine g_iconst (pc' := 52) d_112_51 rfl rfl ?_
            refine g_istore (pc' := 54) (l' := [some (.ref 0), some (.int (jI z1)), some (.int (jI z2)), some (.int (jI z3)), some (.int (jI 0)), none]) d_112_52 rfl ml_112 rfl rfl ?_
            refine g_iconst (pc' := 55) d_112_54 rfl rfl ?_
            refine g_istore (pc' := 57) (l' := [some (.ref 0), some (.int (jI z1)), some (.int (jI z2)), some (.int (jI z3)), some (.int (jI 0)), some (.int (jI 0))]) d_112_55 rfl ml_112 rfl rfl ?_
            exact h
          · replace h := h.2 c
            refine g_bipush (pc' := 33) (v := jI (-2)) d_112_31 rfl (by decide) ?_
            exact g_iret d_112_33 rt_112 h
        · replace h := h.2 c
          refine g_iconst (pc' := 23) d_112_22 rfl rfl ?_
          exact g_iret d_112_23 rt_112 h
theorem Z_112 {z1 : Int} {z2 : Int} {z3 : Int} {w : xW} {r : Option Value × xW} (hC : CS w) (h : in32 z1 ∧ (z1 < 0 → r = (some (.int (jI (-1))), w)) ∧ (0 ≤ z1 → in32 z2 ∧ (z2 < 1 → r = (some (.int (jI (-1))), w)) ∧ (1 ≤ z2 → (20 < z2 → r = (some (.int (jI (-1))), w)) ∧ (z2 ≤ 20 → ∃ (P6 : Prop) (dP7 : Decidable P6) (w3 : xW), xCall 76 [.int (jI z3)] w (some (.int (bz P6)), w3) ∧ CS w3 ∧ (P6 → ∃ x8, fI w3 0 0 7 x8 ∧ in32 x8 ∧ (0 ≤ x8 → ∃ w11, xCall 111 [.ref 17, .ref 12] w3 (none, w11) ∧ CS w11 ∧ ∃ w14, xCall 113 [.ref 0, .int (jI z1), .int (jI z2)] w11 (none, w14) ∧ CS w14 ∧ xGo 112 57 [some (.ref 0), some (.int (jI z1)), some (.int (jI z2)), some (.int (jI z3)), some (.int (jI 0)), some (.int (jI 0))] [] w14 r) ∧ (x8 < 0 → r = (some (.int (jI (-2))), w3))) ∧ (¬ P6 → r = (some (.int (jI (-1))), w3)))))) : xCall 112 [.ref 0, .int (jI z1), .int (jI z2), .int (jI z3)] w r := E_112 (Z_112_0 hC h)
theorem Z_112_57 {z1 : Int} {z2 : Int} {z3 : Int} {z4 : Int} {z5 : Int} {w : xW} {r : Option Value × xW} (hC : CS w) (h : ∃ x1, fI w 0 0 7 x1 ∧ in32 z5 ∧ in32 x1 ∧ (x1 < z5 → ∃ w5, xCall 111 [.ref 12, .ref 17] w (none, w5) ∧ CS w5 ∧ r = (some (.int (jI z4)), w5)) ∧ (z5 ≤ x1 → ∃ (P11 : Prop) (dP12 : Decidable P11) (w8 : xW), xCall 27 [.ref 0, .int (jI z5)] w (some (.int (bz P11)), w8) ∧ CS w8 ∧ (P11 → xGo 112 57 [some (.ref 0), some (.int (jI z1)), some (.int (jI z2)), some (.int (jI z3)), some (.int (jI z4)), some (.int (jI (z5 + 1)))] [] w8 r) ∧ (¬ P11 → ∃ r16 w13, xCall 61 [.ref 23, .int (jI z5), .int (jI z3)] w8 (some (.int (jI r16)), w13) ∧ CS w13 ∧ in32 r16 ∧ (r16 = 0 → xGo 112 57 [some (.ref 0), some (.int (jI z1)), some (.int (jI z2)), some (.int (jI z3)), some (.int (jI z4)), some (.int (jI (z5 + 1)))] [] w13 r) ∧ (r16 ≠ 0 → xGo 112 57 [some (.ref 0), some (.int (jI z1)), some (.int (jI z2)), some (.int (jI z3)), some (.int (jI (z4 + 1))), some (.int (jI (z5 + 1)))] [] w13 r)))) : xGo 112 57 [some (.ref 0), some (.int (jI z1)), some (.int (jI z2)), some (.int (jI z3)), some (.int (jI z4)), some (.int (jI z5))] [] w r := by
  refine g_iload (pc' := 59) d_112_57 rfl rfl ?_
  refine g_aloadn (pc' := 60) d_112_59 rfl rfl ?_
  obtain ⟨x1, hv2, h⟩ := h
  refine gz_getI (pc' := 63) d_112_60 rfl st_112_49 hv2 ?_
  obtain ⟨hc3, h⟩ := h
  obtain ⟨hc4, h⟩ := h
  refine gz_ic_gt (pc' := 66) (pt := 97) d_112_63 (by decide) rfl hc3 hc4 (fun c => ?_) (fun c => ?_)
  · replace h := h.1 c
    refine g_aloadn (pc' := 98) d_112_97 rfl rfl ?_
    refine gz_getR (pc' := 101) d_112_98 rfl st_112_39 (kr_0_4 hC) ?_
    refine g_aloadn (pc' := 102) d_112_101 rfl rfl ?_
    refine gz_getR (pc' := 105) d_112_102 rfl st_112_42 (kr_0_5 hC) ?_
    obtain ⟨w5, hk6, hC7, h⟩ := h
    refine gz_callV (pc' := 108) d_112_105 rfl st_112_274 na_111 ml_111 rfl rfl rfl rm_112_111 rfl rfl ow_111 (ko_12 hC) hk6 ?_
    refine g_iload (pc' := 110) d_112_108 rfl rfl ?_
    exact g_iret d_112_110 rt_112 h
  · replace h := h.2 c
    refine g_aloadn (pc' := 67) d_112_66 rfl rfl ?_
    refine g_iload (pc' := 69) d_112_67 rfl rfl ?_
    obtain ⟨P11, dP12, w8, hk9, hC10, h⟩ := h
    refine gz_callV (pc' := 72) d_112_69 rfl st_112_174 na_27 ml_27 rfl rfl rfl rm_112_27 rfl rfl ow_27 (ko_0 hC) hk9 ?_
    refine gz_bt_ne (pc' := 75) (pt := 91) d_112_72 (by decide) rfl (fun c => ?_) (fun c => ?_)
    · replace h := h.1 c
      refine gz_iinc (pc' := 94) (l' := [some (.ref 0), some (.int (jI z1)), some (.int (jI z2)), some (.int (jI z3)), some (.int (jI z4)), some (.int (jI (z5 + 1)))]) d_112_91 rfl rfl ml_112 rfl rfl ?_
      refine g_goto (pt := 57) d_112_94 (by decide) ?_
      exact h
    · replace h := h.2 c
      refine g_aloadn (pc' := 76) d_112_75 rfl rfl ?_
      refine gz_getR (pc' := 79) d_112_76 rfl st_112_58 (kr_0_8 hC10) ?_
      refine g_iload (pc' := 81) d_112_79 rfl rfl ?_
      refine g_iloadn (pc' := 82) d_112_81 rfl rfl ?_
      obtain ⟨r16, w13, hk14, hC15, h⟩ := h
      refine gz_callV (pc' := 85) d_112_82 rfl st_112_142 na_61 ml_61 rfl rfl rfl rm_112_61 rfl rfl ow_61 (ko_23 hC10) hk14 ?_
      obtain ⟨hc17, h⟩ := h
      refine gz_if_eq (pc' := 88) (pt := 91) d_112_85 (by decide) rfl hc17 (fun c => ?_) (fun c => ?_)
      · replace h := h.1 c
        refine gz_iinc (pc' := 94) (l' := [some (.ref 0), some (.int (jI z1)), some (.int (jI z2)), some (.int (jI z3)), some (.int (jI z4)), some (.int (jI (z5 + 1)))]) d_112_91 rfl rfl ml_112 rfl rfl ?_
        refine g_goto (pt := 57) d_112_94 (by decide) ?_
        exact h
      · replace h := h.2 c
        refine gz_iinc (pc' := 91) (l' := [some (.ref 0), some (.int (jI z1)), some (.int (jI z2)), some (.int (jI z3)), some (.int (jI (z4 + 1))), some (.int (jI z5))]) d_112_88 rfl rfl ml_112 rfl rfl ?_
        refine gz_iinc (pc' := 94) (l' := [some (.ref 0), some (.int (jI z1)), some (.int (jI z2)), some (.int (jI z3)), some (.int (jI (z4 + 1))), some (.int (jI (z5 + 1)))]) d_112_91 rfl rfl ml_112 rfl rfl ?_
        refine g_goto (pt := 57) d_112_94 (by decide) ?_
        exact h
theorem Z_113_0 {z1 : Int} {z2 : Int} {w : xW} {r : Option Value × xW} (hC : CS w) (h : in32 z1 ∧ xGo 113 6 [some (.ref 0), some (.int (jI z1)), some (.int (jI z2)), some (.long (jL z1)), none, some (.int (jI 0)), none, none, none, none] [] w r) : xGo 113 0 [some (.ref 0), some (.int (jI z1)), some (.int (jI z2)), none, none, none, none, none, none, none] [] w r := by
  refine g_iloadn (pc' := 1) d_113_0 rfl rfl ?_
  obtain ⟨hc1, h⟩ := h
  refine gz_i2l (pc' := 2) d_113_1 rfl hc1 ?_
  refine g_lstoren (pc' := 3) (l' := [some (.ref 0), some (.int (jI z1)), some (.int (jI z2)), some (.long (jL z1)), none, none, none, none, none, none]) d_113_2 rfl ml_113 rfl rfl ?_
  refine g_iconst (pc' := 4) d_113_3 rfl rfl ?_
  refine g_istore (pc' := 6) (l' := [some (.ref 0), some (.int (jI z1)), some (.int (jI z2)), some (.long (jL z1)), none, some (.int (jI 0)), none, none, none, none]) d_113_4 rfl ml_113 rfl rfl ?_
  exact h
theorem Z_113 {z1 : Int} {z2 : Int} {w : xW} {r : Option Value × xW} (hC : CS w) (h : in32 z1 ∧ xGo 113 6 [some (.ref 0), some (.int (jI z1)), some (.int (jI z2)), some (.long (jL z1)), none, some (.int (jI 0)), none, none, none, none] [] w r) : xCall 113 [.ref 0, .int (jI z1), .int (jI z2)] w r := E_113 (Z_113_0 hC h)
theorem Z_113_6 {z1 : Int} {z2 : Int} {z3 : Int} {z5 : Int} {w : xW} {r : Option Value × xW} (hC : CS w) (h : in32 z5 ∧ in32 z2 ∧ (z2 ≤ z5 → r = (none, w)) ∧ (z5 < z2 → ∃ r6 w3, xCall 114 [.long (jL z3)] w (some (.long (jL r6)), w3) ∧ CS w3 ∧ ∃ y7, jL r6 >>> ((jI 16).toInt64 &&& 63) = jL y7 ∧ ∃ x9, fI w3 0 0 7 x9 ∧ in32 x9 ∧ in64 y7 ∧ in64 (x9 + 1) ∧ x9 + 1 ≠ 0 ∧ ∃ y15, Int.tmod y7 (x9 + 1) = y15 ∧ ∃ r20 w17, xCall 114 [.long (jL r6)] w3 (some (.long (jL r20)), w17) ∧ CS w17 ∧ ∃ y21, jL r20 >>> ((jI 16).toInt64 &&& 63) = jL y21 ∧ in64 y21 ∧ ∃ y24, Int.tmod y21 9 = y24 ∧ ∃ r29 w26, xCall 114 [.long (jL r20)] w17 (some (.long (jL r29)), w26) ∧ CS w26 ∧ ∃ y30, jL r29 >>> ((jI 16).toInt64 &&& 63) = jL y30 ∧ in64 y30 ∧ ∃ y33, Int.tmod y30 2 = y33 ∧ in64 y33 ∧ (y33 ≠ 1 → ((0 : Int) = 0 → ∃ w36, xCall 60 [.ref 12, .int (jI y15), .long (jL (y24 + 1))] w26 (none, w36) ∧ CS w36 ∧ xGo 113 6 [some (.ref 0), some (.int (jI z1)), some (.int (jI z2)), some (.long (jL r29)), none, some (.int (jI (z5 + 1))), none, none, none, none] [] w36 r) ∧ ((0 : Int) ≠ 0 → ∃ w39, xCall 60 [.ref 12, .int (jI y15), .long (jL (-(y24 + 1)))] w26 (none, w39) ∧ CS w39 ∧ xGo 113 6 [some (.ref 0), some (.int (jI z1)), some (.int (jI z2)), some (.long (jL r29)), none, some (.int (jI (z5 + 1))), none, none, none, none] [] w39 r)) ∧ (y33 = 1 → ((1 : Int) = 0 → ∃ w42, xCall 60 [.ref 12, .int (jI y15), .long (jL (y24 + 1))] w26 (none, w42) ∧ CS w42 ∧ xGo 113 6 [some (.ref 0), some (.int (jI z1)), some (.int (jI z2)), some (.long (jL r29)), none, some (.int (jI (z5 + 1))), none, none, none, none] [] w42 r) ∧ ((1 : Int) ≠ 0 → ∃ w45, xCall 60 [.ref 12, .int (jI y15), .long (jL (-(y24 + 1)))] w26 (none, w45) ∧ CS w45 ∧ xGo 113 6 [some (.ref 0), some (.int (jI z1)), some (.int (jI z2)), some (.long (jL r29)), none, some (.int (jI (z5 + 1))), none, none, none, none] [] w45 r)))) : xGo 113 6 [some (.ref 0), some (.int (jI z1)), some (.int (jI z2)), some (.long (jL z3)), none, some (.int (jI z5)), none, none, none, none] [] w r := by
  refine g_iload (pc' := 8) d_113_6 rfl rfl ?_
  refine g_iloadn (pc' := 9) d_113_8 rfl rfl ?_
  obtain ⟨hc1, h⟩ := h
  obtain ⟨hc2, h⟩ := h
  refine gz_ic_ge (pc' := 12) (pt := 102) d_113_9 (by decide) rfl hc1 hc2 (fun c => ?_) (fun c => ?_)
  · replace h := h.1 c
    exact g_vret d_113_102 rt_113 h
  · replace h := h.2 c
    refine g_lloadn (pc' := 13) d_113_12 rfl rfl ?_
    obtain ⟨r6, w3, hk4, hC5, h⟩ := h
    refine g_callS (pc' := 16) d_113_13 rfl st_113_447 (Or.inl rfl) na_114 ml_114 rfl rfl rfl rm_113_114 rfl rfl hk4 ?_
    refine g_lstoren (pc' := 17) (l' := [some (.ref 0), some (.int (jI z1)), some (.int (jI z2)), some (.long (jL r6)), none, some (.int (jI z5)), none, none, none, none]) d_113_16 rfl ml_113 rfl rfl ?_
    refine g_lloadn (pc' := 18) d_113_17 rfl rfl ?_
    refine g_bipush (pc' := 20) (v := jI 16) d_113_18 rfl (by decide) ?_
    obtain ⟨y7, hz8, h⟩ := h
    refine gz_lshr (pc' := 21) d_113_20 rfl hz8 ?_
    refine g_aloadn (pc' := 22) d_113_21 rfl rfl ?_
    obtain ⟨x9, hv10, h⟩ := h
    refine gz_getI (pc' := 25) d_113_22 rfl st_113_49 hv10 ?_
    obtain ⟨hc11, h⟩ := h
    refine gz_i2l (pc' := 26) d_113_25 rfl hc11 ?_
    refine g_lconst (pc' := 27) (v := jL 1) d_113_26 rfl cl_1 ?_
    refine gz_ladd (pc' := 28) d_113_27 rfl ?_
    obtain ⟨hc12, h⟩ := h
    obtain ⟨hc13, h⟩ := h
    obtain ⟨hc14, h⟩ := h
    obtain ⟨y15, hz16, h⟩ := h
    refine gz_lrem (pc' := 29) d_113_28 rfl hc12 hc13 hc14 hz16 ?_
    refine gz_l2i (pc' := 30) d_113_29 rfl ?_
    refine g_istore (pc' := 32) (l' := [some (.ref 0), some (.int (jI z1)), some (.int (jI z2)), some (.long (jL r6)), none, some (.int (jI z5)), some (.int (jI y15)), none, none, none]) d_113_30 rfl ml_113 rfl rfl ?_
    refine g_lloadn (pc' := 33) d_113_32 rfl rfl ?_
    obtain ⟨r20, w17, hk18, hC19, h⟩ := h
    refine g_callS (pc' := 36) d_113_33 rfl st_113_447 (Or.inl rfl) na_114 ml_114 rfl rfl rfl rm_113_114 rfl rfl hk18 ?_
    refine g_lstoren (pc' := 37) (l' := [some (.ref 0), some (.int (jI z1)), some (.int (jI z2)), some (.long (jL r20)), none, some (.int (jI z5)), some (.int (jI y15)), none, none, none]) d_113_36 rfl ml_113 rfl rfl ?_
    refine g_lloadn (pc' := 38) d_113_37 rfl rfl ?_
    refine g_bipush (pc' := 40) (v := jI 16) d_113_38 rfl (by decide) ?_
    obtain ⟨y21, hz22, h⟩ := h
    refine gz_lshr (pc' := 41) d_113_40 rfl hz22 ?_
    refine g_ldc2 (pc' := 44) d_113_41 rfl st_113_450 rfl ?_
    obtain ⟨hc23, h⟩ := h
    obtain ⟨y24, hz25, h⟩ := h
    refine gz_lrem (pc' := 45) d_113_44 rfl hc23 (s64 (z := 9)) (by decide) hz25 ?_
    refine g_lconst (pc' := 46) (v := jL 1) d_113_45 rfl cl_1 ?_
    refine gz_ladd (pc' := 47) d_113_46 rfl ?_
    refine g_lstore (pc' := 49) (l' := [some (.ref 0), some (.int (jI z1)), some (.int (jI z2)), some (.long (jL r20)), none, some (.int (jI z5)), some (.int (jI y15)), some (.long (jL (y24 + 1))), none, none]) d_113_47 rfl ml_113 rfl rfl ?_
    refine g_lloadn (pc' := 50) d_113_49 rfl rfl ?_
    obtain ⟨r29, w26, hk27, hC28, h⟩ := h
    refine g_callS (pc' := 53) d_113_50 rfl st_113_447 (Or.inl rfl) na_114 ml_114 rfl rfl rfl rm_113_114 rfl rfl hk27 ?_
    refine g_lstoren (pc' := 54) (l' := [some (.ref 0), some (.int (jI z1)), some (.int (jI z2)), some (.long (jL r29)), none, some (.int (jI z5)), some (.int (jI y15)), some (.long (jL (y24 + 1))), none, none]) d_113_53 rfl ml_113 rfl rfl ?_
    refine g_lloadn (pc' := 55) d_113_54 rfl rfl ?_
    refine g_bipush (pc' := 57) (v := jI 16) d_113_55 rfl (by decide) ?_
    obtain ⟨y30, hz31, h⟩ := h
    refine gz_lshr (pc' := 58) d_113_57 rfl hz31 ?_
    refine g_ldc2 (pc' := 61) d_113_58 rfl st_113_389 rfl ?_
    obtain ⟨hc32, h⟩ := h
    obtain ⟨y33, hz34, h⟩ := h
    refine gz_lrem (pc' := 62) d_113_61 rfl hc32 (s64 (z := 2)) (by decide) hz34 ?_
    refine g_lconst (pc' := 63) (v := jL 1) d_113_62 rfl cl_1 ?_
    obtain ⟨hc35, h⟩ := h
    refine gz_lc_ne (pc' := 67) (pm := 64) (pt := 71) d_113_63 rfl d_113_64 (by decide) rfl hc35 (s64 (z := 1)) (fun c => ?_) (fun c => ?_)
    · replace h := h.1 c
      refine g_iconst (pc' := 72) d_113_71 rfl rfl ?_
      refine g_istore (pc' := 74) (l' := [some (.ref 0), some (.int (jI z1)), some (.int (jI z2)), some (.long (jL r29)), none, some (.int (jI z5)), some (.int (jI y15)), some (.long (jL (y24 + 1))), none, some (.int (jI 0))]) d_113_72 rfl ml_113 rfl rfl ?_
      refine g_aloadn (pc' := 75) d_113_74 rfl rfl ?_
      refine gz_getR (pc' := 78) d_113_75 rfl st_113_39 (kr_0_4 hC28) ?_
      refine g_iload (pc' := 80) d_113_78 rfl rfl ?_
      refine g_iload (pc' := 82) d_113_80 rfl rfl ?_
      refine gz_if_eq (pc' := 85) (pt := 91) d_113_82 (by decide) rfl (s32 (z := 0)) (fun c => ?_) (fun c => ?_)
      · replace h := h.1 c
        refine g_lload (pc' := 93) d_113_91 rfl rfl ?_
        obtain ⟨w36, hk37, hC38, h⟩ := h
        refine gz_callV (pc' := 96) d_113_93 rfl st_113_134 na_60 ml_60 rfl rfl rfl rm_113_60 rfl rfl ow_60 (ko_12 hC28) hk37 ?_
        refine gz_iinc (pc' := 99) (l' := [some (.ref 0), some (.int (jI z1)), some (.int (jI z2)), some (.long (jL r29)), none, some (.int (jI (z5 + 1))), some (.int (jI y15)), some (.long (jL (y24 + 1))), none, some (.int (jI 0))]) d_113_96 rfl rfl ml_113 rfl rfl ?_
        refine g_goto (pt := 6) d_113_99 (by decide) ?_
        exact xGo.more (xle_s (xle_s (xle_s (xle_s (xle_n (xle_s (xle_n (xle_n (xle_n (xle_n xle_0)))))))))) h
      · replace h := h.2 c
        refine g_lload (pc' := 87) d_113_85 rfl rfl ?_
        refine gz_lneg (pc' := 88) d_113_87 rfl ?_
        refine g_goto (pt := 93) d_113_88 (by decide) ?_
        obtain ⟨w39, hk40, hC41, h⟩ := h
        refine gz_callV (pc' := 96) d_113_93 rfl st_113_134 na_60 ml_60 rfl rfl rfl rm_113_60 rfl rfl ow_60 (ko_12 hC28) hk40 ?_
        refine gz_iinc (pc' := 99) (l' := [some (.ref 0), some (.int (jI z1)), some (.int (jI z2)), some (.long (jL r29)), none, some (.int (jI (z5 + 1))), some (.int (jI y15)), some (.long (jL (y24 + 1))), none, some (.int (jI 0))]) d_113_96 rfl rfl ml_113 rfl rfl ?_
        refine g_goto (pt := 6) d_113_99 (by decide) ?_
        exact xGo.more (xle_s (xle_s (xle_s (xle_s (xle_n (xle_s (xle_n (xle_n (xle_n (xle_n xle_0)))))))))) h
    · replace h := h.2 c
      refine g_iconst (pc' := 68) d_113_67 rfl rfl ?_
      refine g_goto (pt := 72) d_113_68 (by decide) ?_
      refine g_istore (pc' := 74) (l' := [some (.ref 0), some (.int (jI z1)), some (.int (jI z2)), some (.long (jL r29)), none, some (.int (jI z5)), some (.int (jI y15)), some (.long (jL (y24 + 1))), none, some (.int (jI 1))]) d_113_72 rfl ml_113 rfl rfl ?_
      refine g_aloadn (pc' := 75) d_113_74 rfl rfl ?_
      refine gz_getR (pc' := 78) d_113_75 rfl st_113_39 (kr_0_4 hC28) ?_
      refine g_iload (pc' := 80) d_113_78 rfl rfl ?_
      refine g_iload (pc' := 82) d_113_80 rfl rfl ?_
      refine gz_if_eq (pc' := 85) (pt := 91) d_113_82 (by decide) rfl (s32 (z := 1)) (fun c => ?_) (fun c => ?_)
      · replace h := h.1 c
        refine g_lload (pc' := 93) d_113_91 rfl rfl ?_
        obtain ⟨w42, hk43, hC44, h⟩ := h
        refine gz_callV (pc' := 96) d_113_93 rfl st_113_134 na_60 ml_60 rfl rfl rfl rm_113_60 rfl rfl ow_60 (ko_12 hC28) hk43 ?_
        refine gz_iinc (pc' := 99) (l' := [some (.ref 0), some (.int (jI z1)), some (.int (jI z2)), some (.long (jL r29)), none, some (.int (jI (z5 + 1))), some (.int (jI y15)), some (.long (jL (y24 + 1))), none, some (.int (jI 1))]) d_113_96 rfl rfl ml_113 rfl rfl ?_
        refine g_goto (pt := 6) d_113_99 (by decide) ?_
        exact xGo.more (xle_s (xle_s (xle_s (xle_s (xle_n (xle_s (xle_n (xle_n (xle_n (xle_n xle_0)))))))))) h
      · replace h := h.2 c
        refine g_lload (pc' := 87) d_113_85 rfl rfl ?_
        refine gz_lneg (pc' := 88) d_113_87 rfl ?_
        refine g_goto (pt := 93) d_113_88 (by decide) ?_
        obtain ⟨w45, hk46, hC47, h⟩ := h
        refine gz_callV (pc' := 96) d_113_93 rfl st_113_134 na_60 ml_60 rfl rfl rfl rm_113_60 rfl rfl ow_60 (ko_12 hC28) hk46 ?_
        refine gz_iinc (pc' := 99) (l' := [some (.ref 0), some (.int (jI z1)), some (.int (jI z2)), some (.long (jL r29)), none, some (.int (jI (z5 + 1))), some (.int (jI y15)), some (.long (jL (y24 + 1))), none, some (.int (jI 1))]) d_113_96 rfl rfl ml_113 rfl rfl ?_
        refine g_goto (pt := 6) d_113_99 (by decide) ?_
        exact xGo.more (xle_s (xle_s (xle_s (xle_s (xle_n (xle_s (xle_n (xle_n (xle_n (xle_n xle_0)))))))))) h
theorem Z_114_0 {z0 : Int} {w : xW} {r : Option Value × xW} (hC : CS w) (h : ∃ y1, jL ((z0 * 1103515245) + 12345) &&& jL 2147483647 = jL y1 ∧ r = (some (.long (jL y1)), w)) : xGo 114 0 [some (.long (jL z0)), none] [] w r := by
  refine g_lloadn (pc' := 1) d_114_0 rfl rfl ?_
  refine g_ldc2 (pc' := 4) d_114_1 rfl st_114_452 rfl ?_
  refine gz_lmul (pc' := 5) d_114_4 rfl ?_
  refine g_ldc2 (pc' := 8) d_114_5 rfl st_114_454 rfl ?_
  refine gz_ladd (pc' := 9) d_114_8 rfl ?_
  refine g_ldc2 (pc' := 12) d_114_9 rfl st_114_456 rfl ?_
  obtain ⟨y1, hz2, h⟩ := h
  refine gz_land (pc' := 13) d_114_12 rfl hz2 ?_
  exact g_lret d_114_13 rt_114 h
theorem Z_114 {z0 : Int} {w : xW} {r : Option Value × xW} (hC : CS w) (h : ∃ y1, jL ((z0 * 1103515245) + 12345) &&& jL 2147483647 = jL y1 ∧ r = (some (.long (jL y1)), w)) : xCall 114 [.long (jL z0)] w r := E_114 (Z_114_0 hC h)
theorem Z_115_0 {z1 : Int} {z2 : Int} {w : xW} {r : Option Value × xW} (hC : CS w) (h : in32 z1 ∧ (z1 < 1 → r = (some (.long (jL (-9223372036854775808))), w)) ∧ (1 ≤ z1 → ∃ (P5 : Prop) (dP6 : Decidable P5) (w2 : xW), xCall 99 [.ref 0, .int (jI z1)] w (some (.int (bz P5)), w2) ∧ CS w2 ∧ (¬ P5 → r = (some (.long (jL (-9223372036854775808))), w2)) ∧ (P5 → ∃ (P10 : Prop) (dP11 : Decidable P10) (w7 : xW), xCall 116 [.int (jI z2)] w2 (some (.int (bz P10)), w7) ∧ CS w7 ∧ (P10 → ∃ w12, xCall 36 [.ref 23, .int (jI z1), .int (jI z1)] w7 (none, w12) ∧ CS w12 ∧ ∃ w15, xCall 42 [.ref 3, .ref 36] w12 (none, w15) ∧ CS w15 ∧ ∃ r21 w18, xCall 117 [.ref 36, .int (jI z2)] w15 (some (.long (jL r21)), w18) ∧ CS w18 ∧ r = (some (.long (jL r21)), w18)) ∧ (¬ P10 → r = (some (.long (jL (-9223372036854775808))), w7))))) : xGo 115 0 [some (.ref 0), some (.int (jI z1)), some (.int (jI z2))] [] w r := by
  refine g_iloadn (pc' := 1) d_115_0 rfl rfl ?_
  refine g_iconst (pc' := 2) d_115_1 rfl rfl ?_
  obtain ⟨hc1, h⟩ := h
  refine gz_ic_lt (pc' := 5) (pt := 20) d_115_2 (by decide) rfl hc1 (s32 (z := 1)) (fun c => ?_) (fun c => ?_)
  · replace h := h.1 c
    refine g_ldc2 (pc' := 23) d_115_20 rfl st_115_166 rfl ?_
    exact g_lret d_115_23 rt_115 h
  · replace h := h.2 c
    refine g_aloadn (pc' := 6) d_115_5 rfl rfl ?_
    refine g_iloadn (pc' := 7) d_115_6 rfl rfl ?_
    obtain ⟨P5, dP6, w2, hk3, hC4, h⟩ := h
    refine gz_callV (pc' := 10) d_115_7 rfl st_115_163 na_99 ml_99 rfl rfl rfl rm_115_99 rfl rfl ow_99 (ko_0 hC) hk3 ?_
    refine gz_bt_eq (pc' := 13) (pt := 20) d_115_10 (by decide) rfl (fun c => ?_) (fun c => ?_)
    · replace h := h.1 c
      refine g_ldc2 (pc' := 23) d_115_20 rfl st_115_166 rfl ?_
      exact g_lret d_115_23 rt_115 h
    · replace h := h.2 c
      refine g_iloadn (pc' := 14) d_115_13 rfl rfl ?_
      obtain ⟨P10, dP11, w7, hk8, hC9, h⟩ := h
      refine g_callS (pc' := 17) d_115_14 rfl st_115_153 (Or.inl rfl) na_116 ml_116 rfl rfl rfl rm_115_116 rfl rfl hk8 ?_
      refine gz_bt_ne (pc' := 20) (pt := 24) d_115_17 (by decide) rfl (fun c => ?_) (fun c => ?_)
      · replace h := h.1 c
        refine g_aloadn (pc' := 25) d_115_24 rfl rfl ?_
        refine gz_getR (pc' := 28) d_115_25 rfl st_115_58 (kr_0_8 hC9) ?_
        refine g_iloadn (pc' := 29) d_115_28 rfl rfl ?_
        refine g_iloadn (pc' := 30) d_115_29 rfl rfl ?_
        obtain ⟨w12, hk13, hC14, h⟩ := h
        refine gz_callV (pc' := 33) d_115_30 rfl st_115_281 na_36 ml_36 rfl rfl rfl rm_115_36 rfl rfl ow_36 (ko_23 hC9) hk13 ?_
        refine g_aloadn (pc' := 34) d_115_33 rfl rfl ?_
        refine gz_getR (pc' := 37) d_115_34 rfl st_115_21 (kr_0_1 hC14) ?_
        refine g_aloadn (pc' := 38) d_115_37 rfl rfl ?_
        refine gz_getR (pc' := 41) d_115_38 rfl st_115_95 (kr_0_13 hC14) ?_
        obtain ⟨w15, hk16, hC17, h⟩ := h
        refine gz_callV (pc' := 44) d_115_41 rfl st_115_214 na_42 ml_42 rfl rfl rfl rm_115_42 rfl rfl ow_42 (ko_3 hC14) hk16 ?_
        refine g_aloadn (pc' := 45) d_115_44 rfl rfl ?_
        refine gz_getR (pc' := 48) d_115_45 rfl st_115_95 (kr_0_13 hC17) ?_
        refine g_iloadn (pc' := 49) d_115_48 rfl rfl ?_
        obtain ⟨r21, w18, hk19, hC20, h⟩ := h
        refine gz_callV (pc' := 52) d_115_49 rfl st_115_171 na_117 ml_117 rfl rfl rfl rm_115_117 rfl rfl ow_117 (ko_36 hC17) hk19 ?_
        exact g_lret d_115_52 rt_115 h
      · replace h := h.2 c
        refine g_ldc2 (pc' := 23) d_115_20 rfl st_115_166 rfl ?_
        exact g_lret d_115_23 rt_115 h
theorem Z_115 {z1 : Int} {z2 : Int} {w : xW} {r : Option Value × xW} (hC : CS w) (h : in32 z1 ∧ (z1 < 1 → r = (some (.long (jL (-9223372036854775808))), w)) ∧ (1 ≤ z1 → ∃ (P5 : Prop) (dP6 : Decidable P5) (w2 : xW), xCall 99 [.ref 0, .int (jI z1)] w (some (.int (bz P5)), w2) ∧ CS w2 ∧ (¬ P5 → r = (some (.long (jL (-9223372036854775808))), w2)) ∧ (P5 → ∃ (P10 : Prop) (dP11 : Decidable P10) (w7 : xW), xCall 116 [.int (jI z2)] w2 (some (.int (bz P10)), w7) ∧ CS w7 ∧ (P10 → ∃ w12, xCall 36 [.ref 23, .int (jI z1), .int (jI z1)] w7 (none, w12) ∧ CS w12 ∧ ∃ w15, xCall 42 [.ref 3, .ref 36] w12 (none, w15) ∧ CS w15 ∧ ∃ r21 w18, xCall 117 [.ref 36, .int (jI z2)] w15 (some (.long (jL r21)), w18) ∧ CS w18 ∧ r = (some (.long (jL r21)), w18)) ∧ (¬ P10 → r = (some (.long (jL (-9223372036854775808))), w7))))) : xCall 115 [.ref 0, .int (jI z1), .int (jI z2)] w r := E_115 (Z_115_0 hC h)
theorem Z_116_0 {z0 : Int} {w : xW} {r : Option Value × xW} (hC : CS w) (h : in32 z0 ∧ (z0 < 0 → r = (some (.int (jI 0)), w)) ∧ (0 ≤ z0 → (2 < z0 → r = (some (.int (jI 0)), w)) ∧ (z0 ≤ 2 → r = (some (.int (jI 1)), w)))) : xGo 116 0 [some (.int (jI z0))] [] w r := by
  refine g_iloadn (pc' := 1) d_116_0 rfl rfl ?_
  obtain ⟨hc1, h⟩ := h
  refine gz_if_lt (pc' := 4) (pt := 13) d_116_1 (by decide) rfl hc1 (fun c => ?_) (fun c => ?_)
  · replace h := h.1 c
    refine g_iconst (pc' := 14) d_116_13 rfl rfl ?_
    exact g_zret d_116_14 rt_116 (Or.inl rfl) h
  · replace h := h.2 c
    refine g_iloadn (pc' := 5) d_116_4 rfl rfl ?_
    refine g_iconst (pc' := 6) d_116_5 rfl rfl ?_
    refine gz_ic_gt (pc' := 9) (pt := 13) d_116_6 (by decide) rfl hc1 (s32 (z := 2)) (fun c => ?_) (fun c => ?_)
    · replace h := h.1 c
      refine g_iconst (pc' := 14) d_116_13 rfl rfl ?_
      exact g_zret d_116_14 rt_116 (Or.inl rfl) h
    · replace h := h.2 c
      refine g_iconst (pc' := 10) d_116_9 rfl rfl ?_
      refine g_goto (pt := 14) d_116_10 (by decide) ?_
      exact g_zret d_116_14 rt_116 (Or.inr rfl) h
theorem Z_116 {z0 : Int} {w : xW} {r : Option Value × xW} (hC : CS w) (h : in32 z0 ∧ (z0 < 0 → r = (some (.int (jI 0)), w)) ∧ (0 ≤ z0 → (2 < z0 → r = (some (.int (jI 0)), w)) ∧ (z0 ≤ 2 → r = (some (.int (jI 1)), w)))) : xCall 116 [.int (jI z0)] w r := E_116 (Z_116_0 hC h)
theorem Z_117_0 {q : Nat} {z1 : Int} {w : xW} {r : Option Value × xW} (hC : CS w) (h : in32 z1 ∧ (z1 ≠ 0 → (z1 ≠ 1 → ∃ x2, fJ w q 5 2 x2 ∧ r = (some (.long (jL x2)), w)) ∧ (z1 = 1 → ∃ x4, fJ w q 5 1 x4 ∧ r = (some (.long (jL x4)), w))) ∧ (z1 = 0 → ∃ x6, fJ w q 5 0 x6 ∧ r = (some (.long (jL x6)), w))) : xGo 117 0 [some (.ref q), some (.int (jI z1))] [] w r := by
  refine g_iloadn (pc' := 1) d_117_0 rfl rfl ?_
  obtain ⟨hc1, h⟩ := h
  refine gz_if_ne (pc' := 4) (pt := 9) d_117_1 (by decide) rfl hc1 (fun c => ?_) (fun c => ?_)
  · replace h := h.1 c
    refine g_iloadn (pc' := 10) d_117_9 rfl rfl ?_
    refine g_iconst (pc' := 11) d_117_10 rfl rfl ?_
    refine gz_ic_ne (pc' := 14) (pt := 21) d_117_11 (by decide) rfl hc1 (s32 (z := 1)) (fun c => ?_) (fun c => ?_)
    · replace h := h.1 c
      refine g_aloadn (pc' := 22) d_117_21 rfl rfl ?_
      obtain ⟨x2, hv3, h⟩ := h
      refine gz_getJ (pc' := 25) d_117_22 rfl st_117_7 hv3 ?_
      exact g_lret d_117_25 rt_117 h
    · replace h := h.2 c
      refine g_aloadn (pc' := 15) d_117_14 rfl rfl ?_
      obtain ⟨x4, hv5, h⟩ := h
      refine gz_getJ (pc' := 18) d_117_15 rfl st_117_28 hv5 ?_
      refine g_goto (pt := 25) d_117_18 (by decide) ?_
      exact g_lret d_117_25 rt_117 h
  · replace h := h.2 c
    refine g_aloadn (pc' := 5) d_117_4 rfl rfl ?_
    obtain ⟨x6, hv7, h⟩ := h
    refine gz_getJ (pc' := 8) d_117_5 rfl st_117_25 hv7 ?_
    exact g_lret d_117_8 rt_117 h
theorem Z_117 {q : Nat} {z1 : Int} {w : xW} {r : Option Value × xW} (hC : CS w) (h : in32 z1 ∧ (z1 ≠ 0 → (z1 ≠ 1 → ∃ x2, fJ w q 5 2 x2 ∧ r = (some (.long (jL x2)), w)) ∧ (z1 = 1 → ∃ x4, fJ w q 5 1 x4 ∧ r = (some (.long (jL x4)), w))) ∧ (z1 = 0 → ∃ x6, fJ w q 5 0 x6 ∧ r = (some (.long (jL x6)), w))) : xCall 117 [.ref q, .int (jI z1)] w r := E_117 (Z_117_0 hC h)
theorem Z_118_0 {z1 : Int} {z2 : Int} {z3 : Int} {w : xW} {r : Option Value × xW} (hC : CS w) (h : in32 z1 ∧ (z1 < 0 → r = (some (.long (jL (-9223372036854775808))), w)) ∧ (0 ≤ z1 → in32 z2 ∧ (z2 < 0 → r = (some (.long (jL (-9223372036854775808))), w)) ∧ (0 ≤ z2 → (38 < z1 → r = (some (.long (jL (-9223372036854775808))), w)) ∧ (z1 ≤ 38 → in32 (38 - z1) ∧ (38 - z1 < z2 → r = (some (.long (jL (-9223372036854775808))), w)) ∧ (z2 ≤ 38 - z1 → ∃ (P7 : Prop) (dP8 : Decidable P7) (w4 : xW), xCall 116 [.int (jI z3)] w (some (.int (bz P7)), w4) ∧ CS w4 ∧ (P7 → ∃ w9, xCall 12 [.ref 4, .int (jI (z1 + z2))] w4 (none, w9) ∧ CS w9 ∧ xGo 118 46 [some (.ref 0), some (.int (jI z1)), some (.int (jI z2)), some (.int (jI z3)), some (.int (jI 0))] [] w9 r) ∧ (¬ P7 → r = (some (.long (jL (-9223372036854775808))), w4))))))) : xGo 118 0 [some (.ref 0), some (.int (jI z1)), some (.int (jI z2)), some (.int (jI z3)), none] [] w r := by
  refine g_iloadn (pc' := 1) d_118_0 rfl rfl ?_
  obtain ⟨hc1, h⟩ := h
  refine gz_if_lt (pc' := 4) (pt := 29) d_118_1 (by decide) rfl hc1 (fun c => ?_) (fun c => ?_)
  · replace h := h.1 c
    refine g_ldc2 (pc' := 32) d_118_29 rfl st_118_166 rfl ?_
    exact g_lret d_118_32 rt_118 h
  · replace h := h.2 c
    refine g_iloadn (pc' := 5) d_118_4 rfl rfl ?_
    obtain ⟨hc2, h⟩ := h
    refine gz_if_lt (pc' := 8) (pt := 29) d_118_5 (by decide) rfl hc2 (fun c => ?_) (fun c => ?_)
    · replace h := h.1 c
      refine g_ldc2 (pc' := 32) d_118_29 rfl st_118_166 rfl ?_
      exact g_lret d_118_32 rt_118 h
    · replace h := h.2 c
      refine g_iloadn (pc' := 9) d_118_8 rfl rfl ?_
      refine g_bipush (pc' := 11) (v := jI 38) d_118_9 rfl (by decide) ?_
      refine gz_ic_gt (pc' := 14) (pt := 29) d_118_11 (by decide) rfl hc1 (s32 (z := 38)) (fun c => ?_) (fun c => ?_)
      · replace h := h.1 c
        refine g_ldc2 (pc' := 32) d_118_29 rfl st_118_166 rfl ?_
        exact g_lret d_118_32 rt_118 h
      · replace h := h.2 c
        refine g_iloadn (pc' := 15) d_118_14 rfl rfl ?_
        refine g_bipush (pc' := 17) (v := jI 38) d_118_15 rfl (by decide) ?_
        refine g_iloadn (pc' := 18) d_118_17 rfl rfl ?_
        refine gz_isub (pc' := 19) d_118_18 rfl ?_
        obtain ⟨hc3, h⟩ := h
        refine gz_ic_gt (pc' := 22) (pt := 29) d_118_19 (by decide) rfl hc2 hc3 (fun c => ?_) (fun c => ?_)
        · replace h := h.1 c
          refine g_ldc2 (pc' := 32) d_118_29 rfl st_118_166 rfl ?_
          exact g_lret d_118_32 rt_118 h
        · replace h := h.2 c
          refine g_iloadn (pc' := 23) d_118_22 rfl rfl ?_
          obtain ⟨P7, dP8, w4, hk5, hC6, h⟩ := h
          refine g_callS (pc' := 26) d_118_23 rfl st_118_153 (Or.inl rfl) na_116 ml_116 rfl rfl rfl rm_118_116 rfl rfl hk5 ?_
          refine gz_bt_ne (pc' := 29) (pt := 33) d_118_26 (by decide) rfl (fun c => ?_) (fun c => ?_)
          · replace h := h.1 c
            refine g_aloadn (pc' := 34) d_118_33 rfl rfl ?_
            refine gz_getR (pc' := 37) d_118_34 rfl st_118_28 (kr_0_2 hC6) ?_
            refine g_iloadn (pc' := 38) d_118_37 rfl rfl ?_
            refine g_iloadn (pc' := 39) d_118_38 rfl rfl ?_
            refine gz_iadd (pc' := 40) d_118_39 rfl ?_
            obtain ⟨w9, hk10, hC11, h⟩ := h
            refine gz_callV (pc' := 43) d_118_40 rfl st_118_106 na_12 ml_12 rfl rfl rfl rm_118_12 rfl rfl ow_12 (ko_4 hC6) hk10 ?_
            refine g_iconst (pc' := 44) d_118_43 rfl rfl ?_
            refine g_istore (pc' := 46) (l' := [some (.ref 0), some (.int (jI z1)), some (.int (jI z2)), some (.int (jI z3)), some (.int (jI 0))]) d_118_44 rfl ml_118 rfl rfl ?_
            exact h
          · replace h := h.2 c
            refine g_ldc2 (pc' := 32) d_118_29 rfl st_118_166 rfl ?_
            exact g_lret d_118_32 rt_118 h
theorem Z_118 {z1 : Int} {z2 : Int} {z3 : Int} {w : xW} {r : Option Value × xW} (hC : CS w) (h : in32 z1 ∧ (z1 < 0 → r = (some (.long (jL (-9223372036854775808))), w)) ∧ (0 ≤ z1 → in32 z2 ∧ (z2 < 0 → r = (some (.long (jL (-9223372036854775808))), w)) ∧ (0 ≤ z2 → (38 < z1 → r = (some (.long (jL (-9223372036854775808))), w)) ∧ (z1 ≤ 38 → in32 (38 - z1) ∧ (38 - z1 < z2 → r = (some (.long (jL (-9223372036854775808))), w)) ∧ (z2 ≤ 38 - z1 → ∃ (P7 : Prop) (dP8 : Decidable P7) (w4 : xW), xCall 116 [.int (jI z3)] w (some (.int (bz P7)), w4) ∧ CS w4 ∧ (P7 → ∃ w9, xCall 12 [.ref 4, .int (jI (z1 + z2))] w4 (none, w9) ∧ CS w9 ∧ xGo 118 46 [some (.ref 0), some (.int (jI z1)), some (.int (jI z2)), some (.int (jI z3)), some (.int (jI 0))] [] w9 r) ∧ (¬ P7 → r = (some (.long (jL (-9223372036854775808))), w4))))))) : xCall 118 [.ref 0, .int (jI z1), .int (jI z2), .int (jI z3)] w r := E_118 (Z_118_0 hC h)
theorem Z_118_46 {z1 : Int} {z2 : Int} {z3 : Int} {z4 : Int} {w : xW} {r : Option Value × xW} (hC : CS w) (h : in32 z4 ∧ in32 z1 ∧ (z1 ≤ z4 → ∃ w3, xCall 15 [.ref 4, .int (jI z2), .ref 36] w (none, w3) ∧ CS w3 ∧ ∃ r9 w6, xCall 117 [.ref 36, .int (jI z3)] w3 (some (.long (jL r9)), w6) ∧ CS w6 ∧ r = (some (.long (jL r9)), w6)) ∧ (z4 < z1 → ∃ w10, xCall 22 [.ref 4] w (none, w10) ∧ CS w10 ∧ xGo 118 46 [some (.ref 0), some (.int (jI z1)), some (.int (jI z2)), some (.int (jI z3)), some (.int (jI (z4 + 1)))] [] w10 r)) : xGo 118 46 [some (.ref 0), some (.int (jI z1)), some (.int (jI z2)), some (.int (jI z3)), some (.int (jI z4))] [] w r := by
  refine g_iload (pc' := 48) d_118_46 rfl rfl ?_
  refine g_iloadn (pc' := 49) d_118_48 rfl rfl ?_
  obtain ⟨hc1, h⟩ := h
  obtain ⟨hc2, h⟩ := h
  refine gz_ic_ge (pc' := 52) (pt := 65) d_118_49 (by decide) rfl hc1 hc2 (fun c => ?_) (fun c => ?_)
  · replace h := h.1 c
    refine g_aloadn (pc' := 66) d_118_65 rfl rfl ?_
    refine gz_getR (pc' := 69) d_118_66 rfl st_118_28 (kr_0_2 hC) ?_
    refine g_iloadn (pc' := 70) d_118_69 rfl rfl ?_
    refine g_aloadn (pc' := 71) d_118_70 rfl rfl ?_
    refine gz_getR (pc' := 74) d_118_71 rfl st_118_95 (kr_0_13 hC) ?_
    obtain ⟨w3, hk4, hC5, h⟩ := h
    refine gz_callV (pc' := 77) d_118_74 rfl st_118_284 na_15 ml_15 rfl rfl rfl rm_118_15 rfl rfl ow_15 (ko_4 hC) hk4 ?_
    refine g_aloadn (pc' := 78) d_118_77 rfl rfl ?_
    refine gz_getR (pc' := 81) d_118_78 rfl st_118_95 (kr_0_13 hC5) ?_
    refine g_iloadn (pc' := 82) d_118_81 rfl rfl ?_
    obtain ⟨r9, w6, hk7, hC8, h⟩ := h
    refine gz_callV (pc' := 85) d_118_82 rfl st_118_171 na_117 ml_117 rfl rfl rfl rm_118_117 rfl rfl ow_117 (ko_36 hC5) hk7 ?_
    exact g_lret d_118_85 rt_118 h
  · replace h := h.2 c
    refine g_aloadn (pc' := 53) d_118_52 rfl rfl ?_
    refine gz_getR (pc' := 56) d_118_53 rfl st_118_28 (kr_0_2 hC) ?_
    obtain ⟨w10, hk11, hC12, h⟩ := h
    refine gz_callV (pc' := 59) d_118_56 rfl st_118_117 na_22 ml_22 rfl rfl rfl rm_118_22 rfl rfl ow_22 (ko_4 hC) hk11 ?_
    refine gz_iinc (pc' := 62) (l' := [some (.ref 0), some (.int (jI z1)), some (.int (jI z2)), some (.int (jI z3)), some (.int (jI (z4 + 1)))]) d_118_59 rfl rfl ml_118 rfl rfl ?_
    refine g_goto (pt := 46) d_118_62 (by decide) ?_
    exact h
theorem Z_119_0 {z1 : Int} {w : xW} {r : Option Value × xW} (hC : CS w) (h : in32 z1 ∧ (1 ≤ z1 → xGo 119 9 [some (.ref 0), some (.int (jI z1)), some (.int (jI 2))] [] w r) ∧ (z1 < 1 → r = (some (.int (jI (-1))), w))) : xGo 119 0 [some (.ref 0), some (.int (jI z1)), none] [] w r := by
  refine g_iloadn (pc' := 1) d_119_0 rfl rfl ?_
  refine g_iconst (pc' := 2) d_119_1 rfl rfl ?_
  obtain ⟨hc1, h⟩ := h
  refine gz_ic_ge (pc' := 5) (pt := 7) d_119_2 (by decide) rfl hc1 (s32 (z := 1)) (fun c => ?_) (fun c => ?_)
  · replace h := h.1 c
    refine g_iconst (pc' := 8) d_119_7 rfl rfl ?_
    refine g_istoren (pc' := 9) (l' := [some (.ref 0), some (.int (jI z1)), some (.int (jI 2))]) d_119_8 rfl ml_119 rfl rfl ?_
    exact h
  · replace h := h.2 c
    refine g_iconst (pc' := 6) d_119_5 rfl rfl ?_
    exact g_iret d_119_6 rt_119 h
theorem Z_119 {z1 : Int} {w : xW} {r : Option Value × xW} (hC : CS w) (h : in32 z1 ∧ (1 ≤ z1 → xGo 119 9 [some (.ref 0), some (.int (jI z1)), some (.int (jI 2))] [] w r) ∧ (z1 < 1 → r = (some (.int (jI (-1))), w))) : xCall 119 [.ref 0, .int (jI z1)] w r := E_119 (Z_119_0 hC h)
theorem Z_119_9 {z1 : Int} {z2 : Int} {w : xW} {r : Option Value × xW} (hC : CS w) (h : in32 z2 ∧ (38 < z2 → r = (some (.int (jI (-2))), w)) ∧ (z2 ≤ 38 → ∃ r5 w2, xCall 31 [.ref 7, .int (jI z2)] w (some (.long (jL r5)), w2) ∧ CS w2 ∧ in32 z1 ∧ in64 r5 ∧ (r5 ≠ z1 → xGo 119 9 [some (.ref 0), some (.int (jI z1)), some (.int (jI (z2 + 2)))] [] w2 r) ∧ (r5 = z1 → r = (some (.int (jI z2)), w2)))) : xGo 119 9 [some (.ref 0), some (.int (jI z1)), some (.int (jI z2))] [] w r := by
  refine g_iloadn (pc' := 10) d_119_9 rfl rfl ?_
  refine g_bipush (pc' := 12) (v := jI 38) d_119_10 rfl (by decide) ?_
  obtain ⟨hc1, h⟩ := h
  refine gz_ic_gt (pc' := 15) (pt := 37) d_119_12 (by decide) rfl hc1 (s32 (z := 38)) (fun c => ?_) (fun c => ?_)
  · replace h := h.1 c
    refine g_bipush (pc' := 39) (v := jI (-2)) d_119_37 rfl (by decide) ?_
    exact g_iret d_119_39 rt_119 h
  · replace h := h.2 c
    refine g_aloadn (pc' := 16) d_119_15 rfl rfl ?_
    refine gz_getR (pc' := 19) d_119_16 rfl st_119_35 (kr_0_3 hC) ?_
    refine g_iloadn (pc' := 20) d_119_19 rfl rfl ?_
    obtain ⟨r5, w2, hk3, hC4, h⟩ := h
    refine gz_callV (pc' := 23) d_119_20 rfl st_119_204 na_31 ml_31 rfl rfl rfl rm_119_31 rfl rfl ow_31 (ko_7 hC) hk3 ?_
    refine g_iloadn (pc' := 24) d_119_23 rfl rfl ?_
    obtain ⟨hc6, h⟩ := h
    refine gz_i2l (pc' := 25) d_119_24 rfl hc6 ?_
    obtain ⟨hc7, h⟩ := h
    refine gz_lc_ne (pc' := 29) (pm := 26) (pt := 31) d_119_25 rfl d_119_26 (by decide) rfl hc7 (in3264 hc6) (fun c => ?_) (fun c => ?_)
    · replace h := h.1 c
      refine gz_iinc (pc' := 34) (l' := [some (.ref 0), some (.int (jI z1)), some (.int (jI (z2 + 2)))]) d_119_31 rfl rfl ml_119 rfl rfl ?_
      refine g_goto (pt := 9) d_119_34 (by decide) ?_
      exact h
    · replace h := h.2 c
      refine g_iloadn (pc' := 30) d_119_29 rfl rfl ?_
      exact g_iret d_119_30 rt_119 h
theorem Z_120_0 {z1 : Int} {w : xW} {r : Option Value × xW} (hC : CS w) (h : ∃ (P4 : Prop) (dP5 : Decidable P4) (w1 : xW), xCall 84 [.int (jI z1)] w (some (.int (bz P4)), w1) ∧ CS w1 ∧ (P4 → ∃ w6, xCall 121 [.ref 31, .int (jI z1)] w1 (none, w6) ∧ CS w6 ∧ ∃ r12 w9, xCall 128 [.ref 31, .int (jI z1)] w6 (some (.int (jI r12)), w9) ∧ CS w9 ∧ r = (some (.int (jI r12)), w9)) ∧ (¬ P4 → r = (some (.int (jI (-1))), w1))) : xGo 120 0 [some (.ref 0), some (.int (jI z1))] [] w r := by
  refine g_iloadn (pc' := 1) d_120_0 rfl rfl ?_
  obtain ⟨P4, dP5, w1, hk2, hC3, h⟩ := h
  refine g_callS (pc' := 4) d_120_1 rfl st_120_222 (Or.inl rfl) na_84 ml_84 rfl rfl rfl rm_120_84 rfl rfl hk2 ?_
  refine gz_bt_ne (pc' := 7) (pt := 9) d_120_4 (by decide) rfl (fun c => ?_) (fun c => ?_)
  · replace h := h.1 c
    refine g_aloadn (pc' := 10) d_120_9 rfl rfl ?_
    refine gz_getR (pc' := 13) d_120_10 rfl st_120_81 (kr_0_11 hC3) ?_
    refine g_iloadn (pc' := 14) d_120_13 rfl rfl ?_
    obtain ⟨w6, hk7, hC8, h⟩ := h
    refine gz_callV (pc' := 17) d_120_14 rfl st_120_287 na_121 ml_121 rfl rfl rfl rm_120_121 rfl rfl ow_121 (ko_31 hC3) hk7 ?_
    refine g_aloadn (pc' := 18) d_120_17 rfl rfl ?_
    refine gz_getR (pc' := 21) d_120_18 rfl st_120_81 (kr_0_11 hC8) ?_
    refine g_iloadn (pc' := 22) d_120_21 rfl rfl ?_
    obtain ⟨r12, w9, hk10, hC11, h⟩ := h
    refine gz_callV (pc' := 25) d_120_22 rfl st_120_290 na_128 ml_128 rfl rfl rfl rm_120_128 rfl rfl ow_128 (ko_31 hC8) hk10 ?_
    exact g_iret d_120_25 rt_120 h
  · replace h := h.2 c
    refine g_iconst (pc' := 8) d_120_7 rfl rfl ?_
    exact g_iret d_120_8 rt_120 h
theorem Z_120 {z1 : Int} {w : xW} {r : Option Value × xW} (hC : CS w) (h : ∃ (P4 : Prop) (dP5 : Decidable P4) (w1 : xW), xCall 84 [.int (jI z1)] w (some (.int (bz P4)), w1) ∧ CS w1 ∧ (P4 → ∃ w6, xCall 121 [.ref 31, .int (jI z1)] w1 (none, w6) ∧ CS w6 ∧ ∃ r12 w9, xCall 128 [.ref 31, .int (jI z1)] w6 (some (.int (jI r12)), w9) ∧ CS w9 ∧ r = (some (.int (jI r12)), w9)) ∧ (¬ P4 → r = (some (.int (jI (-1))), w1))) : xCall 120 [.ref 0, .int (jI z1)] w r := E_120 (Z_120_0 hC h)
theorem Z_121_0 {z1 : Int} {w : xW} {r : Option Value × xW} (hC : CS w) (h : ∃ x1, fI w 31 9 4 x1 ∧ in32 x1 ∧ (x1 ≤ 0 → r = (none, w)) ∧ (0 < x1 → (46 ≤ x1 → r = (none, w)) ∧ (x1 < 46 → (0 ≤ x1 ∧ x1 < 46) ∧ in32 z1 ∧ (z1 < prZ (x1).toNat → r = (none, w)) ∧ (prZ (x1).toNat ≤ z1 → ∃ w6, xCall 122 [.ref 31, .int (jI (prZ (x1).toNat))] w (none, w6) ∧ CS w6 ∧ ∃ x9, fI w6 31 9 4 x9 ∧ ∀ w12, w12 = pF w6 31 4 (.int (jI (x9 + 1))) → CS w12 → xGo 121 0 [some (.ref 31), some (.int (jI z1))] [] w12 r)))) : xGo 121 0 [some (.ref 31), some (.int (jI z1))] [] w r := by
  refine g_aloadn (pc' := 1) d_121_0 rfl rfl ?_
  obtain ⟨x1, hv2, h⟩ := h
  refine gz_getI (pc' := 4) d_121_1 rfl st_121_18 hv2 ?_
  obtain ⟨hc3, h⟩ := h
  refine gz_if_le (pc' := 7) (pt := 55) d_121_4 (by decide) rfl hc3 (fun c => ?_) (fun c => ?_)
  · replace h := h.1 c
    exact g_vret d_121_55 rt_121 h
  · replace h := h.2 c
    refine g_aloadn (pc' := 8) d_121_7 rfl rfl ?_
    refine gz_getI (pc' := 11) d_121_8 rfl st_121_18 hv2 ?_
    refine g_gets (pc' := 14) d_121_11 rfl st_121_29 (Or.inr rfl) ?_
    refine g_lenp (pc' := 15) d_121_14 rfl hC.noP ?_
    refine gz_ic_ge (pc' := 18) (pt := 55) d_121_15 (by decide) rfl hc3 (s32 (z := 46)) (fun c => ?_) (fun c => ?_)
    · replace h := h.1 c
      exact g_vret d_121_55 rt_121 h
    · replace h := h.2 c
      refine g_gets (pc' := 21) d_121_18 rfl st_121_29 (Or.inr rfl) ?_
      refine g_aloadn (pc' := 22) d_121_21 rfl rfl ?_
      refine gz_getI (pc' := 25) d_121_22 rfl st_121_18 hv2 ?_
      obtain ⟨hc4, h⟩ := h
      refine gz_pald (pc' := 26) d_121_25 rfl hC.noP hc4 ?_
      refine g_iloadn (pc' := 27) d_121_26 rfl rfl ?_
      obtain ⟨hc5, h⟩ := h
      refine gz_ic_gt (pc' := 30) (pt := 55) d_121_27 (by decide) rfl (prZ_in _) hc5 (fun c => ?_) (fun c => ?_)
      · replace h := h.1 c
        exact g_vret d_121_55 rt_121 h
      · replace h := h.2 c
        refine g_aloadn (pc' := 31) d_121_30 rfl rfl ?_
        refine g_gets (pc' := 34) d_121_31 rfl st_121_29 (Or.inr rfl) ?_
        refine g_aloadn (pc' := 35) d_121_34 rfl rfl ?_
        refine gz_getI (pc' := 38) d_121_35 rfl st_121_18 hv2 ?_
        refine gz_pald (pc' := 39) d_121_38 rfl hC.noP hc4 ?_
        obtain ⟨w6, hk7, hC8, h⟩ := h
        refine gz_callV (pc' := 42) d_121_39 rfl st_121_32 na_122 ml_122 rfl rfl rfl rm_121_122 rfl rfl ow_122 (ko_31 hC) hk7 ?_
        refine g_aloadn (pc' := 43) d_121_42 rfl rfl ?_
        refine g_dup (pc' := 44) d_121_43 rfl rfl ?_
        obtain ⟨x9, hv10, h⟩ := h
        refine gz_getI (pc' := 47) d_121_44 rfl st_121_18 hv10 ?_
        refine g_iconst (pc' := 48) d_121_47 rfl rfl ?_
        refine gz_iadd (pc' := 49) d_121_48 rfl ?_
        have hpf11 := (kf_31_4 hC8)
        have hC13 : CS (pF w6 31 4 (.int (jI (x9 + 1)))) := ks_31_4 hC8
        have h := h _ rfl hC13
        refine gz_putf (pc' := 52) d_121_49 rfl st_121_18 ft_9_4 ff_9_4 rfl (Or.inl rfl) hpf11 ?_
        refine g_goto (pt := 0) d_121_52 (by decide) ?_
        exact h
theorem Z_121 {z1 : Int} {w : xW} {r : Option Value × xW} (hC : CS w) (h : ∃ x1, fI w 31 9 4 x1 ∧ in32 x1 ∧ (x1 ≤ 0 → r = (none, w)) ∧ (0 < x1 → (46 ≤ x1 → r = (none, w)) ∧ (x1 < 46 → (0 ≤ x1 ∧ x1 < 46) ∧ in32 z1 ∧ (z1 < prZ (x1).toNat → r = (none, w)) ∧ (prZ (x1).toNat ≤ z1 → ∃ w6, xCall 122 [.ref 31, .int (jI (prZ (x1).toNat))] w (none, w6) ∧ CS w6 ∧ ∃ x9, fI w6 31 9 4 x9 ∧ ∀ w12, w12 = pF w6 31 4 (.int (jI (x9 + 1))) → CS w12 → xGo 121 0 [some (.ref 31), some (.int (jI z1))] [] w12 r)))) : xCall 121 [.ref 31, .int (jI z1)] w r := E_121 (Z_121_0 hC h)
theorem Z_122_0 {z1 : Int} {w : xW} {r : Option Value × xW} (hC : CS w) (h : ∃ w1, xCall 123 [.ref 28, .int (jI z1), .int (jI 2)] w (none, w1) ∧ CS w1 ∧ xGo 122 11 [some (.ref 31), some (.int (jI z1)), some (.int (jI 2))] [] w1 r) : xGo 122 0 [some (.ref 31), some (.int (jI z1)), none] [] w r := by
  refine g_aloadn (pc' := 1) d_122_0 rfl rfl ?_
  refine gz_getR (pc' := 4) d_122_1 rfl st_122_22 (kr_31_0 hC) ?_
  refine g_iloadn (pc' := 5) d_122_4 rfl rfl ?_
  refine g_iconst (pc' := 6) d_122_5 rfl rfl ?_
  obtain ⟨w1, hk2, hC3, h⟩ := h
  refine gz_callV (pc' := 9) d_122_6 rfl st_122_36 na_123 ml_123 rfl rfl rfl rm_122_123 rfl rfl ow_123 (ko_28 hC) hk2 ?_
  refine g_iconst (pc' := 10) d_122_9 rfl rfl ?_
  refine g_istoren (pc' := 11) (l' := [some (.ref 31), some (.int (jI z1)), some (.int (jI 2))]) d_122_10 rfl ml_122 rfl rfl ?_
  exact h
theorem Z_122 {z1 : Int} {w : xW} {r : Option Value × xW} (hC : CS w) (h : ∃ w1, xCall 123 [.ref 28, .int (jI z1), .int (jI 2)] w (none, w1) ∧ CS w1 ∧ xGo 122 11 [some (.ref 31), some (.int (jI z1)), some (.int (jI 2))] [] w1 r) : xCall 122 [.ref 31, .int (jI z1)] w r := E_122 (Z_122_0 hC h)
theorem Z_122_11 {z1 : Int} {z2 : Int} {w : xW} {r : Option Value × xW} (hC : CS w) (h : in32 z2 ∧ in32 (z1 - 3) ∧ (z1 - 3 < z2 → r = (none, w)) ∧ (z2 ≤ z1 - 3 → ∃ x3, fI w 31 9 3 x3 ∧ in32 x3 ∧ (100 ≤ x3 → r = (none, w)) ∧ (x3 < 100 → ∃ r9 w6, xCall 127 [.ref 28, .int (jI z2)] w (some (.long (jL r9)), w6) ∧ CS w6 ∧ in64 r9 ∧ (r9 ≠ 0 → xGo 122 11 [some (.ref 31), some (.int (jI z1)), some (.int (jI (z2 + 2)))] [] w6 r) ∧ (r9 = 0 → ∃ x11, fI w6 31 9 3 x11 ∧ (0 ≤ x11 ∧ x11 < 100) ∧ ∀ w15, w15 = pI w6 32 (x11).toNat (jI z1) → CS w15 → ∃ x17, fI w15 31 9 3 x17 ∧ (0 ≤ x17 ∧ x17 < 100) ∧ ∀ w21, w21 = pI w15 33 (x17).toNat (jI z2) → CS w21 → ∃ x23, fI w21 31 9 3 x23 ∧ ∀ w26, w26 = pF w21 31 3 (.int (jI (x23 + 1))) → CS w26 → xGo 122 11 [some (.ref 31), some (.int (jI z1)), some (.int (jI (z2 + 2)))] [] w26 r)))) : xGo 122 11 [some (.ref 31), some (.int (jI z1)), some (.int (jI z2))] [] w r := by
  refine g_iloadn (pc' := 12) d_122_11 rfl rfl ?_
  refine g_iloadn (pc' := 13) d_122_12 rfl rfl ?_
  refine g_iconst (pc' := 14) d_122_13 rfl rfl ?_
  refine gz_isub (pc' := 15) d_122_14 rfl ?_
  obtain ⟨hc1, h⟩ := h
  obtain ⟨hc2, h⟩ := h
  refine gz_ic_gt (pc' := 18) (pt := 76) d_122_15 (by decide) rfl hc1 hc2 (fun c => ?_) (fun c => ?_)
  · replace h := h.1 c
    exact g_vret d_122_76 rt_122 h
  · replace h := h.2 c
    refine g_aloadn (pc' := 19) d_122_18 rfl rfl ?_
    obtain ⟨x3, hv4, h⟩ := h
    refine gz_getI (pc' := 22) d_122_19 rfl st_122_26 hv4 ?_
    refine g_bipush (pc' := 24) (v := jI 100) d_122_22 rfl (by decide) ?_
    obtain ⟨hc5, h⟩ := h
    refine gz_ic_ge (pc' := 27) (pt := 76) d_122_24 (by decide) rfl hc5 (s32 (z := 100)) (fun c => ?_) (fun c => ?_)
    · replace h := h.1 c
      exact g_vret d_122_76 rt_122 h
    · replace h := h.2 c
      refine g_aloadn (pc' := 28) d_122_27 rfl rfl ?_
      refine gz_getR (pc' := 31) d_122_28 rfl st_122_22 (kr_31_0 hC) ?_
      refine g_iloadn (pc' := 32) d_122_31 rfl rfl ?_
      obtain ⟨r9, w6, hk7, hC8, h⟩ := h
      refine gz_callV (pc' := 35) d_122_32 rfl st_122_42 na_127 ml_127 rfl rfl rfl rm_122_127 rfl rfl ow_127 (ko_28 hC) hk7 ?_
      refine g_lconst (pc' := 36) (v := jL 0) d_122_35 rfl cl_0 ?_
      obtain ⟨hc10, h⟩ := h
      refine gz_lc_ne (pc' := 40) (pm := 37) (pt := 70) d_122_36 rfl d_122_37 (by decide) rfl hc10 (s64 (z := 0)) (fun c => ?_) (fun c => ?_)
      · replace h := h.1 c
        refine gz_iinc (pc' := 73) (l' := [some (.ref 31), some (.int (jI z1)), some (.int (jI (z2 + 2)))]) d_122_70 rfl rfl ml_122 rfl rfl ?_
        refine g_goto (pt := 11) d_122_73 (by decide) ?_
        exact h
      · replace h := h.2 c
        refine g_aloadn (pc' := 41) d_122_40 rfl rfl ?_
        refine gz_getR (pc' := 44) d_122_41 rfl st_122_11 (kr_31_1 hC8) ?_
        refine g_aloadn (pc' := 45) d_122_44 rfl rfl ?_
        obtain ⟨x11, hv12, h⟩ := h
        refine gz_getI (pc' := 48) d_122_45 rfl st_122_26 hv12 ?_
        refine g_iloadn (pc' := 49) d_122_48 rfl rfl ?_
        obtain ⟨hc13, h⟩ := h
        have hs14 := (kh_32 hC8 hc13)
        have hC16 : CS (pI w6 32 (x11).toNat (jI z1)) := hC8.putI
        have h := h _ rfl hC16
        refine gz_iast (pc' := 50) d_122_49 rfl hs14 ?_
        refine g_aloadn (pc' := 51) d_122_50 rfl rfl ?_
        refine gz_getR (pc' := 54) d_122_51 rfl st_122_15 (kr_31_2 hC16) ?_
        refine g_aloadn (pc' := 55) d_122_54 rfl rfl ?_
        obtain ⟨x17, hv18, h⟩ := h
        refine gz_getI (pc' := 58) d_122_55 rfl st_122_26 hv18 ?_
        refine g_iloadn (pc' := 59) d_122_58 rfl rfl ?_
        obtain ⟨hc19, h⟩ := h
        have hs20 := (kh_33 hC16 hc19)
        have hC22 : CS (pI (pI w6 32 (x11).toNat (jI z1)) 33 (x17).toNat (jI z2)) := hC16.putI
        have h := h _ rfl hC22
        refine gz_iast (pc' := 60) d_122_59 rfl hs20 ?_
        refine g_aloadn (pc' := 61) d_122_60 rfl rfl ?_
        refine g_dup (pc' := 62) d_122_61 rfl rfl ?_
        obtain ⟨x23, hv24, h⟩ := h
        refine gz_getI (pc' := 65) d_122_62 rfl st_122_26 hv24 ?_
        refine g_iconst (pc' := 66) d_122_65 rfl rfl ?_
        refine gz_iadd (pc' := 67) d_122_66 rfl ?_
        have hpf25 := (kf_31_3 hC22)
        have hC27 : CS (pF (pI (pI w6 32 (x11).toNat (jI z1)) 33 (x17).toNat (jI z2)) 31 3 (.int (jI (x23 + 1)))) := ks_31_3 hC22
        have h := h _ rfl hC27
        refine gz_putf (pc' := 70) d_122_67 rfl st_122_26 ft_9_3 ff_9_3 rfl (Or.inl rfl) hpf25 ?_
        refine gz_iinc (pc' := 73) (l' := [some (.ref 31), some (.int (jI z1)), some (.int (jI (z2 + 2)))]) d_122_70 rfl rfl ml_122 rfl rfl ?_
        refine g_goto (pt := 11) d_122_73 (by decide) ?_
        exact h
theorem Z_123_0 {z1 : Int} {z2 : Int} {w : xW} {r : Option Value × xW} (hC : CS w) (h : in32 z1 ∧ (z1 < 3 → r = (none, w)) ∧ (3 ≤ z1 → (199 < z1 → r = (none, w)) ∧ (z1 ≤ 199 → ∃ x2, fI w 28 8 2 x2 ∧ in32 x2 ∧ (z1 ≠ x2 → ∀ w6, w6 = pF w 28 2 (.int (jI z1)) → CS w6 → ∀ w9, w9 = pF w6 28 3 (.int (jI z2)) → CS w9 → in32 z2 ∧ (z2 ≠ 0 → (z2 ≠ 1 → ∃ w12, xCall 126 [.ref 28, .int (jI z1)] w9 (none, w12) ∧ CS w12 ∧ r = (none, w12)) ∧ (z2 = 1 → ∃ w15, xCall 125 [.ref 28, .int (jI z1)] w9 (none, w15) ∧ CS w15 ∧ r = (none, w15))) ∧ (z2 = 0 → ∃ w18, xCall 124 [.ref 28, .int (jI z1)] w9 (none, w18) ∧ CS w18 ∧ r = (none, w18))) ∧ (z1 = x2 → ∃ x21, fI w 28 8 3 x21 ∧ in32 z2 ∧ in32 x21 ∧ (z2 ≠ x21 → ∀ w26, w26 = pF w 28 2 (.int (jI z1)) → CS w26 → ∀ w29, w29 = pF w26 28 3 (.int (jI z2)) → CS w29 → (z2 ≠ 0 → (z2 ≠ 1 → ∃ w31, xCall 126 [.ref 28, .int (jI z1)] w29 (none, w31) ∧ CS w31 ∧ r = (none, w31)) ∧ (z2 = 1 → ∃ w34, xCall 125 [.ref 28, .int (jI z1)] w29 (none, w34) ∧ CS w34 ∧ r = (none, w34))) ∧ (z2 = 0 → ∃ w37, xCall 124 [.ref 28, .int (jI z1)] w29 (none, w37) ∧ CS w37 ∧ r = (none, w37))) ∧ (z2 = x21 → r = (none, w)))))) : xGo 123 0 [some (.ref 28), some (.int (jI z1)), some (.int (jI z2))] [] w r := by
  refine g_iloadn (pc' := 1) d_123_0 rfl rfl ?_
  refine g_iconst (pc' := 2) d_123_1 rfl rfl ?_
  obtain ⟨hc1, h⟩ := h
  refine gz_ic_lt (pc' := 5) (pt := 28) d_123_2 (by decide) rfl hc1 (s32 (z := 3)) (fun c => ?_) (fun c => ?_)
  · replace h := h.1 c
    exact g_vret d_123_28 rt_123 h
  · replace h := h.2 c
    refine g_iloadn (pc' := 6) d_123_5 rfl rfl ?_
    refine g_sipush (pc' := 9) (v := jI 199) d_123_6 rfl (by decide) ?_
    refine gz_ic_gt (pc' := 12) (pt := 28) d_123_9 (by decide) rfl hc1 (s32 (z := 199)) (fun c => ?_) (fun c => ?_)
    · replace h := h.1 c
      exact g_vret d_123_28 rt_123 h
    · replace h := h.2 c
      refine g_iloadn (pc' := 13) d_123_12 rfl rfl ?_
      refine g_aloadn (pc' := 14) d_123_13 rfl rfl ?_
      obtain ⟨x2, hv3, h⟩ := h
      refine gz_getI (pc' := 17) d_123_14 rfl st_123_18 hv3 ?_
      obtain ⟨hc4, h⟩ := h
      refine gz_ic_ne (pc' := 20) (pt := 29) d_123_17 (by decide) rfl hc1 hc4 (fun c => ?_) (fun c => ?_)
      · replace h := h.1 c
        refine g_aloadn (pc' := 30) d_123_29 rfl rfl ?_
        refine g_iloadn (pc' := 31) d_123_30 rfl rfl ?_
        have hpf5 := (kf_28_2 hC)
        have hC7 : CS (pF w 28 2 (.int (jI z1))) := ks_28_2 hC
        have h := h _ rfl hC7
        refine gz_putf (pc' := 34) d_123_31 rfl st_123_18 ft_8_2 ff_8_2 rfl (Or.inl rfl) hpf5 ?_
        refine g_aloadn (pc' := 35) d_123_34 rfl rfl ?_
        refine g_iloadn (pc' := 36) d_123_35 rfl rfl ?_
        have hpf8 := (kf_28_3 hC7)
        have hC10 : CS (pF (pF w 28 2 (.int (jI z1))) 28 3 (.int (jI z2))) := ks_28_3 hC7
        have h := h _ rfl hC10
        refine gz_putf (pc' := 39) d_123_36 rfl st_123_22 ft_8_3 ff_8_3 rfl (Or.inl rfl) hpf8 ?_
        refine g_iloadn (pc' := 40) d_123_39 rfl rfl ?_
        obtain ⟨hc11, h⟩ := h
        refine gz_if_ne (pc' := 43) (pt := 51) d_123_40 (by decide) rfl hc11 (fun c => ?_) (fun c => ?_)
        · replace h := h.1 c
          refine g_iloadn (pc' := 52) d_123_51 rfl rfl ?_
          refine g_iconst (pc' := 53) d_123_52 rfl rfl ?_
          refine gz_ic_ne (pc' := 56) (pt := 64) d_123_53 (by decide) rfl hc11 (s32 (z := 1)) (fun c => ?_) (fun c => ?_)
          · replace h := h.1 c
            refine g_aloadn (pc' := 65) d_123_64 rfl rfl ?_
            refine g_iloadn (pc' := 66) d_123_65 rfl rfl ?_
            obtain ⟨w12, hk13, hC14, h⟩ := h
            refine gz_callV (pc' := 69) d_123_66 rfl st_123_32 na_126 ml_126 rfl rfl rfl rm_123_126 rfl rfl ow_126 (ko_28 hC10) hk13 ?_
            exact g_vret d_123_69 rt_123 h
          · replace h := h.2 c
            refine g_aloadn (pc' := 57) d_123_56 rfl rfl ?_
            refine g_iloadn (pc' := 58) d_123_57 rfl rfl ?_
            obtain ⟨w15, hk16, hC17, h⟩ := h
            refine gz_callV (pc' := 61) d_123_58 rfl st_123_29 na_125 ml_125 rfl rfl rfl rm_123_125 rfl rfl ow_125 (ko_28 hC10) hk16 ?_
            refine g_goto (pt := 69) d_123_61 (by decide) ?_
            exact g_vret d_123_69 rt_123 h
        · replace h := h.2 c
          refine g_aloadn (pc' := 44) d_123_43 rfl rfl ?_
          refine g_iloadn (pc' := 45) d_123_44 rfl rfl ?_
          obtain ⟨w18, hk19, hC20, h⟩ := h
          refine gz_callV (pc' := 48) d_123_45 rfl st_123_25 na_124 ml_124 rfl rfl rfl rm_123_124 rfl rfl ow_124 (ko_28 hC10) hk19 ?_
          refine g_goto (pt := 69) d_123_48 (by decide) ?_
          exact g_vret d_123_69 rt_123 h
      · replace h := h.2 c
        refine g_iloadn (pc' := 21) d_123_20 rfl rfl ?_
        refine g_aloadn (pc' := 22) d_123_21 rfl rfl ?_
        obtain ⟨x21, hv22, h⟩ := h
        refine gz_getI (pc' := 25) d_123_22 rfl st_123_22 hv22 ?_
        obtain ⟨hc23, h⟩ := h
        obtain ⟨hc24, h⟩ := h
        refine gz_ic_ne (pc' := 28) (pt := 29) d_123_25 (by decide) rfl hc23 hc24 (fun c => ?_) (fun c => ?_)
        · replace h := h.1 c
          refine g_aloadn (pc' := 30) d_123_29 rfl rfl ?_
          refine g_iloadn (pc' := 31) d_123_30 rfl rfl ?_
          have hpf25 := (kf_28_2 hC)
          have hC27 : CS (pF w 28 2 (.int (jI z1))) := ks_28_2 hC
          have h := h _ rfl hC27
          refine gz_putf (pc' := 34) d_123_31 rfl st_123_18 ft_8_2 ff_8_2 rfl (Or.inl rfl) hpf25 ?_
          refine g_aloadn (pc' := 35) d_123_34 rfl rfl ?_
          refine g_iloadn (pc' := 36) d_123_35 rfl rfl ?_
          have hpf28 := (kf_28_3 hC27)
          have hC30 : CS (pF (pF w 28 2 (.int (jI z1))) 28 3 (.int (jI z2))) := ks_28_3 hC27
          have h := h _ rfl hC30
          refine gz_putf (pc' := 39) d_123_36 rfl st_123_22 ft_8_3 ff_8_3 rfl (Or.inl rfl) hpf28 ?_
          refine g_iloadn (pc' := 40) d_123_39 rfl rfl ?_
          refine gz_if_ne (pc' := 43) (pt := 51) d_123_40 (by decide) rfl hc23 (fun c => ?_) (fun c => ?_)
          · replace h := h.1 c
            refine g_iloadn (pc' := 52) d_123_51 rfl rfl ?_
            refine g_iconst (pc' := 53) d_123_52 rfl rfl ?_
            refine gz_ic_ne (pc' := 56) (pt := 64) d_123_53 (by decide) rfl hc23 (s32 (z := 1)) (fun c => ?_) (fun c => ?_)
            · replace h := h.1 c
              refine g_aloadn (pc' := 65) d_123_64 rfl rfl ?_
              refine g_iloadn (pc' := 66) d_123_65 rfl rfl ?_
              obtain ⟨w31, hk32, hC33, h⟩ := h
              refine gz_callV (pc' := 69) d_123_66 rfl st_123_32 na_126 ml_126 rfl rfl rfl rm_123_126 rfl rfl ow_126 (ko_28 hC30) hk32 ?_
              exact g_vret d_123_69 rt_123 h
            · replace h := h.2 c
              refine g_aloadn (pc' := 57) d_123_56 rfl rfl ?_
              refine g_iloadn (pc' := 58) d_123_57 rfl rfl ?_
              obtain ⟨w34, hk35, hC36, h⟩ := h
              refine gz_callV (pc' := 61) d_123_58 rfl st_123_29 na_125 ml_125 rfl rfl rfl rm_123_125 rfl rfl ow_125 (ko_28 hC30) hk35 ?_
              refine g_goto (pt := 69) d_123_61 (by decide) ?_
              exact g_vret d_123_69 rt_123 h
          · replace h := h.2 c
            refine g_aloadn (pc' := 44) d_123_43 rfl rfl ?_
            refine g_iloadn (pc' := 45) d_123_44 rfl rfl ?_
            obtain ⟨w37, hk38, hC39, h⟩ := h
            refine gz_callV (pc' := 48) d_123_45 rfl st_123_25 na_124 ml_124 rfl rfl rfl rm_123_124 rfl rfl ow_124 (ko_28 hC30) hk38 ?_
            refine g_goto (pt := 69) d_123_48 (by decide) ?_
            exact g_vret d_123_69 rt_123 h
        · replace h := h.2 c
          exact g_vret d_123_28 rt_123 h
theorem Z_123 {z1 : Int} {z2 : Int} {w : xW} {r : Option Value × xW} (hC : CS w) (h : in32 z1 ∧ (z1 < 3 → r = (none, w)) ∧ (3 ≤ z1 → (199 < z1 → r = (none, w)) ∧ (z1 ≤ 199 → ∃ x2, fI w 28 8 2 x2 ∧ in32 x2 ∧ (z1 ≠ x2 → ∀ w6, w6 = pF w 28 2 (.int (jI z1)) → CS w6 → ∀ w9, w9 = pF w6 28 3 (.int (jI z2)) → CS w9 → in32 z2 ∧ (z2 ≠ 0 → (z2 ≠ 1 → ∃ w12, xCall 126 [.ref 28, .int (jI z1)] w9 (none, w12) ∧ CS w12 ∧ r = (none, w12)) ∧ (z2 = 1 → ∃ w15, xCall 125 [.ref 28, .int (jI z1)] w9 (none, w15) ∧ CS w15 ∧ r = (none, w15))) ∧ (z2 = 0 → ∃ w18, xCall 124 [.ref 28, .int (jI z1)] w9 (none, w18) ∧ CS w18 ∧ r = (none, w18))) ∧ (z1 = x2 → ∃ x21, fI w 28 8 3 x21 ∧ in32 z2 ∧ in32 x21 ∧ (z2 ≠ x21 → ∀ w26, w26 = pF w 28 2 (.int (jI z1)) → CS w26 → ∀ w29, w29 = pF w26 28 3 (.int (jI z2)) → CS w29 → (z2 ≠ 0 → (z2 ≠ 1 → ∃ w31, xCall 126 [.ref 28, .int (jI z1)] w29 (none, w31) ∧ CS w31 ∧ r = (none, w31)) ∧ (z2 = 1 → ∃ w34, xCall 125 [.ref 28, .int (jI z1)] w29 (none, w34) ∧ CS w34 ∧ r = (none, w34))) ∧ (z2 = 0 → ∃ w37, xCall 124 [.ref 28, .int (jI z1)] w29 (none, w37) ∧ CS w37 ∧ r = (none, w37))) ∧ (z2 = x21 → r = (none, w)))))) : xCall 123 [.ref 28, .int (jI z1), .int (jI z2)] w r := E_123 (Z_123_0 hC h)
theorem Z_124_0 {z1 : Int} {w : xW} {r : Option Value × xW} (hC : CS w) (h : ∃ w1, xCall 6 [.ref 30, .long (jL 0)] w (none, w1) ∧ CS w1 ∧ ∀ w5, w5 = pL w1 30 0 (jL 1) → CS w5 → ∀ w8, w8 = pL w5 30 1 (jL 1) → CS w8 → ∀ w11, w11 = pL w8 29 0 (jL 1) → CS w11 → xGo 124 31 [some (.ref 28), some (.int (jI z1)), some (.int (jI 1)), none, none, none] [] w11 r) : xGo 124 0 [some (.ref 28), some (.int (jI z1)), none, none, none, none] [] w r := by
  refine g_aloadn (pc' := 1) d_124_0 rfl rfl ?_
  refine gz_getR (pc' := 4) d_124_1 rfl st_124_15 (kr_28_1 hC) ?_
  refine g_lconst (pc' := 5) (v := jL 0) d_124_4 rfl cl_0 ?_
  obtain ⟨w1, hk2, hC3, h⟩ := h
  refine g_callS (pc' := 8) d_124_5 rfl st_124_35 (Or.inl rfl) na_6 ml_6 rfl rfl rfl rm_124_6 rfl rfl hk2 ?_
  refine g_aloadn (pc' := 9) d_124_8 rfl rfl ?_
  refine gz_getR (pc' := 12) d_124_9 rfl st_124_15 (kr_28_1 hC3) ?_
  refine g_iconst (pc' := 13) d_124_12 rfl rfl ?_
  refine g_lconst (pc' := 14) (v := jL 1) d_124_13 rfl cl_1 ?_
  have hs4 := (kh_30 (i := 0) hC3 ⟨by decide, by decide⟩)
  have hC6 : CS (pL w1 30 0 (jL 1)) := hC3.putL
  have h := h _ rfl hC6
  refine gz_last (pc' := 15) d_124_14 rfl hs4 ?_
  refine g_aloadn (pc' := 16) d_124_15 rfl rfl ?_
  refine gz_getR (pc' := 19) d_124_16 rfl st_124_15 (kr_28_1 hC6) ?_
  refine g_iconst (pc' := 20) d_124_19 rfl rfl ?_
  refine g_lconst (pc' := 21) (v := jL 1) d_124_20 rfl cl_1 ?_
  have hs7 := (kh_30 (i := 1) hC6 ⟨by decide, by decide⟩)
  have hC9 : CS (pL (pL w1 30 0 (jL 1)) 30 1 (jL 1)) := hC6.putL
  have h := h _ rfl hC9
  refine gz_last (pc' := 22) d_124_21 rfl hs7 ?_
  refine g_aloadn (pc' := 23) d_124_22 rfl rfl ?_
  refine gz_getR (pc' := 26) d_124_23 rfl st_124_9 (kr_28_0 hC9) ?_
  refine g_iconst (pc' := 27) d_124_26 rfl rfl ?_
  refine g_lconst (pc' := 28) (v := jL 1) d_124_27 rfl cl_1 ?_
  have hs10 := (kh_29 (i := 0) hC9 ⟨by decide, by decide⟩)
  have hC12 : CS (pL (pL (pL w1 30 0 (jL 1)) 30 1 (jL 1)) 29 0 (jL 1)) := hC9.putL
  have h := h _ rfl hC12
  refine gz_last (pc' := 29) d_124_28 rfl hs10 ?_
  refine g_iconst (pc' := 30) d_124_29 rfl rfl ?_
  refine g_istoren (pc' := 31) (l' := [some (.ref 28), some (.int (jI z1)), some (.int (jI 1)), none, none, none]) d_124_30 rfl ml_124 rfl rfl ?_
  exact h
theorem Z_124 {z1 : Int} {w : xW} {r : Option Value × xW} (hC : CS w) (h : ∃ w1, xCall 6 [.ref 30, .long (jL 0)] w (none, w1) ∧ CS w1 ∧ ∀ w5, w5 = pL w1 30 0 (jL 1) → CS w5 → ∀ w8, w8 = pL w5 30 1 (jL 1) → CS w8 → ∀ w11, w11 = pL w8 29 0 (jL 1) → CS w11 → xGo 124 31 [some (.ref 28), some (.int (jI z1)), some (.int (jI 1)), none, none, none] [] w11 r) : xCall 124 [.ref 28, .int (jI z1)] w r := E_124 (Z_124_0 hC h)
theorem Z_124_31 {z1 : Int} {z2 : Int} {w : xW} {r : Option Value × xW} (hC : CS w) (h : in32 z2 ∧ in32 (z1 - 2) ∧ (z1 - 2 < z2 → r = (none, w)) ∧ (z2 ≤ z1 - 2 → in32 (z2 + 1) ∧ (200 ≤ z2 + 1 → r = (none, w)) ∧ (z2 + 1 < 200 → xGo 124 53 [some (.ref 28), some (.int (jI z1)), some (.int (jI z2)), some (.int (jI (z2 + 1))), none, none] [] w r))) : xGo 124 31 [some (.ref 28), some (.int (jI z1)), some (.int (jI z2)), none, none, none] [] w r := by
  refine g_iloadn (pc' := 32) d_124_31 rfl rfl ?_
  refine g_iloadn (pc' := 33) d_124_32 rfl rfl ?_
  refine g_iconst (pc' := 34) d_124_33 rfl rfl ?_
  refine gz_isub (pc' := 35) d_124_34 rfl ?_
  obtain ⟨hc1, h⟩ := h
  obtain ⟨hc2, h⟩ := h
  refine gz_ic_gt (pc' := 38) (pt := 155) d_124_35 (by decide) rfl hc1 hc2 (fun c => ?_) (fun c => ?_)
  · replace h := h.1 c
    exact g_vret d_124_155 rt_124 h
  · replace h := h.2 c
    refine g_iloadn (pc' := 39) d_124_38 rfl rfl ?_
    refine g_iconst (pc' := 40) d_124_39 rfl rfl ?_
    refine gz_iadd (pc' := 41) d_124_40 rfl ?_
    refine g_aloadn (pc' := 42) d_124_41 rfl rfl ?_
    refine gz_getR (pc' := 45) d_124_42 rfl st_124_15 (kr_28_1 hC) ?_
    refine gz_lenl (pc' := 46) (m := 200) d_124_45 rfl (kl_30 hC) rfl ?_
    obtain ⟨hc3, h⟩ := h
    refine gz_ic_ge (pc' := 49) (pt := 155) d_124_46 (by decide) rfl hc3 (s32 (z := 200)) (fun c => ?_) (fun c => ?_)
    · replace h := h.1 c
      exact g_vret d_124_155 rt_124 h
    · replace h := h.2 c
      refine g_iloadn (pc' := 50) d_124_49 rfl rfl ?_
      refine g_iconst (pc' := 51) d_124_50 rfl rfl ?_
      refine gz_iadd (pc' := 52) d_124_51 rfl ?_
      refine g_istoren (pc' := 53) (l' := [some (.ref 28), some (.int (jI z1)), some (.int (jI z2)), some (.int (jI (z2 + 1))), none, none]) d_124_52 rfl ml_124 rfl rfl ?_
      exact h
theorem Z_124_53 {z1 : Int} {z2 : Int} {z3 : Int} {w : xW} {r : Option Value × xW} (hC : CS w) (h : in32 z3 ∧ (z3 < 1 → xGo 124 93 [some (.ref 28), some (.int (jI z1)), some (.int (jI z2)), some (.long (jL 0)), none, some (.int (jI 0))] [] w r) ∧ (1 ≤ z3 → 0 ≤ z3 ∧ ∃ x3, rL w 30 (z3).toNat x3 ∧ 0 ≤ z3 - 1 ∧ ∃ x6, rL w 30 (z3 - 1).toNat x6 ∧ in32 z1 ∧ in64 (x3 + x6) ∧ z1 ≠ 0 ∧ ∃ y11, Int.tmod (x3 + x6) z1 = y11 ∧ (0 ≤ z3 ∧ z3 < 200) ∧ ∀ w15, w15 = pL w 30 (z3).toNat (jL y11) → CS w15 → xGo 124 53 [some (.ref 28), some (.int (jI z1)), some (.int (jI z2)), some (.int (jI (z3 - 1))), none, none] [] w15 r)) : xGo 124 53 [some (.ref 28), some (.int (jI z1)), some (.int (jI z2)), some (.int (jI z3)), none, none] [] w r := by
  refine g_iloadn (pc' := 54) d_124_53 rfl rfl ?_
  refine g_iconst (pc' := 55) d_124_54 rfl rfl ?_
  obtain ⟨hc1, h⟩ := h
  refine gz_ic_lt (pc' := 58) (pt := 88) d_124_55 (by decide) rfl hc1 (s32 (z := 1)) (fun c => ?_) (fun c => ?_)
  · replace h := h.1 c
    refine g_lconst (pc' := 89) (v := jL 0) d_124_88 rfl cl_0 ?_
    refine g_lstoren (pc' := 90) (l' := [some (.ref 28), some (.int (jI z1)), some (.int (jI z2)), some (.long (jL 0)), none, none]) d_124_89 rfl ml_124 rfl rfl ?_
    refine g_iconst (pc' := 91) d_124_90 rfl rfl ?_
    refine g_istore (pc' := 93) (l' := [some (.ref 28), some (.int (jI z1)), some (.int (jI z2)), some (.long (jL 0)), none, some (.int (jI 0))]) d_124_91 rfl ml_124 rfl rfl ?_
    exact h
  · replace h := h.2 c
    refine g_aloadn (pc' := 59) d_124_58 rfl rfl ?_
    refine gz_getR (pc' := 62) d_124_59 rfl st_124_15 (kr_28_1 hC) ?_
    refine g_iloadn (pc' := 63) d_124_62 rfl rfl ?_
    refine g_aloadn (pc' := 64) d_124_63 rfl rfl ?_
    refine gz_getR (pc' := 67) d_124_64 rfl st_124_15 (kr_28_1 hC) ?_
    refine g_iloadn (pc' := 68) d_124_67 rfl rfl ?_
    obtain ⟨hc2, h⟩ := h
    obtain ⟨x3, hv4, h⟩ := h
    refine gz_lald (pc' := 69) d_124_68 rfl hc2 hv4 ?_
    refine g_aloadn (pc' := 70) d_124_69 rfl rfl ?_
    refine gz_getR (pc' := 73) d_124_70 rfl st_124_15 (kr_28_1 hC) ?_
    refine g_iloadn (pc' := 74) d_124_73 rfl rfl ?_
    refine g_iconst (pc' := 75) d_124_74 rfl rfl ?_
    refine gz_isub (pc' := 76) d_124_75 rfl ?_
    obtain ⟨hc5, h⟩ := h
    obtain ⟨x6, hv7, h⟩ := h
    refine gz_lald (pc' := 77) d_124_76 rfl hc5 hv7 ?_
    refine gz_ladd (pc' := 78) d_124_77 rfl ?_
    refine g_iloadn (pc' := 79) d_124_78 rfl rfl ?_
    obtain ⟨hc8, h⟩ := h
    refine gz_i2l (pc' := 80) d_124_79 rfl hc8 ?_
    obtain ⟨hc9, h⟩ := h
    obtain ⟨hc10, h⟩ := h
    obtain ⟨y11, hz12, h⟩ := h
    refine gz_lrem (pc' := 81) d_124_80 rfl hc9 (in3264 hc8) hc10 hz12 ?_
    obtain ⟨hc13, h⟩ := h
    have hs14 := (kh_30 hC hc13)
    have hC16 : CS (pL w 30 (z3).toNat (jL y11)) := hC.putL
    have h := h _ rfl hC16
    refine gz_last (pc' := 82) d_124_81 rfl hs14 ?_
    refine gz_idec (pc' := 85) (c := 1) (l' := [some (.ref 28), some (.int (jI z1)), some (.int (jI z2)), some (.int (jI (z3 - 1))), none, none]) d_124_82 rfl rfl ml_124 rfl rfl ?_
    refine g_goto (pt := 53) d_124_85 (by decide) ?_
    exact h
theorem Z_124_93 {z1 : Int} {z2 : Int} {z3 : Int} {z5 : Int} {w : xW} {r : Option Value × xW} (hC : CS w) (h : in32 z5 ∧ in32 z2 ∧ (z2 ≤ z5 → in32 z1 ∧ in64 z3 ∧ z1 ≠ 0 ∧ ∃ y6, Int.tmod z3 z1 = y6 ∧ in32 (z2 + 1) ∧ ∃ r12 w9, xCall 53 [.long (jL (z2 + 1)), .long (jL z1)] w (some (.long (jL r12)), w9) ∧ CS w9 ∧ in64 ((z1 - y6) * r12) ∧ z1 ≠ 0 ∧ ∃ y15, Int.tmod ((z1 - y6) * r12) z1 = y15 ∧ (0 ≤ z2 ∧ z2 < 200) ∧ ∀ w19, w19 = pL w9 29 (z2).toNat (jL y15) → CS w19 → xGo 124 31 [some (.ref 28), some (.int (jI z1)), some (.int (jI (z2 + 1))), none, none, none] [] w19 r) ∧ (z5 < z2 → 0 ≤ z5 ∧ ∃ x22, rL w 30 (z5).toNat x22 ∧ 0 ≤ z5 ∧ ∃ x25, rL w 29 (z5).toNat x25 ∧ xGo 124 93 [some (.ref 28), some (.int (jI z1)), some (.int (jI z2)), some (.long (jL (z3 + (x22 * x25)))), none, some (.int (jI (z5 + 1)))] [] w r)) : xGo 124 93 [some (.ref 28), some (.int (jI z1)), some (.int (jI z2)), some (.long (jL z3)), none, some (.int (jI z5))] [] w r := by
  refine g_iload (pc' := 95) d_124_93 rfl rfl ?_
  refine g_iloadn (pc' := 96) d_124_95 rfl rfl ?_
  obtain ⟨hc1, h⟩ := h
  obtain ⟨hc2, h⟩ := h
  refine gz_ic_ge (pc' := 99) (pt := 123) d_124_96 (by decide) rfl hc1 hc2 (fun c => ?_) (fun c => ?_)
  · replace h := h.1 c
    refine g_aloadn (pc' := 124) d_124_123 rfl rfl ?_
    refine gz_getR (pc' := 127) d_124_124 rfl st_124_9 (kr_28_0 hC) ?_
    refine g_iloadn (pc' := 128) d_124_127 rfl rfl ?_
    refine g_iloadn (pc' := 129) d_124_128 rfl rfl ?_
    obtain ⟨hc3, h⟩ := h
    refine gz_i2l (pc' := 130) d_124_129 rfl hc3 ?_
    refine g_lloadn (pc' := 131) d_124_130 rfl rfl ?_
    refine g_iloadn (pc' := 132) d_124_131 rfl rfl ?_
    refine gz_i2l (pc' := 133) d_124_132 rfl hc3 ?_
    obtain ⟨hc4, h⟩ := h
    obtain ⟨hc5, h⟩ := h
    obtain ⟨y6, hz7, h⟩ := h
    refine gz_lrem (pc' := 134) d_124_133 rfl hc4 (in3264 hc3) hc5 hz7 ?_
    refine gz_lsub (pc' := 135) d_124_134 rfl ?_
    refine g_iloadn (pc' := 136) d_124_135 rfl rfl ?_
    refine g_iconst (pc' := 137) d_124_136 rfl rfl ?_
    refine gz_iadd (pc' := 138) d_124_137 rfl ?_
    obtain ⟨hc8, h⟩ := h
    refine gz_i2l (pc' := 139) d_124_138 rfl hc8 ?_
    refine g_iloadn (pc' := 140) d_124_139 rfl rfl ?_
    refine gz_i2l (pc' := 141) d_124_140 rfl hc3 ?_
    obtain ⟨r12, w9, hk10, hC11, h⟩ := h
    refine g_callS (pc' := 144) d_124_141 rfl st_124_41 (Or.inl rfl) na_53 ml_53 rfl rfl rfl rm_124_53 rfl rfl hk10 ?_
    refine gz_lmul (pc' := 145) d_124_144 rfl ?_
    refine g_iloadn (pc' := 146) d_124_145 rfl rfl ?_
    refine gz_i2l (pc' := 147) d_124_146 rfl hc3 ?_
    obtain ⟨hc13, h⟩ := h
    obtain ⟨hc14, h⟩ := h
    obtain ⟨y15, hz16, h⟩ := h
    refine gz_lrem (pc' := 148) d_124_147 rfl hc13 (in3264 hc3) hc14 hz16 ?_
    obtain ⟨hc17, h⟩ := h
    have hs18 := (kh_29 hC11 hc17)
    have hC20 : CS (pL w9 29 (z2).toNat (jL y15)) := hC11.putL
    have h := h _ rfl hC20
    refine gz_last (pc' := 149) d_124_148 rfl hs18 ?_
    refine gz_iinc (pc' := 152) (l' := [some (.ref 28), some (.int (jI z1)), some (.int (jI (z2 + 1))), some (.long (jL z3)), none, some (.int (jI z5))]) d_124_149 rfl rfl ml_124 rfl rfl ?_
    refine g_goto (pt := 31) d_124_152 (by decide) ?_
    exact xGo.more (xle_s (xle_s (xle_s (xle_n (xle_n (xle_n xle_0)))))) h
  · replace h := h.2 c
    refine g_lloadn (pc' := 100) d_124_99 rfl rfl ?_
    refine g_aloadn (pc' := 101) d_124_100 rfl rfl ?_
    refine gz_getR (pc' := 104) d_124_101 rfl st_124_15 (kr_28_1 hC) ?_
    refine g_iload (pc' := 106) d_124_104 rfl rfl ?_
    obtain ⟨hc21, h⟩ := h
    obtain ⟨x22, hv23, h⟩ := h
    refine gz_lald (pc' := 107) d_124_106 rfl hc21 hv23 ?_
    refine g_aloadn (pc' := 108) d_124_107 rfl rfl ?_
    refine gz_getR (pc' := 111) d_124_108 rfl st_124_9 (kr_28_0 hC) ?_
    refine g_iload (pc' := 113) d_124_111 rfl rfl ?_
    obtain ⟨hc24, h⟩ := h
    obtain ⟨x25, hv26, h⟩ := h
    refine gz_lald (pc' := 114) d_124_113 rfl hc24 hv26 ?_
    refine gz_lmul (pc' := 115) d_124_114 rfl ?_
    refine gz_ladd (pc' := 116) d_124_115 rfl ?_
    refine g_lstoren (pc' := 117) (l' := [some (.ref 28), some (.int (jI z1)), some (.int (jI z2)), some (.long (jL (z3 + (x22 * x25)))), none, some (.int (jI z5))]) d_124_116 rfl ml_124 rfl rfl ?_
    refine gz_iinc (pc' := 120) (l' := [some (.ref 28), some (.int (jI z1)), some (.int (jI z2)), some (.long (jL (z3 + (x22 * x25)))), none, some (.int (jI (z5 + 1)))]) d_124_117 rfl rfl ml_124 rfl rfl ?_
    refine g_goto (pt := 93) d_124_120 (by decide) ?_
    exact h
theorem Z_125_0 {z1 : Int} {w : xW} {r : Option Value × xW} (hC : CS w) (h : xGo 125 2 [some (.ref 28), some (.int (jI z1)), some (.int (jI 0)), none] [] w r) : xGo 125 0 [some (.ref 28), some (.int (jI z1)), none, none] [] w r := by
  refine g_iconst (pc' := 1) d_125_0 rfl rfl ?_
  refine g_istoren (pc' := 2) (l' := [some (.ref 28), some (.int (jI z1)), some (.int (jI 0)), none]) d_125_1 rfl ml_125 rfl rfl ?_
  exact h
theorem Z_125 {z1 : Int} {w : xW} {r : Option Value × xW} (hC : CS w) (h : xGo 125 2 [some (.ref 28), some (.int (jI z1)), some (.int (jI 0)), none] [] w r) : xCall 125 [.ref 28, .int (jI z1)] w r := E_125 (Z_125_0 hC h)
theorem Z_125_2 {z1 : Int} {z2 : Int} {w : xW} {r : Option Value × xW} (hC : CS w) (h : in32 z2 ∧ in32 (z1 - 2) ∧ (z1 - 2 < z2 → xGo 125 41 [some (.ref 28), some (.int (jI z1)), some (.int (jI 0)), none] [] w r) ∧ (z2 ≤ z1 - 2 → (200 ≤ z2 → xGo 125 41 [some (.ref 28), some (.int (jI z1)), some (.int (jI 0)), none] [] w r) ∧ (z2 < 200 → in32 (z2 + 1) ∧ in32 z1 ∧ ∃ r8 w5, xCall 53 [.long (jL (z2 + 1)), .long (jL z1)] w (some (.long (jL r8)), w5) ∧ CS w5 ∧ (0 ≤ z2 ∧ z2 < 200) ∧ ∀ w11, w11 = pL w5 30 (z2).toNat (jL r8) → CS w11 → xGo 125 2 [some (.ref 28), some (.int (jI z1)), some (.int (jI (z2 + 1))), none] [] w11 r))) : xGo 125 2 [some (.ref 28), some (.int (jI z1)), some (.int (jI z2)), none] [] w r := by
  refine g_iloadn (pc' := 3) d_125_2 rfl rfl ?_
  refine g_iloadn (pc' := 4) d_125_3 rfl rfl ?_
  refine g_iconst (pc' := 5) d_125_4 rfl rfl ?_
  refine gz_isub (pc' := 6) d_125_5 rfl ?_
  obtain ⟨hc1, h⟩ := h
  obtain ⟨hc2, h⟩ := h
  refine gz_ic_gt (pc' := 9) (pt := 39) d_125_6 (by decide) rfl hc1 hc2 (fun c => ?_) (fun c => ?_)
  · replace h := h.1 c
    refine g_iconst (pc' := 40) d_125_39 rfl rfl ?_
    refine g_istoren (pc' := 41) (l' := [some (.ref 28), some (.int (jI z1)), some (.int (jI 0)), none]) d_125_40 rfl ml_125 rfl rfl ?_
    exact h
  · replace h := h.2 c
    refine g_iloadn (pc' := 10) d_125_9 rfl rfl ?_
    refine g_aloadn (pc' := 11) d_125_10 rfl rfl ?_
    refine gz_getR (pc' := 14) d_125_11 rfl st_125_15 (kr_28_1 hC) ?_
    refine gz_lenl (pc' := 15) (m := 200) d_125_14 rfl (kl_30 hC) rfl ?_
    refine gz_ic_ge (pc' := 18) (pt := 39) d_125_15 (by decide) rfl hc1 (s32 (z := 200)) (fun c => ?_) (fun c => ?_)
    · replace h := h.1 c
      refine g_iconst (pc' := 40) d_125_39 rfl rfl ?_
      refine g_istoren (pc' := 41) (l' := [some (.ref 28), some (.int (jI z1)), some (.int (jI 0)), none]) d_125_40 rfl ml_125 rfl rfl ?_
      exact h
    · replace h := h.2 c
      refine g_aloadn (pc' := 19) d_125_18 rfl rfl ?_
      refine gz_getR (pc' := 22) d_125_19 rfl st_125_15 (kr_28_1 hC) ?_
      refine g_iloadn (pc' := 23) d_125_22 rfl rfl ?_
      refine g_iloadn (pc' := 24) d_125_23 rfl rfl ?_
      refine g_iconst (pc' := 25) d_125_24 rfl rfl ?_
      refine gz_iadd (pc' := 26) d_125_25 rfl ?_
      obtain ⟨hc3, h⟩ := h
      refine gz_i2l (pc' := 27) d_125_26 rfl hc3 ?_
      refine g_iloadn (pc' := 28) d_125_27 rfl rfl ?_
      obtain ⟨hc4, h⟩ := h
      refine gz_i2l (pc' := 29) d_125_28 rfl hc4 ?_
      obtain ⟨r8, w5, hk6, hC7, h⟩ := h
      refine g_callS (pc' := 32) d_125_29 rfl st_125_41 (Or.inl rfl) na_53 ml_53 rfl rfl rfl rm_125_53 rfl rfl hk6 ?_
      obtain ⟨hc9, h⟩ := h
      have hs10 := (kh_30 hC7 hc9)
      have hC12 : CS (pL w5 30 (z2).toNat (jL r8)) := hC7.putL
      have h := h _ rfl hC12
      refine gz_last (pc' := 33) d_125_32 rfl hs10 ?_
      refine gz_iinc (pc' := 36) (l' := [some (.ref 28), some (.int (jI z1)), some (.int (jI (z2 + 1))), none]) d_125_33 rfl rfl ml_125 rfl rfl ?_
      refine g_goto (pt := 2) d_125_36 (by decide) ?_
      exact h
theorem Z_125_41 {z1 : Int} {z2 : Int} {w : xW} {r : Option Value × xW} (hC : CS w) (h : in32 z2 ∧ in32 (z1 - 2) ∧ (z1 - 2 < z2 → ∃ x3, rL w 29 1 x3 ∧ in32 z1 ∧ in64 ((x3 + z1) - 1) ∧ z1 ≠ 0 ∧ ∃ y8, Int.tmod ((x3 + z1) - 1) z1 = y8 ∧ ∀ w11, w11 = pL w 29 1 (jL y8) → CS w11 → r = (none, w11)) ∧ (z2 ≤ z1 - 2 → (200 ≤ z2 → ∃ x13, rL w 29 1 x13 ∧ in32 z1 ∧ in64 ((x13 + z1) - 1) ∧ z1 ≠ 0 ∧ ∃ y18, Int.tmod ((x13 + z1) - 1) z1 = y18 ∧ ∀ w21, w21 = pL w 29 1 (jL y18) → CS w21 → r = (none, w21)) ∧ (z2 < 200 → ∃ x23, rL w 30 0 x23 ∧ (0 ≤ z2 ∧ z2 < 200) ∧ ∀ w27, w27 = pL w 29 (z2).toNat (jL x23) → CS w27 → xGo 125 71 [some (.ref 28), some (.int (jI z1)), some (.int (jI z2)), some (.int (jI 0))] [] w27 r))) : xGo 125 41 [some (.ref 28), some (.int (jI z1)), some (.int (jI z2)), none] [] w r := by
  refine g_iloadn (pc' := 42) d_125_41 rfl rfl ?_
  refine g_iloadn (pc' := 43) d_125_42 rfl rfl ?_
  refine g_iconst (pc' := 44) d_125_43 rfl rfl ?_
  refine gz_isub (pc' := 45) d_125_44 rfl ?_
  obtain ⟨hc1, h⟩ := h
  obtain ⟨hc2, h⟩ := h
  refine gz_ic_gt (pc' := 48) (pt := 135) d_125_45 (by decide) rfl hc1 hc2 (fun c => ?_) (fun c => ?_)
  · replace h := h.1 c
    refine g_aloadn (pc' := 136) d_125_135 rfl rfl ?_
    refine gz_getR (pc' := 139) d_125_136 rfl st_125_9 (kr_28_0 hC) ?_
    refine g_iconst (pc' := 140) d_125_139 rfl rfl ?_
    refine g_aloadn (pc' := 141) d_125_140 rfl rfl ?_
    refine gz_getR (pc' := 144) d_125_141 rfl st_125_9 (kr_28_0 hC) ?_
    refine g_iconst (pc' := 145) d_125_144 rfl rfl ?_
    obtain ⟨x3, hv4, h⟩ := h
    refine gz_lald (pc' := 146) d_125_145 rfl (by decide) hv4 ?_
    refine g_iloadn (pc' := 147) d_125_146 rfl rfl ?_
    obtain ⟨hc5, h⟩ := h
    refine gz_i2l (pc' := 148) d_125_147 rfl hc5 ?_
    refine gz_ladd (pc' := 149) d_125_148 rfl ?_
    refine g_lconst (pc' := 150) (v := jL 1) d_125_149 rfl cl_1 ?_
    refine gz_lsub (pc' := 151) d_125_150 rfl ?_
    refine g_iloadn (pc' := 152) d_125_151 rfl rfl ?_
    refine gz_i2l (pc' := 153) d_125_152 rfl hc5 ?_
    obtain ⟨hc6, h⟩ := h
    obtain ⟨hc7, h⟩ := h
    obtain ⟨y8, hz9, h⟩ := h
    refine gz_lrem (pc' := 154) d_125_153 rfl hc6 (in3264 hc5) hc7 hz9 ?_
    have hs10 := (kh_29 (i := 1) hC ⟨by decide, by decide⟩)
    have hC12 : CS (pL w 29 1 (jL y8)) := hC.putL
    have h := h _ rfl hC12
    refine gz_last (pc' := 155) d_125_154 rfl hs10 ?_
    exact g_vret d_125_155 rt_125 h
  · replace h := h.2 c
    refine g_iloadn (pc' := 49) d_125_48 rfl rfl ?_
    refine g_aloadn (pc' := 50) d_125_49 rfl rfl ?_
    refine gz_getR (pc' := 53) d_125_50 rfl st_125_9 (kr_28_0 hC) ?_
    refine gz_lenl (pc' := 54) (m := 200) d_125_53 rfl (kl_29 hC) rfl ?_
    refine gz_ic_ge (pc' := 57) (pt := 135) d_125_54 (by decide) rfl hc1 (s32 (z := 200)) (fun c => ?_) (fun c => ?_)
    · replace h := h.1 c
      refine g_aloadn (pc' := 136) d_125_135 rfl rfl ?_
      refine gz_getR (pc' := 139) d_125_136 rfl st_125_9 (kr_28_0 hC) ?_
      refine g_iconst (pc' := 140) d_125_139 rfl rfl ?_
      refine g_aloadn (pc' := 141) d_125_140 rfl rfl ?_
      refine gz_getR (pc' := 144) d_125_141 rfl st_125_9 (kr_28_0 hC) ?_
      refine g_iconst (pc' := 145) d_125_144 rfl rfl ?_
      obtain ⟨x13, hv14, h⟩ := h
      refine gz_lald (pc' := 146) d_125_145 rfl (by decide) hv14 ?_
      refine g_iloadn (pc' := 147) d_125_146 rfl rfl ?_
      obtain ⟨hc15, h⟩ := h
      refine gz_i2l (pc' := 148) d_125_147 rfl hc15 ?_
      refine gz_ladd (pc' := 149) d_125_148 rfl ?_
      refine g_lconst (pc' := 150) (v := jL 1) d_125_149 rfl cl_1 ?_
      refine gz_lsub (pc' := 151) d_125_150 rfl ?_
      refine g_iloadn (pc' := 152) d_125_151 rfl rfl ?_
      refine gz_i2l (pc' := 153) d_125_152 rfl hc15 ?_
      obtain ⟨hc16, h⟩ := h
      obtain ⟨hc17, h⟩ := h
      obtain ⟨y18, hz19, h⟩ := h
      refine gz_lrem (pc' := 154) d_125_153 rfl hc16 (in3264 hc15) hc17 hz19 ?_
      have hs20 := (kh_29 (i := 1) hC ⟨by decide, by decide⟩)
      have hC22 : CS (pL w 29 1 (jL y18)) := hC.putL
      have h := h _ rfl hC22
      refine gz_last (pc' := 155) d_125_154 rfl hs20 ?_
      exact g_vret d_125_155 rt_125 h
    · replace h := h.2 c
      refine g_aloadn (pc' := 58) d_125_57 rfl rfl ?_
      refine gz_getR (pc' := 61) d_125_58 rfl st_125_9 (kr_28_0 hC) ?_
      refine g_iloadn (pc' := 62) d_125_61 rfl rfl ?_
      refine g_aloadn (pc' := 63) d_125_62 rfl rfl ?_
      refine gz_getR (pc' := 66) d_125_63 rfl st_125_15 (kr_28_1 hC) ?_
      refine g_iconst (pc' := 67) d_125_66 rfl rfl ?_
      obtain ⟨x23, hv24, h⟩ := h
      refine gz_lald (pc' := 68) d_125_67 rfl (by decide) hv24 ?_
      obtain ⟨hc25, h⟩ := h
      have hs26 := (kh_29 hC hc25)
      have hC28 : CS (pL w 29 (z2).toNat (jL x23)) := hC.putL
      have h := h _ rfl hC28
      refine gz_last (pc' := 69) d_125_68 rfl hs26 ?_
      refine g_iconst (pc' := 70) d_125_69 rfl rfl ?_
      refine g_istoren (pc' := 71) (l' := [some (.ref 28), some (.int (jI z1)), some (.int (jI z2)), some (.int (jI 0))]) d_125_70 rfl ml_125 rfl rfl ?_
      exact h
theorem Z_125_71 {z1 : Int} {z2 : Int} {z3 : Int} {w : xW} {r : Option Value × xW} (hC : CS w) (h : in32 z3 ∧ in32 ((z1 - 2) - z2) ∧ ((z1 - 2) - z2 ≤ z3 → xGo 125 41 [some (.ref 28), some (.int (jI z1)), some (.int (jI (z2 + 1))), none] [] w r) ∧ (z3 < (z1 - 2) - z2 → in32 (z3 + 1) ∧ (200 ≤ z3 + 1 → xGo 125 41 [some (.ref 28), some (.int (jI z1)), some (.int (jI (z2 + 1))), none] [] w r) ∧ (z3 + 1 < 200 → 0 ≤ z3 ∧ ∃ x5, rL w 30 (z3).toNat x5 ∧ in32 z1 ∧ 0 ≤ z3 + 1 ∧ ∃ x9, rL w 30 (z3 + 1).toNat x9 ∧ in64 ((z3 + 1) * ((x5 + z1) - x9)) ∧ z1 ≠ 0 ∧ ∃ y13, Int.tmod ((z3 + 1) * ((x5 + z1) - x9)) z1 = y13 ∧ (0 ≤ z3 ∧ z3 < 200) ∧ ∀ w17, w17 = pL w 30 (z3).toNat (jL y13) → CS w17 → xGo 125 71 [some (.ref 28), some (.int (jI z1)), some (.int (jI z2)), some (.int (jI (z3 + 1)))] [] w17 r))) : xGo 125 71 [some (.ref 28), some (.int (jI z1)), some (.int (jI z2)), some (.int (jI z3))] [] w r := by
  refine g_iloadn (pc' := 72) d_125_71 rfl rfl ?_
  refine g_iloadn (pc' := 73) d_125_72 rfl rfl ?_
  refine g_iconst (pc' := 74) d_125_73 rfl rfl ?_
  refine gz_isub (pc' := 75) d_125_74 rfl ?_
  refine g_iloadn (pc' := 76) d_125_75 rfl rfl ?_
  refine gz_isub (pc' := 77) d_125_76 rfl ?_
  obtain ⟨hc1, h⟩ := h
  obtain ⟨hc2, h⟩ := h
  refine gz_ic_ge (pc' := 80) (pt := 129) d_125_77 (by decide) rfl hc1 hc2 (fun c => ?_) (fun c => ?_)
  · replace h := h.1 c
    refine gz_iinc (pc' := 132) (l' := [some (.ref 28), some (.int (jI z1)), some (.int (jI (z2 + 1))), some (.int (jI z3))]) d_125_129 rfl rfl ml_125 rfl rfl ?_
    refine g_goto (pt := 41) d_125_132 (by decide) ?_
    exact xGo.more (xle_s (xle_s (xle_s (xle_n xle_0)))) h
  · replace h := h.2 c
    refine g_iloadn (pc' := 81) d_125_80 rfl rfl ?_
    refine g_iconst (pc' := 82) d_125_81 rfl rfl ?_
    refine gz_iadd (pc' := 83) d_125_82 rfl ?_
    refine g_aloadn (pc' := 84) d_125_83 rfl rfl ?_
    refine gz_getR (pc' := 87) d_125_84 rfl st_125_15 (kr_28_1 hC) ?_
    refine gz_lenl (pc' := 88) (m := 200) d_125_87 rfl (kl_30 hC) rfl ?_
    obtain ⟨hc3, h⟩ := h
    refine gz_ic_ge (pc' := 91) (pt := 129) d_125_88 (by decide) rfl hc3 (s32 (z := 200)) (fun c => ?_) (fun c => ?_)
    · replace h := h.1 c
      refine gz_iinc (pc' := 132) (l' := [some (.ref 28), some (.int (jI z1)), some (.int (jI (z2 + 1))), some (.int (jI z3))]) d_125_129 rfl rfl ml_125 rfl rfl ?_
      refine g_goto (pt := 41) d_125_132 (by decide) ?_
      exact xGo.more (xle_s (xle_s (xle_s (xle_n xle_0)))) h
    · replace h := h.2 c
      refine g_aloadn (pc' := 92) d_125_91 rfl rfl ?_
      refine gz_getR (pc' := 95) d_125_92 rfl st_125_15 (kr_28_1 hC) ?_
      refine g_iloadn (pc' := 96) d_125_95 rfl rfl ?_
      refine g_iloadn (pc' := 97) d_125_96 rfl rfl ?_
      refine g_iconst (pc' := 98) d_125_97 rfl rfl ?_
      refine gz_iadd (pc' := 99) d_125_98 rfl ?_
      refine gz_i2l (pc' := 100) d_125_99 rfl hc3 ?_
      refine g_aloadn (pc' := 101) d_125_100 rfl rfl ?_
      refine gz_getR (pc' := 104) d_125_101 rfl st_125_15 (kr_28_1 hC) ?_
      refine g_iloadn (pc' := 105) d_125_104 rfl rfl ?_
      obtain ⟨hc4, h⟩ := h
      obtain ⟨x5, hv6, h⟩ := h
      refine gz_lald (pc' := 106) d_125_105 rfl hc4 hv6 ?_
      refine g_iloadn (pc' := 107) d_125_106 rfl rfl ?_
      obtain ⟨hc7, h⟩ := h
      refine gz_i2l (pc' := 108) d_125_107 rfl hc7 ?_
      refine gz_ladd (pc' := 109) d_125_108 rfl ?_
      refine g_aloadn (pc' := 110) d_125_109 rfl rfl ?_
      refine gz_getR (pc' := 113) d_125_110 rfl st_125_15 (kr_28_1 hC) ?_
      refine g_iloadn (pc' := 114) d_125_113 rfl rfl ?_
      refine g_iconst (pc' := 115) d_125_114 rfl rfl ?_
      refine gz_iadd (pc' := 116) d_125_115 rfl ?_
      obtain ⟨hc8, h⟩ := h
      obtain ⟨x9, hv10, h⟩ := h
      refine gz_lald (pc' := 117) d_125_116 rfl hc8 hv10 ?_
      refine gz_lsub (pc' := 118) d_125_117 rfl ?_
      refine gz_lmul (pc' := 119) d_125_118 rfl ?_
      refine g_iloadn (pc' := 120) d_125_119 rfl rfl ?_
      refine gz_i2l (pc' := 121) d_125_120 rfl hc7 ?_
      obtain ⟨hc11, h⟩ := h
      obtain ⟨hc12, h⟩ := h
      obtain ⟨y13, hz14, h⟩ := h
      refine gz_lrem (pc' := 122) d_125_121 rfl hc11 (in3264 hc7) hc12 hz14 ?_
      obtain ⟨hc15, h⟩ := h
      have hs16 := (kh_30 hC hc15)
      have hC18 : CS (pL w 30 (z3).toNat (jL y13)) := hC.putL
      have h := h _ rfl hC18
      refine gz_last (pc' := 123) d_125_122 rfl hs16 ?_
      refine gz_iinc (pc' := 126) (l' := [some (.ref 28), some (.int (jI z1)), some (.int (jI z2)), some (.int (jI (z3 + 1)))]) d_125_123 rfl rfl ml_125 rfl rfl ?_
      refine g_goto (pt := 71) d_125_126 (by decide) ?_
      exact h
theorem Z_126_0 {z1 : Int} {w : xW} {r : Option Value × xW} (hC : CS w) (h : in32 z1 ∧ ∃ w2, xCall 6 [.ref 29, .long (jL 0)] w (none, w2) ∧ CS w2 ∧ ∃ w5, xCall 6 [.ref 30, .long (jL 1)] w2 (none, w5) ∧ CS w5 ∧ ∀ w9, w9 = pL w5 29 0 (jL 1) → CS w9 → ∃ r14 w11, xCall 53 [.long (jL 2), .long (jL z1)] w9 (some (.long (jL r14)), w11) ∧ CS w11 ∧ in64 (z1 - r14) ∧ z1 ≠ 0 ∧ ∃ y17, Int.tmod (z1 - r14) z1 = y17 ∧ ∀ w20, w20 = pL w11 29 1 (jL y17) → CS w20 → xGo 126 52 [some (.ref 28), some (.int (jI z1)), some (.long (jL (z1 * z1))), none, some (.int (jI 2)), none, none, none] [] w20 r) : xGo 126 0 [some (.ref 28), some (.int (jI z1)), none, none, none, none, none, none] [] w r := by
  refine g_iloadn (pc' := 1) d_126_0 rfl rfl ?_
  obtain ⟨hc1, h⟩ := h
  refine gz_i2l (pc' := 2) d_126_1 rfl hc1 ?_
  refine g_iloadn (pc' := 3) d_126_2 rfl rfl ?_
  refine gz_i2l (pc' := 4) d_126_3 rfl hc1 ?_
  refine gz_lmul (pc' := 5) d_126_4 rfl ?_
  refine g_lstoren (pc' := 6) (l' := [some (.ref 28), some (.int (jI z1)), some (.long (jL (z1 * z1))), none, none, none, none, none]) d_126_5 rfl ml_126 rfl rfl ?_
  refine g_aloadn (pc' := 7) d_126_6 rfl rfl ?_
  refine gz_getR (pc' := 10) d_126_7 rfl st_126_9 (kr_28_0 hC) ?_
  refine g_lconst (pc' := 11) (v := jL 0) d_126_10 rfl cl_0 ?_
  obtain ⟨w2, hk3, hC4, h⟩ := h
  refine g_callS (pc' := 14) d_126_11 rfl st_126_35 (Or.inl rfl) na_6 ml_6 rfl rfl rfl rm_126_6 rfl rfl hk3 ?_
  refine g_aloadn (pc' := 15) d_126_14 rfl rfl ?_
  refine gz_getR (pc' := 18) d_126_15 rfl st_126_15 (kr_28_1 hC4) ?_
  refine g_lconst (pc' := 19) (v := jL 1) d_126_18 rfl cl_1 ?_
  obtain ⟨w5, hk6, hC7, h⟩ := h
  refine g_callS (pc' := 22) d_126_19 rfl st_126_35 (Or.inl rfl) na_6 ml_6 rfl rfl rfl rm_126_6 rfl rfl hk6 ?_
  refine g_aloadn (pc' := 23) d_126_22 rfl rfl ?_
  refine gz_getR (pc' := 26) d_126_23 rfl st_126_9 (kr_28_0 hC7) ?_
  refine g_iconst (pc' := 27) d_126_26 rfl rfl ?_
  refine g_lconst (pc' := 28) (v := jL 1) d_126_27 rfl cl_1 ?_
  have hs8 := (kh_29 (i := 0) hC7 ⟨by decide, by decide⟩)
  have hC10 : CS (pL w5 29 0 (jL 1)) := hC7.putL
  have h := h _ rfl hC10
  refine gz_last (pc' := 29) d_126_28 rfl hs8 ?_
  refine g_aloadn (pc' := 30) d_126_29 rfl rfl ?_
  refine gz_getR (pc' := 33) d_126_30 rfl st_126_9 (kr_28_0 hC10) ?_
  refine g_iconst (pc' := 34) d_126_33 rfl rfl ?_
  refine g_iloadn (pc' := 35) d_126_34 rfl rfl ?_
  refine gz_i2l (pc' := 36) d_126_35 rfl hc1 ?_
  refine g_ldc2 (pc' := 39) d_126_36 rfl st_126_47 rfl ?_
  refine g_iloadn (pc' := 40) d_126_39 rfl rfl ?_
  refine gz_i2l (pc' := 41) d_126_40 rfl hc1 ?_
  obtain ⟨r14, w11, hk12, hC13, h⟩ := h
  refine g_callS (pc' := 44) d_126_41 rfl st_126_41 (Or.inl rfl) na_53 ml_53 rfl rfl rfl rm_126_53 rfl rfl hk12 ?_
  refine gz_lsub (pc' := 45) d_126_44 rfl ?_
  refine g_iloadn (pc' := 46) d_126_45 rfl rfl ?_
  refine gz_i2l (pc' := 47) d_126_46 rfl hc1 ?_
  obtain ⟨hc15, h⟩ := h
  obtain ⟨hc16, h⟩ := h
  obtain ⟨y17, hz18, h⟩ := h
  refine gz_lrem (pc' := 48) d_126_47 rfl hc15 (in3264 hc1) hc16 hz18 ?_
  have hs19 := (kh_29 (i := 1) hC13 ⟨by decide, by decide⟩)
  have hC21 : CS (pL w11 29 1 (jL y17)) := hC13.putL
  have h := h _ rfl hC21
  refine gz_last (pc' := 49) d_126_48 rfl hs19 ?_
  refine g_iconst (pc' := 50) d_126_49 rfl rfl ?_
  refine g_istore (pc' := 52) (l' := [some (.ref 28), some (.int (jI z1)), some (.long (jL (z1 * z1))), none, some (.int (jI 2)), none, none, none]) d_126_50 rfl ml_126 rfl rfl ?_
  exact h
theorem Z_126 {z1 : Int} {w : xW} {r : Option Value × xW} (hC : CS w) (h : in32 z1 ∧ ∃ w2, xCall 6 [.ref 29, .long (jL 0)] w (none, w2) ∧ CS w2 ∧ ∃ w5, xCall 6 [.ref 30, .long (jL 1)] w2 (none, w5) ∧ CS w5 ∧ ∀ w9, w9 = pL w5 29 0 (jL 1) → CS w9 → ∃ r14 w11, xCall 53 [.long (jL 2), .long (jL z1)] w9 (some (.long (jL r14)), w11) ∧ CS w11 ∧ in64 (z1 - r14) ∧ z1 ≠ 0 ∧ ∃ y17, Int.tmod (z1 - r14) z1 = y17 ∧ ∀ w20, w20 = pL w11 29 1 (jL y17) → CS w20 → xGo 126 52 [some (.ref 28), some (.int (jI z1)), some (.long (jL (z1 * z1))), none, some (.int (jI 2)), none, none, none] [] w20 r) : xCall 126 [.ref 28, .int (jI z1)] w r := E_126 (Z_126_0 hC h)
theorem Z_126_52 {z1 : Int} {z2 : Int} {z4 : Int} {w : xW} {r : Option Value × xW} (hC : CS w) (h : in32 z4 ∧ in32 (z1 - 3) ∧ (z1 - 3 < z4 → r = (none, w)) ∧ (z4 ≤ z1 - 3 → (200 ≤ z4 → r = (none, w)) ∧ (z4 < 200 → xGo 126 76 [some (.ref 28), some (.int (jI z1)), some (.long (jL z2)), none, some (.int (jI z4)), some (.long (jL 0)), none, some (.int (jI 1))] [] w r))) : xGo 126 52 [some (.ref 28), some (.int (jI z1)), some (.long (jL z2)), none, some (.int (jI z4)), none, none, none] [] w r := by
  refine g_iload (pc' := 54) d_126_52 rfl rfl ?_
  refine g_iloadn (pc' := 55) d_126_54 rfl rfl ?_
  refine g_iconst (pc' := 56) d_126_55 rfl rfl ?_
  refine gz_isub (pc' := 57) d_126_56 rfl ?_
  obtain ⟨hc1, h⟩ := h
  obtain ⟨hc2, h⟩ := h
  refine gz_ic_gt (pc' := 60) (pt := 153) d_126_57 (by decide) rfl hc1 hc2 (fun c => ?_) (fun c => ?_)
  · replace h := h.1 c
    exact g_vret d_126_153 rt_126 h
  · replace h := h.2 c
    refine g_iload (pc' := 62) d_126_60 rfl rfl ?_
    refine g_aloadn (pc' := 63) d_126_62 rfl rfl ?_
    refine gz_getR (pc' := 66) d_126_63 rfl st_126_9 (kr_28_0 hC) ?_
    refine gz_lenl (pc' := 67) (m := 200) d_126_66 rfl (kl_29 hC) rfl ?_
    refine gz_ic_ge (pc' := 70) (pt := 153) d_126_67 (by decide) rfl hc1 (s32 (z := 200)) (fun c => ?_) (fun c => ?_)
    · replace h := h.1 c
      exact g_vret d_126_153 rt_126 h
    · replace h := h.2 c
      refine g_lconst (pc' := 71) (v := jL 0) d_126_70 rfl cl_0 ?_
      refine g_lstore (pc' := 73) (l' := [some (.ref 28), some (.int (jI z1)), some (.long (jL z2)), none, some (.int (jI z4)), some (.long (jL 0)), none, none]) d_126_71 rfl ml_126 rfl rfl ?_
      refine g_iconst (pc' := 74) d_126_73 rfl rfl ?_
      refine g_istore (pc' := 76) (l' := [some (.ref 28), some (.int (jI z1)), some (.long (jL z2)), none, some (.int (jI z4)), some (.long (jL 0)), none, some (.int (jI 1))]) d_126_74 rfl ml_126 rfl rfl ?_
      exact h
theorem Z_126_76 {z1 : Int} {z2 : Int} {z4 : Int} {z5 : Int} {z7 : Int} {w : xW} {r : Option Value × xW} (hC : CS w) (h : in32 z7 ∧ in32 z1 ∧ (z1 ≤ z7 → in64 z5 ∧ in64 z2 ∧ z2 ≠ 0 ∧ ∃ y6, Int.tmod z5 z2 = y6 ∧ in64 y6 ∧ z1 ≠ 0 ∧ ∃ y10, Int.tdiv y6 z1 = y10 ∧ (0 ≤ z4 ∧ z4 < 200) ∧ ∀ w14, w14 = pL w 29 (z4).toNat (jL y10) → CS w14 → xGo 126 52 [some (.ref 28), some (.int (jI z1)), some (.long (jL z2)), none, some (.int (jI (z4 + 2))), none, none, none] [] w14 r) ∧ (z7 < z1 → (200 ≤ z7 → in64 z5 ∧ in64 z2 ∧ z2 ≠ 0 ∧ ∃ y19, Int.tmod z5 z2 = y19 ∧ in64 y19 ∧ z1 ≠ 0 ∧ ∃ y23, Int.tdiv y19 z1 = y23 ∧ (0 ≤ z4 ∧ z4 < 200) ∧ ∀ w27, w27 = pL w 29 (z4).toNat (jL y23) → CS w27 → xGo 126 52 [some (.ref 28), some (.int (jI z1)), some (.long (jL z2)), none, some (.int (jI (z4 + 2))), none, none, none] [] w27 r) ∧ (z7 < 200 → 0 ≤ z7 ∧ ∃ x30, rL w 30 (z7).toNat x30 ∧ in32 (z7 * z7) ∧ in64 (x30 * (z7 * z7)) ∧ in64 z2 ∧ z2 ≠ 0 ∧ ∃ y36, Int.tmod (x30 * (z7 * z7)) z2 = y36 ∧ (0 ≤ z7 ∧ z7 < 200) ∧ ∀ w40, w40 = pL w 30 (z7).toNat (jL y36) → CS w40 → 0 ≤ z7 ∧ ∃ x43, rL w40 30 (z7).toNat x43 ∧ xGo 126 76 [some (.ref 28), some (.int (jI z1)), some (.long (jL z2)), none, some (.int (jI z4)), some (.long (jL (z5 + x43))), none, some (.int (jI (z7 + 1)))] [] w40 r))) : xGo 126 76 [some (.ref 28), some (.int (jI z1)), some (.long (jL z2)), none, some (.int (jI z4)), some (.long (jL z5)), none, some (.int (jI z7))] [] w r := by
  refine g_iload (pc' := 78) d_126_76 rfl rfl ?_
  refine g_iloadn (pc' := 79) d_126_78 rfl rfl ?_
  obtain ⟨hc1, h⟩ := h
  obtain ⟨hc2, h⟩ := h
  refine gz_ic_ge (pc' := 82) (pt := 133) d_126_79 (by decide) rfl hc1 hc2 (fun c => ?_) (fun c => ?_)
  · replace h := h.1 c
    refine g_aloadn (pc' := 134) d_126_133 rfl rfl ?_
    refine gz_getR (pc' := 137) d_126_134 rfl st_126_9 (kr_28_0 hC) ?_
    refine g_iload (pc' := 139) d_126_137 rfl rfl ?_
    refine g_lload (pc' := 141) d_126_139 rfl rfl ?_
    refine g_lloadn (pc' := 142) d_126_141 rfl rfl ?_
    obtain ⟨hc3, h⟩ := h
    obtain ⟨hc4, h⟩ := h
    obtain ⟨hc5, h⟩ := h
    obtain ⟨y6, hz7, h⟩ := h
    refine gz_lrem (pc' := 143) d_126_142 rfl hc3 hc4 hc5 hz7 ?_
    refine g_iloadn (pc' := 144) d_126_143 rfl rfl ?_
    refine gz_i2l (pc' := 145) d_126_144 rfl hc2 ?_
    obtain ⟨hc8, h⟩ := h
    obtain ⟨hc9, h⟩ := h
    obtain ⟨y10, hz11, h⟩ := h
    refine gz_ldiv (pc' := 146) d_126_145 rfl hc8 (in3264 hc2) hc9 hz11 ?_
    obtain ⟨hc12, h⟩ := h
    have hs13 := (kh_29 hC hc12)
    have hC15 : CS (pL w 29 (z4).toNat (jL y10)) := hC.putL
    have h := h _ rfl hC15
    refine gz_last (pc' := 147) d_126_146 rfl hs13 ?_
    refine gz_iinc (pc' := 150) (l' := [some (.ref 28), some (.int (jI z1)), some (.long (jL z2)), none, some (.int (jI (z4 + 2))), some (.long (jL z5)), none, some (.int (jI z7))]) d_126_147 rfl rfl ml_126 rfl rfl ?_
    refine g_goto (pt := 52) d_126_150 (by decide) ?_
    exact xGo.more (xle_s (xle_s (xle_s (xle_n (xle_s (xle_n (xle_n (xle_n xle_0)))))))) h
  · replace h := h.2 c
    refine g_iload (pc' := 84) d_126_82 rfl rfl ?_
    refine g_aloadn (pc' := 85) d_126_84 rfl rfl ?_
    refine gz_getR (pc' := 88) d_126_85 rfl st_126_15 (kr_28_1 hC) ?_
    refine gz_lenl (pc' := 89) (m := 200) d_126_88 rfl (kl_30 hC) rfl ?_
    refine gz_ic_ge (pc' := 92) (pt := 133) d_126_89 (by decide) rfl hc1 (s32 (z := 200)) (fun c => ?_) (fun c => ?_)
    · replace h := h.1 c
      refine g_aloadn (pc' := 134) d_126_133 rfl rfl ?_
      refine gz_getR (pc' := 137) d_126_134 rfl st_126_9 (kr_28_0 hC) ?_
      refine g_iload (pc' := 139) d_126_137 rfl rfl ?_
      refine g_lload (pc' := 141) d_126_139 rfl rfl ?_
      refine g_lloadn (pc' := 142) d_126_141 rfl rfl ?_
      obtain ⟨hc16, h⟩ := h
      obtain ⟨hc17, h⟩ := h
      obtain ⟨hc18, h⟩ := h
      obtain ⟨y19, hz20, h⟩ := h
      refine gz_lrem (pc' := 143) d_126_142 rfl hc16 hc17 hc18 hz20 ?_
      refine g_iloadn (pc' := 144) d_126_143 rfl rfl ?_
      refine gz_i2l (pc' := 145) d_126_144 rfl hc2 ?_
      obtain ⟨hc21, h⟩ := h
      obtain ⟨hc22, h⟩ := h
      obtain ⟨y23, hz24, h⟩ := h
      refine gz_ldiv (pc' := 146) d_126_145 rfl hc21 (in3264 hc2) hc22 hz24 ?_
      obtain ⟨hc25, h⟩ := h
      have hs26 := (kh_29 hC hc25)
      have hC28 : CS (pL w 29 (z4).toNat (jL y23)) := hC.putL
      have h := h _ rfl hC28
      refine gz_last (pc' := 147) d_126_146 rfl hs26 ?_
      refine gz_iinc (pc' := 150) (l' := [some (.ref 28), some (.int (jI z1)), some (.long (jL z2)), none, some (.int (jI (z4 + 2))), some (.long (jL z5)), none, some (.int (jI z7))]) d_126_147 rfl rfl ml_126 rfl rfl ?_
      refine g_goto (pt := 52) d_126_150 (by decide) ?_
      exact xGo.more (xle_s (xle_s (xle_s (xle_n (xle_s (xle_n (xle_n (xle_n xle_0)))))))) h
    · replace h := h.2 c
      refine g_aloadn (pc' := 93) d_126_92 rfl rfl ?_
      refine gz_getR (pc' := 96) d_126_93 rfl st_126_15 (kr_28_1 hC) ?_
      refine g_iload (pc' := 98) d_126_96 rfl rfl ?_
      refine g_aloadn (pc' := 99) d_126_98 rfl rfl ?_
      refine gz_getR (pc' := 102) d_126_99 rfl st_126_15 (kr_28_1 hC) ?_
      refine g_iload (pc' := 104) d_126_102 rfl rfl ?_
      obtain ⟨hc29, h⟩ := h
      obtain ⟨x30, hv31, h⟩ := h
      refine gz_lald (pc' := 105) d_126_104 rfl hc29 hv31 ?_
      refine g_iload (pc' := 107) d_126_105 rfl rfl ?_
      refine g_iload (pc' := 109) d_126_107 rfl rfl ?_
      refine gz_imul (pc' := 110) d_126_109 rfl ?_
      obtain ⟨hc32, h⟩ := h
      refine gz_i2l (pc' := 111) d_126_110 rfl hc32 ?_
      refine gz_lmul (pc' := 112) d_126_111 rfl ?_
      refine g_lloadn (pc' := 113) d_126_112 rfl rfl ?_
      obtain ⟨hc33, h⟩ := h
      obtain ⟨hc34, h⟩ := h
      obtain ⟨hc35, h⟩ := h
      obtain ⟨y36, hz37, h⟩ := h
      refine gz_lrem (pc' := 114) d_126_113 rfl hc33 hc34 hc35 hz37 ?_
      obtain ⟨hc38, h⟩ := h
      have hs39 := (kh_30 hC hc38)
      have hC41 : CS (pL w 30 (z7).toNat (jL y36)) := hC.putL
      have h := h _ rfl hC41
      refine gz_last (pc' := 115) d_126_114 rfl hs39 ?_
      refine g_lload (pc' := 117) d_126_115 rfl rfl ?_
      refine g_aloadn (pc' := 118) d_126_117 rfl rfl ?_
      refine gz_getR (pc' := 121) d_126_118 rfl st_126_15 (kr_28_1 hC41) ?_
      refine g_iload (pc' := 123) d_126_121 rfl rfl ?_
      obtain ⟨hc42, h⟩ := h
      obtain ⟨x43, hv44, h⟩ := h
      refine gz_lald (pc' := 124) d_126_123 rfl hc42 hv44 ?_
      refine gz_ladd (pc' := 125) d_126_124 rfl ?_
      refine g_lstore (pc' := 127) (l' := [some (.ref 28), some (.int (jI z1)), some (.long (jL z2)), none, some (.int (jI z4)), some (.long (jL (z5 + x43))), none, some (.int (jI z7))]) d_126_125 rfl ml_126 rfl rfl ?_
      refine gz_iinc (pc' := 130) (l' := [some (.ref 28), some (.int (jI z1)), some (.long (jL z2)), none, some (.int (jI z4)), some (.long (jL (z5 + x43))), none, some (.int (jI (z7 + 1)))]) d_126_127 rfl rfl ml_126 rfl rfl ?_
      refine g_goto (pt := 76) d_126_130 (by decide) ?_
      exact h
theorem Z_127_0 {z1 : Int} {w : xW} {r : Option Value × xW} (hC : CS w) (h : in32 z1 ∧ (z1 < 0 → r = (some (.long (jL 0)), w)) ∧ (0 ≤ z1 → (200 ≤ z1 → r = (some (.long (jL 0)), w)) ∧ (z1 < 200 → 0 ≤ z1 ∧ ∃ x3, rL w 29 (z1).toNat x3 ∧ r = (some (.long (jL x3)), w)))) : xGo 127 0 [some (.ref 28), some (.int (jI z1))] [] w r := by
  refine g_iloadn (pc' := 1) d_127_0 rfl rfl ?_
  obtain ⟨hc1, h⟩ := h
  refine gz_if_lt (pc' := 4) (pt := 22) d_127_1 (by decide) rfl hc1 (fun c => ?_) (fun c => ?_)
  · replace h := h.1 c
    refine g_lconst (pc' := 23) (v := jL 0) d_127_22 rfl cl_0 ?_
    exact g_lret d_127_23 rt_127 h
  · replace h := h.2 c
    refine g_iloadn (pc' := 5) d_127_4 rfl rfl ?_
    refine g_aloadn (pc' := 6) d_127_5 rfl rfl ?_
    refine gz_getR (pc' := 9) d_127_6 rfl st_127_9 (kr_28_0 hC) ?_
    refine gz_lenl (pc' := 10) (m := 200) d_127_9 rfl (kl_29 hC) rfl ?_
    refine gz_ic_ge (pc' := 13) (pt := 22) d_127_10 (by decide) rfl hc1 (s32 (z := 200)) (fun c => ?_) (fun c => ?_)
    · replace h := h.1 c
      refine g_lconst (pc' := 23) (v := jL 0) d_127_22 rfl cl_0 ?_
      exact g_lret d_127_23 rt_127 h
    · replace h := h.2 c
      refine g_aloadn (pc' := 14) d_127_13 rfl rfl ?_
      refine gz_getR (pc' := 17) d_127_14 rfl st_127_9 (kr_28_0 hC) ?_
      refine g_iloadn (pc' := 18) d_127_17 rfl rfl ?_
      obtain ⟨hc2, h⟩ := h
      obtain ⟨x3, hv4, h⟩ := h
      refine gz_lald (pc' := 19) d_127_18 rfl hc2 hv4 ?_
      refine g_goto (pt := 23) d_127_19 (by decide) ?_
      exact g_lret d_127_23 rt_127 h
theorem Z_127 {z1 : Int} {w : xW} {r : Option Value × xW} (hC : CS w) (h : in32 z1 ∧ (z1 < 0 → r = (some (.long (jL 0)), w)) ∧ (0 ≤ z1 → (200 ≤ z1 → r = (some (.long (jL 0)), w)) ∧ (z1 < 200 → 0 ≤ z1 ∧ ∃ x3, rL w 29 (z1).toNat x3 ∧ r = (some (.long (jL x3)), w)))) : xCall 127 [.ref 28, .int (jI z1)] w r := E_127 (Z_127_0 hC h)
theorem Z_128_0 {z1 : Int} {w : xW} {r : Option Value × xW} (hC : CS w) (h : xGo 128 4 [some (.ref 31), some (.int (jI z1)), some (.int (jI 0)), some (.int (jI 0))] [] w r) : xGo 128 0 [some (.ref 31), some (.int (jI z1)), none, none] [] w r := by
  refine g_iconst (pc' := 1) d_128_0 rfl rfl ?_
  refine g_istoren (pc' := 2) (l' := [some (.ref 31), some (.int (jI z1)), some (.int (jI 0)), none]) d_128_1 rfl ml_128 rfl rfl ?_
  refine g_iconst (pc' := 3) d_128_2 rfl rfl ?_
  refine g_istoren (pc' := 4) (l' := [some (.ref 31), some (.int (jI z1)), some (.int (jI 0)), some (.int (jI 0))]) d_128_3 rfl ml_128 rfl rfl ?_
  exact h
theorem Z_128 {z1 : Int} {w : xW} {r : Option Value × xW} (hC : CS w) (h : xGo 128 4 [some (.ref 31), some (.int (jI z1)), some (.int (jI 0)), some (.int (jI 0))] [] w r) : xCall 128 [.ref 31, .int (jI z1)] w r := E_128 (Z_128_0 hC h)
theorem Z_128_4 {z1 : Int} {z2 : Int} {z3 : Int} {w : xW} {r : Option Value × xW} (hC : CS w) (h : ∃ x1, fI w 31 9 3 x1 ∧ in32 z3 ∧ in32 x1 ∧ (x1 ≤ z3 → r = (some (.int (jI z2)), w)) ∧ (z3 < x1 → (100 ≤ z3 → r = (some (.int (jI z2)), w)) ∧ (z3 < 100 → 0 ≤ z3 ∧ ∃ x6, rI w 32 (z3).toNat x6 ∧ in32 x6 ∧ in32 z1 ∧ (x6 ≠ z1 → xGo 128 4 [some (.ref 31), some (.int (jI z1)), some (.int (jI z2)), some (.int (jI (z3 + 1)))] [] w r) ∧ (x6 = z1 → xGo 128 4 [some (.ref 31), some (.int (jI z1)), some (.int (jI (z2 + 1))), some (.int (jI (z3 + 1)))] [] w r)))) : xGo 128 4 [some (.ref 31), some (.int (jI z1)), some (.int (jI z2)), some (.int (jI z3))] [] w r := by
  refine g_iloadn (pc' := 5) d_128_4 rfl rfl ?_
  refine g_aloadn (pc' := 6) d_128_5 rfl rfl ?_
  obtain ⟨x1, hv2, h⟩ := h
  refine gz_getI (pc' := 9) d_128_6 rfl st_128_26 hv2 ?_
  obtain ⟨hc3, h⟩ := h
  obtain ⟨hc4, h⟩ := h
  refine gz_ic_ge (pc' := 12) (pt := 37) d_128_9 (by decide) rfl hc3 hc4 (fun c => ?_) (fun c => ?_)
  · replace h := h.1 c
    refine g_iloadn (pc' := 38) d_128_37 rfl rfl ?_
    exact g_iret d_128_38 rt_128 h
  · replace h := h.2 c
    refine g_iloadn (pc' := 13) d_128_12 rfl rfl ?_
    refine g_bipush (pc' := 15) (v := jI 100) d_128_13 rfl (by decide) ?_
    refine gz_ic_ge (pc' := 18) (pt := 37) d_128_15 (by decide) rfl hc3 (s32 (z := 100)) (fun c => ?_) (fun c => ?_)
    · replace h := h.1 c
      refine g_iloadn (pc' := 38) d_128_37 rfl rfl ?_
      exact g_iret d_128_38 rt_128 h
    · replace h := h.2 c
      refine g_aloadn (pc' := 19) d_128_18 rfl rfl ?_
      refine gz_getR (pc' := 22) d_128_19 rfl st_128_11 (kr_31_1 hC) ?_
      refine g_iloadn (pc' := 23) d_128_22 rfl rfl ?_
      obtain ⟨hc5, h⟩ := h
      obtain ⟨x6, hv7, h⟩ := h
      refine gz_iald (pc' := 24) d_128_23 rfl hc5 hv7 ?_
      refine g_iloadn (pc' := 25) d_128_24 rfl rfl ?_
      obtain ⟨hc8, h⟩ := h
      obtain ⟨hc9, h⟩ := h
      refine gz_ic_ne (pc' := 28) (pt := 31) d_128_25 (by decide) rfl hc8 hc9 (fun c => ?_) (fun c => ?_)
      · replace h := h.1 c
        refine gz_iinc (pc' := 34) (l' := [some (.ref 31), some (.int (jI z1)), some (.int (jI z2)), some (.int (jI (z3 + 1)))]) d_128_31 rfl rfl ml_128 rfl rfl ?_
        refine g_goto (pt := 4) d_128_34 (by decide) ?_
        exact h
      · replace h := h.2 c
        refine gz_iinc (pc' := 31) (l' := [some (.ref 31), some (.int (jI z1)), some (.int (jI (z2 + 1))), some (.int (jI z3))]) d_128_28 rfl rfl ml_128 rfl rfl ?_
        refine gz_iinc (pc' := 34) (l' := [some (.ref 31), some (.int (jI z1)), some (.int (jI (z2 + 1))), some (.int (jI (z3 + 1)))]) d_128_31 rfl rfl ml_128 rfl rfl ?_
        refine g_goto (pt := 4) d_128_34 (by decide) ?_
        exact h
theorem Z_129_0 {z1 : Int} {z2 : Int} {w : xW} {r : Option Value × xW} (hC : CS w) (h : in32 z1 ∧ (z1 < 0 → r = (some (.int (jI (-1))), w)) ∧ (0 ≤ z1 → in32 z2 ∧ (z2 < 0 → r = (some (.int (jI (-1))), w)) ∧ (0 ≤ z2 → (z2 ≤ 1 → ∃ w3, xCall 121 [.ref 31, .int (jI 199)] w (none, w3) ∧ CS w3 ∧ ∃ r9 w6, xCall 130 [.ref 31] w3 (some (.int (jI r9)), w6) ∧ CS w6 ∧ in32 r9 ∧ (z1 < r9 → (z2 ≠ 0 → ∃ r14 w11, xCall 132 [.ref 31, .int (jI z1)] w6 (some (.int (jI r14)), w11) ∧ CS w11 ∧ r = (some (.int (jI r14)), w11)) ∧ (z2 = 0 → ∃ r18 w15, xCall 131 [.ref 31, .int (jI z1)] w6 (some (.int (jI r18)), w15) ∧ CS w15 ∧ r = (some (.int (jI r18)), w15))) ∧ (r9 ≤ z1 → r = (some (.int (jI (-2))), w6))) ∧ (1 < z2 → r = (some (.int (jI (-1))), w))))) : xGo 129 0 [some (.ref 0), some (.int (jI z1)), some (.int (jI z2))] [] w r := by
  refine g_iloadn (pc' := 1) d_129_0 rfl rfl ?_
  obtain ⟨hc1, h⟩ := h
  refine gz_if_lt (pc' := 4) (pt := 13) d_129_1 (by decide) rfl hc1 (fun c => ?_) (fun c => ?_)
  · replace h := h.1 c
    refine g_iconst (pc' := 14) d_129_13 rfl rfl ?_
    exact g_iret d_129_14 rt_129 h
  · replace h := h.2 c
    refine g_iloadn (pc' := 5) d_129_4 rfl rfl ?_
    obtain ⟨hc2, h⟩ := h
    refine gz_if_lt (pc' := 8) (pt := 13) d_129_5 (by decide) rfl hc2 (fun c => ?_) (fun c => ?_)
    · replace h := h.1 c
      refine g_iconst (pc' := 14) d_129_13 rfl rfl ?_
      exact g_iret d_129_14 rt_129 h
    · replace h := h.2 c
      refine g_iloadn (pc' := 9) d_129_8 rfl rfl ?_
      refine g_iconst (pc' := 10) d_129_9 rfl rfl ?_
      refine gz_ic_le (pc' := 13) (pt := 15) d_129_10 (by decide) rfl hc2 (s32 (z := 1)) (fun c => ?_) (fun c => ?_)
      · replace h := h.1 c
        refine g_aloadn (pc' := 16) d_129_15 rfl rfl ?_
        refine gz_getR (pc' := 19) d_129_16 rfl st_129_81 (kr_0_11 hC) ?_
        refine g_sipush (pc' := 22) (v := jI 199) d_129_19 rfl (by decide) ?_
        obtain ⟨w3, hk4, hC5, h⟩ := h
        refine gz_callV (pc' := 25) d_129_22 rfl st_129_287 na_121 ml_121 rfl rfl rfl rm_129_121 rfl rfl ow_121 (ko_31 hC) hk4 ?_
        refine g_iloadn (pc' := 26) d_129_25 rfl rfl ?_
        refine g_aloadn (pc' := 27) d_129_26 rfl rfl ?_
        refine gz_getR (pc' := 30) d_129_27 rfl st_129_81 (kr_0_11 hC5) ?_
        obtain ⟨r9, w6, hk7, hC8, h⟩ := h
        refine gz_callV (pc' := 33) d_129_30 rfl st_129_293 na_130 ml_130 rfl rfl rfl rm_129_130 rfl rfl ow_130 (ko_31 hC5) hk7 ?_
        obtain ⟨hc10, h⟩ := h
        refine gz_ic_lt (pc' := 36) (pt := 39) d_129_33 (by decide) rfl hc1 hc10 (fun c => ?_) (fun c => ?_)
        · replace h := h.1 c
          refine g_iloadn (pc' := 40) d_129_39 rfl rfl ?_
          refine gz_if_ne (pc' := 43) (pt := 54) d_129_40 (by decide) rfl hc2 (fun c => ?_) (fun c => ?_)
          · replace h := h.1 c
            refine g_aloadn (pc' := 55) d_129_54 rfl rfl ?_
            refine gz_getR (pc' := 58) d_129_55 rfl st_129_81 (kr_0_11 hC8) ?_
            refine g_iloadn (pc' := 59) d_129_58 rfl rfl ?_
            obtain ⟨r14, w11, hk12, hC13, h⟩ := h
            refine gz_callV (pc' := 62) d_129_59 rfl st_129_295 na_132 ml_132 rfl rfl rfl rm_129_132 rfl rfl ow_132 (ko_31 hC8) hk12 ?_
            exact g_iret d_129_62 rt_129 h
          · replace h := h.2 c
            refine g_aloadn (pc' := 44) d_129_43 rfl rfl ?_
            refine gz_getR (pc' := 47) d_129_44 rfl st_129_81 (kr_0_11 hC8) ?_
            refine g_iloadn (pc' := 48) d_129_47 rfl rfl ?_
            obtain ⟨r18, w15, hk16, hC17, h⟩ := h
            refine gz_callV (pc' := 51) d_129_48 rfl st_129_294 na_131 ml_131 rfl rfl rfl rm_129_131 rfl rfl ow_131 (ko_31 hC8) hk16 ?_
            refine g_goto (pt := 62) d_129_51 (by decide) ?_
            exact g_iret d_129_62 rt_129 h
        · replace h := h.2 c
          refine g_bipush (pc' := 38) (v := jI (-2)) d_129_36 rfl (by decide) ?_
          exact g_iret d_129_38 rt_129 h
      · replace h := h.2 c
        refine g_iconst (pc' := 14) d_129_13 rfl rfl ?_
        exact g_iret d_129_14 rt_129 h
theorem Z_129 {z1 : Int} {z2 : Int} {w : xW} {r : Option Value × xW} (hC : CS w) (h : in32 z1 ∧ (z1 < 0 → r = (some (.int (jI (-1))), w)) ∧ (0 ≤ z1 → in32 z2 ∧ (z2 < 0 → r = (some (.int (jI (-1))), w)) ∧ (0 ≤ z2 → (z2 ≤ 1 → ∃ w3, xCall 121 [.ref 31, .int (jI 199)] w (none, w3) ∧ CS w3 ∧ ∃ r9 w6, xCall 130 [.ref 31] w3 (some (.int (jI r9)), w6) ∧ CS w6 ∧ in32 r9 ∧ (z1 < r9 → (z2 ≠ 0 → ∃ r14 w11, xCall 132 [.ref 31, .int (jI z1)] w6 (some (.int (jI r14)), w11) ∧ CS w11 ∧ r = (some (.int (jI r14)), w11)) ∧ (z2 = 0 → ∃ r18 w15, xCall 131 [.ref 31, .int (jI z1)] w6 (some (.int (jI r18)), w15) ∧ CS w15 ∧ r = (some (.int (jI r18)), w15))) ∧ (r9 ≤ z1 → r = (some (.int (jI (-2))), w6))) ∧ (1 < z2 → r = (some (.int (jI (-1))), w))))) : xCall 129 [.ref 0, .int (jI z1), .int (jI z2)] w r := E_129 (Z_129_0 hC h)
theorem Z_130_0  {w : xW} {r : Option Value × xW} (hC : CS w) (h : ∃ x1, fI w 31 9 3 x1 ∧ r = (some (.int (jI x1)), w)) : xGo 130 0 [some (.ref 31)] [] w r := by
  refine g_aloadn (pc' := 1) d_130_0 rfl rfl ?_
  obtain ⟨x1, hv2, h⟩ := h
  refine gz_getI (pc' := 4) d_130_1 rfl st_130_26 hv2 ?_
  exact g_iret d_130_4 rt_130 h
theorem Z_130  {w : xW} {r : Option Value × xW} (hC : CS w) (h : ∃ x1, fI w 31 9 3 x1 ∧ r = (some (.int (jI x1)), w)) : xCall 130 [.ref 31] w r := E_130 (Z_130_0 hC h)
theorem Z_131_0 {z1 : Int} {w : xW} {r : Option Value × xW} (hC : CS w) (h : in32 z1 ∧ (z1 < 0 → r = (some (.int (jI (-1))), w)) ∧ (0 ≤ z1 → ∃ x2, fI w 31 9 3 x2 ∧ in32 x2 ∧ (x2 ≤ z1 → r = (some (.int (jI (-1))), w)) ∧ (z1 < x2 → (100 ≤ z1 → r = (some (.int (jI (-1))), w)) ∧ (z1 < 100 → 0 ≤ z1 ∧ ∃ x6, rI w 32 (z1).toNat x6 ∧ r = (some (.int (jI x6)), w))))) : xGo 131 0 [some (.ref 31), some (.int (jI z1))] [] w r := by
  refine g_iloadn (pc' := 1) d_131_0 rfl rfl ?_
  obtain ⟨hc1, h⟩ := h
  refine gz_if_lt (pc' := 4) (pt := 27) d_131_1 (by decide) rfl hc1 (fun c => ?_) (fun c => ?_)
  · replace h := h.1 c
    refine g_iconst (pc' := 28) d_131_27 rfl rfl ?_
    exact g_iret d_131_28 rt_131 h
  · replace h := h.2 c
    refine g_iloadn (pc' := 5) d_131_4 rfl rfl ?_
    refine g_aloadn (pc' := 6) d_131_5 rfl rfl ?_
    obtain ⟨x2, hv3, h⟩ := h
    refine gz_getI (pc' := 9) d_131_6 rfl st_131_26 hv3 ?_
    obtain ⟨hc4, h⟩ := h
    refine gz_ic_ge (pc' := 12) (pt := 27) d_131_9 (by decide) rfl hc1 hc4 (fun c => ?_) (fun c => ?_)
    · replace h := h.1 c
      refine g_iconst (pc' := 28) d_131_27 rfl rfl ?_
      exact g_iret d_131_28 rt_131 h
    · replace h := h.2 c
      refine g_iloadn (pc' := 13) d_131_12 rfl rfl ?_
      refine g_bipush (pc' := 15) (v := jI 100) d_131_13 rfl (by decide) ?_
      refine gz_ic_ge (pc' := 18) (pt := 27) d_131_15 (by decide) rfl hc1 (s32 (z := 100)) (fun c => ?_) (fun c => ?_)
      · replace h := h.1 c
        refine g_iconst (pc' := 28) d_131_27 rfl rfl ?_
        exact g_iret d_131_28 rt_131 h
      · replace h := h.2 c
        refine g_aloadn (pc' := 19) d_131_18 rfl rfl ?_
        refine gz_getR (pc' := 22) d_131_19 rfl st_131_11 (kr_31_1 hC) ?_
        refine g_iloadn (pc' := 23) d_131_22 rfl rfl ?_
        obtain ⟨hc5, h⟩ := h
        obtain ⟨x6, hv7, h⟩ := h
        refine gz_iald (pc' := 24) d_131_23 rfl hc5 hv7 ?_
        refine g_goto (pt := 28) d_131_24 (by decide) ?_
        exact g_iret d_131_28 rt_131 h
theorem Z_131 {z1 : Int} {w : xW} {r : Option Value × xW} (hC : CS w) (h : in32 z1 ∧ (z1 < 0 → r = (some (.int (jI (-1))), w)) ∧ (0 ≤ z1 → ∃ x2, fI w 31 9 3 x2 ∧ in32 x2 ∧ (x2 ≤ z1 → r = (some (.int (jI (-1))), w)) ∧ (z1 < x2 → (100 ≤ z1 → r = (some (.int (jI (-1))), w)) ∧ (z1 < 100 → 0 ≤ z1 ∧ ∃ x6, rI w 32 (z1).toNat x6 ∧ r = (some (.int (jI x6)), w))))) : xCall 131 [.ref 31, .int (jI z1)] w r := E_131 (Z_131_0 hC h)
theorem Z_132_0 {z1 : Int} {w : xW} {r : Option Value × xW} (hC : CS w) (h : in32 z1 ∧ (z1 < 0 → r = (some (.int (jI (-1))), w)) ∧ (0 ≤ z1 → ∃ x2, fI w 31 9 3 x2 ∧ in32 x2 ∧ (x2 ≤ z1 → r = (some (.int (jI (-1))), w)) ∧ (z1 < x2 → (100 ≤ z1 → r = (some (.int (jI (-1))), w)) ∧ (z1 < 100 → 0 ≤ z1 ∧ ∃ x6, rI w 33 (z1).toNat x6 ∧ r = (some (.int (jI x6)), w))))) : xGo 132 0 [some (.ref 31), some (.int (jI z1))] [] w r := by
  refine g_iloadn (pc' := 1) d_132_0 rfl rfl ?_
  obtain ⟨hc1, h⟩ := h
  refine gz_if_lt (pc' := 4) (pt := 27) d_132_1 (by decide) rfl hc1 (fun c => ?_) (fun c => ?_)
  · replace h := h.1 c
    refine g_iconst (pc' := 28) d_132_27 rfl rfl ?_
    exact g_iret d_132_28 rt_132 h
  · replace h := h.2 c
    refine g_iloadn (pc' := 5) d_132_4 rfl rfl ?_
    refine g_aloadn (pc' := 6) d_132_5 rfl rfl ?_
    obtain ⟨x2, hv3, h⟩ := h
    refine gz_getI (pc' := 9) d_132_6 rfl st_132_26 hv3 ?_
    obtain ⟨hc4, h⟩ := h
    refine gz_ic_ge (pc' := 12) (pt := 27) d_132_9 (by decide) rfl hc1 hc4 (fun c => ?_) (fun c => ?_)
    · replace h := h.1 c
      refine g_iconst (pc' := 28) d_132_27 rfl rfl ?_
      exact g_iret d_132_28 rt_132 h
    · replace h := h.2 c
      refine g_iloadn (pc' := 13) d_132_12 rfl rfl ?_
      refine g_bipush (pc' := 15) (v := jI 100) d_132_13 rfl (by decide) ?_
      refine gz_ic_ge (pc' := 18) (pt := 27) d_132_15 (by decide) rfl hc1 (s32 (z := 100)) (fun c => ?_) (fun c => ?_)
      · replace h := h.1 c
        refine g_iconst (pc' := 28) d_132_27 rfl rfl ?_
        exact g_iret d_132_28 rt_132 h
      · replace h := h.2 c
        refine g_aloadn (pc' := 19) d_132_18 rfl rfl ?_
        refine gz_getR (pc' := 22) d_132_19 rfl st_132_15 (kr_31_2 hC) ?_
        refine g_iloadn (pc' := 23) d_132_22 rfl rfl ?_
        obtain ⟨hc5, h⟩ := h
        obtain ⟨x6, hv7, h⟩ := h
        refine gz_iald (pc' := 24) d_132_23 rfl hc5 hv7 ?_
        refine g_goto (pt := 28) d_132_24 (by decide) ?_
        exact g_iret d_132_28 rt_132 h
theorem Z_132 {z1 : Int} {w : xW} {r : Option Value × xW} (hC : CS w) (h : in32 z1 ∧ (z1 < 0 → r = (some (.int (jI (-1))), w)) ∧ (0 ≤ z1 → ∃ x2, fI w 31 9 3 x2 ∧ in32 x2 ∧ (x2 ≤ z1 → r = (some (.int (jI (-1))), w)) ∧ (z1 < x2 → (100 ≤ z1 → r = (some (.int (jI (-1))), w)) ∧ (z1 < 100 → 0 ≤ z1 ∧ ∃ x6, rI w 33 (z1).toNat x6 ∧ r = (some (.int (jI x6)), w))))) : xCall 132 [.ref 31, .int (jI z1)] w r := E_132 (Z_132_0 hC h)
theorem Z_133_0 {z1 : Int} {w : xW} {r : Option Value × xW} (hC : CS w) (h : in32 z1 ∧ (0 ≤ z1 → ∃ w2, xCall 121 [.ref 31, .int (jI 199)] w (none, w2) ∧ CS w2 ∧ ∃ r8 w5, xCall 130 [.ref 31] w2 (some (.int (jI r8)), w5) ∧ CS w5 ∧ in32 r8 ∧ (z1 < r8 → ∃ r13 w10, xCall 131 [.ref 31, .int (jI z1)] w5 (some (.int (jI r13)), w10) ∧ CS w10 ∧ ∃ r17 w14, xCall 132 [.ref 31, .int (jI z1)] w10 (some (.int (jI r17)), w14) ∧ CS w14 ∧ ∃ r21 w18, xCall 134 [.int (jI r13), .int (jI r17)] w14 (some (.int (jI r21)), w18) ∧ CS w18 ∧ r = (some (.int (jI r21)), w18)) ∧ (r8 ≤ z1 → r = (some (.int (jI (-2))), w5))) ∧ (z1 < 0 → r = (some (.int (jI (-1))), w))) : xGo 133 0 [some (.ref 0), some (.int (jI z1))] [] w r := by
  refine g_iloadn (pc' := 1) d_133_0 rfl rfl ?_
  obtain ⟨hc1, h⟩ := h
  refine gz_if_ge (pc' := 4) (pt := 6) d_133_1 (by decide) rfl hc1 (fun c => ?_) (fun c => ?_)
  · replace h := h.1 c
    refine g_aloadn (pc' := 7) d_133_6 rfl rfl ?_
    refine gz_getR (pc' := 10) d_133_7 rfl st_133_81 (kr_0_11 hC) ?_
    refine g_sipush (pc' := 13) (v := jI 199) d_133_10 rfl (by decide) ?_
    obtain ⟨w2, hk3, hC4, h⟩ := h
    refine gz_callV (pc' := 16) d_133_13 rfl st_133_287 na_121 ml_121 rfl rfl rfl rm_133_121 rfl rfl ow_121 (ko_31 hC) hk3 ?_
    refine g_iloadn (pc' := 17) d_133_16 rfl rfl ?_
    refine g_aloadn (pc' := 18) d_133_17 rfl rfl ?_
    refine gz_getR (pc' := 21) d_133_18 rfl st_133_81 (kr_0_11 hC4) ?_
    obtain ⟨r8, w5, hk6, hC7, h⟩ := h
    refine gz_callV (pc' := 24) d_133_21 rfl st_133_293 na_130 ml_130 rfl rfl rfl rm_133_130 rfl rfl ow_130 (ko_31 hC4) hk6 ?_
    obtain ⟨hc9, h⟩ := h
    refine gz_ic_lt (pc' := 27) (pt := 30) d_133_24 (by decide) rfl hc1 hc9 (fun c => ?_) (fun c => ?_)
    · replace h := h.1 c
      refine g_aloadn (pc' := 31) d_133_30 rfl rfl ?_
      refine gz_getR (pc' := 34) d_133_31 rfl st_133_81 (kr_0_11 hC7) ?_
      refine g_iloadn (pc' := 35) d_133_34 rfl rfl ?_
      obtain ⟨r13, w10, hk11, hC12, h⟩ := h
      refine gz_callV (pc' := 38) d_133_35 rfl st_133_294 na_131 ml_131 rfl rfl rfl rm_133_131 rfl rfl ow_131 (ko_31 hC7) hk11 ?_
      refine g_aloadn (pc' := 39) d_133_38 rfl rfl ?_
      refine gz_getR (pc' := 42) d_133_39 rfl st_133_81 (kr_0_11 hC12) ?_
      refine g_iloadn (pc' := 43) d_133_42 rfl rfl ?_
      obtain ⟨r17, w14, hk15, hC16, h⟩ := h
      refine gz_callV (pc' := 46) d_133_43 rfl st_133_295 na_132 ml_132 rfl rfl rfl rm_133_132 rfl rfl ow_132 (ko_31 hC12) hk15 ?_
      obtain ⟨r21, w18, hk19, hC20, h⟩ := h
      refine g_callS (pc' := 49) d_133_46 rfl st_133_298 (Or.inl rfl) na_134 ml_134 rfl rfl rfl rm_133_134 rfl rfl hk19 ?_
      exact g_iret d_133_49 rt_133 h
    · replace h := h.2 c
      refine g_bipush (pc' := 29) (v := jI (-2)) d_133_27 rfl (by decide) ?_
      exact g_iret d_133_29 rt_133 h
  · replace h := h.2 c
    refine g_iconst (pc' := 5) d_133_4 rfl rfl ?_
    exact g_iret d_133_5 rt_133 h
theorem Z_133 {z1 : Int} {w : xW} {r : Option Value × xW} (hC : CS w) (h : in32 z1 ∧ (0 ≤ z1 → ∃ w2, xCall 121 [.ref 31, .int (jI 199)] w (none, w2) ∧ CS w2 ∧ ∃ r8 w5, xCall 130 [.ref 31] w2 (some (.int (jI r8)), w5) ∧ CS w5 ∧ in32 r8 ∧ (z1 < r8 → ∃ r13 w10, xCall 131 [.ref 31, .int (jI z1)] w5 (some (.int (jI r13)), w10) ∧ CS w10 ∧ ∃ r17 w14, xCall 132 [.ref 31, .int (jI z1)] w10 (some (.int (jI r17)), w14) ∧ CS w14 ∧ ∃ r21 w18, xCall 134 [.int (jI r13), .int (jI r17)] w14 (some (.int (jI r21)), w18) ∧ CS w18 ∧ r = (some (.int (jI r21)), w18)) ∧ (r8 ≤ z1 → r = (some (.int (jI (-2))), w5))) ∧ (z1 < 0 → r = (some (.int (jI (-1))), w))) : xCall 133 [.ref 0, .int (jI z1)] w r := E_133 (Z_133_0 hC h)
theorem Z_134_0 {z0 : Int} {z1 : Int} {w : xW} {r : Option Value × xW} (hC : CS w) (h : in32 z0 ∧ (3 ≤ z0 → ∃ r5 w2, xCall 135 [.int (jI z1), .int (jI z0)] w (some (.long (jL r5)), w2) ∧ CS w2 ∧ ∃ r9 w6, xCall 135 [.int (jI ((z1 + z0) - 1)), .int (jI z0)] w2 (some (.long (jL r9)), w6) ∧ CS w6 ∧ xGo 134 38 [some (.int (jI z0)), some (.int (jI z1)), some (.long (jL (z0 * z0))), none, some (.long (jL r5)), none, some (.long (jL (r9 - r5))), none, some (.int (jI 0))] [] w6 r) ∧ (z0 < 3 → r = (some (.int (jI (-3))), w))) : xGo 134 0 [some (.int (jI z0)), some (.int (jI z1)), none, none, none, none, none, none, none] [] w r := by
  refine g_iloadn (pc' := 1) d_134_0 rfl rfl ?_
  refine g_iconst (pc' := 2) d_134_1 rfl rfl ?_
  obtain ⟨hc1, h⟩ := h
  refine gz_ic_ge (pc' := 5) (pt := 8) d_134_2 (by decide) rfl hc1 (s32 (z := 3)) (fun c => ?_) (fun c => ?_)
  · replace h := h.1 c
    refine g_iloadn (pc' := 9) d_134_8 rfl rfl ?_
    refine gz_i2l (pc' := 10) d_134_9 rfl hc1 ?_
    refine g_iloadn (pc' := 11) d_134_10 rfl rfl ?_
    refine gz_i2l (pc' := 12) d_134_11 rfl hc1 ?_
    refine gz_lmul (pc' := 13) d_134_12 rfl ?_
    refine g_lstoren (pc' := 14) (l' := [some (.int (jI z0)), some (.int (jI z1)), some (.long (jL (z0 * z0))), none, none, none, none, none, none]) d_134_13 rfl ml_134 rfl rfl ?_
    refine g_iloadn (pc' := 15) d_134_14 rfl rfl ?_
    refine g_iloadn (pc' := 16) d_134_15 rfl rfl ?_
    obtain ⟨r5, w2, hk3, hC4, h⟩ := h
    refine g_callS (pc' := 19) d_134_16 rfl st_134_458 (Or.inl rfl) na_135 ml_135 rfl rfl rfl rm_134_135 rfl rfl hk3 ?_
    refine g_lstore (pc' := 21) (l' := [some (.int (jI z0)), some (.int (jI z1)), some (.long (jL (z0 * z0))), none, some (.long (jL r5)), none, none, none, none]) d_134_19 rfl ml_134 rfl rfl ?_
    refine g_iloadn (pc' := 22) d_134_21 rfl rfl ?_
    refine g_iloadn (pc' := 23) d_134_22 rfl rfl ?_
    refine gz_iadd (pc' := 24) d_134_23 rfl ?_
    refine g_iconst (pc' := 25) d_134_24 rfl rfl ?_
    refine gz_isub (pc' := 26) d_134_25 rfl ?_
    refine g_iloadn (pc' := 27) d_134_26 rfl rfl ?_
    obtain ⟨r9, w6, hk7, hC8, h⟩ := h
    refine g_callS (pc' := 30) d_134_27 rfl st_134_458 (Or.inl rfl) na_135 ml_135 rfl rfl rfl rm_134_135 rfl rfl hk7 ?_
    refine g_lload (pc' := 32) d_134_30 rfl rfl ?_
    refine gz_lsub (pc' := 33) d_134_32 rfl ?_
    refine g_lstore (pc' := 35) (l' := [some (.int (jI z0)), some (.int (jI z1)), some (.long (jL (z0 * z0))), none, some (.long (jL r5)), none, some (.long (jL (r9 - r5))), none, none]) d_134_33 rfl ml_134 rfl rfl ?_
    refine g_iconst (pc' := 36) d_134_35 rfl rfl ?_
    refine g_istore (pc' := 38) (l' := [some (.int (jI z0)), some (.int (jI z1)), some (.long (jL (z0 * z0))), none, some (.long (jL r5)), none, some (.long (jL (r9 - r5))), none, some (.int (jI 0))]) d_134_36 rfl ml_134 rfl rfl ?_
    exact h
  · replace h := h.2 c
    refine g_bipush (pc' := 7) (v := jI (-3)) d_134_5 rfl (by decide) ?_
    exact g_iret d_134_7 rt_134 h
theorem Z_134 {z0 : Int} {z1 : Int} {w : xW} {r : Option Value × xW} (hC : CS w) (h : in32 z0 ∧ (3 ≤ z0 → ∃ r5 w2, xCall 135 [.int (jI z1), .int (jI z0)] w (some (.long (jL r5)), w2) ∧ CS w2 ∧ ∃ r9 w6, xCall 135 [.int (jI ((z1 + z0) - 1)), .int (jI z0)] w2 (some (.long (jL r9)), w6) ∧ CS w6 ∧ xGo 134 38 [some (.int (jI z0)), some (.int (jI z1)), some (.long (jL (z0 * z0))), none, some (.long (jL r5)), none, some (.long (jL (r9 - r5))), none, some (.int (jI 0))] [] w6 r) ∧ (z0 < 3 → r = (some (.int (jI (-3))), w))) : xCall 134 [.int (jI z0), .int (jI z1)] w r := E_134 (Z_134_0 hC h)
theorem Z_134_38 {z0 : Int} {z1 : Int} {z2 : Int} {z4 : Int} {z6 : Int} {z8 : Int} {w : xW} {r : Option Value × xW} (hC : CS w) (h : in32 z8 ∧ in32 z0 ∧ (z0 ≤ z8 → r = (some (.int (jI (-3))), w)) ∧ (z8 < z0 → ∃ r6 w3, xCall 54 [.long (jL (z4 + (z8 * z6))), .long (jL z2)] w (some (.long (jL r6)), w3) ∧ CS w3 ∧ in64 r6 ∧ (r6 ≠ 0 → xGo 134 38 [some (.int (jI z0)), some (.int (jI z1)), some (.long (jL z2)), none, some (.long (jL z4)), none, some (.long (jL z6)), none, some (.int (jI (z8 + 1)))] [] w3 r) ∧ (r6 = 0 → r = (some (.int (jI (z1 + (z8 * (z0 - 1))))), w3)))) : xGo 134 38 [some (.int (jI z0)), some (.int (jI z1)), some (.long (jL z2)), none, some (.long (jL z4)), none, some (.long (jL z6)), none, some (.int (jI z8))] [] w r := by
  refine g_iload (pc' := 40) d_134_38 rfl rfl ?_
  refine g_iloadn (pc' := 41) d_134_40 rfl rfl ?_
  obtain ⟨hc1, h⟩ := h
  obtain ⟨hc2, h⟩ := h
  refine gz_ic_ge (pc' := 44) (pt := 77) d_134_41 (by decide) rfl hc1 hc2 (fun c => ?_) (fun c => ?_)
  · replace h := h.1 c
    refine g_bipush (pc' := 79) (v := jI (-3)) d_134_77 rfl (by decide) ?_
    exact g_iret d_134_79 rt_134 h
  · replace h := h.2 c
    refine g_lload (pc' := 46) d_134_44 rfl rfl ?_
    refine g_iload (pc' := 48) d_134_46 rfl rfl ?_
    refine gz_i2l (pc' := 49) d_134_48 rfl hc1 ?_
    refine g_lload (pc' := 51) d_134_49 rfl rfl ?_
    refine gz_lmul (pc' := 52) d_134_51 rfl ?_
    refine gz_ladd (pc' := 53) d_134_52 rfl ?_
    refine g_lloadn (pc' := 54) d_134_53 rfl rfl ?_
    obtain ⟨r6, w3, hk4, hC5, h⟩ := h
    refine g_callS (pc' := 57) d_134_54 rfl st_134_306 (Or.inl rfl) na_54 ml_54 rfl rfl rfl rm_134_54 rfl rfl hk4 ?_
    refine g_lconst (pc' := 58) (v := jL 0) d_134_57 rfl cl_0 ?_
    obtain ⟨hc7, h⟩ := h
    refine gz_lc_ne (pc' := 62) (pm := 59) (pt := 71) d_134_58 rfl d_134_59 (by decide) rfl hc7 (s64 (z := 0)) (fun c => ?_) (fun c => ?_)
    · replace h := h.1 c
      refine gz_iinc (pc' := 74) (l' := [some (.int (jI z0)), some (.int (jI z1)), some (.long (jL z2)), none, some (.long (jL z4)), none, some (.long (jL z6)), none, some (.int (jI (z8 + 1)))]) d_134_71 rfl rfl ml_134 rfl rfl ?_
      refine g_goto (pt := 38) d_134_74 (by decide) ?_
      exact h
    · replace h := h.2 c
      refine g_iloadn (pc' := 63) d_134_62 rfl rfl ?_
      refine g_iload (pc' := 65) d_134_63 rfl rfl ?_
      refine g_iloadn (pc' := 66) d_134_65 rfl rfl ?_
      refine g_iconst (pc' := 67) d_134_66 rfl rfl ?_
      refine gz_isub (pc' := 68) d_134_67 rfl ?_
      refine gz_imul (pc' := 69) d_134_68 rfl ?_
      refine gz_iadd (pc' := 70) d_134_69 rfl ?_
      exact g_iret d_134_70 rt_134 h
theorem Z_135_0 {z0 : Int} {z1 : Int} {w : xW} {r : Option Value × xW} (hC : CS w) (h : in32 z1 ∧ (3 ≤ z1 → ∃ r5 w2, xCall 49 [.int (jI z0), .int (jI z1), .long (jL ((z1 * z1) * z1))] w (some (.long (jL r5)), w2) ∧ CS w2 ∧ in64 r5 ∧ z1 ≠ 0 ∧ ∃ y8, Int.tdiv r5 z1 = y8 ∧ in32 z0 ∧ ∃ r14 w11, xCall 53 [.long (jL z0), .long (jL (z1 * z1))] w2 (some (.long (jL r14)), w11) ∧ CS w11 ∧ in64 (y8 * r14) ∧ in64 (z1 * z1) ∧ z1 * z1 ≠ 0 ∧ ∃ y18, Int.tmod (y8 * r14) (z1 * z1) = y18 ∧ r = (some (.long (jL y18)), w11)) ∧ (z1 < 3 → r = (some (.long (jL 0)), w))) : xGo 135 0 [some (.int (jI z0)), some (.int (jI z1)), none, none, none, none] [] w r := by
  refine g_iloadn (pc' := 1) d_135_0 rfl rfl ?_
  refine g_iconst (pc' := 2) d_135_1 rfl rfl ?_
  obtain ⟨hc1, h⟩ := h
  refine gz_ic_ge (pc' := 5) (pt := 7) d_135_2 (by decide) rfl hc1 (s32 (z := 3)) (fun c => ?_) (fun c => ?_)
  · replace h := h.1 c
    refine g_iloadn (pc' := 8) d_135_7 rfl rfl ?_
    refine gz_i2l (pc' := 9) d_135_8 rfl hc1 ?_
    refine g_iloadn (pc' := 10) d_135_9 rfl rfl ?_
    refine gz_i2l (pc' := 11) d_135_10 rfl hc1 ?_
    refine gz_lmul (pc' := 12) d_135_11 rfl ?_
    refine g_lstoren (pc' := 13) (l' := [some (.int (jI z0)), some (.int (jI z1)), some (.long (jL (z1 * z1))), none, none, none]) d_135_12 rfl ml_135 rfl rfl ?_
    refine g_iloadn (pc' := 14) d_135_13 rfl rfl ?_
    refine g_iloadn (pc' := 15) d_135_14 rfl rfl ?_
    refine g_lloadn (pc' := 16) d_135_15 rfl rfl ?_
    refine g_iloadn (pc' := 17) d_135_16 rfl rfl ?_
    refine gz_i2l (pc' := 18) d_135_17 rfl hc1 ?_
    refine gz_lmul (pc' := 19) d_135_18 rfl ?_
    obtain ⟨r5, w2, hk3, hC4, h⟩ := h
    refine g_callS (pc' := 22) d_135_19 rfl st_135_437 (Or.inl rfl) na_49 ml_49 rfl rfl rfl rm_135_49 rfl rfl hk3 ?_
    refine g_iloadn (pc' := 23) d_135_22 rfl rfl ?_
    refine gz_i2l (pc' := 24) d_135_23 rfl hc1 ?_
    obtain ⟨hc6, h⟩ := h
    obtain ⟨hc7, h⟩ := h
    obtain ⟨y8, hz9, h⟩ := h
    refine gz_ldiv (pc' := 25) d_135_24 rfl hc6 (in3264 hc1) hc7 hz9 ?_
    refine g_lstore (pc' := 27) (l' := [some (.int (jI z0)), some (.int (jI z1)), some (.long (jL (z1 * z1))), none, some (.long (jL y8)), none]) d_135_25 rfl ml_135 rfl rfl ?_
    refine g_lload (pc' := 29) d_135_27 rfl rfl ?_
    refine g_iloadn (pc' := 30) d_135_29 rfl rfl ?_
    obtain ⟨hc10, h⟩ := h
    refine gz_i2l (pc' := 31) d_135_30 rfl hc10 ?_
    refine g_lloadn (pc' := 32) d_135_31 rfl rfl ?_
    obtain ⟨r14, w11, hk12, hC13, h⟩ := h
    refine g_callS (pc' := 35) d_135_32 rfl st_135_316 (Or.inl rfl) na_53 ml_53 rfl rfl rfl rm_135_53 rfl rfl hk12 ?_
    refine gz_lmul (pc' := 36) d_135_35 rfl ?_
    refine g_lloadn (pc' := 37) d_135_36 rfl rfl ?_
    obtain ⟨hc15, h⟩ := h
    obtain ⟨hc16, h⟩ := h
    obtain ⟨hc17, h⟩ := h
    obtain ⟨y18, hz19, h⟩ := h
    refine gz_lrem (pc' := 38) d_135_37 rfl hc15 hc16 hc17 hz19 ?_
    exact g_lret d_135_38 rt_135 h
  · replace h := h.2 c
    refine g_lconst (pc' := 6) (v := jL 0) d_135_5 rfl cl_0 ?_
    exact g_lret d_135_6 rt_135 h
theorem Z_135 {z0 : Int} {z1 : Int} {w : xW} {r : Option Value × xW} (hC : CS w) (h : in32 z1 ∧ (3 ≤ z1 → ∃ r5 w2, xCall 49 [.int (jI z0), .int (jI z1), .long (jL ((z1 * z1) * z1))] w (some (.long (jL r5)), w2) ∧ CS w2 ∧ in64 r5 ∧ z1 ≠ 0 ∧ ∃ y8, Int.tdiv r5 z1 = y8 ∧ in32 z0 ∧ ∃ r14 w11, xCall 53 [.long (jL z0), .long (jL (z1 * z1))] w2 (some (.long (jL r14)), w11) ∧ CS w11 ∧ in64 (y8 * r14) ∧ in64 (z1 * z1) ∧ z1 * z1 ≠ 0 ∧ ∃ y18, Int.tmod (y8 * r14) (z1 * z1) = y18 ∧ r = (some (.long (jL y18)), w11)) ∧ (z1 < 3 → r = (some (.long (jL 0)), w))) : xCall 135 [.int (jI z0), .int (jI z1)] w r := E_135 (Z_135_0 hC h)
theorem Z_136_0 {z1 : Int} {z2 : Int} {w : xW} {r : Option Value × xW} (hC : CS w) (h : in32 z1 ∧ (z1 < 2 → r = (some (.int (jI (-1))), w)) ∧ (2 ≤ z1 → (1000000 < z1 → r = (some (.int (jI (-1))), w)) ∧ (z1 ≤ 1000000 → ∃ y2, Int.tmod z1 2 = y2 ∧ in32 y2 ∧ (y2 ≠ 0 → r = (some (.int (jI (-1))), w)) ∧ (y2 = 0 → ∃ (P8 : Prop) (dP9 : Decidable P8) (w5 : xW), xCall 84 [.int (jI z2)] w (some (.int (bz P8)), w5) ∧ CS w5 ∧ (P8 → in32 (z2 - 1) ∧ z2 - 1 ≠ 0 ∧ ∃ y12, Int.tmod z1 (z2 - 1) = y12 ∧ in32 y12 ∧ (y12 ≠ 0 → ∃ r18 w15, xCall 91 [.int (jI z1), .int (jI z2)] w5 (some (.long (jL r18)), w15) ∧ CS w15 ∧ r = (some (.int (jI r18)), w15)) ∧ (y12 = 0 → r = (some (.int (jI (-3))), w5))) ∧ (¬ P8 → r = (some (.int (jI (-1))), w5)))))) : xGo 136 0 [some (.ref 0), some (.int (jI z1)), some (.int (jI z2))] [] w r := by
  refine g_iloadn (pc' := 1) d_136_0 rfl rfl ?_
  refine g_iconst (pc' := 2) d_136_1 rfl rfl ?_
  obtain ⟨hc1, h⟩ := h
  refine gz_ic_lt (pc' := 5) (pt := 25) d_136_2 (by decide) rfl hc1 (s32 (z := 2)) (fun c => ?_) (fun c => ?_)
  · replace h := h.1 c
    refine g_iconst (pc' := 26) d_136_25 rfl rfl ?_
    exact g_iret d_136_26 rt_136 h
  · replace h := h.2 c
    refine g_iloadn (pc' := 6) d_136_5 rfl rfl ?_
    refine g_ldcw (pc' := 9) d_136_6 rfl st_136_301 rfl ?_
    refine gz_ic_gt (pc' := 12) (pt := 25) d_136_9 (by decide) rfl hc1 (s32 (z := 1000000)) (fun c => ?_) (fun c => ?_)
    · replace h := h.1 c
      refine g_iconst (pc' := 26) d_136_25 rfl rfl ?_
      exact g_iret d_136_26 rt_136 h
    · replace h := h.2 c
      refine g_iloadn (pc' := 13) d_136_12 rfl rfl ?_
      refine g_iconst (pc' := 14) d_136_13 rfl rfl ?_
      obtain ⟨y2, hz3, h⟩ := h
      refine gz_irem (pc' := 15) d_136_14 rfl hc1 (s32 (z := 2)) (by decide) hz3 ?_
      obtain ⟨hc4, h⟩ := h
      refine gz_if_ne (pc' := 18) (pt := 25) d_136_15 (by decide) rfl hc4 (fun c => ?_) (fun c => ?_)
      · replace h := h.1 c
        refine g_iconst (pc' := 26) d_136_25 rfl rfl ?_
        exact g_iret d_136_26 rt_136 h
      · replace h := h.2 c
        refine g_iloadn (pc' := 19) d_136_18 rfl rfl ?_
        obtain ⟨P8, dP9, w5, hk6, hC7, h⟩ := h
        refine g_callS (pc' := 22) d_136_19 rfl st_136_222 (Or.inl rfl) na_84 ml_84 rfl rfl rfl rm_136_84 rfl rfl hk6 ?_
        refine gz_bt_ne (pc' := 25) (pt := 27) d_136_22 (by decide) rfl (fun c => ?_) (fun c => ?_)
        · replace h := h.1 c
          refine g_iloadn (pc' := 28) d_136_27 rfl rfl ?_
          refine g_iloadn (pc' := 29) d_136_28 rfl rfl ?_
          refine g_iconst (pc' := 30) d_136_29 rfl rfl ?_
          refine gz_isub (pc' := 31) d_136_30 rfl ?_
          obtain ⟨hc10, h⟩ := h
          obtain ⟨hc11, h⟩ := h
          obtain ⟨y12, hz13, h⟩ := h
          refine gz_irem (pc' := 32) d_136_31 rfl hc1 hc10 hc11 hz13 ?_
          obtain ⟨hc14, h⟩ := h
          refine gz_if_ne (pc' := 35) (pt := 40) d_136_32 (by decide) rfl hc14 (fun c => ?_) (fun c => ?_)
          · replace h := h.1 c
            refine g_iloadn (pc' := 41) d_136_40 rfl rfl ?_
            refine g_iloadn (pc' := 42) d_136_41 rfl rfl ?_
            obtain ⟨r18, w15, hk16, hC17, h⟩ := h
            refine g_callS (pc' := 45) d_136_42 rfl st_136_232 (Or.inl rfl) na_91 ml_91 rfl rfl rfl rm_136_91 rfl rfl hk16 ?_
            refine gz_l2i (pc' := 46) d_136_45 rfl ?_
            exact g_iret d_136_46 rt_136 h
          · replace h := h.2 c
            refine g_bipush (pc' := 37) (v := jI (-3)) d_136_35 rfl (by decide) ?_
            refine g_goto (pt := 46) d_136_37 (by decide) ?_
            exact g_iret d_136_46 rt_136 h
        · replace h := h.2 c
          refine g_iconst (pc' := 26) d_136_25 rfl rfl ?_
          exact g_iret d_136_26 rt_136 h
theorem Z_136 {z1 : Int} {z2 : Int} {w : xW} {r : Option Value × xW} (hC : CS w) (h : in32 z1 ∧ (z1 < 2 → r = (some (.int (jI (-1))), w)) ∧ (2 ≤ z1 → (1000000 < z1 → r = (some (.int (jI (-1))), w)) ∧ (z1 ≤ 1000000 → ∃ y2, Int.tmod z1 2 = y2 ∧ in32 y2 ∧ (y2 ≠ 0 → r = (some (.int (jI (-1))), w)) ∧ (y2 = 0 → ∃ (P8 : Prop) (dP9 : Decidable P8) (w5 : xW), xCall 84 [.int (jI z2)] w (some (.int (bz P8)), w5) ∧ CS w5 ∧ (P8 → in32 (z2 - 1) ∧ z2 - 1 ≠ 0 ∧ ∃ y12, Int.tmod z1 (z2 - 1) = y12 ∧ in32 y12 ∧ (y12 ≠ 0 → ∃ r18 w15, xCall 91 [.int (jI z1), .int (jI z2)] w5 (some (.long (jL r18)), w15) ∧ CS w15 ∧ r = (some (.int (jI r18)), w15)) ∧ (y12 = 0 → r = (some (.int (jI (-3))), w5))) ∧ (¬ P8 → r = (some (.int (jI (-1))), w5)))))) : xCall 136 [.ref 0, .int (jI z1), .int (jI z2)] w r := E_136 (Z_136_0 hC h)
theorem Z_137_0 {z1 : Int} {z2 : Int} {z3 : Int} {w : xW} {r : Option Value × xW} (hC : CS w) (h : ∃ (P4 : Prop) (dP5 : Decidable P4) (w1 : xW), xCall 24 [.int (jI z1)] w (some (.int (bz P4)), w1) ∧ CS w1 ∧ (¬ P4 → r = (some (.int (jI (-1))), w1)) ∧ (P4 → ∃ (P9 : Prop) (dP10 : Decidable P9) (w6 : xW), xCall 47 [.int (jI z1)] w1 (some (.int (bz P9)), w6) ∧ CS w6 ∧ (¬ P9 → r = (some (.int (jI (-1))), w6)) ∧ (P9 → ∃ (P14 : Prop) (dP15 : Decidable P14) (w11 : xW), xCall 84 [.int (jI z3)] w6 (some (.int (bz P14)), w11) ∧ CS w11 ∧ (¬ P14 → r = (some (.int (jI (-1))), w11)) ∧ (P14 → in32 z2 ∧ (z2 < 1 → r = (some (.int (jI (-1))), w11)) ∧ (1 ≤ z2 → in32 (z3 - 1) ∧ (z2 ≤ z3 - 1 → xGo 137 41 [some (.ref 0), some (.int (jI z1)), some (.int (jI z2)), some (.int (jI z3)), some (.long (jL 0)), none, some (.int (jI 1)), none] [] w11 r) ∧ (z3 - 1 < z2 → r = (some (.int (jI (-1))), w11))))))) : xGo 137 0 [some (.ref 0), some (.int (jI z1)), some (.int (jI z2)), some (.int (jI z3)), none, none, none, none] [] w r := by
  refine g_iloadn (pc' := 1) d_137_0 rfl rfl ?_
  obtain ⟨P4, dP5, w1, hk2, hC3, h⟩ := h
  refine g_callS (pc' := 4) d_137_1 rfl st_137_120 (Or.inl rfl) na_24 ml_24 rfl rfl rfl rm_137_24 rfl rfl hk2 ?_
  refine gz_bt_eq (pc' := 7) (pt := 33) d_137_4 (by decide) rfl (fun c => ?_) (fun c => ?_)
  · replace h := h.1 c
    refine g_iconst (pc' := 34) d_137_33 rfl rfl ?_
    exact g_iret d_137_34 rt_137 h
  · replace h := h.2 c
    refine g_iloadn (pc' := 8) d_137_7 rfl rfl ?_
    obtain ⟨P9, dP10, w6, hk7, hC8, h⟩ := h
    refine g_callS (pc' := 11) d_137_8 rfl st_137_190 (Or.inl rfl) na_47 ml_47 rfl rfl rfl rm_137_47 rfl rfl hk7 ?_
    refine gz_bt_eq (pc' := 14) (pt := 33) d_137_11 (by decide) rfl (fun c => ?_) (fun c => ?_)
    · replace h := h.1 c
      refine g_iconst (pc' := 34) d_137_33 rfl rfl ?_
      exact g_iret d_137_34 rt_137 h
    · replace h := h.2 c
      refine g_iloadn (pc' := 15) d_137_14 rfl rfl ?_
      obtain ⟨P14, dP15, w11, hk12, hC13, h⟩ := h
      refine g_callS (pc' := 18) d_137_15 rfl st_137_222 (Or.inl rfl) na_84 ml_84 rfl rfl rfl rm_137_84 rfl rfl hk12 ?_
      refine gz_bt_eq (pc' := 21) (pt := 33) d_137_18 (by decide) rfl (fun c => ?_) (fun c => ?_)
      · replace h := h.1 c
        refine g_iconst (pc' := 34) d_137_33 rfl rfl ?_
        exact g_iret d_137_34 rt_137 h
      · replace h := h.2 c
        refine g_iloadn (pc' := 22) d_137_21 rfl rfl ?_
        refine g_iconst (pc' := 23) d_137_22 rfl rfl ?_
        obtain ⟨hc16, h⟩ := h
        refine gz_ic_lt (pc' := 26) (pt := 33) d_137_23 (by decide) rfl hc16 (s32 (z := 1)) (fun c => ?_) (fun c => ?_)
        · replace h := h.1 c
          refine g_iconst (pc' := 34) d_137_33 rfl rfl ?_
          exact g_iret d_137_34 rt_137 h
        · replace h := h.2 c
          refine g_iloadn (pc' := 27) d_137_26 rfl rfl ?_
          refine g_iloadn (pc' := 28) d_137_27 rfl rfl ?_
          refine g_iconst (pc' := 29) d_137_28 rfl rfl ?_
          refine gz_isub (pc' := 30) d_137_29 rfl ?_
          obtain ⟨hc17, h⟩ := h
          refine gz_ic_le (pc' := 33) (pt := 35) d_137_30 (by decide) rfl hc16 hc17 (fun c => ?_) (fun c => ?_)
          · replace h := h.1 c
            refine g_lconst (pc' := 36) (v := jL 0) d_137_35 rfl cl_0 ?_
            refine g_lstore (pc' := 38) (l' := [some (.ref 0), some (.int (jI z1)), some (.int (jI z2)), some (.int (jI z3)), some (.long (jL 0)), none, none, none]) d_137_36 rfl ml_137 rfl rfl ?_
            refine g_iconst (pc' := 39) d_137_38 rfl rfl ?_
            refine g_istore (pc' := 41) (l' := [some (.ref 0), some (.int (jI z1)), some (.int (jI z2)), some (.int (jI z3)), some (.long (jL 0)), none, some (.int (jI 1)), none]) d_137_39 rfl ml_137 rfl rfl ?_
            exact h
          · replace h := h.2 c
            refine g_iconst (pc' := 34) d_137_33 rfl rfl ?_
            exact g_iret d_137_34 rt_137 h
theorem Z_137 {z1 : Int} {z2 : Int} {z3 : Int} {w : xW} {r : Option Value × xW} (hC : CS w) (h : ∃ (P4 : Prop) (dP5 : Decidable P4) (w1 : xW), xCall 24 [.int (jI z1)] w (some (.int (bz P4)), w1) ∧ CS w1 ∧ (¬ P4 → r = (some (.int (jI (-1))), w1)) ∧ (P4 → ∃ (P9 : Prop) (dP10 : Decidable P9) (w6 : xW), xCall 47 [.int (jI z1)] w1 (some (.int (bz P9)), w6) ∧ CS w6 ∧ (¬ P9 → r = (some (.int (jI (-1))), w6)) ∧ (P9 → ∃ (P14 : Prop) (dP15 : Decidable P14) (w11 : xW), xCall 84 [.int (jI z3)] w6 (some (.int (bz P14)), w11) ∧ CS w11 ∧ (¬ P14 → r = (some (.int (jI (-1))), w11)) ∧ (P14 → in32 z2 ∧ (z2 < 1 → r = (some (.int (jI (-1))), w11)) ∧ (1 ≤ z2 → in32 (z3 - 1) ∧ (z2 ≤ z3 - 1 → xGo 137 41 [some (.ref 0), some (.int (jI z1)), some (.int (jI z2)), some (.int (jI z3)), some (.long (jL 0)), none, some (.int (jI 1)), none] [] w11 r) ∧ (z3 - 1 < z2 → r = (some (.int (jI (-1))), w11))))))) : xCall 137 [.ref 0, .int (jI z1), .int (jI z2), .int (jI z3)] w r := E_137 (Z_137_0 hC h)
theorem Z_137_41 {z1 : Int} {z2 : Int} {z3 : Int} {z4 : Int} {z6 : Int} {w : xW} {r : Option Value × xW} (hC : CS w) (h : in32 z6 ∧ in32 z3 ∧ (z3 ≤ z6 → in32 z1 ∧ in32 z2 ∧ ∃ r8 w5, xCall 50 [.long (jL z2), .int (jI (z1 - 1)), .long (jL z3)] w (some (.long (jL r8)), w5) ∧ CS w5 ∧ in64 z4 ∧ z3 ≠ 0 ∧ ∃ y11, Int.tmod z4 z3 = y11 ∧ ∃ r16 w13, xCall 54 [.long (jL (y11 * (z1 * r8))), .long (jL z3)] w5 (some (.long (jL r16)), w13) ∧ CS w13 ∧ r = (some (.int (jI r16)), w13)) ∧ (z6 < z3 → ∃ r20 w17, xCall 50 [.long (jL z6), .int (jI (z1 - 1)), .long (jL z3)] w (some (.long (jL r20)), w17) ∧ CS w17 ∧ in32 (z6 * z2) ∧ z3 ≠ 0 ∧ ∃ y23, Int.tdiv (z6 * z2) z3 = y23 ∧ in32 y23 ∧ xGo 137 41 [some (.ref 0), some (.int (jI z1)), some (.int (jI z2)), some (.int (jI z3)), some (.long (jL (z4 + (r20 * y23)))), none, some (.int (jI (z6 + 1))), none] [] w17 r)) : xGo 137 41 [some (.ref 0), some (.int (jI z1)), some (.int (jI z2)), some (.int (jI z3)), some (.long (jL z4)), none, some (.int (jI z6)), none] [] w r := by
  refine g_iload (pc' := 43) d_137_41 rfl rfl ?_
  refine g_iloadn (pc' := 44) d_137_43 rfl rfl ?_
  obtain ⟨hc1, h⟩ := h
  obtain ⟨hc2, h⟩ := h
  refine gz_ic_ge (pc' := 47) (pt := 77) d_137_44 (by decide) rfl hc1 hc2 (fun c => ?_) (fun c => ?_)
  · replace h := h.1 c
    refine g_iloadn (pc' := 78) d_137_77 rfl rfl ?_
    obtain ⟨hc3, h⟩ := h
    refine gz_i2l (pc' := 79) d_137_78 rfl hc3 ?_
    refine g_iloadn (pc' := 80) d_137_79 rfl rfl ?_
    obtain ⟨hc4, h⟩ := h
    refine gz_i2l (pc' := 81) d_137_80 rfl hc4 ?_
    refine g_iloadn (pc' := 82) d_137_81 rfl rfl ?_
    refine g_iconst (pc' := 83) d_137_82 rfl rfl ?_
    refine gz_isub (pc' := 84) d_137_83 rfl ?_
    refine g_iloadn (pc' := 85) d_137_84 rfl rfl ?_
    refine gz_i2l (pc' := 86) d_137_85 rfl hc2 ?_
    obtain ⟨r8, w5, hk6, hC7, h⟩ := h
    refine g_callS (pc' := 89) d_137_86 rfl st_137_302 (Or.inl rfl) na_50 ml_50 rfl rfl rfl rm_137_50 rfl rfl hk6 ?_
    refine gz_lmul (pc' := 90) d_137_89 rfl ?_
    refine g_lstore (pc' := 92) (l' := [some (.ref 0), some (.int (jI z1)), some (.int (jI z2)), some (.int (jI z3)), some (.long (jL z4)), none, some (.long (jL (z1 * r8))), none]) d_137_90 rfl ml_137 rfl rfl ?_
    refine g_lload (pc' := 94) d_137_92 rfl rfl ?_
    refine g_iloadn (pc' := 95) d_137_94 rfl rfl ?_
    refine gz_i2l (pc' := 96) d_137_95 rfl hc2 ?_
    obtain ⟨hc9, h⟩ := h
    obtain ⟨hc10, h⟩ := h
    obtain ⟨y11, hz12, h⟩ := h
    refine gz_lrem (pc' := 97) d_137_96 rfl hc9 (in3264 hc2) hc10 hz12 ?_
    refine g_lload (pc' := 99) d_137_97 rfl rfl ?_
    refine gz_lmul (pc' := 100) d_137_99 rfl ?_
    refine g_iloadn (pc' := 101) d_137_100 rfl rfl ?_
    refine gz_i2l (pc' := 102) d_137_101 rfl hc2 ?_
    obtain ⟨r16, w13, hk14, hC15, h⟩ := h
    refine g_callS (pc' := 105) d_137_102 rfl st_137_306 (Or.inl rfl) na_54 ml_54 rfl rfl rfl rm_137_54 rfl rfl hk14 ?_
    refine gz_l2i (pc' := 106) d_137_105 rfl ?_
    exact g_iret d_137_106 rt_137 h
  · replace h := h.2 c
    refine g_lload (pc' := 49) d_137_47 rfl rfl ?_
    refine g_iload (pc' := 51) d_137_49 rfl rfl ?_
    refine gz_i2l (pc' := 52) d_137_51 rfl hc1 ?_
    refine g_iloadn (pc' := 53) d_137_52 rfl rfl ?_
    refine g_iconst (pc' := 54) d_137_53 rfl rfl ?_
    refine gz_isub (pc' := 55) d_137_54 rfl ?_
    refine g_iloadn (pc' := 56) d_137_55 rfl rfl ?_
    refine gz_i2l (pc' := 57) d_137_56 rfl hc2 ?_
    obtain ⟨r20, w17, hk18, hC19, h⟩ := h
    refine g_callS (pc' := 60) d_137_57 rfl st_137_302 (Or.inl rfl) na_50 ml_50 rfl rfl rfl rm_137_50 rfl rfl hk18 ?_
    refine g_iload (pc' := 62) d_137_60 rfl rfl ?_
    refine g_iloadn (pc' := 63) d_137_62 rfl rfl ?_
    refine gz_imul (pc' := 64) d_137_63 rfl ?_
    refine g_iloadn (pc' := 65) d_137_64 rfl rfl ?_
    obtain ⟨hc21, h⟩ := h
    obtain ⟨hc22, h⟩ := h
    obtain ⟨y23, hz24, h⟩ := h
    refine gz_idiv (pc' := 66) d_137_65 rfl hc21 hc2 hc22 hz24 ?_
    obtain ⟨hc25, h⟩ := h
    refine gz_i2l (pc' := 67) d_137_66 rfl hc25 ?_
    refine gz_lmul (pc' := 68) d_137_67 rfl ?_
    refine gz_ladd (pc' := 69) d_137_68 rfl ?_
    refine g_lstore (pc' := 71) (l' := [some (.ref 0), some (.int (jI z1)), some (.int (jI z2)), some (.int (jI z3)), some (.long (jL (z4 + (r20 * y23)))), none, some (.int (jI z6)), none]) d_137_69 rfl ml_137 rfl rfl ?_
    refine gz_iinc (pc' := 74) (l' := [some (.ref 0), some (.int (jI z1)), some (.int (jI z2)), some (.int (jI z3)), some (.long (jL (z4 + (r20 * y23)))), none, some (.int (jI (z6 + 1))), none]) d_137_71 rfl rfl ml_137 rfl rfl ?_
    refine g_goto (pt := 41) d_137_74 (by decide) ?_
    exact h
