/-! Z rows, laid by wip/whole/zp.py -/
theorem Z_237_0 {z1 : Int} {z2 : Int} {z3 : Int} {w : xW} {r : Option Value × xW} (hC : CS w) (h : ∀ w2, w2 = pF w 39 0 (.int (jI 0)) → CS w2 → ∃ (P7 : Prop) (dP8 : Decidable P7) (w4 : xW), xCall 228 [.ref 39, .int (jI z1)] w2 (some (.int (bz P7)), w4) ∧ CS w4 ∧ (¬ P7 → r = (some (.int (jI (-1))), w4)) ∧ (P7 → ∃ (P12 : Prop) (dP13 : Decidable P12) (w9 : xW), xCall 198 [.ref 39, .int (jI z2)] w4 (some (.int (bz P12)), w9) ∧ CS w9 ∧ (¬ P12 → r = (some (.int (jI (-1))), w9)) ∧ (P12 → ∃ (P17 : Prop) (dP18 : Decidable P17) (w14 : xW), xCall 198 [.ref 39, .int (jI z3)] w9 (some (.int (bz P17)), w14) ∧ CS w14 ∧ (P17 → ∃ x19, fI w14 39 12 4 x19 ∧ in32 z2 ∧ in32 x19 ∧ (x19 < z2 → r = (some (.int (jI (-2))), w14)) ∧ (z2 ≤ x19 → in32 z3 ∧ (z3 ≤ x19 → ∃ r27 w24, xCall 213 [.ref 39, .int (jI z1), .int (jI z2), .int (jI z3)] w14 (some (.int (jI r27)), w24) ∧ CS w24 ∧ r = (some (.int (jI r27)), w24)) ∧ (x19 < z3 → r = (some (.int (jI (-2))), w14)))) ∧ (¬ P17 → r = (some (.int (jI (-1))), w14))))) : xGo 237 0 [some (.ref 39), some (.int (jI z1)), some (.int (jI z2)), some (.int (jI z3))] [] w r := by
  refine g_aloadn (pc' := 1) d_237_0 rfl rfl ?_
  refine g_iconst (pc' := 2) d_237_1 rfl rfl ?_
  have hpf1 := (kf_39_0 hC)
  have hC3 : CS (pF w 39 0 (.int (jI 0))) := ks_39_0 hC
  have h := h _ rfl hC3
  refine gz_putf (pc' := 5) d_237_2 rfl st_237_118 ft_12_0 ff_12_0 rfl (Or.inl rfl) hpf1 ?_
  refine g_aloadn (pc' := 6) d_237_5 rfl rfl ?_
  refine g_iloadn (pc' := 7) d_237_6 rfl rfl ?_
  obtain ⟨P7, dP8, w4, hk5, hC6, h⟩ := h
  refine gz_callV (pc' := 10) d_237_7 rfl st_237_185 na_228 ml_228 rfl rfl rfl rm_237_228 rfl rfl ow_228 (ko_39 hC3) hk5 ?_
  refine gz_bt_eq (pc' := 13) (pt := 29) d_237_10 (by decide) rfl (fun c => ?_) (fun c => ?_)
  · replace h := h.1 c
    refine g_iconst (pc' := 30) d_237_29 rfl rfl ?_
    exact g_iret d_237_30 rt_237 h
  · replace h := h.2 c
    refine g_aloadn (pc' := 14) d_237_13 rfl rfl ?_
    refine g_iloadn (pc' := 15) d_237_14 rfl rfl ?_
    obtain ⟨P12, dP13, w9, hk10, hC11, h⟩ := h
    refine gz_callV (pc' := 18) d_237_15 rfl st_237_145 na_198 ml_198 rfl rfl rfl rm_237_198 rfl rfl ow_198 (ko_39 hC6) hk10 ?_
    refine gz_bt_eq (pc' := 21) (pt := 29) d_237_18 (by decide) rfl (fun c => ?_) (fun c => ?_)
    · replace h := h.1 c
      refine g_iconst (pc' := 30) d_237_29 rfl rfl ?_
      exact g_iret d_237_30 rt_237 h
    · replace h := h.2 c
      refine g_aloadn (pc' := 22) d_237_21 rfl rfl ?_
      refine g_iloadn (pc' := 23) d_237_22 rfl rfl ?_
      obtain ⟨P17, dP18, w14, hk15, hC16, h⟩ := h
      refine gz_callV (pc' := 26) d_237_23 rfl st_237_145 na_198 ml_198 rfl rfl rfl rm_237_198 rfl rfl ow_198 (ko_39 hC11) hk15 ?_
      refine gz_bt_ne (pc' := 29) (pt := 31) d_237_26 (by decide) rfl (fun c => ?_) (fun c => ?_)
      · replace h := h.1 c
        refine g_iloadn (pc' := 32) d_237_31 rfl rfl ?_
        refine g_aloadn (pc' := 33) d_237_32 rfl rfl ?_
        obtain ⟨x19, hv20, h⟩ := h
        refine gz_getI (pc' := 36) d_237_33 rfl st_237_20 hv20 ?_
        obtain ⟨hc21, h⟩ := h
        obtain ⟨hc22, h⟩ := h
        refine gz_ic_gt (pc' := 39) (pt := 47) d_237_36 (by decide) rfl hc21 hc22 (fun c => ?_) (fun c => ?_)
        · replace h := h.1 c
          refine g_bipush (pc' := 49) (v := jI (-2)) d_237_47 rfl (by decide) ?_
          refine g_goto (pt := 59) d_237_49 (by decide) ?_
          exact g_iret d_237_59 rt_237 h
        · replace h := h.2 c
          refine g_iloadn (pc' := 40) d_237_39 rfl rfl ?_
          refine g_aloadn (pc' := 41) d_237_40 rfl rfl ?_
          refine gz_getI (pc' := 44) d_237_41 rfl st_237_20 hv20 ?_
          obtain ⟨hc23, h⟩ := h
          refine gz_ic_le (pc' := 47) (pt := 52) d_237_44 (by decide) rfl hc23 hc22 (fun c => ?_) (fun c => ?_)
          · replace h := h.1 c
            refine g_aloadn (pc' := 53) d_237_52 rfl rfl ?_
            refine g_iloadn (pc' := 54) d_237_53 rfl rfl ?_
            refine g_iloadn (pc' := 55) d_237_54 rfl rfl ?_
            refine g_iloadn (pc' := 56) d_237_55 rfl rfl ?_
            obtain ⟨r27, w24, hk25, hC26, h⟩ := h
            refine gz_callV (pc' := 59) d_237_56 rfl st_237_205 na_213 ml_213 rfl rfl rfl rm_237_213 rfl rfl ow_213 (ko_39 hC16) hk25 ?_
            exact g_iret d_237_59 rt_237 h
          · replace h := h.2 c
            refine g_bipush (pc' := 49) (v := jI (-2)) d_237_47 rfl (by decide) ?_
            refine g_goto (pt := 59) d_237_49 (by decide) ?_
            exact g_iret d_237_59 rt_237 h
      · replace h := h.2 c
        refine g_iconst (pc' := 30) d_237_29 rfl rfl ?_
        exact g_iret d_237_30 rt_237 h
theorem Z_237 {z1 : Int} {z2 : Int} {z3 : Int} {w : xW} {r : Option Value × xW} (hC : CS w) (h : ∀ w2, w2 = pF w 39 0 (.int (jI 0)) → CS w2 → ∃ (P7 : Prop) (dP8 : Decidable P7) (w4 : xW), xCall 228 [.ref 39, .int (jI z1)] w2 (some (.int (bz P7)), w4) ∧ CS w4 ∧ (¬ P7 → r = (some (.int (jI (-1))), w4)) ∧ (P7 → ∃ (P12 : Prop) (dP13 : Decidable P12) (w9 : xW), xCall 198 [.ref 39, .int (jI z2)] w4 (some (.int (bz P12)), w9) ∧ CS w9 ∧ (¬ P12 → r = (some (.int (jI (-1))), w9)) ∧ (P12 → ∃ (P17 : Prop) (dP18 : Decidable P17) (w14 : xW), xCall 198 [.ref 39, .int (jI z3)] w9 (some (.int (bz P17)), w14) ∧ CS w14 ∧ (P17 → ∃ x19, fI w14 39 12 4 x19 ∧ in32 z2 ∧ in32 x19 ∧ (x19 < z2 → r = (some (.int (jI (-2))), w14)) ∧ (z2 ≤ x19 → in32 z3 ∧ (z3 ≤ x19 → ∃ r27 w24, xCall 213 [.ref 39, .int (jI z1), .int (jI z2), .int (jI z3)] w14 (some (.int (jI r27)), w24) ∧ CS w24 ∧ r = (some (.int (jI r27)), w24)) ∧ (x19 < z3 → r = (some (.int (jI (-2))), w14)))) ∧ (¬ P17 → r = (some (.int (jI (-1))), w14))))) : xCall 237 [.ref 39, .int (jI z1), .int (jI z2), .int (jI z3)] w r := E_237 (Z_237_0 hC h)
theorem Z_238_0 {z1 : Int} {z2 : Int} {z3 : Int} {w : xW} {r : Option Value × xW} (hC : CS w) (h : ∀ w2, w2 = pF w 39 0 (.int (jI 0)) → CS w2 → ∃ (P7 : Prop) (dP8 : Decidable P7) (w4 : xW), xCall 228 [.ref 39, .int (jI z1)] w2 (some (.int (bz P7)), w4) ∧ CS w4 ∧ (¬ P7 → r = (some (.int (jI (-1))), w4)) ∧ (P7 → ∃ (P12 : Prop) (dP13 : Decidable P12) (w9 : xW), xCall 198 [.ref 39, .int (jI z2)] w4 (some (.int (bz P12)), w9) ∧ CS w9 ∧ (¬ P12 → r = (some (.int (jI (-1))), w9)) ∧ (P12 → ∃ (P17 : Prop) (dP18 : Decidable P17) (w14 : xW), xCall 198 [.ref 39, .int (jI z3)] w9 (some (.int (bz P17)), w14) ∧ CS w14 ∧ (P17 → ∃ x19, fI w14 39 12 4 x19 ∧ in32 z2 ∧ in32 x19 ∧ (x19 < z2 → r = (some (.int (jI (-2))), w14)) ∧ (z2 ≤ x19 → in32 z3 ∧ (z3 ≤ x19 → in32 (z2 - z3) ∧ in32 (z1 * (z1 - 1)) ∧ z1 * (z1 - 1) ≠ 0 ∧ ∃ y27, Int.tmod (z2 - z3) (z1 * (z1 - 1)) = y27 ∧ in32 y27 ∧ (y27 ≠ 0 → r = (some (.int (jI (-3))), w14)) ∧ (y27 = 0 → ∃ r33 w30, xCall 213 [.ref 39, .int (jI z1), .int (jI z2), .int (jI z3)] w14 (some (.int (jI r33)), w30) ∧ CS w30 ∧ in32 r33 ∧ (0 ≤ r33 → in32 z1 ∧ ∃ r39 w36, xCall 239 [.ref 41, .int (jI z2), .int (jI z1)] w30 (some (.long (jL r39)), w36) ∧ CS w36 ∧ (z2 ≠ 2 → in64 (r39 * 1) ∧ in64 (z1 * z1) ∧ z1 * z1 ≠ 0 ∧ ∃ y43, Int.tmod (r39 * 1) (z1 * z1) = y43 ∧ ∃ r48 w45, xCall 239 [.ref 41, .int (jI z3), .int (jI z1)] w36 (some (.long (jL r48)), w45) ∧ CS w45 ∧ (z3 ≠ 2 → in64 (r48 * 1) ∧ z1 * z1 ≠ 0 ∧ ∃ y51, Int.tmod (r48 * 1) (z1 * z1) = y51 ∧ in64 ((y43 - y51) + (z1 * z1)) ∧ z1 * z1 ≠ 0 ∧ ∃ y55, Int.tmod ((y43 - y51) + (z1 * z1)) (z1 * z1) = y55 ∧ r = (some (.int (jI y55)), w45)) ∧ (z3 = 2 → in64 (r48 * (((z1 * z1) + 1) - z1)) ∧ z1 * z1 ≠ 0 ∧ ∃ y59, Int.tmod (r48 * (((z1 * z1) + 1) - z1)) (z1 * z1) = y59 ∧ in64 ((y43 - y59) + (z1 * z1)) ∧ z1 * z1 ≠ 0 ∧ ∃ y63, Int.tmod ((y43 - y59) + (z1 * z1)) (z1 * z1) = y63 ∧ r = (some (.int (jI y63)), w45))) ∧ (z2 = 2 → in64 (r39 * (((z1 * z1) + 1) - z1)) ∧ in64 (z1 * z1) ∧ z1 * z1 ≠ 0 ∧ ∃ y68, Int.tmod (r39 * (((z1 * z1) + 1) - z1)) (z1 * z1) = y68 ∧ ∃ r73 w70, xCall 239 [.ref 41, .int (jI z3), .int (jI z1)] w36 (some (.long (jL r73)), w70) ∧ CS w70 ∧ (z3 ≠ 2 → in64 (r73 * 1) ∧ z1 * z1 ≠ 0 ∧ ∃ y76, Int.tmod (r73 * 1) (z1 * z1) = y76 ∧ in64 ((y68 - y76) + (z1 * z1)) ∧ z1 * z1 ≠ 0 ∧ ∃ y80, Int.tmod ((y68 - y76) + (z1 * z1)) (z1 * z1) = y80 ∧ r = (some (.int (jI y80)), w70)) ∧ (z3 = 2 → in64 (r73 * (((z1 * z1) + 1) - z1)) ∧ z1 * z1 ≠ 0 ∧ ∃ y84, Int.tmod (r73 * (((z1 * z1) + 1) - z1)) (z1 * z1) = y84 ∧ in64 ((y68 - y84) + (z1 * z1)) ∧ z1 * z1 ≠ 0 ∧ ∃ y88, Int.tmod ((y68 - y84) + (z1 * z1)) (z1 * z1) = y88 ∧ r = (some (.int (jI y88)), w70)))) ∧ (r33 < 0 → r = (some (.int (jI (-3))), w30)))) ∧ (x19 < z3 → r = (some (.int (jI (-2))), w14)))) ∧ (¬ P17 → r = (some (.int (jI (-1))), w14))))) : xGo 238 0 [some (.ref 39), some (.int (jI z1)), some (.int (jI z2)), some (.int (jI z3)), none, none, none, none, none, none] [] w r := by
  refine g_aloadn (pc' := 1) d_238_0 rfl rfl ?_
  refine g_iconst (pc' := 2) d_238_1 rfl rfl ?_
  have hpf1 := (kf_39_0 hC)
  have hC3 : CS (pF w 39 0 (.int (jI 0))) := ks_39_0 hC
  have h := h _ rfl hC3
  refine gz_putf (pc' := 5) d_238_2 rfl st_238_118 ft_12_0 ff_12_0 rfl (Or.inl rfl) hpf1 ?_
  refine g_aloadn (pc' := 6) d_238_5 rfl rfl ?_
  refine g_iloadn (pc' := 7) d_238_6 rfl rfl ?_
  obtain ⟨P7, dP8, w4, hk5, hC6, h⟩ := h
  refine gz_callV (pc' := 10) d_238_7 rfl st_238_185 na_228 ml_228 rfl rfl rfl rm_238_228 rfl rfl ow_228 (ko_39 hC3) hk5 ?_
  refine gz_bt_eq (pc' := 13) (pt := 29) d_238_10 (by decide) rfl (fun c => ?_) (fun c => ?_)
  · replace h := h.1 c
    refine g_iconst (pc' := 30) d_238_29 rfl rfl ?_
    exact g_iret d_238_30 rt_238 h
  · replace h := h.2 c
    refine g_aloadn (pc' := 14) d_238_13 rfl rfl ?_
    refine g_iloadn (pc' := 15) d_238_14 rfl rfl ?_
    obtain ⟨P12, dP13, w9, hk10, hC11, h⟩ := h
    refine gz_callV (pc' := 18) d_238_15 rfl st_238_145 na_198 ml_198 rfl rfl rfl rm_238_198 rfl rfl ow_198 (ko_39 hC6) hk10 ?_
    refine gz_bt_eq (pc' := 21) (pt := 29) d_238_18 (by decide) rfl (fun c => ?_) (fun c => ?_)
    · replace h := h.1 c
      refine g_iconst (pc' := 30) d_238_29 rfl rfl ?_
      exact g_iret d_238_30 rt_238 h
    · replace h := h.2 c
      refine g_aloadn (pc' := 22) d_238_21 rfl rfl ?_
      refine g_iloadn (pc' := 23) d_238_22 rfl rfl ?_
      obtain ⟨P17, dP18, w14, hk15, hC16, h⟩ := h
      refine gz_callV (pc' := 26) d_238_23 rfl st_238_145 na_198 ml_198 rfl rfl rfl rm_238_198 rfl rfl ow_198 (ko_39 hC11) hk15 ?_
      refine gz_bt_ne (pc' := 29) (pt := 31) d_238_26 (by decide) rfl (fun c => ?_) (fun c => ?_)
      · replace h := h.1 c
        refine g_iloadn (pc' := 32) d_238_31 rfl rfl ?_
        refine g_aloadn (pc' := 33) d_238_32 rfl rfl ?_
        obtain ⟨x19, hv20, h⟩ := h
        refine gz_getI (pc' := 36) d_238_33 rfl st_238_20 hv20 ?_
        obtain ⟨hc21, h⟩ := h
        obtain ⟨hc22, h⟩ := h
        refine gz_ic_gt (pc' := 39) (pt := 47) d_238_36 (by decide) rfl hc21 hc22 (fun c => ?_) (fun c => ?_)
        · replace h := h.1 c
          refine g_bipush (pc' := 49) (v := jI (-2)) d_238_47 rfl (by decide) ?_
          exact g_iret d_238_49 rt_238 h
        · replace h := h.2 c
          refine g_iloadn (pc' := 40) d_238_39 rfl rfl ?_
          refine g_aloadn (pc' := 41) d_238_40 rfl rfl ?_
          refine gz_getI (pc' := 44) d_238_41 rfl st_238_20 hv20 ?_
          obtain ⟨hc23, h⟩ := h
          refine gz_ic_le (pc' := 47) (pt := 50) d_238_44 (by decide) rfl hc23 hc22 (fun c => ?_) (fun c => ?_)
          · replace h := h.1 c
            refine g_iloadn (pc' := 51) d_238_50 rfl rfl ?_
            refine g_iloadn (pc' := 52) d_238_51 rfl rfl ?_
            refine gz_isub (pc' := 53) d_238_52 rfl ?_
            refine g_iloadn (pc' := 54) d_238_53 rfl rfl ?_
            refine g_iloadn (pc' := 55) d_238_54 rfl rfl ?_
            refine g_iconst (pc' := 56) d_238_55 rfl rfl ?_
            refine gz_isub (pc' := 57) d_238_56 rfl ?_
            refine gz_imul (pc' := 58) d_238_57 rfl ?_
            obtain ⟨hc24, h⟩ := h
            obtain ⟨hc25, h⟩ := h
            obtain ⟨hc26, h⟩ := h
            obtain ⟨y27, hz28, h⟩ := h
            refine gz_irem (pc' := 59) d_238_58 rfl hc24 hc25 hc26 hz28 ?_
            obtain ⟨hc29, h⟩ := h
            refine gz_if_ne (pc' := 62) (pt := 72) d_238_59 (by decide) rfl hc29 (fun c => ?_) (fun c => ?_)
            · replace h := h.1 c
              refine g_bipush (pc' := 74) (v := jI (-3)) d_238_72 rfl (by decide) ?_
              exact g_iret d_238_74 rt_238 h
            · replace h := h.2 c
              refine g_aloadn (pc' := 63) d_238_62 rfl rfl ?_
              refine g_iloadn (pc' := 64) d_238_63 rfl rfl ?_
              refine g_iloadn (pc' := 65) d_238_64 rfl rfl ?_
              refine g_iloadn (pc' := 66) d_238_65 rfl rfl ?_
              obtain ⟨r33, w30, hk31, hC32, h⟩ := h
              refine gz_callV (pc' := 69) d_238_66 rfl st_238_205 na_213 ml_213 rfl rfl rfl rm_238_213 rfl rfl ow_213 (ko_39 hC16) hk31 ?_
              obtain ⟨hc34, h⟩ := h
              refine gz_if_ge (pc' := 72) (pt := 75) d_238_69 (by decide) rfl hc34 (fun c => ?_) (fun c => ?_)
              · replace h := h.1 c
                refine g_iloadn (pc' := 76) d_238_75 rfl rfl ?_
                obtain ⟨hc35, h⟩ := h
                refine gz_i2l (pc' := 77) d_238_76 rfl hc35 ?_
                refine g_iloadn (pc' := 78) d_238_77 rfl rfl ?_
                refine gz_i2l (pc' := 79) d_238_78 rfl hc35 ?_
                refine gz_lmul (pc' := 80) d_238_79 rfl ?_
                refine g_lstore (pc' := 82) (l' := [some (.ref 39), some (.int (jI z1)), some (.int (jI z2)), some (.int (jI z3)), some (.long (jL (z1 * z1))), none, none, none, none, none]) d_238_80 rfl ml_238 rfl rfl ?_
                refine g_aloadn (pc' := 83) d_238_82 rfl rfl ?_
                refine gz_getR (pc' := 86) d_238_83 rfl st_238_13 (kr_39_2 hC32) ?_
                refine g_iloadn (pc' := 87) d_238_86 rfl rfl ?_
                refine g_iloadn (pc' := 88) d_238_87 rfl rfl ?_
                obtain ⟨r39, w36, hk37, hC38, h⟩ := h
                refine g_callS (pc' := 91) d_238_88 rfl st_238_212 (Or.inl rfl) na_239 ml_239 rfl rfl rfl rm_238_239 rfl rfl hk37 ?_
                refine g_iloadn (pc' := 92) d_238_91 rfl rfl ?_
                refine g_iconst (pc' := 93) d_238_92 rfl rfl ?_
                refine gz_ic_ne (pc' := 96) (pt := 106) d_238_93 (by decide) rfl hc21 (s32 (z := 2)) (fun c => ?_) (fun c => ?_)
                · replace h := h.1 c
                  refine g_lconst (pc' := 107) (v := jL 1) d_238_106 rfl cl_1 ?_
                  refine gz_lmul (pc' := 108) d_238_107 rfl ?_
                  refine g_lload (pc' := 110) d_238_108 rfl rfl ?_
                  obtain ⟨hc40, h⟩ := h
                  obtain ⟨hc41, h⟩ := h
                  obtain ⟨hc42, h⟩ := h
                  obtain ⟨y43, hz44, h⟩ := h
                  refine gz_lrem (pc' := 111) d_238_110 rfl hc40 hc41 hc42 hz44 ?_
                  refine g_lstore (pc' := 113) (l' := [some (.ref 39), some (.int (jI z1)), some (.int (jI z2)), some (.int (jI z3)), some (.long (jL (z1 * z1))), none, some (.long (jL y43)), none, none, none]) d_238_111 rfl ml_238 rfl rfl ?_
                  refine g_aloadn (pc' := 114) d_238_113 rfl rfl ?_
                  refine gz_getR (pc' := 117) d_238_114 rfl st_238_13 (kr_39_2 hC38) ?_
                  refine g_iloadn (pc' := 118) d_238_117 rfl rfl ?_
                  refine g_iloadn (pc' := 119) d_238_118 rfl rfl ?_
                  obtain ⟨r48, w45, hk46, hC47, h⟩ := h
                  refine g_callS (pc' := 122) d_238_119 rfl st_238_212 (Or.inl rfl) na_239 ml_239 rfl rfl rfl rm_238_239 rfl rfl hk46 ?_
                  refine g_iloadn (pc' := 123) d_238_122 rfl rfl ?_
                  refine g_iconst (pc' := 124) d_238_123 rfl rfl ?_
                  refine gz_ic_ne (pc' := 127) (pt := 137) d_238_124 (by decide) rfl hc23 (s32 (z := 2)) (fun c => ?_) (fun c => ?_)
                  · replace h := h.1 c
                    refine g_lconst (pc' := 138) (v := jL 1) d_238_137 rfl cl_1 ?_
                    refine gz_lmul (pc' := 139) d_238_138 rfl ?_
                    refine g_lload (pc' := 141) d_238_139 rfl rfl ?_
                    obtain ⟨hc49, h⟩ := h
                    obtain ⟨hc50, h⟩ := h
                    obtain ⟨y51, hz52, h⟩ := h
                    refine gz_lrem (pc' := 142) d_238_141 rfl hc49 hc41 hc50 hz52 ?_
                    refine g_lstore (pc' := 144) (l' := [some (.ref 39), some (.int (jI z1)), some (.int (jI z2)), some (.int (jI z3)), some (.long (jL (z1 * z1))), none, some (.long (jL y43)), none, some (.long (jL y51)), none]) d_238_142 rfl ml_238 rfl rfl ?_
                    refine g_lload (pc' := 146) d_238_144 rfl rfl ?_
                    refine g_lload (pc' := 148) d_238_146 rfl rfl ?_
                    refine gz_lsub (pc' := 149) d_238_148 rfl ?_
                    refine g_lload (pc' := 151) d_238_149 rfl rfl ?_
                    refine gz_ladd (pc' := 152) d_238_151 rfl ?_
                    refine g_lload (pc' := 154) d_238_152 rfl rfl ?_
                    obtain ⟨hc53, h⟩ := h
                    obtain ⟨hc54, h⟩ := h
                    obtain ⟨y55, hz56, h⟩ := h
                    refine gz_lrem (pc' := 155) d_238_154 rfl hc53 hc41 hc54 hz56 ?_
                    refine gz_l2i (pc' := 156) d_238_155 rfl ?_
                    exact g_iret d_238_156 rt_238 h
                  · replace h := h.2 c
                    refine g_lload (pc' := 129) d_238_127 rfl rfl ?_
                    refine g_lconst (pc' := 130) (v := jL 1) d_238_129 rfl cl_1 ?_
                    refine gz_ladd (pc' := 131) d_238_130 rfl ?_
                    refine g_iloadn (pc' := 132) d_238_131 rfl rfl ?_
                    refine gz_i2l (pc' := 133) d_238_132 rfl hc35 ?_
                    refine gz_lsub (pc' := 134) d_238_133 rfl ?_
                    refine g_goto (pt := 138) d_238_134 (by decide) ?_
                    refine gz_lmul (pc' := 139) d_238_138 rfl ?_
                    refine g_lload (pc' := 141) d_238_139 rfl rfl ?_
                    obtain ⟨hc57, h⟩ := h
                    obtain ⟨hc58, h⟩ := h
                    obtain ⟨y59, hz60, h⟩ := h
                    refine gz_lrem (pc' := 142) d_238_141 rfl hc57 hc41 hc58 hz60 ?_
                    refine g_lstore (pc' := 144) (l' := [some (.ref 39), some (.int (jI z1)), some (.int (jI z2)), some (.int (jI z3)), some (.long (jL (z1 * z1))), none, some (.long (jL y43)), none, some (.long (jL y59)), none]) d_238_142 rfl ml_238 rfl rfl ?_
                    refine g_lload (pc' := 146) d_238_144 rfl rfl ?_
                    refine g_lload (pc' := 148) d_238_146 rfl rfl ?_
                    refine gz_lsub (pc' := 149) d_238_148 rfl ?_
                    refine g_lload (pc' := 151) d_238_149 rfl rfl ?_
                    refine gz_ladd (pc' := 152) d_238_151 rfl ?_
                    refine g_lload (pc' := 154) d_238_152 rfl rfl ?_
                    obtain ⟨hc61, h⟩ := h
                    obtain ⟨hc62, h⟩ := h
                    obtain ⟨y63, hz64, h⟩ := h
                    refine gz_lrem (pc' := 155) d_238_154 rfl hc61 hc41 hc62 hz64 ?_
                    refine gz_l2i (pc' := 156) d_238_155 rfl ?_
                    exact g_iret d_238_156 rt_238 h
                · replace h := h.2 c
                  refine g_lload (pc' := 98) d_238_96 rfl rfl ?_
                  refine g_lconst (pc' := 99) (v := jL 1) d_238_98 rfl cl_1 ?_
                  refine gz_ladd (pc' := 100) d_238_99 rfl ?_
                  refine g_iloadn (pc' := 101) d_238_100 rfl rfl ?_
                  refine gz_i2l (pc' := 102) d_238_101 rfl hc35 ?_
                  refine gz_lsub (pc' := 103) d_238_102 rfl ?_
                  refine g_goto (pt := 107) d_238_103 (by decide) ?_
                  refine gz_lmul (pc' := 108) d_238_107 rfl ?_
                  refine g_lload (pc' := 110) d_238_108 rfl rfl ?_
                  obtain ⟨hc65, h⟩ := h
                  obtain ⟨hc66, h⟩ := h
                  obtain ⟨hc67, h⟩ := h
                  obtain ⟨y68, hz69, h⟩ := h
                  refine gz_lrem (pc' := 111) d_238_110 rfl hc65 hc66 hc67 hz69 ?_
                  refine g_lstore (pc' := 113) (l' := [some (.ref 39), some (.int (jI z1)), some (.int (jI z2)), some (.int (jI z3)), some (.long (jL (z1 * z1))), none, some (.long (jL y68)), none, none, none]) d_238_111 rfl ml_238 rfl rfl ?_
                  refine g_aloadn (pc' := 114) d_238_113 rfl rfl ?_
                  refine gz_getR (pc' := 117) d_238_114 rfl st_238_13 (kr_39_2 hC38) ?_
                  refine g_iloadn (pc' := 118) d_238_117 rfl rfl ?_
                  refine g_iloadn (pc' := 119) d_238_118 rfl rfl ?_
                  obtain ⟨r73, w70, hk71, hC72, h⟩ := h
                  refine g_callS (pc' := 122) d_238_119 rfl st_238_212 (Or.inl rfl) na_239 ml_239 rfl rfl rfl rm_238_239 rfl rfl hk71 ?_
                  refine g_iloadn (pc' := 123) d_238_122 rfl rfl ?_
                  refine g_iconst (pc' := 124) d_238_123 rfl rfl ?_
                  refine gz_ic_ne (pc' := 127) (pt := 137) d_238_124 (by decide) rfl hc23 (s32 (z := 2)) (fun c => ?_) (fun c => ?_)
                  · replace h := h.1 c
                    refine g_lconst (pc' := 138) (v := jL 1) d_238_137 rfl cl_1 ?_
                    refine gz_lmul (pc' := 139) d_238_138 rfl ?_
                    refine g_lload (pc' := 141) d_238_139 rfl rfl ?_
                    obtain ⟨hc74, h⟩ := h
                    obtain ⟨hc75, h⟩ := h
                    obtain ⟨y76, hz77, h⟩ := h
                    refine gz_lrem (pc' := 142) d_238_141 rfl hc74 hc66 hc75 hz77 ?_
                    refine g_lstore (pc' := 144) (l' := [some (.ref 39), some (.int (jI z1)), some (.int (jI z2)), some (.int (jI z3)), some (.long (jL (z1 * z1))), none, some (.long (jL y68)), none, some (.long (jL y76)), none]) d_238_142 rfl ml_238 rfl rfl ?_
                    refine g_lload (pc' := 146) d_238_144 rfl rfl ?_
                    refine g_lload (pc' := 148) d_238_146 rfl rfl ?_
                    refine gz_lsub (pc' := 149) d_238_148 rfl ?_
                    refine g_lload (pc' := 151) d_238_149 rfl rfl ?_
                    refine gz_ladd (pc' := 152) d_238_151 rfl ?_
                    refine g_lload (pc' := 154) d_238_152 rfl rfl ?_
                    obtain ⟨hc78, h⟩ := h
                    obtain ⟨hc79, h⟩ := h
                    obtain ⟨y80, hz81, h⟩ := h
                    refine gz_lrem (pc' := 155) d_238_154 rfl hc78 hc66 hc79 hz81 ?_
                    refine gz_l2i (pc' := 156) d_238_155 rfl ?_
                    exact g_iret d_238_156 rt_238 h
                  · replace h := h.2 c
                    refine g_lload (pc' := 129) d_238_127 rfl rfl ?_
                    refine g_lconst (pc' := 130) (v := jL 1) d_238_129 rfl cl_1 ?_
                    refine gz_ladd (pc' := 131) d_238_130 rfl ?_
                    refine g_iloadn (pc' := 132) d_238_131 rfl rfl ?_
                    refine gz_i2l (pc' := 133) d_238_132 rfl hc35 ?_
                    refine gz_lsub (pc' := 134) d_238_133 rfl ?_
                    refine g_goto (pt := 138) d_238_134 (by decide) ?_
                    refine gz_lmul (pc' := 139) d_238_138 rfl ?_
                    refine g_lload (pc' := 141) d_238_139 rfl rfl ?_
                    obtain ⟨hc82, h⟩ := h
                    obtain ⟨hc83, h⟩ := h
                    obtain ⟨y84, hz85, h⟩ := h
                    refine gz_lrem (pc' := 142) d_238_141 rfl hc82 hc66 hc83 hz85 ?_
                    refine g_lstore (pc' := 144) (l' := [some (.ref 39), some (.int (jI z1)), some (.int (jI z2)), some (.int (jI z3)), some (.long (jL (z1 * z1))), none, some (.long (jL y68)), none, some (.long (jL y84)), none]) d_238_142 rfl ml_238 rfl rfl ?_
                    refine g_lload (pc' := 146) d_238_144 rfl rfl ?_
                    refine g_lload (pc' := 148) d_238_146 rfl rfl ?_
                    refine gz_lsub (pc' := 149) d_238_148 rfl ?_
                    refine g_lload (pc' := 151) d_238_149 rfl rfl ?_
                    refine gz_ladd (pc' := 152) d_238_151 rfl ?_
                    refine g_lload (pc' := 154) d_238_152 rfl rfl ?_
                    obtain ⟨hc86, h⟩ := h
                    obtain ⟨hc87, h⟩ := h
                    obtain ⟨y88, hz89, h⟩ := h
                    refine gz_lrem (pc' := 155) d_238_154 rfl hc86 hc66 hc87 hz89 ?_
                    refine gz_l2i (pc' := 156) d_238_155 rfl ?_
                    exact g_iret d_238_156 rt_238 h
              · replace h := h.2 c
                refine g_bipush (pc' := 74) (v := jI (-3)) d_238_72 rfl (by decide) ?_
                exact g_iret d_238_74 rt_238 h
          · replace h := h.2 c
            refine g_bipush (pc' := 49) (v := jI (-2)) d_238_47 rfl (by decide) ?_
            exact g_iret d_238_49 rt_238 h
      · replace h := h.2 c
        refine g_iconst (pc' := 30) d_238_29 rfl rfl ?_
        exact g_iret d_238_30 rt_238 h
theorem Z_238 {z1 : Int} {z2 : Int} {z3 : Int} {w : xW} {r : Option Value × xW} (hC : CS w) (h : ∀ w2, w2 = pF w 39 0 (.int (jI 0)) → CS w2 → ∃ (P7 : Prop) (dP8 : Decidable P7) (w4 : xW), xCall 228 [.ref 39, .int (jI z1)] w2 (some (.int (bz P7)), w4) ∧ CS w4 ∧ (¬ P7 → r = (some (.int (jI (-1))), w4)) ∧ (P7 → ∃ (P12 : Prop) (dP13 : Decidable P12) (w9 : xW), xCall 198 [.ref 39, .int (jI z2)] w4 (some (.int (bz P12)), w9) ∧ CS w9 ∧ (¬ P12 → r = (some (.int (jI (-1))), w9)) ∧ (P12 → ∃ (P17 : Prop) (dP18 : Decidable P17) (w14 : xW), xCall 198 [.ref 39, .int (jI z3)] w9 (some (.int (bz P17)), w14) ∧ CS w14 ∧ (P17 → ∃ x19, fI w14 39 12 4 x19 ∧ in32 z2 ∧ in32 x19 ∧ (x19 < z2 → r = (some (.int (jI (-2))), w14)) ∧ (z2 ≤ x19 → in32 z3 ∧ (z3 ≤ x19 → in32 (z2 - z3) ∧ in32 (z1 * (z1 - 1)) ∧ z1 * (z1 - 1) ≠ 0 ∧ ∃ y27, Int.tmod (z2 - z3) (z1 * (z1 - 1)) = y27 ∧ in32 y27 ∧ (y27 ≠ 0 → r = (some (.int (jI (-3))), w14)) ∧ (y27 = 0 → ∃ r33 w30, xCall 213 [.ref 39, .int (jI z1), .int (jI z2), .int (jI z3)] w14 (some (.int (jI r33)), w30) ∧ CS w30 ∧ in32 r33 ∧ (0 ≤ r33 → in32 z1 ∧ ∃ r39 w36, xCall 239 [.ref 41, .int (jI z2), .int (jI z1)] w30 (some (.long (jL r39)), w36) ∧ CS w36 ∧ (z2 ≠ 2 → in64 (r39 * 1) ∧ in64 (z1 * z1) ∧ z1 * z1 ≠ 0 ∧ ∃ y43, Int.tmod (r39 * 1) (z1 * z1) = y43 ∧ ∃ r48 w45, xCall 239 [.ref 41, .int (jI z3), .int (jI z1)] w36 (some (.long (jL r48)), w45) ∧ CS w45 ∧ (z3 ≠ 2 → in64 (r48 * 1) ∧ z1 * z1 ≠ 0 ∧ ∃ y51, Int.tmod (r48 * 1) (z1 * z1) = y51 ∧ in64 ((y43 - y51) + (z1 * z1)) ∧ z1 * z1 ≠ 0 ∧ ∃ y55, Int.tmod ((y43 - y51) + (z1 * z1)) (z1 * z1) = y55 ∧ r = (some (.int (jI y55)), w45)) ∧ (z3 = 2 → in64 (r48 * (((z1 * z1) + 1) - z1)) ∧ z1 * z1 ≠ 0 ∧ ∃ y59, Int.tmod (r48 * (((z1 * z1) + 1) - z1)) (z1 * z1) = y59 ∧ in64 ((y43 - y59) + (z1 * z1)) ∧ z1 * z1 ≠ 0 ∧ ∃ y63, Int.tmod ((y43 - y59) + (z1 * z1)) (z1 * z1) = y63 ∧ r = (some (.int (jI y63)), w45))) ∧ (z2 = 2 → in64 (r39 * (((z1 * z1) + 1) - z1)) ∧ in64 (z1 * z1) ∧ z1 * z1 ≠ 0 ∧ ∃ y68, Int.tmod (r39 * (((z1 * z1) + 1) - z1)) (z1 * z1) = y68 ∧ ∃ r73 w70, xCall 239 [.ref 41, .int (jI z3), .int (jI z1)] w36 (some (.long (jL r73)), w70) ∧ CS w70 ∧ (z3 ≠ 2 → in64 (r73 * 1) ∧ z1 * z1 ≠ 0 ∧ ∃ y76, Int.tmod (r73 * 1) (z1 * z1) = y76 ∧ in64 ((y68 - y76) + (z1 * z1)) ∧ z1 * z1 ≠ 0 ∧ ∃ y80, Int.tmod ((y68 - y76) + (z1 * z1)) (z1 * z1) = y80 ∧ r = (some (.int (jI y80)), w70)) ∧ (z3 = 2 → in64 (r73 * (((z1 * z1) + 1) - z1)) ∧ z1 * z1 ≠ 0 ∧ ∃ y84, Int.tmod (r73 * (((z1 * z1) + 1) - z1)) (z1 * z1) = y84 ∧ in64 ((y68 - y84) + (z1 * z1)) ∧ z1 * z1 ≠ 0 ∧ ∃ y88, Int.tmod ((y68 - y84) + (z1 * z1)) (z1 * z1) = y88 ∧ r = (some (.int (jI y88)), w70)))) ∧ (r33 < 0 → r = (some (.int (jI (-3))), w30)))) ∧ (x19 < z3 → r = (some (.int (jI (-2))), w14)))) ∧ (¬ P17 → r = (some (.int (jI (-1))), w14))))) : xCall 238 [.ref 39, .int (jI z1), .int (jI z2), .int (jI z3)] w r := E_238 (Z_238_0 hC h)
theorem Z_239_0 {a0 : Nat} {z1 : Int} {z2 : Int} {w : xW} {r : Option Value × xW} (hC : CS w) (h : in32 z2 ∧ 0 ≤ (3 * z1) + 2 ∧ ∃ x3, rL w a0 ((3 * z1) + 2).toNat x3 ∧ in64 x3 ∧ in64 (z2 * z2) ∧ z2 * z2 ≠ 0 ∧ ∃ y8, Int.tmod x3 (z2 * z2) = y8 ∧ ∃ r13 w10, xCall 240 [.long (jL y8), .int (jI ((z2 * (z2 - 1)) - 1)), .long (jL (z2 * z2))] w (some (.long (jL r13)), w10) ∧ CS w10 ∧ 0 ≤ 3 * z1 ∧ ∃ x15, rL w10 a0 (3 * z1).toNat x15 ∧ in64 x15 ∧ z2 * z2 ≠ 0 ∧ ∃ y19, Int.tmod x15 (z2 * z2) = y19 ∧ in64 (y19 + (z2 * z2)) ∧ z2 * z2 ≠ 0 ∧ ∃ y23, Int.tmod (y19 + (z2 * z2)) (z2 * z2) = y23 ∧ 0 ≤ (3 * z1) + 1 ∧ ∃ x26, rL w10 a0 ((3 * z1) + 1).toNat x26 ∧ in64 x26 ∧ z2 * z2 ≠ 0 ∧ ∃ y30, Int.tmod x26 (z2 * z2) = y30 ∧ in64 (y30 * r13) ∧ z2 * z2 ≠ 0 ∧ ∃ y34, Int.tmod (y30 * r13) (z2 * z2) = y34 ∧ in64 (y23 + y34) ∧ z2 * z2 ≠ 0 ∧ ∃ y38, Int.tmod (y23 + y34) (z2 * z2) = y38 ∧ in32 z1 ∧ ∃ r44 w41, xCall 240 [.long (jL z1), .int (jI ((z2 * (z2 - 1)) - 1)), .long (jL (z2 * z2))] w10 (some (.long (jL r44)), w41) ∧ CS w41 ∧ in64 (y38 * r44) ∧ z2 * z2 ≠ 0 ∧ ∃ y47, Int.tmod (y38 * r44) (z2 * z2) = y47 ∧ r = (some (.long (jL y47)), w41)) : xGo 239 0 [some (.ref a0), some (.int (jI z1)), some (.int (jI z2)), none, none, none, none, none, none] [] w r := by
  refine g_iloadn (pc' := 1) d_239_0 rfl rfl ?_
  obtain ⟨hc1, h⟩ := h
  refine gz_i2l (pc' := 2) d_239_1 rfl hc1 ?_
  refine g_iloadn (pc' := 3) d_239_2 rfl rfl ?_
  refine gz_i2l (pc' := 4) d_239_3 rfl hc1 ?_
  refine gz_lmul (pc' := 5) d_239_4 rfl ?_
  refine g_lstoren (pc' := 6) (l' := [some (.ref a0), some (.int (jI z1)), some (.int (jI z2)), some (.long (jL (z2 * z2))), none, none, none, none, none]) d_239_5 rfl ml_239 rfl rfl ?_
  refine g_aloadn (pc' := 7) d_239_6 rfl rfl ?_
  refine g_iconst (pc' := 8) d_239_7 rfl rfl ?_
  refine g_iloadn (pc' := 9) d_239_8 rfl rfl ?_
  refine gz_imul (pc' := 10) d_239_9 rfl ?_
  refine g_iconst (pc' := 11) d_239_10 rfl rfl ?_
  refine gz_iadd (pc' := 12) d_239_11 rfl ?_
  obtain ⟨hc2, h⟩ := h
  obtain ⟨x3, hv4, h⟩ := h
  refine gz_lald (pc' := 13) d_239_12 rfl hc2 hv4 ?_
  refine g_lloadn (pc' := 14) d_239_13 rfl rfl ?_
  obtain ⟨hc5, h⟩ := h
  obtain ⟨hc6, h⟩ := h
  obtain ⟨hc7, h⟩ := h
  obtain ⟨y8, hz9, h⟩ := h
  refine gz_lrem (pc' := 15) d_239_14 rfl hc5 hc6 hc7 hz9 ?_
  refine g_iloadn (pc' := 16) d_239_15 rfl rfl ?_
  refine g_iloadn (pc' := 17) d_239_16 rfl rfl ?_
  refine g_iconst (pc' := 18) d_239_17 rfl rfl ?_
  refine gz_isub (pc' := 19) d_239_18 rfl ?_
  refine gz_imul (pc' := 20) d_239_19 rfl ?_
  refine g_iconst (pc' := 21) d_239_20 rfl rfl ?_
  refine gz_isub (pc' := 22) d_239_21 rfl ?_
  refine g_lloadn (pc' := 23) d_239_22 rfl rfl ?_
  obtain ⟨r13, w10, hk11, hC12, h⟩ := h
  refine g_callS (pc' := 26) d_239_23 rfl st_239_208 (Or.inl rfl) na_240 ml_240 rfl rfl rfl rm_239_240 rfl rfl hk11 ?_
  refine g_lstore (pc' := 28) (l' := [some (.ref a0), some (.int (jI z1)), some (.int (jI z2)), some (.long (jL (z2 * z2))), none, some (.long (jL r13)), none, none, none]) d_239_26 rfl ml_239 rfl rfl ?_
  refine g_aloadn (pc' := 29) d_239_28 rfl rfl ?_
  refine g_iconst (pc' := 30) d_239_29 rfl rfl ?_
  refine g_iloadn (pc' := 31) d_239_30 rfl rfl ?_
  refine gz_imul (pc' := 32) d_239_31 rfl ?_
  obtain ⟨hc14, h⟩ := h
  obtain ⟨x15, hv16, h⟩ := h
  refine gz_lald (pc' := 33) d_239_32 rfl hc14 hv16 ?_
  refine g_lloadn (pc' := 34) d_239_33 rfl rfl ?_
  obtain ⟨hc17, h⟩ := h
  obtain ⟨hc18, h⟩ := h
  obtain ⟨y19, hz20, h⟩ := h
  refine gz_lrem (pc' := 35) d_239_34 rfl hc17 hc6 hc18 hz20 ?_
  refine g_lloadn (pc' := 36) d_239_35 rfl rfl ?_
  refine gz_ladd (pc' := 37) d_239_36 rfl ?_
  refine g_lloadn (pc' := 38) d_239_37 rfl rfl ?_
  obtain ⟨hc21, h⟩ := h
  obtain ⟨hc22, h⟩ := h
  obtain ⟨y23, hz24, h⟩ := h
  refine gz_lrem (pc' := 39) d_239_38 rfl hc21 hc6 hc22 hz24 ?_
  refine g_aloadn (pc' := 40) d_239_39 rfl rfl ?_
  refine g_iconst (pc' := 41) d_239_40 rfl rfl ?_
  refine g_iloadn (pc' := 42) d_239_41 rfl rfl ?_
  refine gz_imul (pc' := 43) d_239_42 rfl ?_
  refine g_iconst (pc' := 44) d_239_43 rfl rfl ?_
  refine gz_iadd (pc' := 45) d_239_44 rfl ?_
  obtain ⟨hc25, h⟩ := h
  obtain ⟨x26, hv27, h⟩ := h
  refine gz_lald (pc' := 46) d_239_45 rfl hc25 hv27 ?_
  refine g_lloadn (pc' := 47) d_239_46 rfl rfl ?_
  obtain ⟨hc28, h⟩ := h
  obtain ⟨hc29, h⟩ := h
  obtain ⟨y30, hz31, h⟩ := h
  refine gz_lrem (pc' := 48) d_239_47 rfl hc28 hc6 hc29 hz31 ?_
  refine g_lload (pc' := 50) d_239_48 rfl rfl ?_
  refine gz_lmul (pc' := 51) d_239_50 rfl ?_
  refine g_lloadn (pc' := 52) d_239_51 rfl rfl ?_
  obtain ⟨hc32, h⟩ := h
  obtain ⟨hc33, h⟩ := h
  obtain ⟨y34, hz35, h⟩ := h
  refine gz_lrem (pc' := 53) d_239_52 rfl hc32 hc6 hc33 hz35 ?_
  refine gz_ladd (pc' := 54) d_239_53 rfl ?_
  refine g_lstore (pc' := 56) (l' := [some (.ref a0), some (.int (jI z1)), some (.int (jI z2)), some (.long (jL (z2 * z2))), none, some (.long (jL r13)), none, some (.long (jL (y23 + y34))), none]) d_239_54 rfl ml_239 rfl rfl ?_
  refine g_lload (pc' := 58) d_239_56 rfl rfl ?_
  refine g_lloadn (pc' := 59) d_239_58 rfl rfl ?_
  obtain ⟨hc36, h⟩ := h
  obtain ⟨hc37, h⟩ := h
  obtain ⟨y38, hz39, h⟩ := h
  refine gz_lrem (pc' := 60) d_239_59 rfl hc36 hc6 hc37 hz39 ?_
  refine g_iloadn (pc' := 61) d_239_60 rfl rfl ?_
  obtain ⟨hc40, h⟩ := h
  refine gz_i2l (pc' := 62) d_239_61 rfl hc40 ?_
  refine g_iloadn (pc' := 63) d_239_62 rfl rfl ?_
  refine g_iloadn (pc' := 64) d_239_63 rfl rfl ?_
  refine g_iconst (pc' := 65) d_239_64 rfl rfl ?_
  refine gz_isub (pc' := 66) d_239_65 rfl ?_
  refine gz_imul (pc' := 67) d_239_66 rfl ?_
  refine g_iconst (pc' := 68) d_239_67 rfl rfl ?_
  refine gz_isub (pc' := 69) d_239_68 rfl ?_
  refine g_lloadn (pc' := 70) d_239_69 rfl rfl ?_
  obtain ⟨r44, w41, hk42, hC43, h⟩ := h
  refine g_callS (pc' := 73) d_239_70 rfl st_239_208 (Or.inl rfl) na_240 ml_240 rfl rfl rfl rm_239_240 rfl rfl hk42 ?_
  refine gz_lmul (pc' := 74) d_239_73 rfl ?_
  refine g_lloadn (pc' := 75) d_239_74 rfl rfl ?_
  obtain ⟨hc45, h⟩ := h
  obtain ⟨hc46, h⟩ := h
  obtain ⟨y47, hz48, h⟩ := h
  refine gz_lrem (pc' := 76) d_239_75 rfl hc45 hc6 hc46 hz48 ?_
  exact g_lret d_239_76 rt_239 h
theorem Z_239 {a0 : Nat} {z1 : Int} {z2 : Int} {w : xW} {r : Option Value × xW} (hC : CS w) (h : in32 z2 ∧ 0 ≤ (3 * z1) + 2 ∧ ∃ x3, rL w a0 ((3 * z1) + 2).toNat x3 ∧ in64 x3 ∧ in64 (z2 * z2) ∧ z2 * z2 ≠ 0 ∧ ∃ y8, Int.tmod x3 (z2 * z2) = y8 ∧ ∃ r13 w10, xCall 240 [.long (jL y8), .int (jI ((z2 * (z2 - 1)) - 1)), .long (jL (z2 * z2))] w (some (.long (jL r13)), w10) ∧ CS w10 ∧ 0 ≤ 3 * z1 ∧ ∃ x15, rL w10 a0 (3 * z1).toNat x15 ∧ in64 x15 ∧ z2 * z2 ≠ 0 ∧ ∃ y19, Int.tmod x15 (z2 * z2) = y19 ∧ in64 (y19 + (z2 * z2)) ∧ z2 * z2 ≠ 0 ∧ ∃ y23, Int.tmod (y19 + (z2 * z2)) (z2 * z2) = y23 ∧ 0 ≤ (3 * z1) + 1 ∧ ∃ x26, rL w10 a0 ((3 * z1) + 1).toNat x26 ∧ in64 x26 ∧ z2 * z2 ≠ 0 ∧ ∃ y30, Int.tmod x26 (z2 * z2) = y30 ∧ in64 (y30 * r13) ∧ z2 * z2 ≠ 0 ∧ ∃ y34, Int.tmod (y30 * r13) (z2 * z2) = y34 ∧ in64 (y23 + y34) ∧ z2 * z2 ≠ 0 ∧ ∃ y38, Int.tmod (y23 + y34) (z2 * z2) = y38 ∧ in32 z1 ∧ ∃ r44 w41, xCall 240 [.long (jL z1), .int (jI ((z2 * (z2 - 1)) - 1)), .long (jL (z2 * z2))] w10 (some (.long (jL r44)), w41) ∧ CS w41 ∧ in64 (y38 * r44) ∧ z2 * z2 ≠ 0 ∧ ∃ y47, Int.tmod (y38 * r44) (z2 * z2) = y47 ∧ r = (some (.long (jL y47)), w41)) : xCall 239 [.ref a0, .int (jI z1), .int (jI z2)] w r := E_239 (Z_239_0 hC h)
theorem Z_240_0 {z0 : Int} {z2 : Int} {z3 : Int} {w : xW} {r : Option Value × xW} (hC : CS w) (h : in64 z0 ∧ in64 z3 ∧ z3 ≠ 0 ∧ ∃ y4, Int.tmod z0 z3 = y4 ∧ xGo 240 11 [some (.long (jL z0)), none, some (.int (jI z2)), some (.long (jL z3)), none, some (.long (jL 1)), none, some (.long (jL y4)), none, some (.int (jI z2))] [] w r) : xGo 240 0 [some (.long (jL z0)), none, some (.int (jI z2)), some (.long (jL z3)), none, none, none, none, none, none] [] w r := by
  refine g_lconst (pc' := 1) (v := jL 1) d_240_0 rfl cl_1 ?_
  refine g_lstore (pc' := 3) (l' := [some (.long (jL z0)), none, some (.int (jI z2)), some (.long (jL z3)), none, some (.long (jL 1)), none, none, none, none]) d_240_1 rfl ml_240 rfl rfl ?_
  refine g_lloadn (pc' := 4) d_240_3 rfl rfl ?_
  refine g_lloadn (pc' := 5) d_240_4 rfl rfl ?_
  obtain ⟨hc1, h⟩ := h
  obtain ⟨hc2, h⟩ := h
  obtain ⟨hc3, h⟩ := h
  obtain ⟨y4, hz5, h⟩ := h
  refine gz_lrem (pc' := 6) d_240_5 rfl hc1 hc2 hc3 hz5 ?_
  refine g_lstore (pc' := 8) (l' := [some (.long (jL z0)), none, some (.int (jI z2)), some (.long (jL z3)), none, some (.long (jL 1)), none, some (.long (jL y4)), none, none]) d_240_6 rfl ml_240 rfl rfl ?_
  refine g_iloadn (pc' := 9) d_240_8 rfl rfl ?_
  refine g_istore (pc' := 11) (l' := [some (.long (jL z0)), none, some (.int (jI z2)), some (.long (jL z3)), none, some (.long (jL 1)), none, some (.long (jL y4)), none, some (.int (jI z2))]) d_240_9 rfl ml_240 rfl rfl ?_
  exact h
theorem Z_240 {z0 : Int} {z2 : Int} {z3 : Int} {w : xW} {r : Option Value × xW} (hC : CS w) (h : in64 z0 ∧ in64 z3 ∧ z3 ≠ 0 ∧ ∃ y4, Int.tmod z0 z3 = y4 ∧ xGo 240 11 [some (.long (jL z0)), none, some (.int (jI z2)), some (.long (jL z3)), none, some (.long (jL 1)), none, some (.long (jL y4)), none, some (.int (jI z2))] [] w r) : xCall 240 [.long (jL z0), .int (jI z2), .long (jL z3)] w r := E_240 (Z_240_0 hC h)
theorem Z_240_11 {z0 : Int} {z2 : Int} {z3 : Int} {z5 : Int} {z7 : Int} {z9 : Int} {w : xW} {r : Option Value × xW} (hC : CS w) (h : in32 z9 ∧ (z9 ≤ 0 → r = (some (.long (jL z5)), w)) ∧ (0 < z9 → ∃ y2, Int.tmod z9 2 = y2 ∧ in32 y2 ∧ (y2 ≠ 1 → in64 (z7 * z7) ∧ in64 z3 ∧ z3 ≠ 0 ∧ ∃ y8, Int.tmod (z7 * z7) z3 = y8 ∧ ∃ y10, Int.tdiv z9 2 = y10 ∧ xGo 240 11 [some (.long (jL z0)), none, some (.int (jI z2)), some (.long (jL z3)), none, some (.long (jL z5)), none, some (.long (jL y8)), none, some (.int (jI y10))] [] w r) ∧ (y2 = 1 → in64 (z5 * z7) ∧ in64 z3 ∧ z3 ≠ 0 ∧ ∃ y15, Int.tmod (z5 * z7) z3 = y15 ∧ in64 (z7 * z7) ∧ z3 ≠ 0 ∧ ∃ y19, Int.tmod (z7 * z7) z3 = y19 ∧ ∃ y21, Int.tdiv z9 2 = y21 ∧ xGo 240 11 [some (.long (jL z0)), none, some (.int (jI z2)), some (.long (jL z3)), none, some (.long (jL y15)), none, some (.long (jL y19)), none, some (.int (jI y21))] [] w r))) : xGo 240 11 [some (.long (jL z0)), none, some (.int (jI z2)), some (.long (jL z3)), none, some (.long (jL z5)), none, some (.long (jL z7)), none, some (.int (jI z9))] [] w r := by
  refine g_iload (pc' := 13) d_240_11 rfl rfl ?_
  obtain ⟨hc1, h⟩ := h
  refine gz_if_le (pc' := 16) (pt := 51) d_240_13 (by decide) rfl hc1 (fun c => ?_) (fun c => ?_)
  · replace h := h.1 c
    refine g_lload (pc' := 53) d_240_51 rfl rfl ?_
    exact g_lret d_240_53 rt_240 h
  · replace h := h.2 c
    refine g_iload (pc' := 18) d_240_16 rfl rfl ?_
    refine g_iconst (pc' := 19) d_240_18 rfl rfl ?_
    obtain ⟨y2, hz3, h⟩ := h
    refine gz_irem (pc' := 20) d_240_19 rfl hc1 (s32 (z := 2)) (by decide) hz3 ?_
    refine g_iconst (pc' := 21) d_240_20 rfl rfl ?_
    obtain ⟨hc4, h⟩ := h
    refine gz_ic_ne (pc' := 24) (pt := 33) d_240_21 (by decide) rfl hc4 (s32 (z := 1)) (fun c => ?_) (fun c => ?_)
    · replace h := h.1 c
      refine g_lload (pc' := 35) d_240_33 rfl rfl ?_
      refine g_lload (pc' := 37) d_240_35 rfl rfl ?_
      refine gz_lmul (pc' := 38) d_240_37 rfl ?_
      refine g_lloadn (pc' := 39) d_240_38 rfl rfl ?_
      obtain ⟨hc5, h⟩ := h
      obtain ⟨hc6, h⟩ := h
      obtain ⟨hc7, h⟩ := h
      obtain ⟨y8, hz9, h⟩ := h
      refine gz_lrem (pc' := 40) d_240_39 rfl hc5 hc6 hc7 hz9 ?_
      refine g_lstore (pc' := 42) (l' := [some (.long (jL z0)), none, some (.int (jI z2)), some (.long (jL z3)), none, some (.long (jL z5)), none, some (.long (jL y8)), none, some (.int (jI z9))]) d_240_40 rfl ml_240 rfl rfl ?_
      refine g_iload (pc' := 44) d_240_42 rfl rfl ?_
      refine g_iconst (pc' := 45) d_240_44 rfl rfl ?_
      obtain ⟨y10, hz11, h⟩ := h
      refine gz_idiv (pc' := 46) d_240_45 rfl hc1 (s32 (z := 2)) (by decide) hz11 ?_
      refine g_istore (pc' := 48) (l' := [some (.long (jL z0)), none, some (.int (jI z2)), some (.long (jL z3)), none, some (.long (jL z5)), none, some (.long (jL y8)), none, some (.int (jI y10))]) d_240_46 rfl ml_240 rfl rfl ?_
      refine g_goto (pt := 11) d_240_48 (by decide) ?_
      exact h
    · replace h := h.2 c
      refine g_lload (pc' := 26) d_240_24 rfl rfl ?_
      refine g_lload (pc' := 28) d_240_26 rfl rfl ?_
      refine gz_lmul (pc' := 29) d_240_28 rfl ?_
      refine g_lloadn (pc' := 30) d_240_29 rfl rfl ?_
      obtain ⟨hc12, h⟩ := h
      obtain ⟨hc13, h⟩ := h
      obtain ⟨hc14, h⟩ := h
      obtain ⟨y15, hz16, h⟩ := h
      refine gz_lrem (pc' := 31) d_240_30 rfl hc12 hc13 hc14 hz16 ?_
      refine g_lstore (pc' := 33) (l' := [some (.long (jL z0)), none, some (.int (jI z2)), some (.long (jL z3)), none, some (.long (jL y15)), none, some (.long (jL z7)), none, some (.int (jI z9))]) d_240_31 rfl ml_240 rfl rfl ?_
      refine g_lload (pc' := 35) d_240_33 rfl rfl ?_
      refine g_lload (pc' := 37) d_240_35 rfl rfl ?_
      refine gz_lmul (pc' := 38) d_240_37 rfl ?_
      refine g_lloadn (pc' := 39) d_240_38 rfl rfl ?_
      obtain ⟨hc17, h⟩ := h
      obtain ⟨hc18, h⟩ := h
      obtain ⟨y19, hz20, h⟩ := h
      refine gz_lrem (pc' := 40) d_240_39 rfl hc17 hc13 hc18 hz20 ?_
      refine g_lstore (pc' := 42) (l' := [some (.long (jL z0)), none, some (.int (jI z2)), some (.long (jL z3)), none, some (.long (jL y15)), none, some (.long (jL y19)), none, some (.int (jI z9))]) d_240_40 rfl ml_240 rfl rfl ?_
      refine g_iload (pc' := 44) d_240_42 rfl rfl ?_
      refine g_iconst (pc' := 45) d_240_44 rfl rfl ?_
      obtain ⟨y21, hz22, h⟩ := h
      refine gz_idiv (pc' := 46) d_240_45 rfl hc1 (s32 (z := 2)) (by decide) hz22 ?_
      refine g_istore (pc' := 48) (l' := [some (.long (jL z0)), none, some (.int (jI z2)), some (.long (jL z3)), none, some (.long (jL y15)), none, some (.long (jL y19)), none, some (.int (jI y21))]) d_240_46 rfl ml_240 rfl rfl ?_
      refine g_goto (pt := 11) d_240_48 (by decide) ?_
      exact h
theorem Z_241_0 {z1 : Int} {w : xW} {r : Option Value × xW} (hC : CS w) (h : ∀ w2, w2 = pF w 39 0 (.int (jI 0)) → CS w2 → ∃ (P7 : Prop) (dP8 : Decidable P7) (w4 : xW), xCall 198 [.ref 39, .int (jI z1)] w2 (some (.int (bz P7)), w4) ∧ CS w4 ∧ (P7 → ∃ x9, fI w4 39 12 4 x9 ∧ in32 z1 ∧ in32 x9 ∧ (z1 ≤ x9 → ∃ r16 w13, xCall 206 [.ref 39, .int (jI z1)] w4 (some (.int (jI r16)), w13) ∧ CS w13 ∧ r = (some (.int (jI r16)), w13)) ∧ (x9 < z1 → r = (some (.int (jI (-2))), w4))) ∧ (¬ P7 → r = (some (.int (jI (-1))), w4))) : xGo 241 0 [some (.ref 39), some (.int (jI z1))] [] w r := by
  refine g_aloadn (pc' := 1) d_241_0 rfl rfl ?_
  refine g_iconst (pc' := 2) d_241_1 rfl rfl ?_
  have hpf1 := (kf_39_0 hC)
  have hC3 : CS (pF w 39 0 (.int (jI 0))) := ks_39_0 hC
  have h := h _ rfl hC3
  refine gz_putf (pc' := 5) d_241_2 rfl st_241_118 ft_12_0 ff_12_0 rfl (Or.inl rfl) hpf1 ?_
  refine g_aloadn (pc' := 6) d_241_5 rfl rfl ?_
  refine g_iloadn (pc' := 7) d_241_6 rfl rfl ?_
  obtain ⟨P7, dP8, w4, hk5, hC6, h⟩ := h
  refine gz_callV (pc' := 10) d_241_7 rfl st_241_145 na_198 ml_198 rfl rfl rfl rm_241_198 rfl rfl ow_198 (ko_39 hC3) hk5 ?_
  refine gz_bt_ne (pc' := 13) (pt := 17) d_241_10 (by decide) rfl (fun c => ?_) (fun c => ?_)
  · replace h := h.1 c
    refine g_iloadn (pc' := 18) d_241_17 rfl rfl ?_
    refine g_aloadn (pc' := 19) d_241_18 rfl rfl ?_
    obtain ⟨x9, hv10, h⟩ := h
    refine gz_getI (pc' := 22) d_241_19 rfl st_241_20 hv10 ?_
    obtain ⟨hc11, h⟩ := h
    obtain ⟨hc12, h⟩ := h
    refine gz_ic_le (pc' := 25) (pt := 30) d_241_22 (by decide) rfl hc11 hc12 (fun c => ?_) (fun c => ?_)
    · replace h := h.1 c
      refine g_aloadn (pc' := 31) d_241_30 rfl rfl ?_
      refine g_iloadn (pc' := 32) d_241_31 rfl rfl ?_
      obtain ⟨r16, w13, hk14, hC15, h⟩ := h
      refine gz_callV (pc' := 35) d_241_32 rfl st_241_158 na_206 ml_206 rfl rfl rfl rm_241_206 rfl rfl ow_206 (ko_39 hC6) hk14 ?_
      exact g_iret d_241_35 rt_241 h
    · replace h := h.2 c
      refine g_bipush (pc' := 27) (v := jI (-2)) d_241_25 rfl (by decide) ?_
      refine g_goto (pt := 35) d_241_27 (by decide) ?_
      exact g_iret d_241_35 rt_241 h
  · replace h := h.2 c
    refine g_iconst (pc' := 14) d_241_13 rfl rfl ?_
    refine g_goto (pt := 35) d_241_14 (by decide) ?_
    exact g_iret d_241_35 rt_241 h
theorem Z_241 {z1 : Int} {w : xW} {r : Option Value × xW} (hC : CS w) (h : ∀ w2, w2 = pF w 39 0 (.int (jI 0)) → CS w2 → ∃ (P7 : Prop) (dP8 : Decidable P7) (w4 : xW), xCall 198 [.ref 39, .int (jI z1)] w2 (some (.int (bz P7)), w4) ∧ CS w4 ∧ (P7 → ∃ x9, fI w4 39 12 4 x9 ∧ in32 z1 ∧ in32 x9 ∧ (z1 ≤ x9 → ∃ r16 w13, xCall 206 [.ref 39, .int (jI z1)] w4 (some (.int (jI r16)), w13) ∧ CS w13 ∧ r = (some (.int (jI r16)), w13)) ∧ (x9 < z1 → r = (some (.int (jI (-2))), w4))) ∧ (¬ P7 → r = (some (.int (jI (-1))), w4))) : xCall 241 [.ref 39, .int (jI z1)] w r := E_241 (Z_241_0 hC h)
theorem Z_242_0 {z1 : Int} {w : xW} {r : Option Value × xW} (hC : CS w) (h : ∀ w2, w2 = pF w 39 0 (.int (jI 0)) → CS w2 → ∃ (P7 : Prop) (dP8 : Decidable P7) (w4 : xW), xCall 199 [.int (jI z1), .int (jI 0), .int (jI 63)] w2 (some (.int (bz P7)), w4) ∧ CS w4 ∧ (P7 → xGo 242 24 [some (.ref 39), some (.int (jI z1)), some (.long (jL 0)), none, some (.int (jI 0))] [] w4 r) ∧ (¬ P7 → r = (some (.long (jL (-9223372036854775808))), w4))) : xGo 242 0 [some (.ref 39), some (.int (jI z1)), none, none, none] [] w r := by
  refine g_aloadn (pc' := 1) d_242_0 rfl rfl ?_
  refine g_iconst (pc' := 2) d_242_1 rfl rfl ?_
  have hpf1 := (kf_39_0 hC)
  have hC3 : CS (pF w 39 0 (.int (jI 0))) := ks_39_0 hC
  have h := h _ rfl hC3
  refine gz_putf (pc' := 5) d_242_2 rfl st_242_118 ft_12_0 ff_12_0 rfl (Or.inl rfl) hpf1 ?_
  refine g_iloadn (pc' := 6) d_242_5 rfl rfl ?_
  refine g_iconst (pc' := 7) d_242_6 rfl rfl ?_
  refine g_bipush (pc' := 9) (v := jI 63) d_242_7 rfl (by decide) ?_
  obtain ⟨P7, dP8, w4, hk5, hC6, h⟩ := h
  refine g_callS (pc' := 12) d_242_9 rfl st_242_137 (Or.inl rfl) na_199 ml_199 rfl rfl rfl rm_242_199 rfl rfl hk5 ?_
  refine gz_bt_ne (pc' := 15) (pt := 19) d_242_12 (by decide) rfl (fun c => ?_) (fun c => ?_)
  · replace h := h.1 c
    refine g_lconst (pc' := 20) (v := jL 0) d_242_19 rfl cl_0 ?_
    refine g_lstoren (pc' := 21) (l' := [some (.ref 39), some (.int (jI z1)), some (.long (jL 0)), none, none]) d_242_20 rfl ml_242 rfl rfl ?_
    refine g_iconst (pc' := 22) d_242_21 rfl rfl ?_
    refine g_istore (pc' := 24) (l' := [some (.ref 39), some (.int (jI z1)), some (.long (jL 0)), none, some (.int (jI 0))]) d_242_22 rfl ml_242 rfl rfl ?_
    exact h
  · replace h := h.2 c
    refine g_ldc2 (pc' := 18) d_242_15 rfl st_242_166 rfl ?_
    exact g_lret d_242_18 rt_242 h
theorem Z_242 {z1 : Int} {w : xW} {r : Option Value × xW} (hC : CS w) (h : ∀ w2, w2 = pF w 39 0 (.int (jI 0)) → CS w2 → ∃ (P7 : Prop) (dP8 : Decidable P7) (w4 : xW), xCall 199 [.int (jI z1), .int (jI 0), .int (jI 63)] w2 (some (.int (bz P7)), w4) ∧ CS w4 ∧ (P7 → xGo 242 24 [some (.ref 39), some (.int (jI z1)), some (.long (jL 0)), none, some (.int (jI 0))] [] w4 r) ∧ (¬ P7 → r = (some (.long (jL (-9223372036854775808))), w4))) : xCall 242 [.ref 39, .int (jI z1)] w r := E_242 (Z_242_0 hC h)
theorem Z_242_24 {z1 : Int} {z2 : Int} {z4 : Int} {w : xW} {r : Option Value × xW} (hC : CS w) (h : ∃ x1, fI w 39 12 4 x1 ∧ in32 z4 ∧ in32 x1 ∧ (x1 < z4 → r = (some (.long (jL z2)), w)) ∧ (z4 ≤ x1 → ∃ r8 w5, xCall 206 [.ref 39, .int (jI z4)] w (some (.int (jI r8)), w5) ∧ CS w5 ∧ ∃ y9, jI r8 &&& jI z1 = jI y9 ∧ in32 y9 ∧ (y9 = 0 → xGo 242 24 [some (.ref 39), some (.int (jI z1)), some (.long (jL z2)), none, some (.int (jI (z4 + 1)))] [] w5 r) ∧ (y9 ≠ 0 → ∃ y12, jL 1 <<< ((jI z4).toInt64 &&& 63) = jL y12 ∧ ∃ y14, jL z2 ||| jL y12 = jL y14 ∧ xGo 242 24 [some (.ref 39), some (.int (jI z1)), some (.long (jL y14)), none, some (.int (jI (z4 + 1)))] [] w5 r))) : xGo 242 24 [some (.ref 39), some (.int (jI z1)), some (.long (jL z2)), none, some (.int (jI z4))] [] w r := by
  refine g_iload (pc' := 26) d_242_24 rfl rfl ?_
  refine g_aloadn (pc' := 27) d_242_26 rfl rfl ?_
  obtain ⟨x1, hv2, h⟩ := h
  refine gz_getI (pc' := 30) d_242_27 rfl st_242_20 hv2 ?_
  obtain ⟨hc3, h⟩ := h
  obtain ⟨hc4, h⟩ := h
  refine gz_ic_gt (pc' := 33) (pt := 57) d_242_30 (by decide) rfl hc3 hc4 (fun c => ?_) (fun c => ?_)
  · replace h := h.1 c
    refine g_lloadn (pc' := 58) d_242_57 rfl rfl ?_
    exact g_lret d_242_58 rt_242 h
  · replace h := h.2 c
    refine g_aloadn (pc' := 34) d_242_33 rfl rfl ?_
    refine g_iload (pc' := 36) d_242_34 rfl rfl ?_
    obtain ⟨r8, w5, hk6, hC7, h⟩ := h
    refine gz_callV (pc' := 39) d_242_36 rfl st_242_158 na_206 ml_206 rfl rfl rfl rm_242_206 rfl rfl ow_206 (ko_39 hC) hk6 ?_
    refine g_iloadn (pc' := 40) d_242_39 rfl rfl ?_
    obtain ⟨y9, hz10, h⟩ := h
    refine gz_iand (pc' := 41) d_242_40 rfl hz10 ?_
    obtain ⟨hc11, h⟩ := h
    refine gz_if_eq (pc' := 44) (pt := 51) d_242_41 (by decide) rfl hc11 (fun c => ?_) (fun c => ?_)
    · replace h := h.1 c
      refine gz_iinc (pc' := 54) (l' := [some (.ref 39), some (.int (jI z1)), some (.long (jL z2)), none, some (.int (jI (z4 + 1)))]) d_242_51 rfl rfl ml_242 rfl rfl ?_
      refine g_goto (pt := 24) d_242_54 (by decide) ?_
      exact h
    · replace h := h.2 c
      refine g_lloadn (pc' := 45) d_242_44 rfl rfl ?_
      refine g_lconst (pc' := 46) (v := jL 1) d_242_45 rfl cl_1 ?_
      refine g_iload (pc' := 48) d_242_46 rfl rfl ?_
      obtain ⟨y12, hz13, h⟩ := h
      refine gz_lshl (pc' := 49) d_242_48 rfl hz13 ?_
      obtain ⟨y14, hz15, h⟩ := h
      refine gz_lor (pc' := 50) d_242_49 rfl hz15 ?_
      refine g_lstoren (pc' := 51) (l' := [some (.ref 39), some (.int (jI z1)), some (.long (jL y14)), none, some (.int (jI z4))]) d_242_50 rfl ml_242 rfl rfl ?_
      refine gz_iinc (pc' := 54) (l' := [some (.ref 39), some (.int (jI z1)), some (.long (jL y14)), none, some (.int (jI (z4 + 1)))]) d_242_51 rfl rfl ml_242 rfl rfl ?_
      refine g_goto (pt := 24) d_242_54 (by decide) ?_
      exact h
theorem Z_243_0 {z1 : Int} {w : xW} {r : Option Value × xW} (hC : CS w) (h : ∀ w2, w2 = pF w 39 0 (.int (jI 0)) → CS w2 → ∃ (P7 : Prop) (dP8 : Decidable P7) (w4 : xW), xCall 199 [.int (jI z1), .int (jI 0), .int (jI 63)] w2 (some (.int (bz P7)), w4) ∧ CS w4 ∧ (P7 → xGo 243 22 [some (.ref 39), some (.int (jI z1)), some (.long (jL 0)), none, some (.int (jI 0)), none] [] w4 r) ∧ (¬ P7 → r = (some (.int (jI (-1))), w4))) : xGo 243 0 [some (.ref 39), some (.int (jI z1)), none, none, none, none] [] w r := by
  refine g_aloadn (pc' := 1) d_243_0 rfl rfl ?_
  refine g_iconst (pc' := 2) d_243_1 rfl rfl ?_
  have hpf1 := (kf_39_0 hC)
  have hC3 : CS (pF w 39 0 (.int (jI 0))) := ks_39_0 hC
  have h := h _ rfl hC3
  refine gz_putf (pc' := 5) d_243_2 rfl st_243_118 ft_12_0 ff_12_0 rfl (Or.inl rfl) hpf1 ?_
  refine g_iloadn (pc' := 6) d_243_5 rfl rfl ?_
  refine g_iconst (pc' := 7) d_243_6 rfl rfl ?_
  refine g_bipush (pc' := 9) (v := jI 63) d_243_7 rfl (by decide) ?_
  obtain ⟨P7, dP8, w4, hk5, hC6, h⟩ := h
  refine g_callS (pc' := 12) d_243_9 rfl st_243_137 (Or.inl rfl) na_199 ml_199 rfl rfl rfl rm_243_199 rfl rfl hk5 ?_
  refine gz_bt_ne (pc' := 15) (pt := 17) d_243_12 (by decide) rfl (fun c => ?_) (fun c => ?_)
  · replace h := h.1 c
    refine g_lconst (pc' := 18) (v := jL 0) d_243_17 rfl cl_0 ?_
    refine g_lstoren (pc' := 19) (l' := [some (.ref 39), some (.int (jI z1)), some (.long (jL 0)), none, none, none]) d_243_18 rfl ml_243 rfl rfl ?_
    refine g_iconst (pc' := 20) d_243_19 rfl rfl ?_
    refine g_istore (pc' := 22) (l' := [some (.ref 39), some (.int (jI z1)), some (.long (jL 0)), none, some (.int (jI 0)), none]) d_243_20 rfl ml_243 rfl rfl ?_
    exact h
  · replace h := h.2 c
    refine g_iconst (pc' := 16) d_243_15 rfl rfl ?_
    exact g_iret d_243_16 rt_243 h
theorem Z_243 {z1 : Int} {w : xW} {r : Option Value × xW} (hC : CS w) (h : ∀ w2, w2 = pF w 39 0 (.int (jI 0)) → CS w2 → ∃ (P7 : Prop) (dP8 : Decidable P7) (w4 : xW), xCall 199 [.int (jI z1), .int (jI 0), .int (jI 63)] w2 (some (.int (bz P7)), w4) ∧ CS w4 ∧ (P7 → xGo 243 22 [some (.ref 39), some (.int (jI z1)), some (.long (jL 0)), none, some (.int (jI 0)), none] [] w4 r) ∧ (¬ P7 → r = (some (.int (jI (-1))), w4))) : xCall 243 [.ref 39, .int (jI z1)] w r := E_243 (Z_243_0 hC h)
theorem Z_243_22 {z1 : Int} {z2 : Int} {z4 : Int} {w : xW} {r : Option Value × xW} (hC : CS w) (h : ∃ x1, fI w 39 12 4 x1 ∧ in32 z4 ∧ in32 x1 ∧ (x1 < z4 → xGo 243 61 [some (.ref 39), some (.int (jI z1)), some (.long (jL z2)), none, some (.int (jI 0)), some (.int (jI 0))] [] w r) ∧ (z4 ≤ x1 → ∃ r8 w5, xCall 206 [.ref 39, .int (jI z4)] w (some (.int (jI r8)), w5) ∧ CS w5 ∧ ∃ y9, jI r8 &&& jI z1 = jI y9 ∧ in32 y9 ∧ (y9 = 0 → xGo 243 22 [some (.ref 39), some (.int (jI z1)), some (.long (jL z2)), none, some (.int (jI (z4 + 1))), none] [] w5 r) ∧ (y9 ≠ 0 → ∃ y12, jL 1 <<< ((jI z4).toInt64 &&& 63) = jL y12 ∧ ∃ y14, jL z2 ||| jL y12 = jL y14 ∧ xGo 243 22 [some (.ref 39), some (.int (jI z1)), some (.long (jL y14)), none, some (.int (jI (z4 + 1))), none] [] w5 r))) : xGo 243 22 [some (.ref 39), some (.int (jI z1)), some (.long (jL z2)), none, some (.int (jI z4)), none] [] w r := by
  refine g_iload (pc' := 24) d_243_22 rfl rfl ?_
  refine g_aloadn (pc' := 25) d_243_24 rfl rfl ?_
  obtain ⟨x1, hv2, h⟩ := h
  refine gz_getI (pc' := 28) d_243_25 rfl st_243_20 hv2 ?_
  obtain ⟨hc3, h⟩ := h
  obtain ⟨hc4, h⟩ := h
  refine gz_ic_gt (pc' := 31) (pt := 55) d_243_28 (by decide) rfl hc3 hc4 (fun c => ?_) (fun c => ?_)
  · replace h := h.1 c
    refine g_iconst (pc' := 56) d_243_55 rfl rfl ?_
    refine g_istore (pc' := 58) (l' := [some (.ref 39), some (.int (jI z1)), some (.long (jL z2)), none, some (.int (jI 0)), none]) d_243_56 rfl ml_243 rfl rfl ?_
    refine g_iconst (pc' := 59) d_243_58 rfl rfl ?_
    refine g_istore (pc' := 61) (l' := [some (.ref 39), some (.int (jI z1)), some (.long (jL z2)), none, some (.int (jI 0)), some (.int (jI 0))]) d_243_59 rfl ml_243 rfl rfl ?_
    exact h
  · replace h := h.2 c
    refine g_aloadn (pc' := 32) d_243_31 rfl rfl ?_
    refine g_iload (pc' := 34) d_243_32 rfl rfl ?_
    obtain ⟨r8, w5, hk6, hC7, h⟩ := h
    refine gz_callV (pc' := 37) d_243_34 rfl st_243_158 na_206 ml_206 rfl rfl rfl rm_243_206 rfl rfl ow_206 (ko_39 hC) hk6 ?_
    refine g_iloadn (pc' := 38) d_243_37 rfl rfl ?_
    obtain ⟨y9, hz10, h⟩ := h
    refine gz_iand (pc' := 39) d_243_38 rfl hz10 ?_
    obtain ⟨hc11, h⟩ := h
    refine gz_if_eq (pc' := 42) (pt := 49) d_243_39 (by decide) rfl hc11 (fun c => ?_) (fun c => ?_)
    · replace h := h.1 c
      refine gz_iinc (pc' := 52) (l' := [some (.ref 39), some (.int (jI z1)), some (.long (jL z2)), none, some (.int (jI (z4 + 1))), none]) d_243_49 rfl rfl ml_243 rfl rfl ?_
      refine g_goto (pt := 22) d_243_52 (by decide) ?_
      exact h
    · replace h := h.2 c
      refine g_lloadn (pc' := 43) d_243_42 rfl rfl ?_
      refine g_lconst (pc' := 44) (v := jL 1) d_243_43 rfl cl_1 ?_
      refine g_iload (pc' := 46) d_243_44 rfl rfl ?_
      obtain ⟨y12, hz13, h⟩ := h
      refine gz_lshl (pc' := 47) d_243_46 rfl hz13 ?_
      obtain ⟨y14, hz15, h⟩ := h
      refine gz_lor (pc' := 48) d_243_47 rfl hz15 ?_
      refine g_lstoren (pc' := 49) (l' := [some (.ref 39), some (.int (jI z1)), some (.long (jL y14)), none, some (.int (jI z4)), none]) d_243_48 rfl ml_243 rfl rfl ?_
      refine gz_iinc (pc' := 52) (l' := [some (.ref 39), some (.int (jI z1)), some (.long (jL y14)), none, some (.int (jI (z4 + 1))), none]) d_243_49 rfl rfl ml_243 rfl rfl ?_
      refine g_goto (pt := 22) d_243_52 (by decide) ?_
      exact h
theorem Z_243_61 {z1 : Int} {z2 : Int} {z4 : Int} {z5 : Int} {w : xW} {r : Option Value × xW} (hC : CS w) (h : ∃ x1, fI w 39 12 4 x1 ∧ in32 z5 ∧ in32 x1 ∧ (x1 < z5 → r = (some (.int (jI z4)), w)) ∧ (z5 ≤ x1 → ∃ y5, jL z2 >>> ((jI z5).toInt64 &&& 63) = jL y5 ∧ ∃ y7, jL y5 &&& jL 1 = jL y7 ∧ in64 y7 ∧ (y7 ≠ 0 → ∃ (P13 : Prop) (dP14 : Decidable P13) (w10 : xW), xCall 201 [.ref 39, .int (jI z5)] w (some (.int (bz P13)), w10) ∧ CS w10 ∧ (¬ P13 → ∃ w15, xCall 202 [.ref 39, .int (jI z5), .int (jI 1)] w10 (none, w15) ∧ CS w15 ∧ xGo 243 61 [some (.ref 39), some (.int (jI z1)), some (.long (jL z2)), none, some (.int (jI (z4 + 1))), some (.int (jI (z5 + 1)))] [] w15 r) ∧ (P13 → ∃ w18, xCall 202 [.ref 39, .int (jI z5), .int (jI 1)] w10 (none, w18) ∧ CS w18 ∧ xGo 243 61 [some (.ref 39), some (.int (jI z1)), some (.long (jL z2)), none, some (.int (jI (z4 + 0))), some (.int (jI (z5 + 1)))] [] w18 r)) ∧ (y7 = 0 → xGo 243 61 [some (.ref 39), some (.int (jI z1)), some (.long (jL z2)), none, some (.int (jI z4)), some (.int (jI (z5 + 1)))] [] w r))) : xGo 243 61 [some (.ref 39), some (.int (jI z1)), some (.long (jL z2)), none, some (.int (jI z4)), some (.int (jI z5))] [] w r := by
  refine g_iload (pc' := 63) d_243_61 rfl rfl ?_
  refine g_aloadn (pc' := 64) d_243_63 rfl rfl ?_
  obtain ⟨x1, hv2, h⟩ := h
  refine gz_getI (pc' := 67) d_243_64 rfl st_243_20 hv2 ?_
  obtain ⟨hc3, h⟩ := h
  obtain ⟨hc4, h⟩ := h
  refine gz_ic_gt (pc' := 70) (pt := 116) d_243_67 (by decide) rfl hc3 hc4 (fun c => ?_) (fun c => ?_)
  · replace h := h.1 c
    refine g_iload (pc' := 118) d_243_116 rfl rfl ?_
    exact g_iret d_243_118 rt_243 h
  · replace h := h.2 c
    refine g_lloadn (pc' := 71) d_243_70 rfl rfl ?_
    refine g_iload (pc' := 73) d_243_71 rfl rfl ?_
    obtain ⟨y5, hz6, h⟩ := h
    refine gz_lshr (pc' := 74) d_243_73 rfl hz6 ?_
    refine g_lconst (pc' := 75) (v := jL 1) d_243_74 rfl cl_1 ?_
    obtain ⟨y7, hz8, h⟩ := h
    refine gz_land (pc' := 76) d_243_75 rfl hz8 ?_
    refine g_lconst (pc' := 77) (v := jL 0) d_243_76 rfl cl_0 ?_
    obtain ⟨hc9, h⟩ := h
    refine gz_lc_ne (pc' := 81) (pm := 78) (pt := 84) d_243_77 rfl d_243_78 (by decide) rfl hc9 (s64 (z := 0)) (fun c => ?_) (fun c => ?_)
    · replace h := h.1 c
      refine g_iload (pc' := 86) d_243_84 rfl rfl ?_
      refine g_aloadn (pc' := 87) d_243_86 rfl rfl ?_
      refine g_iload (pc' := 89) d_243_87 rfl rfl ?_
      obtain ⟨P13, dP14, w10, hk11, hC12, h⟩ := h
      refine gz_callV (pc' := 92) d_243_89 rfl st_243_141 na_201 ml_201 rfl rfl rfl rm_243_201 rfl rfl ow_201 (ko_39 hC) hk11 ?_
      refine gz_bt_eq (pc' := 95) (pt := 99) d_243_92 (by decide) rfl (fun c => ?_) (fun c => ?_)
      · replace h := h.1 c
        refine g_iconst (pc' := 100) d_243_99 rfl rfl ?_
        refine gz_iadd (pc' := 101) d_243_100 rfl ?_
        refine g_istore (pc' := 103) (l' := [some (.ref 39), some (.int (jI z1)), some (.long (jL z2)), none, some (.int (jI (z4 + 1))), some (.int (jI z5))]) d_243_101 rfl ml_243 rfl rfl ?_
        refine g_aloadn (pc' := 104) d_243_103 rfl rfl ?_
        refine g_iload (pc' := 106) d_243_104 rfl rfl ?_
        refine g_iconst (pc' := 107) d_243_106 rfl rfl ?_
        obtain ⟨w15, hk16, hC17, h⟩ := h
        refine gz_callV (pc' := 110) d_243_107 rfl st_243_151 na_202 ml_202 rfl rfl rfl rm_243_202 rfl rfl ow_202 (ko_39 hC12) hk16 ?_
        refine gz_iinc (pc' := 113) (l' := [some (.ref 39), some (.int (jI z1)), some (.long (jL z2)), none, some (.int (jI (z4 + 1))), some (.int (jI (z5 + 1)))]) d_243_110 rfl rfl ml_243 rfl rfl ?_
        refine g_goto (pt := 61) d_243_113 (by decide) ?_
        exact h
      · replace h := h.2 c
        refine g_iconst (pc' := 96) d_243_95 rfl rfl ?_
        refine g_goto (pt := 100) d_243_96 (by decide) ?_
        refine gz_iadd (pc' := 101) d_243_100 rfl ?_
        refine g_istore (pc' := 103) (l' := [some (.ref 39), some (.int (jI z1)), some (.long (jL z2)), none, some (.int (jI (z4 + 0))), some (.int (jI z5))]) d_243_101 rfl ml_243 rfl rfl ?_
        refine g_aloadn (pc' := 104) d_243_103 rfl rfl ?_
        refine g_iload (pc' := 106) d_243_104 rfl rfl ?_
        refine g_iconst (pc' := 107) d_243_106 rfl rfl ?_
        obtain ⟨w18, hk19, hC20, h⟩ := h
        refine gz_callV (pc' := 110) d_243_107 rfl st_243_151 na_202 ml_202 rfl rfl rfl rm_243_202 rfl rfl ow_202 (ko_39 hC12) hk19 ?_
        refine gz_iinc (pc' := 113) (l' := [some (.ref 39), some (.int (jI z1)), some (.long (jL z2)), none, some (.int (jI (z4 + 0))), some (.int (jI (z5 + 1)))]) d_243_110 rfl rfl ml_243 rfl rfl ?_
        refine g_goto (pt := 61) d_243_113 (by decide) ?_
        exact h
    · replace h := h.2 c
      refine g_goto (pt := 110) d_243_81 (by decide) ?_
      refine gz_iinc (pc' := 113) (l' := [some (.ref 39), some (.int (jI z1)), some (.long (jL z2)), none, some (.int (jI z4)), some (.int (jI (z5 + 1)))]) d_243_110 rfl rfl ml_243 rfl rfl ?_
      refine g_goto (pt := 61) d_243_113 (by decide) ?_
      exact h
theorem Z_245_0 {z1 : Int} {w : xW} {r : Option Value × xW} (hC : CS w) (h : xGo 245 2 [some (.ref 39), some (.int (jI z1)), some (.int (jI 0))] [] w r) : xGo 245 0 [some (.ref 39), some (.int (jI z1)), none] [] w r := by
  refine g_iconst (pc' := 1) d_245_0 rfl rfl ?_
  refine g_istoren (pc' := 2) (l' := [some (.ref 39), some (.int (jI z1)), some (.int (jI 0))]) d_245_1 rfl ml_245 rfl rfl ?_
  exact h
theorem Z_245 {z1 : Int} {w : xW} {r : Option Value × xW} (hC : CS w) (h : xGo 245 2 [some (.ref 39), some (.int (jI z1)), some (.int (jI 0))] [] w r) : xCall 245 [.ref 39, .int (jI z1)] w r := E_245 (Z_245_0 hC h)
theorem Z_245_2 {z1 : Int} {z2 : Int} {w : xW} {r : Option Value × xW} (hC : CS w) (h : ∃ x1, fI w 39 12 4 x1 ∧ in32 z2 ∧ in32 x1 ∧ (x1 < z2 → r = (some (.int (jI 0)), w)) ∧ (z2 ≤ x1 → ∃ r8 w5, xCall 206 [.ref 39, .int (jI z2)] w (some (.int (jI r8)), w5) ∧ CS w5 ∧ ∃ y9, jI r8 &&& jI z1 = jI y9 ∧ in32 y9 ∧ (y9 = 0 → xGo 245 2 [some (.ref 39), some (.int (jI z1)), some (.int (jI (z2 + 1)))] [] w5 r) ∧ (y9 ≠ 0 → r = (some (.int (jI 1)), w5)))) : xGo 245 2 [some (.ref 39), some (.int (jI z1)), some (.int (jI z2))] [] w r := by
  refine g_iloadn (pc' := 3) d_245_2 rfl rfl ?_
  refine g_aloadn (pc' := 4) d_245_3 rfl rfl ?_
  obtain ⟨x1, hv2, h⟩ := h
  refine gz_getI (pc' := 7) d_245_4 rfl st_245_20 hv2 ?_
  obtain ⟨hc3, h⟩ := h
  obtain ⟨hc4, h⟩ := h
  refine gz_ic_gt (pc' := 10) (pt := 28) d_245_7 (by decide) rfl hc3 hc4 (fun c => ?_) (fun c => ?_)
  · replace h := h.1 c
    refine g_iconst (pc' := 29) d_245_28 rfl rfl ?_
    exact g_zret d_245_29 rt_245 (Or.inl rfl) h
  · replace h := h.2 c
    refine g_aloadn (pc' := 11) d_245_10 rfl rfl ?_
    refine g_iloadn (pc' := 12) d_245_11 rfl rfl ?_
    obtain ⟨r8, w5, hk6, hC7, h⟩ := h
    refine gz_callV (pc' := 15) d_245_12 rfl st_245_158 na_206 ml_206 rfl rfl rfl rm_245_206 rfl rfl ow_206 (ko_39 hC) hk6 ?_
    refine g_iloadn (pc' := 16) d_245_15 rfl rfl ?_
    obtain ⟨y9, hz10, h⟩ := h
    refine gz_iand (pc' := 17) d_245_16 rfl hz10 ?_
    obtain ⟨hc11, h⟩ := h
    refine gz_if_eq (pc' := 20) (pt := 22) d_245_17 (by decide) rfl hc11 (fun c => ?_) (fun c => ?_)
    · replace h := h.1 c
      refine gz_iinc (pc' := 25) (l' := [some (.ref 39), some (.int (jI z1)), some (.int (jI (z2 + 1)))]) d_245_22 rfl rfl ml_245 rfl rfl ?_
      refine g_goto (pt := 2) d_245_25 (by decide) ?_
      exact h
    · replace h := h.2 c
      refine g_iconst (pc' := 21) d_245_20 rfl rfl ?_
      exact g_zret d_245_21 rt_245 (Or.inr rfl) h
theorem Z_246_0 {z1 : Int} {z2 : Int} {z3 : Int} {w : xW} {r : Option Value × xW} (hC : CS w) (h : ∀ w2, w2 = pF w 39 0 (.int (jI 0)) → CS w2 → in32 z1 ∧ (z1 < 0 → r = (some (.int (jI (-1))), w2)) ∧ (0 ≤ z1 → ∃ (P8 : Prop) (dP9 : Decidable P8) (w5 : xW), xCall 199 [.int (jI z2), .int (jI 1), .int (jI 20)] w2 (some (.int (bz P8)), w5) ∧ CS w5 ∧ (¬ P8 → r = (some (.int (jI (-1))), w5)) ∧ (P8 → ∃ (P13 : Prop) (dP14 : Decidable P13) (w10 : xW), xCall 199 [.int (jI z3), .int (jI 0), .int (jI 63)] w5 (some (.int (bz P13)), w10) ∧ CS w10 ∧ (P13 → ∃ x15, fI w10 39 12 4 x15 ∧ in32 x15 ∧ (0 ≤ x15 → ∀ w19, w19 = pF w10 39 14 (.long (jL z1)) → CS w19 → xGo 246 50 [some (.ref 39), some (.int (jI z1)), some (.int (jI z2)), some (.int (jI z3)), some (.int (jI 0)), none, none] [] w19 r) ∧ (x15 < 0 → r = (some (.int (jI (-2))), w10))) ∧ (¬ P13 → r = (some (.int (jI (-1))), w10))))) : xGo 246 0 [some (.ref 39), some (.int (jI z1)), some (.int (jI z2)), some (.int (jI z3)), none, none, none] [] w r := by
  refine g_aloadn (pc' := 1) d_246_0 rfl rfl ?_
  refine g_iconst (pc' := 2) d_246_1 rfl rfl ?_
  have hpf1 := (kf_39_0 hC)
  have hC3 : CS (pF w 39 0 (.int (jI 0))) := ks_39_0 hC
  have h := h _ rfl hC3
  refine gz_putf (pc' := 5) d_246_2 rfl st_246_118 ft_12_0 ff_12_0 rfl (Or.inl rfl) hpf1 ?_
  refine g_iloadn (pc' := 6) d_246_5 rfl rfl ?_
  obtain ⟨hc4, h⟩ := h
  refine gz_if_lt (pc' := 9) (pt := 29) d_246_6 (by decide) rfl hc4 (fun c => ?_) (fun c => ?_)
  · replace h := h.1 c
    refine g_iconst (pc' := 30) d_246_29 rfl rfl ?_
    exact g_iret d_246_30 rt_246 h
  · replace h := h.2 c
    refine g_iloadn (pc' := 10) d_246_9 rfl rfl ?_
    refine g_iconst (pc' := 11) d_246_10 rfl rfl ?_
    refine g_bipush (pc' := 13) (v := jI 20) d_246_11 rfl (by decide) ?_
    obtain ⟨P8, dP9, w5, hk6, hC7, h⟩ := h
    refine g_callS (pc' := 16) d_246_13 rfl st_246_137 (Or.inl rfl) na_199 ml_199 rfl rfl rfl rm_246_199 rfl rfl hk6 ?_
    refine gz_bt_eq (pc' := 19) (pt := 29) d_246_16 (by decide) rfl (fun c => ?_) (fun c => ?_)
    · replace h := h.1 c
      refine g_iconst (pc' := 30) d_246_29 rfl rfl ?_
      exact g_iret d_246_30 rt_246 h
    · replace h := h.2 c
      refine g_iloadn (pc' := 20) d_246_19 rfl rfl ?_
      refine g_iconst (pc' := 21) d_246_20 rfl rfl ?_
      refine g_bipush (pc' := 23) (v := jI 63) d_246_21 rfl (by decide) ?_
      obtain ⟨P13, dP14, w10, hk11, hC12, h⟩ := h
      refine g_callS (pc' := 26) d_246_23 rfl st_246_137 (Or.inl rfl) na_199 ml_199 rfl rfl rfl rm_246_199 rfl rfl hk11 ?_
      refine gz_bt_ne (pc' := 29) (pt := 31) d_246_26 (by decide) rfl (fun c => ?_) (fun c => ?_)
      · replace h := h.1 c
        refine g_aloadn (pc' := 32) d_246_31 rfl rfl ?_
        obtain ⟨x15, hv16, h⟩ := h
        refine gz_getI (pc' := 35) d_246_32 rfl st_246_20 hv16 ?_
        obtain ⟨hc17, h⟩ := h
        refine gz_if_ge (pc' := 38) (pt := 41) d_246_35 (by decide) rfl hc17 (fun c => ?_) (fun c => ?_)
        · replace h := h.1 c
          refine g_aloadn (pc' := 42) d_246_41 rfl rfl ?_
          refine g_iloadn (pc' := 43) d_246_42 rfl rfl ?_
          refine gz_i2l (pc' := 44) d_246_43 rfl hc4 ?_
          have hpf18 := (kf_39_14 hC12)
          have hC20 : CS (pF w10 39 14 (.long (jL z1))) := ks_39_14 hC12
          have h := h _ rfl hC20
          refine gz_putf (pc' := 47) d_246_44 rfl st_246_243 ft_12_14 ff_12_14 rfl (Or.inl rfl) hpf18 ?_
          refine g_iconst (pc' := 48) d_246_47 rfl rfl ?_
          refine g_istore (pc' := 50) (l' := [some (.ref 39), some (.int (jI z1)), some (.int (jI z2)), some (.int (jI z3)), some (.int (jI 0)), none, none]) d_246_48 rfl ml_246 rfl rfl ?_
          exact h
        · replace h := h.2 c
          refine g_bipush (pc' := 40) (v := jI (-2)) d_246_38 rfl (by decide) ?_
          exact g_iret d_246_40 rt_246 h
      · replace h := h.2 c
        refine g_iconst (pc' := 30) d_246_29 rfl rfl ?_
        exact g_iret d_246_30 rt_246 h
theorem Z_246 {z1 : Int} {z2 : Int} {z3 : Int} {w : xW} {r : Option Value × xW} (hC : CS w) (h : ∀ w2, w2 = pF w 39 0 (.int (jI 0)) → CS w2 → in32 z1 ∧ (z1 < 0 → r = (some (.int (jI (-1))), w2)) ∧ (0 ≤ z1 → ∃ (P8 : Prop) (dP9 : Decidable P8) (w5 : xW), xCall 199 [.int (jI z2), .int (jI 1), .int (jI 20)] w2 (some (.int (bz P8)), w5) ∧ CS w5 ∧ (¬ P8 → r = (some (.int (jI (-1))), w5)) ∧ (P8 → ∃ (P13 : Prop) (dP14 : Decidable P13) (w10 : xW), xCall 199 [.int (jI z3), .int (jI 0), .int (jI 63)] w5 (some (.int (bz P13)), w10) ∧ CS w10 ∧ (P13 → ∃ x15, fI w10 39 12 4 x15 ∧ in32 x15 ∧ (0 ≤ x15 → ∀ w19, w19 = pF w10 39 14 (.long (jL z1)) → CS w19 → xGo 246 50 [some (.ref 39), some (.int (jI z1)), some (.int (jI z2)), some (.int (jI z3)), some (.int (jI 0)), none, none] [] w19 r) ∧ (x15 < 0 → r = (some (.int (jI (-2))), w10))) ∧ (¬ P13 → r = (some (.int (jI (-1))), w10))))) : xCall 246 [.ref 39, .int (jI z1), .int (jI z2), .int (jI z3)] w r := E_246 (Z_246_0 hC h)
theorem Z_246_50 {z1 : Int} {z2 : Int} {z3 : Int} {z4 : Int} {w : xW} {r : Option Value × xW} (hC : CS w) (h : in32 z4 ∧ (117 ≤ z4 → xGo 246 80 [some (.ref 39), some (.int (jI z1)), some (.int (jI z2)), some (.int (jI z3)), some (.int (jI 0)), none, none] [] w r) ∧ (z4 < 117 → 0 ≤ z4 ∧ ∃ x3, rL w 41 (z4).toNat x3 ∧ (0 ≤ z4 ∧ z4 < 117) ∧ ∀ w7, w7 = pL w 48 (z4).toNat (jL x3) → CS w7 → xGo 246 50 [some (.ref 39), some (.int (jI z1)), some (.int (jI z2)), some (.int (jI z3)), some (.int (jI (z4 + 1))), none, none] [] w7 r)) : xGo 246 50 [some (.ref 39), some (.int (jI z1)), some (.int (jI z2)), some (.int (jI z3)), some (.int (jI z4)), none, none] [] w r := by
  refine g_iload (pc' := 52) d_246_50 rfl rfl ?_
  refine g_bipush (pc' := 54) (v := jI 117) d_246_52 rfl (by decide) ?_
  obtain ⟨hc1, h⟩ := h
  refine gz_ic_ge (pc' := 57) (pt := 77) d_246_54 (by decide) rfl hc1 (s32 (z := 117)) (fun c => ?_) (fun c => ?_)
  · replace h := h.1 c
    refine g_iconst (pc' := 78) d_246_77 rfl rfl ?_
    refine g_istore (pc' := 80) (l' := [some (.ref 39), some (.int (jI z1)), some (.int (jI z2)), some (.int (jI z3)), some (.int (jI 0)), none, none]) d_246_78 rfl ml_246 rfl rfl ?_
    exact h
  · replace h := h.2 c
    refine g_aloadn (pc' := 58) d_246_57 rfl rfl ?_
    refine gz_getR (pc' := 61) d_246_58 rfl st_246_39 (kr_39_15 hC) ?_
    refine g_iload (pc' := 63) d_246_61 rfl rfl ?_
    refine g_aloadn (pc' := 64) d_246_63 rfl rfl ?_
    refine gz_getR (pc' := 67) d_246_64 rfl st_246_13 (kr_39_2 hC) ?_
    refine g_iload (pc' := 69) d_246_67 rfl rfl ?_
    obtain ⟨hc2, h⟩ := h
    obtain ⟨x3, hv4, h⟩ := h
    refine gz_lald (pc' := 70) d_246_69 rfl hc2 hv4 ?_
    obtain ⟨hc5, h⟩ := h
    have hs6 := (kh_48 hC hc5)
    have hC8 : CS (pL w 48 (z4).toNat (jL x3)) := hC.putL
    have h := h _ rfl hC8
    refine gz_last (pc' := 71) d_246_70 rfl hs6 ?_
    refine gz_iinc (pc' := 74) (l' := [some (.ref 39), some (.int (jI z1)), some (.int (jI z2)), some (.int (jI z3)), some (.int (jI (z4 + 1))), none, none]) d_246_71 rfl rfl ml_246 rfl rfl ?_
    refine g_goto (pt := 50) d_246_74 (by decide) ?_
    exact h
theorem Z_246_80 {z1 : Int} {z2 : Int} {z3 : Int} {z4 : Int} {w : xW} {r : Option Value × xW} (hC : CS w) (h : in32 z4 ∧ in32 z2 ∧ (z2 ≤ z4 → xGo 246 143 [some (.ref 39), some (.int (jI z1)), some (.int (jI z2)), some (.int (jI z3)), some (.int (jI 0)), some (.int (jI 0)), none] [] w r) ∧ (z4 < z2 → ∃ x3, fI w 39 12 4 x3 ∧ ∃ r8 w5, xCall 247 [.ref 39, .int (jI (x3 + 1))] w (some (.int (jI r8)), w5) ∧ CS w5 ∧ ∃ r12 w9, xCall 247 [.ref 39, .int (jI 9)] w5 (some (.int (jI r12)), w9) ∧ CS w9 ∧ ∃ r16 w13, xCall 247 [.ref 39, .int (jI 2)] w9 (some (.int (jI r16)), w13) ∧ CS w13 ∧ in32 r16 ∧ (r16 ≠ 1 → ∃ w18, xCall 205 [.ref 39, .int (jI r8), .int (jI (r12 + 1))] w13 (none, w18) ∧ CS w18 ∧ xGo 246 80 [some (.ref 39), some (.int (jI z1)), some (.int (jI z2)), some (.int (jI z3)), some (.int (jI (z4 + 1))), none, none] [] w18 r) ∧ (r16 = 1 → ∃ w21, xCall 205 [.ref 39, .int (jI r8), .int (jI (-(r12 + 1)))] w13 (none, w21) ∧ CS w21 ∧ xGo 246 80 [some (.ref 39), some (.int (jI z1)), some (.int (jI z2)), some (.int (jI z3)), some (.int (jI (z4 + 1))), none, none] [] w21 r))) : xGo 246 80 [some (.ref 39), some (.int (jI z1)), some (.int (jI z2)), some (.int (jI z3)), some (.int (jI z4)), none, none] [] w r := by
  refine g_iload (pc' := 82) d_246_80 rfl rfl ?_
  refine g_iloadn (pc' := 83) d_246_82 rfl rfl ?_
  obtain ⟨hc1, h⟩ := h
  obtain ⟨hc2, h⟩ := h
  refine gz_ic_ge (pc' := 86) (pt := 137) d_246_83 (by decide) rfl hc1 hc2 (fun c => ?_) (fun c => ?_)
  · replace h := h.1 c
    refine g_iconst (pc' := 138) d_246_137 rfl rfl ?_
    refine g_istore (pc' := 140) (l' := [some (.ref 39), some (.int (jI z1)), some (.int (jI z2)), some (.int (jI z3)), some (.int (jI 0)), none, none]) d_246_138 rfl ml_246 rfl rfl ?_
    refine g_iconst (pc' := 141) d_246_140 rfl rfl ?_
    refine g_istore (pc' := 143) (l' := [some (.ref 39), some (.int (jI z1)), some (.int (jI z2)), some (.int (jI z3)), some (.int (jI 0)), some (.int (jI 0)), none]) d_246_141 rfl ml_246 rfl rfl ?_
    exact h
  · replace h := h.2 c
    refine g_aloadn (pc' := 87) d_246_86 rfl rfl ?_
    refine g_aloadn (pc' := 88) d_246_87 rfl rfl ?_
    obtain ⟨x3, hv4, h⟩ := h
    refine gz_getI (pc' := 91) d_246_88 rfl st_246_20 hv4 ?_
    refine g_iconst (pc' := 92) d_246_91 rfl rfl ?_
    refine gz_iadd (pc' := 93) d_246_92 rfl ?_
    obtain ⟨r8, w5, hk6, hC7, h⟩ := h
    refine gz_callV (pc' := 96) d_246_93 rfl st_246_254 na_247 ml_247 rfl rfl rfl rm_246_247 rfl rfl ow_247 (ko_39 hC) hk6 ?_
    refine g_istore (pc' := 98) (l' := [some (.ref 39), some (.int (jI z1)), some (.int (jI z2)), some (.int (jI z3)), some (.int (jI z4)), some (.int (jI r8)), none]) d_246_96 rfl ml_246 rfl rfl ?_
    refine g_aloadn (pc' := 99) d_246_98 rfl rfl ?_
    refine g_bipush (pc' := 101) (v := jI 9) d_246_99 rfl (by decide) ?_
    obtain ⟨r12, w9, hk10, hC11, h⟩ := h
    refine gz_callV (pc' := 104) d_246_101 rfl st_246_254 na_247 ml_247 rfl rfl rfl rm_246_247 rfl rfl ow_247 (ko_39 hC7) hk10 ?_
    refine g_iconst (pc' := 105) d_246_104 rfl rfl ?_
    refine gz_iadd (pc' := 106) d_246_105 rfl ?_
    refine g_istore (pc' := 108) (l' := [some (.ref 39), some (.int (jI z1)), some (.int (jI z2)), some (.int (jI z3)), some (.int (jI z4)), some (.int (jI r8)), some (.int (jI (r12 + 1)))]) d_246_106 rfl ml_246 rfl rfl ?_
    refine g_aloadn (pc' := 109) d_246_108 rfl rfl ?_
    refine g_iload (pc' := 111) d_246_109 rfl rfl ?_
    refine g_aloadn (pc' := 112) d_246_111 rfl rfl ?_
    refine g_iconst (pc' := 113) d_246_112 rfl rfl ?_
    obtain ⟨r16, w13, hk14, hC15, h⟩ := h
    refine gz_callV (pc' := 116) d_246_113 rfl st_246_254 na_247 ml_247 rfl rfl rfl rm_246_247 rfl rfl ow_247 (ko_39 hC11) hk14 ?_
    refine g_iconst (pc' := 117) d_246_116 rfl rfl ?_
    obtain ⟨hc17, h⟩ := h
    refine gz_ic_ne (pc' := 120) (pt := 126) d_246_117 (by decide) rfl hc17 (s32 (z := 1)) (fun c => ?_) (fun c => ?_)
    · replace h := h.1 c
      refine g_iload (pc' := 128) d_246_126 rfl rfl ?_
      obtain ⟨w18, hk19, hC20, h⟩ := h
      refine gz_callV (pc' := 131) d_246_128 rfl st_246_155 na_205 ml_205 rfl rfl rfl rm_246_205 rfl rfl ow_205 (ko_39 hC15) hk19 ?_
      refine gz_iinc (pc' := 134) (l' := [some (.ref 39), some (.int (jI z1)), some (.int (jI z2)), some (.int (jI z3)), some (.int (jI (z4 + 1))), some (.int (jI r8)), some (.int (jI (r12 + 1)))]) d_246_131 rfl rfl ml_246 rfl rfl ?_
      refine g_goto (pt := 80) d_246_134 (by decide) ?_
      exact xGo.more (xle_s (xle_s (xle_s (xle_s (xle_s (xle_n (xle_n xle_0))))))) h
    · replace h := h.2 c
      refine g_iload (pc' := 122) d_246_120 rfl rfl ?_
      refine gz_ineg (pc' := 123) d_246_122 rfl ?_
      refine g_goto (pt := 128) d_246_123 (by decide) ?_
      obtain ⟨w21, hk22, hC23, h⟩ := h
      refine gz_callV (pc' := 131) d_246_128 rfl st_246_155 na_205 ml_205 rfl rfl rfl rm_246_205 rfl rfl ow_205 (ko_39 hC15) hk22 ?_
      refine gz_iinc (pc' := 134) (l' := [some (.ref 39), some (.int (jI z1)), some (.int (jI z2)), some (.int (jI z3)), some (.int (jI (z4 + 1))), some (.int (jI r8)), some (.int (jI (r12 + 1)))]) d_246_131 rfl rfl ml_246 rfl rfl ?_
      refine g_goto (pt := 80) d_246_134 (by decide) ?_
      exact xGo.more (xle_s (xle_s (xle_s (xle_s (xle_s (xle_n (xle_n xle_0))))))) h
theorem Z_246_143 {z1 : Int} {z2 : Int} {z3 : Int} {z4 : Int} {z5 : Int} {w : xW} {r : Option Value × xW} (hC : CS w) (h : ∃ x1, fI w 39 12 4 x1 ∧ in32 z5 ∧ in32 x1 ∧ (x1 < z5 → xGo 246 191 [some (.ref 39), some (.int (jI z1)), some (.int (jI z2)), some (.int (jI z3)), some (.int (jI z4)), some (.int (jI 0)), none] [] w r) ∧ (z5 ≤ x1 → ∃ (P8 : Prop) (dP9 : Decidable P8) (w5 : xW), xCall 201 [.ref 39, .int (jI z5)] w (some (.int (bz P8)), w5) ∧ CS w5 ∧ (P8 → xGo 246 143 [some (.ref 39), some (.int (jI z1)), some (.int (jI z2)), some (.int (jI z3)), some (.int (jI (z4 + 0))), some (.int (jI (z5 + 1))), none] [] w5 r) ∧ (¬ P8 → ∃ r13 w10, xCall 206 [.ref 39, .int (jI z5)] w5 (some (.int (jI r13)), w10) ∧ CS w10 ∧ ∃ y14, jI r13 &&& jI z3 = jI y14 ∧ in32 y14 ∧ (y14 = 0 → xGo 246 143 [some (.ref 39), some (.int (jI z1)), some (.int (jI z2)), some (.int (jI z3)), some (.int (jI (z4 + 0))), some (.int (jI (z5 + 1))), none] [] w10 r) ∧ (y14 ≠ 0 → xGo 246 143 [some (.ref 39), some (.int (jI z1)), some (.int (jI z2)), some (.int (jI z3)), some (.int (jI (z4 + 1))), some (.int (jI (z5 + 1))), none] [] w10 r)))) : xGo 246 143 [some (.ref 39), some (.int (jI z1)), some (.int (jI z2)), some (.int (jI z3)), some (.int (jI z4)), some (.int (jI z5)), none] [] w r := by
  refine g_iload (pc' := 145) d_246_143 rfl rfl ?_
  refine g_aloadn (pc' := 146) d_246_145 rfl rfl ?_
  obtain ⟨x1, hv2, h⟩ := h
  refine gz_getI (pc' := 149) d_246_146 rfl st_246_20 hv2 ?_
  obtain ⟨hc3, h⟩ := h
  obtain ⟨hc4, h⟩ := h
  refine gz_ic_gt (pc' := 152) (pt := 188) d_246_149 (by decide) rfl hc3 hc4 (fun c => ?_) (fun c => ?_)
  · replace h := h.1 c
    refine g_iconst (pc' := 189) d_246_188 rfl rfl ?_
    refine g_istore (pc' := 191) (l' := [some (.ref 39), some (.int (jI z1)), some (.int (jI z2)), some (.int (jI z3)), some (.int (jI z4)), some (.int (jI 0)), none]) d_246_189 rfl ml_246 rfl rfl ?_
    exact h
  · replace h := h.2 c
    refine g_iload (pc' := 154) d_246_152 rfl rfl ?_
    refine g_aloadn (pc' := 155) d_246_154 rfl rfl ?_
    refine g_iload (pc' := 157) d_246_155 rfl rfl ?_
    obtain ⟨P8, dP9, w5, hk6, hC7, h⟩ := h
    refine gz_callV (pc' := 160) d_246_157 rfl st_246_141 na_201 ml_201 rfl rfl rfl rm_246_201 rfl rfl ow_201 (ko_39 hC) hk6 ?_
    refine gz_bt_ne (pc' := 163) (pt := 178) d_246_160 (by decide) rfl (fun c => ?_) (fun c => ?_)
    · replace h := h.1 c
      refine g_iconst (pc' := 179) d_246_178 rfl rfl ?_
      refine gz_iadd (pc' := 180) d_246_179 rfl ?_
      refine g_istore (pc' := 182) (l' := [some (.ref 39), some (.int (jI z1)), some (.int (jI z2)), some (.int (jI z3)), some (.int (jI (z4 + 0))), some (.int (jI z5)), none]) d_246_180 rfl ml_246 rfl rfl ?_
      refine gz_iinc (pc' := 185) (l' := [some (.ref 39), some (.int (jI z1)), some (.int (jI z2)), some (.int (jI z3)), some (.int (jI (z4 + 0))), some (.int (jI (z5 + 1))), none]) d_246_182 rfl rfl ml_246 rfl rfl ?_
      refine g_goto (pt := 143) d_246_185 (by decide) ?_
      exact h
    · replace h := h.2 c
      refine g_aloadn (pc' := 164) d_246_163 rfl rfl ?_
      refine g_iload (pc' := 166) d_246_164 rfl rfl ?_
      obtain ⟨r13, w10, hk11, hC12, h⟩ := h
      refine gz_callV (pc' := 169) d_246_166 rfl st_246_158 na_206 ml_206 rfl rfl rfl rm_246_206 rfl rfl ow_206 (ko_39 hC7) hk11 ?_
      refine g_iloadn (pc' := 170) d_246_169 rfl rfl ?_
      obtain ⟨y14, hz15, h⟩ := h
      refine gz_iand (pc' := 171) d_246_170 rfl hz15 ?_
      obtain ⟨hc16, h⟩ := h
      refine gz_if_eq (pc' := 174) (pt := 178) d_246_171 (by decide) rfl hc16 (fun c => ?_) (fun c => ?_)
      · replace h := h.1 c
        refine g_iconst (pc' := 179) d_246_178 rfl rfl ?_
        refine gz_iadd (pc' := 180) d_246_179 rfl ?_
        refine g_istore (pc' := 182) (l' := [some (.ref 39), some (.int (jI z1)), some (.int (jI z2)), some (.int (jI z3)), some (.int (jI (z4 + 0))), some (.int (jI z5)), none]) d_246_180 rfl ml_246 rfl rfl ?_
        refine gz_iinc (pc' := 185) (l' := [some (.ref 39), some (.int (jI z1)), some (.int (jI z2)), some (.int (jI z3)), some (.int (jI (z4 + 0))), some (.int (jI (z5 + 1))), none]) d_246_182 rfl rfl ml_246 rfl rfl ?_
        refine g_goto (pt := 143) d_246_185 (by decide) ?_
        exact h
      · replace h := h.2 c
        refine g_iconst (pc' := 175) d_246_174 rfl rfl ?_
        refine g_goto (pt := 179) d_246_175 (by decide) ?_
        refine gz_iadd (pc' := 180) d_246_179 rfl ?_
        refine g_istore (pc' := 182) (l' := [some (.ref 39), some (.int (jI z1)), some (.int (jI z2)), some (.int (jI z3)), some (.int (jI (z4 + 1))), some (.int (jI z5)), none]) d_246_180 rfl ml_246 rfl rfl ?_
        refine gz_iinc (pc' := 185) (l' := [some (.ref 39), some (.int (jI z1)), some (.int (jI z2)), some (.int (jI z3)), some (.int (jI (z4 + 1))), some (.int (jI (z5 + 1))), none]) d_246_182 rfl rfl ml_246 rfl rfl ?_
        refine g_goto (pt := 143) d_246_185 (by decide) ?_
        exact h
theorem Z_246_191 {z1 : Int} {z2 : Int} {z3 : Int} {z4 : Int} {z5 : Int} {w : xW} {r : Option Value × xW} (hC : CS w) (h : in32 z5 ∧ (117 ≤ z5 → r = (some (.int (jI z4)), w)) ∧ (z5 < 117 → 0 ≤ z5 ∧ ∃ x3, rL w 48 (z5).toNat x3 ∧ (0 ≤ z5 ∧ z5 < 117) ∧ ∀ w7, w7 = pL w 41 (z5).toNat (jL x3) → CS w7 → xGo 246 191 [some (.ref 39), some (.int (jI z1)), some (.int (jI z2)), some (.int (jI z3)), some (.int (jI z4)), some (.int (jI (z5 + 1))), none] [] w7 r)) : xGo 246 191 [some (.ref 39), some (.int (jI z1)), some (.int (jI z2)), some (.int (jI z3)), some (.int (jI z4)), some (.int (jI z5)), none] [] w r := by
  refine g_iload (pc' := 193) d_246_191 rfl rfl ?_
  refine g_bipush (pc' := 195) (v := jI 117) d_246_193 rfl (by decide) ?_
  obtain ⟨hc1, h⟩ := h
  refine gz_ic_ge (pc' := 198) (pt := 218) d_246_195 (by decide) rfl hc1 (s32 (z := 117)) (fun c => ?_) (fun c => ?_)
  · replace h := h.1 c
    refine g_iload (pc' := 220) d_246_218 rfl rfl ?_
    exact g_iret d_246_220 rt_246 h
  · replace h := h.2 c
    refine g_aloadn (pc' := 199) d_246_198 rfl rfl ?_
    refine gz_getR (pc' := 202) d_246_199 rfl st_246_13 (kr_39_2 hC) ?_
    refine g_iload (pc' := 204) d_246_202 rfl rfl ?_
    refine g_aloadn (pc' := 205) d_246_204 rfl rfl ?_
    refine gz_getR (pc' := 208) d_246_205 rfl st_246_39 (kr_39_15 hC) ?_
    refine g_iload (pc' := 210) d_246_208 rfl rfl ?_
    obtain ⟨hc2, h⟩ := h
    obtain ⟨x3, hv4, h⟩ := h
    refine gz_lald (pc' := 211) d_246_210 rfl hc2 hv4 ?_
    obtain ⟨hc5, h⟩ := h
    have hs6 := (kh_41 hC hc5)
    have hC8 : CS (pL w 41 (z5).toNat (jL x3)) := hC.putL
    have h := h _ rfl hC8
    refine gz_last (pc' := 212) d_246_211 rfl hs6 ?_
    refine gz_iinc (pc' := 215) (l' := [some (.ref 39), some (.int (jI z1)), some (.int (jI z2)), some (.int (jI z3)), some (.int (jI z4)), some (.int (jI (z5 + 1))), none]) d_246_212 rfl rfl ml_246 rfl rfl ?_
    refine g_goto (pt := 191) d_246_215 (by decide) ?_
    exact h
theorem Z_247_0 {z1 : Int} {w : xW} {r : Option Value × xW} (hC : CS w) (h : ∃ x1, fJ w 39 12 14 x1 ∧ ∃ y3, jL ((x1 * 1103515245) + 12345) &&& jL 2147483647 = jL y3 ∧ ∀ w6, w6 = pF w 39 14 (.long (jL y3)) → CS w6 → ∃ x8, fJ w6 39 12 14 x8 ∧ in64 x8 ∧ ∃ y11, Int.tdiv x8 65536 = y11 ∧ in32 z1 ∧ in64 y11 ∧ z1 ≠ 0 ∧ ∃ y16, Int.tmod y11 z1 = y16 ∧ r = (some (.int (jI y16)), w6)) : xGo 247 0 [some (.ref 39), some (.int (jI z1))] [] w r := by
  refine g_aloadn (pc' := 1) d_247_0 rfl rfl ?_
  refine g_aloadn (pc' := 2) d_247_1 rfl rfl ?_
  obtain ⟨x1, hv2, h⟩ := h
  refine gz_getJ (pc' := 5) d_247_2 rfl st_247_243 hv2 ?_
  refine g_ldc2 (pc' := 8) d_247_5 rfl st_247_246 rfl ?_
  refine gz_lmul (pc' := 9) d_247_8 rfl ?_
  refine g_ldc2 (pc' := 12) d_247_9 rfl st_247_248 rfl ?_
  refine gz_ladd (pc' := 13) d_247_12 rfl ?_
  refine g_ldc2 (pc' := 16) d_247_13 rfl st_247_250 rfl ?_
  obtain ⟨y3, hz4, h⟩ := h
  refine gz_land (pc' := 17) d_247_16 rfl hz4 ?_
  have hpf5 := (kf_39_14 hC)
  have hC7 : CS (pF w 39 14 (.long (jL y3))) := ks_39_14 hC
  have h := h _ rfl hC7
  refine gz_putf (pc' := 20) d_247_17 rfl st_247_243 ft_12_14 ff_12_14 rfl (Or.inl rfl) hpf5 ?_
  refine g_aloadn (pc' := 21) d_247_20 rfl rfl ?_
  obtain ⟨x8, hv9, h⟩ := h
  refine gz_getJ (pc' := 24) d_247_21 rfl st_247_243 hv9 ?_
  refine g_ldc2 (pc' := 27) d_247_24 rfl st_247_252 rfl ?_
  obtain ⟨hc10, h⟩ := h
  obtain ⟨y11, hz12, h⟩ := h
  refine gz_ldiv (pc' := 28) d_247_27 rfl hc10 (s64 (z := 65536)) (by decide) hz12 ?_
  refine g_iloadn (pc' := 29) d_247_28 rfl rfl ?_
  obtain ⟨hc13, h⟩ := h
  refine gz_i2l (pc' := 30) d_247_29 rfl hc13 ?_
  obtain ⟨hc14, h⟩ := h
  obtain ⟨hc15, h⟩ := h
  obtain ⟨y16, hz17, h⟩ := h
  refine gz_lrem (pc' := 31) d_247_30 rfl hc14 (in3264 hc13) hc15 hz17 ?_
  refine gz_l2i (pc' := 32) d_247_31 rfl ?_
  exact g_iret d_247_32 rt_247 h
theorem Z_247 {z1 : Int} {w : xW} {r : Option Value × xW} (hC : CS w) (h : ∃ x1, fJ w 39 12 14 x1 ∧ ∃ y3, jL ((x1 * 1103515245) + 12345) &&& jL 2147483647 = jL y3 ∧ ∀ w6, w6 = pF w 39 14 (.long (jL y3)) → CS w6 → ∃ x8, fJ w6 39 12 14 x8 ∧ in64 x8 ∧ ∃ y11, Int.tdiv x8 65536 = y11 ∧ in32 z1 ∧ in64 y11 ∧ z1 ≠ 0 ∧ ∃ y16, Int.tmod y11 z1 = y16 ∧ r = (some (.int (jI y16)), w6)) : xCall 247 [.ref 39, .int (jI z1)] w r := E_247 (Z_247_0 hC h)
theorem Z_248_0 {z1 : Int} {z2 : Int} {w : xW} {r : Option Value × xW} (hC : CS w) (h : ∀ w2, w2 = pF w 39 0 (.int (jI 0)) → CS w2 → ∃ (P7 : Prop) (dP8 : Decidable P7) (w4 : xW), xCall 199 [.int (jI z1), .int (jI 1), .int (jI 38)] w2 (some (.int (bz P7)), w4) ∧ CS w4 ∧ (¬ P7 → r = (some (.long (jL (-9223372036854775808))), w4)) ∧ (P7 → ∃ (P12 : Prop) (dP13 : Decidable P12) (w9 : xW), xCall 199 [.int (jI z2), .int (jI 0), .int (jI 2)] w4 (some (.int (bz P12)), w9) ∧ CS w9 ∧ (¬ P12 → r = (some (.long (jL (-9223372036854775808))), w9)) ∧ (P12 → ∃ x14, fI w9 39 12 4 x14 ∧ in32 z1 ∧ in32 x14 ∧ (z1 ≤ x14 → ∃ w18, xCall 190 [.ref 39, .ref 41, .int (jI (z1 + 1)), .int (jI z1)] w9 (none, w18) ∧ CS w18 ∧ ∃ x21, fJ w18 39 12 8 x21 ∧ ∃ x23, fJ w18 39 12 9 x23 ∧ ∃ w25, xCall 194 [.ref 39, .ref 62, .int (jI 0), .long (jL x21), .long (jL x23), .long (jL 7420738134810)] w18 (none, w25) ∧ CS w25 ∧ 0 ≤ z2 ∧ ∃ x29, rL w25 62 (z2).toNat x29 ∧ r = (some (.long (jL x29)), w25)) ∧ (x14 < z1 → r = (some (.long (jL (-9223372036854775808))), w9))))) : xGo 248 0 [some (.ref 39), some (.int (jI z1)), some (.int (jI z2))] [] w r := by
  refine g_aloadn (pc' := 1) d_248_0 rfl rfl ?_
  refine g_iconst (pc' := 2) d_248_1 rfl rfl ?_
  have hpf1 := (kf_39_0 hC)
  have hC3 : CS (pF w 39 0 (.int (jI 0))) := ks_39_0 hC
  have h := h _ rfl hC3
  refine gz_putf (pc' := 5) d_248_2 rfl st_248_118 ft_12_0 ff_12_0 rfl (Or.inl rfl) hpf1 ?_
  refine g_iloadn (pc' := 6) d_248_5 rfl rfl ?_
  refine g_iconst (pc' := 7) d_248_6 rfl rfl ?_
  refine g_bipush (pc' := 9) (v := jI 38) d_248_7 rfl (by decide) ?_
  obtain ⟨P7, dP8, w4, hk5, hC6, h⟩ := h
  refine g_callS (pc' := 12) d_248_9 rfl st_248_137 (Or.inl rfl) na_199 ml_199 rfl rfl rfl rm_248_199 rfl rfl hk5 ?_
  refine gz_bt_eq (pc' := 15) (pt := 32) d_248_12 (by decide) rfl (fun c => ?_) (fun c => ?_)
  · replace h := h.1 c
    refine g_ldc2 (pc' := 35) d_248_32 rfl st_248_166 rfl ?_
    exact g_lret d_248_35 rt_248 h
  · replace h := h.2 c
    refine g_iloadn (pc' := 16) d_248_15 rfl rfl ?_
    refine g_iconst (pc' := 17) d_248_16 rfl rfl ?_
    refine g_iconst (pc' := 18) d_248_17 rfl rfl ?_
    obtain ⟨P12, dP13, w9, hk10, hC11, h⟩ := h
    refine g_callS (pc' := 21) d_248_18 rfl st_248_137 (Or.inl rfl) na_199 ml_199 rfl rfl rfl rm_248_199 rfl rfl hk10 ?_
    refine gz_bt_eq (pc' := 24) (pt := 32) d_248_21 (by decide) rfl (fun c => ?_) (fun c => ?_)
    · replace h := h.1 c
      refine g_ldc2 (pc' := 35) d_248_32 rfl st_248_166 rfl ?_
      exact g_lret d_248_35 rt_248 h
    · replace h := h.2 c
      refine g_iloadn (pc' := 25) d_248_24 rfl rfl ?_
      refine g_aloadn (pc' := 26) d_248_25 rfl rfl ?_
      obtain ⟨x14, hv15, h⟩ := h
      refine gz_getI (pc' := 29) d_248_26 rfl st_248_20 hv15 ?_
      obtain ⟨hc16, h⟩ := h
      obtain ⟨hc17, h⟩ := h
      refine gz_ic_le (pc' := 32) (pt := 36) d_248_29 (by decide) rfl hc16 hc17 (fun c => ?_) (fun c => ?_)
      · replace h := h.1 c
        refine g_aloadn (pc' := 37) d_248_36 rfl rfl ?_
        refine g_aloadn (pc' := 38) d_248_37 rfl rfl ?_
        refine gz_getR (pc' := 41) d_248_38 rfl st_248_13 (kr_39_2 hC11) ?_
        refine g_iloadn (pc' := 42) d_248_41 rfl rfl ?_
        refine g_iconst (pc' := 43) d_248_42 rfl rfl ?_
        refine gz_iadd (pc' := 44) d_248_43 rfl ?_
        refine g_iloadn (pc' := 45) d_248_44 rfl rfl ?_
        obtain ⟨w18, hk19, hC20, h⟩ := h
        refine gz_callV (pc' := 48) d_248_45 rfl st_248_103 na_190 ml_190 rfl rfl rfl rm_248_190 rfl rfl ow_190 (ko_39 hC11) hk19 ?_
        refine g_aloadn (pc' := 49) d_248_48 rfl rfl ?_
        refine g_aloadn (pc' := 50) d_248_49 rfl rfl ?_
        refine gz_getR (pc' := 53) d_248_50 rfl st_248_81 (kr_39_29 hC20) ?_
        refine g_iconst (pc' := 54) d_248_53 rfl rfl ?_
        refine g_aloadn (pc' := 55) d_248_54 rfl rfl ?_
        obtain ⟨x21, hv22, h⟩ := h
        refine gz_getJ (pc' := 58) d_248_55 rfl st_248_107 hv22 ?_
        refine g_aloadn (pc' := 59) d_248_58 rfl rfl ?_
        obtain ⟨x23, hv24, h⟩ := h
        refine gz_getJ (pc' := 62) d_248_59 rfl st_248_111 hv24 ?_
        refine g_ldc2 (pc' := 65) d_248_62 rfl st_248_125 rfl ?_
        obtain ⟨w25, hk26, hC27, h⟩ := h
        refine gz_callV (pc' := 68) d_248_65 rfl st_248_134 na_194 ml_194 rfl rfl rfl rm_248_194 rfl rfl ow_194 (ko_39 hC20) hk26 ?_
        refine g_aloadn (pc' := 69) d_248_68 rfl rfl ?_
        refine gz_getR (pc' := 72) d_248_69 rfl st_248_81 (kr_39_29 hC27) ?_
        refine g_iloadn (pc' := 73) d_248_72 rfl rfl ?_
        obtain ⟨hc28, h⟩ := h
        obtain ⟨x29, hv30, h⟩ := h
        refine gz_lald (pc' := 74) d_248_73 rfl hc28 hv30 ?_
        exact g_lret d_248_74 rt_248 h
      · replace h := h.2 c
        refine g_ldc2 (pc' := 35) d_248_32 rfl st_248_166 rfl ?_
        exact g_lret d_248_35 rt_248 h
theorem Z_248 {z1 : Int} {z2 : Int} {w : xW} {r : Option Value × xW} (hC : CS w) (h : ∀ w2, w2 = pF w 39 0 (.int (jI 0)) → CS w2 → ∃ (P7 : Prop) (dP8 : Decidable P7) (w4 : xW), xCall 199 [.int (jI z1), .int (jI 1), .int (jI 38)] w2 (some (.int (bz P7)), w4) ∧ CS w4 ∧ (¬ P7 → r = (some (.long (jL (-9223372036854775808))), w4)) ∧ (P7 → ∃ (P12 : Prop) (dP13 : Decidable P12) (w9 : xW), xCall 199 [.int (jI z2), .int (jI 0), .int (jI 2)] w4 (some (.int (bz P12)), w9) ∧ CS w9 ∧ (¬ P12 → r = (some (.long (jL (-9223372036854775808))), w9)) ∧ (P12 → ∃ x14, fI w9 39 12 4 x14 ∧ in32 z1 ∧ in32 x14 ∧ (z1 ≤ x14 → ∃ w18, xCall 190 [.ref 39, .ref 41, .int (jI (z1 + 1)), .int (jI z1)] w9 (none, w18) ∧ CS w18 ∧ ∃ x21, fJ w18 39 12 8 x21 ∧ ∃ x23, fJ w18 39 12 9 x23 ∧ ∃ w25, xCall 194 [.ref 39, .ref 62, .int (jI 0), .long (jL x21), .long (jL x23), .long (jL 7420738134810)] w18 (none, w25) ∧ CS w25 ∧ 0 ≤ z2 ∧ ∃ x29, rL w25 62 (z2).toNat x29 ∧ r = (some (.long (jL x29)), w25)) ∧ (x14 < z1 → r = (some (.long (jL (-9223372036854775808))), w9))))) : xCall 248 [.ref 39, .int (jI z1), .int (jI z2)] w r := E_248 (Z_248_0 hC h)
theorem Z_249_0 {z1 : Int} {w : xW} {r : Option Value × xW} (hC : CS w) (h : ∀ w2, w2 = pF w 39 0 (.int (jI 0)) → CS w2 → ∃ (P7 : Prop) (dP8 : Decidable P7) (w4 : xW), xCall 199 [.int (jI z1), .int (jI 0), .int (jI 1)] w2 (some (.int (bz P7)), w4) ∧ CS w4 ∧ (P7 → xGo 249 24 [some (.ref 39), some (.int (jI z1)), some (.int (jI (-2))), some (.int (jI 0)), some (.int (jI 1))] [] w4 r) ∧ (¬ P7 → r = (some (.int (jI (-1))), w4))) : xGo 249 0 [some (.ref 39), some (.int (jI z1)), none, none, none] [] w r := by
  refine g_aloadn (pc' := 1) d_249_0 rfl rfl ?_
  refine g_iconst (pc' := 2) d_249_1 rfl rfl ?_
  have hpf1 := (kf_39_0 hC)
  have hC3 : CS (pF w 39 0 (.int (jI 0))) := ks_39_0 hC
  have h := h _ rfl hC3
  refine gz_putf (pc' := 5) d_249_2 rfl st_249_118 ft_12_0 ff_12_0 rfl (Or.inl rfl) hpf1 ?_
  refine g_iloadn (pc' := 6) d_249_5 rfl rfl ?_
  refine g_iconst (pc' := 7) d_249_6 rfl rfl ?_
  refine g_iconst (pc' := 8) d_249_7 rfl rfl ?_
  obtain ⟨P7, dP8, w4, hk5, hC6, h⟩ := h
  refine g_callS (pc' := 11) d_249_8 rfl st_249_137 (Or.inl rfl) na_199 ml_199 rfl rfl rfl rm_249_199 rfl rfl hk5 ?_
  refine gz_bt_ne (pc' := 14) (pt := 16) d_249_11 (by decide) rfl (fun c => ?_) (fun c => ?_)
  · replace h := h.1 c
    refine g_bipush (pc' := 18) (v := jI (-2)) d_249_16 rfl (by decide) ?_
    refine g_istoren (pc' := 19) (l' := [some (.ref 39), some (.int (jI z1)), some (.int (jI (-2))), none, none]) d_249_18 rfl ml_249 rfl rfl ?_
    refine g_iconst (pc' := 20) d_249_19 rfl rfl ?_
    refine g_istoren (pc' := 21) (l' := [some (.ref 39), some (.int (jI z1)), some (.int (jI (-2))), some (.int (jI 0)), none]) d_249_20 rfl ml_249 rfl rfl ?_
    refine g_iconst (pc' := 22) d_249_21 rfl rfl ?_
    refine g_istore (pc' := 24) (l' := [some (.ref 39), some (.int (jI z1)), some (.int (jI (-2))), some (.int (jI 0)), some (.int (jI 1))]) d_249_22 rfl ml_249 rfl rfl ?_
    exact h
  · replace h := h.2 c
    refine g_iconst (pc' := 15) d_249_14 rfl rfl ?_
    exact g_iret d_249_15 rt_249 h
theorem Z_249 {z1 : Int} {w : xW} {r : Option Value × xW} (hC : CS w) (h : ∀ w2, w2 = pF w 39 0 (.int (jI 0)) → CS w2 → ∃ (P7 : Prop) (dP8 : Decidable P7) (w4 : xW), xCall 199 [.int (jI z1), .int (jI 0), .int (jI 1)] w2 (some (.int (bz P7)), w4) ∧ CS w4 ∧ (P7 → xGo 249 24 [some (.ref 39), some (.int (jI z1)), some (.int (jI (-2))), some (.int (jI 0)), some (.int (jI 1))] [] w4 r) ∧ (¬ P7 → r = (some (.int (jI (-1))), w4))) : xCall 249 [.ref 39, .int (jI z1)] w r := E_249 (Z_249_0 hC h)
theorem Z_249_24 {z1 : Int} {z2 : Int} {z3 : Int} {z4 : Int} {w : xW} {r : Option Value × xW} (hC : CS w) (h : ∃ x1, fI w 39 12 4 x1 ∧ in32 z4 ∧ in32 x1 ∧ (x1 < z4 → in32 z1 ∧ (z1 ≠ 0 → r = (some (.int (jI z3)), w)) ∧ (z1 = 0 → r = (some (.int (jI z2)), w))) ∧ (z4 ≤ x1 → ∃ (P9 : Prop) (dP10 : Decidable P9) (w6 : xW), xCall 211 [.ref 39, .int (jI z4)] w (some (.int (bz P9)), w6) ∧ CS w6 ∧ (P9 → in32 z2 ∧ (0 ≤ z2 → xGo 249 24 [some (.ref 39), some (.int (jI z1)), some (.int (jI z2)), some (.int (jI (z3 + 1))), some (.int (jI (z4 + 1)))] [] w6 r) ∧ (z2 < 0 → xGo 249 24 [some (.ref 39), some (.int (jI z1)), some (.int (jI z4)), some (.int (jI (z3 + 1))), some (.int (jI (z4 + 1)))] [] w6 r)) ∧ (¬ P9 → xGo 249 24 [some (.ref 39), some (.int (jI z1)), some (.int (jI z2)), some (.int (jI z3)), some (.int (jI (z4 + 1)))] [] w6 r))) : xGo 249 24 [some (.ref 39), some (.int (jI z1)), some (.int (jI z2)), some (.int (jI z3)), some (.int (jI z4))] [] w r := by
  refine g_iload (pc' := 26) d_249_24 rfl rfl ?_
  refine g_aloadn (pc' := 27) d_249_26 rfl rfl ?_
  obtain ⟨x1, hv2, h⟩ := h
  refine gz_getI (pc' := 30) d_249_27 rfl st_249_20 hv2 ?_
  obtain ⟨hc3, h⟩ := h
  obtain ⟨hc4, h⟩ := h
  refine gz_ic_gt (pc' := 33) (pt := 65) d_249_30 (by decide) rfl hc3 hc4 (fun c => ?_) (fun c => ?_)
  · replace h := h.1 c
    refine g_iloadn (pc' := 66) d_249_65 rfl rfl ?_
    obtain ⟨hc5, h⟩ := h
    refine gz_if_ne (pc' := 69) (pt := 73) d_249_66 (by decide) rfl hc5 (fun c => ?_) (fun c => ?_)
    · replace h := h.1 c
      refine g_iloadn (pc' := 74) d_249_73 rfl rfl ?_
      exact g_iret d_249_74 rt_249 h
    · replace h := h.2 c
      refine g_iloadn (pc' := 70) d_249_69 rfl rfl ?_
      refine g_goto (pt := 74) d_249_70 (by decide) ?_
      exact g_iret d_249_74 rt_249 h
  · replace h := h.2 c
    refine g_aloadn (pc' := 34) d_249_33 rfl rfl ?_
    refine g_iload (pc' := 36) d_249_34 rfl rfl ?_
    obtain ⟨P9, dP10, w6, hk7, hC8, h⟩ := h
    refine gz_callV (pc' := 39) d_249_36 rfl st_249_231 na_211 ml_211 rfl rfl rfl rm_249_211 rfl rfl ow_211 (ko_39 hC) hk7 ?_
    refine gz_bt_ne (pc' := 42) (pt := 45) d_249_39 (by decide) rfl (fun c => ?_) (fun c => ?_)
    · replace h := h.1 c
      refine g_iloadn (pc' := 46) d_249_45 rfl rfl ?_
      obtain ⟨hc11, h⟩ := h
      refine gz_if_ge (pc' := 49) (pt := 54) d_249_46 (by decide) rfl hc11 (fun c => ?_) (fun c => ?_)
      · replace h := h.1 c
        refine g_iloadn (pc' := 55) d_249_54 rfl rfl ?_
        refine g_istoren (pc' := 56) (l' := [some (.ref 39), some (.int (jI z1)), some (.int (jI z2)), some (.int (jI z3)), some (.int (jI z4))]) d_249_55 rfl ml_249 rfl rfl ?_
        refine gz_iinc (pc' := 59) (l' := [some (.ref 39), some (.int (jI z1)), some (.int (jI z2)), some (.int (jI (z3 + 1))), some (.int (jI z4))]) d_249_56 rfl rfl ml_249 rfl rfl ?_
        refine gz_iinc (pc' := 62) (l' := [some (.ref 39), some (.int (jI z1)), some (.int (jI z2)), some (.int (jI (z3 + 1))), some (.int (jI (z4 + 1)))]) d_249_59 rfl rfl ml_249 rfl rfl ?_
        refine g_goto (pt := 24) d_249_62 (by decide) ?_
        exact h
      · replace h := h.2 c
        refine g_iload (pc' := 51) d_249_49 rfl rfl ?_
        refine g_goto (pt := 55) d_249_51 (by decide) ?_
        refine g_istoren (pc' := 56) (l' := [some (.ref 39), some (.int (jI z1)), some (.int (jI z4)), some (.int (jI z3)), some (.int (jI z4))]) d_249_55 rfl ml_249 rfl rfl ?_
        refine gz_iinc (pc' := 59) (l' := [some (.ref 39), some (.int (jI z1)), some (.int (jI z4)), some (.int (jI (z3 + 1))), some (.int (jI z4))]) d_249_56 rfl rfl ml_249 rfl rfl ?_
        refine gz_iinc (pc' := 62) (l' := [some (.ref 39), some (.int (jI z1)), some (.int (jI z4)), some (.int (jI (z3 + 1))), some (.int (jI (z4 + 1)))]) d_249_59 rfl rfl ml_249 rfl rfl ?_
        refine g_goto (pt := 24) d_249_62 (by decide) ?_
        exact h
    · replace h := h.2 c
      refine g_goto (pt := 59) d_249_42 (by decide) ?_
      refine gz_iinc (pc' := 62) (l' := [some (.ref 39), some (.int (jI z1)), some (.int (jI z2)), some (.int (jI z3)), some (.int (jI (z4 + 1)))]) d_249_59 rfl rfl ml_249 rfl rfl ?_
      refine g_goto (pt := 24) d_249_62 (by decide) ?_
      exact h
theorem Z_250_0 {z1 : Int} {z2 : Int} {z3 : Int} {w : xW} {r : Option Value × xW} (hC : CS w) (h : ∀ w2, w2 = pF w 39 0 (.int (jI 0)) → CS w2 → ∃ (P7 : Prop) (dP8 : Decidable P7) (w4 : xW), xCall 228 [.ref 39, .int (jI z1)] w2 (some (.int (bz P7)), w4) ∧ CS w4 ∧ (¬ P7 → r = (some (.int (jI (-1))), w4)) ∧ (P7 → ∃ (P12 : Prop) (dP13 : Decidable P12) (w9 : xW), xCall 199 [.int (jI z2), .int (jI 0), .int (jI 2)] w4 (some (.int (bz P12)), w9) ∧ CS w9 ∧ (¬ P12 → r = (some (.int (jI (-1))), w9)) ∧ (P12 → ∃ (P17 : Prop) (dP18 : Decidable P17) (w14 : xW), xCall 199 [.int (jI z3), .int (jI 0), .int (jI (z1 - 2))] w9 (some (.int (bz P17)), w14) ∧ CS w14 ∧ (P17 → ∃ w19, xCall 251 [.ref 39, .int (jI z1), .int (jI z2)] w14 (none, w19) ∧ CS w19 ∧ 0 ≤ z3 ∧ ∃ x23, rI w19 51 (z3).toNat x23 ∧ r = (some (.int (jI x23)), w19)) ∧ (¬ P17 → r = (some (.int (jI (-1))), w14))))) : xGo 250 0 [some (.ref 39), some (.int (jI z1)), some (.int (jI z2)), some (.int (jI z3))] [] w r := by
  refine g_aloadn (pc' := 1) d_250_0 rfl rfl ?_
  refine g_iconst (pc' := 2) d_250_1 rfl rfl ?_
  have hpf1 := (kf_39_0 hC)
  have hC3 : CS (pF w 39 0 (.int (jI 0))) := ks_39_0 hC
  have h := h _ rfl hC3
  refine gz_putf (pc' := 5) d_250_2 rfl st_250_118 ft_12_0 ff_12_0 rfl (Or.inl rfl) hpf1 ?_
  refine g_aloadn (pc' := 6) d_250_5 rfl rfl ?_
  refine g_iloadn (pc' := 7) d_250_6 rfl rfl ?_
  obtain ⟨P7, dP8, w4, hk5, hC6, h⟩ := h
  refine gz_callV (pc' := 10) d_250_7 rfl st_250_185 na_228 ml_228 rfl rfl rfl rm_250_228 rfl rfl ow_228 (ko_39 hC3) hk5 ?_
  refine gz_bt_eq (pc' := 13) (pt := 33) d_250_10 (by decide) rfl (fun c => ?_) (fun c => ?_)
  · replace h := h.1 c
    refine g_iconst (pc' := 34) d_250_33 rfl rfl ?_
    exact g_iret d_250_34 rt_250 h
  · replace h := h.2 c
    refine g_iloadn (pc' := 14) d_250_13 rfl rfl ?_
    refine g_iconst (pc' := 15) d_250_14 rfl rfl ?_
    refine g_iconst (pc' := 16) d_250_15 rfl rfl ?_
    obtain ⟨P12, dP13, w9, hk10, hC11, h⟩ := h
    refine g_callS (pc' := 19) d_250_16 rfl st_250_137 (Or.inl rfl) na_199 ml_199 rfl rfl rfl rm_250_199 rfl rfl hk10 ?_
    refine gz_bt_eq (pc' := 22) (pt := 33) d_250_19 (by decide) rfl (fun c => ?_) (fun c => ?_)
    · replace h := h.1 c
      refine g_iconst (pc' := 34) d_250_33 rfl rfl ?_
      exact g_iret d_250_34 rt_250 h
    · replace h := h.2 c
      refine g_iloadn (pc' := 23) d_250_22 rfl rfl ?_
      refine g_iconst (pc' := 24) d_250_23 rfl rfl ?_
      refine g_iloadn (pc' := 25) d_250_24 rfl rfl ?_
      refine g_iconst (pc' := 26) d_250_25 rfl rfl ?_
      refine gz_isub (pc' := 27) d_250_26 rfl ?_
      obtain ⟨P17, dP18, w14, hk15, hC16, h⟩ := h
      refine g_callS (pc' := 30) d_250_27 rfl st_250_137 (Or.inl rfl) na_199 ml_199 rfl rfl rfl rm_250_199 rfl rfl hk15 ?_
      refine gz_bt_ne (pc' := 33) (pt := 35) d_250_30 (by decide) rfl (fun c => ?_) (fun c => ?_)
      · replace h := h.1 c
        refine g_aloadn (pc' := 36) d_250_35 rfl rfl ?_
        refine g_iloadn (pc' := 37) d_250_36 rfl rfl ?_
        refine g_iloadn (pc' := 38) d_250_37 rfl rfl ?_
        obtain ⟨w19, hk20, hC21, h⟩ := h
        refine gz_callV (pc' := 41) d_250_38 rfl st_250_271 na_251 ml_251 rfl rfl rfl rm_250_251 rfl rfl ow_251 (ko_39 hC16) hk20 ?_
        refine g_aloadn (pc' := 42) d_250_41 rfl rfl ?_
        refine gz_getR (pc' := 45) d_250_42 rfl st_250_48 (kr_39_18 hC21) ?_
        refine g_iloadn (pc' := 46) d_250_45 rfl rfl ?_
        obtain ⟨hc22, h⟩ := h
        obtain ⟨x23, hv24, h⟩ := h
        refine gz_iald (pc' := 47) d_250_46 rfl hc22 hv24 ?_
        exact g_iret d_250_47 rt_250 h
      · replace h := h.2 c
        refine g_iconst (pc' := 34) d_250_33 rfl rfl ?_
        exact g_iret d_250_34 rt_250 h
theorem Z_250 {z1 : Int} {z2 : Int} {z3 : Int} {w : xW} {r : Option Value × xW} (hC : CS w) (h : ∀ w2, w2 = pF w 39 0 (.int (jI 0)) → CS w2 → ∃ (P7 : Prop) (dP8 : Decidable P7) (w4 : xW), xCall 228 [.ref 39, .int (jI z1)] w2 (some (.int (bz P7)), w4) ∧ CS w4 ∧ (¬ P7 → r = (some (.int (jI (-1))), w4)) ∧ (P7 → ∃ (P12 : Prop) (dP13 : Decidable P12) (w9 : xW), xCall 199 [.int (jI z2), .int (jI 0), .int (jI 2)] w4 (some (.int (bz P12)), w9) ∧ CS w9 ∧ (¬ P12 → r = (some (.int (jI (-1))), w9)) ∧ (P12 → ∃ (P17 : Prop) (dP18 : Decidable P17) (w14 : xW), xCall 199 [.int (jI z3), .int (jI 0), .int (jI (z1 - 2))] w9 (some (.int (bz P17)), w14) ∧ CS w14 ∧ (P17 → ∃ w19, xCall 251 [.ref 39, .int (jI z1), .int (jI z2)] w14 (none, w19) ∧ CS w19 ∧ 0 ≤ z3 ∧ ∃ x23, rI w19 51 (z3).toNat x23 ∧ r = (some (.int (jI x23)), w19)) ∧ (¬ P17 → r = (some (.int (jI (-1))), w14))))) : xCall 250 [.ref 39, .int (jI z1), .int (jI z2), .int (jI z3)] w r := E_250 (Z_250_0 hC h)
theorem Z_251_0 {z1 : Int} {z2 : Int} {w : xW} {r : Option Value × xW} (hC : CS w) (h : in32 z2 ∧ (z2 ≠ 0 → (z2 ≠ 1 → xGo 251 27 [some (.ref 39), some (.int (jI z1)), some (.int (jI z2)), some (.int (jI 0))] [] w r) ∧ (z2 = 1 → ∃ w2, xCall 254 [.ref 39, .int (jI z1)] w (none, w2) ∧ CS w2 ∧ r = (none, w2))) ∧ (z2 = 0 → ∃ w5, xCall 252 [.ref 39, .int (jI z1)] w (none, w5) ∧ CS w5 ∧ r = (none, w5))) : xGo 251 0 [some (.ref 39), some (.int (jI z1)), some (.int (jI z2)), none] [] w r := by
  refine g_iloadn (pc' := 1) d_251_0 rfl rfl ?_
  obtain ⟨hc1, h⟩ := h
  refine gz_if_ne (pc' := 4) (pt := 12) d_251_1 (by decide) rfl hc1 (fun c => ?_) (fun c => ?_)
  · replace h := h.1 c
    refine g_iloadn (pc' := 13) d_251_12 rfl rfl ?_
    refine g_iconst (pc' := 14) d_251_13 rfl rfl ?_
    refine gz_ic_ne (pc' := 17) (pt := 25) d_251_14 (by decide) rfl hc1 (s32 (z := 1)) (fun c => ?_) (fun c => ?_)
    · replace h := h.1 c
      refine g_iconst (pc' := 26) d_251_25 rfl rfl ?_
      refine g_istoren (pc' := 27) (l' := [some (.ref 39), some (.int (jI z1)), some (.int (jI z2)), some (.int (jI 0))]) d_251_26 rfl ml_251 rfl rfl ?_
      exact h
    · replace h := h.2 c
      refine g_aloadn (pc' := 18) d_251_17 rfl rfl ?_
      refine g_iloadn (pc' := 19) d_251_18 rfl rfl ?_
      obtain ⟨w2, hk3, hC4, h⟩ := h
      refine gz_callV (pc' := 22) d_251_19 rfl st_251_261 na_254 ml_254 rfl rfl rfl rm_251_254 rfl rfl ow_254 (ko_39 hC) hk3 ?_
      refine g_goto (pt := 88) d_251_22 (by decide) ?_
      exact g_vret d_251_88 rt_251 h
  · replace h := h.2 c
    refine g_aloadn (pc' := 5) d_251_4 rfl rfl ?_
    refine g_iloadn (pc' := 6) d_251_5 rfl rfl ?_
    obtain ⟨w5, hk6, hC7, h⟩ := h
    refine gz_callV (pc' := 9) d_251_6 rfl st_251_257 na_252 ml_252 rfl rfl rfl rm_251_252 rfl rfl ow_252 (ko_39 hC) hk6 ?_
    refine g_goto (pt := 88) d_251_9 (by decide) ?_
    exact g_vret d_251_88 rt_251 h
theorem Z_251 {z1 : Int} {z2 : Int} {w : xW} {r : Option Value × xW} (hC : CS w) (h : in32 z2 ∧ (z2 ≠ 0 → (z2 ≠ 1 → xGo 251 27 [some (.ref 39), some (.int (jI z1)), some (.int (jI z2)), some (.int (jI 0))] [] w r) ∧ (z2 = 1 → ∃ w2, xCall 254 [.ref 39, .int (jI z1)] w (none, w2) ∧ CS w2 ∧ r = (none, w2))) ∧ (z2 = 0 → ∃ w5, xCall 252 [.ref 39, .int (jI z1)] w (none, w5) ∧ CS w5 ∧ r = (none, w5))) : xCall 251 [.ref 39, .int (jI z1), .int (jI z2)] w r := E_251 (Z_251_0 hC h)
theorem Z_251_27 {z1 : Int} {z2 : Int} {z3 : Int} {w : xW} {r : Option Value × xW} (hC : CS w) (h : in32 z3 ∧ in32 (z1 - 2) ∧ (z1 - 2 < z3 → r = (none, w)) ∧ (z3 ≤ z1 - 2 → (z3 ≠ 0 → (z3 ≠ 1 → ∃ y3, Int.tmod z3 2 = y3 ∧ in32 y3 ∧ (y3 ≠ 1 → in32 (z1 * z1) ∧ ∃ r10 w7, xCall 255 [.int (jI z3), .int (jI z1), .long (jL (z1 * z1))] w (some (.long (jL r10)), w7) ∧ CS w7 ∧ (0 ≤ z3 ∧ z3 < 200) ∧ ∀ w13, w13 = pI w7 51 (z3).toNat (jI r10) → CS w13 → xGo 251 27 [some (.ref 39), some (.int (jI z1)), some (.int (jI z2)), some (.int (jI (z3 + 1)))] [] w13 r) ∧ (y3 = 1 → (0 ≤ z3 ∧ z3 < 200) ∧ ∀ w17, w17 = pI w 51 (z3).toNat (jI 0) → CS w17 → xGo 251 27 [some (.ref 39), some (.int (jI z1)), some (.int (jI z2)), some (.int (jI (z3 + 1)))] [] w17 r)) ∧ (z3 = 1 → in32 (z1 - 1) ∧ ∃ y20, Int.tdiv (z1 - 1) 2 = y20 ∧ (0 ≤ z3 ∧ z3 < 200) ∧ ∀ w24, w24 = pI w 51 (z3).toNat (jI y20) → CS w24 → xGo 251 27 [some (.ref 39), some (.int (jI z1)), some (.int (jI z2)), some (.int (jI (z3 + 1)))] [] w24 r)) ∧ (z3 = 0 → (0 ≤ z3 ∧ z3 < 200) ∧ ∀ w28, w28 = pI w 51 (z3).toNat (jI 1) → CS w28 → xGo 251 27 [some (.ref 39), some (.int (jI z1)), some (.int (jI z2)), some (.int (jI (z3 + 1)))] [] w28 r))) : xGo 251 27 [some (.ref 39), some (.int (jI z1)), some (.int (jI z2)), some (.int (jI z3))] [] w r := by
  refine g_iloadn (pc' := 28) d_251_27 rfl rfl ?_
  refine g_iloadn (pc' := 29) d_251_28 rfl rfl ?_
  refine g_iconst (pc' := 30) d_251_29 rfl rfl ?_
  refine gz_isub (pc' := 31) d_251_30 rfl ?_
  obtain ⟨hc1, h⟩ := h
  obtain ⟨hc2, h⟩ := h
  refine gz_ic_gt (pc' := 34) (pt := 88) d_251_31 (by decide) rfl hc1 hc2 (fun c => ?_) (fun c => ?_)
  · replace h := h.1 c
    exact g_vret d_251_88 rt_251 h
  · replace h := h.2 c
    refine g_aloadn (pc' := 35) d_251_34 rfl rfl ?_
    refine gz_getR (pc' := 38) d_251_35 rfl st_251_48 (kr_39_18 hC) ?_
    refine g_iloadn (pc' := 39) d_251_38 rfl rfl ?_
    refine g_iloadn (pc' := 40) d_251_39 rfl rfl ?_
    refine gz_if_ne (pc' := 43) (pt := 47) d_251_40 (by decide) rfl hc1 (fun c => ?_) (fun c => ?_)
    · replace h := h.1 c
      refine g_iloadn (pc' := 48) d_251_47 rfl rfl ?_
      refine g_iconst (pc' := 49) d_251_48 rfl rfl ?_
      refine gz_ic_ne (pc' := 52) (pt := 60) d_251_49 (by decide) rfl hc1 (s32 (z := 1)) (fun c => ?_) (fun c => ?_)
      · replace h := h.1 c
        refine g_iloadn (pc' := 61) d_251_60 rfl rfl ?_
        refine g_iconst (pc' := 62) d_251_61 rfl rfl ?_
        obtain ⟨y3, hz4, h⟩ := h
        refine gz_irem (pc' := 63) d_251_62 rfl hc1 (s32 (z := 2)) (by decide) hz4 ?_
        refine g_iconst (pc' := 64) d_251_63 rfl rfl ?_
        obtain ⟨hc5, h⟩ := h
        refine gz_ic_ne (pc' := 67) (pt := 71) d_251_64 (by decide) rfl hc5 (s32 (z := 1)) (fun c => ?_) (fun c => ?_)
        · replace h := h.1 c
          refine g_iloadn (pc' := 72) d_251_71 rfl rfl ?_
          refine g_iloadn (pc' := 73) d_251_72 rfl rfl ?_
          refine g_iloadn (pc' := 74) d_251_73 rfl rfl ?_
          refine g_iloadn (pc' := 75) d_251_74 rfl rfl ?_
          refine gz_imul (pc' := 76) d_251_75 rfl ?_
          obtain ⟨hc6, h⟩ := h
          refine gz_i2l (pc' := 77) d_251_76 rfl hc6 ?_
          obtain ⟨r10, w7, hk8, hC9, h⟩ := h
          refine g_callS (pc' := 80) d_251_77 rfl st_251_264 (Or.inl rfl) na_255 ml_255 rfl rfl rfl rm_251_255 rfl rfl hk8 ?_
          refine gz_l2i (pc' := 81) d_251_80 rfl ?_
          obtain ⟨hc11, h⟩ := h
          have hs12 := (kh_51 hC9 hc11)
          have hC14 : CS (pI w7 51 (z3).toNat (jI r10)) := hC9.putI
          have h := h _ rfl hC14
          refine gz_iast (pc' := 82) d_251_81 rfl hs12 ?_
          refine gz_iinc (pc' := 85) (l' := [some (.ref 39), some (.int (jI z1)), some (.int (jI z2)), some (.int (jI (z3 + 1)))]) d_251_82 rfl rfl ml_251 rfl rfl ?_
          refine g_goto (pt := 27) d_251_85 (by decide) ?_
          exact h
        · replace h := h.2 c
          refine g_iconst (pc' := 68) d_251_67 rfl rfl ?_
          refine g_goto (pt := 81) d_251_68 (by decide) ?_
          obtain ⟨hc15, h⟩ := h
          have hs16 := (kh_51 hC hc15)
          have hC18 : CS (pI w 51 (z3).toNat (jI 0)) := hC.putI
          have h := h _ rfl hC18
          refine gz_iast (pc' := 82) d_251_81 rfl hs16 ?_
          refine gz_iinc (pc' := 85) (l' := [some (.ref 39), some (.int (jI z1)), some (.int (jI z2)), some (.int (jI (z3 + 1)))]) d_251_82 rfl rfl ml_251 rfl rfl ?_
          refine g_goto (pt := 27) d_251_85 (by decide) ?_
          exact h
      · replace h := h.2 c
        refine g_iloadn (pc' := 53) d_251_52 rfl rfl ?_
        refine g_iconst (pc' := 54) d_251_53 rfl rfl ?_
        refine gz_isub (pc' := 55) d_251_54 rfl ?_
        refine g_iconst (pc' := 56) d_251_55 rfl rfl ?_
        obtain ⟨hc19, h⟩ := h
        obtain ⟨y20, hz21, h⟩ := h
        refine gz_idiv (pc' := 57) d_251_56 rfl hc19 (s32 (z := 2)) (by decide) hz21 ?_
        refine g_goto (pt := 81) d_251_57 (by decide) ?_
        obtain ⟨hc22, h⟩ := h
        have hs23 := (kh_51 hC hc22)
        have hC25 : CS (pI w 51 (z3).toNat (jI y20)) := hC.putI
        have h := h _ rfl hC25
        refine gz_iast (pc' := 82) d_251_81 rfl hs23 ?_
        refine gz_iinc (pc' := 85) (l' := [some (.ref 39), some (.int (jI z1)), some (.int (jI z2)), some (.int (jI (z3 + 1)))]) d_251_82 rfl rfl ml_251 rfl rfl ?_
        refine g_goto (pt := 27) d_251_85 (by decide) ?_
        exact h
    · replace h := h.2 c
      refine g_iconst (pc' := 44) d_251_43 rfl rfl ?_
      refine g_goto (pt := 81) d_251_44 (by decide) ?_
      obtain ⟨hc26, h⟩ := h
      have hs27 := (kh_51 hC hc26)
      have hC29 : CS (pI w 51 (z3).toNat (jI 1)) := hC.putI
      have h := h _ rfl hC29
      refine gz_iast (pc' := 82) d_251_81 rfl hs27 ?_
      refine gz_iinc (pc' := 85) (l' := [some (.ref 39), some (.int (jI z1)), some (.int (jI z2)), some (.int (jI (z3 + 1)))]) d_251_82 rfl rfl ml_251 rfl rfl ?_
      refine g_goto (pt := 27) d_251_85 (by decide) ?_
      exact h
theorem Z_252_0 {z1 : Int} {w : xW} {r : Option Value × xW} (hC : CS w) (h : ∃ w1, xCall 253 [.ref 39, .int (jI z1)] w (none, w1) ∧ CS w1 ∧ xGo 252 7 [some (.ref 39), some (.int (jI z1)), some (.int (jI 0))] [] w1 r) : xGo 252 0 [some (.ref 39), some (.int (jI z1)), none] [] w r := by
  refine g_aloadn (pc' := 1) d_252_0 rfl rfl ?_
  refine g_iloadn (pc' := 2) d_252_1 rfl rfl ?_
  obtain ⟨w1, hk2, hC3, h⟩ := h
  refine gz_callV (pc' := 5) d_252_2 rfl st_252_268 na_253 ml_253 rfl rfl rfl rm_252_253 rfl rfl ow_253 (ko_39 hC) hk2 ?_
  refine g_iconst (pc' := 6) d_252_5 rfl rfl ?_
  refine g_istoren (pc' := 7) (l' := [some (.ref 39), some (.int (jI z1)), some (.int (jI 0))]) d_252_6 rfl ml_252 rfl rfl ?_
  exact h
theorem Z_252 {z1 : Int} {w : xW} {r : Option Value × xW} (hC : CS w) (h : ∃ w1, xCall 253 [.ref 39, .int (jI z1)] w (none, w1) ∧ CS w1 ∧ xGo 252 7 [some (.ref 39), some (.int (jI z1)), some (.int (jI 0))] [] w1 r) : xCall 252 [.ref 39, .int (jI z1)] w r := E_252 (Z_252_0 hC h)
theorem Z_252_7 {z1 : Int} {z2 : Int} {w : xW} {r : Option Value × xW} (hC : CS w) (h : in32 z2 ∧ in32 (z1 - 3) ∧ (z1 - 3 < z2 → in32 z1 ∧ (z1 ≠ 3 → (0 ≤ z1 - 2 ∧ z1 - 2 < 200) ∧ ∀ w6, w6 = pI w 51 (z1 - 2).toNat (jI 0) → CS w6 → r = (none, w6)) ∧ (z1 = 3 → (0 ≤ z1 - 2 ∧ z1 - 2 < 200) ∧ ∀ w10, w10 = pI w 51 (z1 - 2).toNat (jI 1) → CS w10 → r = (none, w10))) ∧ (z2 ≤ z1 - 3 → 0 ≤ z2 ∧ ∃ x13, rI w 49 (z2).toNat x13 ∧ (0 ≤ z2 ∧ z2 < 200) ∧ ∀ w17, w17 = pI w 51 (z2).toNat (jI x13) → CS w17 → xGo 252 7 [some (.ref 39), some (.int (jI z1)), some (.int (jI (z2 + 1)))] [] w17 r)) : xGo 252 7 [some (.ref 39), some (.int (jI z1)), some (.int (jI z2))] [] w r := by
  refine g_iloadn (pc' := 8) d_252_7 rfl rfl ?_
  refine g_iloadn (pc' := 9) d_252_8 rfl rfl ?_
  refine g_iconst (pc' := 10) d_252_9 rfl rfl ?_
  refine gz_isub (pc' := 11) d_252_10 rfl ?_
  obtain ⟨hc1, h⟩ := h
  obtain ⟨hc2, h⟩ := h
  refine gz_ic_gt (pc' := 14) (pt := 32) d_252_11 (by decide) rfl hc1 hc2 (fun c => ?_) (fun c => ?_)
  · replace h := h.1 c
    refine g_aloadn (pc' := 33) d_252_32 rfl rfl ?_
    refine gz_getR (pc' := 36) d_252_33 rfl st_252_48 (kr_39_18 hC) ?_
    refine g_iloadn (pc' := 37) d_252_36 rfl rfl ?_
    refine g_iconst (pc' := 38) d_252_37 rfl rfl ?_
    refine gz_isub (pc' := 39) d_252_38 rfl ?_
    refine g_iloadn (pc' := 40) d_252_39 rfl rfl ?_
    refine g_iconst (pc' := 41) d_252_40 rfl rfl ?_
    obtain ⟨hc3, h⟩ := h
    refine gz_ic_ne (pc' := 44) (pt := 48) d_252_41 (by decide) rfl hc3 (s32 (z := 3)) (fun c => ?_) (fun c => ?_)
    · replace h := h.1 c
      refine g_iconst (pc' := 49) d_252_48 rfl rfl ?_
      obtain ⟨hc4, h⟩ := h
      have hs5 := (kh_51 hC hc4)
      have hC7 : CS (pI w 51 (z1 - 2).toNat (jI 0)) := hC.putI
      have h := h _ rfl hC7
      refine gz_iast (pc' := 50) d_252_49 rfl hs5 ?_
      exact g_vret d_252_50 rt_252 h
    · replace h := h.2 c
      refine g_iconst (pc' := 45) d_252_44 rfl rfl ?_
      refine g_goto (pt := 49) d_252_45 (by decide) ?_
      obtain ⟨hc8, h⟩ := h
      have hs9 := (kh_51 hC hc8)
      have hC11 : CS (pI w 51 (z1 - 2).toNat (jI 1)) := hC.putI
      have h := h _ rfl hC11
      refine gz_iast (pc' := 50) d_252_49 rfl hs9 ?_
      exact g_vret d_252_50 rt_252 h
  · replace h := h.2 c
    refine g_aloadn (pc' := 15) d_252_14 rfl rfl ?_
    refine gz_getR (pc' := 18) d_252_15 rfl st_252_48 (kr_39_18 hC) ?_
    refine g_iloadn (pc' := 19) d_252_18 rfl rfl ?_
    refine g_aloadn (pc' := 20) d_252_19 rfl rfl ?_
    refine gz_getR (pc' := 23) d_252_20 rfl st_252_42 (kr_39_16 hC) ?_
    refine g_iloadn (pc' := 24) d_252_23 rfl rfl ?_
    obtain ⟨hc12, h⟩ := h
    obtain ⟨x13, hv14, h⟩ := h
    refine gz_iald (pc' := 25) d_252_24 rfl hc12 hv14 ?_
    obtain ⟨hc15, h⟩ := h
    have hs16 := (kh_51 hC hc15)
    have hC18 : CS (pI w 51 (z2).toNat (jI x13)) := hC.putI
    have h := h _ rfl hC18
    refine gz_iast (pc' := 26) d_252_25 rfl hs16 ?_
    refine gz_iinc (pc' := 29) (l' := [some (.ref 39), some (.int (jI z1)), some (.int (jI (z2 + 1)))]) d_252_26 rfl rfl ml_252 rfl rfl ?_
    refine g_goto (pt := 7) d_252_29 (by decide) ?_
    exact h
theorem Z_253_0 {z1 : Int} {w : xW} {r : Option Value × xW} (hC : CS w) (h : ∀ w2, w2 = pI w 49 0 (jI 1) → CS w2 → xGo 253 9 [some (.ref 39), some (.int (jI z1)), some (.int (jI 0)), none, none] [] w2 r) : xGo 253 0 [some (.ref 39), some (.int (jI z1)), none, none, none] [] w r := by
  refine g_aloadn (pc' := 1) d_253_0 rfl rfl ?_
  refine gz_getR (pc' := 4) d_253_1 rfl st_253_42 (kr_39_16 hC) ?_
  refine g_iconst (pc' := 5) d_253_4 rfl rfl ?_
  refine g_iconst (pc' := 6) d_253_5 rfl rfl ?_
  have hs1 := (kh_49 (i := 0) hC ⟨by decide, by decide⟩)
  have hC3 : CS (pI w 49 0 (jI 1)) := hC.putI
  have h := h _ rfl hC3
  refine gz_iast (pc' := 7) d_253_6 rfl hs1 ?_
  refine g_iconst (pc' := 8) d_253_7 rfl rfl ?_
  refine g_istoren (pc' := 9) (l' := [some (.ref 39), some (.int (jI z1)), some (.int (jI 0)), none, none]) d_253_8 rfl ml_253 rfl rfl ?_
  exact h
theorem Z_253 {z1 : Int} {w : xW} {r : Option Value × xW} (hC : CS w) (h : ∀ w2, w2 = pI w 49 0 (jI 1) → CS w2 → xGo 253 9 [some (.ref 39), some (.int (jI z1)), some (.int (jI 0)), none, none] [] w2 r) : xCall 253 [.ref 39, .int (jI z1)] w r := E_253 (Z_253_0 hC h)
theorem Z_253_9 {z1 : Int} {z2 : Int} {w : xW} {r : Option Value × xW} (hC : CS w) (h : in32 z2 ∧ (200 ≤ z2 → ∀ w3, w3 = pI w 50 1 (jI 1) → CS w3 → xGo 253 46 [some (.ref 39), some (.int (jI z1)), some (.int (jI 1)), none, none] [] w3 r) ∧ (z2 < 200 → (z2 ≠ 0 → (0 ≤ z2 ∧ z2 < 200) ∧ ∀ w7, w7 = pI w 50 (z2).toNat (jI 0) → CS w7 → xGo 253 9 [some (.ref 39), some (.int (jI z1)), some (.int (jI (z2 + 1))), none, none] [] w7 r) ∧ (z2 = 0 → (0 ≤ z2 ∧ z2 < 200) ∧ ∀ w11, w11 = pI w 50 (z2).toNat (jI 1) → CS w11 → xGo 253 9 [some (.ref 39), some (.int (jI z1)), some (.int (jI (z2 + 1))), none, none] [] w11 r))) : xGo 253 9 [some (.ref 39), some (.int (jI z1)), some (.int (jI z2)), none, none] [] w r := by
  refine g_iloadn (pc' := 10) d_253_9 rfl rfl ?_
  refine g_sipush (pc' := 13) (v := jI 200) d_253_10 rfl (by decide) ?_
  obtain ⟨hc1, h⟩ := h
  refine gz_ic_ge (pc' := 16) (pt := 37) d_253_13 (by decide) rfl hc1 (s32 (z := 200)) (fun c => ?_) (fun c => ?_)
  · replace h := h.1 c
    refine g_aloadn (pc' := 38) d_253_37 rfl rfl ?_
    refine gz_getR (pc' := 41) d_253_38 rfl st_253_45 (kr_39_17 hC) ?_
    refine g_iconst (pc' := 42) d_253_41 rfl rfl ?_
    refine g_iconst (pc' := 43) d_253_42 rfl rfl ?_
    have hs2 := (kh_50 (i := 1) hC ⟨by decide, by decide⟩)
    have hC4 : CS (pI w 50 1 (jI 1)) := hC.putI
    have h := h _ rfl hC4
    refine gz_iast (pc' := 44) d_253_43 rfl hs2 ?_
    refine g_iconst (pc' := 45) d_253_44 rfl rfl ?_
    refine g_istoren (pc' := 46) (l' := [some (.ref 39), some (.int (jI z1)), some (.int (jI 1)), none, none]) d_253_45 rfl ml_253 rfl rfl ?_
    exact h
  · replace h := h.2 c
    refine g_aloadn (pc' := 17) d_253_16 rfl rfl ?_
    refine gz_getR (pc' := 20) d_253_17 rfl st_253_45 (kr_39_17 hC) ?_
    refine g_iloadn (pc' := 21) d_253_20 rfl rfl ?_
    refine g_iloadn (pc' := 22) d_253_21 rfl rfl ?_
    refine gz_if_ne (pc' := 25) (pt := 29) d_253_22 (by decide) rfl hc1 (fun c => ?_) (fun c => ?_)
    · replace h := h.1 c
      refine g_iconst (pc' := 30) d_253_29 rfl rfl ?_
      obtain ⟨hc5, h⟩ := h
      have hs6 := (kh_50 hC hc5)
      have hC8 : CS (pI w 50 (z2).toNat (jI 0)) := hC.putI
      have h := h _ rfl hC8
      refine gz_iast (pc' := 31) d_253_30 rfl hs6 ?_
      refine gz_iinc (pc' := 34) (l' := [some (.ref 39), some (.int (jI z1)), some (.int (jI (z2 + 1))), none, none]) d_253_31 rfl rfl ml_253 rfl rfl ?_
      refine g_goto (pt := 9) d_253_34 (by decide) ?_
      exact h
    · replace h := h.2 c
      refine g_iconst (pc' := 26) d_253_25 rfl rfl ?_
      refine g_goto (pt := 30) d_253_26 (by decide) ?_
      obtain ⟨hc9, h⟩ := h
      have hs10 := (kh_50 hC hc9)
      have hC12 : CS (pI w 50 (z2).toNat (jI 1)) := hC.putI
      have h := h _ rfl hC12
      refine gz_iast (pc' := 31) d_253_30 rfl hs10 ?_
      refine gz_iinc (pc' := 34) (l' := [some (.ref 39), some (.int (jI z1)), some (.int (jI (z2 + 1))), none, none]) d_253_31 rfl rfl ml_253 rfl rfl ?_
      refine g_goto (pt := 9) d_253_34 (by decide) ?_
      exact h
theorem Z_253_46 {z1 : Int} {z2 : Int} {w : xW} {r : Option Value × xW} (hC : CS w) (h : in32 z2 ∧ in32 (z1 - 3) ∧ (z1 - 3 < z2 → r = (none, w)) ∧ (z2 ≤ z1 - 3 → xGo 253 57 [some (.ref 39), some (.int (jI z1)), some (.int (jI z2)), some (.int (jI (z2 + 1))), none] [] w r)) : xGo 253 46 [some (.ref 39), some (.int (jI z1)), some (.int (jI z2)), none, none] [] w r := by
  refine g_iloadn (pc' := 47) d_253_46 rfl rfl ?_
  refine g_iloadn (pc' := 48) d_253_47 rfl rfl ?_
  refine g_iconst (pc' := 49) d_253_48 rfl rfl ?_
  refine gz_isub (pc' := 50) d_253_49 rfl ?_
  obtain ⟨hc1, h⟩ := h
  obtain ⟨hc2, h⟩ := h
  refine gz_ic_gt (pc' := 53) (pt := 158) d_253_50 (by decide) rfl hc1 hc2 (fun c => ?_) (fun c => ?_)
  · replace h := h.1 c
    exact g_vret d_253_158 rt_253 h
  · replace h := h.2 c
    refine g_iloadn (pc' := 54) d_253_53 rfl rfl ?_
    refine g_iconst (pc' := 55) d_253_54 rfl rfl ?_
    refine gz_iadd (pc' := 56) d_253_55 rfl ?_
    refine g_istoren (pc' := 57) (l' := [some (.ref 39), some (.int (jI z1)), some (.int (jI z2)), some (.int (jI (z2 + 1))), none]) d_253_56 rfl ml_253 rfl rfl ?_
    exact h
theorem Z_253_57 {z1 : Int} {z2 : Int} {z3 : Int} {w : xW} {r : Option Value × xW} (hC : CS w) (h : in32 z3 ∧ (z3 ≤ 0 → xGo 253 95 [some (.ref 39), some (.int (jI z1)), some (.int (jI z2)), some (.int (jI 0)), some (.int (jI 0))] [] w r) ∧ (0 < z3 → 0 ≤ z3 ∧ ∃ x3, rI w 50 (z3).toNat x3 ∧ 0 ≤ z3 - 1 ∧ ∃ x6, rI w 50 (z3 - 1).toNat x6 ∧ in32 (x3 + x6) ∧ in32 z1 ∧ z1 ≠ 0 ∧ ∃ y11, Int.tmod (x3 + x6) z1 = y11 ∧ (0 ≤ z3 ∧ z3 < 200) ∧ ∀ w15, w15 = pI w 50 (z3).toNat (jI y11) → CS w15 → xGo 253 57 [some (.ref 39), some (.int (jI z1)), some (.int (jI z2)), some (.int (jI (z3 - 1))), none] [] w15 r)) : xGo 253 57 [some (.ref 39), some (.int (jI z1)), some (.int (jI z2)), some (.int (jI z3)), none] [] w r := by
  refine g_iloadn (pc' := 58) d_253_57 rfl rfl ?_
  obtain ⟨hc1, h⟩ := h
  refine gz_if_le (pc' := 61) (pt := 90) d_253_58 (by decide) rfl hc1 (fun c => ?_) (fun c => ?_)
  · replace h := h.1 c
    refine g_iconst (pc' := 91) d_253_90 rfl rfl ?_
    refine g_istoren (pc' := 92) (l' := [some (.ref 39), some (.int (jI z1)), some (.int (jI z2)), some (.int (jI 0)), none]) d_253_91 rfl ml_253 rfl rfl ?_
    refine g_iconst (pc' := 93) d_253_92 rfl rfl ?_
    refine g_istore (pc' := 95) (l' := [some (.ref 39), some (.int (jI z1)), some (.int (jI z2)), some (.int (jI 0)), some (.int (jI 0))]) d_253_93 rfl ml_253 rfl rfl ?_
    exact h
  · replace h := h.2 c
    refine g_aloadn (pc' := 62) d_253_61 rfl rfl ?_
    refine gz_getR (pc' := 65) d_253_62 rfl st_253_45 (kr_39_17 hC) ?_
    refine g_iloadn (pc' := 66) d_253_65 rfl rfl ?_
    refine g_aloadn (pc' := 67) d_253_66 rfl rfl ?_
    refine gz_getR (pc' := 70) d_253_67 rfl st_253_45 (kr_39_17 hC) ?_
    refine g_iloadn (pc' := 71) d_253_70 rfl rfl ?_
    obtain ⟨hc2, h⟩ := h
    obtain ⟨x3, hv4, h⟩ := h
    refine gz_iald (pc' := 72) d_253_71 rfl hc2 hv4 ?_
    refine g_aloadn (pc' := 73) d_253_72 rfl rfl ?_
    refine gz_getR (pc' := 76) d_253_73 rfl st_253_45 (kr_39_17 hC) ?_
    refine g_iloadn (pc' := 77) d_253_76 rfl rfl ?_
    refine g_iconst (pc' := 78) d_253_77 rfl rfl ?_
    refine gz_isub (pc' := 79) d_253_78 rfl ?_
    obtain ⟨hc5, h⟩ := h
    obtain ⟨x6, hv7, h⟩ := h
    refine gz_iald (pc' := 80) d_253_79 rfl hc5 hv7 ?_
    refine gz_iadd (pc' := 81) d_253_80 rfl ?_
    refine g_iloadn (pc' := 82) d_253_81 rfl rfl ?_
    obtain ⟨hc8, h⟩ := h
    obtain ⟨hc9, h⟩ := h
    obtain ⟨hc10, h⟩ := h
    obtain ⟨y11, hz12, h⟩ := h
    refine gz_irem (pc' := 83) d_253_82 rfl hc8 hc9 hc10 hz12 ?_
    obtain ⟨hc13, h⟩ := h
    have hs14 := (kh_50 hC hc13)
    have hC16 : CS (pI w 50 (z3).toNat (jI y11)) := hC.putI
    have h := h _ rfl hC16
    refine gz_iast (pc' := 84) d_253_83 rfl hs14 ?_
    refine gz_idec (pc' := 87) (c := 1) (l' := [some (.ref 39), some (.int (jI z1)), some (.int (jI z2)), some (.int (jI (z3 - 1))), none]) d_253_84 rfl rfl ml_253 rfl rfl ?_
    refine g_goto (pt := 57) d_253_87 (by decide) ?_
    exact h
theorem Z_253_95 {z1 : Int} {z2 : Int} {z3 : Int} {z4 : Int} {w : xW} {r : Option Value × xW} (hC : CS w) (h : in32 z4 ∧ in32 z2 ∧ (z2 ≤ z4 → in32 z3 ∧ ∃ r7 w4, xCall 216 [.int (jI (z2 + 1)), .int (jI (z1 - 2)), .int (jI z1)] w (some (.int (jI r7)), w4) ∧ CS w4 ∧ in32 r7 ∧ ∃ r12 w9, xCall 215 [.long (jL ((-z3) * r7)), .int (jI z1)] w4 (some (.int (jI r12)), w9) ∧ CS w9 ∧ (0 ≤ z2 ∧ z2 < 200) ∧ ∀ w15, w15 = pI w9 49 (z2).toNat (jI r12) → CS w15 → xGo 253 46 [some (.ref 39), some (.int (jI z1)), some (.int (jI (z2 + 1))), none, none] [] w15 r) ∧ (z4 < z2 → 0 ≤ z4 ∧ ∃ x18, rI w 50 (z4).toNat x18 ∧ 0 ≤ z4 ∧ ∃ x21, rI w 49 (z4).toNat x21 ∧ in32 (z3 + (x18 * x21)) ∧ in32 z1 ∧ z1 ≠ 0 ∧ ∃ y26, Int.tmod (z3 + (x18 * x21)) z1 = y26 ∧ xGo 253 95 [some (.ref 39), some (.int (jI z1)), some (.int (jI z2)), some (.int (jI y26)), some (.int (jI (z4 + 1)))] [] w r)) : xGo 253 95 [some (.ref 39), some (.int (jI z1)), some (.int (jI z2)), some (.int (jI z3)), some (.int (jI z4))] [] w r := by
  refine g_iload (pc' := 97) d_253_95 rfl rfl ?_
  refine g_iloadn (pc' := 98) d_253_97 rfl rfl ?_
  obtain ⟨hc1, h⟩ := h
  obtain ⟨hc2, h⟩ := h
  refine gz_ic_ge (pc' := 101) (pt := 127) d_253_98 (by decide) rfl hc1 hc2 (fun c => ?_) (fun c => ?_)
  · replace h := h.1 c
    refine g_aloadn (pc' := 128) d_253_127 rfl rfl ?_
    refine gz_getR (pc' := 131) d_253_128 rfl st_253_42 (kr_39_16 hC) ?_
    refine g_iloadn (pc' := 132) d_253_131 rfl rfl ?_
    refine g_iloadn (pc' := 133) d_253_132 rfl rfl ?_
    obtain ⟨hc3, h⟩ := h
    refine gz_i2l (pc' := 134) d_253_133 rfl hc3 ?_
    refine gz_lneg (pc' := 135) d_253_134 rfl ?_
    refine g_iloadn (pc' := 136) d_253_135 rfl rfl ?_
    refine g_iconst (pc' := 137) d_253_136 rfl rfl ?_
    refine gz_iadd (pc' := 138) d_253_137 rfl ?_
    refine g_iloadn (pc' := 139) d_253_138 rfl rfl ?_
    refine g_iconst (pc' := 140) d_253_139 rfl rfl ?_
    refine gz_isub (pc' := 141) d_253_140 rfl ?_
    refine g_iloadn (pc' := 142) d_253_141 rfl rfl ?_
    obtain ⟨r7, w4, hk5, hC6, h⟩ := h
    refine g_callS (pc' := 145) d_253_142 rfl st_253_174 (Or.inl rfl) na_216 ml_216 rfl rfl rfl rm_253_216 rfl rfl hk5 ?_
    obtain ⟨hc8, h⟩ := h
    refine gz_i2l (pc' := 146) d_253_145 rfl hc8 ?_
    refine gz_lmul (pc' := 147) d_253_146 rfl ?_
    refine g_iloadn (pc' := 148) d_253_147 rfl rfl ?_
    obtain ⟨r12, w9, hk10, hC11, h⟩ := h
    refine g_callS (pc' := 151) d_253_148 rfl st_253_170 (Or.inl rfl) na_215 ml_215 rfl rfl rfl rm_253_215 rfl rfl hk10 ?_
    obtain ⟨hc13, h⟩ := h
    have hs14 := (kh_49 hC11 hc13)
    have hC16 : CS (pI w9 49 (z2).toNat (jI r12)) := hC11.putI
    have h := h _ rfl hC16
    refine gz_iast (pc' := 152) d_253_151 rfl hs14 ?_
    refine gz_iinc (pc' := 155) (l' := [some (.ref 39), some (.int (jI z1)), some (.int (jI (z2 + 1))), some (.int (jI z3)), some (.int (jI z4))]) d_253_152 rfl rfl ml_253 rfl rfl ?_
    refine g_goto (pt := 46) d_253_155 (by decide) ?_
    exact xGo.more (xle_s (xle_s (xle_s (xle_n (xle_n xle_0))))) h
  · replace h := h.2 c
    refine g_iloadn (pc' := 102) d_253_101 rfl rfl ?_
    refine g_aloadn (pc' := 103) d_253_102 rfl rfl ?_
    refine gz_getR (pc' := 106) d_253_103 rfl st_253_45 (kr_39_17 hC) ?_
    refine g_iload (pc' := 108) d_253_106 rfl rfl ?_
    obtain ⟨hc17, h⟩ := h
    obtain ⟨x18, hv19, h⟩ := h
    refine gz_iald (pc' := 109) d_253_108 rfl hc17 hv19 ?_
    refine g_aloadn (pc' := 110) d_253_109 rfl rfl ?_
    refine gz_getR (pc' := 113) d_253_110 rfl st_253_42 (kr_39_16 hC) ?_
    refine g_iload (pc' := 115) d_253_113 rfl rfl ?_
    obtain ⟨hc20, h⟩ := h
    obtain ⟨x21, hv22, h⟩ := h
    refine gz_iald (pc' := 116) d_253_115 rfl hc20 hv22 ?_
    refine gz_imul (pc' := 117) d_253_116 rfl ?_
    refine gz_iadd (pc' := 118) d_253_117 rfl ?_
    refine g_iloadn (pc' := 119) d_253_118 rfl rfl ?_
    obtain ⟨hc23, h⟩ := h
    obtain ⟨hc24, h⟩ := h
    obtain ⟨hc25, h⟩ := h
    obtain ⟨y26, hz27, h⟩ := h
    refine gz_irem (pc' := 120) d_253_119 rfl hc23 hc24 hc25 hz27 ?_
    refine g_istoren (pc' := 121) (l' := [some (.ref 39), some (.int (jI z1)), some (.int (jI z2)), some (.int (jI y26)), some (.int (jI z4))]) d_253_120 rfl ml_253 rfl rfl ?_
    refine gz_iinc (pc' := 124) (l' := [some (.ref 39), some (.int (jI z1)), some (.int (jI z2)), some (.int (jI y26)), some (.int (jI (z4 + 1)))]) d_253_121 rfl rfl ml_253 rfl rfl ?_
    refine g_goto (pt := 95) d_253_124 (by decide) ?_
    exact h
theorem Z_254_0 {z1 : Int} {w : xW} {r : Option Value × xW} (hC : CS w) (h : xGo 254 2 [some (.ref 39), some (.int (jI z1)), some (.int (jI 0)), none] [] w r) : xGo 254 0 [some (.ref 39), some (.int (jI z1)), none, none] [] w r := by
  refine g_iconst (pc' := 1) d_254_0 rfl rfl ?_
  refine g_istoren (pc' := 2) (l' := [some (.ref 39), some (.int (jI z1)), some (.int (jI 0)), none]) d_254_1 rfl ml_254 rfl rfl ?_
  exact h
theorem Z_254 {z1 : Int} {w : xW} {r : Option Value × xW} (hC : CS w) (h : xGo 254 2 [some (.ref 39), some (.int (jI z1)), some (.int (jI 0)), none] [] w r) : xCall 254 [.ref 39, .int (jI z1)] w r := E_254 (Z_254_0 hC h)
theorem Z_254_2 {z1 : Int} {z2 : Int} {w : xW} {r : Option Value × xW} (hC : CS w) (h : in32 z2 ∧ in32 (z1 - 2) ∧ (z1 - 2 < z2 → xGo 254 33 [some (.ref 39), some (.int (jI z1)), some (.int (jI 0)), none] [] w r) ∧ (z2 ≤ z1 - 2 → ∃ r6 w3, xCall 216 [.int (jI (z2 + 1)), .int (jI (z1 - 2)), .int (jI z1)] w (some (.int (jI r6)), w3) ∧ CS w3 ∧ (0 ≤ z2 ∧ z2 < 200) ∧ ∀ w9, w9 = pI w3 52 (z2).toNat (jI r6) → CS w9 → xGo 254 2 [some (.ref 39), some (.int (jI z1)), some (.int (jI (z2 + 1))), none] [] w9 r)) : xGo 254 2 [some (.ref 39), some (.int (jI z1)), some (.int (jI z2)), none] [] w r := by
  refine g_iloadn (pc' := 3) d_254_2 rfl rfl ?_
  refine g_iloadn (pc' := 4) d_254_3 rfl rfl ?_
  refine g_iconst (pc' := 5) d_254_4 rfl rfl ?_
  refine gz_isub (pc' := 6) d_254_5 rfl ?_
  obtain ⟨hc1, h⟩ := h
  obtain ⟨hc2, h⟩ := h
  refine gz_ic_gt (pc' := 9) (pt := 31) d_254_6 (by decide) rfl hc1 hc2 (fun c => ?_) (fun c => ?_)
  · replace h := h.1 c
    refine g_iconst (pc' := 32) d_254_31 rfl rfl ?_
    refine g_istoren (pc' := 33) (l' := [some (.ref 39), some (.int (jI z1)), some (.int (jI 0)), none]) d_254_32 rfl ml_254 rfl rfl ?_
    exact h
  · replace h := h.2 c
    refine g_aloadn (pc' := 10) d_254_9 rfl rfl ?_
    refine gz_getR (pc' := 13) d_254_10 rfl st_254_51 (kr_39_19 hC) ?_
    refine g_iloadn (pc' := 14) d_254_13 rfl rfl ?_
    refine g_iloadn (pc' := 15) d_254_14 rfl rfl ?_
    refine g_iconst (pc' := 16) d_254_15 rfl rfl ?_
    refine gz_iadd (pc' := 17) d_254_16 rfl ?_
    refine g_iloadn (pc' := 18) d_254_17 rfl rfl ?_
    refine g_iconst (pc' := 19) d_254_18 rfl rfl ?_
    refine gz_isub (pc' := 20) d_254_19 rfl ?_
    refine g_iloadn (pc' := 21) d_254_20 rfl rfl ?_
    obtain ⟨r6, w3, hk4, hC5, h⟩ := h
    refine g_callS (pc' := 24) d_254_21 rfl st_254_174 (Or.inl rfl) na_216 ml_216 rfl rfl rfl rm_254_216 rfl rfl hk4 ?_
    obtain ⟨hc7, h⟩ := h
    have hs8 := (kh_52 hC5 hc7)
    have hC10 : CS (pI w3 52 (z2).toNat (jI r6)) := hC5.putI
    have h := h _ rfl hC10
    refine gz_iast (pc' := 25) d_254_24 rfl hs8 ?_
    refine gz_iinc (pc' := 28) (l' := [some (.ref 39), some (.int (jI z1)), some (.int (jI (z2 + 1))), none]) d_254_25 rfl rfl ml_254 rfl rfl ?_
    refine g_goto (pt := 2) d_254_28 (by decide) ?_
    exact h
theorem Z_254_33 {z1 : Int} {z2 : Int} {w : xW} {r : Option Value × xW} (hC : CS w) (h : in32 z2 ∧ in32 (z1 - 2) ∧ (z1 - 2 < z2 → r = (none, w)) ∧ (z2 ≤ z1 - 2 → (z2 ≠ 1 → ∃ x3, rI w 52 0 x3 ∧ (0 ≤ z2 ∧ z2 < 200) ∧ ∀ w7, w7 = pI w 51 (z2).toNat (jI x3) → CS w7 → xGo 254 75 [some (.ref 39), some (.int (jI z1)), some (.int (jI z2)), some (.int (jI 0))] [] w7 r) ∧ (z2 = 1 → ∃ x9, rI w 52 0 x9 ∧ in32 x9 ∧ ∃ r15 w12, xCall 215 [.long (jL (x9 - 1)), .int (jI z1)] w (some (.int (jI r15)), w12) ∧ CS w12 ∧ (0 ≤ z2 ∧ z2 < 200) ∧ ∀ w18, w18 = pI w12 51 (z2).toNat (jI r15) → CS w18 → xGo 254 75 [some (.ref 39), some (.int (jI z1)), some (.int (jI z2)), some (.int (jI 0))] [] w18 r))) : xGo 254 33 [some (.ref 39), some (.int (jI z1)), some (.int (jI z2)), none] [] w r := by
  refine g_iloadn (pc' := 34) d_254_33 rfl rfl ?_
  refine g_iloadn (pc' := 35) d_254_34 rfl rfl ?_
  refine g_iconst (pc' := 36) d_254_35 rfl rfl ?_
  refine gz_isub (pc' := 37) d_254_36 rfl ?_
  obtain ⟨hc1, h⟩ := h
  obtain ⟨hc2, h⟩ := h
  refine gz_ic_gt (pc' := 40) (pt := 127) d_254_37 (by decide) rfl hc1 hc2 (fun c => ?_) (fun c => ?_)
  · replace h := h.1 c
    exact g_vret d_254_127 rt_254 h
  · replace h := h.2 c
    refine g_aloadn (pc' := 41) d_254_40 rfl rfl ?_
    refine gz_getR (pc' := 44) d_254_41 rfl st_254_48 (kr_39_18 hC) ?_
    refine g_iloadn (pc' := 45) d_254_44 rfl rfl ?_
    refine g_iloadn (pc' := 46) d_254_45 rfl rfl ?_
    refine g_iconst (pc' := 47) d_254_46 rfl rfl ?_
    refine gz_ic_ne (pc' := 50) (pt := 66) d_254_47 (by decide) rfl hc1 (s32 (z := 1)) (fun c => ?_) (fun c => ?_)
    · replace h := h.1 c
      refine g_aloadn (pc' := 67) d_254_66 rfl rfl ?_
      refine gz_getR (pc' := 70) d_254_67 rfl st_254_51 (kr_39_19 hC) ?_
      refine g_iconst (pc' := 71) d_254_70 rfl rfl ?_
      obtain ⟨x3, hv4, h⟩ := h
      refine gz_iald (pc' := 72) d_254_71 rfl (by decide) hv4 ?_
      obtain ⟨hc5, h⟩ := h
      have hs6 := (kh_51 hC hc5)
      have hC8 : CS (pI w 51 (z2).toNat (jI x3)) := hC.putI
      have h := h _ rfl hC8
      refine gz_iast (pc' := 73) d_254_72 rfl hs6 ?_
      refine g_iconst (pc' := 74) d_254_73 rfl rfl ?_
      refine g_istoren (pc' := 75) (l' := [some (.ref 39), some (.int (jI z1)), some (.int (jI z2)), some (.int (jI 0))]) d_254_74 rfl ml_254 rfl rfl ?_
      exact h
    · replace h := h.2 c
      refine g_aloadn (pc' := 51) d_254_50 rfl rfl ?_
      refine gz_getR (pc' := 54) d_254_51 rfl st_254_51 (kr_39_19 hC) ?_
      refine g_iconst (pc' := 55) d_254_54 rfl rfl ?_
      obtain ⟨x9, hv10, h⟩ := h
      refine gz_iald (pc' := 56) d_254_55 rfl (by decide) hv10 ?_
      obtain ⟨hc11, h⟩ := h
      refine gz_i2l (pc' := 57) d_254_56 rfl hc11 ?_
      refine g_lconst (pc' := 58) (v := jL 1) d_254_57 rfl cl_1 ?_
      refine gz_lsub (pc' := 59) d_254_58 rfl ?_
      refine g_iloadn (pc' := 60) d_254_59 rfl rfl ?_
      obtain ⟨r15, w12, hk13, hC14, h⟩ := h
      refine g_callS (pc' := 63) d_254_60 rfl st_254_170 (Or.inl rfl) na_215 ml_215 rfl rfl rfl rm_254_215 rfl rfl hk13 ?_
      refine g_goto (pt := 72) d_254_63 (by decide) ?_
      obtain ⟨hc16, h⟩ := h
      have hs17 := (kh_51 hC14 hc16)
      have hC19 : CS (pI w12 51 (z2).toNat (jI r15)) := hC14.putI
      have h := h _ rfl hC19
      refine gz_iast (pc' := 73) d_254_72 rfl hs17 ?_
      refine g_iconst (pc' := 74) d_254_73 rfl rfl ?_
      refine g_istoren (pc' := 75) (l' := [some (.ref 39), some (.int (jI z1)), some (.int (jI z2)), some (.int (jI 0))]) d_254_74 rfl ml_254 rfl rfl ?_
      exact h
theorem Z_254_75 {z1 : Int} {z2 : Int} {z3 : Int} {w : xW} {r : Option Value × xW} (hC : CS w) (h : in32 (z3 + z2) ∧ in32 (z1 - 2) ∧ (z1 - 2 ≤ z3 + z2 → xGo 254 33 [some (.ref 39), some (.int (jI z1)), some (.int (jI (z2 + 1))), none] [] w r) ∧ (z3 + z2 < z1 - 2 → in32 z3 ∧ 0 ≤ z3 ∧ ∃ x5, rI w 52 (z3).toNat x5 ∧ 0 ≤ z3 + 1 ∧ ∃ x8, rI w 52 (z3 + 1).toNat x8 ∧ in32 (x5 - x8) ∧ ∃ r14 w11, xCall 215 [.long (jL ((z3 + 1) * (x5 - x8))), .int (jI z1)] w (some (.int (jI r14)), w11) ∧ CS w11 ∧ (0 ≤ z3 ∧ z3 < 200) ∧ ∀ w17, w17 = pI w11 52 (z3).toNat (jI r14) → CS w17 → xGo 254 75 [some (.ref 39), some (.int (jI z1)), some (.int (jI z2)), some (.int (jI (z3 + 1)))] [] w17 r)) : xGo 254 75 [some (.ref 39), some (.int (jI z1)), some (.int (jI z2)), some (.int (jI z3))] [] w r := by
  refine g_iloadn (pc' := 76) d_254_75 rfl rfl ?_
  refine g_iloadn (pc' := 77) d_254_76 rfl rfl ?_
  refine gz_iadd (pc' := 78) d_254_77 rfl ?_
  refine g_iloadn (pc' := 79) d_254_78 rfl rfl ?_
  refine g_iconst (pc' := 80) d_254_79 rfl rfl ?_
  refine gz_isub (pc' := 81) d_254_80 rfl ?_
  obtain ⟨hc1, h⟩ := h
  obtain ⟨hc2, h⟩ := h
  refine gz_ic_ge (pc' := 84) (pt := 121) d_254_81 (by decide) rfl hc1 hc2 (fun c => ?_) (fun c => ?_)
  · replace h := h.1 c
    refine gz_iinc (pc' := 124) (l' := [some (.ref 39), some (.int (jI z1)), some (.int (jI (z2 + 1))), some (.int (jI z3))]) d_254_121 rfl rfl ml_254 rfl rfl ?_
    refine g_goto (pt := 33) d_254_124 (by decide) ?_
    exact xGo.more (xle_s (xle_s (xle_s (xle_n xle_0)))) h
  · replace h := h.2 c
    refine g_aloadn (pc' := 85) d_254_84 rfl rfl ?_
    refine gz_getR (pc' := 88) d_254_85 rfl st_254_51 (kr_39_19 hC) ?_
    refine g_iloadn (pc' := 89) d_254_88 rfl rfl ?_
    refine g_iloadn (pc' := 90) d_254_89 rfl rfl ?_
    obtain ⟨hc3, h⟩ := h
    refine gz_i2l (pc' := 91) d_254_90 rfl hc3 ?_
    refine g_lconst (pc' := 92) (v := jL 1) d_254_91 rfl cl_1 ?_
    refine gz_ladd (pc' := 93) d_254_92 rfl ?_
    refine g_aloadn (pc' := 94) d_254_93 rfl rfl ?_
    refine gz_getR (pc' := 97) d_254_94 rfl st_254_51 (kr_39_19 hC) ?_
    refine g_iloadn (pc' := 98) d_254_97 rfl rfl ?_
    obtain ⟨hc4, h⟩ := h
    obtain ⟨x5, hv6, h⟩ := h
    refine gz_iald (pc' := 99) d_254_98 rfl hc4 hv6 ?_
    refine g_aloadn (pc' := 100) d_254_99 rfl rfl ?_
    refine gz_getR (pc' := 103) d_254_100 rfl st_254_51 (kr_39_19 hC) ?_
    refine g_iloadn (pc' := 104) d_254_103 rfl rfl ?_
    refine g_iconst (pc' := 105) d_254_104 rfl rfl ?_
    refine gz_iadd (pc' := 106) d_254_105 rfl ?_
    obtain ⟨hc7, h⟩ := h
    obtain ⟨x8, hv9, h⟩ := h
    refine gz_iald (pc' := 107) d_254_106 rfl hc7 hv9 ?_
    refine gz_isub (pc' := 108) d_254_107 rfl ?_
    obtain ⟨hc10, h⟩ := h
    refine gz_i2l (pc' := 109) d_254_108 rfl hc10 ?_
    refine gz_lmul (pc' := 110) d_254_109 rfl ?_
    refine g_iloadn (pc' := 111) d_254_110 rfl rfl ?_
    obtain ⟨r14, w11, hk12, hC13, h⟩ := h
    refine g_callS (pc' := 114) d_254_111 rfl st_254_170 (Or.inl rfl) na_215 ml_215 rfl rfl rfl rm_254_215 rfl rfl hk12 ?_
    obtain ⟨hc15, h⟩ := h
    have hs16 := (kh_52 hC13 hc15)
    have hC18 : CS (pI w11 52 (z3).toNat (jI r14)) := hC13.putI
    have h := h _ rfl hC18
    refine gz_iast (pc' := 115) d_254_114 rfl hs16 ?_
    refine gz_iinc (pc' := 118) (l' := [some (.ref 39), some (.int (jI z1)), some (.int (jI z2)), some (.int (jI (z3 + 1)))]) d_254_115 rfl rfl ml_254 rfl rfl ?_
    refine g_goto (pt := 75) d_254_118 (by decide) ?_
    exact h
theorem Z_255_0 {z0 : Int} {z1 : Int} {z2 : Int} {w : xW} {r : Option Value × xW} (hC : CS w) (h : xGo 255 6 [some (.int (jI z0)), some (.int (jI z1)), some (.long (jL z2)), none, some (.long (jL 0)), none, some (.int (jI 1))] [] w r) : xGo 255 0 [some (.int (jI z0)), some (.int (jI z1)), some (.long (jL z2)), none, none, none, none] [] w r := by
  refine g_lconst (pc' := 1) (v := jL 0) d_255_0 rfl cl_0 ?_
  refine g_lstore (pc' := 3) (l' := [some (.int (jI z0)), some (.int (jI z1)), some (.long (jL z2)), none, some (.long (jL 0)), none, none]) d_255_1 rfl ml_255 rfl rfl ?_
  refine g_iconst (pc' := 4) d_255_3 rfl rfl ?_
  refine g_istore (pc' := 6) (l' := [some (.int (jI z0)), some (.int (jI z1)), some (.long (jL z2)), none, some (.long (jL 0)), none, some (.int (jI 1))]) d_255_4 rfl ml_255 rfl rfl ?_
  exact h
theorem Z_255 {z0 : Int} {z1 : Int} {z2 : Int} {w : xW} {r : Option Value × xW} (hC : CS w) (h : xGo 255 6 [some (.int (jI z0)), some (.int (jI z1)), some (.long (jL z2)), none, some (.long (jL 0)), none, some (.int (jI 1))] [] w r) : xCall 255 [.int (jI z0), .int (jI z1), .long (jL z2)] w r := E_255 (Z_255_0 hC h)
theorem Z_255_6 {z0 : Int} {z1 : Int} {z2 : Int} {z4 : Int} {z6 : Int} {w : xW} {r : Option Value × xW} (hC : CS w) (h : in32 z6 ∧ in32 z1 ∧ (z1 ≤ z6 → in64 z4 ∧ z1 ≠ 0 ∧ ∃ y5, Int.tdiv z4 z1 = y5 ∧ r = (some (.long (jL y5)), w)) ∧ (z6 < z1 → ∃ r10 w7, xCall 240 [.long (jL z6), .int (jI z0), .long (jL z2)] w (some (.long (jL r10)), w7) ∧ CS w7 ∧ in64 (z4 + r10) ∧ in64 z2 ∧ z2 ≠ 0 ∧ ∃ y14, Int.tmod (z4 + r10) z2 = y14 ∧ xGo 255 6 [some (.int (jI z0)), some (.int (jI z1)), some (.long (jL z2)), none, some (.long (jL y14)), none, some (.int (jI (z6 + 1)))] [] w7 r)) : xGo 255 6 [some (.int (jI z0)), some (.int (jI z1)), some (.long (jL z2)), none, some (.long (jL z4)), none, some (.int (jI z6))] [] w r := by
  refine g_iload (pc' := 8) d_255_6 rfl rfl ?_
  refine g_iloadn (pc' := 9) d_255_8 rfl rfl ?_
  obtain ⟨hc1, h⟩ := h
  obtain ⟨hc2, h⟩ := h
  refine gz_ic_ge (pc' := 12) (pt := 33) d_255_9 (by decide) rfl hc1 hc2 (fun c => ?_) (fun c => ?_)
  · replace h := h.1 c
    refine g_lload (pc' := 35) d_255_33 rfl rfl ?_
    refine g_iloadn (pc' := 36) d_255_35 rfl rfl ?_
    refine gz_i2l (pc' := 37) d_255_36 rfl hc2 ?_
    obtain ⟨hc3, h⟩ := h
    obtain ⟨hc4, h⟩ := h
    obtain ⟨y5, hz6, h⟩ := h
    refine gz_ldiv (pc' := 38) d_255_37 rfl hc3 (in3264 hc2) hc4 hz6 ?_
    exact g_lret d_255_38 rt_255 h
  · replace h := h.2 c
    refine g_lload (pc' := 14) d_255_12 rfl rfl ?_
    refine g_iload (pc' := 16) d_255_14 rfl rfl ?_
    refine gz_i2l (pc' := 17) d_255_16 rfl hc1 ?_
    refine g_iloadn (pc' := 18) d_255_17 rfl rfl ?_
    refine g_lloadn (pc' := 19) d_255_18 rfl rfl ?_
    obtain ⟨r10, w7, hk8, hC9, h⟩ := h
    refine g_callS (pc' := 22) d_255_19 rfl st_255_208 (Or.inl rfl) na_240 ml_240 rfl rfl rfl rm_255_240 rfl rfl hk8 ?_
    refine gz_ladd (pc' := 23) d_255_22 rfl ?_
    refine g_lloadn (pc' := 24) d_255_23 rfl rfl ?_
    obtain ⟨hc11, h⟩ := h
    obtain ⟨hc12, h⟩ := h
    obtain ⟨hc13, h⟩ := h
    obtain ⟨y14, hz15, h⟩ := h
    refine gz_lrem (pc' := 25) d_255_24 rfl hc11 hc12 hc13 hz15 ?_
    refine g_lstore (pc' := 27) (l' := [some (.int (jI z0)), some (.int (jI z1)), some (.long (jL z2)), none, some (.long (jL y14)), none, some (.int (jI z6))]) d_255_25 rfl ml_255 rfl rfl ?_
    refine gz_iinc (pc' := 30) (l' := [some (.int (jI z0)), some (.int (jI z1)), some (.long (jL z2)), none, some (.long (jL y14)), none, some (.int (jI (z6 + 1)))]) d_255_27 rfl rfl ml_255 rfl rfl ?_
    refine g_goto (pt := 6) d_255_30 (by decide) ?_
    exact h
theorem Z_256_0 {z1 : Int} {z2 : Int} {w : xW} {r : Option Value × xW} (hC : CS w) (h : ∀ w2, w2 = pF w 39 0 (.int (jI 0)) → CS w2 → ∃ (P7 : Prop) (dP8 : Decidable P7) (w4 : xW), xCall 228 [.ref 39, .int (jI z1)] w2 (some (.int (bz P7)), w4) ∧ CS w4 ∧ (¬ P7 → r = (some (.int (jI (-1))), w4)) ∧ (P7 → ∃ (P12 : Prop) (dP13 : Decidable P12) (w9 : xW), xCall 199 [.int (jI z2), .int (jI 0), .int (jI 2)] w4 (some (.int (bz P12)), w9) ∧ CS w9 ∧ (P12 → ∃ w14, xCall 251 [.ref 39, .int (jI z1), .int (jI z2)] w9 (none, w14) ∧ CS w14 ∧ xGo 256 35 [some (.ref 39), some (.int (jI z1)), some (.int (jI z2)), some (.int (jI 0)), some (.int (jI 2))] [] w14 r) ∧ (¬ P12 → r = (some (.int (jI (-1))), w9)))) : xGo 256 0 [some (.ref 39), some (.int (jI z1)), some (.int (jI z2)), none, none] [] w r := by
  refine g_aloadn (pc' := 1) d_256_0 rfl rfl ?_
  refine g_iconst (pc' := 2) d_256_1 rfl rfl ?_
  have hpf1 := (kf_39_0 hC)
  have hC3 : CS (pF w 39 0 (.int (jI 0))) := ks_39_0 hC
  have h := h _ rfl hC3
  refine gz_putf (pc' := 5) d_256_2 rfl st_256_118 ft_12_0 ff_12_0 rfl (Or.inl rfl) hpf1 ?_
  refine g_aloadn (pc' := 6) d_256_5 rfl rfl ?_
  refine g_iloadn (pc' := 7) d_256_6 rfl rfl ?_
  obtain ⟨P7, dP8, w4, hk5, hC6, h⟩ := h
  refine gz_callV (pc' := 10) d_256_7 rfl st_256_185 na_228 ml_228 rfl rfl rfl rm_256_228 rfl rfl ow_228 (ko_39 hC3) hk5 ?_
  refine gz_bt_eq (pc' := 13) (pt := 22) d_256_10 (by decide) rfl (fun c => ?_) (fun c => ?_)
  · replace h := h.1 c
    refine g_iconst (pc' := 23) d_256_22 rfl rfl ?_
    exact g_iret d_256_23 rt_256 h
  · replace h := h.2 c
    refine g_iloadn (pc' := 14) d_256_13 rfl rfl ?_
    refine g_iconst (pc' := 15) d_256_14 rfl rfl ?_
    refine g_iconst (pc' := 16) d_256_15 rfl rfl ?_
    obtain ⟨P12, dP13, w9, hk10, hC11, h⟩ := h
    refine g_callS (pc' := 19) d_256_16 rfl st_256_137 (Or.inl rfl) na_199 ml_199 rfl rfl rfl rm_256_199 rfl rfl hk10 ?_
    refine gz_bt_ne (pc' := 22) (pt := 24) d_256_19 (by decide) rfl (fun c => ?_) (fun c => ?_)
    · replace h := h.1 c
      refine g_aloadn (pc' := 25) d_256_24 rfl rfl ?_
      refine g_iloadn (pc' := 26) d_256_25 rfl rfl ?_
      refine g_iloadn (pc' := 27) d_256_26 rfl rfl ?_
      obtain ⟨w14, hk15, hC16, h⟩ := h
      refine gz_callV (pc' := 30) d_256_27 rfl st_256_271 na_251 ml_251 rfl rfl rfl rm_256_251 rfl rfl ow_251 (ko_39 hC11) hk15 ?_
      refine g_iconst (pc' := 31) d_256_30 rfl rfl ?_
      refine g_istoren (pc' := 32) (l' := [some (.ref 39), some (.int (jI z1)), some (.int (jI z2)), some (.int (jI 0)), none]) d_256_31 rfl ml_256 rfl rfl ?_
      refine g_iconst (pc' := 33) d_256_32 rfl rfl ?_
      refine g_istore (pc' := 35) (l' := [some (.ref 39), some (.int (jI z1)), some (.int (jI z2)), some (.int (jI 0)), some (.int (jI 2))]) d_256_33 rfl ml_256 rfl rfl ?_
      exact h
    · replace h := h.2 c
      refine g_iconst (pc' := 23) d_256_22 rfl rfl ?_
      exact g_iret d_256_23 rt_256 h
theorem Z_256 {z1 : Int} {z2 : Int} {w : xW} {r : Option Value × xW} (hC : CS w) (h : ∀ w2, w2 = pF w 39 0 (.int (jI 0)) → CS w2 → ∃ (P7 : Prop) (dP8 : Decidable P7) (w4 : xW), xCall 228 [.ref 39, .int (jI z1)] w2 (some (.int (bz P7)), w4) ∧ CS w4 ∧ (¬ P7 → r = (some (.int (jI (-1))), w4)) ∧ (P7 → ∃ (P12 : Prop) (dP13 : Decidable P12) (w9 : xW), xCall 199 [.int (jI z2), .int (jI 0), .int (jI 2)] w4 (some (.int (bz P12)), w9) ∧ CS w9 ∧ (P12 → ∃ w14, xCall 251 [.ref 39, .int (jI z1), .int (jI z2)] w9 (none, w14) ∧ CS w14 ∧ xGo 256 35 [some (.ref 39), some (.int (jI z1)), some (.int (jI z2)), some (.int (jI 0)), some (.int (jI 2))] [] w14 r) ∧ (¬ P12 → r = (some (.int (jI (-1))), w9)))) : xCall 256 [.ref 39, .int (jI z1), .int (jI z2)] w r := E_256 (Z_256_0 hC h)
theorem Z_256_35 {z1 : Int} {z2 : Int} {z3 : Int} {z4 : Int} {w : xW} {r : Option Value × xW} (hC : CS w) (h : in32 z4 ∧ in32 (z1 - 3) ∧ (z1 - 3 < z4 → r = (some (.int (jI z3)), w)) ∧ (z4 ≤ z1 - 3 → 0 ≤ z4 ∧ ∃ x4, rI w 51 (z4).toNat x4 ∧ in32 x4 ∧ (x4 ≠ 0 → xGo 256 35 [some (.ref 39), some (.int (jI z1)), some (.int (jI z2)), some (.int (jI (z3 + 0))), some (.int (jI (z4 + 2)))] [] w r) ∧ (x4 = 0 → xGo 256 35 [some (.ref 39), some (.int (jI z1)), some (.int (jI z2)), some (.int (jI (z3 + 1))), some (.int (jI (z4 + 2)))] [] w r))) : xGo 256 35 [some (.ref 39), some (.int (jI z1)), some (.int (jI z2)), some (.int (jI z3)), some (.int (jI z4))] [] w r := by
  refine g_iload (pc' := 37) d_256_35 rfl rfl ?_
  refine g_iloadn (pc' := 38) d_256_37 rfl rfl ?_
  refine g_iconst (pc' := 39) d_256_38 rfl rfl ?_
  refine gz_isub (pc' := 40) d_256_39 rfl ?_
  obtain ⟨hc1, h⟩ := h
  obtain ⟨hc2, h⟩ := h
  refine gz_ic_gt (pc' := 43) (pt := 67) d_256_40 (by decide) rfl hc1 hc2 (fun c => ?_) (fun c => ?_)
  · replace h := h.1 c
    refine g_iloadn (pc' := 68) d_256_67 rfl rfl ?_
    exact g_iret d_256_68 rt_256 h
  · replace h := h.2 c
    refine g_iloadn (pc' := 44) d_256_43 rfl rfl ?_
    refine g_aloadn (pc' := 45) d_256_44 rfl rfl ?_
    refine gz_getR (pc' := 48) d_256_45 rfl st_256_48 (kr_39_18 hC) ?_
    refine g_iload (pc' := 50) d_256_48 rfl rfl ?_
    obtain ⟨hc3, h⟩ := h
    obtain ⟨x4, hv5, h⟩ := h
    refine gz_iald (pc' := 51) d_256_50 rfl hc3 hv5 ?_
    obtain ⟨hc6, h⟩ := h
    refine gz_if_ne (pc' := 54) (pt := 58) d_256_51 (by decide) rfl hc6 (fun c => ?_) (fun c => ?_)
    · replace h := h.1 c
      refine g_iconst (pc' := 59) d_256_58 rfl rfl ?_
      refine gz_iadd (pc' := 60) d_256_59 rfl ?_
      refine g_istoren (pc' := 61) (l' := [some (.ref 39), some (.int (jI z1)), some (.int (jI z2)), some (.int (jI (z3 + 0))), some (.int (jI z4))]) d_256_60 rfl ml_256 rfl rfl ?_
      refine gz_iinc (pc' := 64) (l' := [some (.ref 39), some (.int (jI z1)), some (.int (jI z2)), some (.int (jI (z3 + 0))), some (.int (jI (z4 + 2)))]) d_256_61 rfl rfl ml_256 rfl rfl ?_
      refine g_goto (pt := 35) d_256_64 (by decide) ?_
      exact h
    · replace h := h.2 c
      refine g_iconst (pc' := 55) d_256_54 rfl rfl ?_
      refine g_goto (pt := 59) d_256_55 (by decide) ?_
      refine gz_iadd (pc' := 60) d_256_59 rfl ?_
      refine g_istoren (pc' := 61) (l' := [some (.ref 39), some (.int (jI z1)), some (.int (jI z2)), some (.int (jI (z3 + 1))), some (.int (jI z4))]) d_256_60 rfl ml_256 rfl rfl ?_
      refine gz_iinc (pc' := 64) (l' := [some (.ref 39), some (.int (jI z1)), some (.int (jI z2)), some (.int (jI (z3 + 1))), some (.int (jI (z4 + 2)))]) d_256_61 rfl rfl ml_256 rfl rfl ?_
      refine g_goto (pt := 35) d_256_64 (by decide) ?_
      exact h
theorem Z_257_0 {z1 : Int} {w : xW} {r : Option Value × xW} (hC : CS w) (h : ∀ w2, w2 = pF w 39 0 (.int (jI 0)) → CS w2 → ∃ (P7 : Prop) (dP8 : Decidable P7) (w4 : xW), xCall 228 [.ref 39, .int (jI z1)] w2 (some (.int (bz P7)), w4) ∧ CS w4 ∧ (¬ P7 → r = (some (.int (jI (-1))), w4)) ∧ (P7 → ∃ r12 w9, xCall 258 [.ref 39, .int (jI z1)] w4 (some (.int (jI r12)), w9) ∧ CS w9 ∧ r = (some (.int (jI r12)), w9))) : xGo 257 0 [some (.ref 39), some (.int (jI z1))] [] w r := by
  refine g_aloadn (pc' := 1) d_257_0 rfl rfl ?_
  refine g_iconst (pc' := 2) d_257_1 rfl rfl ?_
  have hpf1 := (kf_39_0 hC)
  have hC3 : CS (pF w 39 0 (.int (jI 0))) := ks_39_0 hC
  have h := h _ rfl hC3
  refine gz_putf (pc' := 5) d_257_2 rfl st_257_118 ft_12_0 ff_12_0 rfl (Or.inl rfl) hpf1 ?_
  refine g_aloadn (pc' := 6) d_257_5 rfl rfl ?_
  refine g_iloadn (pc' := 7) d_257_6 rfl rfl ?_
  obtain ⟨P7, dP8, w4, hk5, hC6, h⟩ := h
  refine gz_callV (pc' := 10) d_257_7 rfl st_257_185 na_228 ml_228 rfl rfl rfl rm_257_228 rfl rfl ow_228 (ko_39 hC3) hk5 ?_
  refine gz_bt_eq (pc' := 13) (pt := 21) d_257_10 (by decide) rfl (fun c => ?_) (fun c => ?_)
  · replace h := h.1 c
    refine g_iconst (pc' := 22) d_257_21 rfl rfl ?_
    exact g_iret d_257_22 rt_257 h
  · replace h := h.2 c
    refine g_aloadn (pc' := 14) d_257_13 rfl rfl ?_
    refine g_iloadn (pc' := 15) d_257_14 rfl rfl ?_
    obtain ⟨r12, w9, hk10, hC11, h⟩ := h
    refine gz_callV (pc' := 18) d_257_15 rfl st_257_274 na_258 ml_258 rfl rfl rfl rm_257_258 rfl rfl ow_258 (ko_39 hC6) hk10 ?_
    refine g_goto (pt := 22) d_257_18 (by decide) ?_
    exact g_iret d_257_22 rt_257 h
theorem Z_257 {z1 : Int} {w : xW} {r : Option Value × xW} (hC : CS w) (h : ∀ w2, w2 = pF w 39 0 (.int (jI 0)) → CS w2 → ∃ (P7 : Prop) (dP8 : Decidable P7) (w4 : xW), xCall 228 [.ref 39, .int (jI z1)] w2 (some (.int (bz P7)), w4) ∧ CS w4 ∧ (¬ P7 → r = (some (.int (jI (-1))), w4)) ∧ (P7 → ∃ r12 w9, xCall 258 [.ref 39, .int (jI z1)] w4 (some (.int (jI r12)), w9) ∧ CS w9 ∧ r = (some (.int (jI r12)), w9))) : xCall 257 [.ref 39, .int (jI z1)] w r := E_257 (Z_257_0 hC h)
theorem Z_258_0 {z1 : Int} {w : xW} {r : Option Value × xW} (hC : CS w) (h : ∃ w1, xCall 253 [.ref 39, .int (jI z1)] w (none, w1) ∧ CS w1 ∧ xGo 258 9 [some (.ref 39), some (.int (jI z1)), some (.int (jI 0)), some (.int (jI 2))] [] w1 r) : xGo 258 0 [some (.ref 39), some (.int (jI z1)), none, none] [] w r := by
  refine g_aloadn (pc' := 1) d_258_0 rfl rfl ?_
  refine g_iloadn (pc' := 2) d_258_1 rfl rfl ?_
  obtain ⟨w1, hk2, hC3, h⟩ := h
  refine gz_callV (pc' := 5) d_258_2 rfl st_258_268 na_253 ml_253 rfl rfl rfl rm_258_253 rfl rfl ow_253 (ko_39 hC) hk2 ?_
  refine g_iconst (pc' := 6) d_258_5 rfl rfl ?_
  refine g_istoren (pc' := 7) (l' := [some (.ref 39), some (.int (jI z1)), some (.int (jI 0)), none]) d_258_6 rfl ml_258 rfl rfl ?_
  refine g_iconst (pc' := 8) d_258_7 rfl rfl ?_
  refine g_istoren (pc' := 9) (l' := [some (.ref 39), some (.int (jI z1)), some (.int (jI 0)), some (.int (jI 2))]) d_258_8 rfl ml_258 rfl rfl ?_
  exact h
theorem Z_258 {z1 : Int} {w : xW} {r : Option Value × xW} (hC : CS w) (h : ∃ w1, xCall 253 [.ref 39, .int (jI z1)] w (none, w1) ∧ CS w1 ∧ xGo 258 9 [some (.ref 39), some (.int (jI z1)), some (.int (jI 0)), some (.int (jI 2))] [] w1 r) : xCall 258 [.ref 39, .int (jI z1)] w r := E_258 (Z_258_0 hC h)
theorem Z_258_9 {z1 : Int} {z2 : Int} {z3 : Int} {w : xW} {r : Option Value × xW} (hC : CS w) (h : in32 z3 ∧ in32 (z1 - 3) ∧ (z1 - 3 < z3 → r = (some (.int (jI z2)), w)) ∧ (z3 ≤ z1 - 3 → 0 ≤ z3 ∧ ∃ x4, rI w 49 (z3).toNat x4 ∧ in32 x4 ∧ (x4 ≠ 0 → xGo 258 9 [some (.ref 39), some (.int (jI z1)), some (.int (jI (z2 + 0))), some (.int (jI (z3 + 2)))] [] w r) ∧ (x4 = 0 → xGo 258 9 [some (.ref 39), some (.int (jI z1)), some (.int (jI (z2 + 1))), some (.int (jI (z3 + 2)))] [] w r))) : xGo 258 9 [some (.ref 39), some (.int (jI z1)), some (.int (jI z2)), some (.int (jI z3))] [] w r := by
  refine g_iloadn (pc' := 10) d_258_9 rfl rfl ?_
  refine g_iloadn (pc' := 11) d_258_10 rfl rfl ?_
  refine g_iconst (pc' := 12) d_258_11 rfl rfl ?_
  refine gz_isub (pc' := 13) d_258_12 rfl ?_
  obtain ⟨hc1, h⟩ := h
  obtain ⟨hc2, h⟩ := h
  refine gz_ic_gt (pc' := 16) (pt := 39) d_258_13 (by decide) rfl hc1 hc2 (fun c => ?_) (fun c => ?_)
  · replace h := h.1 c
    refine g_iloadn (pc' := 40) d_258_39 rfl rfl ?_
    exact g_iret d_258_40 rt_258 h
  · replace h := h.2 c
    refine g_iloadn (pc' := 17) d_258_16 rfl rfl ?_
    refine g_aloadn (pc' := 18) d_258_17 rfl rfl ?_
    refine gz_getR (pc' := 21) d_258_18 rfl st_258_42 (kr_39_16 hC) ?_
    refine g_iloadn (pc' := 22) d_258_21 rfl rfl ?_
    obtain ⟨hc3, h⟩ := h
    obtain ⟨x4, hv5, h⟩ := h
    refine gz_iald (pc' := 23) d_258_22 rfl hc3 hv5 ?_
    obtain ⟨hc6, h⟩ := h
    refine gz_if_ne (pc' := 26) (pt := 30) d_258_23 (by decide) rfl hc6 (fun c => ?_) (fun c => ?_)
    · replace h := h.1 c
      refine g_iconst (pc' := 31) d_258_30 rfl rfl ?_
      refine gz_iadd (pc' := 32) d_258_31 rfl ?_
      refine g_istoren (pc' := 33) (l' := [some (.ref 39), some (.int (jI z1)), some (.int (jI (z2 + 0))), some (.int (jI z3))]) d_258_32 rfl ml_258 rfl rfl ?_
      refine gz_iinc (pc' := 36) (l' := [some (.ref 39), some (.int (jI z1)), some (.int (jI (z2 + 0))), some (.int (jI (z3 + 2)))]) d_258_33 rfl rfl ml_258 rfl rfl ?_
      refine g_goto (pt := 9) d_258_36 (by decide) ?_
      exact h
    · replace h := h.2 c
      refine g_iconst (pc' := 27) d_258_26 rfl rfl ?_
      refine g_goto (pt := 31) d_258_27 (by decide) ?_
      refine gz_iadd (pc' := 32) d_258_31 rfl ?_
      refine g_istoren (pc' := 33) (l' := [some (.ref 39), some (.int (jI z1)), some (.int (jI (z2 + 1))), some (.int (jI z3))]) d_258_32 rfl ml_258 rfl rfl ?_
      refine gz_iinc (pc' := 36) (l' := [some (.ref 39), some (.int (jI z1)), some (.int (jI (z2 + 1))), some (.int (jI (z3 + 2)))]) d_258_33 rfl rfl ml_258 rfl rfl ?_
      refine g_goto (pt := 9) d_258_36 (by decide) ?_
      exact h
theorem Z_259_0 {z1 : Int} {z2 : Int} {w : xW} {r : Option Value × xW} (hC : CS w) (h : ∀ w2, w2 = pF w 39 0 (.int (jI 0)) → CS w2 → in32 z1 ∧ (z1 < 0 → r = (some (.int (jI (-1))), w2)) ∧ (0 ≤ z1 → ∃ (P8 : Prop) (dP9 : Decidable P8) (w5 : xW), xCall 199 [.int (jI z2), .int (jI 0), .int (jI 1)] w2 (some (.int (bz P8)), w5) ∧ CS w5 ∧ (P8 → xGo 259 25 [some (.ref 39), some (.int (jI z1)), some (.int (jI z2)), some (.int (jI z1)), some (.int (jI 1)), none] [] w5 r) ∧ (¬ P8 → r = (some (.int (jI (-1))), w5)))) : xGo 259 0 [some (.ref 39), some (.int (jI z1)), some (.int (jI z2)), none, none, none] [] w r := by
  refine g_aloadn (pc' := 1) d_259_0 rfl rfl ?_
  refine g_iconst (pc' := 2) d_259_1 rfl rfl ?_
  have hpf1 := (kf_39_0 hC)
  have hC3 : CS (pF w 39 0 (.int (jI 0))) := ks_39_0 hC
  have h := h _ rfl hC3
  refine gz_putf (pc' := 5) d_259_2 rfl st_259_118 ft_12_0 ff_12_0 rfl (Or.inl rfl) hpf1 ?_
  refine g_iloadn (pc' := 6) d_259_5 rfl rfl ?_
  obtain ⟨hc4, h⟩ := h
  refine gz_if_lt (pc' := 9) (pt := 18) d_259_6 (by decide) rfl hc4 (fun c => ?_) (fun c => ?_)
  · replace h := h.1 c
    refine g_iconst (pc' := 19) d_259_18 rfl rfl ?_
    exact g_iret d_259_19 rt_259 h
  · replace h := h.2 c
    refine g_iloadn (pc' := 10) d_259_9 rfl rfl ?_
    refine g_iconst (pc' := 11) d_259_10 rfl rfl ?_
    refine g_iconst (pc' := 12) d_259_11 rfl rfl ?_
    obtain ⟨P8, dP9, w5, hk6, hC7, h⟩ := h
    refine g_callS (pc' := 15) d_259_12 rfl st_259_137 (Or.inl rfl) na_199 ml_199 rfl rfl rfl rm_259_199 rfl rfl hk6 ?_
    refine gz_bt_ne (pc' := 18) (pt := 20) d_259_15 (by decide) rfl (fun c => ?_) (fun c => ?_)
    · replace h := h.1 c
      refine g_iloadn (pc' := 21) d_259_20 rfl rfl ?_
      refine g_istoren (pc' := 22) (l' := [some (.ref 39), some (.int (jI z1)), some (.int (jI z2)), some (.int (jI z1)), none, none]) d_259_21 rfl ml_259 rfl rfl ?_
      refine g_iconst (pc' := 23) d_259_22 rfl rfl ?_
      refine g_istore (pc' := 25) (l' := [some (.ref 39), some (.int (jI z1)), some (.int (jI z2)), some (.int (jI z1)), some (.int (jI 1)), none]) d_259_23 rfl ml_259 rfl rfl ?_
      exact h
    · replace h := h.2 c
      refine g_iconst (pc' := 19) d_259_18 rfl rfl ?_
      exact g_iret d_259_19 rt_259 h
theorem Z_259 {z1 : Int} {z2 : Int} {w : xW} {r : Option Value × xW} (hC : CS w) (h : ∀ w2, w2 = pF w 39 0 (.int (jI 0)) → CS w2 → in32 z1 ∧ (z1 < 0 → r = (some (.int (jI (-1))), w2)) ∧ (0 ≤ z1 → ∃ (P8 : Prop) (dP9 : Decidable P8) (w5 : xW), xCall 199 [.int (jI z2), .int (jI 0), .int (jI 1)] w2 (some (.int (bz P8)), w5) ∧ CS w5 ∧ (P8 → xGo 259 25 [some (.ref 39), some (.int (jI z1)), some (.int (jI z2)), some (.int (jI z1)), some (.int (jI 1)), none] [] w5 r) ∧ (¬ P8 → r = (some (.int (jI (-1))), w5)))) : xCall 259 [.ref 39, .int (jI z1), .int (jI z2)] w r := E_259 (Z_259_0 hC h)
theorem Z_259_25 {z1 : Int} {z2 : Int} {z3 : Int} {z4 : Int} {w : xW} {r : Option Value × xW} (hC : CS w) (h : ∃ x1, fI w 39 12 7 x1 ∧ in32 z4 ∧ in32 x1 ∧ (x1 ≤ z4 → r = (some (.int (jI (-2))), w)) ∧ (z4 < x1 → 0 ≤ z4 ∧ ∃ x6, rI w 44 (z4).toNat x6 ∧ ∃ w8, xCall 253 [.ref 39, .int (jI x6)] w (none, w8) ∧ CS w8 ∧ xGo 259 48 [some (.ref 39), some (.int (jI z1)), some (.int (jI z2)), some (.int (jI z3)), some (.int (jI z4)), some (.int (jI 2))] [] w8 r)) : xGo 259 25 [some (.ref 39), some (.int (jI z1)), some (.int (jI z2)), some (.int (jI z3)), some (.int (jI z4)), none] [] w r := by
  refine g_iload (pc' := 27) d_259_25 rfl rfl ?_
  refine g_aloadn (pc' := 28) d_259_27 rfl rfl ?_
  obtain ⟨x1, hv2, h⟩ := h
  refine gz_getI (pc' := 31) d_259_28 rfl st_259_96 hv2 ?_
  obtain ⟨hc3, h⟩ := h
  obtain ⟨hc4, h⟩ := h
  refine gz_ic_ge (pc' := 34) (pt := 111) d_259_31 (by decide) rfl hc3 hc4 (fun c => ?_) (fun c => ?_)
  · replace h := h.1 c
    refine g_bipush (pc' := 113) (v := jI (-2)) d_259_111 rfl (by decide) ?_
    exact g_iret d_259_113 rt_259 h
  · replace h := h.2 c
    refine g_aloadn (pc' := 35) d_259_34 rfl rfl ?_
    refine g_aloadn (pc' := 36) d_259_35 rfl rfl ?_
    refine gz_getR (pc' := 39) d_259_36 rfl st_259_27 (kr_39_6 hC) ?_
    refine g_iload (pc' := 41) d_259_39 rfl rfl ?_
    obtain ⟨hc5, h⟩ := h
    obtain ⟨x6, hv7, h⟩ := h
    refine gz_iald (pc' := 42) d_259_41 rfl hc5 hv7 ?_
    obtain ⟨w8, hk9, hC10, h⟩ := h
    refine gz_callV (pc' := 45) d_259_42 rfl st_259_268 na_253 ml_253 rfl rfl rfl rm_259_253 rfl rfl ow_253 (ko_39 hC) hk9 ?_
    refine g_iconst (pc' := 46) d_259_45 rfl rfl ?_
    refine g_istore (pc' := 48) (l' := [some (.ref 39), some (.int (jI z1)), some (.int (jI z2)), some (.int (jI z3)), some (.int (jI z4)), some (.int (jI 2))]) d_259_46 rfl ml_259 rfl rfl ?_
    exact h
theorem Z_259_48 {z1 : Int} {z2 : Int} {z3 : Int} {z4 : Int} {z5 : Int} {w : xW} {r : Option Value × xW} (hC : CS w) (h : 0 ≤ z4 ∧ ∃ x2, rI w 44 (z4).toNat x2 ∧ in32 z5 ∧ in32 (x2 - 3) ∧ (x2 - 3 < z5 → xGo 259 25 [some (.ref 39), some (.int (jI z1)), some (.int (jI z2)), some (.int (jI z3)), some (.int (jI (z4 + 1))), none] [] w r) ∧ (z5 ≤ x2 - 3 → 0 ≤ z5 ∧ ∃ x7, rI w 49 (z5).toNat x7 ∧ in32 x7 ∧ (x7 = 0 → in32 z3 ∧ (z3 ≠ 0 → xGo 259 48 [some (.ref 39), some (.int (jI z1)), some (.int (jI z2)), some (.int (jI (z3 - 1))), some (.int (jI z4)), some (.int (jI (z5 + 2)))] [] w r) ∧ (z3 = 0 → in32 z2 ∧ (z2 ≠ 0 → r = (some (.int (jI z5)), w)) ∧ (z2 = 0 → 0 ≤ z4 ∧ ∃ x13, rI w 44 (z4).toNat x13 ∧ r = (some (.int (jI x13)), w)))) ∧ (x7 ≠ 0 → xGo 259 48 [some (.ref 39), some (.int (jI z1)), some (.int (jI z2)), some (.int (jI z3)), some (.int (jI z4)), some (.int (jI (z5 + 2)))] [] w r))) : xGo 259 48 [some (.ref 39), some (.int (jI z1)), some (.int (jI z2)), some (.int (jI z3)), some (.int (jI z4)), some (.int (jI z5))] [] w r := by
  refine g_iload (pc' := 50) d_259_48 rfl rfl ?_
  refine g_aloadn (pc' := 51) d_259_50 rfl rfl ?_
  refine gz_getR (pc' := 54) d_259_51 rfl st_259_27 (kr_39_6 hC) ?_
  refine g_iload (pc' := 56) d_259_54 rfl rfl ?_
  obtain ⟨hc1, h⟩ := h
  obtain ⟨x2, hv3, h⟩ := h
  refine gz_iald (pc' := 57) d_259_56 rfl hc1 hv3 ?_
  refine g_iconst (pc' := 58) d_259_57 rfl rfl ?_
  refine gz_isub (pc' := 59) d_259_58 rfl ?_
  obtain ⟨hc4, h⟩ := h
  obtain ⟨hc5, h⟩ := h
  refine gz_ic_gt (pc' := 62) (pt := 105) d_259_59 (by decide) rfl hc4 hc5 (fun c => ?_) (fun c => ?_)
  · replace h := h.1 c
    refine gz_iinc (pc' := 108) (l' := [some (.ref 39), some (.int (jI z1)), some (.int (jI z2)), some (.int (jI z3)), some (.int (jI (z4 + 1))), some (.int (jI z5))]) d_259_105 rfl rfl ml_259 rfl rfl ?_
    refine g_goto (pt := 25) d_259_108 (by decide) ?_
    exact xGo.more (xle_s (xle_s (xle_s (xle_s (xle_s (xle_n xle_0)))))) h
  · replace h := h.2 c
    refine g_aloadn (pc' := 63) d_259_62 rfl rfl ?_
    refine gz_getR (pc' := 66) d_259_63 rfl st_259_42 (kr_39_16 hC) ?_
    refine g_iload (pc' := 68) d_259_66 rfl rfl ?_
    obtain ⟨hc6, h⟩ := h
    obtain ⟨x7, hv8, h⟩ := h
    refine gz_iald (pc' := 69) d_259_68 rfl hc6 hv8 ?_
    obtain ⟨hc9, h⟩ := h
    refine gz_if_eq (pc' := 72) (pt := 75) d_259_69 (by decide) rfl hc9 (fun c => ?_) (fun c => ?_)
    · replace h := h.1 c
      refine g_iloadn (pc' := 76) d_259_75 rfl rfl ?_
      obtain ⟨hc10, h⟩ := h
      refine gz_if_ne (pc' := 79) (pt := 96) d_259_76 (by decide) rfl hc10 (fun c => ?_) (fun c => ?_)
      · replace h := h.1 c
        refine gz_idec (pc' := 99) (c := 1) (l' := [some (.ref 39), some (.int (jI z1)), some (.int (jI z2)), some (.int (jI (z3 - 1))), some (.int (jI z4)), some (.int (jI z5))]) d_259_96 rfl rfl ml_259 rfl rfl ?_
        refine gz_iinc (pc' := 102) (l' := [some (.ref 39), some (.int (jI z1)), some (.int (jI z2)), some (.int (jI (z3 - 1))), some (.int (jI z4)), some (.int (jI (z5 + 2)))]) d_259_99 rfl rfl ml_259 rfl rfl ?_
        refine g_goto (pt := 48) d_259_102 (by decide) ?_
        exact h
      · replace h := h.2 c
        refine g_iloadn (pc' := 80) d_259_79 rfl rfl ?_
        obtain ⟨hc11, h⟩ := h
        refine gz_if_ne (pc' := 83) (pt := 93) d_259_80 (by decide) rfl hc11 (fun c => ?_) (fun c => ?_)
        · replace h := h.1 c
          refine g_iload (pc' := 95) d_259_93 rfl rfl ?_
          exact g_iret d_259_95 rt_259 h
        · replace h := h.2 c
          refine g_aloadn (pc' := 84) d_259_83 rfl rfl ?_
          refine gz_getR (pc' := 87) d_259_84 rfl st_259_27 (kr_39_6 hC) ?_
          refine g_iload (pc' := 89) d_259_87 rfl rfl ?_
          obtain ⟨hc12, h⟩ := h
          obtain ⟨x13, hv14, h⟩ := h
          refine gz_iald (pc' := 90) d_259_89 rfl hc12 hv14 ?_
          refine g_goto (pt := 95) d_259_90 (by decide) ?_
          exact g_iret d_259_95 rt_259 h
    · replace h := h.2 c
      refine g_goto (pt := 99) d_259_72 (by decide) ?_
      refine gz_iinc (pc' := 102) (l' := [some (.ref 39), some (.int (jI z1)), some (.int (jI z2)), some (.int (jI z3)), some (.int (jI z4)), some (.int (jI (z5 + 2)))]) d_259_99 rfl rfl ml_259 rfl rfl ?_
      refine g_goto (pt := 48) d_259_102 (by decide) ?_
      exact h
theorem Z_260_0 {z1 : Int} {w : xW} {r : Option Value × xW} (hC : CS w) (h : ∀ w2, w2 = pF w 39 0 (.int (jI 0)) → CS w2 → in32 z1 ∧ (0 ≤ z1 → ∃ r8 w5, xCall 259 [.ref 39, .int (jI z1), .int (jI 0)] w2 (some (.int (jI r8)), w5) ∧ CS w5 ∧ in32 r8 ∧ (0 ≤ r8 → ∃ r13 w10, xCall 259 [.ref 39, .int (jI z1), .int (jI 1)] w5 (some (.int (jI r13)), w10) ∧ CS w10 ∧ xGo 260 35 [some (.ref 39), some (.int (jI z1)), some (.int (jI r8)), some (.int (jI r13)), some (.int (jI 0))] [] w10 r) ∧ (r8 < 0 → r = (some (.int (jI (-2))), w5))) ∧ (z1 < 0 → r = (some (.int (jI (-1))), w2))) : xGo 260 0 [some (.ref 39), some (.int (jI z1)), none, none, none] [] w r := by
  refine g_aloadn (pc' := 1) d_260_0 rfl rfl ?_
  refine g_iconst (pc' := 2) d_260_1 rfl rfl ?_
  have hpf1 := (kf_39_0 hC)
  have hC3 : CS (pF w 39 0 (.int (jI 0))) := ks_39_0 hC
  have h := h _ rfl hC3
  refine gz_putf (pc' := 5) d_260_2 rfl st_260_118 ft_12_0 ff_12_0 rfl (Or.inl rfl) hpf1 ?_
  refine g_iloadn (pc' := 6) d_260_5 rfl rfl ?_
  obtain ⟨hc4, h⟩ := h
  refine gz_if_ge (pc' := 9) (pt := 11) d_260_6 (by decide) rfl hc4 (fun c => ?_) (fun c => ?_)
  · replace h := h.1 c
    refine g_aloadn (pc' := 12) d_260_11 rfl rfl ?_
    refine g_iloadn (pc' := 13) d_260_12 rfl rfl ?_
    refine g_iconst (pc' := 14) d_260_13 rfl rfl ?_
    obtain ⟨r8, w5, hk6, hC7, h⟩ := h
    refine gz_callV (pc' := 17) d_260_14 rfl st_260_277 na_259 ml_259 rfl rfl rfl rm_260_259 rfl rfl ow_259 (ko_39 hC3) hk6 ?_
    refine g_istoren (pc' := 18) (l' := [some (.ref 39), some (.int (jI z1)), some (.int (jI r8)), none, none]) d_260_17 rfl ml_260 rfl rfl ?_
    refine g_iloadn (pc' := 19) d_260_18 rfl rfl ?_
    obtain ⟨hc9, h⟩ := h
    refine gz_if_ge (pc' := 22) (pt := 25) d_260_19 (by decide) rfl hc9 (fun c => ?_) (fun c => ?_)
    · replace h := h.1 c
      refine g_aloadn (pc' := 26) d_260_25 rfl rfl ?_
      refine g_iloadn (pc' := 27) d_260_26 rfl rfl ?_
      refine g_iconst (pc' := 28) d_260_27 rfl rfl ?_
      obtain ⟨r13, w10, hk11, hC12, h⟩ := h
      refine gz_callV (pc' := 31) d_260_28 rfl st_260_277 na_259 ml_259 rfl rfl rfl rm_260_259 rfl rfl ow_259 (ko_39 hC7) hk11 ?_
      refine g_istoren (pc' := 32) (l' := [some (.ref 39), some (.int (jI z1)), some (.int (jI r8)), some (.int (jI r13)), none]) d_260_31 rfl ml_260 rfl rfl ?_
      refine g_iconst (pc' := 33) d_260_32 rfl rfl ?_
      refine g_istore (pc' := 35) (l' := [some (.ref 39), some (.int (jI z1)), some (.int (jI r8)), some (.int (jI r13)), some (.int (jI 0))]) d_260_33 rfl ml_260 rfl rfl ?_
      exact h
    · replace h := h.2 c
      refine g_bipush (pc' := 24) (v := jI (-2)) d_260_22 rfl (by decide) ?_
      exact g_iret d_260_24 rt_260 h
  · replace h := h.2 c
    refine g_iconst (pc' := 10) d_260_9 rfl rfl ?_
    exact g_iret d_260_10 rt_260 h
theorem Z_260 {z1 : Int} {w : xW} {r : Option Value × xW} (hC : CS w) (h : ∀ w2, w2 = pF w 39 0 (.int (jI 0)) → CS w2 → in32 z1 ∧ (0 ≤ z1 → ∃ r8 w5, xCall 259 [.ref 39, .int (jI z1), .int (jI 0)] w2 (some (.int (jI r8)), w5) ∧ CS w5 ∧ in32 r8 ∧ (0 ≤ r8 → ∃ r13 w10, xCall 259 [.ref 39, .int (jI z1), .int (jI 1)] w5 (some (.int (jI r13)), w10) ∧ CS w10 ∧ xGo 260 35 [some (.ref 39), some (.int (jI z1)), some (.int (jI r8)), some (.int (jI r13)), some (.int (jI 0))] [] w10 r) ∧ (r8 < 0 → r = (some (.int (jI (-2))), w5))) ∧ (z1 < 0 → r = (some (.int (jI (-1))), w2))) : xCall 260 [.ref 39, .int (jI z1)] w r := E_260 (Z_260_0 hC h)
theorem Z_260_35 {z1 : Int} {z2 : Int} {z3 : Int} {z4 : Int} {w : xW} {r : Option Value × xW} (hC : CS w) (h : in32 z4 ∧ in32 z2 ∧ (z2 ≤ z4 → r = (some (.int (jI (-3))), w)) ∧ (z4 < z2 → ∃ (P6 : Prop) (dP7 : Decidable P6) (w3 : xW), xCall 261 [.int (jI (z3 + (z4 * (z2 - 1)))), .int (jI z2)] w (some (.int (bz P6)), w3) ∧ CS w3 ∧ (¬ P6 → xGo 260 35 [some (.ref 39), some (.int (jI z1)), some (.int (jI z2)), some (.int (jI z3)), some (.int (jI (z4 + 1)))] [] w3 r) ∧ (P6 → r = (some (.int (jI (z3 + (z4 * (z2 - 1))))), w3)))) : xGo 260 35 [some (.ref 39), some (.int (jI z1)), some (.int (jI z2)), some (.int (jI z3)), some (.int (jI z4))] [] w r := by
  refine g_iload (pc' := 37) d_260_35 rfl rfl ?_
  refine g_iloadn (pc' := 38) d_260_37 rfl rfl ?_
  obtain ⟨hc1, h⟩ := h
  obtain ⟨hc2, h⟩ := h
  refine gz_ic_ge (pc' := 41) (pt := 71) d_260_38 (by decide) rfl hc1 hc2 (fun c => ?_) (fun c => ?_)
  · replace h := h.1 c
    refine g_bipush (pc' := 73) (v := jI (-3)) d_260_71 rfl (by decide) ?_
    exact g_iret d_260_73 rt_260 h
  · replace h := h.2 c
    refine g_iloadn (pc' := 42) d_260_41 rfl rfl ?_
    refine g_iload (pc' := 44) d_260_42 rfl rfl ?_
    refine g_iloadn (pc' := 45) d_260_44 rfl rfl ?_
    refine g_iconst (pc' := 46) d_260_45 rfl rfl ?_
    refine gz_isub (pc' := 47) d_260_46 rfl ?_
    refine gz_imul (pc' := 48) d_260_47 rfl ?_
    refine gz_iadd (pc' := 49) d_260_48 rfl ?_
    refine g_iloadn (pc' := 50) d_260_49 rfl rfl ?_
    obtain ⟨P6, dP7, w3, hk4, hC5, h⟩ := h
    refine g_callS (pc' := 53) d_260_50 rfl st_260_280 (Or.inl rfl) na_261 ml_261 rfl rfl rfl rm_260_261 rfl rfl hk4 ?_
    refine gz_bt_eq (pc' := 56) (pt := 65) d_260_53 (by decide) rfl (fun c => ?_) (fun c => ?_)
    · replace h := h.1 c
      refine gz_iinc (pc' := 68) (l' := [some (.ref 39), some (.int (jI z1)), some (.int (jI z2)), some (.int (jI z3)), some (.int (jI (z4 + 1)))]) d_260_65 rfl rfl ml_260 rfl rfl ?_
      refine g_goto (pt := 35) d_260_68 (by decide) ?_
      exact h
    · replace h := h.2 c
      refine g_iloadn (pc' := 57) d_260_56 rfl rfl ?_
      refine g_iload (pc' := 59) d_260_57 rfl rfl ?_
      refine g_iloadn (pc' := 60) d_260_59 rfl rfl ?_
      refine g_iconst (pc' := 61) d_260_60 rfl rfl ?_
      refine gz_isub (pc' := 62) d_260_61 rfl ?_
      refine gz_imul (pc' := 63) d_260_62 rfl ?_
      refine gz_iadd (pc' := 64) d_260_63 rfl ?_
      exact g_iret d_260_64 rt_260 h
theorem Z_261_0 {z0 : Int} {z1 : Int} {w : xW} {r : Option Value × xW} (hC : CS w) (h : in32 z1 ∧ in32 z0 ∧ z1 ≠ 0 ∧ ∃ y4, Int.tmod z0 z1 = y4 ∧ in32 y4 ∧ (y4 ≠ 0 → ∃ r10 w7, xCall 255 [.int (jI z0), .int (jI z1), .long (jL ((z1 * z1) * z1))] w (some (.long (jL r10)), w7) ∧ CS w7 ∧ in64 r10 ∧ in64 (z1 * z1) ∧ z1 * z1 ≠ 0 ∧ ∃ y14, Int.tmod r10 (z1 * z1) = y14 ∧ in64 y14 ∧ (y14 ≠ 0 → r = (some (.int (jI 0)), w7)) ∧ (y14 = 0 → r = (some (.int (jI 1)), w7))) ∧ (y4 = 0 → ∃ r20 w17, xCall 255 [.int (jI z0), .int (jI z1), .long (jL (((z1 * z1) * z1) * z1))] w (some (.long (jL r20)), w17) ∧ CS w17 ∧ in64 r20 ∧ in64 ((z1 * z1) * z1) ∧ (z1 * z1) * z1 ≠ 0 ∧ ∃ y24, Int.tmod r20 ((z1 * z1) * z1) = y24 ∧ in64 y24 ∧ (y24 ≠ 0 → r = (some (.int (jI 0)), w17)) ∧ (y24 = 0 → r = (some (.int (jI 1)), w17)))) : xGo 261 0 [some (.int (jI z0)), some (.int (jI z1)), none, none] [] w r := by
  refine g_iloadn (pc' := 1) d_261_0 rfl rfl ?_
  obtain ⟨hc1, h⟩ := h
  refine gz_i2l (pc' := 2) d_261_1 rfl hc1 ?_
  refine g_iloadn (pc' := 3) d_261_2 rfl rfl ?_
  refine gz_i2l (pc' := 4) d_261_3 rfl hc1 ?_
  refine gz_lmul (pc' := 5) d_261_4 rfl ?_
  refine g_iloadn (pc' := 6) d_261_5 rfl rfl ?_
  refine gz_i2l (pc' := 7) d_261_6 rfl hc1 ?_
  refine gz_lmul (pc' := 8) d_261_7 rfl ?_
  refine g_lstoren (pc' := 9) (l' := [some (.int (jI z0)), some (.int (jI z1)), some (.long (jL ((z1 * z1) * z1))), none]) d_261_8 rfl ml_261 rfl rfl ?_
  refine g_iloadn (pc' := 10) d_261_9 rfl rfl ?_
  refine g_iloadn (pc' := 11) d_261_10 rfl rfl ?_
  obtain ⟨hc2, h⟩ := h
  obtain ⟨hc3, h⟩ := h
  obtain ⟨y4, hz5, h⟩ := h
  refine gz_irem (pc' := 12) d_261_11 rfl hc2 hc1 hc3 hz5 ?_
  obtain ⟨hc6, h⟩ := h
  refine gz_if_ne (pc' := 15) (pt := 39) d_261_12 (by decide) rfl hc6 (fun c => ?_) (fun c => ?_)
  · replace h := h.1 c
    refine g_iloadn (pc' := 40) d_261_39 rfl rfl ?_
    refine g_iloadn (pc' := 41) d_261_40 rfl rfl ?_
    refine g_lloadn (pc' := 42) d_261_41 rfl rfl ?_
    obtain ⟨r10, w7, hk8, hC9, h⟩ := h
    refine g_callS (pc' := 45) d_261_42 rfl st_261_264 (Or.inl rfl) na_255 ml_255 rfl rfl rfl rm_261_255 rfl rfl hk8 ?_
    refine g_iloadn (pc' := 46) d_261_45 rfl rfl ?_
    refine gz_i2l (pc' := 47) d_261_46 rfl hc1 ?_
    refine g_iloadn (pc' := 48) d_261_47 rfl rfl ?_
    refine gz_i2l (pc' := 49) d_261_48 rfl hc1 ?_
    refine gz_lmul (pc' := 50) d_261_49 rfl ?_
    obtain ⟨hc11, h⟩ := h
    obtain ⟨hc12, h⟩ := h
    obtain ⟨hc13, h⟩ := h
    obtain ⟨y14, hz15, h⟩ := h
    refine gz_lrem (pc' := 51) d_261_50 rfl hc11 hc12 hc13 hz15 ?_
    refine g_lconst (pc' := 52) (v := jL 0) d_261_51 rfl cl_0 ?_
    obtain ⟨hc16, h⟩ := h
    refine gz_lc_ne (pc' := 56) (pm := 53) (pt := 60) d_261_52 rfl d_261_53 (by decide) rfl hc16 (s64 (z := 0)) (fun c => ?_) (fun c => ?_)
    · replace h := h.1 c
      refine g_iconst (pc' := 61) d_261_60 rfl rfl ?_
      exact g_zret d_261_61 rt_261 (Or.inl rfl) h
    · replace h := h.2 c
      refine g_iconst (pc' := 57) d_261_56 rfl rfl ?_
      refine g_goto (pt := 61) d_261_57 (by decide) ?_
      exact g_zret d_261_61 rt_261 (Or.inr rfl) h
  · replace h := h.2 c
    refine g_iloadn (pc' := 16) d_261_15 rfl rfl ?_
    refine g_iloadn (pc' := 17) d_261_16 rfl rfl ?_
    refine g_lloadn (pc' := 18) d_261_17 rfl rfl ?_
    refine g_iloadn (pc' := 19) d_261_18 rfl rfl ?_
    refine gz_i2l (pc' := 20) d_261_19 rfl hc1 ?_
    refine gz_lmul (pc' := 21) d_261_20 rfl ?_
    obtain ⟨r20, w17, hk18, hC19, h⟩ := h
    refine g_callS (pc' := 24) d_261_21 rfl st_261_264 (Or.inl rfl) na_255 ml_255 rfl rfl rfl rm_261_255 rfl rfl hk18 ?_
    refine g_lloadn (pc' := 25) d_261_24 rfl rfl ?_
    obtain ⟨hc21, h⟩ := h
    obtain ⟨hc22, h⟩ := h
    obtain ⟨hc23, h⟩ := h
    obtain ⟨y24, hz25, h⟩ := h
    refine gz_lrem (pc' := 26) d_261_25 rfl hc21 hc22 hc23 hz25 ?_
    refine g_lconst (pc' := 27) (v := jL 0) d_261_26 rfl cl_0 ?_
    obtain ⟨hc26, h⟩ := h
    refine gz_lc_ne (pc' := 31) (pm := 28) (pt := 35) d_261_27 rfl d_261_28 (by decide) rfl hc26 (s64 (z := 0)) (fun c => ?_) (fun c => ?_)
    · replace h := h.1 c
      refine g_iconst (pc' := 36) d_261_35 rfl rfl ?_
      refine g_goto (pt := 61) d_261_36 (by decide) ?_
      exact g_zret d_261_61 rt_261 (Or.inl rfl) h
    · replace h := h.2 c
      refine g_iconst (pc' := 32) d_261_31 rfl rfl ?_
      refine g_goto (pt := 61) d_261_32 (by decide) ?_
      exact g_zret d_261_61 rt_261 (Or.inr rfl) h
theorem Z_261 {z0 : Int} {z1 : Int} {w : xW} {r : Option Value × xW} (hC : CS w) (h : in32 z1 ∧ in32 z0 ∧ z1 ≠ 0 ∧ ∃ y4, Int.tmod z0 z1 = y4 ∧ in32 y4 ∧ (y4 ≠ 0 → ∃ r10 w7, xCall 255 [.int (jI z0), .int (jI z1), .long (jL ((z1 * z1) * z1))] w (some (.long (jL r10)), w7) ∧ CS w7 ∧ in64 r10 ∧ in64 (z1 * z1) ∧ z1 * z1 ≠ 0 ∧ ∃ y14, Int.tmod r10 (z1 * z1) = y14 ∧ in64 y14 ∧ (y14 ≠ 0 → r = (some (.int (jI 0)), w7)) ∧ (y14 = 0 → r = (some (.int (jI 1)), w7))) ∧ (y4 = 0 → ∃ r20 w17, xCall 255 [.int (jI z0), .int (jI z1), .long (jL (((z1 * z1) * z1) * z1))] w (some (.long (jL r20)), w17) ∧ CS w17 ∧ in64 r20 ∧ in64 ((z1 * z1) * z1) ∧ (z1 * z1) * z1 ≠ 0 ∧ ∃ y24, Int.tmod r20 ((z1 * z1) * z1) = y24 ∧ in64 y24 ∧ (y24 ≠ 0 → r = (some (.int (jI 0)), w17)) ∧ (y24 = 0 → r = (some (.int (jI 1)), w17)))) : xCall 261 [.int (jI z0), .int (jI z1)] w r := E_261 (Z_261_0 hC h)
theorem Z_262_0 {z1 : Int} {z2 : Int} {w : xW} {r : Option Value × xW} (hC : CS w) (h : ∀ w2, w2 = pF w 39 0 (.int (jI 0)) → CS w2 → ∃ (P7 : Prop) (dP8 : Decidable P7) (w4 : xW), xCall 199 [.int (jI z1), .int (jI 2), .int (jI 1000000)] w2 (some (.int (bz P7)), w4) ∧ CS w4 ∧ (¬ P7 → r = (some (.int (jI (-1))), w4)) ∧ (P7 → in32 z1 ∧ ∃ y10, Int.tmod z1 2 = y10 ∧ in32 y10 ∧ (y10 = 1 → r = (some (.int (jI (-1))), w4)) ∧ (y10 ≠ 1 → ∃ (P16 : Prop) (dP17 : Decidable P16) (w13 : xW), xCall 228 [.ref 39, .int (jI z2)] w4 (some (.int (bz P16)), w13) ∧ CS w13 ∧ (P16 → in32 (z2 - 1) ∧ z2 - 1 ≠ 0 ∧ ∃ y20, Int.tmod z1 (z2 - 1) = y20 ∧ in32 y20 ∧ (y20 ≠ 0 → in32 (z2 * z2) ∧ ∃ r27 w24, xCall 255 [.int (jI z1), .int (jI z2), .long (jL (z2 * z2))] w13 (some (.long (jL r27)), w24) ∧ CS w24 ∧ r = (some (.int (jI r27)), w24)) ∧ (y20 = 0 → r = (some (.int (jI (-3))), w13))) ∧ (¬ P16 → r = (some (.int (jI (-1))), w13))))) : xGo 262 0 [some (.ref 39), some (.int (jI z1)), some (.int (jI z2))] [] w r := by
  refine g_aloadn (pc' := 1) d_262_0 rfl rfl ?_
  refine g_iconst (pc' := 2) d_262_1 rfl rfl ?_
  have hpf1 := (kf_39_0 hC)
  have hC3 : CS (pF w 39 0 (.int (jI 0))) := ks_39_0 hC
  have h := h _ rfl hC3
  refine gz_putf (pc' := 5) d_262_2 rfl st_262_118 ft_12_0 ff_12_0 rfl (Or.inl rfl) hpf1 ?_
  refine g_iloadn (pc' := 6) d_262_5 rfl rfl ?_
  refine g_iconst (pc' := 7) d_262_6 rfl rfl ?_
  refine g_ldcw (pc' := 10) d_262_7 rfl st_262_284 rfl ?_
  obtain ⟨P7, dP8, w4, hk5, hC6, h⟩ := h
  refine g_callS (pc' := 13) d_262_10 rfl st_262_137 (Or.inl rfl) na_199 ml_199 rfl rfl rfl rm_262_199 rfl rfl hk5 ?_
  refine gz_bt_eq (pc' := 16) (pt := 31) d_262_13 (by decide) rfl (fun c => ?_) (fun c => ?_)
  · replace h := h.1 c
    refine g_iconst (pc' := 32) d_262_31 rfl rfl ?_
    exact g_iret d_262_32 rt_262 h
  · replace h := h.2 c
    refine g_iloadn (pc' := 17) d_262_16 rfl rfl ?_
    refine g_iconst (pc' := 18) d_262_17 rfl rfl ?_
    obtain ⟨hc9, h⟩ := h
    obtain ⟨y10, hz11, h⟩ := h
    refine gz_irem (pc' := 19) d_262_18 rfl hc9 (s32 (z := 2)) (by decide) hz11 ?_
    refine g_iconst (pc' := 20) d_262_19 rfl rfl ?_
    obtain ⟨hc12, h⟩ := h
    refine gz_ic_eq (pc' := 23) (pt := 31) d_262_20 (by decide) rfl hc12 (s32 (z := 1)) (fun c => ?_) (fun c => ?_)
    · replace h := h.1 c
      refine g_iconst (pc' := 32) d_262_31 rfl rfl ?_
      exact g_iret d_262_32 rt_262 h
    · replace h := h.2 c
      refine g_aloadn (pc' := 24) d_262_23 rfl rfl ?_
      refine g_iloadn (pc' := 25) d_262_24 rfl rfl ?_
      obtain ⟨P16, dP17, w13, hk14, hC15, h⟩ := h
      refine gz_callV (pc' := 28) d_262_25 rfl st_262_185 na_228 ml_228 rfl rfl rfl rm_262_228 rfl rfl ow_228 (ko_39 hC6) hk14 ?_
      refine gz_bt_ne (pc' := 31) (pt := 33) d_262_28 (by decide) rfl (fun c => ?_) (fun c => ?_)
      · replace h := h.1 c
        refine g_iloadn (pc' := 34) d_262_33 rfl rfl ?_
        refine g_iloadn (pc' := 35) d_262_34 rfl rfl ?_
        refine g_iconst (pc' := 36) d_262_35 rfl rfl ?_
        refine gz_isub (pc' := 37) d_262_36 rfl ?_
        obtain ⟨hc18, h⟩ := h
        obtain ⟨hc19, h⟩ := h
        obtain ⟨y20, hz21, h⟩ := h
        refine gz_irem (pc' := 38) d_262_37 rfl hc9 hc18 hc19 hz21 ?_
        obtain ⟨hc22, h⟩ := h
        refine gz_if_ne (pc' := 41) (pt := 46) d_262_38 (by decide) rfl hc22 (fun c => ?_) (fun c => ?_)
        · replace h := h.1 c
          refine g_iloadn (pc' := 47) d_262_46 rfl rfl ?_
          refine g_iloadn (pc' := 48) d_262_47 rfl rfl ?_
          refine g_iloadn (pc' := 49) d_262_48 rfl rfl ?_
          refine g_iloadn (pc' := 50) d_262_49 rfl rfl ?_
          refine gz_imul (pc' := 51) d_262_50 rfl ?_
          obtain ⟨hc23, h⟩ := h
          refine gz_i2l (pc' := 52) d_262_51 rfl hc23 ?_
          obtain ⟨r27, w24, hk25, hC26, h⟩ := h
          refine g_callS (pc' := 55) d_262_52 rfl st_262_264 (Or.inl rfl) na_255 ml_255 rfl rfl rfl rm_262_255 rfl rfl hk25 ?_
          refine gz_l2i (pc' := 56) d_262_55 rfl ?_
          exact g_iret d_262_56 rt_262 h
        · replace h := h.2 c
          refine g_bipush (pc' := 43) (v := jI (-3)) d_262_41 rfl (by decide) ?_
          refine g_goto (pt := 56) d_262_43 (by decide) ?_
          exact g_iret d_262_56 rt_262 h
      · replace h := h.2 c
        refine g_iconst (pc' := 32) d_262_31 rfl rfl ?_
        exact g_iret d_262_32 rt_262 h
theorem Z_262 {z1 : Int} {z2 : Int} {w : xW} {r : Option Value × xW} (hC : CS w) (h : ∀ w2, w2 = pF w 39 0 (.int (jI 0)) → CS w2 → ∃ (P7 : Prop) (dP8 : Decidable P7) (w4 : xW), xCall 199 [.int (jI z1), .int (jI 2), .int (jI 1000000)] w2 (some (.int (bz P7)), w4) ∧ CS w4 ∧ (¬ P7 → r = (some (.int (jI (-1))), w4)) ∧ (P7 → in32 z1 ∧ ∃ y10, Int.tmod z1 2 = y10 ∧ in32 y10 ∧ (y10 = 1 → r = (some (.int (jI (-1))), w4)) ∧ (y10 ≠ 1 → ∃ (P16 : Prop) (dP17 : Decidable P16) (w13 : xW), xCall 228 [.ref 39, .int (jI z2)] w4 (some (.int (bz P16)), w13) ∧ CS w13 ∧ (P16 → in32 (z2 - 1) ∧ z2 - 1 ≠ 0 ∧ ∃ y20, Int.tmod z1 (z2 - 1) = y20 ∧ in32 y20 ∧ (y20 ≠ 0 → in32 (z2 * z2) ∧ ∃ r27 w24, xCall 255 [.int (jI z1), .int (jI z2), .long (jL (z2 * z2))] w13 (some (.long (jL r27)), w24) ∧ CS w24 ∧ r = (some (.int (jI r27)), w24)) ∧ (y20 = 0 → r = (some (.int (jI (-3))), w13))) ∧ (¬ P16 → r = (some (.int (jI (-1))), w13))))) : xCall 262 [.ref 39, .int (jI z1), .int (jI z2)] w r := E_262 (Z_262_0 hC h)
theorem Z_263_0 {z1 : Int} {w : xW} {r : Option Value × xW} (hC : CS w) (h : ∀ w2, w2 = pF w 39 0 (.int (jI 0)) → CS w2 → ∃ (P7 : Prop) (dP8 : Decidable P7) (w4 : xW), xCall 228 [.ref 39, .int (jI z1)] w2 (some (.int (bz P7)), w4) ∧ CS w4 ∧ (¬ P7 → r = (some (.int (jI (-1))), w4)) ∧ (P7 → in32 z1 ∧ (5 ≤ z1 → xGo 263 35 [some (.ref 39), some (.int (jI z1)), some (.long (jL ((z1 * z1) * z1))), none, some (.long (jL 0)), none, some (.int (jI 1))] [] w4 r) ∧ (z1 < 5 → r = (some (.int (jI (-1))), w4)))) : xGo 263 0 [some (.ref 39), some (.int (jI z1)), none, none, none, none, none] [] w r := by
  refine g_aloadn (pc' := 1) d_263_0 rfl rfl ?_
  refine g_iconst (pc' := 2) d_263_1 rfl rfl ?_
  have hpf1 := (kf_39_0 hC)
  have hC3 : CS (pF w 39 0 (.int (jI 0))) := ks_39_0 hC
  have h := h _ rfl hC3
  refine gz_putf (pc' := 5) d_263_2 rfl st_263_118 ft_12_0 ff_12_0 rfl (Or.inl rfl) hpf1 ?_
  refine g_aloadn (pc' := 6) d_263_5 rfl rfl ?_
  refine g_iloadn (pc' := 7) d_263_6 rfl rfl ?_
  obtain ⟨P7, dP8, w4, hk5, hC6, h⟩ := h
  refine gz_callV (pc' := 10) d_263_7 rfl st_263_185 na_228 ml_228 rfl rfl rfl rm_263_228 rfl rfl ow_228 (ko_39 hC3) hk5 ?_
  refine gz_bt_eq (pc' := 13) (pt := 18) d_263_10 (by decide) rfl (fun c => ?_) (fun c => ?_)
  · replace h := h.1 c
    refine g_iconst (pc' := 19) d_263_18 rfl rfl ?_
    exact g_iret d_263_19 rt_263 h
  · replace h := h.2 c
    refine g_iloadn (pc' := 14) d_263_13 rfl rfl ?_
    refine g_iconst (pc' := 15) d_263_14 rfl rfl ?_
    obtain ⟨hc9, h⟩ := h
    refine gz_ic_ge (pc' := 18) (pt := 20) d_263_15 (by decide) rfl hc9 (s32 (z := 5)) (fun c => ?_) (fun c => ?_)
    · replace h := h.1 c
      refine g_iloadn (pc' := 21) d_263_20 rfl rfl ?_
      refine gz_i2l (pc' := 22) d_263_21 rfl hc9 ?_
      refine g_iloadn (pc' := 23) d_263_22 rfl rfl ?_
      refine gz_i2l (pc' := 24) d_263_23 rfl hc9 ?_
      refine gz_lmul (pc' := 25) d_263_24 rfl ?_
      refine g_iloadn (pc' := 26) d_263_25 rfl rfl ?_
      refine gz_i2l (pc' := 27) d_263_26 rfl hc9 ?_
      refine gz_lmul (pc' := 28) d_263_27 rfl ?_
      refine g_lstoren (pc' := 29) (l' := [some (.ref 39), some (.int (jI z1)), some (.long (jL ((z1 * z1) * z1))), none, none, none, none]) d_263_28 rfl ml_263 rfl rfl ?_
      refine g_lconst (pc' := 30) (v := jL 0) d_263_29 rfl cl_0 ?_
      refine g_lstore (pc' := 32) (l' := [some (.ref 39), some (.int (jI z1)), some (.long (jL ((z1 * z1) * z1))), none, some (.long (jL 0)), none, none]) d_263_30 rfl ml_263 rfl rfl ?_
      refine g_iconst (pc' := 33) d_263_32 rfl rfl ?_
      refine g_istore (pc' := 35) (l' := [some (.ref 39), some (.int (jI z1)), some (.long (jL ((z1 * z1) * z1))), none, some (.long (jL 0)), none, some (.int (jI 1))]) d_263_33 rfl ml_263 rfl rfl ?_
      exact h
    · replace h := h.2 c
      refine g_iconst (pc' := 19) d_263_18 rfl rfl ?_
      exact g_iret d_263_19 rt_263 h
theorem Z_263 {z1 : Int} {w : xW} {r : Option Value × xW} (hC : CS w) (h : ∀ w2, w2 = pF w 39 0 (.int (jI 0)) → CS w2 → ∃ (P7 : Prop) (dP8 : Decidable P7) (w4 : xW), xCall 228 [.ref 39, .int (jI z1)] w2 (some (.int (bz P7)), w4) ∧ CS w4 ∧ (¬ P7 → r = (some (.int (jI (-1))), w4)) ∧ (P7 → in32 z1 ∧ (5 ≤ z1 → xGo 263 35 [some (.ref 39), some (.int (jI z1)), some (.long (jL ((z1 * z1) * z1))), none, some (.long (jL 0)), none, some (.int (jI 1))] [] w4 r) ∧ (z1 < 5 → r = (some (.int (jI (-1))), w4)))) : xCall 263 [.ref 39, .int (jI z1)] w r := E_263 (Z_263_0 hC h)
theorem Z_263_35 {z1 : Int} {z2 : Int} {z4 : Int} {z6 : Int} {w : xW} {r : Option Value × xW} (hC : CS w) (h : in32 z6 ∧ in32 z1 ∧ (z1 ≤ z6 → in64 z4 ∧ in64 (z1 * z1) ∧ z1 * z1 ≠ 0 ∧ ∃ y6, Int.tdiv z4 (z1 * z1) = y6 ∧ r = (some (.int (jI y6)), w)) ∧ (z6 < z1 → ∃ r11 w8, xCall 240 [.long (jL z6), .int (jI (((z1 * z1) * (z1 - 1)) - 1)), .long (jL z2)] w (some (.long (jL r11)), w8) ∧ CS w8 ∧ in64 (z4 + r11) ∧ in64 z2 ∧ z2 ≠ 0 ∧ ∃ y15, Int.tmod (z4 + r11) z2 = y15 ∧ xGo 263 35 [some (.ref 39), some (.int (jI z1)), some (.long (jL z2)), none, some (.long (jL y15)), none, some (.int (jI (z6 + 1)))] [] w8 r)) : xGo 263 35 [some (.ref 39), some (.int (jI z1)), some (.long (jL z2)), none, some (.long (jL z4)), none, some (.int (jI z6))] [] w r := by
  refine g_iload (pc' := 37) d_263_35 rfl rfl ?_
  refine g_iloadn (pc' := 38) d_263_37 rfl rfl ?_
  obtain ⟨hc1, h⟩ := h
  obtain ⟨hc2, h⟩ := h
  refine gz_ic_ge (pc' := 41) (pt := 70) d_263_38 (by decide) rfl hc1 hc2 (fun c => ?_) (fun c => ?_)
  · replace h := h.1 c
    refine g_lload (pc' := 72) d_263_70 rfl rfl ?_
    refine g_iloadn (pc' := 73) d_263_72 rfl rfl ?_
    refine gz_i2l (pc' := 74) d_263_73 rfl hc2 ?_
    refine g_iloadn (pc' := 75) d_263_74 rfl rfl ?_
    refine gz_i2l (pc' := 76) d_263_75 rfl hc2 ?_
    refine gz_lmul (pc' := 77) d_263_76 rfl ?_
    obtain ⟨hc3, h⟩ := h
    obtain ⟨hc4, h⟩ := h
    obtain ⟨hc5, h⟩ := h
    obtain ⟨y6, hz7, h⟩ := h
    refine gz_ldiv (pc' := 78) d_263_77 rfl hc3 hc4 hc5 hz7 ?_
    refine gz_l2i (pc' := 79) d_263_78 rfl ?_
    exact g_iret d_263_79 rt_263 h
  · replace h := h.2 c
    refine g_lload (pc' := 43) d_263_41 rfl rfl ?_
    refine g_iload (pc' := 45) d_263_43 rfl rfl ?_
    refine gz_i2l (pc' := 46) d_263_45 rfl hc1 ?_
    refine g_iloadn (pc' := 47) d_263_46 rfl rfl ?_
    refine g_iloadn (pc' := 48) d_263_47 rfl rfl ?_
    refine gz_imul (pc' := 49) d_263_48 rfl ?_
    refine g_iloadn (pc' := 50) d_263_49 rfl rfl ?_
    refine g_iconst (pc' := 51) d_263_50 rfl rfl ?_
    refine gz_isub (pc' := 52) d_263_51 rfl ?_
    refine gz_imul (pc' := 53) d_263_52 rfl ?_
    refine g_iconst (pc' := 54) d_263_53 rfl rfl ?_
    refine gz_isub (pc' := 55) d_263_54 rfl ?_
    refine g_lloadn (pc' := 56) d_263_55 rfl rfl ?_
    obtain ⟨r11, w8, hk9, hC10, h⟩ := h
    refine g_callS (pc' := 59) d_263_56 rfl st_263_208 (Or.inl rfl) na_240 ml_240 rfl rfl rfl rm_263_240 rfl rfl hk9 ?_
    refine gz_ladd (pc' := 60) d_263_59 rfl ?_
    refine g_lloadn (pc' := 61) d_263_60 rfl rfl ?_
    obtain ⟨hc12, h⟩ := h
    obtain ⟨hc13, h⟩ := h
    obtain ⟨hc14, h⟩ := h
    obtain ⟨y15, hz16, h⟩ := h
    refine gz_lrem (pc' := 62) d_263_61 rfl hc12 hc13 hc14 hz16 ?_
    refine g_lstore (pc' := 64) (l' := [some (.ref 39), some (.int (jI z1)), some (.long (jL z2)), none, some (.long (jL y15)), none, some (.int (jI z6))]) d_263_62 rfl ml_263 rfl rfl ?_
    refine gz_iinc (pc' := 67) (l' := [some (.ref 39), some (.int (jI z1)), some (.long (jL z2)), none, some (.long (jL y15)), none, some (.int (jI (z6 + 1)))]) d_263_64 rfl rfl ml_263 rfl rfl ?_
    refine g_goto (pt := 35) d_263_67 (by decide) ?_
    exact h
theorem Z_264_0 {z1 : Int} {w : xW} {r : Option Value × xW} (hC : CS w) (h : ∀ w2, w2 = pF w 39 0 (.int (jI 0)) → CS w2 → ∃ (P7 : Prop) (dP8 : Decidable P7) (w4 : xW), xCall 228 [.ref 39, .int (jI z1)] w2 (some (.int (bz P7)), w4) ∧ CS w4 ∧ (P7 → xGo 264 20 [some (.ref 39), some (.int (jI z1)), some (.long (jL 1)), none, some (.int (jI 2))] [] w4 r) ∧ (¬ P7 → r = (some (.int (jI (-1))), w4))) : xGo 264 0 [some (.ref 39), some (.int (jI z1)), none, none, none] [] w r := by
  refine g_aloadn (pc' := 1) d_264_0 rfl rfl ?_
  refine g_iconst (pc' := 2) d_264_1 rfl rfl ?_
  have hpf1 := (kf_39_0 hC)
  have hC3 : CS (pF w 39 0 (.int (jI 0))) := ks_39_0 hC
  have h := h _ rfl hC3
  refine gz_putf (pc' := 5) d_264_2 rfl st_264_118 ft_12_0 ff_12_0 rfl (Or.inl rfl) hpf1 ?_
  refine g_aloadn (pc' := 6) d_264_5 rfl rfl ?_
  refine g_iloadn (pc' := 7) d_264_6 rfl rfl ?_
  obtain ⟨P7, dP8, w4, hk5, hC6, h⟩ := h
  refine gz_callV (pc' := 10) d_264_7 rfl st_264_185 na_228 ml_228 rfl rfl rfl rm_264_228 rfl rfl ow_228 (ko_39 hC3) hk5 ?_
  refine gz_bt_ne (pc' := 13) (pt := 15) d_264_10 (by decide) rfl (fun c => ?_) (fun c => ?_)
  · replace h := h.1 c
    refine g_lconst (pc' := 16) (v := jL 1) d_264_15 rfl cl_1 ?_
    refine g_lstoren (pc' := 17) (l' := [some (.ref 39), some (.int (jI z1)), some (.long (jL 1)), none, none]) d_264_16 rfl ml_264 rfl rfl ?_
    refine g_iconst (pc' := 18) d_264_17 rfl rfl ?_
    refine g_istore (pc' := 20) (l' := [some (.ref 39), some (.int (jI z1)), some (.long (jL 1)), none, some (.int (jI 2))]) d_264_18 rfl ml_264 rfl rfl ?_
    exact h
  · replace h := h.2 c
    refine g_iconst (pc' := 14) d_264_13 rfl rfl ?_
    exact g_iret d_264_14 rt_264 h
theorem Z_264 {z1 : Int} {w : xW} {r : Option Value × xW} (hC : CS w) (h : ∀ w2, w2 = pF w 39 0 (.int (jI 0)) → CS w2 → ∃ (P7 : Prop) (dP8 : Decidable P7) (w4 : xW), xCall 228 [.ref 39, .int (jI z1)] w2 (some (.int (bz P7)), w4) ∧ CS w4 ∧ (P7 → xGo 264 20 [some (.ref 39), some (.int (jI z1)), some (.long (jL 1)), none, some (.int (jI 2))] [] w4 r) ∧ (¬ P7 → r = (some (.int (jI (-1))), w4))) : xCall 264 [.ref 39, .int (jI z1)] w r := E_264 (Z_264_0 hC h)
theorem Z_264_20 {z1 : Int} {z2 : Int} {z4 : Int} {w : xW} {r : Option Value × xW} (hC : CS w) (h : in32 z4 ∧ in32 z1 ∧ (z1 ≤ z4 → in64 (z2 + 1) ∧ z1 ≠ 0 ∧ ∃ y5, Int.tdiv (z2 + 1) z1 = y5 ∧ in64 y5 ∧ z1 ≠ 0 ∧ ∃ y9, Int.tmod y5 z1 = y9 ∧ r = (some (.int (jI y9)), w)) ∧ (z4 < z1 → in32 (z1 * z1) ∧ in64 (z2 * z4) ∧ z1 * z1 ≠ 0 ∧ ∃ y14, Int.tmod (z2 * z4) (z1 * z1) = y14 ∧ xGo 264 20 [some (.ref 39), some (.int (jI z1)), some (.long (jL y14)), none, some (.int (jI (z4 + 1)))] [] w r)) : xGo 264 20 [some (.ref 39), some (.int (jI z1)), some (.long (jL z2)), none, some (.int (jI z4))] [] w r := by
  refine g_iload (pc' := 22) d_264_20 rfl rfl ?_
  refine g_iloadn (pc' := 23) d_264_22 rfl rfl ?_
  obtain ⟨hc1, h⟩ := h
  obtain ⟨hc2, h⟩ := h
  refine gz_ic_ge (pc' := 26) (pt := 43) d_264_23 (by decide) rfl hc1 hc2 (fun c => ?_) (fun c => ?_)
  · replace h := h.1 c
    refine g_lloadn (pc' := 44) d_264_43 rfl rfl ?_
    refine g_lconst (pc' := 45) (v := jL 1) d_264_44 rfl cl_1 ?_
    refine gz_ladd (pc' := 46) d_264_45 rfl ?_
    refine g_iloadn (pc' := 47) d_264_46 rfl rfl ?_
    refine gz_i2l (pc' := 48) d_264_47 rfl hc2 ?_
    obtain ⟨hc3, h⟩ := h
    obtain ⟨hc4, h⟩ := h
    obtain ⟨y5, hz6, h⟩ := h
    refine gz_ldiv (pc' := 49) d_264_48 rfl hc3 (in3264 hc2) hc4 hz6 ?_
    refine g_iloadn (pc' := 50) d_264_49 rfl rfl ?_
    refine gz_i2l (pc' := 51) d_264_50 rfl hc2 ?_
    obtain ⟨hc7, h⟩ := h
    obtain ⟨hc8, h⟩ := h
    obtain ⟨y9, hz10, h⟩ := h
    refine gz_lrem (pc' := 52) d_264_51 rfl hc7 (in3264 hc2) hc8 hz10 ?_
    refine gz_l2i (pc' := 53) d_264_52 rfl ?_
    exact g_iret d_264_53 rt_264 h
  · replace h := h.2 c
    refine g_lloadn (pc' := 27) d_264_26 rfl rfl ?_
    refine g_iload (pc' := 29) d_264_27 rfl rfl ?_
    refine gz_i2l (pc' := 30) d_264_29 rfl hc1 ?_
    refine gz_lmul (pc' := 31) d_264_30 rfl ?_
    refine g_iloadn (pc' := 32) d_264_31 rfl rfl ?_
    refine g_iloadn (pc' := 33) d_264_32 rfl rfl ?_
    refine gz_imul (pc' := 34) d_264_33 rfl ?_
    obtain ⟨hc11, h⟩ := h
    refine gz_i2l (pc' := 35) d_264_34 rfl hc11 ?_
    obtain ⟨hc12, h⟩ := h
    obtain ⟨hc13, h⟩ := h
    obtain ⟨y14, hz15, h⟩ := h
    refine gz_lrem (pc' := 36) d_264_35 rfl hc12 (in3264 hc11) hc13 hz15 ?_
    refine g_lstoren (pc' := 37) (l' := [some (.ref 39), some (.int (jI z1)), some (.long (jL y14)), none, some (.int (jI z4))]) d_264_36 rfl ml_264 rfl rfl ?_
    refine gz_iinc (pc' := 40) (l' := [some (.ref 39), some (.int (jI z1)), some (.long (jL y14)), none, some (.int (jI (z4 + 1)))]) d_264_37 rfl rfl ml_264 rfl rfl ?_
    refine g_goto (pt := 20) d_264_40 (by decide) ?_
    exact h
theorem Z_265_0 {z1 : Int} {w : xW} {r : Option Value × xW} (hC : CS w) (h : ∀ w2, w2 = pF w 39 0 (.int (jI 0)) → CS w2 → ∃ (P7 : Prop) (dP8 : Decidable P7) (w4 : xW), xCall 228 [.ref 39, .int (jI z1)] w2 (some (.int (bz P7)), w4) ∧ CS w4 ∧ (¬ P7 → r = (some (.int (jI (-1))), w4)) ∧ (P7 → in32 z1 ∧ (z1 < 7 → r = (some (.int (jI (-1))), w4)) ∧ (7 ≤ z1 → ∃ y10, Int.tmod z1 4 = y10 ∧ in32 y10 ∧ (y10 = 3 → xGo 265 32 [some (.ref 39), some (.int (jI z1)), some (.int (jI 0)), some (.int (jI 1))] [] w4 r) ∧ (y10 ≠ 3 → r = (some (.int (jI (-1))), w4))))) : xGo 265 0 [some (.ref 39), some (.int (jI z1)), none, none] [] w r := by
  refine g_aloadn (pc' := 1) d_265_0 rfl rfl ?_
  refine g_iconst (pc' := 2) d_265_1 rfl rfl ?_
  have hpf1 := (kf_39_0 hC)
  have hC3 : CS (pF w 39 0 (.int (jI 0))) := ks_39_0 hC
  have h := h _ rfl hC3
  refine gz_putf (pc' := 5) d_265_2 rfl st_265_118 ft_12_0 ff_12_0 rfl (Or.inl rfl) hpf1 ?_
  refine g_aloadn (pc' := 6) d_265_5 rfl rfl ?_
  refine g_iloadn (pc' := 7) d_265_6 rfl rfl ?_
  obtain ⟨P7, dP8, w4, hk5, hC6, h⟩ := h
  refine gz_callV (pc' := 10) d_265_7 rfl st_265_185 na_228 ml_228 rfl rfl rfl rm_265_228 rfl rfl ow_228 (ko_39 hC3) hk5 ?_
  refine gz_bt_eq (pc' := 13) (pt := 26) d_265_10 (by decide) rfl (fun c => ?_) (fun c => ?_)
  · replace h := h.1 c
    refine g_iconst (pc' := 27) d_265_26 rfl rfl ?_
    exact g_iret d_265_27 rt_265 h
  · replace h := h.2 c
    refine g_iloadn (pc' := 14) d_265_13 rfl rfl ?_
    refine g_bipush (pc' := 16) (v := jI 7) d_265_14 rfl (by decide) ?_
    obtain ⟨hc9, h⟩ := h
    refine gz_ic_lt (pc' := 19) (pt := 26) d_265_16 (by decide) rfl hc9 (s32 (z := 7)) (fun c => ?_) (fun c => ?_)
    · replace h := h.1 c
      refine g_iconst (pc' := 27) d_265_26 rfl rfl ?_
      exact g_iret d_265_27 rt_265 h
    · replace h := h.2 c
      refine g_iloadn (pc' := 20) d_265_19 rfl rfl ?_
      refine g_iconst (pc' := 21) d_265_20 rfl rfl ?_
      obtain ⟨y10, hz11, h⟩ := h
      refine gz_irem (pc' := 22) d_265_21 rfl hc9 (s32 (z := 4)) (by decide) hz11 ?_
      refine g_iconst (pc' := 23) d_265_22 rfl rfl ?_
      obtain ⟨hc12, h⟩ := h
      refine gz_ic_eq (pc' := 26) (pt := 28) d_265_23 (by decide) rfl hc12 (s32 (z := 3)) (fun c => ?_) (fun c => ?_)
      · replace h := h.1 c
        refine g_iconst (pc' := 29) d_265_28 rfl rfl ?_
        refine g_istoren (pc' := 30) (l' := [some (.ref 39), some (.int (jI z1)), some (.int (jI 0)), none]) d_265_29 rfl ml_265 rfl rfl ?_
        refine g_iconst (pc' := 31) d_265_30 rfl rfl ?_
        refine g_istoren (pc' := 32) (l' := [some (.ref 39), some (.int (jI z1)), some (.int (jI 0)), some (.int (jI 1))]) d_265_31 rfl ml_265 rfl rfl ?_
        exact h
      · replace h := h.2 c
        refine g_iconst (pc' := 27) d_265_26 rfl rfl ?_
        exact g_iret d_265_27 rt_265 h
theorem Z_265 {z1 : Int} {w : xW} {r : Option Value × xW} (hC : CS w) (h : ∀ w2, w2 = pF w 39 0 (.int (jI 0)) → CS w2 → ∃ (P7 : Prop) (dP8 : Decidable P7) (w4 : xW), xCall 228 [.ref 39, .int (jI z1)] w2 (some (.int (bz P7)), w4) ∧ CS w4 ∧ (¬ P7 → r = (some (.int (jI (-1))), w4)) ∧ (P7 → in32 z1 ∧ (z1 < 7 → r = (some (.int (jI (-1))), w4)) ∧ (7 ≤ z1 → ∃ y10, Int.tmod z1 4 = y10 ∧ in32 y10 ∧ (y10 = 3 → xGo 265 32 [some (.ref 39), some (.int (jI z1)), some (.int (jI 0)), some (.int (jI 1))] [] w4 r) ∧ (y10 ≠ 3 → r = (some (.int (jI (-1))), w4))))) : xCall 265 [.ref 39, .int (jI z1)] w r := E_265 (Z_265_0 hC h)
theorem Z_265_32 {z1 : Int} {z2 : Int} {z3 : Int} {w : xW} {r : Option Value × xW} (hC : CS w) (h : in32 z3 ∧ in32 z1 ∧ (z1 ≤ z3 → in32 z2 ∧ z1 ≠ 0 ∧ ∃ y5, Int.tdiv z2 z1 = y5 ∧ r = (some (.int (jI y5)), w)) ∧ (z3 < z1 → ∃ r10 w7, xCall 266 [.int (jI z3), .int (jI z1)] w (some (.int (jI r10)), w7) ∧ CS w7 ∧ xGo 265 32 [some (.ref 39), some (.int (jI z1)), some (.int (jI (z2 - (z3 * r10)))), some (.int (jI (z3 + 1)))] [] w7 r)) : xGo 265 32 [some (.ref 39), some (.int (jI z1)), some (.int (jI z2)), some (.int (jI z3))] [] w r := by
  refine g_iloadn (pc' := 33) d_265_32 rfl rfl ?_
  refine g_iloadn (pc' := 34) d_265_33 rfl rfl ?_
  obtain ⟨hc1, h⟩ := h
  obtain ⟨hc2, h⟩ := h
  refine gz_ic_ge (pc' := 37) (pt := 53) d_265_34 (by decide) rfl hc1 hc2 (fun c => ?_) (fun c => ?_)
  · replace h := h.1 c
    refine g_iloadn (pc' := 54) d_265_53 rfl rfl ?_
    refine g_iloadn (pc' := 55) d_265_54 rfl rfl ?_
    obtain ⟨hc3, h⟩ := h
    obtain ⟨hc4, h⟩ := h
    obtain ⟨y5, hz6, h⟩ := h
    refine gz_idiv (pc' := 56) d_265_55 rfl hc3 hc2 hc4 hz6 ?_
    exact g_iret d_265_56 rt_265 h
  · replace h := h.2 c
    refine g_iloadn (pc' := 38) d_265_37 rfl rfl ?_
    refine g_iloadn (pc' := 39) d_265_38 rfl rfl ?_
    refine g_iloadn (pc' := 40) d_265_39 rfl rfl ?_
    refine g_iloadn (pc' := 41) d_265_40 rfl rfl ?_
    obtain ⟨r10, w7, hk8, hC9, h⟩ := h
    refine g_callS (pc' := 44) d_265_41 rfl st_265_285 (Or.inl rfl) na_266 ml_266 rfl rfl rfl rm_265_266 rfl rfl hk8 ?_
    refine gz_imul (pc' := 45) d_265_44 rfl ?_
    refine gz_isub (pc' := 46) d_265_45 rfl ?_
    refine g_istoren (pc' := 47) (l' := [some (.ref 39), some (.int (jI z1)), some (.int (jI (z2 - (z3 * r10)))), some (.int (jI z3))]) d_265_46 rfl ml_265 rfl rfl ?_
    refine gz_iinc (pc' := 50) (l' := [some (.ref 39), some (.int (jI z1)), some (.int (jI (z2 - (z3 * r10)))), some (.int (jI (z3 + 1)))]) d_265_47 rfl rfl ml_265 rfl rfl ?_
    refine g_goto (pt := 32) d_265_50 (by decide) ?_
    exact h
theorem Z_266_0 {z0 : Int} {z1 : Int} {w : xW} {r : Option Value × xW} (hC : CS w) (h : in32 z0 ∧ in32 z1 ∧ z1 ≠ 0 ∧ ∃ y4, Int.tmod z0 z1 = y4 ∧ in32 (z1 - 1) ∧ ∃ y7, Int.tdiv (z1 - 1) 2 = y7 ∧ ∃ r12 w9, xCall 216 [.int (jI y4), .int (jI y7), .int (jI z1)] w (some (.int (jI r12)), w9) ∧ CS w9 ∧ in32 r12 ∧ (r12 ≠ z1 - 1 → r = (some (.int (jI r12)), w9)) ∧ (r12 = z1 - 1 → r = (some (.int (jI (-1))), w9))) : xGo 266 0 [some (.int (jI z0)), some (.int (jI z1)), none] [] w r := by
  refine g_iloadn (pc' := 1) d_266_0 rfl rfl ?_
  refine g_iloadn (pc' := 2) d_266_1 rfl rfl ?_
  obtain ⟨hc1, h⟩ := h
  obtain ⟨hc2, h⟩ := h
  obtain ⟨hc3, h⟩ := h
  obtain ⟨y4, hz5, h⟩ := h
  refine gz_irem (pc' := 3) d_266_2 rfl hc1 hc2 hc3 hz5 ?_
  refine g_iloadn (pc' := 4) d_266_3 rfl rfl ?_
  refine g_iconst (pc' := 5) d_266_4 rfl rfl ?_
  refine gz_isub (pc' := 6) d_266_5 rfl ?_
  refine g_iconst (pc' := 7) d_266_6 rfl rfl ?_
  obtain ⟨hc6, h⟩ := h
  obtain ⟨y7, hz8, h⟩ := h
  refine gz_idiv (pc' := 8) d_266_7 rfl hc6 (s32 (z := 2)) (by decide) hz8 ?_
  refine g_iloadn (pc' := 9) d_266_8 rfl rfl ?_
  obtain ⟨r12, w9, hk10, hC11, h⟩ := h
  refine g_callS (pc' := 12) d_266_9 rfl st_266_174 (Or.inl rfl) na_216 ml_216 rfl rfl rfl rm_266_216 rfl rfl hk10 ?_
  refine g_istoren (pc' := 13) (l' := [some (.int (jI z0)), some (.int (jI z1)), some (.int (jI r12))]) d_266_12 rfl ml_266 rfl rfl ?_
  refine g_iloadn (pc' := 14) d_266_13 rfl rfl ?_
  refine g_iloadn (pc' := 15) d_266_14 rfl rfl ?_
  refine g_iconst (pc' := 16) d_266_15 rfl rfl ?_
  refine gz_isub (pc' := 17) d_266_16 rfl ?_
  obtain ⟨hc13, h⟩ := h
  refine gz_ic_ne (pc' := 20) (pt := 24) d_266_17 (by decide) rfl hc13 hc6 (fun c => ?_) (fun c => ?_)
  · replace h := h.1 c
    refine g_iloadn (pc' := 25) d_266_24 rfl rfl ?_
    exact g_iret d_266_25 rt_266 h
  · replace h := h.2 c
    refine g_iconst (pc' := 21) d_266_20 rfl rfl ?_
    refine g_goto (pt := 25) d_266_21 (by decide) ?_
    exact g_iret d_266_25 rt_266 h
theorem Z_266 {z0 : Int} {z1 : Int} {w : xW} {r : Option Value × xW} (hC : CS w) (h : in32 z0 ∧ in32 z1 ∧ z1 ≠ 0 ∧ ∃ y4, Int.tmod z0 z1 = y4 ∧ in32 (z1 - 1) ∧ ∃ y7, Int.tdiv (z1 - 1) 2 = y7 ∧ ∃ r12 w9, xCall 216 [.int (jI y4), .int (jI y7), .int (jI z1)] w (some (.int (jI r12)), w9) ∧ CS w9 ∧ in32 r12 ∧ (r12 ≠ z1 - 1 → r = (some (.int (jI r12)), w9)) ∧ (r12 = z1 - 1 → r = (some (.int (jI (-1))), w9))) : xCall 266 [.int (jI z0), .int (jI z1)] w r := E_266 (Z_266_0 hC h)
theorem Z_267_0 {z1 : Int} {z2 : Int} {z3 : Int} {w : xW} {r : Option Value × xW} (hC : CS w) (h : ∀ w2, w2 = pF w 39 0 (.int (jI 0)) → CS w2 → ∃ (P7 : Prop) (dP8 : Decidable P7) (w4 : xW), xCall 228 [.ref 39, .int (jI z1)] w2 (some (.int (bz P7)), w4) ∧ CS w4 ∧ (¬ P7 → r = (some (.long (jL (-9223372036854775808))), w4)) ∧ (P7 → ∃ (P12 : Prop) (dP13 : Decidable P12) (w9 : xW), xCall 199 [.int (jI z2), .int (jI 1), .int (jI 4)] w4 (some (.int (bz P12)), w9) ∧ CS w9 ∧ (¬ P12 → r = (some (.long (jL (-9223372036854775808))), w9)) ∧ (P12 → ∃ (P17 : Prop) (dP18 : Decidable P17) (w14 : xW), xCall 199 [.int (jI z3), .int (jI 0), .int (jI 2)] w9 (some (.int (bz P17)), w14) ∧ CS w14 ∧ (P17 → xGo 267 41 [some (.ref 39), some (.int (jI z1)), some (.int (jI z2)), some (.int (jI z3)), some (.long (jL 0)), none, some (.int (jI 1)), none, none, none] [] w14 r) ∧ (¬ P17 → r = (some (.long (jL (-9223372036854775808))), w14))))) : xGo 267 0 [some (.ref 39), some (.int (jI z1)), some (.int (jI z2)), some (.int (jI z3)), none, none, none, none, none, none] [] w r := by
  refine g_aloadn (pc' := 1) d_267_0 rfl rfl ?_
  refine g_iconst (pc' := 2) d_267_1 rfl rfl ?_
  have hpf1 := (kf_39_0 hC)
  have hC3 : CS (pF w 39 0 (.int (jI 0))) := ks_39_0 hC
  have h := h _ rfl hC3
  refine gz_putf (pc' := 5) d_267_2 rfl st_267_118 ft_12_0 ff_12_0 rfl (Or.inl rfl) hpf1 ?_
  refine g_aloadn (pc' := 6) d_267_5 rfl rfl ?_
  refine g_iloadn (pc' := 7) d_267_6 rfl rfl ?_
  obtain ⟨P7, dP8, w4, hk5, hC6, h⟩ := h
  refine gz_callV (pc' := 10) d_267_7 rfl st_267_185 na_228 ml_228 rfl rfl rfl rm_267_228 rfl rfl ow_228 (ko_39 hC3) hk5 ?_
  refine gz_bt_eq (pc' := 13) (pt := 31) d_267_10 (by decide) rfl (fun c => ?_) (fun c => ?_)
  · replace h := h.1 c
    refine g_ldc2 (pc' := 34) d_267_31 rfl st_267_166 rfl ?_
    exact g_lret d_267_34 rt_267 h
  · replace h := h.2 c
    refine g_iloadn (pc' := 14) d_267_13 rfl rfl ?_
    refine g_iconst (pc' := 15) d_267_14 rfl rfl ?_
    refine g_iconst (pc' := 16) d_267_15 rfl rfl ?_
    obtain ⟨P12, dP13, w9, hk10, hC11, h⟩ := h
    refine g_callS (pc' := 19) d_267_16 rfl st_267_137 (Or.inl rfl) na_199 ml_199 rfl rfl rfl rm_267_199 rfl rfl hk10 ?_
    refine gz_bt_eq (pc' := 22) (pt := 31) d_267_19 (by decide) rfl (fun c => ?_) (fun c => ?_)
    · replace h := h.1 c
      refine g_ldc2 (pc' := 34) d_267_31 rfl st_267_166 rfl ?_
      exact g_lret d_267_34 rt_267 h
    · replace h := h.2 c
      refine g_iloadn (pc' := 23) d_267_22 rfl rfl ?_
      refine g_iconst (pc' := 24) d_267_23 rfl rfl ?_
      refine g_iconst (pc' := 25) d_267_24 rfl rfl ?_
      obtain ⟨P17, dP18, w14, hk15, hC16, h⟩ := h
      refine g_callS (pc' := 28) d_267_25 rfl st_267_137 (Or.inl rfl) na_199 ml_199 rfl rfl rfl rm_267_199 rfl rfl hk15 ?_
      refine gz_bt_ne (pc' := 31) (pt := 35) d_267_28 (by decide) rfl (fun c => ?_) (fun c => ?_)
      · replace h := h.1 c
        refine g_lconst (pc' := 36) (v := jL 0) d_267_35 rfl cl_0 ?_
        refine g_lstore (pc' := 38) (l' := [some (.ref 39), some (.int (jI z1)), some (.int (jI z2)), some (.int (jI z3)), some (.long (jL 0)), none, none, none, none, none]) d_267_36 rfl ml_267 rfl rfl ?_
        refine g_iconst (pc' := 39) d_267_38 rfl rfl ?_
        refine g_istore (pc' := 41) (l' := [some (.ref 39), some (.int (jI z1)), some (.int (jI z2)), some (.int (jI z3)), some (.long (jL 0)), none, some (.int (jI 1)), none, none, none]) d_267_39 rfl ml_267 rfl rfl ?_
        exact h
      · replace h := h.2 c
        refine g_ldc2 (pc' := 34) d_267_31 rfl st_267_166 rfl ?_
        exact g_lret d_267_34 rt_267 h
theorem Z_267 {z1 : Int} {z2 : Int} {z3 : Int} {w : xW} {r : Option Value × xW} (hC : CS w) (h : ∀ w2, w2 = pF w 39 0 (.int (jI 0)) → CS w2 → ∃ (P7 : Prop) (dP8 : Decidable P7) (w4 : xW), xCall 228 [.ref 39, .int (jI z1)] w2 (some (.int (bz P7)), w4) ∧ CS w4 ∧ (¬ P7 → r = (some (.long (jL (-9223372036854775808))), w4)) ∧ (P7 → ∃ (P12 : Prop) (dP13 : Decidable P12) (w9 : xW), xCall 199 [.int (jI z2), .int (jI 1), .int (jI 4)] w4 (some (.int (bz P12)), w9) ∧ CS w9 ∧ (¬ P12 → r = (some (.long (jL (-9223372036854775808))), w9)) ∧ (P12 → ∃ (P17 : Prop) (dP18 : Decidable P17) (w14 : xW), xCall 199 [.int (jI z3), .int (jI 0), .int (jI 2)] w9 (some (.int (bz P17)), w14) ∧ CS w14 ∧ (P17 → xGo 267 41 [some (.ref 39), some (.int (jI z1)), some (.int (jI z2)), some (.int (jI z3)), some (.long (jL 0)), none, some (.int (jI 1)), none, none, none] [] w14 r) ∧ (¬ P17 → r = (some (.long (jL (-9223372036854775808))), w14))))) : xCall 267 [.ref 39, .int (jI z1), .int (jI z2), .int (jI z3)] w r := E_267 (Z_267_0 hC h)
theorem Z_267_41 {z1 : Int} {z2 : Int} {z3 : Int} {z4 : Int} {z6 : Int} {w : xW} {r : Option Value × xW} (hC : CS w) (h : in32 z6 ∧ in32 z1 ∧ (z1 ≤ z6 → ∃ r6 w3, xCall 193 [.long (jL z4), .long (jL (30 * z1))] w (some (.long (jL r6)), w3) ∧ CS w3 ∧ ∃ w7, xCall 194 [.ref 39, .ref 62, .int (jI 0), .long (jL r6), .long (jL (z4 - (r6 * (30 * z1)))), .long (jL (30 * z1))] w3 (none, w7) ∧ CS w7 ∧ 0 ≤ z3 ∧ ∃ x11, rL w7 62 (z3).toNat x11 ∧ r = (some (.long (jL x11)), w7)) ∧ (z6 < z1 → xGo 267 53 [some (.ref 39), some (.int (jI z1)), some (.int (jI z2)), some (.int (jI z3)), some (.long (jL z4)), none, some (.int (jI z6)), some (.long (jL 0)), none, some (.int (jI 0))] [] w r)) : xGo 267 41 [some (.ref 39), some (.int (jI z1)), some (.int (jI z2)), some (.int (jI z3)), some (.long (jL z4)), none, some (.int (jI z6)), none, none, none] [] w r := by
  refine g_iload (pc' := 43) d_267_41 rfl rfl ?_
  refine g_iloadn (pc' := 44) d_267_43 rfl rfl ?_
  obtain ⟨hc1, h⟩ := h
  obtain ⟨hc2, h⟩ := h
  refine gz_ic_ge (pc' := 47) (pt := 133) d_267_44 (by decide) rfl hc1 hc2 (fun c => ?_) (fun c => ?_)
  · replace h := h.1 c
    refine g_ldc2 (pc' := 136) d_267_133 rfl st_267_291 rfl ?_
    refine g_iloadn (pc' := 137) d_267_136 rfl rfl ?_
    refine gz_i2l (pc' := 138) d_267_137 rfl hc2 ?_
    refine gz_lmul (pc' := 139) d_267_138 rfl ?_
    refine g_lstore (pc' := 141) (l' := [some (.ref 39), some (.int (jI z1)), some (.int (jI z2)), some (.int (jI z3)), some (.long (jL z4)), none, some (.long (jL (30 * z1))), none, none, none]) d_267_139 rfl ml_267 rfl rfl ?_
    refine g_lload (pc' := 143) d_267_141 rfl rfl ?_
    refine g_lload (pc' := 145) d_267_143 rfl rfl ?_
    obtain ⟨r6, w3, hk4, hC5, h⟩ := h
    refine g_callS (pc' := 148) d_267_145 rfl st_267_131 (Or.inl rfl) na_193 ml_193 rfl rfl rfl rm_267_193 rfl rfl hk4 ?_
    refine g_lstore (pc' := 150) (l' := [some (.ref 39), some (.int (jI z1)), some (.int (jI z2)), some (.int (jI z3)), some (.long (jL z4)), none, some (.long (jL (30 * z1))), none, some (.long (jL r6)), none]) d_267_148 rfl ml_267 rfl rfl ?_
    refine g_aloadn (pc' := 151) d_267_150 rfl rfl ?_
    refine g_aloadn (pc' := 152) d_267_151 rfl rfl ?_
    refine gz_getR (pc' := 155) d_267_152 rfl st_267_81 (kr_39_29 hC5) ?_
    refine g_iconst (pc' := 156) d_267_155 rfl rfl ?_
    refine g_lload (pc' := 158) d_267_156 rfl rfl ?_
    refine g_lload (pc' := 160) d_267_158 rfl rfl ?_
    refine g_lload (pc' := 162) d_267_160 rfl rfl ?_
    refine g_lload (pc' := 164) d_267_162 rfl rfl ?_
    refine gz_lmul (pc' := 165) d_267_164 rfl ?_
    refine gz_lsub (pc' := 166) d_267_165 rfl ?_
    refine g_lload (pc' := 168) d_267_166 rfl rfl ?_
    obtain ⟨w7, hk8, hC9, h⟩ := h
    refine gz_callV (pc' := 171) d_267_168 rfl st_267_134 na_194 ml_194 rfl rfl rfl rm_267_194 rfl rfl ow_194 (ko_39 hC5) hk8 ?_
    refine g_aloadn (pc' := 172) d_267_171 rfl rfl ?_
    refine gz_getR (pc' := 175) d_267_172 rfl st_267_81 (kr_39_29 hC9) ?_
    refine g_iloadn (pc' := 176) d_267_175 rfl rfl ?_
    obtain ⟨hc10, h⟩ := h
    obtain ⟨x11, hv12, h⟩ := h
    refine gz_lald (pc' := 177) d_267_176 rfl hc10 hv12 ?_
    exact g_lret d_267_177 rt_267 h
  · replace h := h.2 c
    refine g_lconst (pc' := 48) (v := jL 0) d_267_47 rfl cl_0 ?_
    refine g_lstore (pc' := 50) (l' := [some (.ref 39), some (.int (jI z1)), some (.int (jI z2)), some (.int (jI z3)), some (.long (jL z4)), none, some (.int (jI z6)), some (.long (jL 0)), none, none]) d_267_48 rfl ml_267 rfl rfl ?_
    refine g_iconst (pc' := 51) d_267_50 rfl rfl ?_
    refine g_istore (pc' := 53) (l' := [some (.ref 39), some (.int (jI z1)), some (.int (jI z2)), some (.int (jI z3)), some (.long (jL z4)), none, some (.int (jI z6)), some (.long (jL 0)), none, some (.int (jI 0))]) d_267_51 rfl ml_267 rfl rfl ?_
    exact h
theorem Z_267_53 {z1 : Int} {z2 : Int} {z3 : Int} {z4 : Int} {z6 : Int} {z7 : Int} {z9 : Int} {w : xW} {r : Option Value × xW} (hC : CS w) (h : in32 z9 ∧ in32 z2 ∧ (z2 < z9 → ∃ r6 w3, xCall 266 [.int (jI z6), .int (jI z1)] w (some (.int (jI r6)), w3) ∧ CS w3 ∧ in32 r6 ∧ xGo 267 41 [some (.ref 39), some (.int (jI z1)), some (.int (jI z2)), some (.int (jI z3)), some (.long (jL (z4 + (r6 * z7)))), none, some (.int (jI (z6 + 1))), none, none, none] [] w3 r) ∧ (z9 ≤ z2 → 0 ≤ (40 * z2) + z9 ∧ ∃ x9, rL w 43 ((40 * z2) + z9).toNat x9 ∧ 0 ≤ z2 - z9 ∧ ∃ x12, rI w 53 (z2 - z9).toNat x12 ∧ in32 x12 ∧ in32 z6 ∧ ∃ r19 w16, xCall 268 [.long (jL z6), .int (jI z9)] w (some (.long (jL r19)), w16) ∧ CS w16 ∧ in32 z1 ∧ ∃ r24 w21, xCall 268 [.long (jL z1), .int (jI (z2 - z9))] w16 (some (.long (jL r24)), w21) ∧ CS w21 ∧ xGo 267 53 [some (.ref 39), some (.int (jI z1)), some (.int (jI z2)), some (.int (jI z3)), some (.long (jL z4)), none, some (.int (jI z6)), some (.long (jL (z7 + (((x9 * x12) * r19) * r24)))), none, some (.int (jI (z9 + 1)))] [] w21 r)) : xGo 267 53 [some (.ref 39), some (.int (jI z1)), some (.int (jI z2)), some (.int (jI z3)), some (.long (jL z4)), none, some (.int (jI z6)), some (.long (jL z7)), none, some (.int (jI z9))] [] w r := by
  refine g_iload (pc' := 55) d_267_53 rfl rfl ?_
  refine g_iloadn (pc' := 56) d_267_55 rfl rfl ?_
  obtain ⟨hc1, h⟩ := h
  obtain ⟨hc2, h⟩ := h
  refine gz_ic_gt (pc' := 59) (pt := 112) d_267_56 (by decide) rfl hc1 hc2 (fun c => ?_) (fun c => ?_)
  · replace h := h.1 c
    refine g_lload (pc' := 114) d_267_112 rfl rfl ?_
    refine g_iload (pc' := 116) d_267_114 rfl rfl ?_
    refine g_iloadn (pc' := 117) d_267_116 rfl rfl ?_
    obtain ⟨r6, w3, hk4, hC5, h⟩ := h
    refine g_callS (pc' := 120) d_267_117 rfl st_267_285 (Or.inl rfl) na_266 ml_266 rfl rfl rfl rm_267_266 rfl rfl hk4 ?_
    obtain ⟨hc7, h⟩ := h
    refine gz_i2l (pc' := 121) d_267_120 rfl hc7 ?_
    refine g_lload (pc' := 123) d_267_121 rfl rfl ?_
    refine gz_lmul (pc' := 124) d_267_123 rfl ?_
    refine gz_ladd (pc' := 125) d_267_124 rfl ?_
    refine g_lstore (pc' := 127) (l' := [some (.ref 39), some (.int (jI z1)), some (.int (jI z2)), some (.int (jI z3)), some (.long (jL (z4 + (r6 * z7)))), none, some (.int (jI z6)), some (.long (jL z7)), none, some (.int (jI z9))]) d_267_125 rfl ml_267 rfl rfl ?_
    refine gz_iinc (pc' := 130) (l' := [some (.ref 39), some (.int (jI z1)), some (.int (jI z2)), some (.int (jI z3)), some (.long (jL (z4 + (r6 * z7)))), none, some (.int (jI (z6 + 1))), some (.long (jL z7)), none, some (.int (jI z9))]) d_267_127 rfl rfl ml_267 rfl rfl ?_
    refine g_goto (pt := 41) d_267_130 (by decide) ?_
    exact xGo.more (xle_s (xle_s (xle_s (xle_s (xle_s (xle_n (xle_s (xle_n (xle_n (xle_n xle_0)))))))))) h
  · replace h := h.2 c
    refine g_lload (pc' := 61) d_267_59 rfl rfl ?_
    refine g_aloadn (pc' := 62) d_267_61 rfl rfl ?_
    refine gz_getR (pc' := 65) d_267_62 rfl st_267_24 (kr_39_5 hC) ?_
    refine g_bipush (pc' := 67) (v := jI 40) d_267_65 rfl (by decide) ?_
    refine g_iloadn (pc' := 68) d_267_67 rfl rfl ?_
    refine gz_imul (pc' := 69) d_267_68 rfl ?_
    refine g_iload (pc' := 71) d_267_69 rfl rfl ?_
    refine gz_iadd (pc' := 72) d_267_71 rfl ?_
    obtain ⟨hc8, h⟩ := h
    obtain ⟨x9, hv10, h⟩ := h
    refine gz_lald (pc' := 73) d_267_72 rfl hc8 hv10 ?_
    refine g_aloadn (pc' := 74) d_267_73 rfl rfl ?_
    refine gz_getR (pc' := 77) d_267_74 rfl st_267_54 (kr_39_20 hC) ?_
    refine g_iloadn (pc' := 78) d_267_77 rfl rfl ?_
    refine g_iload (pc' := 80) d_267_78 rfl rfl ?_
    refine gz_isub (pc' := 81) d_267_80 rfl ?_
    obtain ⟨hc11, h⟩ := h
    obtain ⟨x12, hv13, h⟩ := h
    refine gz_iald (pc' := 82) d_267_81 rfl hc11 hv13 ?_
    obtain ⟨hc14, h⟩ := h
    refine gz_i2l (pc' := 83) d_267_82 rfl hc14 ?_
    refine gz_lmul (pc' := 84) d_267_83 rfl ?_
    refine g_iload (pc' := 86) d_267_84 rfl rfl ?_
    obtain ⟨hc15, h⟩ := h
    refine gz_i2l (pc' := 87) d_267_86 rfl hc15 ?_
    refine g_iload (pc' := 89) d_267_87 rfl rfl ?_
    obtain ⟨r19, w16, hk17, hC18, h⟩ := h
    refine g_callS (pc' := 92) d_267_89 rfl st_267_287 (Or.inl rfl) na_268 ml_268 rfl rfl rfl rm_267_268 rfl rfl hk17 ?_
    refine gz_lmul (pc' := 93) d_267_92 rfl ?_
    refine g_iloadn (pc' := 94) d_267_93 rfl rfl ?_
    obtain ⟨hc20, h⟩ := h
    refine gz_i2l (pc' := 95) d_267_94 rfl hc20 ?_
    refine g_iloadn (pc' := 96) d_267_95 rfl rfl ?_
    refine g_iload (pc' := 98) d_267_96 rfl rfl ?_
    refine gz_isub (pc' := 99) d_267_98 rfl ?_
    obtain ⟨r24, w21, hk22, hC23, h⟩ := h
    refine g_callS (pc' := 102) d_267_99 rfl st_267_287 (Or.inl rfl) na_268 ml_268 rfl rfl rfl rm_267_268 rfl rfl hk22 ?_
    refine gz_lmul (pc' := 103) d_267_102 rfl ?_
    refine gz_ladd (pc' := 104) d_267_103 rfl ?_
    refine g_lstore (pc' := 106) (l' := [some (.ref 39), some (.int (jI z1)), some (.int (jI z2)), some (.int (jI z3)), some (.long (jL z4)), none, some (.int (jI z6)), some (.long (jL (z7 + (((x9 * x12) * r19) * r24)))), none, some (.int (jI z9))]) d_267_104 rfl ml_267 rfl rfl ?_
    refine gz_iinc (pc' := 109) (l' := [some (.ref 39), some (.int (jI z1)), some (.int (jI z2)), some (.int (jI z3)), some (.long (jL z4)), none, some (.int (jI z6)), some (.long (jL (z7 + (((x9 * x12) * r19) * r24)))), none, some (.int (jI (z9 + 1)))]) d_267_106 rfl rfl ml_267 rfl rfl ?_
    refine g_goto (pt := 53) d_267_109 (by decide) ?_
    exact h
theorem Z_268_0 {z0 : Int} {z2 : Int} {w : xW} {r : Option Value × xW} (hC : CS w) (h : xGo 268 5 [some (.long (jL z0)), none, some (.int (jI z2)), some (.long (jL 1)), none, some (.int (jI 0))] [] w r) : xGo 268 0 [some (.long (jL z0)), none, some (.int (jI z2)), none, none, none] [] w r := by
  refine g_lconst (pc' := 1) (v := jL 1) d_268_0 rfl cl_1 ?_
  refine g_lstoren (pc' := 2) (l' := [some (.long (jL z0)), none, some (.int (jI z2)), some (.long (jL 1)), none, none]) d_268_1 rfl ml_268 rfl rfl ?_
  refine g_iconst (pc' := 3) d_268_2 rfl rfl ?_
  refine g_istore (pc' := 5) (l' := [some (.long (jL z0)), none, some (.int (jI z2)), some (.long (jL 1)), none, some (.int (jI 0))]) d_268_3 rfl ml_268 rfl rfl ?_
  exact h
theorem Z_268 {z0 : Int} {z2 : Int} {w : xW} {r : Option Value × xW} (hC : CS w) (h : xGo 268 5 [some (.long (jL z0)), none, some (.int (jI z2)), some (.long (jL 1)), none, some (.int (jI 0))] [] w r) : xCall 268 [.long (jL z0), .int (jI z2)] w r := E_268 (Z_268_0 hC h)
theorem Z_268_5 {z0 : Int} {z2 : Int} {z3 : Int} {z5 : Int} {w : xW} {r : Option Value × xW} (hC : CS w) (h : in32 z5 ∧ in32 z2 ∧ (z2 ≤ z5 → r = (some (.long (jL z3)), w)) ∧ (z5 < z2 → xGo 268 5 [some (.long (jL z0)), none, some (.int (jI z2)), some (.long (jL (z3 * z0))), none, some (.int (jI (z5 + 1)))] [] w r)) : xGo 268 5 [some (.long (jL z0)), none, some (.int (jI z2)), some (.long (jL z3)), none, some (.int (jI z5))] [] w r := by
  refine g_iload (pc' := 7) d_268_5 rfl rfl ?_
  refine g_iloadn (pc' := 8) d_268_7 rfl rfl ?_
  obtain ⟨hc1, h⟩ := h
  obtain ⟨hc2, h⟩ := h
  refine gz_ic_ge (pc' := 11) (pt := 21) d_268_8 (by decide) rfl hc1 hc2 (fun c => ?_) (fun c => ?_)
  · replace h := h.1 c
    refine g_lloadn (pc' := 22) d_268_21 rfl rfl ?_
    exact g_lret d_268_22 rt_268 h
  · replace h := h.2 c
    refine g_lloadn (pc' := 12) d_268_11 rfl rfl ?_
    refine g_lloadn (pc' := 13) d_268_12 rfl rfl ?_
    refine gz_lmul (pc' := 14) d_268_13 rfl ?_
    refine g_lstoren (pc' := 15) (l' := [some (.long (jL z0)), none, some (.int (jI z2)), some (.long (jL (z3 * z0))), none, some (.int (jI z5))]) d_268_14 rfl ml_268 rfl rfl ?_
    refine gz_iinc (pc' := 18) (l' := [some (.long (jL z0)), none, some (.int (jI z2)), some (.long (jL (z3 * z0))), none, some (.int (jI (z5 + 1)))]) d_268_15 rfl rfl ml_268 rfl rfl ?_
    refine g_goto (pt := 5) d_268_18 (by decide) ?_
    exact h
theorem Z_269_0 {z1 : Int} {z2 : Int} {z3 : Int} {w : xW} {r : Option Value × xW} (hC : CS w) (h : ∀ w2, w2 = pF w 39 0 (.int (jI 0)) → CS w2 → ∃ (P7 : Prop) (dP8 : Decidable P7) (w4 : xW), xCall 199 [.int (jI z1), .int (jI 2), .int (jI 38)] w2 (some (.int (bz P7)), w4) ∧ CS w4 ∧ (¬ P7 → r = (some (.int (jI (-1))), w4)) ∧ (P7 → in32 z1 ∧ ∃ y10, Int.tmod z1 2 = y10 ∧ in32 y10 ∧ (y10 = 1 → r = (some (.int (jI (-1))), w4)) ∧ (y10 ≠ 1 → ∃ (P16 : Prop) (dP17 : Decidable P16) (w13 : xW), xCall 228 [.ref 39, .int (jI z3)] w4 (some (.int (bz P16)), w13) ∧ CS w13 ∧ (¬ P16 → r = (some (.int (jI (-1))), w13)) ∧ (P16 → ∃ (P21 : Prop) (dP22 : Decidable P21) (w18 : xW), xCall 199 [.int (jI z2), .int (jI 1), .int (jI (z3 - 1))] w13 (some (.int (bz P21)), w18) ∧ CS w18 ∧ (P21 → xGo 269 49 [some (.ref 39), some (.int (jI z1)), some (.int (jI z2)), some (.int (jI z3)), some (.long (jL 0)), none, some (.int (jI 1))] [] w18 r) ∧ (¬ P21 → r = (some (.int (jI (-1))), w18)))))) : xGo 269 0 [some (.ref 39), some (.int (jI z1)), some (.int (jI z2)), some (.int (jI z3)), none, none, none] [] w r := by
  refine g_aloadn (pc' := 1) d_269_0 rfl rfl ?_
  refine g_iconst (pc' := 2) d_269_1 rfl rfl ?_
  have hpf1 := (kf_39_0 hC)
  have hC3 : CS (pF w 39 0 (.int (jI 0))) := ks_39_0 hC
  have h := h _ rfl hC3
  refine gz_putf (pc' := 5) d_269_2 rfl st_269_118 ft_12_0 ff_12_0 rfl (Or.inl rfl) hpf1 ?_
  refine g_iloadn (pc' := 6) d_269_5 rfl rfl ?_
  refine g_iconst (pc' := 7) d_269_6 rfl rfl ?_
  refine g_bipush (pc' := 9) (v := jI 38) d_269_7 rfl (by decide) ?_
  obtain ⟨P7, dP8, w4, hk5, hC6, h⟩ := h
  refine g_callS (pc' := 12) d_269_9 rfl st_269_137 (Or.inl rfl) na_199 ml_199 rfl rfl rfl rm_269_199 rfl rfl hk5 ?_
  refine gz_bt_eq (pc' := 15) (pt := 41) d_269_12 (by decide) rfl (fun c => ?_) (fun c => ?_)
  · replace h := h.1 c
    refine g_iconst (pc' := 42) d_269_41 rfl rfl ?_
    exact g_iret d_269_42 rt_269 h
  · replace h := h.2 c
    refine g_iloadn (pc' := 16) d_269_15 rfl rfl ?_
    refine g_iconst (pc' := 17) d_269_16 rfl rfl ?_
    obtain ⟨hc9, h⟩ := h
    obtain ⟨y10, hz11, h⟩ := h
    refine gz_irem (pc' := 18) d_269_17 rfl hc9 (s32 (z := 2)) (by decide) hz11 ?_
    refine g_iconst (pc' := 19) d_269_18 rfl rfl ?_
    obtain ⟨hc12, h⟩ := h
    refine gz_ic_eq (pc' := 22) (pt := 41) d_269_19 (by decide) rfl hc12 (s32 (z := 1)) (fun c => ?_) (fun c => ?_)
    · replace h := h.1 c
      refine g_iconst (pc' := 42) d_269_41 rfl rfl ?_
      exact g_iret d_269_42 rt_269 h
    · replace h := h.2 c
      refine g_aloadn (pc' := 23) d_269_22 rfl rfl ?_
      refine g_iloadn (pc' := 24) d_269_23 rfl rfl ?_
      obtain ⟨P16, dP17, w13, hk14, hC15, h⟩ := h
      refine gz_callV (pc' := 27) d_269_24 rfl st_269_185 na_228 ml_228 rfl rfl rfl rm_269_228 rfl rfl ow_228 (ko_39 hC6) hk14 ?_
      refine gz_bt_eq (pc' := 30) (pt := 41) d_269_27 (by decide) rfl (fun c => ?_) (fun c => ?_)
      · replace h := h.1 c
        refine g_iconst (pc' := 42) d_269_41 rfl rfl ?_
        exact g_iret d_269_42 rt_269 h
      · replace h := h.2 c
        refine g_iloadn (pc' := 31) d_269_30 rfl rfl ?_
        refine g_iconst (pc' := 32) d_269_31 rfl rfl ?_
        refine g_iloadn (pc' := 33) d_269_32 rfl rfl ?_
        refine g_iconst (pc' := 34) d_269_33 rfl rfl ?_
        refine gz_isub (pc' := 35) d_269_34 rfl ?_
        obtain ⟨P21, dP22, w18, hk19, hC20, h⟩ := h
        refine g_callS (pc' := 38) d_269_35 rfl st_269_137 (Or.inl rfl) na_199 ml_199 rfl rfl rfl rm_269_199 rfl rfl hk19 ?_
        refine gz_bt_ne (pc' := 41) (pt := 43) d_269_38 (by decide) rfl (fun c => ?_) (fun c => ?_)
        · replace h := h.1 c
          refine g_lconst (pc' := 44) (v := jL 0) d_269_43 rfl cl_0 ?_
          refine g_lstore (pc' := 46) (l' := [some (.ref 39), some (.int (jI z1)), some (.int (jI z2)), some (.int (jI z3)), some (.long (jL 0)), none, none]) d_269_44 rfl ml_269 rfl rfl ?_
          refine g_iconst (pc' := 47) d_269_46 rfl rfl ?_
          refine g_istore (pc' := 49) (l' := [some (.ref 39), some (.int (jI z1)), some (.int (jI z2)), some (.int (jI z3)), some (.long (jL 0)), none, some (.int (jI 1))]) d_269_47 rfl ml_269 rfl rfl ?_
          exact h
        · replace h := h.2 c
          refine g_iconst (pc' := 42) d_269_41 rfl rfl ?_
          exact g_iret d_269_42 rt_269 h
theorem Z_269 {z1 : Int} {z2 : Int} {z3 : Int} {w : xW} {r : Option Value × xW} (hC : CS w) (h : ∀ w2, w2 = pF w 39 0 (.int (jI 0)) → CS w2 → ∃ (P7 : Prop) (dP8 : Decidable P7) (w4 : xW), xCall 199 [.int (jI z1), .int (jI 2), .int (jI 38)] w2 (some (.int (bz P7)), w4) ∧ CS w4 ∧ (¬ P7 → r = (some (.int (jI (-1))), w4)) ∧ (P7 → in32 z1 ∧ ∃ y10, Int.tmod z1 2 = y10 ∧ in32 y10 ∧ (y10 = 1 → r = (some (.int (jI (-1))), w4)) ∧ (y10 ≠ 1 → ∃ (P16 : Prop) (dP17 : Decidable P16) (w13 : xW), xCall 228 [.ref 39, .int (jI z3)] w4 (some (.int (bz P16)), w13) ∧ CS w13 ∧ (¬ P16 → r = (some (.int (jI (-1))), w13)) ∧ (P16 → ∃ (P21 : Prop) (dP22 : Decidable P21) (w18 : xW), xCall 199 [.int (jI z2), .int (jI 1), .int (jI (z3 - 1))] w13 (some (.int (bz P21)), w18) ∧ CS w18 ∧ (P21 → xGo 269 49 [some (.ref 39), some (.int (jI z1)), some (.int (jI z2)), some (.int (jI z3)), some (.long (jL 0)), none, some (.int (jI 1))] [] w18 r) ∧ (¬ P21 → r = (some (.int (jI (-1))), w18)))))) : xCall 269 [.ref 39, .int (jI z1), .int (jI z2), .int (jI z3)] w r := E_269 (Z_269_0 hC h)
theorem Z_269_49 {z1 : Int} {z2 : Int} {z3 : Int} {z4 : Int} {z6 : Int} {w : xW} {r : Option Value × xW} (hC : CS w) (h : in32 z6 ∧ in32 z3 ∧ (z3 ≤ z6 → ∃ r6 w3, xCall 215 [.long (jL z4), .int (jI z3)] w (some (.int (jI r6)), w3) ∧ CS w3 ∧ in32 r6 ∧ in32 z1 ∧ in64 (r6 * z1) ∧ z3 ≠ 0 ∧ ∃ y11, Int.tmod (r6 * z1) z3 = y11 ∧ ∃ r16 w13, xCall 216 [.int (jI z2), .int (jI (z1 - 1)), .int (jI z3)] w3 (some (.int (jI r16)), w13) ∧ CS w13 ∧ in32 r16 ∧ ∃ r21 w18, xCall 215 [.long (jL (y11 * r16)), .int (jI z3)] w13 (some (.int (jI r21)), w18) ∧ CS w18 ∧ r = (some (.int (jI r21)), w18)) ∧ (z6 < z3 → ∃ r25 w22, xCall 216 [.int (jI z6), .int (jI (z1 - 1)), .int (jI z3)] w (some (.int (jI r25)), w22) ∧ CS w22 ∧ in32 (z6 * z2) ∧ z3 ≠ 0 ∧ ∃ y28, Int.tdiv (z6 * z2) z3 = y28 ∧ in32 (r25 * y28) ∧ xGo 269 49 [some (.ref 39), some (.int (jI z1)), some (.int (jI z2)), some (.int (jI z3)), some (.long (jL (z4 + (r25 * y28)))), none, some (.int (jI (z6 + 1)))] [] w22 r)) : xGo 269 49 [some (.ref 39), some (.int (jI z1)), some (.int (jI z2)), some (.int (jI z3)), some (.long (jL z4)), none, some (.int (jI z6))] [] w r := by
  refine g_iload (pc' := 51) d_269_49 rfl rfl ?_
  refine g_iloadn (pc' := 52) d_269_51 rfl rfl ?_
  obtain ⟨hc1, h⟩ := h
  obtain ⟨hc2, h⟩ := h
  refine gz_ic_ge (pc' := 55) (pt := 83) d_269_52 (by decide) rfl hc1 hc2 (fun c => ?_) (fun c => ?_)
  · replace h := h.1 c
    refine g_lload (pc' := 85) d_269_83 rfl rfl ?_
    refine g_iloadn (pc' := 86) d_269_85 rfl rfl ?_
    obtain ⟨r6, w3, hk4, hC5, h⟩ := h
    refine g_callS (pc' := 89) d_269_86 rfl st_269_170 (Or.inl rfl) na_215 ml_215 rfl rfl rfl rm_269_215 rfl rfl hk4 ?_
    obtain ⟨hc7, h⟩ := h
    refine gz_i2l (pc' := 90) d_269_89 rfl hc7 ?_
    refine g_iloadn (pc' := 91) d_269_90 rfl rfl ?_
    obtain ⟨hc8, h⟩ := h
    refine gz_i2l (pc' := 92) d_269_91 rfl hc8 ?_
    refine gz_lmul (pc' := 93) d_269_92 rfl ?_
    refine g_iloadn (pc' := 94) d_269_93 rfl rfl ?_
    refine gz_i2l (pc' := 95) d_269_94 rfl hc2 ?_
    obtain ⟨hc9, h⟩ := h
    obtain ⟨hc10, h⟩ := h
    obtain ⟨y11, hz12, h⟩ := h
    refine gz_lrem (pc' := 96) d_269_95 rfl hc9 (in3264 hc2) hc10 hz12 ?_
    refine g_iloadn (pc' := 97) d_269_96 rfl rfl ?_
    refine g_iloadn (pc' := 98) d_269_97 rfl rfl ?_
    refine g_iconst (pc' := 99) d_269_98 rfl rfl ?_
    refine gz_isub (pc' := 100) d_269_99 rfl ?_
    refine g_iloadn (pc' := 101) d_269_100 rfl rfl ?_
    obtain ⟨r16, w13, hk14, hC15, h⟩ := h
    refine g_callS (pc' := 104) d_269_101 rfl st_269_174 (Or.inl rfl) na_216 ml_216 rfl rfl rfl rm_269_216 rfl rfl hk14 ?_
    obtain ⟨hc17, h⟩ := h
    refine gz_i2l (pc' := 105) d_269_104 rfl hc17 ?_
    refine gz_lmul (pc' := 106) d_269_105 rfl ?_
    refine g_iloadn (pc' := 107) d_269_106 rfl rfl ?_
    obtain ⟨r21, w18, hk19, hC20, h⟩ := h
    refine g_callS (pc' := 110) d_269_107 rfl st_269_170 (Or.inl rfl) na_215 ml_215 rfl rfl rfl rm_269_215 rfl rfl hk19 ?_
    exact g_iret d_269_110 rt_269 h
  · replace h := h.2 c
    refine g_lload (pc' := 57) d_269_55 rfl rfl ?_
    refine g_iload (pc' := 59) d_269_57 rfl rfl ?_
    refine g_iloadn (pc' := 60) d_269_59 rfl rfl ?_
    refine g_iconst (pc' := 61) d_269_60 rfl rfl ?_
    refine gz_isub (pc' := 62) d_269_61 rfl ?_
    refine g_iloadn (pc' := 63) d_269_62 rfl rfl ?_
    obtain ⟨r25, w22, hk23, hC24, h⟩ := h
    refine g_callS (pc' := 66) d_269_63 rfl st_269_174 (Or.inl rfl) na_216 ml_216 rfl rfl rfl rm_269_216 rfl rfl hk23 ?_
    refine g_iload (pc' := 68) d_269_66 rfl rfl ?_
    refine g_iloadn (pc' := 69) d_269_68 rfl rfl ?_
    refine gz_imul (pc' := 70) d_269_69 rfl ?_
    refine g_iloadn (pc' := 71) d_269_70 rfl rfl ?_
    obtain ⟨hc26, h⟩ := h
    obtain ⟨hc27, h⟩ := h
    obtain ⟨y28, hz29, h⟩ := h
    refine gz_idiv (pc' := 72) d_269_71 rfl hc26 hc2 hc27 hz29 ?_
    refine gz_imul (pc' := 73) d_269_72 rfl ?_
    obtain ⟨hc30, h⟩ := h
    refine gz_i2l (pc' := 74) d_269_73 rfl hc30 ?_
    refine gz_ladd (pc' := 75) d_269_74 rfl ?_
    refine g_lstore (pc' := 77) (l' := [some (.ref 39), some (.int (jI z1)), some (.int (jI z2)), some (.int (jI z3)), some (.long (jL (z4 + (r25 * y28)))), none, some (.int (jI z6))]) d_269_75 rfl ml_269 rfl rfl ?_
    refine gz_iinc (pc' := 80) (l' := [some (.ref 39), some (.int (jI z1)), some (.int (jI z2)), some (.int (jI z3)), some (.long (jL (z4 + (r25 * y28)))), none, some (.int (jI (z6 + 1)))]) d_269_77 rfl rfl ml_269 rfl rfl ?_
    refine g_goto (pt := 49) d_269_80 (by decide) ?_
    exact h
theorem Z_270_0 {z1 : Int} {w : xW} {r : Option Value × xW} (hC : CS w) (h : ∀ w2, w2 = pF w 39 0 (.int (jI 0)) → CS w2 → ∃ (P7 : Prop) (dP8 : Decidable P7) (w4 : xW), xCall 199 [.int (jI z1), .int (jI 3), .int (jI 199)] w2 (some (.int (bz P7)), w4) ∧ CS w4 ∧ (P7 → xGo 270 22 [some (.ref 39), some (.int (jI z1)), some (.int (jI 0)), some (.int (jI 1))] [] w4 r) ∧ (¬ P7 → r = (some (.int (jI (-1))), w4))) : xGo 270 0 [some (.ref 39), some (.int (jI z1)), none, none] [] w r := by
  refine g_aloadn (pc' := 1) d_270_0 rfl rfl ?_
  refine g_iconst (pc' := 2) d_270_1 rfl rfl ?_
  have hpf1 := (kf_39_0 hC)
  have hC3 : CS (pF w 39 0 (.int (jI 0))) := ks_39_0 hC
  have h := h _ rfl hC3
  refine gz_putf (pc' := 5) d_270_2 rfl st_270_118 ft_12_0 ff_12_0 rfl (Or.inl rfl) hpf1 ?_
  refine g_iloadn (pc' := 6) d_270_5 rfl rfl ?_
  refine g_iconst (pc' := 7) d_270_6 rfl rfl ?_
  refine g_sipush (pc' := 10) (v := jI 199) d_270_7 rfl (by decide) ?_
  obtain ⟨P7, dP8, w4, hk5, hC6, h⟩ := h
  refine g_callS (pc' := 13) d_270_10 rfl st_270_137 (Or.inl rfl) na_199 ml_199 rfl rfl rfl rm_270_199 rfl rfl hk5 ?_
  refine gz_bt_ne (pc' := 16) (pt := 18) d_270_13 (by decide) rfl (fun c => ?_) (fun c => ?_)
  · replace h := h.1 c
    refine g_iconst (pc' := 19) d_270_18 rfl rfl ?_
    refine g_istoren (pc' := 20) (l' := [some (.ref 39), some (.int (jI z1)), some (.int (jI 0)), none]) d_270_19 rfl ml_270 rfl rfl ?_
    refine g_iconst (pc' := 21) d_270_20 rfl rfl ?_
    refine g_istoren (pc' := 22) (l' := [some (.ref 39), some (.int (jI z1)), some (.int (jI 0)), some (.int (jI 1))]) d_270_21 rfl ml_270 rfl rfl ?_
    exact h
  · replace h := h.2 c
    refine g_iconst (pc' := 17) d_270_16 rfl rfl ?_
    exact g_iret d_270_17 rt_270 h
theorem Z_270 {z1 : Int} {w : xW} {r : Option Value × xW} (hC : CS w) (h : ∀ w2, w2 = pF w 39 0 (.int (jI 0)) → CS w2 → ∃ (P7 : Prop) (dP8 : Decidable P7) (w4 : xW), xCall 199 [.int (jI z1), .int (jI 3), .int (jI 199)] w2 (some (.int (bz P7)), w4) ∧ CS w4 ∧ (P7 → xGo 270 22 [some (.ref 39), some (.int (jI z1)), some (.int (jI 0)), some (.int (jI 1))] [] w4 r) ∧ (¬ P7 → r = (some (.int (jI (-1))), w4))) : xCall 270 [.ref 39, .int (jI z1)] w r := E_270 (Z_270_0 hC h)
theorem Z_270_22 {z1 : Int} {z2 : Int} {z3 : Int} {w : xW} {r : Option Value × xW} (hC : CS w) (h : ∃ x1, fI w 39 12 7 x1 ∧ in32 z3 ∧ in32 x1 ∧ (x1 ≤ z3 → r = (some (.int (jI z2)), w)) ∧ (z3 < x1 → 0 ≤ z3 ∧ ∃ x6, rI w 44 (z3).toNat x6 ∧ in32 x6 ∧ in32 z1 ∧ (z1 < x6 → xGo 270 22 [some (.ref 39), some (.int (jI z1)), some (.int (jI (z2 + 0))), some (.int (jI (z3 + 1)))] [] w r) ∧ (x6 ≤ z1 → 0 ≤ z3 ∧ ∃ x11, rI w 44 (z3).toNat x11 ∧ ∃ r16 w13, xCall 258 [.ref 39, .int (jI x11)] w (some (.int (jI r16)), w13) ∧ CS w13 ∧ in32 r16 ∧ (r16 ≠ 0 → xGo 270 22 [some (.ref 39), some (.int (jI z1)), some (.int (jI (z2 + 0))), some (.int (jI (z3 + 1)))] [] w13 r) ∧ (r16 = 0 → xGo 270 22 [some (.ref 39), some (.int (jI z1)), some (.int (jI (z2 + 1))), some (.int (jI (z3 + 1)))] [] w13 r)))) : xGo 270 22 [some (.ref 39), some (.int (jI z1)), some (.int (jI z2)), some (.int (jI z3))] [] w r := by
  refine g_iloadn (pc' := 23) d_270_22 rfl rfl ?_
  refine g_aloadn (pc' := 24) d_270_23 rfl rfl ?_
  obtain ⟨x1, hv2, h⟩ := h
  refine gz_getI (pc' := 27) d_270_24 rfl st_270_96 hv2 ?_
  obtain ⟨hc3, h⟩ := h
  obtain ⟨hc4, h⟩ := h
  refine gz_ic_ge (pc' := 30) (pt := 67) d_270_27 (by decide) rfl hc3 hc4 (fun c => ?_) (fun c => ?_)
  · replace h := h.1 c
    refine g_iloadn (pc' := 68) d_270_67 rfl rfl ?_
    exact g_iret d_270_68 rt_270 h
  · replace h := h.2 c
    refine g_iloadn (pc' := 31) d_270_30 rfl rfl ?_
    refine g_aloadn (pc' := 32) d_270_31 rfl rfl ?_
    refine gz_getR (pc' := 35) d_270_32 rfl st_270_27 (kr_39_6 hC) ?_
    refine g_iloadn (pc' := 36) d_270_35 rfl rfl ?_
    obtain ⟨hc5, h⟩ := h
    obtain ⟨x6, hv7, h⟩ := h
    refine gz_iald (pc' := 37) d_270_36 rfl hc5 hv7 ?_
    refine g_iloadn (pc' := 38) d_270_37 rfl rfl ?_
    obtain ⟨hc8, h⟩ := h
    obtain ⟨hc9, h⟩ := h
    refine gz_ic_gt (pc' := 41) (pt := 58) d_270_38 (by decide) rfl hc8 hc9 (fun c => ?_) (fun c => ?_)
    · replace h := h.1 c
      refine g_iconst (pc' := 59) d_270_58 rfl rfl ?_
      refine gz_iadd (pc' := 60) d_270_59 rfl ?_
      refine g_istoren (pc' := 61) (l' := [some (.ref 39), some (.int (jI z1)), some (.int (jI (z2 + 0))), some (.int (jI z3))]) d_270_60 rfl ml_270 rfl rfl ?_
      refine gz_iinc (pc' := 64) (l' := [some (.ref 39), some (.int (jI z1)), some (.int (jI (z2 + 0))), some (.int (jI (z3 + 1)))]) d_270_61 rfl rfl ml_270 rfl rfl ?_
      refine g_goto (pt := 22) d_270_64 (by decide) ?_
      exact h
    · replace h := h.2 c
      refine g_aloadn (pc' := 42) d_270_41 rfl rfl ?_
      refine g_aloadn (pc' := 43) d_270_42 rfl rfl ?_
      refine gz_getR (pc' := 46) d_270_43 rfl st_270_27 (kr_39_6 hC) ?_
      refine g_iloadn (pc' := 47) d_270_46 rfl rfl ?_
      obtain ⟨hc10, h⟩ := h
      obtain ⟨x11, hv12, h⟩ := h
      refine gz_iald (pc' := 48) d_270_47 rfl hc10 hv12 ?_
      obtain ⟨r16, w13, hk14, hC15, h⟩ := h
      refine gz_callV (pc' := 51) d_270_48 rfl st_270_274 na_258 ml_258 rfl rfl rfl rm_270_258 rfl rfl ow_258 (ko_39 hC) hk14 ?_
      obtain ⟨hc17, h⟩ := h
      refine gz_if_ne (pc' := 54) (pt := 58) d_270_51 (by decide) rfl hc17 (fun c => ?_) (fun c => ?_)
      · replace h := h.1 c
        refine g_iconst (pc' := 59) d_270_58 rfl rfl ?_
        refine gz_iadd (pc' := 60) d_270_59 rfl ?_
        refine g_istoren (pc' := 61) (l' := [some (.ref 39), some (.int (jI z1)), some (.int (jI (z2 + 0))), some (.int (jI z3))]) d_270_60 rfl ml_270 rfl rfl ?_
        refine gz_iinc (pc' := 64) (l' := [some (.ref 39), some (.int (jI z1)), some (.int (jI (z2 + 0))), some (.int (jI (z3 + 1)))]) d_270_61 rfl rfl ml_270 rfl rfl ?_
        refine g_goto (pt := 22) d_270_64 (by decide) ?_
        exact h
      · replace h := h.2 c
        refine g_iconst (pc' := 55) d_270_54 rfl rfl ?_
        refine g_goto (pt := 59) d_270_55 (by decide) ?_
        refine gz_iadd (pc' := 60) d_270_59 rfl ?_
        refine g_istoren (pc' := 61) (l' := [some (.ref 39), some (.int (jI z1)), some (.int (jI (z2 + 1))), some (.int (jI z3))]) d_270_60 rfl ml_270 rfl rfl ?_
        refine gz_iinc (pc' := 64) (l' := [some (.ref 39), some (.int (jI z1)), some (.int (jI (z2 + 1))), some (.int (jI (z3 + 1)))]) d_270_61 rfl rfl ml_270 rfl rfl ?_
        refine g_goto (pt := 22) d_270_64 (by decide) ?_
        exact h
theorem Z_271_0 {z1 : Int} {z2 : Int} {z3 : Int} {w : xW} {r : Option Value × xW} (hC : CS w) (h : ∀ w2, w2 = pF w 39 0 (.int (jI 0)) → CS w2 → ∃ (P7 : Prop) (dP8 : Decidable P7) (w4 : xW), xCall 199 [.int (jI z1), .int (jI 0), .int (jI 24)] w2 (some (.int (bz P7)), w4) ∧ CS w4 ∧ (¬ P7 → r = (some (.long (jL (-9223372036854775808))), w4)) ∧ (P7 → ∃ (P12 : Prop) (dP13 : Decidable P12) (w9 : xW), xCall 199 [.int (jI z2), .int (jI 0), .int (jI (z1 + 1))] w4 (some (.int (bz P12)), w9) ∧ CS w9 ∧ (¬ P12 → r = (some (.long (jL (-9223372036854775808))), w9)) ∧ (P12 → ∃ (P17 : Prop) (dP18 : Decidable P17) (w14 : xW), xCall 199 [.int (jI z3), .int (jI 0), .int (jI 1)] w9 (some (.int (bz P17)), w14) ∧ CS w14 ∧ (P17 → ∃ x19, fI w14 39 12 4 x19 ∧ in32 z1 ∧ in32 x19 ∧ (z1 ≤ x19 → ∃ w23, xCall 272 [.ref 39, .int (jI z1)] w14 (none, w23) ∧ CS w23 ∧ in32 z3 ∧ (z3 ≠ 0 → 0 ≤ z2 ∧ ∃ x28, rL w23 55 (z2).toNat x28 ∧ r = (some (.long (jL x28)), w23)) ∧ (z3 = 0 → 0 ≤ z2 ∧ ∃ x31, rL w23 54 (z2).toNat x31 ∧ r = (some (.long (jL x31)), w23))) ∧ (x19 < z1 → r = (some (.long (jL (-2))), w14))) ∧ (¬ P17 → r = (some (.long (jL (-9223372036854775808))), w14))))) : xGo 271 0 [some (.ref 39), some (.int (jI z1)), some (.int (jI z2)), some (.int (jI z3))] [] w r := by
  refine g_aloadn (pc' := 1) d_271_0 rfl rfl ?_
  refine g_iconst (pc' := 2) d_271_1 rfl rfl ?_
  have hpf1 := (kf_39_0 hC)
  have hC3 : CS (pF w 39 0 (.int (jI 0))) := ks_39_0 hC
  have h := h _ rfl hC3
  refine gz_putf (pc' := 5) d_271_2 rfl st_271_118 ft_12_0 ff_12_0 rfl (Or.inl rfl) hpf1 ?_
  refine g_iloadn (pc' := 6) d_271_5 rfl rfl ?_
  refine g_iconst (pc' := 7) d_271_6 rfl rfl ?_
  refine g_bipush (pc' := 9) (v := jI 24) d_271_7 rfl (by decide) ?_
  obtain ⟨P7, dP8, w4, hk5, hC6, h⟩ := h
  refine g_callS (pc' := 12) d_271_9 rfl st_271_137 (Or.inl rfl) na_199 ml_199 rfl rfl rfl rm_271_199 rfl rfl hk5 ?_
  refine gz_bt_eq (pc' := 15) (pt := 35) d_271_12 (by decide) rfl (fun c => ?_) (fun c => ?_)
  · replace h := h.1 c
    refine g_ldc2 (pc' := 38) d_271_35 rfl st_271_166 rfl ?_
    exact g_lret d_271_38 rt_271 h
  · replace h := h.2 c
    refine g_iloadn (pc' := 16) d_271_15 rfl rfl ?_
    refine g_iconst (pc' := 17) d_271_16 rfl rfl ?_
    refine g_iloadn (pc' := 18) d_271_17 rfl rfl ?_
    refine g_iconst (pc' := 19) d_271_18 rfl rfl ?_
    refine gz_iadd (pc' := 20) d_271_19 rfl ?_
    obtain ⟨P12, dP13, w9, hk10, hC11, h⟩ := h
    refine g_callS (pc' := 23) d_271_20 rfl st_271_137 (Or.inl rfl) na_199 ml_199 rfl rfl rfl rm_271_199 rfl rfl hk10 ?_
    refine gz_bt_eq (pc' := 26) (pt := 35) d_271_23 (by decide) rfl (fun c => ?_) (fun c => ?_)
    · replace h := h.1 c
      refine g_ldc2 (pc' := 38) d_271_35 rfl st_271_166 rfl ?_
      exact g_lret d_271_38 rt_271 h
    · replace h := h.2 c
      refine g_iloadn (pc' := 27) d_271_26 rfl rfl ?_
      refine g_iconst (pc' := 28) d_271_27 rfl rfl ?_
      refine g_iconst (pc' := 29) d_271_28 rfl rfl ?_
      obtain ⟨P17, dP18, w14, hk15, hC16, h⟩ := h
      refine g_callS (pc' := 32) d_271_29 rfl st_271_137 (Or.inl rfl) na_199 ml_199 rfl rfl rfl rm_271_199 rfl rfl hk15 ?_
      refine gz_bt_ne (pc' := 35) (pt := 39) d_271_32 (by decide) rfl (fun c => ?_) (fun c => ?_)
      · replace h := h.1 c
        refine g_iloadn (pc' := 40) d_271_39 rfl rfl ?_
        refine g_aloadn (pc' := 41) d_271_40 rfl rfl ?_
        obtain ⟨x19, hv20, h⟩ := h
        refine gz_getI (pc' := 44) d_271_41 rfl st_271_20 hv20 ?_
        obtain ⟨hc21, h⟩ := h
        obtain ⟨hc22, h⟩ := h
        refine gz_ic_le (pc' := 47) (pt := 51) d_271_44 (by decide) rfl hc21 hc22 (fun c => ?_) (fun c => ?_)
        · replace h := h.1 c
          refine g_aloadn (pc' := 52) d_271_51 rfl rfl ?_
          refine g_iloadn (pc' := 53) d_271_52 rfl rfl ?_
          obtain ⟨w23, hk24, hC25, h⟩ := h
          refine gz_callV (pc' := 56) d_271_53 rfl st_271_299 na_272 ml_272 rfl rfl rfl rm_271_272 rfl rfl ow_272 (ko_39 hC16) hk24 ?_
          refine g_iloadn (pc' := 57) d_271_56 rfl rfl ?_
          obtain ⟨hc26, h⟩ := h
          refine gz_if_ne (pc' := 60) (pt := 69) d_271_57 (by decide) rfl hc26 (fun c => ?_) (fun c => ?_)
          · replace h := h.1 c
            refine g_aloadn (pc' := 70) d_271_69 rfl rfl ?_
            refine gz_getR (pc' := 73) d_271_70 rfl st_271_60 (kr_39_22 hC25) ?_
            refine g_iloadn (pc' := 74) d_271_73 rfl rfl ?_
            obtain ⟨hc27, h⟩ := h
            obtain ⟨x28, hv29, h⟩ := h
            refine gz_lald (pc' := 75) d_271_74 rfl hc27 hv29 ?_
            exact g_lret d_271_75 rt_271 h
          · replace h := h.2 c
            refine g_aloadn (pc' := 61) d_271_60 rfl rfl ?_
            refine gz_getR (pc' := 64) d_271_61 rfl st_271_57 (kr_39_21 hC25) ?_
            refine g_iloadn (pc' := 65) d_271_64 rfl rfl ?_
            obtain ⟨hc30, h⟩ := h
            obtain ⟨x31, hv32, h⟩ := h
            refine gz_lald (pc' := 66) d_271_65 rfl hc30 hv32 ?_
            refine g_goto (pt := 75) d_271_66 (by decide) ?_
            exact g_lret d_271_75 rt_271 h
        · replace h := h.2 c
          refine g_ldc2 (pc' := 50) d_271_47 rfl st_271_297 rfl ?_
          exact g_lret d_271_50 rt_271 h
      · replace h := h.2 c
        refine g_ldc2 (pc' := 38) d_271_35 rfl st_271_166 rfl ?_
        exact g_lret d_271_38 rt_271 h
theorem Z_271 {z1 : Int} {z2 : Int} {z3 : Int} {w : xW} {r : Option Value × xW} (hC : CS w) (h : ∀ w2, w2 = pF w 39 0 (.int (jI 0)) → CS w2 → ∃ (P7 : Prop) (dP8 : Decidable P7) (w4 : xW), xCall 199 [.int (jI z1), .int (jI 0), .int (jI 24)] w2 (some (.int (bz P7)), w4) ∧ CS w4 ∧ (¬ P7 → r = (some (.long (jL (-9223372036854775808))), w4)) ∧ (P7 → ∃ (P12 : Prop) (dP13 : Decidable P12) (w9 : xW), xCall 199 [.int (jI z2), .int (jI 0), .int (jI (z1 + 1))] w4 (some (.int (bz P12)), w9) ∧ CS w9 ∧ (¬ P12 → r = (some (.long (jL (-9223372036854775808))), w9)) ∧ (P12 → ∃ (P17 : Prop) (dP18 : Decidable P17) (w14 : xW), xCall 199 [.int (jI z3), .int (jI 0), .int (jI 1)] w9 (some (.int (bz P17)), w14) ∧ CS w14 ∧ (P17 → ∃ x19, fI w14 39 12 4 x19 ∧ in32 z1 ∧ in32 x19 ∧ (z1 ≤ x19 → ∃ w23, xCall 272 [.ref 39, .int (jI z1)] w14 (none, w23) ∧ CS w23 ∧ in32 z3 ∧ (z3 ≠ 0 → 0 ≤ z2 ∧ ∃ x28, rL w23 55 (z2).toNat x28 ∧ r = (some (.long (jL x28)), w23)) ∧ (z3 = 0 → 0 ≤ z2 ∧ ∃ x31, rL w23 54 (z2).toNat x31 ∧ r = (some (.long (jL x31)), w23))) ∧ (x19 < z1 → r = (some (.long (jL (-2))), w14))) ∧ (¬ P17 → r = (some (.long (jL (-9223372036854775808))), w14))))) : xCall 271 [.ref 39, .int (jI z1), .int (jI z2), .int (jI z3)] w r := E_271 (Z_271_0 hC h)
theorem Z_272_0 {z1 : Int} {w : xW} {r : Option Value × xW} (hC : CS w) (h : ∃ w1, xCall 273 [.ref 39, .int (jI 0), .long (jL 0), .long (jL 1)] w (none, w1) ∧ CS w1 ∧ xGo 272 9 [some (.ref 39), some (.int (jI z1)), some (.int (jI 1)), none, none, none, none, none, none, none, none, none, none, none, none, none] [] w1 r) : xGo 272 0 [some (.ref 39), some (.int (jI z1)), none, none, none, none, none, none, none, none, none, none, none, none, none, none] [] w r := by
  refine g_aloadn (pc' := 1) d_272_0 rfl rfl ?_
  refine g_iconst (pc' := 2) d_272_1 rfl rfl ?_
  refine g_lconst (pc' := 3) (v := jL 0) d_272_2 rfl cl_0 ?_
  refine g_lconst (pc' := 4) (v := jL 1) d_272_3 rfl cl_1 ?_
  obtain ⟨w1, hk2, hC3, h⟩ := h
  refine gz_callV (pc' := 7) d_272_4 rfl st_272_293 na_273 ml_273 rfl rfl rfl rm_272_273 rfl rfl ow_273 (ko_39 hC) hk2 ?_
  refine g_iconst (pc' := 8) d_272_7 rfl rfl ?_
  refine g_istoren (pc' := 9) (l' := [some (.ref 39), some (.int (jI z1)), some (.int (jI 1)), none, none, none, none, none, none, none, none, none, none, none, none, none]) d_272_8 rfl ml_272 rfl rfl ?_
  exact h
theorem Z_272 {z1 : Int} {w : xW} {r : Option Value × xW} (hC : CS w) (h : ∃ w1, xCall 273 [.ref 39, .int (jI 0), .long (jL 0), .long (jL 1)] w (none, w1) ∧ CS w1 ∧ xGo 272 9 [some (.ref 39), some (.int (jI z1)), some (.int (jI 1)), none, none, none, none, none, none, none, none, none, none, none, none, none] [] w1 r) : xCall 272 [.ref 39, .int (jI z1)] w r := E_272 (Z_272_0 hC h)
theorem Z_272_9 {z1 : Int} {z2 : Int} {w : xW} {r : Option Value × xW} (hC : CS w) (h : in32 z2 ∧ in32 (z1 + 1) ∧ (z1 + 1 < z2 → r = (none, w)) ∧ (z2 ≤ z1 + 1 → 0 ≤ 3 * ((z1 + 1) - z2) ∧ ∃ x4, rL w 41 (3 * ((z1 + 1) - z2)).toNat x4 ∧ 0 ≤ (3 * ((z1 + 1) - z2)) + 2 ∧ ∃ x7, rL w 41 ((3 * ((z1 + 1) - z2)) + 2).toNat x7 ∧ 0 ≤ (3 * ((z1 + 1) - z2)) + 1 ∧ ∃ x10, rL w 41 ((3 * ((z1 + 1) - z2)) + 1).toNat x10 ∧ 0 ≤ (3 * ((z1 + 1) - z2)) + 2 ∧ ∃ x13, rL w 41 ((3 * ((z1 + 1) - z2)) + 2).toNat x13 ∧ in32 ((z1 + 1) - z2) ∧ ((z1 + 1) - z2 ≠ 1 → 0 ≤ (40 * (z1 + 1)) + z2 ∧ ∃ x17, rL w 43 ((40 * (z1 + 1)) + z2).toNat x17 ∧ ∃ r22 w19, xCall 195 [.long (jL x17), .long (jL (z1 + 1))] w (some (.long (jL r22)), w19) ∧ CS w19 ∧ 0 ≤ (40 * (z1 + 1)) + z2 ∧ ∃ x24, rL w19 43 ((40 * (z1 + 1)) + z2).toNat x24 ∧ in64 x24 ∧ in64 r22 ∧ r22 ≠ 0 ∧ ∃ y29, Int.tdiv x24 r22 = y29 ∧ r22 ≠ 0 ∧ ∃ y32, Int.tdiv (z1 + 1) r22 = y32 ∧ ∃ r37 w34, xCall 195 [.long (jL y29), .long (jL x13)] w19 (some (.long (jL r37)), w34) ∧ CS w34 ∧ in64 y29 ∧ in64 r37 ∧ r37 ≠ 0 ∧ ∃ y41, Int.tdiv y29 r37 = y41 ∧ in64 x13 ∧ r37 ≠ 0 ∧ ∃ y45, Int.tdiv x13 r37 = y45 ∧ ∃ w47, xCall 273 [.ref 39, .int (jI z2), .long (jL (((x4 * x7) + x10) * y41)), .long (jL (y45 * y32))] w34 (none, w47) ∧ CS w47 ∧ xGo 272 9 [some (.ref 39), some (.int (jI z1)), some (.int (jI (z2 + 1))), none, none, none, none, none, none, none, none, none, none, none, none, none] [] w47 r) ∧ ((z1 + 1) - z2 = 1 → 0 ≤ (40 * (z1 + 1)) + z2 ∧ ∃ x51, rL w 43 ((40 * (z1 + 1)) + z2).toNat x51 ∧ ∃ r56 w53, xCall 195 [.long (jL x51), .long (jL (z1 + 1))] w (some (.long (jL r56)), w53) ∧ CS w53 ∧ 0 ≤ (40 * (z1 + 1)) + z2 ∧ ∃ x58, rL w53 43 ((40 * (z1 + 1)) + z2).toNat x58 ∧ in64 x58 ∧ in64 r56 ∧ r56 ≠ 0 ∧ ∃ y63, Int.tdiv x58 r56 = y63 ∧ r56 ≠ 0 ∧ ∃ y66, Int.tdiv (z1 + 1) r56 = y66 ∧ ∃ r71 w68, xCall 195 [.long (jL y63), .long (jL x13)] w53 (some (.long (jL r71)), w68) ∧ CS w68 ∧ in64 y63 ∧ in64 r71 ∧ r71 ≠ 0 ∧ ∃ y75, Int.tdiv y63 r71 = y75 ∧ in64 x13 ∧ r71 ≠ 0 ∧ ∃ y79, Int.tdiv x13 r71 = y79 ∧ ∃ w81, xCall 273 [.ref 39, .int (jI z2), .long (jL ((((x4 * x7) + x10) + x13) * y75)), .long (jL (y79 * y66))] w68 (none, w81) ∧ CS w81 ∧ xGo 272 9 [some (.ref 39), some (.int (jI z1)), some (.int (jI (z2 + 1))), none, none, none, none, none, none, none, none, none, none, none, none, none] [] w81 r))) : xGo 272 9 [some (.ref 39), some (.int (jI z1)), some (.int (jI z2)), none, none, none, none, none, none, none, none, none, none, none, none, none] [] w r := by
  refine g_iloadn (pc' := 10) d_272_9 rfl rfl ?_
  refine g_iloadn (pc' := 11) d_272_10 rfl rfl ?_
  refine g_iconst (pc' := 12) d_272_11 rfl rfl ?_
  refine gz_iadd (pc' := 13) d_272_12 rfl ?_
  obtain ⟨hc1, h⟩ := h
  obtain ⟨hc2, h⟩ := h
  refine gz_ic_gt (pc' := 16) (pt := 163) d_272_13 (by decide) rfl hc1 hc2 (fun c => ?_) (fun c => ?_)
  · replace h := h.1 c
    exact g_vret d_272_163 rt_272 h
  · replace h := h.2 c
    refine g_iloadn (pc' := 17) d_272_16 rfl rfl ?_
    refine g_iconst (pc' := 18) d_272_17 rfl rfl ?_
    refine gz_iadd (pc' := 19) d_272_18 rfl ?_
    refine g_iloadn (pc' := 20) d_272_19 rfl rfl ?_
    refine gz_isub (pc' := 21) d_272_20 rfl ?_
    refine g_istoren (pc' := 22) (l' := [some (.ref 39), some (.int (jI z1)), some (.int (jI z2)), some (.int (jI ((z1 + 1) - z2))), none, none, none, none, none, none, none, none, none, none, none, none]) d_272_21 rfl ml_272 rfl rfl ?_
    refine g_aloadn (pc' := 23) d_272_22 rfl rfl ?_
    refine gz_getR (pc' := 26) d_272_23 rfl st_272_13 (kr_39_2 hC) ?_
    refine g_iconst (pc' := 27) d_272_26 rfl rfl ?_
    refine g_iloadn (pc' := 28) d_272_27 rfl rfl ?_
    refine gz_imul (pc' := 29) d_272_28 rfl ?_
    obtain ⟨hc3, h⟩ := h
    obtain ⟨x4, hv5, h⟩ := h
    refine gz_lald (pc' := 30) d_272_29 rfl hc3 hv5 ?_
    refine g_aloadn (pc' := 31) d_272_30 rfl rfl ?_
    refine gz_getR (pc' := 34) d_272_31 rfl st_272_13 (kr_39_2 hC) ?_
    refine g_iconst (pc' := 35) d_272_34 rfl rfl ?_
    refine g_iloadn (pc' := 36) d_272_35 rfl rfl ?_
    refine gz_imul (pc' := 37) d_272_36 rfl ?_
    refine g_iconst (pc' := 38) d_272_37 rfl rfl ?_
    refine gz_iadd (pc' := 39) d_272_38 rfl ?_
    obtain ⟨hc6, h⟩ := h
    obtain ⟨x7, hv8, h⟩ := h
    refine gz_lald (pc' := 40) d_272_39 rfl hc6 hv8 ?_
    refine gz_lmul (pc' := 41) d_272_40 rfl ?_
    refine g_aloadn (pc' := 42) d_272_41 rfl rfl ?_
    refine gz_getR (pc' := 45) d_272_42 rfl st_272_13 (kr_39_2 hC) ?_
    refine g_iconst (pc' := 46) d_272_45 rfl rfl ?_
    refine g_iloadn (pc' := 47) d_272_46 rfl rfl ?_
    refine gz_imul (pc' := 48) d_272_47 rfl ?_
    refine g_iconst (pc' := 49) d_272_48 rfl rfl ?_
    refine gz_iadd (pc' := 50) d_272_49 rfl ?_
    obtain ⟨hc9, h⟩ := h
    obtain ⟨x10, hv11, h⟩ := h
    refine gz_lald (pc' := 51) d_272_50 rfl hc9 hv11 ?_
    refine gz_ladd (pc' := 52) d_272_51 rfl ?_
    refine g_lstore (pc' := 54) (l' := [some (.ref 39), some (.int (jI z1)), some (.int (jI z2)), some (.int (jI ((z1 + 1) - z2))), some (.long (jL ((x4 * x7) + x10))), none, none, none, none, none, none, none, none, none, none, none]) d_272_52 rfl ml_272 rfl rfl ?_
    refine g_aloadn (pc' := 55) d_272_54 rfl rfl ?_
    refine gz_getR (pc' := 58) d_272_55 rfl st_272_13 (kr_39_2 hC) ?_
    refine g_iconst (pc' := 59) d_272_58 rfl rfl ?_
    refine g_iloadn (pc' := 60) d_272_59 rfl rfl ?_
    refine gz_imul (pc' := 61) d_272_60 rfl ?_
    refine g_iconst (pc' := 62) d_272_61 rfl rfl ?_
    refine gz_iadd (pc' := 63) d_272_62 rfl ?_
    obtain ⟨hc12, h⟩ := h
    obtain ⟨x13, hv14, h⟩ := h
    refine gz_lald (pc' := 64) d_272_63 rfl hc12 hv14 ?_
    refine g_lstore (pc' := 66) (l' := [some (.ref 39), some (.int (jI z1)), some (.int (jI z2)), some (.int (jI ((z1 + 1) - z2))), some (.long (jL ((x4 * x7) + x10))), none, some (.long (jL x13)), none, none, none, none, none, none, none, none, none]) d_272_64 rfl ml_272 rfl rfl ?_
    refine g_iloadn (pc' := 67) d_272_66 rfl rfl ?_
    refine g_iconst (pc' := 68) d_272_67 rfl rfl ?_
    obtain ⟨hc15, h⟩ := h
    refine gz_ic_ne (pc' := 71) (pt := 78) d_272_68 (by decide) rfl hc15 (s32 (z := 1)) (fun c => ?_) (fun c => ?_)
    · replace h := h.1 c
      refine g_aloadn (pc' := 79) d_272_78 rfl rfl ?_
      refine gz_getR (pc' := 82) d_272_79 rfl st_272_24 (kr_39_5 hC) ?_
      refine g_bipush (pc' := 84) (v := jI 40) d_272_82 rfl (by decide) ?_
      refine g_iloadn (pc' := 85) d_272_84 rfl rfl ?_
      refine g_iconst (pc' := 86) d_272_85 rfl rfl ?_
      refine gz_iadd (pc' := 87) d_272_86 rfl ?_
      refine gz_imul (pc' := 88) d_272_87 rfl ?_
      refine g_iloadn (pc' := 89) d_272_88 rfl rfl ?_
      refine gz_iadd (pc' := 90) d_272_89 rfl ?_
      obtain ⟨hc16, h⟩ := h
      obtain ⟨x17, hv18, h⟩ := h
      refine gz_lald (pc' := 91) d_272_90 rfl hc16 hv18 ?_
      refine g_iloadn (pc' := 92) d_272_91 rfl rfl ?_
      refine g_iconst (pc' := 93) d_272_92 rfl rfl ?_
      refine gz_iadd (pc' := 94) d_272_93 rfl ?_
      refine gz_i2l (pc' := 95) d_272_94 rfl hc2 ?_
      obtain ⟨r22, w19, hk20, hC21, h⟩ := h
      refine g_callS (pc' := 98) d_272_95 rfl st_272_121 (Or.inl rfl) na_195 ml_195 rfl rfl rfl rm_272_195 rfl rfl hk20 ?_
      refine g_lstore (pc' := 100) (l' := [some (.ref 39), some (.int (jI z1)), some (.int (jI z2)), some (.int (jI ((z1 + 1) - z2))), some (.long (jL ((x4 * x7) + x10))), none, some (.long (jL x13)), none, some (.long (jL r22)), none, none, none, none, none, none, none]) d_272_98 rfl ml_272 rfl rfl ?_
      refine g_aloadn (pc' := 101) d_272_100 rfl rfl ?_
      refine gz_getR (pc' := 104) d_272_101 rfl st_272_24 (kr_39_5 hC21) ?_
      refine g_bipush (pc' := 106) (v := jI 40) d_272_104 rfl (by decide) ?_
      refine g_iloadn (pc' := 107) d_272_106 rfl rfl ?_
      refine g_iconst (pc' := 108) d_272_107 rfl rfl ?_
      refine gz_iadd (pc' := 109) d_272_108 rfl ?_
      refine gz_imul (pc' := 110) d_272_109 rfl ?_
      refine g_iloadn (pc' := 111) d_272_110 rfl rfl ?_
      refine gz_iadd (pc' := 112) d_272_111 rfl ?_
      obtain ⟨hc23, h⟩ := h
      obtain ⟨x24, hv25, h⟩ := h
      refine gz_lald (pc' := 113) d_272_112 rfl hc23 hv25 ?_
      refine g_lload (pc' := 115) d_272_113 rfl rfl ?_
      obtain ⟨hc26, h⟩ := h
      obtain ⟨hc27, h⟩ := h
      obtain ⟨hc28, h⟩ := h
      obtain ⟨y29, hz30, h⟩ := h
      refine gz_ldiv (pc' := 116) d_272_115 rfl hc26 hc27 hc28 hz30 ?_
      refine g_lstore (pc' := 118) (l' := [some (.ref 39), some (.int (jI z1)), some (.int (jI z2)), some (.int (jI ((z1 + 1) - z2))), some (.long (jL ((x4 * x7) + x10))), none, some (.long (jL x13)), none, some (.long (jL r22)), none, some (.long (jL y29)), none, none, none, none, none]) d_272_116 rfl ml_272 rfl rfl ?_
      refine g_iloadn (pc' := 119) d_272_118 rfl rfl ?_
      refine g_iconst (pc' := 120) d_272_119 rfl rfl ?_
      refine gz_iadd (pc' := 121) d_272_120 rfl ?_
      refine gz_i2l (pc' := 122) d_272_121 rfl hc2 ?_
      refine g_lload (pc' := 124) d_272_122 rfl rfl ?_
      obtain ⟨hc31, h⟩ := h
      obtain ⟨y32, hz33, h⟩ := h
      refine gz_ldiv (pc' := 125) d_272_124 rfl (in3264 hc2) hc27 hc31 hz33 ?_
      refine g_lstore (pc' := 127) (l' := [some (.ref 39), some (.int (jI z1)), some (.int (jI z2)), some (.int (jI ((z1 + 1) - z2))), some (.long (jL ((x4 * x7) + x10))), none, some (.long (jL x13)), none, some (.long (jL r22)), none, some (.long (jL y29)), none, some (.long (jL y32)), none, none, none]) d_272_125 rfl ml_272 rfl rfl ?_
      refine g_lload (pc' := 129) d_272_127 rfl rfl ?_
      refine g_lload (pc' := 131) d_272_129 rfl rfl ?_
      obtain ⟨r37, w34, hk35, hC36, h⟩ := h
      refine g_callS (pc' := 134) d_272_131 rfl st_272_121 (Or.inl rfl) na_195 ml_195 rfl rfl rfl rm_272_195 rfl rfl hk35 ?_
      refine g_lstore (pc' := 136) (l' := [some (.ref 39), some (.int (jI z1)), some (.int (jI z2)), some (.int (jI ((z1 + 1) - z2))), some (.long (jL ((x4 * x7) + x10))), none, some (.long (jL x13)), none, some (.long (jL r22)), none, some (.long (jL y29)), none, some (.long (jL y32)), none, some (.long (jL r37)), none]) d_272_134 rfl ml_272 rfl rfl ?_
      refine g_aloadn (pc' := 137) d_272_136 rfl rfl ?_
      refine g_iloadn (pc' := 138) d_272_137 rfl rfl ?_
      refine g_lload (pc' := 140) d_272_138 rfl rfl ?_
      refine g_lload (pc' := 142) d_272_140 rfl rfl ?_
      refine g_lload (pc' := 144) d_272_142 rfl rfl ?_
      obtain ⟨hc38, h⟩ := h
      obtain ⟨hc39, h⟩ := h
      obtain ⟨hc40, h⟩ := h
      obtain ⟨y41, hz42, h⟩ := h
      refine gz_ldiv (pc' := 145) d_272_144 rfl hc38 hc39 hc40 hz42 ?_
      refine gz_lmul (pc' := 146) d_272_145 rfl ?_
      refine g_lload (pc' := 148) d_272_146 rfl rfl ?_
      refine g_lload (pc' := 150) d_272_148 rfl rfl ?_
      obtain ⟨hc43, h⟩ := h
      obtain ⟨hc44, h⟩ := h
      obtain ⟨y45, hz46, h⟩ := h
      refine gz_ldiv (pc' := 151) d_272_150 rfl hc43 hc39 hc44 hz46 ?_
      refine g_lload (pc' := 153) d_272_151 rfl rfl ?_
      refine gz_lmul (pc' := 154) d_272_153 rfl ?_
      obtain ⟨w47, hk48, hC49, h⟩ := h
      refine gz_callV (pc' := 157) d_272_154 rfl st_272_293 na_273 ml_273 rfl rfl rfl rm_272_273 rfl rfl ow_273 (ko_39 hC36) hk48 ?_
      refine gz_iinc (pc' := 160) (l' := [some (.ref 39), some (.int (jI z1)), some (.int (jI (z2 + 1))), some (.int (jI ((z1 + 1) - z2))), some (.long (jL ((x4 * x7) + x10))), none, some (.long (jL x13)), none, some (.long (jL r22)), none, some (.long (jL y29)), none, some (.long (jL y32)), none, some (.long (jL r37)), none]) d_272_157 rfl rfl ml_272 rfl rfl ?_
      refine g_goto (pt := 9) d_272_160 (by decide) ?_
      exact xGo.more (xle_s (xle_s (xle_s (xle_n (xle_n (xle_n (xle_n (xle_n (xle_n (xle_n (xle_n (xle_n (xle_n (xle_n (xle_n (xle_n xle_0)))))))))))))))) h
    · replace h := h.2 c
      refine g_lload (pc' := 73) d_272_71 rfl rfl ?_
      refine g_lload (pc' := 75) d_272_73 rfl rfl ?_
      refine gz_ladd (pc' := 76) d_272_75 rfl ?_
      refine g_lstore (pc' := 78) (l' := [some (.ref 39), some (.int (jI z1)), some (.int (jI z2)), some (.int (jI ((z1 + 1) - z2))), some (.long (jL (((x4 * x7) + x10) + x13))), none, some (.long (jL x13)), none, none, none, none, none, none, none, none, none]) d_272_76 rfl ml_272 rfl rfl ?_
      refine g_aloadn (pc' := 79) d_272_78 rfl rfl ?_
      refine gz_getR (pc' := 82) d_272_79 rfl st_272_24 (kr_39_5 hC) ?_
      refine g_bipush (pc' := 84) (v := jI 40) d_272_82 rfl (by decide) ?_
      refine g_iloadn (pc' := 85) d_272_84 rfl rfl ?_
      refine g_iconst (pc' := 86) d_272_85 rfl rfl ?_
      refine gz_iadd (pc' := 87) d_272_86 rfl ?_
      refine gz_imul (pc' := 88) d_272_87 rfl ?_
      refine g_iloadn (pc' := 89) d_272_88 rfl rfl ?_
      refine gz_iadd (pc' := 90) d_272_89 rfl ?_
      obtain ⟨hc50, h⟩ := h
      obtain ⟨x51, hv52, h⟩ := h
      refine gz_lald (pc' := 91) d_272_90 rfl hc50 hv52 ?_
      refine g_iloadn (pc' := 92) d_272_91 rfl rfl ?_
      refine g_iconst (pc' := 93) d_272_92 rfl rfl ?_
      refine gz_iadd (pc' := 94) d_272_93 rfl ?_
      refine gz_i2l (pc' := 95) d_272_94 rfl hc2 ?_
      obtain ⟨r56, w53, hk54, hC55, h⟩ := h
      refine g_callS (pc' := 98) d_272_95 rfl st_272_121 (Or.inl rfl) na_195 ml_195 rfl rfl rfl rm_272_195 rfl rfl hk54 ?_
      refine g_lstore (pc' := 100) (l' := [some (.ref 39), some (.int (jI z1)), some (.int (jI z2)), some (.int (jI ((z1 + 1) - z2))), some (.long (jL (((x4 * x7) + x10) + x13))), none, some (.long (jL x13)), none, some (.long (jL r56)), none, none, none, none, none, none, none]) d_272_98 rfl ml_272 rfl rfl ?_
      refine g_aloadn (pc' := 101) d_272_100 rfl rfl ?_
      refine gz_getR (pc' := 104) d_272_101 rfl st_272_24 (kr_39_5 hC55) ?_
      refine g_bipush (pc' := 106) (v := jI 40) d_272_104 rfl (by decide) ?_
      refine g_iloadn (pc' := 107) d_272_106 rfl rfl ?_
      refine g_iconst (pc' := 108) d_272_107 rfl rfl ?_
      refine gz_iadd (pc' := 109) d_272_108 rfl ?_
      refine gz_imul (pc' := 110) d_272_109 rfl ?_
      refine g_iloadn (pc' := 111) d_272_110 rfl rfl ?_
      refine gz_iadd (pc' := 112) d_272_111 rfl ?_
      obtain ⟨hc57, h⟩ := h
      obtain ⟨x58, hv59, h⟩ := h
      refine gz_lald (pc' := 113) d_272_112 rfl hc57 hv59 ?_
      refine g_lload (pc' := 115) d_272_113 rfl rfl ?_
      obtain ⟨hc60, h⟩ := h
      obtain ⟨hc61, h⟩ := h
      obtain ⟨hc62, h⟩ := h
      obtain ⟨y63, hz64, h⟩ := h
      refine gz_ldiv (pc' := 116) d_272_115 rfl hc60 hc61 hc62 hz64 ?_
      refine g_lstore (pc' := 118) (l' := [some (.ref 39), some (.int (jI z1)), some (.int (jI z2)), some (.int (jI ((z1 + 1) - z2))), some (.long (jL (((x4 * x7) + x10) + x13))), none, some (.long (jL x13)), none, some (.long (jL r56)), none, some (.long (jL y63)), none, none, none, none, none]) d_272_116 rfl ml_272 rfl rfl ?_
      refine g_iloadn (pc' := 119) d_272_118 rfl rfl ?_
      refine g_iconst (pc' := 120) d_272_119 rfl rfl ?_
      refine gz_iadd (pc' := 121) d_272_120 rfl ?_
      refine gz_i2l (pc' := 122) d_272_121 rfl hc2 ?_
      refine g_lload (pc' := 124) d_272_122 rfl rfl ?_
      obtain ⟨hc65, h⟩ := h
      obtain ⟨y66, hz67, h⟩ := h
      refine gz_ldiv (pc' := 125) d_272_124 rfl (in3264 hc2) hc61 hc65 hz67 ?_
      refine g_lstore (pc' := 127) (l' := [some (.ref 39), some (.int (jI z1)), some (.int (jI z2)), some (.int (jI ((z1 + 1) - z2))), some (.long (jL (((x4 * x7) + x10) + x13))), none, some (.long (jL x13)), none, some (.long (jL r56)), none, some (.long (jL y63)), none, some (.long (jL y66)), none, none, none]) d_272_125 rfl ml_272 rfl rfl ?_
      refine g_lload (pc' := 129) d_272_127 rfl rfl ?_
      refine g_lload (pc' := 131) d_272_129 rfl rfl ?_
      obtain ⟨r71, w68, hk69, hC70, h⟩ := h
      refine g_callS (pc' := 134) d_272_131 rfl st_272_121 (Or.inl rfl) na_195 ml_195 rfl rfl rfl rm_272_195 rfl rfl hk69 ?_
      refine g_lstore (pc' := 136) (l' := [some (.ref 39), some (.int (jI z1)), some (.int (jI z2)), some (.int (jI ((z1 + 1) - z2))), some (.long (jL (((x4 * x7) + x10) + x13))), none, some (.long (jL x13)), none, some (.long (jL r56)), none, some (.long (jL y63)), none, some (.long (jL y66)), none, some (.long (jL r71)), none]) d_272_134 rfl ml_272 rfl rfl ?_
      refine g_aloadn (pc' := 137) d_272_136 rfl rfl ?_
      refine g_iloadn (pc' := 138) d_272_137 rfl rfl ?_
      refine g_lload (pc' := 140) d_272_138 rfl rfl ?_
      refine g_lload (pc' := 142) d_272_140 rfl rfl ?_
      refine g_lload (pc' := 144) d_272_142 rfl rfl ?_
      obtain ⟨hc72, h⟩ := h
      obtain ⟨hc73, h⟩ := h
      obtain ⟨hc74, h⟩ := h
      obtain ⟨y75, hz76, h⟩ := h
      refine gz_ldiv (pc' := 145) d_272_144 rfl hc72 hc73 hc74 hz76 ?_
      refine gz_lmul (pc' := 146) d_272_145 rfl ?_
      refine g_lload (pc' := 148) d_272_146 rfl rfl ?_
      refine g_lload (pc' := 150) d_272_148 rfl rfl ?_
      obtain ⟨hc77, h⟩ := h
      obtain ⟨hc78, h⟩ := h
      obtain ⟨y79, hz80, h⟩ := h
      refine gz_ldiv (pc' := 151) d_272_150 rfl hc77 hc73 hc78 hz80 ?_
      refine g_lload (pc' := 153) d_272_151 rfl rfl ?_
      refine gz_lmul (pc' := 154) d_272_153 rfl ?_
      obtain ⟨w81, hk82, hC83, h⟩ := h
      refine gz_callV (pc' := 157) d_272_154 rfl st_272_293 na_273 ml_273 rfl rfl rfl rm_272_273 rfl rfl ow_273 (ko_39 hC70) hk82 ?_
      refine gz_iinc (pc' := 160) (l' := [some (.ref 39), some (.int (jI z1)), some (.int (jI (z2 + 1))), some (.int (jI ((z1 + 1) - z2))), some (.long (jL (((x4 * x7) + x10) + x13))), none, some (.long (jL x13)), none, some (.long (jL r56)), none, some (.long (jL y63)), none, some (.long (jL y66)), none, some (.long (jL r71)), none]) d_272_157 rfl rfl ml_272 rfl rfl ?_
      refine g_goto (pt := 9) d_272_160 (by decide) ?_
      exact xGo.more (xle_s (xle_s (xle_s (xle_n (xle_n (xle_n (xle_n (xle_n (xle_n (xle_n (xle_n (xle_n (xle_n (xle_n (xle_n (xle_n xle_0)))))))))))))))) h
theorem Z_273_0 {z1 : Int} {z2 : Int} {z4 : Int} {w : xW} {r : Option Value × xW} (hC : CS w) (h : ∃ r4 w1, xCall 195 [.long (jL z2), .long (jL z4)] w (some (.long (jL r4)), w1) ∧ CS w1 ∧ in64 z2 ∧ in64 r4 ∧ r4 ≠ 0 ∧ ∃ y8, Int.tdiv z2 r4 = y8 ∧ (0 ≤ z1 ∧ z1 < 27) ∧ ∀ w12, w12 = pL w1 54 (z1).toNat (jL y8) → CS w12 → in64 z4 ∧ r4 ≠ 0 ∧ ∃ y16, Int.tdiv z4 r4 = y16 ∧ ∀ w19, w19 = pL w12 55 (z1).toNat (jL y16) → CS w19 → r = (none, w19)) : xGo 273 0 [some (.ref 39), some (.int (jI z1)), some (.long (jL z2)), none, some (.long (jL z4)), none, none, none] [] w r := by
  refine g_lloadn (pc' := 1) d_273_0 rfl rfl ?_
  refine g_lload (pc' := 3) d_273_1 rfl rfl ?_
  obtain ⟨r4, w1, hk2, hC3, h⟩ := h
  refine g_callS (pc' := 6) d_273_3 rfl st_273_121 (Or.inl rfl) na_195 ml_195 rfl rfl rfl rm_273_195 rfl rfl hk2 ?_
  refine g_lstore (pc' := 8) (l' := [some (.ref 39), some (.int (jI z1)), some (.long (jL z2)), none, some (.long (jL z4)), none, some (.long (jL r4)), none]) d_273_6 rfl ml_273 rfl rfl ?_
  refine g_aloadn (pc' := 9) d_273_8 rfl rfl ?_
  refine gz_getR (pc' := 12) d_273_9 rfl st_273_57 (kr_39_21 hC3) ?_
  refine g_iloadn (pc' := 13) d_273_12 rfl rfl ?_
  refine g_lloadn (pc' := 14) d_273_13 rfl rfl ?_
  refine g_lload (pc' := 16) d_273_14 rfl rfl ?_
  obtain ⟨hc5, h⟩ := h
  obtain ⟨hc6, h⟩ := h
  obtain ⟨hc7, h⟩ := h
  obtain ⟨y8, hz9, h⟩ := h
  refine gz_ldiv (pc' := 17) d_273_16 rfl hc5 hc6 hc7 hz9 ?_
  obtain ⟨hc10, h⟩ := h
  have hs11 := (kh_54 hC3 hc10)
  have hC13 : CS (pL w1 54 (z1).toNat (jL y8)) := hC3.putL
  have h := h _ rfl hC13
  refine gz_last (pc' := 18) d_273_17 rfl hs11 ?_
  refine g_aloadn (pc' := 19) d_273_18 rfl rfl ?_
  refine gz_getR (pc' := 22) d_273_19 rfl st_273_60 (kr_39_22 hC13) ?_
  refine g_iloadn (pc' := 23) d_273_22 rfl rfl ?_
  refine g_lload (pc' := 25) d_273_23 rfl rfl ?_
  refine g_lload (pc' := 27) d_273_25 rfl rfl ?_
  obtain ⟨hc14, h⟩ := h
  obtain ⟨hc15, h⟩ := h
  obtain ⟨y16, hz17, h⟩ := h
  refine gz_ldiv (pc' := 28) d_273_27 rfl hc14 hc6 hc15 hz17 ?_
  have hs18 := (kh_55 hC13 hc10)
  have hC20 : CS (pL (pL w1 54 (z1).toNat (jL y8)) 55 (z1).toNat (jL y16)) := hC13.putL
  have h := h _ rfl hC20
  refine gz_last (pc' := 29) d_273_28 rfl hs18 ?_
  exact g_vret d_273_29 rt_273 h
