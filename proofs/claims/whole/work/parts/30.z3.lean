/-! Z rows, laid by wip/whole/zp.py -/
theorem Z_191_0 {a1 : Nat} {z2 : Int} {z4 : Int} {w : xW} {r : Option Value × xW} (hC : CS w) (h : 0 ≤ (3 * z4) + 1 ∧ ∃ x2, rL w a1 ((3 * z4) + 1).toNat x2 ∧ ∃ x4, fJ w 39 12 8 x4 ∧ 0 ≤ 3 * z4 ∧ ∃ x7, rL w a1 (3 * z4).toNat x7 ∧ 0 ≤ (3 * z4) + 2 ∧ ∃ x10, rL w a1 ((3 * z4) + 2).toNat x10 ∧ in64 (z2 * x2) ∧ in64 x10 ∧ x10 ≠ 0 ∧ ∃ y15, Int.tdiv (z2 * x2) x10 = y15 ∧ ∀ w18, w18 = pF w 39 8 (.long (jL (x4 + ((z2 * x7) + y15)))) → CS w18 → ∃ x20, fJ w18 39 12 9 x20 ∧ 0 ≤ (3 * z4) + 2 ∧ ∃ x23, rL w18 a1 ((3 * z4) + 2).toNat x23 ∧ in64 x23 ∧ x23 ≠ 0 ∧ ∃ y27, Int.tmod (z2 * x2) x23 = y27 ∧ 0 ≤ (3 * z4) + 2 ∧ ∃ x30, rL w18 a1 ((3 * z4) + 2).toNat x30 ∧ in64 x30 ∧ x30 ≠ 0 ∧ ∃ y34, Int.tdiv 7420738134810 x30 = y34 ∧ ∀ w37, w37 = pF w18 39 9 (.long (jL (x20 + (y27 * y34)))) → CS w37 → r = (none, w37)) : xGo 191 0 [some (.ref 39), some (.ref a1), some (.long (jL z2)), none, some (.int (jI z4)), none, none] [] w r := by
  refine g_lloadn (pc' := 1) d_191_0 rfl rfl ?_
  refine g_aloadn (pc' := 2) d_191_1 rfl rfl ?_
  refine g_iconst (pc' := 3) d_191_2 rfl rfl ?_
  refine g_iload (pc' := 5) d_191_3 rfl rfl ?_
  refine gz_imul (pc' := 6) d_191_5 rfl ?_
  refine g_iconst (pc' := 7) d_191_6 rfl rfl ?_
  refine gz_iadd (pc' := 8) d_191_7 rfl ?_
  obtain ⟨hc1, h⟩ := h
  obtain ⟨x2, hv3, h⟩ := h
  refine gz_lald (pc' := 9) d_191_8 rfl hc1 hv3 ?_
  refine gz_lmul (pc' := 10) d_191_9 rfl ?_
  refine g_lstore (pc' := 12) (l' := [some (.ref 39), some (.ref a1), some (.long (jL z2)), none, some (.int (jI z4)), some (.long (jL (z2 * x2))), none]) d_191_10 rfl ml_191 rfl rfl ?_
  refine g_aloadn (pc' := 13) d_191_12 rfl rfl ?_
  refine g_dup (pc' := 14) d_191_13 rfl rfl ?_
  obtain ⟨x4, hv5, h⟩ := h
  refine gz_getJ (pc' := 17) d_191_14 rfl st_191_107 hv5 ?_
  refine g_lloadn (pc' := 18) d_191_17 rfl rfl ?_
  refine g_aloadn (pc' := 19) d_191_18 rfl rfl ?_
  refine g_iconst (pc' := 20) d_191_19 rfl rfl ?_
  refine g_iload (pc' := 22) d_191_20 rfl rfl ?_
  refine gz_imul (pc' := 23) d_191_22 rfl ?_
  obtain ⟨hc6, h⟩ := h
  obtain ⟨x7, hv8, h⟩ := h
  refine gz_lald (pc' := 24) d_191_23 rfl hc6 hv8 ?_
  refine gz_lmul (pc' := 25) d_191_24 rfl ?_
  refine g_lload (pc' := 27) d_191_25 rfl rfl ?_
  refine g_aloadn (pc' := 28) d_191_27 rfl rfl ?_
  refine g_iconst (pc' := 29) d_191_28 rfl rfl ?_
  refine g_iload (pc' := 31) d_191_29 rfl rfl ?_
  refine gz_imul (pc' := 32) d_191_31 rfl ?_
  refine g_iconst (pc' := 33) d_191_32 rfl rfl ?_
  refine gz_iadd (pc' := 34) d_191_33 rfl ?_
  obtain ⟨hc9, h⟩ := h
  obtain ⟨x10, hv11, h⟩ := h
  refine gz_lald (pc' := 35) d_191_34 rfl hc9 hv11 ?_
  obtain ⟨hc12, h⟩ := h
  obtain ⟨hc13, h⟩ := h
  obtain ⟨hc14, h⟩ := h
  obtain ⟨y15, hz16, h⟩ := h
  refine gz_ldiv (pc' := 36) d_191_35 rfl hc12 hc13 hc14 hz16 ?_
  refine gz_ladd (pc' := 37) d_191_36 rfl ?_
  refine gz_ladd (pc' := 38) d_191_37 rfl ?_
  have hpf17 := (kf_39_8 hC)
  have hC19 : CS (pF w 39 8 (.long (jL (x4 + ((z2 * x7) + y15))))) := ks_39_8 hC
  have h := h _ rfl hC19
  refine gz_putf (pc' := 41) d_191_38 rfl st_191_107 ft_12_8 ff_12_8 rfl (Or.inl rfl) hpf17 ?_
  refine g_aloadn (pc' := 42) d_191_41 rfl rfl ?_
  refine g_dup (pc' := 43) d_191_42 rfl rfl ?_
  obtain ⟨x20, hv21, h⟩ := h
  refine gz_getJ (pc' := 46) d_191_43 rfl st_191_111 hv21 ?_
  refine g_lload (pc' := 48) d_191_46 rfl rfl ?_
  refine g_aloadn (pc' := 49) d_191_48 rfl rfl ?_
  refine g_iconst (pc' := 50) d_191_49 rfl rfl ?_
  refine g_iload (pc' := 52) d_191_50 rfl rfl ?_
  refine gz_imul (pc' := 53) d_191_52 rfl ?_
  refine g_iconst (pc' := 54) d_191_53 rfl rfl ?_
  refine gz_iadd (pc' := 55) d_191_54 rfl ?_
  obtain ⟨hc22, h⟩ := h
  obtain ⟨x23, hv24, h⟩ := h
  refine gz_lald (pc' := 56) d_191_55 rfl hc22 hv24 ?_
  obtain ⟨hc25, h⟩ := h
  obtain ⟨hc26, h⟩ := h
  obtain ⟨y27, hz28, h⟩ := h
  refine gz_lrem (pc' := 57) d_191_56 rfl hc12 hc25 hc26 hz28 ?_
  refine g_ldc2 (pc' := 60) d_191_57 rfl st_191_125 rfl ?_
  refine g_aloadn (pc' := 61) d_191_60 rfl rfl ?_
  refine g_iconst (pc' := 62) d_191_61 rfl rfl ?_
  refine g_iload (pc' := 64) d_191_62 rfl rfl ?_
  refine gz_imul (pc' := 65) d_191_64 rfl ?_
  refine g_iconst (pc' := 66) d_191_65 rfl rfl ?_
  refine gz_iadd (pc' := 67) d_191_66 rfl ?_
  obtain ⟨hc29, h⟩ := h
  obtain ⟨x30, hv31, h⟩ := h
  refine gz_lald (pc' := 68) d_191_67 rfl hc29 hv31 ?_
  obtain ⟨hc32, h⟩ := h
  obtain ⟨hc33, h⟩ := h
  obtain ⟨y34, hz35, h⟩ := h
  refine gz_ldiv (pc' := 69) d_191_68 rfl (s64 (z := 7420738134810)) hc32 hc33 hz35 ?_
  refine gz_lmul (pc' := 70) d_191_69 rfl ?_
  refine gz_ladd (pc' := 71) d_191_70 rfl ?_
  have hpf36 := (kf_39_9 hC19)
  have hC38 : CS (pF (pF w 39 8 (.long (jL (x4 + ((z2 * x7) + y15))))) 39 9 (.long (jL (x20 + (y27 * y34))))) := ks_39_9 hC19
  have h := h _ rfl hC38
  refine gz_putf (pc' := 74) d_191_71 rfl st_191_111 ft_12_9 ff_12_9 rfl (Or.inl rfl) hpf36 ?_
  exact g_vret d_191_74 rt_191 h
theorem Z_191 {a1 : Nat} {z2 : Int} {z4 : Int} {w : xW} {r : Option Value × xW} (hC : CS w) (h : 0 ≤ (3 * z4) + 1 ∧ ∃ x2, rL w a1 ((3 * z4) + 1).toNat x2 ∧ ∃ x4, fJ w 39 12 8 x4 ∧ 0 ≤ 3 * z4 ∧ ∃ x7, rL w a1 (3 * z4).toNat x7 ∧ 0 ≤ (3 * z4) + 2 ∧ ∃ x10, rL w a1 ((3 * z4) + 2).toNat x10 ∧ in64 (z2 * x2) ∧ in64 x10 ∧ x10 ≠ 0 ∧ ∃ y15, Int.tdiv (z2 * x2) x10 = y15 ∧ ∀ w18, w18 = pF w 39 8 (.long (jL (x4 + ((z2 * x7) + y15)))) → CS w18 → ∃ x20, fJ w18 39 12 9 x20 ∧ 0 ≤ (3 * z4) + 2 ∧ ∃ x23, rL w18 a1 ((3 * z4) + 2).toNat x23 ∧ in64 x23 ∧ x23 ≠ 0 ∧ ∃ y27, Int.tmod (z2 * x2) x23 = y27 ∧ 0 ≤ (3 * z4) + 2 ∧ ∃ x30, rL w18 a1 ((3 * z4) + 2).toNat x30 ∧ in64 x30 ∧ x30 ≠ 0 ∧ ∃ y34, Int.tdiv 7420738134810 x30 = y34 ∧ ∀ w37, w37 = pF w18 39 9 (.long (jL (x20 + (y27 * y34)))) → CS w37 → r = (none, w37)) : xCall 191 [.ref 39, .ref a1, .long (jL z2), .int (jI z4)] w r := E_191 (Z_191_0 hC h)
theorem Z_192_0 {a1 : Nat} {z2 : Int} {z3 : Int} {z5 : Int} {z7 : Int} {w : xW} {r : Option Value × xW} (hC : CS w) (h : ∃ r4 w1, xCall 193 [.long (jL z5), .long (jL 7420738134810)] w (some (.long (jL r4)), w1) ∧ CS w1 ∧ ∃ r8 w5, xCall 193 [.long (jL z5), .long (jL 7420738134810)] w1 (some (.long (jL r8)), w5) ∧ CS w5 ∧ in32 z7 ∧ ∃ r13 w10, xCall 193 [.long (jL (z3 + r4)), .long (jL z7)] w5 (some (.long (jL r13)), w10) ∧ CS w10 ∧ ∃ w14, xCall 194 [.ref 39, .ref a1, .int (jI z2), .long (jL r13), .long (jL ((((z3 + r4) - (r13 * z7)) * 7420738134810) + (z5 - (r8 * 7420738134810)))), .long (jL (7420738134810 * z7))] w10 (none, w14) ∧ CS w14 ∧ r = (none, w14)) : xGo 192 0 [some (.ref 39), some (.ref a1), some (.int (jI z2)), some (.long (jL z3)), none, some (.long (jL z5)), none, some (.int (jI z7)), none, none, none, none, none, none] [] w r := by
  refine g_lloadn (pc' := 1) d_192_0 rfl rfl ?_
  refine g_lload (pc' := 3) d_192_1 rfl rfl ?_
  refine g_ldc2 (pc' := 6) d_192_3 rfl st_192_125 rfl ?_
  obtain ⟨r4, w1, hk2, hC3, h⟩ := h
  refine g_callS (pc' := 9) d_192_6 rfl st_192_131 (Or.inl rfl) na_193 ml_193 rfl rfl rfl rm_192_193 rfl rfl hk2 ?_
  refine gz_ladd (pc' := 10) d_192_9 rfl ?_
  refine g_lstore (pc' := 12) (l' := [some (.ref 39), some (.ref a1), some (.int (jI z2)), some (.long (jL z3)), none, some (.long (jL z5)), none, some (.int (jI z7)), some (.long (jL (z3 + r4))), none, none, none, none, none]) d_192_10 rfl ml_192 rfl rfl ?_
  refine g_lload (pc' := 14) d_192_12 rfl rfl ?_
  refine g_lload (pc' := 16) d_192_14 rfl rfl ?_
  refine g_ldc2 (pc' := 19) d_192_16 rfl st_192_125 rfl ?_
  obtain ⟨r8, w5, hk6, hC7, h⟩ := h
  refine g_callS (pc' := 22) d_192_19 rfl st_192_131 (Or.inl rfl) na_193 ml_193 rfl rfl rfl rm_192_193 rfl rfl hk6 ?_
  refine g_ldc2 (pc' := 25) d_192_22 rfl st_192_125 rfl ?_
  refine gz_lmul (pc' := 26) d_192_25 rfl ?_
  refine gz_lsub (pc' := 27) d_192_26 rfl ?_
  refine g_lstore (pc' := 29) (l' := [some (.ref 39), some (.ref a1), some (.int (jI z2)), some (.long (jL z3)), none, some (.long (jL z5)), none, some (.int (jI z7)), some (.long (jL (z3 + r4))), none, some (.long (jL (z5 - (r8 * 7420738134810)))), none, none, none]) d_192_27 rfl ml_192 rfl rfl ?_
  refine g_lload (pc' := 31) d_192_29 rfl rfl ?_
  refine g_iload (pc' := 33) d_192_31 rfl rfl ?_
  obtain ⟨hc9, h⟩ := h
  refine gz_i2l (pc' := 34) d_192_33 rfl hc9 ?_
  obtain ⟨r13, w10, hk11, hC12, h⟩ := h
  refine g_callS (pc' := 37) d_192_34 rfl st_192_131 (Or.inl rfl) na_193 ml_193 rfl rfl rfl rm_192_193 rfl rfl hk11 ?_
  refine g_lstore (pc' := 39) (l' := [some (.ref 39), some (.ref a1), some (.int (jI z2)), some (.long (jL z3)), none, some (.long (jL z5)), none, some (.int (jI z7)), some (.long (jL (z3 + r4))), none, some (.long (jL (z5 - (r8 * 7420738134810)))), none, some (.long (jL r13)), none]) d_192_37 rfl ml_192 rfl rfl ?_
  refine g_aloadn (pc' := 40) d_192_39 rfl rfl ?_
  refine g_aloadn (pc' := 41) d_192_40 rfl rfl ?_
  refine g_iloadn (pc' := 42) d_192_41 rfl rfl ?_
  refine g_lload (pc' := 44) d_192_42 rfl rfl ?_
  refine g_lload (pc' := 46) d_192_44 rfl rfl ?_
  refine g_lload (pc' := 48) d_192_46 rfl rfl ?_
  refine g_iload (pc' := 50) d_192_48 rfl rfl ?_
  refine gz_i2l (pc' := 51) d_192_50 rfl hc9 ?_
  refine gz_lmul (pc' := 52) d_192_51 rfl ?_
  refine gz_lsub (pc' := 53) d_192_52 rfl ?_
  refine g_ldc2 (pc' := 56) d_192_53 rfl st_192_125 rfl ?_
  refine gz_lmul (pc' := 57) d_192_56 rfl ?_
  refine g_lload (pc' := 59) d_192_57 rfl rfl ?_
  refine gz_ladd (pc' := 60) d_192_59 rfl ?_
  refine g_ldc2 (pc' := 63) d_192_60 rfl st_192_125 rfl ?_
  refine g_iload (pc' := 65) d_192_63 rfl rfl ?_
  refine gz_i2l (pc' := 66) d_192_65 rfl hc9 ?_
  refine gz_lmul (pc' := 67) d_192_66 rfl ?_
  obtain ⟨w14, hk15, hC16, h⟩ := h
  refine gz_callV (pc' := 70) d_192_67 rfl st_192_134 na_194 ml_194 rfl rfl rfl rm_192_194 rfl rfl ow_194 (ko_39 hC12) hk15 ?_
  exact g_vret d_192_70 rt_192 h
theorem Z_192 {a1 : Nat} {z2 : Int} {z3 : Int} {z5 : Int} {z7 : Int} {w : xW} {r : Option Value × xW} (hC : CS w) (h : ∃ r4 w1, xCall 193 [.long (jL z5), .long (jL 7420738134810)] w (some (.long (jL r4)), w1) ∧ CS w1 ∧ ∃ r8 w5, xCall 193 [.long (jL z5), .long (jL 7420738134810)] w1 (some (.long (jL r8)), w5) ∧ CS w5 ∧ in32 z7 ∧ ∃ r13 w10, xCall 193 [.long (jL (z3 + r4)), .long (jL z7)] w5 (some (.long (jL r13)), w10) ∧ CS w10 ∧ ∃ w14, xCall 194 [.ref 39, .ref a1, .int (jI z2), .long (jL r13), .long (jL ((((z3 + r4) - (r13 * z7)) * 7420738134810) + (z5 - (r8 * 7420738134810)))), .long (jL (7420738134810 * z7))] w10 (none, w14) ∧ CS w14 ∧ r = (none, w14)) : xCall 192 [.ref 39, .ref a1, .int (jI z2), .long (jL z3), .long (jL z5), .int (jI z7)] w r := E_192 (Z_192_0 hC h)
theorem Z_193_0 {z0 : Int} {z2 : Int} {w : xW} {r : Option Value × xW} (hC : CS w) (h : in64 z0 ∧ in64 z2 ∧ z2 ≠ 0 ∧ ∃ y4, Int.tdiv z0 z2 = y4 ∧ in64 (y4 * z2) ∧ (y4 * z2 ≤ z0 → r = (some (.long (jL y4)), w)) ∧ (z0 < y4 * z2 → r = (some (.long (jL (y4 - 1))), w))) : xGo 193 0 [some (.long (jL z0)), none, some (.long (jL z2)), none, none, none] [] w r := by
  refine g_lloadn (pc' := 1) d_193_0 rfl rfl ?_
  refine g_lloadn (pc' := 2) d_193_1 rfl rfl ?_
  obtain ⟨hc1, h⟩ := h
  obtain ⟨hc2, h⟩ := h
  obtain ⟨hc3, h⟩ := h
  obtain ⟨y4, hz5, h⟩ := h
  refine gz_ldiv (pc' := 3) d_193_2 rfl hc1 hc2 hc3 hz5 ?_
  refine g_lstore (pc' := 5) (l' := [some (.long (jL z0)), none, some (.long (jL z2)), none, some (.long (jL y4)), none]) d_193_3 rfl ml_193 rfl rfl ?_
  refine g_lload (pc' := 7) d_193_5 rfl rfl ?_
  refine g_lloadn (pc' := 8) d_193_7 rfl rfl ?_
  refine gz_lmul (pc' := 9) d_193_8 rfl ?_
  refine g_lloadn (pc' := 10) d_193_9 rfl rfl ?_
  obtain ⟨hc6, h⟩ := h
  refine gz_lc_le (pc' := 14) (pm := 11) (pt := 21) d_193_10 rfl d_193_11 (by decide) rfl hc6 hc1 (fun c => ?_) (fun c => ?_)
  · replace h := h.1 c
    refine g_lload (pc' := 23) d_193_21 rfl rfl ?_
    exact g_lret d_193_23 rt_193 h
  · replace h := h.2 c
    refine g_lload (pc' := 16) d_193_14 rfl rfl ?_
    refine g_lconst (pc' := 17) (v := jL 1) d_193_16 rfl cl_1 ?_
    refine gz_lsub (pc' := 18) d_193_17 rfl ?_
    refine g_goto (pt := 23) d_193_18 (by decide) ?_
    exact g_lret d_193_23 rt_193 h
theorem Z_193 {z0 : Int} {z2 : Int} {w : xW} {r : Option Value × xW} (hC : CS w) (h : in64 z0 ∧ in64 z2 ∧ z2 ≠ 0 ∧ ∃ y4, Int.tdiv z0 z2 = y4 ∧ in64 (y4 * z2) ∧ (y4 * z2 ≤ z0 → r = (some (.long (jL y4)), w)) ∧ (z0 < y4 * z2 → r = (some (.long (jL (y4 - 1))), w))) : xCall 193 [.long (jL z0), .long (jL z2)] w r := E_193 (Z_193_0 hC h)
theorem Z_194_0 {a1 : Nat} {z2 : Int} {z3 : Int} {z5 : Int} {z7 : Int} {w : xW} {r : Option Value × xW} (hC : CS w) (h : ∃ r4 w1, xCall 195 [.long (jL z5), .long (jL z7)] w (some (.long (jL r4)), w1) ∧ CS w1 ∧ in64 z5 ∧ in64 r4 ∧ r4 ≠ 0 ∧ ∃ y8, Int.tdiv z5 r4 = y8 ∧ in64 z7 ∧ r4 ≠ 0 ∧ ∃ y12, Int.tdiv z7 r4 = y12 ∧ ∃ w14, xCall 189 [.ref a1, .int (jI z2), .long (jL z3), .long (jL y8), .long (jL y12)] w1 (none, w14) ∧ CS w14 ∧ r = (none, w14)) : xGo 194 0 [some (.ref 39), some (.ref a1), some (.int (jI z2)), some (.long (jL z3)), none, some (.long (jL z5)), none, some (.long (jL z7)), none, none, none] [] w r := by
  refine g_lload (pc' := 2) d_194_0 rfl rfl ?_
  refine g_lload (pc' := 4) d_194_2 rfl rfl ?_
  obtain ⟨r4, w1, hk2, hC3, h⟩ := h
  refine g_callS (pc' := 7) d_194_4 rfl st_194_121 (Or.inl rfl) na_195 ml_195 rfl rfl rfl rm_194_195 rfl rfl hk2 ?_
  refine g_lstore (pc' := 9) (l' := [some (.ref 39), some (.ref a1), some (.int (jI z2)), some (.long (jL z3)), none, some (.long (jL z5)), none, some (.long (jL z7)), none, some (.long (jL r4)), none]) d_194_7 rfl ml_194 rfl rfl ?_
  refine g_aloadn (pc' := 10) d_194_9 rfl rfl ?_
  refine g_iloadn (pc' := 11) d_194_10 rfl rfl ?_
  refine g_lloadn (pc' := 12) d_194_11 rfl rfl ?_
  refine g_lload (pc' := 14) d_194_12 rfl rfl ?_
  refine g_lload (pc' := 16) d_194_14 rfl rfl ?_
  obtain ⟨hc5, h⟩ := h
  obtain ⟨hc6, h⟩ := h
  obtain ⟨hc7, h⟩ := h
  obtain ⟨y8, hz9, h⟩ := h
  refine gz_ldiv (pc' := 17) d_194_16 rfl hc5 hc6 hc7 hz9 ?_
  refine g_lload (pc' := 19) d_194_17 rfl rfl ?_
  refine g_lload (pc' := 21) d_194_19 rfl rfl ?_
  obtain ⟨hc10, h⟩ := h
  obtain ⟨hc11, h⟩ := h
  obtain ⟨y12, hz13, h⟩ := h
  refine gz_ldiv (pc' := 22) d_194_21 rfl hc10 hc6 hc11 hz13 ?_
  obtain ⟨w14, hk15, hC16, h⟩ := h
  refine g_callS (pc' := 25) d_194_22 rfl st_194_99 (Or.inl rfl) na_189 ml_189 rfl rfl rfl rm_194_189 rfl rfl hk15 ?_
  exact g_vret d_194_25 rt_194 h
theorem Z_194 {a1 : Nat} {z2 : Int} {z3 : Int} {z5 : Int} {z7 : Int} {w : xW} {r : Option Value × xW} (hC : CS w) (h : ∃ r4 w1, xCall 195 [.long (jL z5), .long (jL z7)] w (some (.long (jL r4)), w1) ∧ CS w1 ∧ in64 z5 ∧ in64 r4 ∧ r4 ≠ 0 ∧ ∃ y8, Int.tdiv z5 r4 = y8 ∧ in64 z7 ∧ r4 ≠ 0 ∧ ∃ y12, Int.tdiv z7 r4 = y12 ∧ ∃ w14, xCall 189 [.ref a1, .int (jI z2), .long (jL z3), .long (jL y8), .long (jL y12)] w1 (none, w14) ∧ CS w14 ∧ r = (none, w14)) : xCall 194 [.ref 39, .ref a1, .int (jI z2), .long (jL z3), .long (jL z5), .long (jL z7)] w r := E_194 (Z_194_0 hC h)
theorem Z_195_0 {z0 : Int} {z2 : Int} {w : xW} {r : Option Value × xW} (hC : CS w) (h : in64 z0 ∧ (0 ≤ z0 → in64 z2 ∧ (0 ≤ z2 → xGo 195 28 [some (.long (jL z0)), none, some (.long (jL z2)), none, some (.long (jL z0)), none, some (.long (jL z2)), none, none, none] [] w r) ∧ (z2 < 0 → xGo 195 28 [some (.long (jL z0)), none, some (.long (jL z2)), none, some (.long (jL z0)), none, some (.long (jL (-z2))), none, none, none] [] w r)) ∧ (z0 < 0 → in64 z2 ∧ (0 ≤ z2 → xGo 195 28 [some (.long (jL z0)), none, some (.long (jL z2)), none, some (.long (jL (-z0))), none, some (.long (jL z2)), none, none, none] [] w r) ∧ (z2 < 0 → xGo 195 28 [some (.long (jL z0)), none, some (.long (jL z2)), none, some (.long (jL (-z0))), none, some (.long (jL (-z2))), none, none, none] [] w r))) : xGo 195 0 [some (.long (jL z0)), none, some (.long (jL z2)), none, none, none, none, none, none, none] [] w r := by
  refine g_lloadn (pc' := 1) d_195_0 rfl rfl ?_
  refine g_lconst (pc' := 2) (v := jL 0) d_195_1 rfl cl_0 ?_
  obtain ⟨hc1, h⟩ := h
  refine gz_lc_ge (pc' := 6) (pm := 3) (pt := 11) d_195_2 rfl d_195_3 (by decide) rfl hc1 (s64 (z := 0)) (fun c => ?_) (fun c => ?_)
  · replace h := h.1 c
    refine g_lloadn (pc' := 12) d_195_11 rfl rfl ?_
    refine g_lstore (pc' := 14) (l' := [some (.long (jL z0)), none, some (.long (jL z2)), none, some (.long (jL z0)), none, none, none, none, none]) d_195_12 rfl ml_195 rfl rfl ?_
    refine g_lloadn (pc' := 15) d_195_14 rfl rfl ?_
    refine g_lconst (pc' := 16) (v := jL 0) d_195_15 rfl cl_0 ?_
    obtain ⟨hc2, h⟩ := h
    refine gz_lc_ge (pc' := 20) (pm := 17) (pt := 25) d_195_16 rfl d_195_17 (by decide) rfl hc2 (s64 (z := 0)) (fun c => ?_) (fun c => ?_)
    · replace h := h.1 c
      refine g_lloadn (pc' := 26) d_195_25 rfl rfl ?_
      refine g_lstore (pc' := 28) (l' := [some (.long (jL z0)), none, some (.long (jL z2)), none, some (.long (jL z0)), none, some (.long (jL z2)), none, none, none]) d_195_26 rfl ml_195 rfl rfl ?_
      exact h
    · replace h := h.2 c
      refine g_lloadn (pc' := 21) d_195_20 rfl rfl ?_
      refine gz_lneg (pc' := 22) d_195_21 rfl ?_
      refine g_goto (pt := 26) d_195_22 (by decide) ?_
      refine g_lstore (pc' := 28) (l' := [some (.long (jL z0)), none, some (.long (jL z2)), none, some (.long (jL z0)), none, some (.long (jL (-z2))), none, none, none]) d_195_26 rfl ml_195 rfl rfl ?_
      exact h
  · replace h := h.2 c
    refine g_lloadn (pc' := 7) d_195_6 rfl rfl ?_
    refine gz_lneg (pc' := 8) d_195_7 rfl ?_
    refine g_goto (pt := 12) d_195_8 (by decide) ?_
    refine g_lstore (pc' := 14) (l' := [some (.long (jL z0)), none, some (.long (jL z2)), none, some (.long (jL (-z0))), none, none, none, none, none]) d_195_12 rfl ml_195 rfl rfl ?_
    refine g_lloadn (pc' := 15) d_195_14 rfl rfl ?_
    refine g_lconst (pc' := 16) (v := jL 0) d_195_15 rfl cl_0 ?_
    obtain ⟨hc3, h⟩ := h
    refine gz_lc_ge (pc' := 20) (pm := 17) (pt := 25) d_195_16 rfl d_195_17 (by decide) rfl hc3 (s64 (z := 0)) (fun c => ?_) (fun c => ?_)
    · replace h := h.1 c
      refine g_lloadn (pc' := 26) d_195_25 rfl rfl ?_
      refine g_lstore (pc' := 28) (l' := [some (.long (jL z0)), none, some (.long (jL z2)), none, some (.long (jL (-z0))), none, some (.long (jL z2)), none, none, none]) d_195_26 rfl ml_195 rfl rfl ?_
      exact h
    · replace h := h.2 c
      refine g_lloadn (pc' := 21) d_195_20 rfl rfl ?_
      refine gz_lneg (pc' := 22) d_195_21 rfl ?_
      refine g_goto (pt := 26) d_195_22 (by decide) ?_
      refine g_lstore (pc' := 28) (l' := [some (.long (jL z0)), none, some (.long (jL z2)), none, some (.long (jL (-z0))), none, some (.long (jL (-z2))), none, none, none]) d_195_26 rfl ml_195 rfl rfl ?_
      exact h
theorem Z_195 {z0 : Int} {z2 : Int} {w : xW} {r : Option Value × xW} (hC : CS w) (h : in64 z0 ∧ (0 ≤ z0 → in64 z2 ∧ (0 ≤ z2 → xGo 195 28 [some (.long (jL z0)), none, some (.long (jL z2)), none, some (.long (jL z0)), none, some (.long (jL z2)), none, none, none] [] w r) ∧ (z2 < 0 → xGo 195 28 [some (.long (jL z0)), none, some (.long (jL z2)), none, some (.long (jL z0)), none, some (.long (jL (-z2))), none, none, none] [] w r)) ∧ (z0 < 0 → in64 z2 ∧ (0 ≤ z2 → xGo 195 28 [some (.long (jL z0)), none, some (.long (jL z2)), none, some (.long (jL (-z0))), none, some (.long (jL z2)), none, none, none] [] w r) ∧ (z2 < 0 → xGo 195 28 [some (.long (jL z0)), none, some (.long (jL z2)), none, some (.long (jL (-z0))), none, some (.long (jL (-z2))), none, none, none] [] w r))) : xCall 195 [.long (jL z0), .long (jL z2)] w r := E_195 (Z_195_0 hC h)
theorem Z_195_28 {z0 : Int} {z2 : Int} {z4 : Int} {z6 : Int} {w : xW} {r : Option Value × xW} (hC : CS w) (h : in64 z6 ∧ (z6 = 0 → r = (some (.long (jL z4)), w)) ∧ (z6 ≠ 0 → in64 z4 ∧ z6 ≠ 0 ∧ ∃ y4, Int.tmod z4 z6 = y4 ∧ xGo 195 28 [some (.long (jL z0)), none, some (.long (jL z2)), none, some (.long (jL z6)), none, some (.long (jL y4)), none, none, none] [] w r)) : xGo 195 28 [some (.long (jL z0)), none, some (.long (jL z2)), none, some (.long (jL z4)), none, some (.long (jL z6)), none, none, none] [] w r := by
  refine g_lload (pc' := 30) d_195_28 rfl rfl ?_
  refine g_lconst (pc' := 31) (v := jL 0) d_195_30 rfl cl_0 ?_
  obtain ⟨hc1, h⟩ := h
  refine gz_lc_eq (pc' := 35) (pm := 32) (pt := 53) d_195_31 rfl d_195_32 (by decide) rfl hc1 (s64 (z := 0)) (fun c => ?_) (fun c => ?_)
  · replace h := h.1 c
    refine g_lload (pc' := 55) d_195_53 rfl rfl ?_
    exact g_lret d_195_55 rt_195 h
  · replace h := h.2 c
    refine g_lload (pc' := 37) d_195_35 rfl rfl ?_
    refine g_lload (pc' := 39) d_195_37 rfl rfl ?_
    obtain ⟨hc2, h⟩ := h
    obtain ⟨hc3, h⟩ := h
    obtain ⟨y4, hz5, h⟩ := h
    refine gz_lrem (pc' := 40) d_195_39 rfl hc2 hc1 hc3 hz5 ?_
    refine g_lstore (pc' := 42) (l' := [some (.long (jL z0)), none, some (.long (jL z2)), none, some (.long (jL z4)), none, some (.long (jL z6)), none, some (.long (jL y4)), none]) d_195_40 rfl ml_195 rfl rfl ?_
    refine g_lload (pc' := 44) d_195_42 rfl rfl ?_
    refine g_lstore (pc' := 46) (l' := [some (.long (jL z0)), none, some (.long (jL z2)), none, some (.long (jL z6)), none, some (.long (jL z6)), none, some (.long (jL y4)), none]) d_195_44 rfl ml_195 rfl rfl ?_
    refine g_lload (pc' := 48) d_195_46 rfl rfl ?_
    refine g_lstore (pc' := 50) (l' := [some (.long (jL z0)), none, some (.long (jL z2)), none, some (.long (jL z6)), none, some (.long (jL y4)), none, some (.long (jL y4)), none]) d_195_48 rfl ml_195 rfl rfl ?_
    refine g_goto (pt := 28) d_195_50 (by decide) ?_
    exact xGo.more (xle_s (xle_n (xle_s (xle_n (xle_s (xle_n (xle_s (xle_n (xle_n (xle_n xle_0)))))))))) h
theorem Z_196_0  {w : xW} {r : Option Value × xW} (hC : CS w) (h : ∃ x1, fI w 39 12 0 x1 ∧ r = (some (.int (jI x1)), w)) : xGo 196 0 [some (.ref 39)] [] w r := by
  refine g_aloadn (pc' := 1) d_196_0 rfl rfl ?_
  obtain ⟨x1, hv2, h⟩ := h
  refine gz_getI (pc' := 4) d_196_1 rfl st_196_118 hv2 ?_
  exact g_iret d_196_4 rt_196 h
theorem Z_196  {w : xW} {r : Option Value × xW} (hC : CS w) (h : ∃ x1, fI w 39 12 0 x1 ∧ r = (some (.int (jI x1)), w)) : xCall 196 [.ref 39] w r := E_196 (Z_196_0 hC h)
theorem Z_197_0 {z1 : Int} {z2 : Int} {w : xW} {r : Option Value × xW} (hC : CS w) (h : ∀ w2, w2 = pF w 39 0 (.int (jI 0)) → CS w2 → ∃ (P7 : Prop) (dP8 : Decidable P7) (w4 : xW), xCall 198 [.ref 39, .int (jI z1)] w2 (some (.int (bz P7)), w4) ∧ CS w4 ∧ (¬ P7 → r = (some (.int (jI (-1))), w4)) ∧ (P7 → ∃ (P12 : Prop) (dP13 : Decidable P12) (w9 : xW), xCall 199 [.int (jI z2), .int (jI 0), .int (jI 2)] w4 (some (.int (bz P12)), w9) ∧ CS w9 ∧ (P12 → in32 z2 ∧ (z2 ≠ 0 → xGo 197 44 [some (.ref 39), some (.int (jI z1)), some (.int (jI z2)), some (.int (jI 0))] [] w9 r) ∧ (z2 = 0 → ∃ x15, fI w9 39 12 4 x15 ∧ ∃ (P20 : Prop) (dP21 : Decidable P20) (w17 : xW), xCall 200 [.ref 39, .int (jI x15)] w9 (some (.int (bz P20)), w17) ∧ CS w17 ∧ (P20 → xGo 197 44 [some (.ref 39), some (.int (jI z1)), some (.int (jI z2)), some (.int (jI 0))] [] w17 r) ∧ (¬ P20 → r = (some (.int (jI (-3))), w17)))) ∧ (¬ P12 → r = (some (.int (jI (-1))), w9)))) : xGo 197 0 [some (.ref 39), some (.int (jI z1)), some (.int (jI z2)), none] [] w r := by
  refine g_aloadn (pc' := 1) d_197_0 rfl rfl ?_
  refine g_iconst (pc' := 2) d_197_1 rfl rfl ?_
  have hpf1 := (kf_39_0 hC)
  have hC3 : CS (pF w 39 0 (.int (jI 0))) := ks_39_0 hC
  have h := h _ rfl hC3
  refine gz_putf (pc' := 5) d_197_2 rfl st_197_118 ft_12_0 ff_12_0 rfl (Or.inl rfl) hpf1 ?_
  refine g_aloadn (pc' := 6) d_197_5 rfl rfl ?_
  refine g_iloadn (pc' := 7) d_197_6 rfl rfl ?_
  obtain ⟨P7, dP8, w4, hk5, hC6, h⟩ := h
  refine gz_callV (pc' := 10) d_197_7 rfl st_197_145 na_198 ml_198 rfl rfl rfl rm_197_198 rfl rfl ow_198 (ko_39 hC3) hk5 ?_
  refine gz_bt_eq (pc' := 13) (pt := 22) d_197_10 (by decide) rfl (fun c => ?_) (fun c => ?_)
  · replace h := h.1 c
    refine g_iconst (pc' := 23) d_197_22 rfl rfl ?_
    exact g_iret d_197_23 rt_197 h
  · replace h := h.2 c
    refine g_iloadn (pc' := 14) d_197_13 rfl rfl ?_
    refine g_iconst (pc' := 15) d_197_14 rfl rfl ?_
    refine g_iconst (pc' := 16) d_197_15 rfl rfl ?_
    obtain ⟨P12, dP13, w9, hk10, hC11, h⟩ := h
    refine g_callS (pc' := 19) d_197_16 rfl st_197_137 (Or.inl rfl) na_199 ml_199 rfl rfl rfl rm_197_199 rfl rfl hk10 ?_
    refine gz_bt_ne (pc' := 22) (pt := 24) d_197_19 (by decide) rfl (fun c => ?_) (fun c => ?_)
    · replace h := h.1 c
      refine g_iloadn (pc' := 25) d_197_24 rfl rfl ?_
      obtain ⟨hc14, h⟩ := h
      refine gz_if_ne (pc' := 28) (pt := 42) d_197_25 (by decide) rfl hc14 (fun c => ?_) (fun c => ?_)
      · replace h := h.1 c
        refine g_iconst (pc' := 43) d_197_42 rfl rfl ?_
        refine g_istoren (pc' := 44) (l' := [some (.ref 39), some (.int (jI z1)), some (.int (jI z2)), some (.int (jI 0))]) d_197_43 rfl ml_197 rfl rfl ?_
        exact h
      · replace h := h.2 c
        refine g_aloadn (pc' := 29) d_197_28 rfl rfl ?_
        refine g_aloadn (pc' := 30) d_197_29 rfl rfl ?_
        obtain ⟨x15, hv16, h⟩ := h
        refine gz_getI (pc' := 33) d_197_30 rfl st_197_20 hv16 ?_
        obtain ⟨P20, dP21, w17, hk18, hC19, h⟩ := h
        refine gz_callV (pc' := 36) d_197_33 rfl st_197_148 na_200 ml_200 rfl rfl rfl rm_197_200 rfl rfl ow_200 (ko_39 hC11) hk18 ?_
        refine gz_bt_ne (pc' := 39) (pt := 42) d_197_36 (by decide) rfl (fun c => ?_) (fun c => ?_)
        · replace h := h.1 c
          refine g_iconst (pc' := 43) d_197_42 rfl rfl ?_
          refine g_istoren (pc' := 44) (l' := [some (.ref 39), some (.int (jI z1)), some (.int (jI z2)), some (.int (jI 0))]) d_197_43 rfl ml_197 rfl rfl ?_
          exact h
        · replace h := h.2 c
          refine g_bipush (pc' := 41) (v := jI (-3)) d_197_39 rfl (by decide) ?_
          exact g_iret d_197_41 rt_197 h
    · replace h := h.2 c
      refine g_iconst (pc' := 23) d_197_22 rfl rfl ?_
      exact g_iret d_197_23 rt_197 h
theorem Z_197 {z1 : Int} {z2 : Int} {w : xW} {r : Option Value × xW} (hC : CS w) (h : ∀ w2, w2 = pF w 39 0 (.int (jI 0)) → CS w2 → ∃ (P7 : Prop) (dP8 : Decidable P7) (w4 : xW), xCall 198 [.ref 39, .int (jI z1)] w2 (some (.int (bz P7)), w4) ∧ CS w4 ∧ (¬ P7 → r = (some (.int (jI (-1))), w4)) ∧ (P7 → ∃ (P12 : Prop) (dP13 : Decidable P12) (w9 : xW), xCall 199 [.int (jI z2), .int (jI 0), .int (jI 2)] w4 (some (.int (bz P12)), w9) ∧ CS w9 ∧ (P12 → in32 z2 ∧ (z2 ≠ 0 → xGo 197 44 [some (.ref 39), some (.int (jI z1)), some (.int (jI z2)), some (.int (jI 0))] [] w9 r) ∧ (z2 = 0 → ∃ x15, fI w9 39 12 4 x15 ∧ ∃ (P20 : Prop) (dP21 : Decidable P20) (w17 : xW), xCall 200 [.ref 39, .int (jI x15)] w9 (some (.int (bz P20)), w17) ∧ CS w17 ∧ (P20 → xGo 197 44 [some (.ref 39), some (.int (jI z1)), some (.int (jI z2)), some (.int (jI 0))] [] w17 r) ∧ (¬ P20 → r = (some (.int (jI (-3))), w17)))) ∧ (¬ P12 → r = (some (.int (jI (-1))), w9)))) : xCall 197 [.ref 39, .int (jI z1), .int (jI z2)] w r := E_197 (Z_197_0 hC h)
theorem Z_197_44 {z1 : Int} {z2 : Int} {z3 : Int} {w : xW} {r : Option Value × xW} (hC : CS w) (h : ∃ x1, fI w 39 12 4 x1 ∧ in32 x1 ∧ in32 z1 ∧ (z1 ≤ x1 → r = (some (.int (jI z3)), w)) ∧ (x1 < z1 → ∀ w6, w6 = pF w 39 4 (.int (jI (x1 + 1))) → CS w6 → ∃ x8, fI w6 39 12 4 x8 ∧ ∃ w10, xCall 202 [.ref 39, .int (jI x8), .int (jI z2)] w6 (none, w10) ∧ CS w10 ∧ xGo 197 44 [some (.ref 39), some (.int (jI z1)), some (.int (jI z2)), some (.int (jI (z3 + 1)))] [] w10 r)) : xGo 197 44 [some (.ref 39), some (.int (jI z1)), some (.int (jI z2)), some (.int (jI z3))] [] w r := by
  refine g_aloadn (pc' := 45) d_197_44 rfl rfl ?_
  obtain ⟨x1, hv2, h⟩ := h
  refine gz_getI (pc' := 48) d_197_45 rfl st_197_20 hv2 ?_
  refine g_iloadn (pc' := 49) d_197_48 rfl rfl ?_
  obtain ⟨hc3, h⟩ := h
  obtain ⟨hc4, h⟩ := h
  refine gz_ic_ge (pc' := 52) (pt := 77) d_197_49 (by decide) rfl hc3 hc4 (fun c => ?_) (fun c => ?_)
  · replace h := h.1 c
    refine g_iloadn (pc' := 78) d_197_77 rfl rfl ?_
    exact g_iret d_197_78 rt_197 h
  · replace h := h.2 c
    refine g_aloadn (pc' := 53) d_197_52 rfl rfl ?_
    refine g_dup (pc' := 54) d_197_53 rfl rfl ?_
    refine gz_getI (pc' := 57) d_197_54 rfl st_197_20 hv2 ?_
    refine g_iconst (pc' := 58) d_197_57 rfl rfl ?_
    refine gz_iadd (pc' := 59) d_197_58 rfl ?_
    have hpf5 := (kf_39_4 hC)
    have hC7 : CS (pF w 39 4 (.int (jI (x1 + 1)))) := ks_39_4 hC
    have h := h _ rfl hC7
    refine gz_putf (pc' := 62) d_197_59 rfl st_197_20 ft_12_4 ff_12_4 rfl (Or.inl rfl) hpf5 ?_
    refine g_aloadn (pc' := 63) d_197_62 rfl rfl ?_
    refine g_aloadn (pc' := 64) d_197_63 rfl rfl ?_
    obtain ⟨x8, hv9, h⟩ := h
    refine gz_getI (pc' := 67) d_197_64 rfl st_197_20 hv9 ?_
    refine g_iloadn (pc' := 68) d_197_67 rfl rfl ?_
    obtain ⟨w10, hk11, hC12, h⟩ := h
    refine gz_callV (pc' := 71) d_197_68 rfl st_197_151 na_202 ml_202 rfl rfl rfl rm_197_202 rfl rfl ow_202 (ko_39 hC7) hk11 ?_
    refine gz_iinc (pc' := 74) (l' := [some (.ref 39), some (.int (jI z1)), some (.int (jI z2)), some (.int (jI (z3 + 1)))]) d_197_71 rfl rfl ml_197 rfl rfl ?_
    refine g_goto (pt := 44) d_197_74 (by decide) ?_
    exact h
theorem Z_198_0 {z1 : Int} {w : xW} {r : Option Value × xW} (hC : CS w) (h : ∃ (P4 : Prop) (dP5 : Decidable P4) (w1 : xW), xCall 199 [.int (jI z1), .int (jI 0), .int (jI 38)] w (some (.int (bz P4)), w1) ∧ CS w1 ∧ r = (some (.int (bz P4)), w1)) : xGo 198 0 [some (.ref 39), some (.int (jI z1))] [] w r := by
  refine g_iloadn (pc' := 1) d_198_0 rfl rfl ?_
  refine g_iconst (pc' := 2) d_198_1 rfl rfl ?_
  refine g_bipush (pc' := 4) (v := jI 38) d_198_2 rfl (by decide) ?_
  obtain ⟨P4, dP5, w1, hk2, hC3, h⟩ := h
  refine g_callS (pc' := 7) d_198_4 rfl st_198_137 (Or.inl rfl) na_199 ml_199 rfl rfl rfl rm_198_199 rfl rfl hk2 ?_
  exact g_zret d_198_7 rt_198 (bz_01 _) h
theorem Z_198 {z1 : Int} {w : xW} {r : Option Value × xW} (hC : CS w) (h : ∃ (P4 : Prop) (dP5 : Decidable P4) (w1 : xW), xCall 199 [.int (jI z1), .int (jI 0), .int (jI 38)] w (some (.int (bz P4)), w1) ∧ CS w1 ∧ r = (some (.int (bz P4)), w1)) : xCall 198 [.ref 39, .int (jI z1)] w r := E_198 (Z_198_0 hC h)
theorem Z_199_0 {z0 : Int} {z1 : Int} {z2 : Int} {w : xW} {r : Option Value × xW} (hC : CS w) (h : in32 z0 ∧ in32 z1 ∧ (z0 < z1 → r = (some (.int (jI 0)), w)) ∧ (z1 ≤ z0 → in32 z2 ∧ (z2 < z0 → r = (some (.int (jI 0)), w)) ∧ (z0 ≤ z2 → r = (some (.int (jI 1)), w)))) : xGo 199 0 [some (.int (jI z0)), some (.int (jI z1)), some (.int (jI z2))] [] w r := by
  refine g_iloadn (pc' := 1) d_199_0 rfl rfl ?_
  refine g_iloadn (pc' := 2) d_199_1 rfl rfl ?_
  obtain ⟨hc1, h⟩ := h
  obtain ⟨hc2, h⟩ := h
  refine gz_ic_lt (pc' := 5) (pt := 14) d_199_2 (by decide) rfl hc1 hc2 (fun c => ?_) (fun c => ?_)
  · replace h := h.1 c
    refine g_iconst (pc' := 15) d_199_14 rfl rfl ?_
    exact g_zret d_199_15 rt_199 (Or.inl rfl) h
  · replace h := h.2 c
    refine g_iloadn (pc' := 6) d_199_5 rfl rfl ?_
    refine g_iloadn (pc' := 7) d_199_6 rfl rfl ?_
    obtain ⟨hc3, h⟩ := h
    refine gz_ic_gt (pc' := 10) (pt := 14) d_199_7 (by decide) rfl hc1 hc3 (fun c => ?_) (fun c => ?_)
    · replace h := h.1 c
      refine g_iconst (pc' := 15) d_199_14 rfl rfl ?_
      exact g_zret d_199_15 rt_199 (Or.inl rfl) h
    · replace h := h.2 c
      refine g_iconst (pc' := 11) d_199_10 rfl rfl ?_
      refine g_goto (pt := 15) d_199_11 (by decide) ?_
      exact g_zret d_199_15 rt_199 (Or.inr rfl) h
theorem Z_199 {z0 : Int} {z1 : Int} {z2 : Int} {w : xW} {r : Option Value × xW} (hC : CS w) (h : in32 z0 ∧ in32 z1 ∧ (z0 < z1 → r = (some (.int (jI 0)), w)) ∧ (z1 ≤ z0 → in32 z2 ∧ (z2 < z0 → r = (some (.int (jI 0)), w)) ∧ (z0 ≤ z2 → r = (some (.int (jI 1)), w)))) : xCall 199 [.int (jI z0), .int (jI z1), .int (jI z2)] w r := E_199 (Z_199_0 hC h)
theorem Z_200_0 {z1 : Int} {w : xW} {r : Option Value × xW} (hC : CS w) (h : xGo 200 2 [some (.ref 39), some (.int (jI z1)), some (.int (jI 0))] [] w r) : xGo 200 0 [some (.ref 39), some (.int (jI z1)), none] [] w r := by
  refine g_iconst (pc' := 1) d_200_0 rfl rfl ?_
  refine g_istoren (pc' := 2) (l' := [some (.ref 39), some (.int (jI z1)), some (.int (jI 0))]) d_200_1 rfl ml_200 rfl rfl ?_
  exact h
theorem Z_200 {z1 : Int} {w : xW} {r : Option Value × xW} (hC : CS w) (h : xGo 200 2 [some (.ref 39), some (.int (jI z1)), some (.int (jI 0))] [] w r) : xCall 200 [.ref 39, .int (jI z1)] w r := E_200 (Z_200_0 hC h)
theorem Z_200_2 {z1 : Int} {z2 : Int} {w : xW} {r : Option Value × xW} (hC : CS w) (h : in32 z2 ∧ in32 z1 ∧ (z1 < z2 → r = (some (.int (jI 1)), w)) ∧ (z2 ≤ z1 → ∃ (P6 : Prop) (dP7 : Decidable P6) (w3 : xW), xCall 201 [.ref 39, .int (jI z2)] w (some (.int (bz P6)), w3) ∧ CS w3 ∧ (P6 → xGo 200 2 [some (.ref 39), some (.int (jI z1)), some (.int (jI (z2 + 1)))] [] w3 r) ∧ (¬ P6 → r = (some (.int (jI 0)), w3)))) : xGo 200 2 [some (.ref 39), some (.int (jI z1)), some (.int (jI z2))] [] w r := by
  refine g_iloadn (pc' := 3) d_200_2 rfl rfl ?_
  refine g_iloadn (pc' := 4) d_200_3 rfl rfl ?_
  obtain ⟨hc1, h⟩ := h
  obtain ⟨hc2, h⟩ := h
  refine gz_ic_gt (pc' := 7) (pt := 23) d_200_4 (by decide) rfl hc1 hc2 (fun c => ?_) (fun c => ?_)
  · replace h := h.1 c
    refine g_iconst (pc' := 24) d_200_23 rfl rfl ?_
    exact g_zret d_200_24 rt_200 (Or.inr rfl) h
  · replace h := h.2 c
    refine g_aloadn (pc' := 8) d_200_7 rfl rfl ?_
    refine g_iloadn (pc' := 9) d_200_8 rfl rfl ?_
    obtain ⟨P6, dP7, w3, hk4, hC5, h⟩ := h
    refine gz_callV (pc' := 12) d_200_9 rfl st_200_141 na_201 ml_201 rfl rfl rfl rm_200_201 rfl rfl ow_201 (ko_39 hC) hk4 ?_
    refine gz_bt_ne (pc' := 15) (pt := 17) d_200_12 (by decide) rfl (fun c => ?_) (fun c => ?_)
    · replace h := h.1 c
      refine gz_iinc (pc' := 20) (l' := [some (.ref 39), some (.int (jI z1)), some (.int (jI (z2 + 1)))]) d_200_17 rfl rfl ml_200 rfl rfl ?_
      refine g_goto (pt := 2) d_200_20 (by decide) ?_
      exact h
    · replace h := h.2 c
      refine g_iconst (pc' := 16) d_200_15 rfl rfl ?_
      exact g_zret d_200_16 rt_200 (Or.inl rfl) h
theorem Z_201_0 {z1 : Int} {w : xW} {r : Option Value × xW} (hC : CS w) (h : 0 ≤ 3 * z1 ∧ ∃ x2, rL w 41 (3 * z1).toNat x2 ∧ 0 ≤ 3 * z1 ∧ ∃ x5, rL w 40 (3 * z1).toNat x5 ∧ in64 x2 ∧ in64 x5 ∧ (x2 ≠ x5 → r = (some (.int (jI 0)), w)) ∧ (x2 = x5 → 0 ≤ (3 * z1) + 1 ∧ ∃ x10, rL w 41 ((3 * z1) + 1).toNat x10 ∧ 0 ≤ (3 * z1) + 1 ∧ ∃ x13, rL w 40 ((3 * z1) + 1).toNat x13 ∧ in64 x10 ∧ in64 x13 ∧ (x10 ≠ x13 → r = (some (.int (jI 0)), w)) ∧ (x10 = x13 → 0 ≤ (3 * z1) + 2 ∧ ∃ x18, rL w 41 ((3 * z1) + 2).toNat x18 ∧ 0 ≤ (3 * z1) + 2 ∧ ∃ x21, rL w 40 ((3 * z1) + 2).toNat x21 ∧ in64 x18 ∧ in64 x21 ∧ (x18 ≠ x21 → r = (some (.int (jI 0)), w)) ∧ (x18 = x21 → r = (some (.int (jI 1)), w))))) : xGo 201 0 [some (.ref 39), some (.int (jI z1))] [] w r := by
  refine g_aloadn (pc' := 1) d_201_0 rfl rfl ?_
  refine gz_getR (pc' := 4) d_201_1 rfl st_201_13 (kr_39_2 hC) ?_
  refine g_iconst (pc' := 5) d_201_4 rfl rfl ?_
  refine g_iloadn (pc' := 6) d_201_5 rfl rfl ?_
  refine gz_imul (pc' := 7) d_201_6 rfl ?_
  obtain ⟨hc1, h⟩ := h
  obtain ⟨x2, hv3, h⟩ := h
  refine gz_lald (pc' := 8) d_201_7 rfl hc1 hv3 ?_
  refine g_aloadn (pc' := 9) d_201_8 rfl rfl ?_
  refine gz_getR (pc' := 12) d_201_9 rfl st_201_7 (kr_39_1 hC) ?_
  refine g_iconst (pc' := 13) d_201_12 rfl rfl ?_
  refine g_iloadn (pc' := 14) d_201_13 rfl rfl ?_
  refine gz_imul (pc' := 15) d_201_14 rfl ?_
  obtain ⟨hc4, h⟩ := h
  obtain ⟨x5, hv6, h⟩ := h
  refine gz_lald (pc' := 16) d_201_15 rfl hc4 hv6 ?_
  obtain ⟨hc7, h⟩ := h
  obtain ⟨hc8, h⟩ := h
  refine gz_lc_ne (pc' := 20) (pm := 17) (pt := 72) d_201_16 rfl d_201_17 (by decide) rfl hc7 hc8 (fun c => ?_) (fun c => ?_)
  · replace h := h.1 c
    refine g_iconst (pc' := 73) d_201_72 rfl rfl ?_
    exact g_zret d_201_73 rt_201 (Or.inl rfl) h
  · replace h := h.2 c
    refine g_aloadn (pc' := 21) d_201_20 rfl rfl ?_
    refine gz_getR (pc' := 24) d_201_21 rfl st_201_13 (kr_39_2 hC) ?_
    refine g_iconst (pc' := 25) d_201_24 rfl rfl ?_
    refine g_iloadn (pc' := 26) d_201_25 rfl rfl ?_
    refine gz_imul (pc' := 27) d_201_26 rfl ?_
    refine g_iconst (pc' := 28) d_201_27 rfl rfl ?_
    refine gz_iadd (pc' := 29) d_201_28 rfl ?_
    obtain ⟨hc9, h⟩ := h
    obtain ⟨x10, hv11, h⟩ := h
    refine gz_lald (pc' := 30) d_201_29 rfl hc9 hv11 ?_
    refine g_aloadn (pc' := 31) d_201_30 rfl rfl ?_
    refine gz_getR (pc' := 34) d_201_31 rfl st_201_7 (kr_39_1 hC) ?_
    refine g_iconst (pc' := 35) d_201_34 rfl rfl ?_
    refine g_iloadn (pc' := 36) d_201_35 rfl rfl ?_
    refine gz_imul (pc' := 37) d_201_36 rfl ?_
    refine g_iconst (pc' := 38) d_201_37 rfl rfl ?_
    refine gz_iadd (pc' := 39) d_201_38 rfl ?_
    obtain ⟨hc12, h⟩ := h
    obtain ⟨x13, hv14, h⟩ := h
    refine gz_lald (pc' := 40) d_201_39 rfl hc12 hv14 ?_
    obtain ⟨hc15, h⟩ := h
    obtain ⟨hc16, h⟩ := h
    refine gz_lc_ne (pc' := 44) (pm := 41) (pt := 72) d_201_40 rfl d_201_41 (by decide) rfl hc15 hc16 (fun c => ?_) (fun c => ?_)
    · replace h := h.1 c
      refine g_iconst (pc' := 73) d_201_72 rfl rfl ?_
      exact g_zret d_201_73 rt_201 (Or.inl rfl) h
    · replace h := h.2 c
      refine g_aloadn (pc' := 45) d_201_44 rfl rfl ?_
      refine gz_getR (pc' := 48) d_201_45 rfl st_201_13 (kr_39_2 hC) ?_
      refine g_iconst (pc' := 49) d_201_48 rfl rfl ?_
      refine g_iloadn (pc' := 50) d_201_49 rfl rfl ?_
      refine gz_imul (pc' := 51) d_201_50 rfl ?_
      refine g_iconst (pc' := 52) d_201_51 rfl rfl ?_
      refine gz_iadd (pc' := 53) d_201_52 rfl ?_
      obtain ⟨hc17, h⟩ := h
      obtain ⟨x18, hv19, h⟩ := h
      refine gz_lald (pc' := 54) d_201_53 rfl hc17 hv19 ?_
      refine g_aloadn (pc' := 55) d_201_54 rfl rfl ?_
      refine gz_getR (pc' := 58) d_201_55 rfl st_201_7 (kr_39_1 hC) ?_
      refine g_iconst (pc' := 59) d_201_58 rfl rfl ?_
      refine g_iloadn (pc' := 60) d_201_59 rfl rfl ?_
      refine gz_imul (pc' := 61) d_201_60 rfl ?_
      refine g_iconst (pc' := 62) d_201_61 rfl rfl ?_
      refine gz_iadd (pc' := 63) d_201_62 rfl ?_
      obtain ⟨hc20, h⟩ := h
      obtain ⟨x21, hv22, h⟩ := h
      refine gz_lald (pc' := 64) d_201_63 rfl hc20 hv22 ?_
      obtain ⟨hc23, h⟩ := h
      obtain ⟨hc24, h⟩ := h
      refine gz_lc_ne (pc' := 68) (pm := 65) (pt := 72) d_201_64 rfl d_201_65 (by decide) rfl hc23 hc24 (fun c => ?_) (fun c => ?_)
      · replace h := h.1 c
        refine g_iconst (pc' := 73) d_201_72 rfl rfl ?_
        exact g_zret d_201_73 rt_201 (Or.inl rfl) h
      · replace h := h.2 c
        refine g_iconst (pc' := 69) d_201_68 rfl rfl ?_
        refine g_goto (pt := 73) d_201_69 (by decide) ?_
        exact g_zret d_201_73 rt_201 (Or.inr rfl) h
theorem Z_201 {z1 : Int} {w : xW} {r : Option Value × xW} (hC : CS w) (h : 0 ≤ 3 * z1 ∧ ∃ x2, rL w 41 (3 * z1).toNat x2 ∧ 0 ≤ 3 * z1 ∧ ∃ x5, rL w 40 (3 * z1).toNat x5 ∧ in64 x2 ∧ in64 x5 ∧ (x2 ≠ x5 → r = (some (.int (jI 0)), w)) ∧ (x2 = x5 → 0 ≤ (3 * z1) + 1 ∧ ∃ x10, rL w 41 ((3 * z1) + 1).toNat x10 ∧ 0 ≤ (3 * z1) + 1 ∧ ∃ x13, rL w 40 ((3 * z1) + 1).toNat x13 ∧ in64 x10 ∧ in64 x13 ∧ (x10 ≠ x13 → r = (some (.int (jI 0)), w)) ∧ (x10 = x13 → 0 ≤ (3 * z1) + 2 ∧ ∃ x18, rL w 41 ((3 * z1) + 2).toNat x18 ∧ 0 ≤ (3 * z1) + 2 ∧ ∃ x21, rL w 40 ((3 * z1) + 2).toNat x21 ∧ in64 x18 ∧ in64 x21 ∧ (x18 ≠ x21 → r = (some (.int (jI 0)), w)) ∧ (x18 = x21 → r = (some (.int (jI 1)), w))))) : xCall 201 [.ref 39, .int (jI z1)] w r := E_201 (Z_201_0 hC h)
theorem Z_202_0 {z1 : Int} {z2 : Int} {w : xW} {r : Option Value × xW} (hC : CS w) (h : 0 ≤ 3 * z1 ∧ ∃ x2, rL w 40 (3 * z1).toNat x2 ∧ 0 ≤ (3 * z1) + 1 ∧ ∃ x5, rL w 40 ((3 * z1) + 1).toNat x5 ∧ 0 ≤ (3 * z1) + 2 ∧ ∃ x8, rL w 40 ((3 * z1) + 2).toNat x8 ∧ ∃ w10, xCall 189 [.ref 41, .int (jI z1), .long (jL x2), .long (jL x5), .long (jL x8)] w (none, w10) ∧ CS w10 ∧ (0 ≤ z1 ∧ z1 < 39) ∧ ∀ w15, w15 = pI w10 42 (z1).toNat (jI z2) → CS w15 → r = (none, w15)) : xGo 202 0 [some (.ref 39), some (.int (jI z1)), some (.int (jI z2))] [] w r := by
  refine g_aloadn (pc' := 1) d_202_0 rfl rfl ?_
  refine gz_getR (pc' := 4) d_202_1 rfl st_202_13 (kr_39_2 hC) ?_
  refine g_iloadn (pc' := 5) d_202_4 rfl rfl ?_
  refine g_aloadn (pc' := 6) d_202_5 rfl rfl ?_
  refine gz_getR (pc' := 9) d_202_6 rfl st_202_7 (kr_39_1 hC) ?_
  refine g_iconst (pc' := 10) d_202_9 rfl rfl ?_
  refine g_iloadn (pc' := 11) d_202_10 rfl rfl ?_
  refine gz_imul (pc' := 12) d_202_11 rfl ?_
  obtain ⟨hc1, h⟩ := h
  obtain ⟨x2, hv3, h⟩ := h
  refine gz_lald (pc' := 13) d_202_12 rfl hc1 hv3 ?_
  refine g_aloadn (pc' := 14) d_202_13 rfl rfl ?_
  refine gz_getR (pc' := 17) d_202_14 rfl st_202_7 (kr_39_1 hC) ?_
  refine g_iconst (pc' := 18) d_202_17 rfl rfl ?_
  refine g_iloadn (pc' := 19) d_202_18 rfl rfl ?_
  refine gz_imul (pc' := 20) d_202_19 rfl ?_
  refine g_iconst (pc' := 21) d_202_20 rfl rfl ?_
  refine gz_iadd (pc' := 22) d_202_21 rfl ?_
  obtain ⟨hc4, h⟩ := h
  obtain ⟨x5, hv6, h⟩ := h
  refine gz_lald (pc' := 23) d_202_22 rfl hc4 hv6 ?_
  refine g_aloadn (pc' := 24) d_202_23 rfl rfl ?_
  refine gz_getR (pc' := 27) d_202_24 rfl st_202_7 (kr_39_1 hC) ?_
  refine g_iconst (pc' := 28) d_202_27 rfl rfl ?_
  refine g_iloadn (pc' := 29) d_202_28 rfl rfl ?_
  refine gz_imul (pc' := 30) d_202_29 rfl ?_
  refine g_iconst (pc' := 31) d_202_30 rfl rfl ?_
  refine gz_iadd (pc' := 32) d_202_31 rfl ?_
  obtain ⟨hc7, h⟩ := h
  obtain ⟨x8, hv9, h⟩ := h
  refine gz_lald (pc' := 33) d_202_32 rfl hc7 hv9 ?_
  obtain ⟨w10, hk11, hC12, h⟩ := h
  refine g_callS (pc' := 36) d_202_33 rfl st_202_99 (Or.inl rfl) na_189 ml_189 rfl rfl rfl rm_202_189 rfl rfl hk11 ?_
  refine g_aloadn (pc' := 37) d_202_36 rfl rfl ?_
  refine gz_getR (pc' := 40) d_202_37 rfl st_202_16 (kr_39_3 hC12) ?_
  refine g_iloadn (pc' := 41) d_202_40 rfl rfl ?_
  refine g_iloadn (pc' := 42) d_202_41 rfl rfl ?_
  obtain ⟨hc13, h⟩ := h
  have hs14 := (kh_42 hC12 hc13)
  have hC16 : CS (pI w10 42 (z1).toNat (jI z2)) := hC12.putI
  have h := h _ rfl hC16
  refine gz_iast (pc' := 43) d_202_42 rfl hs14 ?_
  exact g_vret d_202_43 rt_202 h
theorem Z_202 {z1 : Int} {z2 : Int} {w : xW} {r : Option Value × xW} (hC : CS w) (h : 0 ≤ 3 * z1 ∧ ∃ x2, rL w 40 (3 * z1).toNat x2 ∧ 0 ≤ (3 * z1) + 1 ∧ ∃ x5, rL w 40 ((3 * z1) + 1).toNat x5 ∧ 0 ≤ (3 * z1) + 2 ∧ ∃ x8, rL w 40 ((3 * z1) + 2).toNat x8 ∧ ∃ w10, xCall 189 [.ref 41, .int (jI z1), .long (jL x2), .long (jL x5), .long (jL x8)] w (none, w10) ∧ CS w10 ∧ (0 ≤ z1 ∧ z1 < 39) ∧ ∀ w15, w15 = pI w10 42 (z1).toNat (jI z2) → CS w15 → r = (none, w15)) : xCall 202 [.ref 39, .int (jI z1), .int (jI z2)] w r := E_202 (Z_202_0 hC h)
theorem Z_203_0 {z1 : Int} {z2 : Int} {w : xW} {r : Option Value × xW} (hC : CS w) (h : ∀ w2, w2 = pF w 39 0 (.int (jI 0)) → CS w2 → ∃ (P7 : Prop) (dP8 : Decidable P7) (w4 : xW), xCall 198 [.ref 39, .int (jI z1)] w2 (some (.int (bz P7)), w4) ∧ CS w4 ∧ (¬ P7 → r = (some (.int (jI (-1))), w4)) ∧ (P7 → ∃ (P12 : Prop) (dP13 : Decidable P12) (w9 : xW), xCall 199 [.int (jI z2), .int (jI 0), .int (jI 2)] w4 (some (.int (bz P12)), w9) ∧ CS w9 ∧ (P12 → ∃ x14, fI w9 39 12 4 x14 ∧ in32 z1 ∧ in32 x14 ∧ (z1 ≤ x14 → in32 z2 ∧ (z2 ≠ 0 → ∃ (P22 : Prop) (dP23 : Decidable P22) (w19 : xW), xCall 201 [.ref 39, .int (jI z1)] w9 (some (.int (bz P22)), w19) ∧ CS w19 ∧ (¬ P22 → ∃ w24, xCall 202 [.ref 39, .int (jI z1), .int (jI z2)] w19 (none, w24) ∧ CS w24 ∧ r = (some (.int (jI 1)), w24)) ∧ (P22 → ∃ w27, xCall 202 [.ref 39, .int (jI z1), .int (jI z2)] w19 (none, w27) ∧ CS w27 ∧ r = (some (.int (jI 0)), w27))) ∧ (z2 = 0 → ∃ (P33 : Prop) (dP34 : Decidable P33) (w30 : xW), xCall 200 [.ref 39, .int (jI (z1 - 1))] w9 (some (.int (bz P33)), w30) ∧ CS w30 ∧ (P33 → ∃ (P38 : Prop) (dP39 : Decidable P38) (w35 : xW), xCall 201 [.ref 39, .int (jI z1)] w30 (some (.int (bz P38)), w35) ∧ CS w35 ∧ (¬ P38 → ∃ w40, xCall 202 [.ref 39, .int (jI z1), .int (jI z2)] w35 (none, w40) ∧ CS w40 ∧ r = (some (.int (jI 1)), w40)) ∧ (P38 → ∃ w43, xCall 202 [.ref 39, .int (jI z1), .int (jI z2)] w35 (none, w43) ∧ CS w43 ∧ r = (some (.int (jI 0)), w43))) ∧ (¬ P33 → r = (some (.int (jI (-3))), w30)))) ∧ (x14 < z1 → r = (some (.int (jI (-2))), w9))) ∧ (¬ P12 → r = (some (.int (jI (-1))), w9)))) : xGo 203 0 [some (.ref 39), some (.int (jI z1)), some (.int (jI z2)), none] [] w r := by
  refine g_aloadn (pc' := 1) d_203_0 rfl rfl ?_
  refine g_iconst (pc' := 2) d_203_1 rfl rfl ?_
  have hpf1 := (kf_39_0 hC)
  have hC3 : CS (pF w 39 0 (.int (jI 0))) := ks_39_0 hC
  have h := h _ rfl hC3
  refine gz_putf (pc' := 5) d_203_2 rfl st_203_118 ft_12_0 ff_12_0 rfl (Or.inl rfl) hpf1 ?_
  refine g_aloadn (pc' := 6) d_203_5 rfl rfl ?_
  refine g_iloadn (pc' := 7) d_203_6 rfl rfl ?_
  obtain ⟨P7, dP8, w4, hk5, hC6, h⟩ := h
  refine gz_callV (pc' := 10) d_203_7 rfl st_203_145 na_198 ml_198 rfl rfl rfl rm_203_198 rfl rfl ow_198 (ko_39 hC3) hk5 ?_
  refine gz_bt_eq (pc' := 13) (pt := 22) d_203_10 (by decide) rfl (fun c => ?_) (fun c => ?_)
  · replace h := h.1 c
    refine g_iconst (pc' := 23) d_203_22 rfl rfl ?_
    exact g_iret d_203_23 rt_203 h
  · replace h := h.2 c
    refine g_iloadn (pc' := 14) d_203_13 rfl rfl ?_
    refine g_iconst (pc' := 15) d_203_14 rfl rfl ?_
    refine g_iconst (pc' := 16) d_203_15 rfl rfl ?_
    obtain ⟨P12, dP13, w9, hk10, hC11, h⟩ := h
    refine g_callS (pc' := 19) d_203_16 rfl st_203_137 (Or.inl rfl) na_199 ml_199 rfl rfl rfl rm_203_199 rfl rfl hk10 ?_
    refine gz_bt_ne (pc' := 22) (pt := 24) d_203_19 (by decide) rfl (fun c => ?_) (fun c => ?_)
    · replace h := h.1 c
      refine g_iloadn (pc' := 25) d_203_24 rfl rfl ?_
      refine g_aloadn (pc' := 26) d_203_25 rfl rfl ?_
      obtain ⟨x14, hv15, h⟩ := h
      refine gz_getI (pc' := 29) d_203_26 rfl st_203_20 hv15 ?_
      obtain ⟨hc16, h⟩ := h
      obtain ⟨hc17, h⟩ := h
      refine gz_ic_le (pc' := 32) (pt := 35) d_203_29 (by decide) rfl hc16 hc17 (fun c => ?_) (fun c => ?_)
      · replace h := h.1 c
        refine g_iloadn (pc' := 36) d_203_35 rfl rfl ?_
        obtain ⟨hc18, h⟩ := h
        refine gz_if_ne (pc' := 39) (pt := 52) d_203_36 (by decide) rfl hc18 (fun c => ?_) (fun c => ?_)
        · replace h := h.1 c
          refine g_aloadn (pc' := 53) d_203_52 rfl rfl ?_
          refine g_iloadn (pc' := 54) d_203_53 rfl rfl ?_
          obtain ⟨P22, dP23, w19, hk20, hC21, h⟩ := h
          refine gz_callV (pc' := 57) d_203_54 rfl st_203_141 na_201 ml_201 rfl rfl rfl rm_203_201 rfl rfl ow_201 (ko_39 hC11) hk20 ?_
          refine gz_bt_eq (pc' := 60) (pt := 64) d_203_57 (by decide) rfl (fun c => ?_) (fun c => ?_)
          · replace h := h.1 c
            refine g_iconst (pc' := 65) d_203_64 rfl rfl ?_
            refine g_istoren (pc' := 66) (l' := [some (.ref 39), some (.int (jI z1)), some (.int (jI z2)), some (.int (jI 1))]) d_203_65 rfl ml_203 rfl rfl ?_
            refine g_aloadn (pc' := 67) d_203_66 rfl rfl ?_
            refine g_iloadn (pc' := 68) d_203_67 rfl rfl ?_
            refine g_iloadn (pc' := 69) d_203_68 rfl rfl ?_
            obtain ⟨w24, hk25, hC26, h⟩ := h
            refine gz_callV (pc' := 72) d_203_69 rfl st_203_151 na_202 ml_202 rfl rfl rfl rm_203_202 rfl rfl ow_202 (ko_39 hC21) hk25 ?_
            refine g_iloadn (pc' := 73) d_203_72 rfl rfl ?_
            exact g_iret d_203_73 rt_203 h
          · replace h := h.2 c
            refine g_iconst (pc' := 61) d_203_60 rfl rfl ?_
            refine g_goto (pt := 65) d_203_61 (by decide) ?_
            refine g_istoren (pc' := 66) (l' := [some (.ref 39), some (.int (jI z1)), some (.int (jI z2)), some (.int (jI 0))]) d_203_65 rfl ml_203 rfl rfl ?_
            refine g_aloadn (pc' := 67) d_203_66 rfl rfl ?_
            refine g_iloadn (pc' := 68) d_203_67 rfl rfl ?_
            refine g_iloadn (pc' := 69) d_203_68 rfl rfl ?_
            obtain ⟨w27, hk28, hC29, h⟩ := h
            refine gz_callV (pc' := 72) d_203_69 rfl st_203_151 na_202 ml_202 rfl rfl rfl rm_203_202 rfl rfl ow_202 (ko_39 hC21) hk28 ?_
            refine g_iloadn (pc' := 73) d_203_72 rfl rfl ?_
            exact g_iret d_203_73 rt_203 h
        · replace h := h.2 c
          refine g_aloadn (pc' := 40) d_203_39 rfl rfl ?_
          refine g_iloadn (pc' := 41) d_203_40 rfl rfl ?_
          refine g_iconst (pc' := 42) d_203_41 rfl rfl ?_
          refine gz_isub (pc' := 43) d_203_42 rfl ?_
          obtain ⟨P33, dP34, w30, hk31, hC32, h⟩ := h
          refine gz_callV (pc' := 46) d_203_43 rfl st_203_148 na_200 ml_200 rfl rfl rfl rm_203_200 rfl rfl ow_200 (ko_39 hC11) hk31 ?_
          refine gz_bt_ne (pc' := 49) (pt := 52) d_203_46 (by decide) rfl (fun c => ?_) (fun c => ?_)
          · replace h := h.1 c
            refine g_aloadn (pc' := 53) d_203_52 rfl rfl ?_
            refine g_iloadn (pc' := 54) d_203_53 rfl rfl ?_
            obtain ⟨P38, dP39, w35, hk36, hC37, h⟩ := h
            refine gz_callV (pc' := 57) d_203_54 rfl st_203_141 na_201 ml_201 rfl rfl rfl rm_203_201 rfl rfl ow_201 (ko_39 hC32) hk36 ?_
            refine gz_bt_eq (pc' := 60) (pt := 64) d_203_57 (by decide) rfl (fun c => ?_) (fun c => ?_)
            · replace h := h.1 c
              refine g_iconst (pc' := 65) d_203_64 rfl rfl ?_
              refine g_istoren (pc' := 66) (l' := [some (.ref 39), some (.int (jI z1)), some (.int (jI z2)), some (.int (jI 1))]) d_203_65 rfl ml_203 rfl rfl ?_
              refine g_aloadn (pc' := 67) d_203_66 rfl rfl ?_
              refine g_iloadn (pc' := 68) d_203_67 rfl rfl ?_
              refine g_iloadn (pc' := 69) d_203_68 rfl rfl ?_
              obtain ⟨w40, hk41, hC42, h⟩ := h
              refine gz_callV (pc' := 72) d_203_69 rfl st_203_151 na_202 ml_202 rfl rfl rfl rm_203_202 rfl rfl ow_202 (ko_39 hC37) hk41 ?_
              refine g_iloadn (pc' := 73) d_203_72 rfl rfl ?_
              exact g_iret d_203_73 rt_203 h
            · replace h := h.2 c
              refine g_iconst (pc' := 61) d_203_60 rfl rfl ?_
              refine g_goto (pt := 65) d_203_61 (by decide) ?_
              refine g_istoren (pc' := 66) (l' := [some (.ref 39), some (.int (jI z1)), some (.int (jI z2)), some (.int (jI 0))]) d_203_65 rfl ml_203 rfl rfl ?_
              refine g_aloadn (pc' := 67) d_203_66 rfl rfl ?_
              refine g_iloadn (pc' := 68) d_203_67 rfl rfl ?_
              refine g_iloadn (pc' := 69) d_203_68 rfl rfl ?_
              obtain ⟨w43, hk44, hC45, h⟩ := h
              refine gz_callV (pc' := 72) d_203_69 rfl st_203_151 na_202 ml_202 rfl rfl rfl rm_203_202 rfl rfl ow_202 (ko_39 hC37) hk44 ?_
              refine g_iloadn (pc' := 73) d_203_72 rfl rfl ?_
              exact g_iret d_203_73 rt_203 h
          · replace h := h.2 c
            refine g_bipush (pc' := 51) (v := jI (-3)) d_203_49 rfl (by decide) ?_
            exact g_iret d_203_51 rt_203 h
      · replace h := h.2 c
        refine g_bipush (pc' := 34) (v := jI (-2)) d_203_32 rfl (by decide) ?_
        exact g_iret d_203_34 rt_203 h
    · replace h := h.2 c
      refine g_iconst (pc' := 23) d_203_22 rfl rfl ?_
      exact g_iret d_203_23 rt_203 h
theorem Z_203 {z1 : Int} {z2 : Int} {w : xW} {r : Option Value × xW} (hC : CS w) (h : ∀ w2, w2 = pF w 39 0 (.int (jI 0)) → CS w2 → ∃ (P7 : Prop) (dP8 : Decidable P7) (w4 : xW), xCall 198 [.ref 39, .int (jI z1)] w2 (some (.int (bz P7)), w4) ∧ CS w4 ∧ (¬ P7 → r = (some (.int (jI (-1))), w4)) ∧ (P7 → ∃ (P12 : Prop) (dP13 : Decidable P12) (w9 : xW), xCall 199 [.int (jI z2), .int (jI 0), .int (jI 2)] w4 (some (.int (bz P12)), w9) ∧ CS w9 ∧ (P12 → ∃ x14, fI w9 39 12 4 x14 ∧ in32 z1 ∧ in32 x14 ∧ (z1 ≤ x14 → in32 z2 ∧ (z2 ≠ 0 → ∃ (P22 : Prop) (dP23 : Decidable P22) (w19 : xW), xCall 201 [.ref 39, .int (jI z1)] w9 (some (.int (bz P22)), w19) ∧ CS w19 ∧ (¬ P22 → ∃ w24, xCall 202 [.ref 39, .int (jI z1), .int (jI z2)] w19 (none, w24) ∧ CS w24 ∧ r = (some (.int (jI 1)), w24)) ∧ (P22 → ∃ w27, xCall 202 [.ref 39, .int (jI z1), .int (jI z2)] w19 (none, w27) ∧ CS w27 ∧ r = (some (.int (jI 0)), w27))) ∧ (z2 = 0 → ∃ (P33 : Prop) (dP34 : Decidable P33) (w30 : xW), xCall 200 [.ref 39, .int (jI (z1 - 1))] w9 (some (.int (bz P33)), w30) ∧ CS w30 ∧ (P33 → ∃ (P38 : Prop) (dP39 : Decidable P38) (w35 : xW), xCall 201 [.ref 39, .int (jI z1)] w30 (some (.int (bz P38)), w35) ∧ CS w35 ∧ (¬ P38 → ∃ w40, xCall 202 [.ref 39, .int (jI z1), .int (jI z2)] w35 (none, w40) ∧ CS w40 ∧ r = (some (.int (jI 1)), w40)) ∧ (P38 → ∃ w43, xCall 202 [.ref 39, .int (jI z1), .int (jI z2)] w35 (none, w43) ∧ CS w43 ∧ r = (some (.int (jI 0)), w43))) ∧ (¬ P33 → r = (some (.int (jI (-3))), w30)))) ∧ (x14 < z1 → r = (some (.int (jI (-2))), w9))) ∧ (¬ P12 → r = (some (.int (jI (-1))), w9)))) : xCall 203 [.ref 39, .int (jI z1), .int (jI z2)] w r := E_203 (Z_203_0 hC h)
theorem Z_204_0 {z1 : Int} {z2 : Int} {w : xW} {r : Option Value × xW} (hC : CS w) (h : ∀ w2, w2 = pF w 39 0 (.int (jI 0)) → CS w2 → ∃ (P7 : Prop) (dP8 : Decidable P7) (w4 : xW), xCall 198 [.ref 39, .int (jI z1)] w2 (some (.int (bz P7)), w4) ∧ CS w4 ∧ (¬ P7 → r = (some (.int (jI (-1))), w4)) ∧ (P7 → ∃ (P12 : Prop) (dP13 : Decidable P12) (w9 : xW), xCall 199 [.int (jI z2), .int (jI (-9)), .int (jI 9)] w4 (some (.int (bz P12)), w9) ∧ CS w9 ∧ (¬ P12 → r = (some (.int (jI (-1))), w9)) ∧ (P12 → in32 z2 ∧ (z2 ≠ 0 → ∃ x15, fI w9 39 12 4 x15 ∧ in32 z1 ∧ in32 x15 ∧ (z1 ≤ x15 → ∃ w19, xCall 205 [.ref 39, .int (jI z1), .int (jI z2)] w9 (none, w19) ∧ CS w19 ∧ (0 ≤ z1 ∧ z1 < 39) ∧ ∀ w24, w24 = pI w19 42 (z1).toNat (jI 3) → CS w24 → ∃ r29 w26, xCall 206 [.ref 39, .int (jI z1)] w24 (some (.int (jI r29)), w26) ∧ CS w26 ∧ r = (some (.int (jI r29)), w26)) ∧ (x15 < z1 → r = (some (.int (jI (-2))), w9))) ∧ (z2 = 0 → r = (some (.int (jI (-1))), w9))))) : xGo 204 0 [some (.ref 39), some (.int (jI z1)), some (.int (jI z2))] [] w r := by
  refine g_aloadn (pc' := 1) d_204_0 rfl rfl ?_
  refine g_iconst (pc' := 2) d_204_1 rfl rfl ?_
  have hpf1 := (kf_39_0 hC)
  have hC3 : CS (pF w 39 0 (.int (jI 0))) := ks_39_0 hC
  have h := h _ rfl hC3
  refine gz_putf (pc' := 5) d_204_2 rfl st_204_118 ft_12_0 ff_12_0 rfl (Or.inl rfl) hpf1 ?_
  refine g_aloadn (pc' := 6) d_204_5 rfl rfl ?_
  refine g_iloadn (pc' := 7) d_204_6 rfl rfl ?_
  obtain ⟨P7, dP8, w4, hk5, hC6, h⟩ := h
  refine gz_callV (pc' := 10) d_204_7 rfl st_204_145 na_198 ml_198 rfl rfl rfl rm_204_198 rfl rfl ow_198 (ko_39 hC3) hk5 ?_
  refine gz_bt_eq (pc' := 13) (pt := 28) d_204_10 (by decide) rfl (fun c => ?_) (fun c => ?_)
  · replace h := h.1 c
    refine g_iconst (pc' := 29) d_204_28 rfl rfl ?_
    exact g_iret d_204_29 rt_204 h
  · replace h := h.2 c
    refine g_iloadn (pc' := 14) d_204_13 rfl rfl ?_
    refine g_bipush (pc' := 16) (v := jI (-9)) d_204_14 rfl (by decide) ?_
    refine g_bipush (pc' := 18) (v := jI 9) d_204_16 rfl (by decide) ?_
    obtain ⟨P12, dP13, w9, hk10, hC11, h⟩ := h
    refine g_callS (pc' := 21) d_204_18 rfl st_204_137 (Or.inl rfl) na_199 ml_199 rfl rfl rfl rm_204_199 rfl rfl hk10 ?_
    refine gz_bt_eq (pc' := 24) (pt := 28) d_204_21 (by decide) rfl (fun c => ?_) (fun c => ?_)
    · replace h := h.1 c
      refine g_iconst (pc' := 29) d_204_28 rfl rfl ?_
      exact g_iret d_204_29 rt_204 h
    · replace h := h.2 c
      refine g_iloadn (pc' := 25) d_204_24 rfl rfl ?_
      obtain ⟨hc14, h⟩ := h
      refine gz_if_ne (pc' := 28) (pt := 30) d_204_25 (by decide) rfl hc14 (fun c => ?_) (fun c => ?_)
      · replace h := h.1 c
        refine g_iloadn (pc' := 31) d_204_30 rfl rfl ?_
        refine g_aloadn (pc' := 32) d_204_31 rfl rfl ?_
        obtain ⟨x15, hv16, h⟩ := h
        refine gz_getI (pc' := 35) d_204_32 rfl st_204_20 hv16 ?_
        obtain ⟨hc17, h⟩ := h
        obtain ⟨hc18, h⟩ := h
        refine gz_ic_le (pc' := 38) (pt := 41) d_204_35 (by decide) rfl hc17 hc18 (fun c => ?_) (fun c => ?_)
        · replace h := h.1 c
          refine g_aloadn (pc' := 42) d_204_41 rfl rfl ?_
          refine g_iloadn (pc' := 43) d_204_42 rfl rfl ?_
          refine g_iloadn (pc' := 44) d_204_43 rfl rfl ?_
          obtain ⟨w19, hk20, hC21, h⟩ := h
          refine gz_callV (pc' := 47) d_204_44 rfl st_204_155 na_205 ml_205 rfl rfl rfl rm_204_205 rfl rfl ow_205 (ko_39 hC11) hk20 ?_
          refine g_aloadn (pc' := 48) d_204_47 rfl rfl ?_
          refine gz_getR (pc' := 51) d_204_48 rfl st_204_16 (kr_39_3 hC21) ?_
          refine g_iloadn (pc' := 52) d_204_51 rfl rfl ?_
          refine g_iconst (pc' := 53) d_204_52 rfl rfl ?_
          obtain ⟨hc22, h⟩ := h
          have hs23 := (kh_42 hC21 hc22)
          have hC25 : CS (pI w19 42 (z1).toNat (jI 3)) := hC21.putI
          have h := h _ rfl hC25
          refine gz_iast (pc' := 54) d_204_53 rfl hs23 ?_
          refine g_aloadn (pc' := 55) d_204_54 rfl rfl ?_
          refine g_iloadn (pc' := 56) d_204_55 rfl rfl ?_
          obtain ⟨r29, w26, hk27, hC28, h⟩ := h
          refine gz_callV (pc' := 59) d_204_56 rfl st_204_158 na_206 ml_206 rfl rfl rfl rm_204_206 rfl rfl ow_206 (ko_39 hC25) hk27 ?_
          exact g_iret d_204_59 rt_204 h
        · replace h := h.2 c
          refine g_bipush (pc' := 40) (v := jI (-2)) d_204_38 rfl (by decide) ?_
          exact g_iret d_204_40 rt_204 h
      · replace h := h.2 c
        refine g_iconst (pc' := 29) d_204_28 rfl rfl ?_
        exact g_iret d_204_29 rt_204 h
theorem Z_204 {z1 : Int} {z2 : Int} {w : xW} {r : Option Value × xW} (hC : CS w) (h : ∀ w2, w2 = pF w 39 0 (.int (jI 0)) → CS w2 → ∃ (P7 : Prop) (dP8 : Decidable P7) (w4 : xW), xCall 198 [.ref 39, .int (jI z1)] w2 (some (.int (bz P7)), w4) ∧ CS w4 ∧ (¬ P7 → r = (some (.int (jI (-1))), w4)) ∧ (P7 → ∃ (P12 : Prop) (dP13 : Decidable P12) (w9 : xW), xCall 199 [.int (jI z2), .int (jI (-9)), .int (jI 9)] w4 (some (.int (bz P12)), w9) ∧ CS w9 ∧ (¬ P12 → r = (some (.int (jI (-1))), w9)) ∧ (P12 → in32 z2 ∧ (z2 ≠ 0 → ∃ x15, fI w9 39 12 4 x15 ∧ in32 z1 ∧ in32 x15 ∧ (z1 ≤ x15 → ∃ w19, xCall 205 [.ref 39, .int (jI z1), .int (jI z2)] w9 (none, w19) ∧ CS w19 ∧ (0 ≤ z1 ∧ z1 < 39) ∧ ∀ w24, w24 = pI w19 42 (z1).toNat (jI 3) → CS w24 → ∃ r29 w26, xCall 206 [.ref 39, .int (jI z1)] w24 (some (.int (jI r29)), w26) ∧ CS w26 ∧ r = (some (.int (jI r29)), w26)) ∧ (x15 < z1 → r = (some (.int (jI (-2))), w9))) ∧ (z2 = 0 → r = (some (.int (jI (-1))), w9))))) : xCall 204 [.ref 39, .int (jI z1), .int (jI z2)] w r := E_204 (Z_204_0 hC h)
theorem Z_205_0 {z1 : Int} {z2 : Int} {w : xW} {r : Option Value × xW} (hC : CS w) (h : 0 ≤ (3 * z1) + 1 ∧ ∃ x2, rL w 41 ((3 * z1) + 1).toNat x2 ∧ in32 z2 ∧ 0 ≤ (3 * z1) + 2 ∧ ∃ x6, rL w 41 ((3 * z1) + 2).toNat x6 ∧ ∃ r11 w8, xCall 193 [.long (jL (x2 + z2)), .long (jL x6)] w (some (.long (jL r11)), w8) ∧ CS w8 ∧ 0 ≤ 3 * z1 ∧ ∃ x13, rL w8 41 (3 * z1).toNat x13 ∧ ∃ w15, xCall 194 [.ref 39, .ref 41, .int (jI z1), .long (jL (x13 + r11)), .long (jL ((x2 + z2) - (r11 * x6))), .long (jL x6)] w8 (none, w15) ∧ CS w15 ∧ r = (none, w15)) : xGo 205 0 [some (.ref 39), some (.int (jI z1)), some (.int (jI z2)), none, none, none, none, none, none] [] w r := by
  refine g_aloadn (pc' := 1) d_205_0 rfl rfl ?_
  refine gz_getR (pc' := 4) d_205_1 rfl st_205_13 (kr_39_2 hC) ?_
  refine g_iconst (pc' := 5) d_205_4 rfl rfl ?_
  refine g_iloadn (pc' := 6) d_205_5 rfl rfl ?_
  refine gz_imul (pc' := 7) d_205_6 rfl ?_
  refine g_iconst (pc' := 8) d_205_7 rfl rfl ?_
  refine gz_iadd (pc' := 9) d_205_8 rfl ?_
  obtain ⟨hc1, h⟩ := h
  obtain ⟨x2, hv3, h⟩ := h
  refine gz_lald (pc' := 10) d_205_9 rfl hc1 hv3 ?_
  refine g_iloadn (pc' := 11) d_205_10 rfl rfl ?_
  obtain ⟨hc4, h⟩ := h
  refine gz_i2l (pc' := 12) d_205_11 rfl hc4 ?_
  refine gz_ladd (pc' := 13) d_205_12 rfl ?_
  refine g_lstoren (pc' := 14) (l' := [some (.ref 39), some (.int (jI z1)), some (.int (jI z2)), some (.long (jL (x2 + z2))), none, none, none, none, none]) d_205_13 rfl ml_205 rfl rfl ?_
  refine g_aloadn (pc' := 15) d_205_14 rfl rfl ?_
  refine gz_getR (pc' := 18) d_205_15 rfl st_205_13 (kr_39_2 hC) ?_
  refine g_iconst (pc' := 19) d_205_18 rfl rfl ?_
  refine g_iloadn (pc' := 20) d_205_19 rfl rfl ?_
  refine gz_imul (pc' := 21) d_205_20 rfl ?_
  refine g_iconst (pc' := 22) d_205_21 rfl rfl ?_
  refine gz_iadd (pc' := 23) d_205_22 rfl ?_
  obtain ⟨hc5, h⟩ := h
  obtain ⟨x6, hv7, h⟩ := h
  refine gz_lald (pc' := 24) d_205_23 rfl hc5 hv7 ?_
  refine g_lstore (pc' := 26) (l' := [some (.ref 39), some (.int (jI z1)), some (.int (jI z2)), some (.long (jL (x2 + z2))), none, some (.long (jL x6)), none, none, none]) d_205_24 rfl ml_205 rfl rfl ?_
  refine g_lloadn (pc' := 27) d_205_26 rfl rfl ?_
  refine g_lload (pc' := 29) d_205_27 rfl rfl ?_
  obtain ⟨r11, w8, hk9, hC10, h⟩ := h
  refine g_callS (pc' := 32) d_205_29 rfl st_205_131 (Or.inl rfl) na_193 ml_193 rfl rfl rfl rm_205_193 rfl rfl hk9 ?_
  refine g_lstore (pc' := 34) (l' := [some (.ref 39), some (.int (jI z1)), some (.int (jI z2)), some (.long (jL (x2 + z2))), none, some (.long (jL x6)), none, some (.long (jL r11)), none]) d_205_32 rfl ml_205 rfl rfl ?_
  refine g_aloadn (pc' := 35) d_205_34 rfl rfl ?_
  refine g_aloadn (pc' := 36) d_205_35 rfl rfl ?_
  refine gz_getR (pc' := 39) d_205_36 rfl st_205_13 (kr_39_2 hC10) ?_
  refine g_iloadn (pc' := 40) d_205_39 rfl rfl ?_
  refine g_aloadn (pc' := 41) d_205_40 rfl rfl ?_
  refine gz_getR (pc' := 44) d_205_41 rfl st_205_13 (kr_39_2 hC10) ?_
  refine g_iconst (pc' := 45) d_205_44 rfl rfl ?_
  refine g_iloadn (pc' := 46) d_205_45 rfl rfl ?_
  refine gz_imul (pc' := 47) d_205_46 rfl ?_
  obtain ⟨hc12, h⟩ := h
  obtain ⟨x13, hv14, h⟩ := h
  refine gz_lald (pc' := 48) d_205_47 rfl hc12 hv14 ?_
  refine g_lload (pc' := 50) d_205_48 rfl rfl ?_
  refine gz_ladd (pc' := 51) d_205_50 rfl ?_
  refine g_lloadn (pc' := 52) d_205_51 rfl rfl ?_
  refine g_lload (pc' := 54) d_205_52 rfl rfl ?_
  refine g_lload (pc' := 56) d_205_54 rfl rfl ?_
  refine gz_lmul (pc' := 57) d_205_56 rfl ?_
  refine gz_lsub (pc' := 58) d_205_57 rfl ?_
  refine g_lload (pc' := 60) d_205_58 rfl rfl ?_
  obtain ⟨w15, hk16, hC17, h⟩ := h
  refine gz_callV (pc' := 63) d_205_60 rfl st_205_134 na_194 ml_194 rfl rfl rfl rm_205_194 rfl rfl ow_194 (ko_39 hC10) hk16 ?_
  exact g_vret d_205_63 rt_205 h
theorem Z_205 {z1 : Int} {z2 : Int} {w : xW} {r : Option Value × xW} (hC : CS w) (h : 0 ≤ (3 * z1) + 1 ∧ ∃ x2, rL w 41 ((3 * z1) + 1).toNat x2 ∧ in32 z2 ∧ 0 ≤ (3 * z1) + 2 ∧ ∃ x6, rL w 41 ((3 * z1) + 2).toNat x6 ∧ ∃ r11 w8, xCall 193 [.long (jL (x2 + z2)), .long (jL x6)] w (some (.long (jL r11)), w8) ∧ CS w8 ∧ 0 ≤ 3 * z1 ∧ ∃ x13, rL w8 41 (3 * z1).toNat x13 ∧ ∃ w15, xCall 194 [.ref 39, .ref 41, .int (jI z1), .long (jL (x13 + r11)), .long (jL ((x2 + z2) - (r11 * x6))), .long (jL x6)] w8 (none, w15) ∧ CS w15 ∧ r = (none, w15)) : xCall 205 [.ref 39, .int (jI z1), .int (jI z2)] w r := E_205 (Z_205_0 hC h)
theorem Z_206_0 {z1 : Int} {w : xW} {r : Option Value × xW} (hC : CS w) (h : ∃ (P4 : Prop) (dP5 : Decidable P4) (w1 : xW), xCall 207 [.ref 39, .int (jI z1)] w (some (.int (bz P4)), w1) ∧ CS w1 ∧ (¬ P4 → xGo 206 14 [some (.ref 39), some (.int (jI z1))] [.int (jI 0)] w1 r) ∧ (P4 → xGo 206 14 [some (.ref 39), some (.int (jI z1))] [.int (jI 32)] w1 r)) : xGo 206 0 [some (.ref 39), some (.int (jI z1))] [] w r := by
  refine g_aloadn (pc' := 1) d_206_0 rfl rfl ?_
  refine g_iloadn (pc' := 2) d_206_1 rfl rfl ?_
  obtain ⟨P4, dP5, w1, hk2, hC3, h⟩ := h
  refine gz_callV (pc' := 5) d_206_2 rfl st_206_218 na_207 ml_207 rfl rfl rfl rm_206_207 rfl rfl ow_207 (ko_39 hC) hk2 ?_
  refine gz_bt_eq (pc' := 8) (pt := 13) d_206_5 (by decide) rfl (fun c => ?_) (fun c => ?_)
  · replace h := h.1 c
    refine g_iconst (pc' := 14) d_206_13 rfl rfl ?_
    exact h
  · replace h := h.2 c
    refine g_bipush (pc' := 10) (v := jI 32) d_206_8 rfl (by decide) ?_
    refine g_goto (pt := 14) d_206_10 (by decide) ?_
    exact h
theorem Z_206 {z1 : Int} {w : xW} {r : Option Value × xW} (hC : CS w) (h : ∃ (P4 : Prop) (dP5 : Decidable P4) (w1 : xW), xCall 207 [.ref 39, .int (jI z1)] w (some (.int (bz P4)), w1) ∧ CS w1 ∧ (¬ P4 → xGo 206 14 [some (.ref 39), some (.int (jI z1))] [.int (jI 0)] w1 r) ∧ (P4 → xGo 206 14 [some (.ref 39), some (.int (jI z1))] [.int (jI 32)] w1 r)) : xCall 206 [.ref 39, .int (jI z1)] w r := E_206 (Z_206_0 hC h)
theorem Z_206_14 {z1 : Int} {s0 : Int} {w : xW} {r : Option Value × xW} (hC : CS w) (h : 0 ≤ (3 * z1) + 2 ∧ ∃ x2, rL w 41 ((3 * z1) + 2).toNat x2 ∧ ∃ r7 w4, xCall 208 [.ref 39, .int (jI z1)] w (some (.long (jL r7)), w4) ∧ CS w4 ∧ in64 x2 ∧ in64 r7 ∧ (x2 = r7 → xGo 206 38 [some (.ref 39), some (.int (jI z1))] [.int (jI 0), .int (jI s0)] w4 r) ∧ (x2 ≠ r7 → xGo 206 38 [some (.ref 39), some (.int (jI z1))] [.int (jI 1), .int (jI s0)] w4 r)) : xGo 206 14 [some (.ref 39), some (.int (jI z1))] [.int (jI s0)] w r := by
  refine g_aloadn (pc' := 15) d_206_14 rfl rfl ?_
  refine gz_getR (pc' := 18) d_206_15 rfl st_206_13 (kr_39_2 hC) ?_
  refine g_iconst (pc' := 19) d_206_18 rfl rfl ?_
  refine g_iloadn (pc' := 20) d_206_19 rfl rfl ?_
  refine gz_imul (pc' := 21) d_206_20 rfl ?_
  refine g_iconst (pc' := 22) d_206_21 rfl rfl ?_
  refine gz_iadd (pc' := 23) d_206_22 rfl ?_
  obtain ⟨hc1, h⟩ := h
  obtain ⟨x2, hv3, h⟩ := h
  refine gz_lald (pc' := 24) d_206_23 rfl hc1 hv3 ?_
  refine g_aloadn (pc' := 25) d_206_24 rfl rfl ?_
  refine g_iloadn (pc' := 26) d_206_25 rfl rfl ?_
  obtain ⟨r7, w4, hk5, hC6, h⟩ := h
  refine gz_callV (pc' := 29) d_206_26 rfl st_206_221 na_208 ml_208 rfl rfl rfl rm_206_208 rfl rfl ow_208 (ko_39 hC) hk5 ?_
  obtain ⟨hc8, h⟩ := h
  obtain ⟨hc9, h⟩ := h
  refine gz_lc_eq (pc' := 33) (pm := 30) (pt := 37) d_206_29 rfl d_206_30 (by decide) rfl hc8 hc9 (fun c => ?_) (fun c => ?_)
  · replace h := h.1 c
    refine g_iconst (pc' := 38) d_206_37 rfl rfl ?_
    exact h
  · replace h := h.2 c
    refine g_iconst (pc' := 34) d_206_33 rfl rfl ?_
    refine g_goto (pt := 38) d_206_34 (by decide) ?_
    exact h
theorem Z_206_38 {z1 : Int} {s0 : Int} {s1 : Int} {w : xW} {r : Option Value × xW} (hC : CS w) (h : ∃ r4 w1, xCall 209 [.ref 39, .int (jI z1)] w (some (.int (jI r4)), w1) ∧ CS w1 ∧ ∃ r8 w5, xCall 210 [.int (jI z1)] w1 (some (.int (jI r8)), w5) ∧ CS w5 ∧ in32 r4 ∧ in32 r8 ∧ (r4 = r8 → xGo 206 56 [some (.ref 39), some (.int (jI z1))] [.int (jI 0), .int (jI (s0 + s1))] w5 r) ∧ (r4 ≠ r8 → xGo 206 56 [some (.ref 39), some (.int (jI z1))] [.int (jI 2), .int (jI (s0 + s1))] w5 r)) : xGo 206 38 [some (.ref 39), some (.int (jI z1))] [.int (jI s1), .int (jI s0)] w r := by
  refine gz_iadd (pc' := 39) d_206_38 rfl ?_
  refine g_aloadn (pc' := 40) d_206_39 rfl rfl ?_
  refine g_iloadn (pc' := 41) d_206_40 rfl rfl ?_
  obtain ⟨r4, w1, hk2, hC3, h⟩ := h
  refine gz_callV (pc' := 44) d_206_41 rfl st_206_225 na_209 ml_209 rfl rfl rfl rm_206_209 rfl rfl ow_209 (ko_39 hC) hk2 ?_
  refine g_iloadn (pc' := 45) d_206_44 rfl rfl ?_
  obtain ⟨r8, w5, hk6, hC7, h⟩ := h
  refine g_callS (pc' := 48) d_206_45 rfl st_206_228 (Or.inl rfl) na_210 ml_210 rfl rfl rfl rm_206_210 rfl rfl hk6 ?_
  obtain ⟨hc9, h⟩ := h
  obtain ⟨hc10, h⟩ := h
  refine gz_ic_eq (pc' := 51) (pt := 55) d_206_48 (by decide) rfl hc9 hc10 (fun c => ?_) (fun c => ?_)
  · replace h := h.1 c
    refine g_iconst (pc' := 56) d_206_55 rfl rfl ?_
    exact h
  · replace h := h.2 c
    refine g_iconst (pc' := 52) d_206_51 rfl rfl ?_
    refine g_goto (pt := 56) d_206_52 (by decide) ?_
    exact h
theorem Z_206_56 {z1 : Int} {s0 : Int} {s1 : Int} {w : xW} {r : Option Value × xW} (hC : CS w) (h : ∃ (P4 : Prop) (dP5 : Decidable P4) (w1 : xW), xCall 211 [.ref 39, .int (jI z1)] w (some (.int (bz P4)), w1) ∧ CS w1 ∧ (¬ P4 → xGo 206 70 [some (.ref 39), some (.int (jI z1))] [.int (jI 0), .int (jI (s0 + s1))] w1 r) ∧ (P4 → xGo 206 70 [some (.ref 39), some (.int (jI z1))] [.int (jI 4), .int (jI (s0 + s1))] w1 r)) : xGo 206 56 [some (.ref 39), some (.int (jI z1))] [.int (jI s1), .int (jI s0)] w r := by
  refine gz_iadd (pc' := 57) d_206_56 rfl ?_
  refine g_aloadn (pc' := 58) d_206_57 rfl rfl ?_
  refine g_iloadn (pc' := 59) d_206_58 rfl rfl ?_
  obtain ⟨P4, dP5, w1, hk2, hC3, h⟩ := h
  refine gz_callV (pc' := 62) d_206_59 rfl st_206_231 na_211 ml_211 rfl rfl rfl rm_206_211 rfl rfl ow_211 (ko_39 hC) hk2 ?_
  refine gz_bt_eq (pc' := 65) (pt := 69) d_206_62 (by decide) rfl (fun c => ?_) (fun c => ?_)
  · replace h := h.1 c
    refine g_iconst (pc' := 70) d_206_69 rfl rfl ?_
    exact h
  · replace h := h.2 c
    refine g_iconst (pc' := 66) d_206_65 rfl rfl ?_
    refine g_goto (pt := 70) d_206_66 (by decide) ?_
    exact h
theorem Z_206_70 {z1 : Int} {s0 : Int} {s1 : Int} {w : xW} {r : Option Value × xW} (hC : CS w) (h : ∃ (P4 : Prop) (dP5 : Decidable P4) (w1 : xW), xCall 212 [.ref 39, .int (jI z1)] w (some (.int (bz P4)), w1) ∧ CS w1 ∧ (¬ P4 → xGo 206 85 [some (.ref 39), some (.int (jI z1))] [.int (jI 0), .int (jI (s0 + s1))] w1 r) ∧ (P4 → xGo 206 85 [some (.ref 39), some (.int (jI z1))] [.int (jI 8), .int (jI (s0 + s1))] w1 r)) : xGo 206 70 [some (.ref 39), some (.int (jI z1))] [.int (jI s1), .int (jI s0)] w r := by
  refine gz_iadd (pc' := 71) d_206_70 rfl ?_
  refine g_aloadn (pc' := 72) d_206_71 rfl rfl ?_
  refine g_iloadn (pc' := 73) d_206_72 rfl rfl ?_
  obtain ⟨P4, dP5, w1, hk2, hC3, h⟩ := h
  refine gz_callV (pc' := 76) d_206_73 rfl st_206_234 na_212 ml_212 rfl rfl rfl rm_206_212 rfl rfl ow_212 (ko_39 hC) hk2 ?_
  refine gz_bt_eq (pc' := 79) (pt := 84) d_206_76 (by decide) rfl (fun c => ?_) (fun c => ?_)
  · replace h := h.1 c
    refine g_iconst (pc' := 85) d_206_84 rfl rfl ?_
    exact h
  · replace h := h.2 c
    refine g_bipush (pc' := 81) (v := jI 8) d_206_79 rfl (by decide) ?_
    refine g_goto (pt := 85) d_206_81 (by decide) ?_
    exact h
theorem Z_206_85 {z1 : Int} {s0 : Int} {s1 : Int} {w : xW} {r : Option Value × xW} (hC : CS w) (h : ∃ (P4 : Prop) (dP5 : Decidable P4) (w1 : xW), xCall 217 [.ref 39, .int (jI z1)] w (some (.int (bz P4)), w1) ∧ CS w1 ∧ (¬ P4 → r = (some (.int (jI ((s0 + s1) + 0))), w1)) ∧ (P4 → r = (some (.int (jI ((s0 + s1) + 16))), w1))) : xGo 206 85 [some (.ref 39), some (.int (jI z1))] [.int (jI s1), .int (jI s0)] w r := by
  refine gz_iadd (pc' := 86) d_206_85 rfl ?_
  refine g_aloadn (pc' := 87) d_206_86 rfl rfl ?_
  refine g_iloadn (pc' := 88) d_206_87 rfl rfl ?_
  obtain ⟨P4, dP5, w1, hk2, hC3, h⟩ := h
  refine gz_callV (pc' := 91) d_206_88 rfl st_206_237 na_217 ml_217 rfl rfl rfl rm_206_217 rfl rfl ow_217 (ko_39 hC) hk2 ?_
  refine gz_bt_eq (pc' := 94) (pt := 99) d_206_91 (by decide) rfl (fun c => ?_) (fun c => ?_)
  · replace h := h.1 c
    refine g_iconst (pc' := 100) d_206_99 rfl rfl ?_
    refine gz_iadd (pc' := 101) d_206_100 rfl ?_
    exact g_iret d_206_101 rt_206 h
  · replace h := h.2 c
    refine g_bipush (pc' := 96) (v := jI 16) d_206_94 rfl (by decide) ?_
    refine g_goto (pt := 100) d_206_96 (by decide) ?_
    refine gz_iadd (pc' := 101) d_206_100 rfl ?_
    exact g_iret d_206_101 rt_206 h
theorem Z_207_0 {z1 : Int} {w : xW} {r : Option Value × xW} (hC : CS w) (h : in32 z1 ∧ ∃ y2, Int.tmod z1 2 = y2 ∧ in32 y2 ∧ (y2 ≠ 1 → ∀ w6, w6 = pF w 39 8 (.long (jL 0)) → CS w6 → ∀ w9, w9 = pF w6 39 9 (.long (jL 0)) → CS w9 → xGo 207 21 [some (.ref 39), some (.int (jI z1)), some (.int (jI z1)), none, none, none, none] [] w9 r) ∧ (y2 = 1 → r = (some (.int (jI 0)), w))) : xGo 207 0 [some (.ref 39), some (.int (jI z1)), none, none, none, none, none] [] w r := by
  refine g_iloadn (pc' := 1) d_207_0 rfl rfl ?_
  refine g_iconst (pc' := 2) d_207_1 rfl rfl ?_
  obtain ⟨hc1, h⟩ := h
  obtain ⟨y2, hz3, h⟩ := h
  refine gz_irem (pc' := 3) d_207_2 rfl hc1 (s32 (z := 2)) (by decide) hz3 ?_
  refine g_iconst (pc' := 4) d_207_3 rfl rfl ?_
  obtain ⟨hc4, h⟩ := h
  refine gz_ic_ne (pc' := 7) (pt := 9) d_207_4 (by decide) rfl hc4 (s32 (z := 1)) (fun c => ?_) (fun c => ?_)
  · replace h := h.1 c
    refine g_aloadn (pc' := 10) d_207_9 rfl rfl ?_
    refine g_lconst (pc' := 11) (v := jL 0) d_207_10 rfl cl_0 ?_
    have hpf5 := (kf_39_8 hC)
    have hC7 : CS (pF w 39 8 (.long (jL 0))) := ks_39_8 hC
    have h := h _ rfl hC7
    refine gz_putf (pc' := 14) d_207_11 rfl st_207_107 ft_12_8 ff_12_8 rfl (Or.inl rfl) hpf5 ?_
    refine g_aloadn (pc' := 15) d_207_14 rfl rfl ?_
    refine g_lconst (pc' := 16) (v := jL 0) d_207_15 rfl cl_0 ?_
    have hpf8 := (kf_39_9 hC7)
    have hC10 : CS (pF (pF w 39 8 (.long (jL 0))) 39 9 (.long (jL 0))) := ks_39_9 hC7
    have h := h _ rfl hC10
    refine gz_putf (pc' := 19) d_207_16 rfl st_207_111 ft_12_9 ff_12_9 rfl (Or.inl rfl) hpf8 ?_
    refine g_iloadn (pc' := 20) d_207_19 rfl rfl ?_
    refine g_istoren (pc' := 21) (l' := [some (.ref 39), some (.int (jI z1)), some (.int (jI z1)), none, none, none, none]) d_207_20 rfl ml_207 rfl rfl ?_
    exact h
  · replace h := h.2 c
    refine g_iconst (pc' := 8) d_207_7 rfl rfl ?_
    exact g_zret d_207_8 rt_207 (Or.inl rfl) h
theorem Z_207 {z1 : Int} {w : xW} {r : Option Value × xW} (hC : CS w) (h : in32 z1 ∧ ∃ y2, Int.tmod z1 2 = y2 ∧ in32 y2 ∧ (y2 ≠ 1 → ∀ w6, w6 = pF w 39 8 (.long (jL 0)) → CS w6 → ∀ w9, w9 = pF w6 39 9 (.long (jL 0)) → CS w9 → xGo 207 21 [some (.ref 39), some (.int (jI z1)), some (.int (jI z1)), none, none, none, none] [] w9 r) ∧ (y2 = 1 → r = (some (.int (jI 0)), w))) : xCall 207 [.ref 39, .int (jI z1)] w r := E_207 (Z_207_0 hC h)
theorem Z_207_21 {z1 : Int} {z2 : Int} {w : xW} {r : Option Value × xW} (hC : CS w) (h : in32 z2 ∧ (z2 < 0 → ∃ x2, fJ w 39 12 8 x2 ∧ ∃ x4, fJ w 39 12 9 x4 ∧ in64 x4 ∧ ∃ y7, Int.tdiv x4 7420738134810 = y7 ∧ ∀ w10, w10 = pF w 39 8 (.long (jL (x2 + y7))) → CS w10 → ∃ x12, fJ w10 39 12 9 x12 ∧ in64 x12 ∧ ∃ y15, Int.tmod x12 7420738134810 = y15 ∧ ∀ w18, w18 = pF w10 39 9 (.long (jL y15)) → CS w18 → in32 z1 ∧ ∃ y21, Int.tmod z1 6 = y21 ∧ in32 y21 ∧ (y21 ≠ 4 → in32 (z1 + 3) ∧ ∃ y25, Int.tmod z1 6 = y25 ∧ in32 y25 ∧ (y25 ≠ 4 → ∃ r31 w28, xCall 193 [.long (jL (z1 + 3)), .long (jL 3)] w18 (some (.long (jL r31)), w28) ∧ CS w28 ∧ ∃ x32, fJ w28 39 12 8 x32 ∧ in64 x32 ∧ in64 r31 ∧ (x32 ≠ r31 → r = (some (.int (jI 1)), w28)) ∧ (x32 = r31 → ∃ x36, fJ w28 39 12 9 x36 ∧ ∃ y38, Int.tdiv 7420738134810 3 = y38 ∧ in64 x36 ∧ in64 (((z1 + 3) - (r31 * 3)) * y38) ∧ (x36 = ((z1 + 3) - (r31 * 3)) * y38 → r = (some (.int (jI 0)), w28)) ∧ (x36 ≠ ((z1 + 3) - (r31 * 3)) * y38 → r = (some (.int (jI 1)), w28)))) ∧ (y25 = 4 → ∃ r45 w42, xCall 193 [.long (jL (z1 + 3)), .long (jL 6)] w18 (some (.long (jL r45)), w42) ∧ CS w42 ∧ ∃ x46, fJ w42 39 12 8 x46 ∧ in64 x46 ∧ in64 r45 ∧ (x46 ≠ r45 → r = (some (.int (jI 1)), w42)) ∧ (x46 = r45 → ∃ x50, fJ w42 39 12 9 x50 ∧ ∃ y52, Int.tdiv 7420738134810 6 = y52 ∧ in64 x50 ∧ in64 (((z1 + 3) - (r45 * 6)) * y52) ∧ (x50 = ((z1 + 3) - (r45 * 6)) * y52 → r = (some (.int (jI 0)), w42)) ∧ (x50 ≠ ((z1 + 3) - (r45 * 6)) * y52 → r = (some (.int (jI 1)), w42))))) ∧ (y21 = 4 → in32 ((-z1) - 3) ∧ ∃ y57, Int.tmod z1 6 = y57 ∧ in32 y57 ∧ (y57 ≠ 4 → ∃ r63 w60, xCall 193 [.long (jL ((-z1) - 3)), .long (jL 3)] w18 (some (.long (jL r63)), w60) ∧ CS w60 ∧ ∃ x64, fJ w60 39 12 8 x64 ∧ in64 x64 ∧ in64 r63 ∧ (x64 ≠ r63 → r = (some (.int (jI 1)), w60)) ∧ (x64 = r63 → ∃ x68, fJ w60 39 12 9 x68 ∧ ∃ y70, Int.tdiv 7420738134810 3 = y70 ∧ in64 x68 ∧ in64 ((((-z1) - 3) - (r63 * 3)) * y70) ∧ (x68 = (((-z1) - 3) - (r63 * 3)) * y70 → r = (some (.int (jI 0)), w60)) ∧ (x68 ≠ (((-z1) - 3) - (r63 * 3)) * y70 → r = (some (.int (jI 1)), w60)))) ∧ (y57 = 4 → ∃ r77 w74, xCall 193 [.long (jL ((-z1) - 3)), .long (jL 6)] w18 (some (.long (jL r77)), w74) ∧ CS w74 ∧ ∃ x78, fJ w74 39 12 8 x78 ∧ in64 x78 ∧ in64 r77 ∧ (x78 ≠ r77 → r = (some (.int (jI 1)), w74)) ∧ (x78 = r77 → ∃ x82, fJ w74 39 12 9 x82 ∧ ∃ y84, Int.tdiv 7420738134810 6 = y84 ∧ in64 x82 ∧ in64 ((((-z1) - 3) - (r77 * 6)) * y84) ∧ (x82 = (((-z1) - 3) - (r77 * 6)) * y84 → r = (some (.int (jI 0)), w74)) ∧ (x82 ≠ (((-z1) - 3) - (r77 * 6)) * y84 → r = (some (.int (jI 1)), w74)))))) ∧ (0 ≤ z2 → 0 ≤ (40 * (z1 + 3)) + z2 ∧ ∃ x89, rL w 43 ((40 * (z1 + 3)) + z2).toNat x89 ∧ ∃ w91, xCall 191 [.ref 39, .ref 41, .long (jL x89), .int (jI z2)] w (none, w91) ∧ CS w91 ∧ xGo 207 21 [some (.ref 39), some (.int (jI z1)), some (.int (jI (z2 - 6))), none, none, none, none] [] w91 r)) : xGo 207 21 [some (.ref 39), some (.int (jI z1)), some (.int (jI z2)), none, none, none, none] [] w r := by
  refine g_iloadn (pc' := 22) d_207_21 rfl rfl ?_
  obtain ⟨hc1, h⟩ := h
  refine gz_if_lt (pc' := 25) (pt := 53) d_207_22 (by decide) rfl hc1 (fun c => ?_) (fun c => ?_)
  · replace h := h.1 c
    refine g_aloadn (pc' := 54) d_207_53 rfl rfl ?_
    refine g_dup (pc' := 55) d_207_54 rfl rfl ?_
    obtain ⟨x2, hv3, h⟩ := h
    refine gz_getJ (pc' := 58) d_207_55 rfl st_207_107 hv3 ?_
    refine g_aloadn (pc' := 59) d_207_58 rfl rfl ?_
    obtain ⟨x4, hv5, h⟩ := h
    refine gz_getJ (pc' := 62) d_207_59 rfl st_207_111 hv5 ?_
    refine g_ldc2 (pc' := 65) d_207_62 rfl st_207_125 rfl ?_
    obtain ⟨hc6, h⟩ := h
    obtain ⟨y7, hz8, h⟩ := h
    refine gz_ldiv (pc' := 66) d_207_65 rfl hc6 (s64 (z := 7420738134810)) (by decide) hz8 ?_
    refine gz_ladd (pc' := 67) d_207_66 rfl ?_
    have hpf9 := (kf_39_8 hC)
    have hC11 : CS (pF w 39 8 (.long (jL (x2 + y7)))) := ks_39_8 hC
    have h := h _ rfl hC11
    refine gz_putf (pc' := 70) d_207_67 rfl st_207_107 ft_12_8 ff_12_8 rfl (Or.inl rfl) hpf9 ?_
    refine g_aloadn (pc' := 71) d_207_70 rfl rfl ?_
    refine g_aloadn (pc' := 72) d_207_71 rfl rfl ?_
    obtain ⟨x12, hv13, h⟩ := h
    refine gz_getJ (pc' := 75) d_207_72 rfl st_207_111 hv13 ?_
    refine g_ldc2 (pc' := 78) d_207_75 rfl st_207_125 rfl ?_
    obtain ⟨hc14, h⟩ := h
    obtain ⟨y15, hz16, h⟩ := h
    refine gz_lrem (pc' := 79) d_207_78 rfl hc14 (s64 (z := 7420738134810)) (by decide) hz16 ?_
    have hpf17 := (kf_39_9 hC11)
    have hC19 : CS (pF (pF w 39 8 (.long (jL (x2 + y7)))) 39 9 (.long (jL y15))) := ks_39_9 hC11
    have h := h _ rfl hC19
    refine gz_putf (pc' := 82) d_207_79 rfl st_207_111 ft_12_9 ff_12_9 rfl (Or.inl rfl) hpf17 ?_
    refine g_iloadn (pc' := 83) d_207_82 rfl rfl ?_
    refine g_bipush (pc' := 85) (v := jI 6) d_207_83 rfl (by decide) ?_
    obtain ⟨hc20, h⟩ := h
    obtain ⟨y21, hz22, h⟩ := h
    refine gz_irem (pc' := 86) d_207_85 rfl hc20 (s32 (z := 6)) (by decide) hz22 ?_
    refine g_iconst (pc' := 87) d_207_86 rfl rfl ?_
    obtain ⟨hc23, h⟩ := h
    refine gz_ic_ne (pc' := 90) (pt := 98) d_207_87 (by decide) rfl hc23 (s32 (z := 4)) (fun c => ?_) (fun c => ?_)
    · replace h := h.1 c
      refine g_iloadn (pc' := 99) d_207_98 rfl rfl ?_
      refine g_iconst (pc' := 100) d_207_99 rfl rfl ?_
      refine gz_iadd (pc' := 101) d_207_100 rfl ?_
      obtain ⟨hc24, h⟩ := h
      refine gz_i2l (pc' := 102) d_207_101 rfl hc24 ?_
      refine g_lstoren (pc' := 103) (l' := [some (.ref 39), some (.int (jI z1)), some (.long (jL (z1 + 3))), none, none, none, none]) d_207_102 rfl ml_207 rfl rfl ?_
      refine g_iloadn (pc' := 104) d_207_103 rfl rfl ?_
      refine g_bipush (pc' := 106) (v := jI 6) d_207_104 rfl (by decide) ?_
      obtain ⟨y25, hz26, h⟩ := h
      refine gz_irem (pc' := 107) d_207_106 rfl hc20 (s32 (z := 6)) (by decide) hz26 ?_
      refine g_iconst (pc' := 108) d_207_107 rfl rfl ?_
      obtain ⟨hc27, h⟩ := h
      refine gz_ic_ne (pc' := 111) (pt := 116) d_207_108 (by decide) rfl hc27 (s32 (z := 4)) (fun c => ?_) (fun c => ?_)
      · replace h := h.1 c
        refine g_iconst (pc' := 117) d_207_116 rfl rfl ?_
        refine g_istore (pc' := 119) (l' := [some (.ref 39), some (.int (jI z1)), some (.long (jL (z1 + 3))), none, some (.int (jI 3)), none, none]) d_207_117 rfl ml_207 rfl rfl ?_
        refine g_lloadn (pc' := 120) d_207_119 rfl rfl ?_
        refine g_iload (pc' := 122) d_207_120 rfl rfl ?_
        refine gz_i2l (pc' := 123) d_207_122 rfl (s32 (z := 3)) ?_
        obtain ⟨r31, w28, hk29, hC30, h⟩ := h
        refine g_callS (pc' := 126) d_207_123 rfl st_207_131 (Or.inl rfl) na_193 ml_193 rfl rfl rfl rm_207_193 rfl rfl hk29 ?_
        refine g_lstore (pc' := 128) (l' := [some (.ref 39), some (.int (jI z1)), some (.long (jL (z1 + 3))), none, some (.int (jI 3)), some (.long (jL r31)), none]) d_207_126 rfl ml_207 rfl rfl ?_
        refine g_aloadn (pc' := 129) d_207_128 rfl rfl ?_
        obtain ⟨x32, hv33, h⟩ := h
        refine gz_getJ (pc' := 132) d_207_129 rfl st_207_107 hv33 ?_
        refine g_lload (pc' := 134) d_207_132 rfl rfl ?_
        obtain ⟨hc34, h⟩ := h
        obtain ⟨hc35, h⟩ := h
        refine gz_lc_ne (pc' := 138) (pm := 135) (pt := 162) d_207_134 rfl d_207_135 (by decide) rfl hc34 hc35 (fun c => ?_) (fun c => ?_)
        · replace h := h.1 c
          refine g_iconst (pc' := 163) d_207_162 rfl rfl ?_
          refine g_goto (pt := 167) d_207_163 (by decide) ?_
          exact g_zret d_207_167 rt_207 (Or.inr rfl) h
        · replace h := h.2 c
          refine g_aloadn (pc' := 139) d_207_138 rfl rfl ?_
          obtain ⟨x36, hv37, h⟩ := h
          refine gz_getJ (pc' := 142) d_207_139 rfl st_207_111 hv37 ?_
          refine g_lloadn (pc' := 143) d_207_142 rfl rfl ?_
          refine g_lload (pc' := 145) d_207_143 rfl rfl ?_
          refine g_iload (pc' := 147) d_207_145 rfl rfl ?_
          refine gz_i2l (pc' := 148) d_207_147 rfl (s32 (z := 3)) ?_
          refine gz_lmul (pc' := 149) d_207_148 rfl ?_
          refine gz_lsub (pc' := 150) d_207_149 rfl ?_
          refine g_ldc2 (pc' := 153) d_207_150 rfl st_207_125 rfl ?_
          refine g_iload (pc' := 155) d_207_153 rfl rfl ?_
          refine gz_i2l (pc' := 156) d_207_155 rfl (s32 (z := 3)) ?_
          obtain ⟨y38, hz39, h⟩ := h
          refine gz_ldiv (pc' := 157) d_207_156 rfl (s64 (z := 7420738134810)) (s64 (z := 3)) (by decide) hz39 ?_
          refine gz_lmul (pc' := 158) d_207_157 rfl ?_
          obtain ⟨hc40, h⟩ := h
          obtain ⟨hc41, h⟩ := h
          refine gz_lc_eq (pc' := 162) (pm := 159) (pt := 166) d_207_158 rfl d_207_159 (by decide) rfl hc40 hc41 (fun c => ?_) (fun c => ?_)
          · replace h := h.1 c
            refine g_iconst (pc' := 167) d_207_166 rfl rfl ?_
            exact g_zret d_207_167 rt_207 (Or.inl rfl) h
          · replace h := h.2 c
            refine g_iconst (pc' := 163) d_207_162 rfl rfl ?_
            refine g_goto (pt := 167) d_207_163 (by decide) ?_
            exact g_zret d_207_167 rt_207 (Or.inr rfl) h
      · replace h := h.2 c
        refine g_bipush (pc' := 113) (v := jI 6) d_207_111 rfl (by decide) ?_
        refine g_goto (pt := 117) d_207_113 (by decide) ?_
        refine g_istore (pc' := 119) (l' := [some (.ref 39), some (.int (jI z1)), some (.long (jL (z1 + 3))), none, some (.int (jI 6)), none, none]) d_207_117 rfl ml_207 rfl rfl ?_
        refine g_lloadn (pc' := 120) d_207_119 rfl rfl ?_
        refine g_iload (pc' := 122) d_207_120 rfl rfl ?_
        refine gz_i2l (pc' := 123) d_207_122 rfl (s32 (z := 6)) ?_
        obtain ⟨r45, w42, hk43, hC44, h⟩ := h
        refine g_callS (pc' := 126) d_207_123 rfl st_207_131 (Or.inl rfl) na_193 ml_193 rfl rfl rfl rm_207_193 rfl rfl hk43 ?_
        refine g_lstore (pc' := 128) (l' := [some (.ref 39), some (.int (jI z1)), some (.long (jL (z1 + 3))), none, some (.int (jI 6)), some (.long (jL r45)), none]) d_207_126 rfl ml_207 rfl rfl ?_
        refine g_aloadn (pc' := 129) d_207_128 rfl rfl ?_
        obtain ⟨x46, hv47, h⟩ := h
        refine gz_getJ (pc' := 132) d_207_129 rfl st_207_107 hv47 ?_
        refine g_lload (pc' := 134) d_207_132 rfl rfl ?_
        obtain ⟨hc48, h⟩ := h
        obtain ⟨hc49, h⟩ := h
        refine gz_lc_ne (pc' := 138) (pm := 135) (pt := 162) d_207_134 rfl d_207_135 (by decide) rfl hc48 hc49 (fun c => ?_) (fun c => ?_)
        · replace h := h.1 c
          refine g_iconst (pc' := 163) d_207_162 rfl rfl ?_
          refine g_goto (pt := 167) d_207_163 (by decide) ?_
          exact g_zret d_207_167 rt_207 (Or.inr rfl) h
        · replace h := h.2 c
          refine g_aloadn (pc' := 139) d_207_138 rfl rfl ?_
          obtain ⟨x50, hv51, h⟩ := h
          refine gz_getJ (pc' := 142) d_207_139 rfl st_207_111 hv51 ?_
          refine g_lloadn (pc' := 143) d_207_142 rfl rfl ?_
          refine g_lload (pc' := 145) d_207_143 rfl rfl ?_
          refine g_iload (pc' := 147) d_207_145 rfl rfl ?_
          refine gz_i2l (pc' := 148) d_207_147 rfl (s32 (z := 6)) ?_
          refine gz_lmul (pc' := 149) d_207_148 rfl ?_
          refine gz_lsub (pc' := 150) d_207_149 rfl ?_
          refine g_ldc2 (pc' := 153) d_207_150 rfl st_207_125 rfl ?_
          refine g_iload (pc' := 155) d_207_153 rfl rfl ?_
          refine gz_i2l (pc' := 156) d_207_155 rfl (s32 (z := 6)) ?_
          obtain ⟨y52, hz53, h⟩ := h
          refine gz_ldiv (pc' := 157) d_207_156 rfl (s64 (z := 7420738134810)) (s64 (z := 6)) (by decide) hz53 ?_
          refine gz_lmul (pc' := 158) d_207_157 rfl ?_
          obtain ⟨hc54, h⟩ := h
          obtain ⟨hc55, h⟩ := h
          refine gz_lc_eq (pc' := 162) (pm := 159) (pt := 166) d_207_158 rfl d_207_159 (by decide) rfl hc54 hc55 (fun c => ?_) (fun c => ?_)
          · replace h := h.1 c
            refine g_iconst (pc' := 167) d_207_166 rfl rfl ?_
            exact g_zret d_207_167 rt_207 (Or.inl rfl) h
          · replace h := h.2 c
            refine g_iconst (pc' := 163) d_207_162 rfl rfl ?_
            refine g_goto (pt := 167) d_207_163 (by decide) ?_
            exact g_zret d_207_167 rt_207 (Or.inr rfl) h
    · replace h := h.2 c
      refine g_iloadn (pc' := 91) d_207_90 rfl rfl ?_
      refine gz_ineg (pc' := 92) d_207_91 rfl ?_
      refine g_iconst (pc' := 93) d_207_92 rfl rfl ?_
      refine gz_isub (pc' := 94) d_207_93 rfl ?_
      obtain ⟨hc56, h⟩ := h
      refine gz_i2l (pc' := 95) d_207_94 rfl hc56 ?_
      refine g_goto (pt := 102) d_207_95 (by decide) ?_
      refine g_lstoren (pc' := 103) (l' := [some (.ref 39), some (.int (jI z1)), some (.long (jL ((-z1) - 3))), none, none, none, none]) d_207_102 rfl ml_207 rfl rfl ?_
      refine g_iloadn (pc' := 104) d_207_103 rfl rfl ?_
      refine g_bipush (pc' := 106) (v := jI 6) d_207_104 rfl (by decide) ?_
      obtain ⟨y57, hz58, h⟩ := h
      refine gz_irem (pc' := 107) d_207_106 rfl hc20 (s32 (z := 6)) (by decide) hz58 ?_
      refine g_iconst (pc' := 108) d_207_107 rfl rfl ?_
      obtain ⟨hc59, h⟩ := h
      refine gz_ic_ne (pc' := 111) (pt := 116) d_207_108 (by decide) rfl hc59 (s32 (z := 4)) (fun c => ?_) (fun c => ?_)
      · replace h := h.1 c
        refine g_iconst (pc' := 117) d_207_116 rfl rfl ?_
        refine g_istore (pc' := 119) (l' := [some (.ref 39), some (.int (jI z1)), some (.long (jL ((-z1) - 3))), none, some (.int (jI 3)), none, none]) d_207_117 rfl ml_207 rfl rfl ?_
        refine g_lloadn (pc' := 120) d_207_119 rfl rfl ?_
        refine g_iload (pc' := 122) d_207_120 rfl rfl ?_
        refine gz_i2l (pc' := 123) d_207_122 rfl (s32 (z := 3)) ?_
        obtain ⟨r63, w60, hk61, hC62, h⟩ := h
        refine g_callS (pc' := 126) d_207_123 rfl st_207_131 (Or.inl rfl) na_193 ml_193 rfl rfl rfl rm_207_193 rfl rfl hk61 ?_
        refine g_lstore (pc' := 128) (l' := [some (.ref 39), some (.int (jI z1)), some (.long (jL ((-z1) - 3))), none, some (.int (jI 3)), some (.long (jL r63)), none]) d_207_126 rfl ml_207 rfl rfl ?_
        refine g_aloadn (pc' := 129) d_207_128 rfl rfl ?_
        obtain ⟨x64, hv65, h⟩ := h
        refine gz_getJ (pc' := 132) d_207_129 rfl st_207_107 hv65 ?_
        refine g_lload (pc' := 134) d_207_132 rfl rfl ?_
        obtain ⟨hc66, h⟩ := h
        obtain ⟨hc67, h⟩ := h
        refine gz_lc_ne (pc' := 138) (pm := 135) (pt := 162) d_207_134 rfl d_207_135 (by decide) rfl hc66 hc67 (fun c => ?_) (fun c => ?_)
        · replace h := h.1 c
          refine g_iconst (pc' := 163) d_207_162 rfl rfl ?_
          refine g_goto (pt := 167) d_207_163 (by decide) ?_
          exact g_zret d_207_167 rt_207 (Or.inr rfl) h
        · replace h := h.2 c
          refine g_aloadn (pc' := 139) d_207_138 rfl rfl ?_
          obtain ⟨x68, hv69, h⟩ := h
          refine gz_getJ (pc' := 142) d_207_139 rfl st_207_111 hv69 ?_
          refine g_lloadn (pc' := 143) d_207_142 rfl rfl ?_
          refine g_lload (pc' := 145) d_207_143 rfl rfl ?_
          refine g_iload (pc' := 147) d_207_145 rfl rfl ?_
          refine gz_i2l (pc' := 148) d_207_147 rfl (s32 (z := 3)) ?_
          refine gz_lmul (pc' := 149) d_207_148 rfl ?_
          refine gz_lsub (pc' := 150) d_207_149 rfl ?_
          refine g_ldc2 (pc' := 153) d_207_150 rfl st_207_125 rfl ?_
          refine g_iload (pc' := 155) d_207_153 rfl rfl ?_
          refine gz_i2l (pc' := 156) d_207_155 rfl (s32 (z := 3)) ?_
          obtain ⟨y70, hz71, h⟩ := h
          refine gz_ldiv (pc' := 157) d_207_156 rfl (s64 (z := 7420738134810)) (s64 (z := 3)) (by decide) hz71 ?_
          refine gz_lmul (pc' := 158) d_207_157 rfl ?_
          obtain ⟨hc72, h⟩ := h
          obtain ⟨hc73, h⟩ := h
          refine gz_lc_eq (pc' := 162) (pm := 159) (pt := 166) d_207_158 rfl d_207_159 (by decide) rfl hc72 hc73 (fun c => ?_) (fun c => ?_)
          · replace h := h.1 c
            refine g_iconst (pc' := 167) d_207_166 rfl rfl ?_
            exact g_zret d_207_167 rt_207 (Or.inl rfl) h
          · replace h := h.2 c
            refine g_iconst (pc' := 163) d_207_162 rfl rfl ?_
            refine g_goto (pt := 167) d_207_163 (by decide) ?_
            exact g_zret d_207_167 rt_207 (Or.inr rfl) h
      · replace h := h.2 c
        refine g_bipush (pc' := 113) (v := jI 6) d_207_111 rfl (by decide) ?_
        refine g_goto (pt := 117) d_207_113 (by decide) ?_
        refine g_istore (pc' := 119) (l' := [some (.ref 39), some (.int (jI z1)), some (.long (jL ((-z1) - 3))), none, some (.int (jI 6)), none, none]) d_207_117 rfl ml_207 rfl rfl ?_
        refine g_lloadn (pc' := 120) d_207_119 rfl rfl ?_
        refine g_iload (pc' := 122) d_207_120 rfl rfl ?_
        refine gz_i2l (pc' := 123) d_207_122 rfl (s32 (z := 6)) ?_
        obtain ⟨r77, w74, hk75, hC76, h⟩ := h
        refine g_callS (pc' := 126) d_207_123 rfl st_207_131 (Or.inl rfl) na_193 ml_193 rfl rfl rfl rm_207_193 rfl rfl hk75 ?_
        refine g_lstore (pc' := 128) (l' := [some (.ref 39), some (.int (jI z1)), some (.long (jL ((-z1) - 3))), none, some (.int (jI 6)), some (.long (jL r77)), none]) d_207_126 rfl ml_207 rfl rfl ?_
        refine g_aloadn (pc' := 129) d_207_128 rfl rfl ?_
        obtain ⟨x78, hv79, h⟩ := h
        refine gz_getJ (pc' := 132) d_207_129 rfl st_207_107 hv79 ?_
        refine g_lload (pc' := 134) d_207_132 rfl rfl ?_
        obtain ⟨hc80, h⟩ := h
        obtain ⟨hc81, h⟩ := h
        refine gz_lc_ne (pc' := 138) (pm := 135) (pt := 162) d_207_134 rfl d_207_135 (by decide) rfl hc80 hc81 (fun c => ?_) (fun c => ?_)
        · replace h := h.1 c
          refine g_iconst (pc' := 163) d_207_162 rfl rfl ?_
          refine g_goto (pt := 167) d_207_163 (by decide) ?_
          exact g_zret d_207_167 rt_207 (Or.inr rfl) h
        · replace h := h.2 c
          refine g_aloadn (pc' := 139) d_207_138 rfl rfl ?_
          obtain ⟨x82, hv83, h⟩ := h
          refine gz_getJ (pc' := 142) d_207_139 rfl st_207_111 hv83 ?_
          refine g_lloadn (pc' := 143) d_207_142 rfl rfl ?_
          refine g_lload (pc' := 145) d_207_143 rfl rfl ?_
          refine g_iload (pc' := 147) d_207_145 rfl rfl ?_
          refine gz_i2l (pc' := 148) d_207_147 rfl (s32 (z := 6)) ?_
          refine gz_lmul (pc' := 149) d_207_148 rfl ?_
          refine gz_lsub (pc' := 150) d_207_149 rfl ?_
          refine g_ldc2 (pc' := 153) d_207_150 rfl st_207_125 rfl ?_
          refine g_iload (pc' := 155) d_207_153 rfl rfl ?_
          refine gz_i2l (pc' := 156) d_207_155 rfl (s32 (z := 6)) ?_
          obtain ⟨y84, hz85, h⟩ := h
          refine gz_ldiv (pc' := 157) d_207_156 rfl (s64 (z := 7420738134810)) (s64 (z := 6)) (by decide) hz85 ?_
          refine gz_lmul (pc' := 158) d_207_157 rfl ?_
          obtain ⟨hc86, h⟩ := h
          obtain ⟨hc87, h⟩ := h
          refine gz_lc_eq (pc' := 162) (pm := 159) (pt := 166) d_207_158 rfl d_207_159 (by decide) rfl hc86 hc87 (fun c => ?_) (fun c => ?_)
          · replace h := h.1 c
            refine g_iconst (pc' := 167) d_207_166 rfl rfl ?_
            exact g_zret d_207_167 rt_207 (Or.inl rfl) h
          · replace h := h.2 c
            refine g_iconst (pc' := 163) d_207_162 rfl rfl ?_
            refine g_goto (pt := 167) d_207_163 (by decide) ?_
            exact g_zret d_207_167 rt_207 (Or.inr rfl) h
  · replace h := h.2 c
    refine g_aloadn (pc' := 26) d_207_25 rfl rfl ?_
    refine g_aloadn (pc' := 27) d_207_26 rfl rfl ?_
    refine gz_getR (pc' := 30) d_207_27 rfl st_207_13 (kr_39_2 hC) ?_
    refine g_aloadn (pc' := 31) d_207_30 rfl rfl ?_
    refine gz_getR (pc' := 34) d_207_31 rfl st_207_24 (kr_39_5 hC) ?_
    refine g_bipush (pc' := 36) (v := jI 40) d_207_34 rfl (by decide) ?_
    refine g_iloadn (pc' := 37) d_207_36 rfl rfl ?_
    refine g_iconst (pc' := 38) d_207_37 rfl rfl ?_
    refine gz_iadd (pc' := 39) d_207_38 rfl ?_
    refine gz_imul (pc' := 40) d_207_39 rfl ?_
    refine g_iloadn (pc' := 41) d_207_40 rfl rfl ?_
    refine gz_iadd (pc' := 42) d_207_41 rfl ?_
    obtain ⟨hc88, h⟩ := h
    obtain ⟨x89, hv90, h⟩ := h
    refine gz_lald (pc' := 43) d_207_42 rfl hc88 hv90 ?_
    refine g_iloadn (pc' := 44) d_207_43 rfl rfl ?_
    obtain ⟨w91, hk92, hC93, h⟩ := h
    refine gz_callV (pc' := 47) d_207_44 rfl st_207_127 na_191 ml_191 rfl rfl rfl rm_207_191 rfl rfl ow_191 (ko_39 hC) hk92 ?_
    refine gz_idec (pc' := 50) (c := 6) (l' := [some (.ref 39), some (.int (jI z1)), some (.int (jI (z2 - 6))), none, none, none, none]) d_207_47 rfl rfl ml_207 rfl rfl ?_
    refine g_goto (pt := 21) d_207_50 (by decide) ?_
    exact h
theorem Z_208_0 {z1 : Int} {w : xW} {r : Option Value × xW} (hC : CS w) (h : in32 z1 ∧ (z1 ≠ 1 → ∃ y2, Int.tmod z1 2 = y2 ∧ in32 y2 ∧ (y2 = 1 → r = (some (.long (jL 1)), w)) ∧ (y2 ≠ 1 → (z1 ≠ 0 → xGo 208 27 [some (.ref 39), some (.int (jI z1)), some (.long (jL 1)), none, some (.int (jI 0))] [] w r) ∧ (z1 = 0 → r = (some (.long (jL 1)), w)))) ∧ (z1 = 1 → r = (some (.long (jL 2)), w))) : xGo 208 0 [some (.ref 39), some (.int (jI z1)), none, none, none] [] w r := by
  refine g_iloadn (pc' := 1) d_208_0 rfl rfl ?_
  refine g_iconst (pc' := 2) d_208_1 rfl rfl ?_
  obtain ⟨hc1, h⟩ := h
  refine gz_ic_ne (pc' := 5) (pt := 9) d_208_2 (by decide) rfl hc1 (s32 (z := 1)) (fun c => ?_) (fun c => ?_)
  · replace h := h.1 c
    refine g_iloadn (pc' := 10) d_208_9 rfl rfl ?_
    refine g_iconst (pc' := 11) d_208_10 rfl rfl ?_
    obtain ⟨y2, hz3, h⟩ := h
    refine gz_irem (pc' := 12) d_208_11 rfl hc1 (s32 (z := 2)) (by decide) hz3 ?_
    refine g_iconst (pc' := 13) d_208_12 rfl rfl ?_
    obtain ⟨hc4, h⟩ := h
    refine gz_ic_eq (pc' := 16) (pt := 20) d_208_13 (by decide) rfl hc4 (s32 (z := 1)) (fun c => ?_) (fun c => ?_)
    · replace h := h.1 c
      refine g_lconst (pc' := 21) (v := jL 1) d_208_20 rfl cl_1 ?_
      exact g_lret d_208_21 rt_208 h
    · replace h := h.2 c
      refine g_iloadn (pc' := 17) d_208_16 rfl rfl ?_
      refine gz_if_ne (pc' := 20) (pt := 22) d_208_17 (by decide) rfl hc1 (fun c => ?_) (fun c => ?_)
      · replace h := h.1 c
        refine g_lconst (pc' := 23) (v := jL 1) d_208_22 rfl cl_1 ?_
        refine g_lstoren (pc' := 24) (l' := [some (.ref 39), some (.int (jI z1)), some (.long (jL 1)), none, none]) d_208_23 rfl ml_208 rfl rfl ?_
        refine g_iconst (pc' := 25) d_208_24 rfl rfl ?_
        refine g_istore (pc' := 27) (l' := [some (.ref 39), some (.int (jI z1)), some (.long (jL 1)), none, some (.int (jI 0))]) d_208_25 rfl ml_208 rfl rfl ?_
        exact h
      · replace h := h.2 c
        refine g_lconst (pc' := 21) (v := jL 1) d_208_20 rfl cl_1 ?_
        exact g_lret d_208_21 rt_208 h
  · replace h := h.2 c
    refine g_ldc2 (pc' := 8) d_208_5 rfl st_208_216 rfl ?_
    exact g_lret d_208_8 rt_208 h
theorem Z_208 {z1 : Int} {w : xW} {r : Option Value × xW} (hC : CS w) (h : in32 z1 ∧ (z1 ≠ 1 → ∃ y2, Int.tmod z1 2 = y2 ∧ in32 y2 ∧ (y2 = 1 → r = (some (.long (jL 1)), w)) ∧ (y2 ≠ 1 → (z1 ≠ 0 → xGo 208 27 [some (.ref 39), some (.int (jI z1)), some (.long (jL 1)), none, some (.int (jI 0))] [] w r) ∧ (z1 = 0 → r = (some (.long (jL 1)), w)))) ∧ (z1 = 1 → r = (some (.long (jL 2)), w))) : xCall 208 [.ref 39, .int (jI z1)] w r := E_208 (Z_208_0 hC h)
theorem Z_208_27 {z1 : Int} {z2 : Int} {z4 : Int} {w : xW} {r : Option Value × xW} (hC : CS w) (h : 0 ≤ z4 ∧ ∃ x2, rI w 44 (z4).toNat x2 ∧ in32 x2 ∧ in32 (z1 + 1) ∧ (z1 + 1 < x2 → r = (some (.long (jL z2)), w)) ∧ (x2 ≤ z1 + 1 → 0 ≤ z4 ∧ ∃ x7, rI w 44 (z4).toNat x7 ∧ in32 z1 ∧ in32 (x7 - 1) ∧ x7 - 1 ≠ 0 ∧ ∃ y12, Int.tmod z1 (x7 - 1) = y12 ∧ in32 y12 ∧ (y12 ≠ 0 → xGo 208 27 [some (.ref 39), some (.int (jI z1)), some (.long (jL z2)), none, some (.int (jI (z4 + 1)))] [] w r) ∧ (y12 = 0 → 0 ≤ z4 ∧ ∃ x16, rI w 44 (z4).toNat x16 ∧ in32 x16 ∧ xGo 208 27 [some (.ref 39), some (.int (jI z1)), some (.long (jL (z2 * x16))), none, some (.int (jI (z4 + 1)))] [] w r))) : xGo 208 27 [some (.ref 39), some (.int (jI z1)), some (.long (jL z2)), none, some (.int (jI z4))] [] w r := by
  refine g_aloadn (pc' := 28) d_208_27 rfl rfl ?_
  refine gz_getR (pc' := 31) d_208_28 rfl st_208_27 (kr_39_6 hC) ?_
  refine g_iload (pc' := 33) d_208_31 rfl rfl ?_
  obtain ⟨hc1, h⟩ := h
  obtain ⟨x2, hv3, h⟩ := h
  refine gz_iald (pc' := 34) d_208_33 rfl hc1 hv3 ?_
  refine g_iloadn (pc' := 35) d_208_34 rfl rfl ?_
  refine g_iconst (pc' := 36) d_208_35 rfl rfl ?_
  refine gz_iadd (pc' := 37) d_208_36 rfl ?_
  obtain ⟨hc4, h⟩ := h
  obtain ⟨hc5, h⟩ := h
  refine gz_ic_gt (pc' := 40) (pt := 71) d_208_37 (by decide) rfl hc4 hc5 (fun c => ?_) (fun c => ?_)
  · replace h := h.1 c
    refine g_lloadn (pc' := 72) d_208_71 rfl rfl ?_
    exact g_lret d_208_72 rt_208 h
  · replace h := h.2 c
    refine g_iloadn (pc' := 41) d_208_40 rfl rfl ?_
    refine g_aloadn (pc' := 42) d_208_41 rfl rfl ?_
    refine gz_getR (pc' := 45) d_208_42 rfl st_208_27 (kr_39_6 hC) ?_
    refine g_iload (pc' := 47) d_208_45 rfl rfl ?_
    obtain ⟨hc6, h⟩ := h
    obtain ⟨x7, hv8, h⟩ := h
    refine gz_iald (pc' := 48) d_208_47 rfl hc6 hv8 ?_
    refine g_iconst (pc' := 49) d_208_48 rfl rfl ?_
    refine gz_isub (pc' := 50) d_208_49 rfl ?_
    obtain ⟨hc9, h⟩ := h
    obtain ⟨hc10, h⟩ := h
    obtain ⟨hc11, h⟩ := h
    obtain ⟨y12, hz13, h⟩ := h
    refine gz_irem (pc' := 51) d_208_50 rfl hc9 hc10 hc11 hz13 ?_
    obtain ⟨hc14, h⟩ := h
    refine gz_if_ne (pc' := 54) (pt := 65) d_208_51 (by decide) rfl hc14 (fun c => ?_) (fun c => ?_)
    · replace h := h.1 c
      refine gz_iinc (pc' := 68) (l' := [some (.ref 39), some (.int (jI z1)), some (.long (jL z2)), none, some (.int (jI (z4 + 1)))]) d_208_65 rfl rfl ml_208 rfl rfl ?_
      refine g_goto (pt := 27) d_208_68 (by decide) ?_
      exact h
    · replace h := h.2 c
      refine g_lloadn (pc' := 55) d_208_54 rfl rfl ?_
      refine g_aloadn (pc' := 56) d_208_55 rfl rfl ?_
      refine gz_getR (pc' := 59) d_208_56 rfl st_208_27 (kr_39_6 hC) ?_
      refine g_iload (pc' := 61) d_208_59 rfl rfl ?_
      obtain ⟨hc15, h⟩ := h
      obtain ⟨x16, hv17, h⟩ := h
      refine gz_iald (pc' := 62) d_208_61 rfl hc15 hv17 ?_
      obtain ⟨hc18, h⟩ := h
      refine gz_i2l (pc' := 63) d_208_62 rfl hc18 ?_
      refine gz_lmul (pc' := 64) d_208_63 rfl ?_
      refine g_lstoren (pc' := 65) (l' := [some (.ref 39), some (.int (jI z1)), some (.long (jL (z2 * x16))), none, some (.int (jI z4))]) d_208_64 rfl ml_208 rfl rfl ?_
      refine gz_iinc (pc' := 68) (l' := [some (.ref 39), some (.int (jI z1)), some (.long (jL (z2 * x16))), none, some (.int (jI (z4 + 1)))]) d_208_65 rfl rfl ml_208 rfl rfl ?_
      refine g_goto (pt := 27) d_208_68 (by decide) ?_
      exact h
theorem Z_209_0 {z1 : Int} {w : xW} {r : Option Value × xW} (hC : CS w) (h : 0 ≤ 3 * z1 ∧ ∃ x2, rL w 41 (3 * z1).toNat x2 ∧ in64 x2 ∧ (0 ≤ x2 → 0 ≤ 3 * z1 ∧ ∃ x6, rL w 41 (3 * z1).toNat x6 ∧ in64 x6 ∧ (0 < x6 → r = (some (.int (jI 1)), w)) ∧ (x6 ≤ 0 → 0 ≤ (3 * z1) + 1 ∧ ∃ x10, rL w 41 ((3 * z1) + 1).toNat x10 ∧ in64 x10 ∧ (x10 ≤ 0 → r = (some (.int (jI 0)), w)) ∧ (0 < x10 → r = (some (.int (jI 1)), w)))) ∧ (x2 < 0 → r = (some (.int (jI (-1))), w))) : xGo 209 0 [some (.ref 39), some (.int (jI z1))] [] w r := by
  refine g_aloadn (pc' := 1) d_209_0 rfl rfl ?_
  refine gz_getR (pc' := 4) d_209_1 rfl st_209_13 (kr_39_2 hC) ?_
  refine g_iconst (pc' := 5) d_209_4 rfl rfl ?_
  refine g_iloadn (pc' := 6) d_209_5 rfl rfl ?_
  refine gz_imul (pc' := 7) d_209_6 rfl ?_
  obtain ⟨hc1, h⟩ := h
  obtain ⟨x2, hv3, h⟩ := h
  refine gz_lald (pc' := 8) d_209_7 rfl hc1 hv3 ?_
  refine g_lconst (pc' := 9) (v := jL 0) d_209_8 rfl cl_0 ?_
  obtain ⟨hc4, h⟩ := h
  refine gz_lc_ge (pc' := 13) (pm := 10) (pt := 17) d_209_9 rfl d_209_10 (by decide) rfl hc4 (s64 (z := 0)) (fun c => ?_) (fun c => ?_)
  · replace h := h.1 c
    refine g_aloadn (pc' := 18) d_209_17 rfl rfl ?_
    refine gz_getR (pc' := 21) d_209_18 rfl st_209_13 (kr_39_2 hC) ?_
    refine g_iconst (pc' := 22) d_209_21 rfl rfl ?_
    refine g_iloadn (pc' := 23) d_209_22 rfl rfl ?_
    refine gz_imul (pc' := 24) d_209_23 rfl ?_
    obtain ⟨hc5, h⟩ := h
    obtain ⟨x6, hv7, h⟩ := h
    refine gz_lald (pc' := 25) d_209_24 rfl hc5 hv7 ?_
    refine g_lconst (pc' := 26) (v := jL 0) d_209_25 rfl cl_0 ?_
    obtain ⟨hc8, h⟩ := h
    refine gz_lc_gt (pc' := 30) (pm := 27) (pt := 45) d_209_26 rfl d_209_27 (by decide) rfl hc8 (s64 (z := 0)) (fun c => ?_) (fun c => ?_)
    · replace h := h.1 c
      refine g_iconst (pc' := 46) d_209_45 rfl rfl ?_
      refine g_goto (pt := 50) d_209_46 (by decide) ?_
      exact g_iret d_209_50 rt_209 h
    · replace h := h.2 c
      refine g_aloadn (pc' := 31) d_209_30 rfl rfl ?_
      refine gz_getR (pc' := 34) d_209_31 rfl st_209_13 (kr_39_2 hC) ?_
      refine g_iconst (pc' := 35) d_209_34 rfl rfl ?_
      refine g_iloadn (pc' := 36) d_209_35 rfl rfl ?_
      refine gz_imul (pc' := 37) d_209_36 rfl ?_
      refine g_iconst (pc' := 38) d_209_37 rfl rfl ?_
      refine gz_iadd (pc' := 39) d_209_38 rfl ?_
      obtain ⟨hc9, h⟩ := h
      obtain ⟨x10, hv11, h⟩ := h
      refine gz_lald (pc' := 40) d_209_39 rfl hc9 hv11 ?_
      refine g_lconst (pc' := 41) (v := jL 0) d_209_40 rfl cl_0 ?_
      obtain ⟨hc12, h⟩ := h
      refine gz_lc_le (pc' := 45) (pm := 42) (pt := 49) d_209_41 rfl d_209_42 (by decide) rfl hc12 (s64 (z := 0)) (fun c => ?_) (fun c => ?_)
      · replace h := h.1 c
        refine g_iconst (pc' := 50) d_209_49 rfl rfl ?_
        exact g_iret d_209_50 rt_209 h
      · replace h := h.2 c
        refine g_iconst (pc' := 46) d_209_45 rfl rfl ?_
        refine g_goto (pt := 50) d_209_46 (by decide) ?_
        exact g_iret d_209_50 rt_209 h
  · replace h := h.2 c
    refine g_iconst (pc' := 14) d_209_13 rfl rfl ?_
    refine g_goto (pt := 50) d_209_14 (by decide) ?_
    exact g_iret d_209_50 rt_209 h
theorem Z_209 {z1 : Int} {w : xW} {r : Option Value × xW} (hC : CS w) (h : 0 ≤ 3 * z1 ∧ ∃ x2, rL w 41 (3 * z1).toNat x2 ∧ in64 x2 ∧ (0 ≤ x2 → 0 ≤ 3 * z1 ∧ ∃ x6, rL w 41 (3 * z1).toNat x6 ∧ in64 x6 ∧ (0 < x6 → r = (some (.int (jI 1)), w)) ∧ (x6 ≤ 0 → 0 ≤ (3 * z1) + 1 ∧ ∃ x10, rL w 41 ((3 * z1) + 1).toNat x10 ∧ in64 x10 ∧ (x10 ≤ 0 → r = (some (.int (jI 0)), w)) ∧ (0 < x10 → r = (some (.int (jI 1)), w)))) ∧ (x2 < 0 → r = (some (.int (jI (-1))), w))) : xCall 209 [.ref 39, .int (jI z1)] w r := E_209 (Z_209_0 hC h)
theorem Z_210_0 {z0 : Int} {w : xW} {r : Option Value × xW} (hC : CS w) (h : in32 z0 ∧ (z0 ≠ 0 → (z0 ≠ 1 → ∃ y2, Int.tmod z0 2 = y2 ∧ in32 y2 ∧ (y2 ≠ 1 → ∃ y5, Int.tmod z0 4 = y5 ∧ in32 y5 ∧ (y5 ≠ 2 → r = (some (.int (jI (-1))), w)) ∧ (y5 = 2 → r = (some (.int (jI 1)), w))) ∧ (y2 = 1 → r = (some (.int (jI 0)), w))) ∧ (z0 = 1 → r = (some (.int (jI (-1))), w))) ∧ (z0 = 0 → r = (some (.int (jI 1)), w))) : xGo 210 0 [some (.int (jI z0))] [] w r := by
  refine g_iloadn (pc' := 1) d_210_0 rfl rfl ?_
  obtain ⟨hc1, h⟩ := h
  refine gz_if_ne (pc' := 4) (pt := 8) d_210_1 (by decide) rfl hc1 (fun c => ?_) (fun c => ?_)
  · replace h := h.1 c
    refine g_iloadn (pc' := 9) d_210_8 rfl rfl ?_
    refine g_iconst (pc' := 10) d_210_9 rfl rfl ?_
    refine gz_ic_ne (pc' := 13) (pt := 17) d_210_10 (by decide) rfl hc1 (s32 (z := 1)) (fun c => ?_) (fun c => ?_)
    · replace h := h.1 c
      refine g_iloadn (pc' := 18) d_210_17 rfl rfl ?_
      refine g_iconst (pc' := 19) d_210_18 rfl rfl ?_
      obtain ⟨y2, hz3, h⟩ := h
      refine gz_irem (pc' := 20) d_210_19 rfl hc1 (s32 (z := 2)) (by decide) hz3 ?_
      refine g_iconst (pc' := 21) d_210_20 rfl rfl ?_
      obtain ⟨hc4, h⟩ := h
      refine gz_ic_ne (pc' := 24) (pt := 28) d_210_21 (by decide) rfl hc4 (s32 (z := 1)) (fun c => ?_) (fun c => ?_)
      · replace h := h.1 c
        refine g_iloadn (pc' := 29) d_210_28 rfl rfl ?_
        refine g_iconst (pc' := 30) d_210_29 rfl rfl ?_
        obtain ⟨y5, hz6, h⟩ := h
        refine gz_irem (pc' := 31) d_210_30 rfl hc1 (s32 (z := 4)) (by decide) hz6 ?_
        refine g_iconst (pc' := 32) d_210_31 rfl rfl ?_
        obtain ⟨hc7, h⟩ := h
        refine gz_ic_ne (pc' := 35) (pt := 39) d_210_32 (by decide) rfl hc7 (s32 (z := 2)) (fun c => ?_) (fun c => ?_)
        · replace h := h.1 c
          refine g_iconst (pc' := 40) d_210_39 rfl rfl ?_
          exact g_iret d_210_40 rt_210 h
        · replace h := h.2 c
          refine g_iconst (pc' := 36) d_210_35 rfl rfl ?_
          refine g_goto (pt := 40) d_210_36 (by decide) ?_
          exact g_iret d_210_40 rt_210 h
      · replace h := h.2 c
        refine g_iconst (pc' := 25) d_210_24 rfl rfl ?_
        refine g_goto (pt := 40) d_210_25 (by decide) ?_
        exact g_iret d_210_40 rt_210 h
    · replace h := h.2 c
      refine g_iconst (pc' := 14) d_210_13 rfl rfl ?_
      refine g_goto (pt := 40) d_210_14 (by decide) ?_
      exact g_iret d_210_40 rt_210 h
  · replace h := h.2 c
    refine g_iconst (pc' := 5) d_210_4 rfl rfl ?_
    refine g_goto (pt := 40) d_210_5 (by decide) ?_
    exact g_iret d_210_40 rt_210 h
theorem Z_210 {z0 : Int} {w : xW} {r : Option Value × xW} (hC : CS w) (h : in32 z0 ∧ (z0 ≠ 0 → (z0 ≠ 1 → ∃ y2, Int.tmod z0 2 = y2 ∧ in32 y2 ∧ (y2 ≠ 1 → ∃ y5, Int.tmod z0 4 = y5 ∧ in32 y5 ∧ (y5 ≠ 2 → r = (some (.int (jI (-1))), w)) ∧ (y5 = 2 → r = (some (.int (jI 1)), w))) ∧ (y2 = 1 → r = (some (.int (jI 0)), w))) ∧ (z0 = 1 → r = (some (.int (jI (-1))), w))) ∧ (z0 = 0 → r = (some (.int (jI 1)), w))) : xCall 210 [.int (jI z0)] w r := E_210 (Z_210_0 hC h)
theorem Z_211_0 {z1 : Int} {w : xW} {r : Option Value × xW} (hC : CS w) (h : in32 z1 ∧ (1 ≤ z1 → ∃ w2, xCall 190 [.ref 39, .ref 41, .int (jI (z1 + 1)), .int (jI z1)] w (none, w2) ∧ CS w2 ∧ ∃ x5, fJ w2 39 12 8 x5 ∧ in64 x5 ∧ (x5 ≠ 0 → r = (some (.int (jI 1)), w2)) ∧ (x5 = 0 → ∃ x8, fJ w2 39 12 9 x8 ∧ in64 x8 ∧ (x8 = 0 → r = (some (.int (jI 0)), w2)) ∧ (x8 ≠ 0 → r = (some (.int (jI 1)), w2)))) ∧ (z1 < 1 → r = (some (.int (jI 0)), w))) : xGo 211 0 [some (.ref 39), some (.int (jI z1))] [] w r := by
  refine g_iloadn (pc' := 1) d_211_0 rfl rfl ?_
  refine g_iconst (pc' := 2) d_211_1 rfl rfl ?_
  obtain ⟨hc1, h⟩ := h
  refine gz_ic_ge (pc' := 5) (pt := 7) d_211_2 (by decide) rfl hc1 (s32 (z := 1)) (fun c => ?_) (fun c => ?_)
  · replace h := h.1 c
    refine g_aloadn (pc' := 8) d_211_7 rfl rfl ?_
    refine g_aloadn (pc' := 9) d_211_8 rfl rfl ?_
    refine gz_getR (pc' := 12) d_211_9 rfl st_211_13 (kr_39_2 hC) ?_
    refine g_iloadn (pc' := 13) d_211_12 rfl rfl ?_
    refine g_iconst (pc' := 14) d_211_13 rfl rfl ?_
    refine gz_iadd (pc' := 15) d_211_14 rfl ?_
    refine g_iloadn (pc' := 16) d_211_15 rfl rfl ?_
    obtain ⟨w2, hk3, hC4, h⟩ := h
    refine gz_callV (pc' := 19) d_211_16 rfl st_211_103 na_190 ml_190 rfl rfl rfl rm_211_190 rfl rfl ow_190 (ko_39 hC) hk3 ?_
    refine g_aloadn (pc' := 20) d_211_19 rfl rfl ?_
    obtain ⟨x5, hv6, h⟩ := h
    refine gz_getJ (pc' := 23) d_211_20 rfl st_211_107 hv6 ?_
    refine g_lconst (pc' := 24) (v := jL 0) d_211_23 rfl cl_0 ?_
    obtain ⟨hc7, h⟩ := h
    refine gz_lc_ne (pc' := 28) (pm := 25) (pt := 37) d_211_24 rfl d_211_25 (by decide) rfl hc7 (s64 (z := 0)) (fun c => ?_) (fun c => ?_)
    · replace h := h.1 c
      refine g_iconst (pc' := 38) d_211_37 rfl rfl ?_
      refine g_goto (pt := 42) d_211_38 (by decide) ?_
      exact g_zret d_211_42 rt_211 (Or.inr rfl) h
    · replace h := h.2 c
      refine g_aloadn (pc' := 29) d_211_28 rfl rfl ?_
      obtain ⟨x8, hv9, h⟩ := h
      refine gz_getJ (pc' := 32) d_211_29 rfl st_211_111 hv9 ?_
      refine g_lconst (pc' := 33) (v := jL 0) d_211_32 rfl cl_0 ?_
      obtain ⟨hc10, h⟩ := h
      refine gz_lc_eq (pc' := 37) (pm := 34) (pt := 41) d_211_33 rfl d_211_34 (by decide) rfl hc10 (s64 (z := 0)) (fun c => ?_) (fun c => ?_)
      · replace h := h.1 c
        refine g_iconst (pc' := 42) d_211_41 rfl rfl ?_
        exact g_zret d_211_42 rt_211 (Or.inl rfl) h
      · replace h := h.2 c
        refine g_iconst (pc' := 38) d_211_37 rfl rfl ?_
        refine g_goto (pt := 42) d_211_38 (by decide) ?_
        exact g_zret d_211_42 rt_211 (Or.inr rfl) h
  · replace h := h.2 c
    refine g_iconst (pc' := 6) d_211_5 rfl rfl ?_
    exact g_zret d_211_6 rt_211 (Or.inl rfl) h
theorem Z_211 {z1 : Int} {w : xW} {r : Option Value × xW} (hC : CS w) (h : in32 z1 ∧ (1 ≤ z1 → ∃ w2, xCall 190 [.ref 39, .ref 41, .int (jI (z1 + 1)), .int (jI z1)] w (none, w2) ∧ CS w2 ∧ ∃ x5, fJ w2 39 12 8 x5 ∧ in64 x5 ∧ (x5 ≠ 0 → r = (some (.int (jI 1)), w2)) ∧ (x5 = 0 → ∃ x8, fJ w2 39 12 9 x8 ∧ in64 x8 ∧ (x8 = 0 → r = (some (.int (jI 0)), w2)) ∧ (x8 ≠ 0 → r = (some (.int (jI 1)), w2)))) ∧ (z1 < 1 → r = (some (.int (jI 0)), w))) : xCall 211 [.ref 39, .int (jI z1)] w r := E_211 (Z_211_0 hC h)
theorem Z_212_0 {z1 : Int} {w : xW} {r : Option Value × xW} (hC : CS w) (h : xGo 212 2 [some (.ref 39), some (.int (jI z1)), some (.int (jI 2)), none] [] w r) : xGo 212 0 [some (.ref 39), some (.int (jI z1)), none, none] [] w r := by
  refine g_iconst (pc' := 1) d_212_0 rfl rfl ?_
  refine g_istoren (pc' := 2) (l' := [some (.ref 39), some (.int (jI z1)), some (.int (jI 2)), none]) d_212_1 rfl ml_212 rfl rfl ?_
  exact h
theorem Z_212 {z1 : Int} {w : xW} {r : Option Value × xW} (hC : CS w) (h : xGo 212 2 [some (.ref 39), some (.int (jI z1)), some (.int (jI 2)), none] [] w r) : xCall 212 [.ref 39, .int (jI z1)] w r := E_212 (Z_212_0 hC h)
theorem Z_212_2 {z1 : Int} {z2 : Int} {w : xW} {r : Option Value × xW} (hC : CS w) (h : 0 ≤ z2 ∧ ∃ x2, rI w 44 (z2).toNat x2 ∧ in32 x2 ∧ (37 < x2 → r = (some (.int (jI 0)), w)) ∧ (x2 ≤ 37 → xGo 212 15 [some (.ref 39), some (.int (jI z1)), some (.int (jI z2)), some (.int (jI 2))] [] w r)) : xGo 212 2 [some (.ref 39), some (.int (jI z1)), some (.int (jI z2)), none] [] w r := by
  refine g_aloadn (pc' := 3) d_212_2 rfl rfl ?_
  refine gz_getR (pc' := 6) d_212_3 rfl st_212_27 (kr_39_6 hC) ?_
  refine g_iloadn (pc' := 7) d_212_6 rfl rfl ?_
  obtain ⟨hc1, h⟩ := h
  obtain ⟨x2, hv3, h⟩ := h
  refine gz_iald (pc' := 8) d_212_7 rfl hc1 hv3 ?_
  refine g_bipush (pc' := 10) (v := jI 37) d_212_8 rfl (by decide) ?_
  obtain ⟨hc4, h⟩ := h
  refine gz_ic_gt (pc' := 13) (pt := 49) d_212_10 (by decide) rfl hc4 (s32 (z := 37)) (fun c => ?_) (fun c => ?_)
  · replace h := h.1 c
    refine g_iconst (pc' := 50) d_212_49 rfl rfl ?_
    exact g_zret d_212_50 rt_212 (Or.inl rfl) h
  · replace h := h.2 c
    refine g_iconst (pc' := 14) d_212_13 rfl rfl ?_
    refine g_istoren (pc' := 15) (l' := [some (.ref 39), some (.int (jI z1)), some (.int (jI z2)), some (.int (jI 2))]) d_212_14 rfl ml_212 rfl rfl ?_
    exact h
theorem Z_212_15 {z1 : Int} {z2 : Int} {z3 : Int} {w : xW} {r : Option Value × xW} (hC : CS w) (h : in32 z3 ∧ in32 z1 ∧ (z1 ≤ z3 → xGo 212 2 [some (.ref 39), some (.int (jI z1)), some (.int (jI (z2 + 1))), none] [] w r) ∧ (z3 < z1 → 0 ≤ z2 ∧ ∃ x4, rI w 44 (z2).toNat x4 ∧ ∃ r9 w6, xCall 213 [.ref 39, .int (jI x4), .int (jI z3), .int (jI z1)] w (some (.int (jI r9)), w6) ∧ CS w6 ∧ in32 r9 ∧ (r9 ≤ 0 → xGo 212 15 [some (.ref 39), some (.int (jI z1)), some (.int (jI z2)), some (.int (jI (z3 + 2)))] [] w6 r) ∧ (0 < r9 → r = (some (.int (jI 1)), w6)))) : xGo 212 15 [some (.ref 39), some (.int (jI z1)), some (.int (jI z2)), some (.int (jI z3))] [] w r := by
  refine g_iloadn (pc' := 16) d_212_15 rfl rfl ?_
  refine g_iloadn (pc' := 17) d_212_16 rfl rfl ?_
  obtain ⟨hc1, h⟩ := h
  obtain ⟨hc2, h⟩ := h
  refine gz_ic_ge (pc' := 20) (pt := 43) d_212_17 (by decide) rfl hc1 hc2 (fun c => ?_) (fun c => ?_)
  · replace h := h.1 c
    refine gz_iinc (pc' := 46) (l' := [some (.ref 39), some (.int (jI z1)), some (.int (jI (z2 + 1))), some (.int (jI z3))]) d_212_43 rfl rfl ml_212 rfl rfl ?_
    refine g_goto (pt := 2) d_212_46 (by decide) ?_
    exact xGo.more (xle_s (xle_s (xle_s (xle_n xle_0)))) h
  · replace h := h.2 c
    refine g_aloadn (pc' := 21) d_212_20 rfl rfl ?_
    refine g_aloadn (pc' := 22) d_212_21 rfl rfl ?_
    refine gz_getR (pc' := 25) d_212_22 rfl st_212_27 (kr_39_6 hC) ?_
    refine g_iloadn (pc' := 26) d_212_25 rfl rfl ?_
    obtain ⟨hc3, h⟩ := h
    obtain ⟨x4, hv5, h⟩ := h
    refine gz_iald (pc' := 27) d_212_26 rfl hc3 hv5 ?_
    refine g_iloadn (pc' := 28) d_212_27 rfl rfl ?_
    refine g_iloadn (pc' := 29) d_212_28 rfl rfl ?_
    obtain ⟨r9, w6, hk7, hC8, h⟩ := h
    refine gz_callV (pc' := 32) d_212_29 rfl st_212_205 na_213 ml_213 rfl rfl rfl rm_212_213 rfl rfl ow_213 (ko_39 hC) hk7 ?_
    obtain ⟨hc10, h⟩ := h
    refine gz_if_le (pc' := 35) (pt := 37) d_212_32 (by decide) rfl hc10 (fun c => ?_) (fun c => ?_)
    · replace h := h.1 c
      refine gz_iinc (pc' := 40) (l' := [some (.ref 39), some (.int (jI z1)), some (.int (jI z2)), some (.int (jI (z3 + 2)))]) d_212_37 rfl rfl ml_212 rfl rfl ?_
      refine g_goto (pt := 15) d_212_40 (by decide) ?_
      exact h
    · replace h := h.2 c
      refine g_iconst (pc' := 36) d_212_35 rfl rfl ?_
      exact g_zret d_212_36 rt_212 (Or.inr rfl) h
theorem Z_213_0 {z1 : Int} {z2 : Int} {z3 : Int} {w : xW} {r : Option Value × xW} (hC : CS w) (h : in32 z2 ∧ (z2 < 2 → r = (some (.int (jI (-3))), w)) ∧ (2 ≤ z2 → in32 z3 ∧ (z3 < 2 → r = (some (.int (jI (-3))), w)) ∧ (2 ≤ z3 → ∃ y3, Int.tmod z2 2 = y3 ∧ in32 y3 ∧ (y3 = 1 → r = (some (.int (jI (-3))), w)) ∧ (y3 ≠ 1 → ∃ y6, Int.tmod z3 2 = y6 ∧ in32 y6 ∧ (y6 = 1 → r = (some (.int (jI (-3))), w)) ∧ (y6 ≠ 1 → in32 (z2 - z3) ∧ in32 (z1 - 1) ∧ z1 - 1 ≠ 0 ∧ ∃ y12, Int.tmod (z2 - z3) (z1 - 1) = y12 ∧ in32 y12 ∧ (y12 ≠ 0 → r = (some (.int (jI (-3))), w)) ∧ (y12 = 0 → z1 - 1 ≠ 0 ∧ ∃ y16, Int.tmod z2 (z1 - 1) = y16 ∧ in32 y16 ∧ (y16 = 0 → r = (some (.int (jI (-3))), w)) ∧ (y16 ≠ 0 → in32 z1 ∧ z1 ≠ 0 ∧ ∃ y21, Int.tmod z2 z1 = y21 ∧ in32 y21 ∧ (y21 = 0 → r = (some (.int (jI (-3))), w)) ∧ (y21 ≠ 0 → z1 ≠ 0 ∧ ∃ y25, Int.tmod z3 z1 = y25 ∧ in32 y25 ∧ (y25 ≠ 0 → ∃ r31 w28, xCall 214 [.ref 39, .ref 41, .int (jI z2), .int (jI z1)] w (some (.int (jI r31)), w28) ∧ CS w28 ∧ ∃ r35 w32, xCall 214 [.ref 39, .ref 41, .int (jI z3), .int (jI z1)] w28 (some (.int (jI r35)), w32) ∧ CS w32 ∧ in32 r31 ∧ (r31 < 0 → r = (some (.int (jI (-3))), w32)) ∧ (0 ≤ r31 → in32 r35 ∧ (0 ≤ r35 → z1 ≠ 0 ∧ ∃ y39, Int.tmod z2 z1 = y39 ∧ ∃ r44 w41, xCall 216 [.int (jI y39), .int (jI (z1 - 2)), .int (jI z1)] w32 (some (.int (jI r44)), w41) ∧ CS w41 ∧ in32 r44 ∧ z1 ≠ 0 ∧ ∃ y47, Int.tmod z3 z1 = y47 ∧ ∃ r52 w49, xCall 216 [.int (jI y47), .int (jI (z1 - 2)), .int (jI z1)] w41 (some (.int (jI r52)), w49) ∧ CS w49 ∧ in32 r52 ∧ ∃ r57 w54, xCall 215 [.long (jL ((r31 * r44) - (r35 * r52))), .int (jI z1)] w49 (some (.int (jI r57)), w54) ∧ CS w54 ∧ r = (some (.int (jI r57)), w54)) ∧ (r35 < 0 → r = (some (.int (jI (-3))), w32)))) ∧ (y25 = 0 → r = (some (.int (jI (-3))), w)))))))))) : xGo 213 0 [some (.ref 39), some (.int (jI z1)), some (.int (jI z2)), some (.int (jI z3)), none, none] [] w r := by
  refine g_iloadn (pc' := 1) d_213_0 rfl rfl ?_
  refine g_iconst (pc' := 2) d_213_1 rfl rfl ?_
  obtain ⟨hc1, h⟩ := h
  refine gz_ic_lt (pc' := 5) (pt := 54) d_213_2 (by decide) rfl hc1 (s32 (z := 2)) (fun c => ?_) (fun c => ?_)
  · replace h := h.1 c
    refine g_bipush (pc' := 56) (v := jI (-3)) d_213_54 rfl (by decide) ?_
    exact g_iret d_213_56 rt_213 h
  · replace h := h.2 c
    refine g_iloadn (pc' := 6) d_213_5 rfl rfl ?_
    refine g_iconst (pc' := 7) d_213_6 rfl rfl ?_
    obtain ⟨hc2, h⟩ := h
    refine gz_ic_lt (pc' := 10) (pt := 54) d_213_7 (by decide) rfl hc2 (s32 (z := 2)) (fun c => ?_) (fun c => ?_)
    · replace h := h.1 c
      refine g_bipush (pc' := 56) (v := jI (-3)) d_213_54 rfl (by decide) ?_
      exact g_iret d_213_56 rt_213 h
    · replace h := h.2 c
      refine g_iloadn (pc' := 11) d_213_10 rfl rfl ?_
      refine g_iconst (pc' := 12) d_213_11 rfl rfl ?_
      obtain ⟨y3, hz4, h⟩ := h
      refine gz_irem (pc' := 13) d_213_12 rfl hc1 (s32 (z := 2)) (by decide) hz4 ?_
      refine g_iconst (pc' := 14) d_213_13 rfl rfl ?_
      obtain ⟨hc5, h⟩ := h
      refine gz_ic_eq (pc' := 17) (pt := 54) d_213_14 (by decide) rfl hc5 (s32 (z := 1)) (fun c => ?_) (fun c => ?_)
      · replace h := h.1 c
        refine g_bipush (pc' := 56) (v := jI (-3)) d_213_54 rfl (by decide) ?_
        exact g_iret d_213_56 rt_213 h
      · replace h := h.2 c
        refine g_iloadn (pc' := 18) d_213_17 rfl rfl ?_
        refine g_iconst (pc' := 19) d_213_18 rfl rfl ?_
        obtain ⟨y6, hz7, h⟩ := h
        refine gz_irem (pc' := 20) d_213_19 rfl hc2 (s32 (z := 2)) (by decide) hz7 ?_
        refine g_iconst (pc' := 21) d_213_20 rfl rfl ?_
        obtain ⟨hc8, h⟩ := h
        refine gz_ic_eq (pc' := 24) (pt := 54) d_213_21 (by decide) rfl hc8 (s32 (z := 1)) (fun c => ?_) (fun c => ?_)
        · replace h := h.1 c
          refine g_bipush (pc' := 56) (v := jI (-3)) d_213_54 rfl (by decide) ?_
          exact g_iret d_213_56 rt_213 h
        · replace h := h.2 c
          refine g_iloadn (pc' := 25) d_213_24 rfl rfl ?_
          refine g_iloadn (pc' := 26) d_213_25 rfl rfl ?_
          refine gz_isub (pc' := 27) d_213_26 rfl ?_
          refine g_iloadn (pc' := 28) d_213_27 rfl rfl ?_
          refine g_iconst (pc' := 29) d_213_28 rfl rfl ?_
          refine gz_isub (pc' := 30) d_213_29 rfl ?_
          obtain ⟨hc9, h⟩ := h
          obtain ⟨hc10, h⟩ := h
          obtain ⟨hc11, h⟩ := h
          obtain ⟨y12, hz13, h⟩ := h
          refine gz_irem (pc' := 31) d_213_30 rfl hc9 hc10 hc11 hz13 ?_
          obtain ⟨hc14, h⟩ := h
          refine gz_if_ne (pc' := 34) (pt := 54) d_213_31 (by decide) rfl hc14 (fun c => ?_) (fun c => ?_)
          · replace h := h.1 c
            refine g_bipush (pc' := 56) (v := jI (-3)) d_213_54 rfl (by decide) ?_
            exact g_iret d_213_56 rt_213 h
          · replace h := h.2 c
            refine g_iloadn (pc' := 35) d_213_34 rfl rfl ?_
            refine g_iloadn (pc' := 36) d_213_35 rfl rfl ?_
            refine g_iconst (pc' := 37) d_213_36 rfl rfl ?_
            refine gz_isub (pc' := 38) d_213_37 rfl ?_
            obtain ⟨hc15, h⟩ := h
            obtain ⟨y16, hz17, h⟩ := h
            refine gz_irem (pc' := 39) d_213_38 rfl hc1 hc10 hc15 hz17 ?_
            obtain ⟨hc18, h⟩ := h
            refine gz_if_eq (pc' := 42) (pt := 54) d_213_39 (by decide) rfl hc18 (fun c => ?_) (fun c => ?_)
            · replace h := h.1 c
              refine g_bipush (pc' := 56) (v := jI (-3)) d_213_54 rfl (by decide) ?_
              exact g_iret d_213_56 rt_213 h
            · replace h := h.2 c
              refine g_iloadn (pc' := 43) d_213_42 rfl rfl ?_
              refine g_iloadn (pc' := 44) d_213_43 rfl rfl ?_
              obtain ⟨hc19, h⟩ := h
              obtain ⟨hc20, h⟩ := h
              obtain ⟨y21, hz22, h⟩ := h
              refine gz_irem (pc' := 45) d_213_44 rfl hc1 hc19 hc20 hz22 ?_
              obtain ⟨hc23, h⟩ := h
              refine gz_if_eq (pc' := 48) (pt := 54) d_213_45 (by decide) rfl hc23 (fun c => ?_) (fun c => ?_)
              · replace h := h.1 c
                refine g_bipush (pc' := 56) (v := jI (-3)) d_213_54 rfl (by decide) ?_
                exact g_iret d_213_56 rt_213 h
              · replace h := h.2 c
                refine g_iloadn (pc' := 49) d_213_48 rfl rfl ?_
                refine g_iloadn (pc' := 50) d_213_49 rfl rfl ?_
                obtain ⟨hc24, h⟩ := h
                obtain ⟨y25, hz26, h⟩ := h
                refine gz_irem (pc' := 51) d_213_50 rfl hc2 hc19 hc24 hz26 ?_
                obtain ⟨hc27, h⟩ := h
                refine gz_if_ne (pc' := 54) (pt := 57) d_213_51 (by decide) rfl hc27 (fun c => ?_) (fun c => ?_)
                · replace h := h.1 c
                  refine g_aloadn (pc' := 58) d_213_57 rfl rfl ?_
                  refine g_aloadn (pc' := 59) d_213_58 rfl rfl ?_
                  refine gz_getR (pc' := 62) d_213_59 rfl st_213_13 (kr_39_2 hC) ?_
                  refine g_iloadn (pc' := 63) d_213_62 rfl rfl ?_
                  refine g_iloadn (pc' := 64) d_213_63 rfl rfl ?_
                  obtain ⟨r31, w28, hk29, hC30, h⟩ := h
                  refine gz_callV (pc' := 67) d_213_64 rfl st_213_188 na_214 ml_214 rfl rfl rfl rm_213_214 rfl rfl ow_214 (ko_39 hC) hk29 ?_
                  refine g_istore (pc' := 69) (l' := [some (.ref 39), some (.int (jI z1)), some (.int (jI z2)), some (.int (jI z3)), some (.int (jI r31)), none]) d_213_67 rfl ml_213 rfl rfl ?_
                  refine g_aloadn (pc' := 70) d_213_69 rfl rfl ?_
                  refine g_aloadn (pc' := 71) d_213_70 rfl rfl ?_
                  refine gz_getR (pc' := 74) d_213_71 rfl st_213_13 (kr_39_2 hC30) ?_
                  refine g_iloadn (pc' := 75) d_213_74 rfl rfl ?_
                  refine g_iloadn (pc' := 76) d_213_75 rfl rfl ?_
                  obtain ⟨r35, w32, hk33, hC34, h⟩ := h
                  refine gz_callV (pc' := 79) d_213_76 rfl st_213_188 na_214 ml_214 rfl rfl rfl rm_213_214 rfl rfl ow_214 (ko_39 hC30) hk33 ?_
                  refine g_istore (pc' := 81) (l' := [some (.ref 39), some (.int (jI z1)), some (.int (jI z2)), some (.int (jI z3)), some (.int (jI r31)), some (.int (jI r35))]) d_213_79 rfl ml_213 rfl rfl ?_
                  refine g_iload (pc' := 83) d_213_81 rfl rfl ?_
                  obtain ⟨hc36, h⟩ := h
                  refine gz_if_lt (pc' := 86) (pt := 91) d_213_83 (by decide) rfl hc36 (fun c => ?_) (fun c => ?_)
                  · replace h := h.1 c
                    refine g_bipush (pc' := 93) (v := jI (-3)) d_213_91 rfl (by decide) ?_
                    exact g_iret d_213_93 rt_213 h
                  · replace h := h.2 c
                    refine g_iload (pc' := 88) d_213_86 rfl rfl ?_
                    obtain ⟨hc37, h⟩ := h
                    refine gz_if_ge (pc' := 91) (pt := 94) d_213_88 (by decide) rfl hc37 (fun c => ?_) (fun c => ?_)
                    · replace h := h.1 c
                      refine g_iload (pc' := 96) d_213_94 rfl rfl ?_
                      refine gz_i2l (pc' := 97) d_213_96 rfl hc36 ?_
                      refine g_iloadn (pc' := 98) d_213_97 rfl rfl ?_
                      refine g_iloadn (pc' := 99) d_213_98 rfl rfl ?_
                      obtain ⟨hc38, h⟩ := h
                      obtain ⟨y39, hz40, h⟩ := h
                      refine gz_irem (pc' := 100) d_213_99 rfl hc1 hc19 hc38 hz40 ?_
                      refine g_iloadn (pc' := 101) d_213_100 rfl rfl ?_
                      refine g_iconst (pc' := 102) d_213_101 rfl rfl ?_
                      refine gz_isub (pc' := 103) d_213_102 rfl ?_
                      refine g_iloadn (pc' := 104) d_213_103 rfl rfl ?_
                      obtain ⟨r44, w41, hk42, hC43, h⟩ := h
                      refine g_callS (pc' := 107) d_213_104 rfl st_213_174 (Or.inl rfl) na_216 ml_216 rfl rfl rfl rm_213_216 rfl rfl hk42 ?_
                      obtain ⟨hc45, h⟩ := h
                      refine gz_i2l (pc' := 108) d_213_107 rfl hc45 ?_
                      refine gz_lmul (pc' := 109) d_213_108 rfl ?_
                      refine g_iload (pc' := 111) d_213_109 rfl rfl ?_
                      refine gz_i2l (pc' := 112) d_213_111 rfl hc37 ?_
                      refine g_iloadn (pc' := 113) d_213_112 rfl rfl ?_
                      refine g_iloadn (pc' := 114) d_213_113 rfl rfl ?_
                      obtain ⟨hc46, h⟩ := h
                      obtain ⟨y47, hz48, h⟩ := h
                      refine gz_irem (pc' := 115) d_213_114 rfl hc2 hc19 hc46 hz48 ?_
                      refine g_iloadn (pc' := 116) d_213_115 rfl rfl ?_
                      refine g_iconst (pc' := 117) d_213_116 rfl rfl ?_
                      refine gz_isub (pc' := 118) d_213_117 rfl ?_
                      refine g_iloadn (pc' := 119) d_213_118 rfl rfl ?_
                      obtain ⟨r52, w49, hk50, hC51, h⟩ := h
                      refine g_callS (pc' := 122) d_213_119 rfl st_213_174 (Or.inl rfl) na_216 ml_216 rfl rfl rfl rm_213_216 rfl rfl hk50 ?_
                      obtain ⟨hc53, h⟩ := h
                      refine gz_i2l (pc' := 123) d_213_122 rfl hc53 ?_
                      refine gz_lmul (pc' := 124) d_213_123 rfl ?_
                      refine gz_lsub (pc' := 125) d_213_124 rfl ?_
                      refine g_iloadn (pc' := 126) d_213_125 rfl rfl ?_
                      obtain ⟨r57, w54, hk55, hC56, h⟩ := h
                      refine g_callS (pc' := 129) d_213_126 rfl st_213_170 (Or.inl rfl) na_215 ml_215 rfl rfl rfl rm_213_215 rfl rfl hk55 ?_
                      exact g_iret d_213_129 rt_213 h
                    · replace h := h.2 c
                      refine g_bipush (pc' := 93) (v := jI (-3)) d_213_91 rfl (by decide) ?_
                      exact g_iret d_213_93 rt_213 h
                · replace h := h.2 c
                  refine g_bipush (pc' := 56) (v := jI (-3)) d_213_54 rfl (by decide) ?_
                  exact g_iret d_213_56 rt_213 h
theorem Z_213 {z1 : Int} {z2 : Int} {z3 : Int} {w : xW} {r : Option Value × xW} (hC : CS w) (h : in32 z2 ∧ (z2 < 2 → r = (some (.int (jI (-3))), w)) ∧ (2 ≤ z2 → in32 z3 ∧ (z3 < 2 → r = (some (.int (jI (-3))), w)) ∧ (2 ≤ z3 → ∃ y3, Int.tmod z2 2 = y3 ∧ in32 y3 ∧ (y3 = 1 → r = (some (.int (jI (-3))), w)) ∧ (y3 ≠ 1 → ∃ y6, Int.tmod z3 2 = y6 ∧ in32 y6 ∧ (y6 = 1 → r = (some (.int (jI (-3))), w)) ∧ (y6 ≠ 1 → in32 (z2 - z3) ∧ in32 (z1 - 1) ∧ z1 - 1 ≠ 0 ∧ ∃ y12, Int.tmod (z2 - z3) (z1 - 1) = y12 ∧ in32 y12 ∧ (y12 ≠ 0 → r = (some (.int (jI (-3))), w)) ∧ (y12 = 0 → z1 - 1 ≠ 0 ∧ ∃ y16, Int.tmod z2 (z1 - 1) = y16 ∧ in32 y16 ∧ (y16 = 0 → r = (some (.int (jI (-3))), w)) ∧ (y16 ≠ 0 → in32 z1 ∧ z1 ≠ 0 ∧ ∃ y21, Int.tmod z2 z1 = y21 ∧ in32 y21 ∧ (y21 = 0 → r = (some (.int (jI (-3))), w)) ∧ (y21 ≠ 0 → z1 ≠ 0 ∧ ∃ y25, Int.tmod z3 z1 = y25 ∧ in32 y25 ∧ (y25 ≠ 0 → ∃ r31 w28, xCall 214 [.ref 39, .ref 41, .int (jI z2), .int (jI z1)] w (some (.int (jI r31)), w28) ∧ CS w28 ∧ ∃ r35 w32, xCall 214 [.ref 39, .ref 41, .int (jI z3), .int (jI z1)] w28 (some (.int (jI r35)), w32) ∧ CS w32 ∧ in32 r31 ∧ (r31 < 0 → r = (some (.int (jI (-3))), w32)) ∧ (0 ≤ r31 → in32 r35 ∧ (0 ≤ r35 → z1 ≠ 0 ∧ ∃ y39, Int.tmod z2 z1 = y39 ∧ ∃ r44 w41, xCall 216 [.int (jI y39), .int (jI (z1 - 2)), .int (jI z1)] w32 (some (.int (jI r44)), w41) ∧ CS w41 ∧ in32 r44 ∧ z1 ≠ 0 ∧ ∃ y47, Int.tmod z3 z1 = y47 ∧ ∃ r52 w49, xCall 216 [.int (jI y47), .int (jI (z1 - 2)), .int (jI z1)] w41 (some (.int (jI r52)), w49) ∧ CS w49 ∧ in32 r52 ∧ ∃ r57 w54, xCall 215 [.long (jL ((r31 * r44) - (r35 * r52))), .int (jI z1)] w49 (some (.int (jI r57)), w54) ∧ CS w54 ∧ r = (some (.int (jI r57)), w54)) ∧ (r35 < 0 → r = (some (.int (jI (-3))), w32)))) ∧ (y25 = 0 → r = (some (.int (jI (-3))), w)))))))))) : xCall 213 [.ref 39, .int (jI z1), .int (jI z2), .int (jI z3)] w r := E_213 (Z_213_0 hC h)
theorem Z_214_0 {a1 : Nat} {z2 : Int} {z3 : Int} {w : xW} {r : Option Value × xW} (hC : CS w) (h : 0 ≤ (3 * z2) + 2 ∧ ∃ x2, rL w a1 ((3 * z2) + 2).toNat x2 ∧ ∃ r7 w4, xCall 215 [.long (jL x2), .int (jI z3)] w (some (.int (jI r7)), w4) ∧ CS w4 ∧ in32 r7 ∧ (r7 ≠ 0 → 0 ≤ 3 * z2 ∧ ∃ x10, rL w4 a1 (3 * z2).toNat x10 ∧ ∃ r15 w12, xCall 215 [.long (jL x10), .int (jI z3)] w4 (some (.int (jI r15)), w12) ∧ CS w12 ∧ in32 r15 ∧ 0 ≤ (3 * z2) + 1 ∧ ∃ x18, rL w12 a1 ((3 * z2) + 1).toNat x18 ∧ ∃ r23 w20, xCall 215 [.long (jL x18), .int (jI z3)] w12 (some (.int (jI r23)), w20) ∧ CS w20 ∧ in32 r23 ∧ ∃ r28 w25, xCall 216 [.int (jI r7), .int (jI (z3 - 2)), .int (jI z3)] w20 (some (.int (jI r28)), w25) ∧ CS w25 ∧ in32 r28 ∧ ∃ r33 w30, xCall 215 [.long (jL (r15 + (r23 * r28))), .int (jI z3)] w25 (some (.int (jI r33)), w30) ∧ CS w30 ∧ r = (some (.int (jI r33)), w30)) ∧ (r7 = 0 → r = (some (.int (jI (-3))), w4))) : xGo 214 0 [some (.ref 39), some (.ref a1), some (.int (jI z2)), some (.int (jI z3)), none] [] w r := by
  refine g_aloadn (pc' := 1) d_214_0 rfl rfl ?_
  refine g_iconst (pc' := 2) d_214_1 rfl rfl ?_
  refine g_iloadn (pc' := 3) d_214_2 rfl rfl ?_
  refine gz_imul (pc' := 4) d_214_3 rfl ?_
  refine g_iconst (pc' := 5) d_214_4 rfl rfl ?_
  refine gz_iadd (pc' := 6) d_214_5 rfl ?_
  obtain ⟨hc1, h⟩ := h
  obtain ⟨x2, hv3, h⟩ := h
  refine gz_lald (pc' := 7) d_214_6 rfl hc1 hv3 ?_
  refine g_iloadn (pc' := 8) d_214_7 rfl rfl ?_
  obtain ⟨r7, w4, hk5, hC6, h⟩ := h
  refine g_callS (pc' := 11) d_214_8 rfl st_214_170 (Or.inl rfl) na_215 ml_215 rfl rfl rfl rm_214_215 rfl rfl hk5 ?_
  refine g_istore (pc' := 13) (l' := [some (.ref 39), some (.ref a1), some (.int (jI z2)), some (.int (jI z3)), some (.int (jI r7))]) d_214_11 rfl ml_214 rfl rfl ?_
  refine g_iload (pc' := 15) d_214_13 rfl rfl ?_
  obtain ⟨hc8, h⟩ := h
  refine gz_if_ne (pc' := 18) (pt := 21) d_214_15 (by decide) rfl hc8 (fun c => ?_) (fun c => ?_)
  · replace h := h.1 c
    refine g_aloadn (pc' := 22) d_214_21 rfl rfl ?_
    refine g_iconst (pc' := 23) d_214_22 rfl rfl ?_
    refine g_iloadn (pc' := 24) d_214_23 rfl rfl ?_
    refine gz_imul (pc' := 25) d_214_24 rfl ?_
    obtain ⟨hc9, h⟩ := h
    obtain ⟨x10, hv11, h⟩ := h
    refine gz_lald (pc' := 26) d_214_25 rfl hc9 hv11 ?_
    refine g_iloadn (pc' := 27) d_214_26 rfl rfl ?_
    obtain ⟨r15, w12, hk13, hC14, h⟩ := h
    refine g_callS (pc' := 30) d_214_27 rfl st_214_170 (Or.inl rfl) na_215 ml_215 rfl rfl rfl rm_214_215 rfl rfl hk13 ?_
    obtain ⟨hc16, h⟩ := h
    refine gz_i2l (pc' := 31) d_214_30 rfl hc16 ?_
    refine g_aloadn (pc' := 32) d_214_31 rfl rfl ?_
    refine g_iconst (pc' := 33) d_214_32 rfl rfl ?_
    refine g_iloadn (pc' := 34) d_214_33 rfl rfl ?_
    refine gz_imul (pc' := 35) d_214_34 rfl ?_
    refine g_iconst (pc' := 36) d_214_35 rfl rfl ?_
    refine gz_iadd (pc' := 37) d_214_36 rfl ?_
    obtain ⟨hc17, h⟩ := h
    obtain ⟨x18, hv19, h⟩ := h
    refine gz_lald (pc' := 38) d_214_37 rfl hc17 hv19 ?_
    refine g_iloadn (pc' := 39) d_214_38 rfl rfl ?_
    obtain ⟨r23, w20, hk21, hC22, h⟩ := h
    refine g_callS (pc' := 42) d_214_39 rfl st_214_170 (Or.inl rfl) na_215 ml_215 rfl rfl rfl rm_214_215 rfl rfl hk21 ?_
    obtain ⟨hc24, h⟩ := h
    refine gz_i2l (pc' := 43) d_214_42 rfl hc24 ?_
    refine g_iload (pc' := 45) d_214_43 rfl rfl ?_
    refine g_iloadn (pc' := 46) d_214_45 rfl rfl ?_
    refine g_iconst (pc' := 47) d_214_46 rfl rfl ?_
    refine gz_isub (pc' := 48) d_214_47 rfl ?_
    refine g_iloadn (pc' := 49) d_214_48 rfl rfl ?_
    obtain ⟨r28, w25, hk26, hC27, h⟩ := h
    refine g_callS (pc' := 52) d_214_49 rfl st_214_174 (Or.inl rfl) na_216 ml_216 rfl rfl rfl rm_214_216 rfl rfl hk26 ?_
    obtain ⟨hc29, h⟩ := h
    refine gz_i2l (pc' := 53) d_214_52 rfl hc29 ?_
    refine gz_lmul (pc' := 54) d_214_53 rfl ?_
    refine gz_ladd (pc' := 55) d_214_54 rfl ?_
    refine g_iloadn (pc' := 56) d_214_55 rfl rfl ?_
    obtain ⟨r33, w30, hk31, hC32, h⟩ := h
    refine g_callS (pc' := 59) d_214_56 rfl st_214_170 (Or.inl rfl) na_215 ml_215 rfl rfl rfl rm_214_215 rfl rfl hk31 ?_
    exact g_iret d_214_59 rt_214 h
  · replace h := h.2 c
    refine g_bipush (pc' := 20) (v := jI (-3)) d_214_18 rfl (by decide) ?_
    exact g_iret d_214_20 rt_214 h
theorem Z_214 {a1 : Nat} {z2 : Int} {z3 : Int} {w : xW} {r : Option Value × xW} (hC : CS w) (h : 0 ≤ (3 * z2) + 2 ∧ ∃ x2, rL w a1 ((3 * z2) + 2).toNat x2 ∧ ∃ r7 w4, xCall 215 [.long (jL x2), .int (jI z3)] w (some (.int (jI r7)), w4) ∧ CS w4 ∧ in32 r7 ∧ (r7 ≠ 0 → 0 ≤ 3 * z2 ∧ ∃ x10, rL w4 a1 (3 * z2).toNat x10 ∧ ∃ r15 w12, xCall 215 [.long (jL x10), .int (jI z3)] w4 (some (.int (jI r15)), w12) ∧ CS w12 ∧ in32 r15 ∧ 0 ≤ (3 * z2) + 1 ∧ ∃ x18, rL w12 a1 ((3 * z2) + 1).toNat x18 ∧ ∃ r23 w20, xCall 215 [.long (jL x18), .int (jI z3)] w12 (some (.int (jI r23)), w20) ∧ CS w20 ∧ in32 r23 ∧ ∃ r28 w25, xCall 216 [.int (jI r7), .int (jI (z3 - 2)), .int (jI z3)] w20 (some (.int (jI r28)), w25) ∧ CS w25 ∧ in32 r28 ∧ ∃ r33 w30, xCall 215 [.long (jL (r15 + (r23 * r28))), .int (jI z3)] w25 (some (.int (jI r33)), w30) ∧ CS w30 ∧ r = (some (.int (jI r33)), w30)) ∧ (r7 = 0 → r = (some (.int (jI (-3))), w4))) : xCall 214 [.ref 39, .ref a1, .int (jI z2), .int (jI z3)] w r := E_214 (Z_214_0 hC h)
theorem Z_215_0 {z0 : Int} {z2 : Int} {w : xW} {r : Option Value × xW} (hC : CS w) (h : in32 z2 ∧ in64 z0 ∧ z2 ≠ 0 ∧ ∃ y4, Int.tmod z0 z2 = y4 ∧ in64 y4 ∧ (0 ≤ y4 → r = (some (.int (jI y4)), w)) ∧ (y4 < 0 → r = (some (.int (jI (y4 + z2))), w))) : xGo 215 0 [some (.long (jL z0)), none, some (.int (jI z2)), none, none] [] w r := by
  refine g_lloadn (pc' := 1) d_215_0 rfl rfl ?_
  refine g_iloadn (pc' := 2) d_215_1 rfl rfl ?_
  obtain ⟨hc1, h⟩ := h
  refine gz_i2l (pc' := 3) d_215_2 rfl hc1 ?_
  obtain ⟨hc2, h⟩ := h
  obtain ⟨hc3, h⟩ := h
  obtain ⟨y4, hz5, h⟩ := h
  refine gz_lrem (pc' := 4) d_215_3 rfl hc2 (in3264 hc1) hc3 hz5 ?_
  refine g_lstoren (pc' := 5) (l' := [some (.long (jL z0)), none, some (.int (jI z2)), some (.long (jL y4)), none]) d_215_4 rfl ml_215 rfl rfl ?_
  refine g_lloadn (pc' := 6) d_215_5 rfl rfl ?_
  refine g_lconst (pc' := 7) (v := jL 0) d_215_6 rfl cl_0 ?_
  obtain ⟨hc6, h⟩ := h
  refine gz_lc_ge (pc' := 11) (pm := 8) (pt := 18) d_215_7 rfl d_215_8 (by decide) rfl hc6 (s64 (z := 0)) (fun c => ?_) (fun c => ?_)
  · replace h := h.1 c
    refine g_lloadn (pc' := 19) d_215_18 rfl rfl ?_
    refine gz_l2i (pc' := 20) d_215_19 rfl ?_
    exact g_iret d_215_20 rt_215 h
  · replace h := h.2 c
    refine g_lloadn (pc' := 12) d_215_11 rfl rfl ?_
    refine g_iloadn (pc' := 13) d_215_12 rfl rfl ?_
    refine gz_i2l (pc' := 14) d_215_13 rfl hc1 ?_
    refine gz_ladd (pc' := 15) d_215_14 rfl ?_
    refine g_goto (pt := 19) d_215_15 (by decide) ?_
    refine gz_l2i (pc' := 20) d_215_19 rfl ?_
    exact g_iret d_215_20 rt_215 h
theorem Z_215 {z0 : Int} {z2 : Int} {w : xW} {r : Option Value × xW} (hC : CS w) (h : in32 z2 ∧ in64 z0 ∧ z2 ≠ 0 ∧ ∃ y4, Int.tmod z0 z2 = y4 ∧ in64 y4 ∧ (0 ≤ y4 → r = (some (.int (jI y4)), w)) ∧ (y4 < 0 → r = (some (.int (jI (y4 + z2))), w))) : xCall 215 [.long (jL z0), .int (jI z2)] w r := E_215 (Z_215_0 hC h)
theorem Z_216_0 {z0 : Int} {z1 : Int} {z2 : Int} {w : xW} {r : Option Value × xW} (hC : CS w) (h : xGo 216 5 [some (.int (jI z0)), some (.int (jI z1)), some (.int (jI z2)), some (.long (jL 1)), none, some (.int (jI 0))] [] w r) : xGo 216 0 [some (.int (jI z0)), some (.int (jI z1)), some (.int (jI z2)), none, none, none] [] w r := by
  refine g_lconst (pc' := 1) (v := jL 1) d_216_0 rfl cl_1 ?_
  refine g_lstoren (pc' := 2) (l' := [some (.int (jI z0)), some (.int (jI z1)), some (.int (jI z2)), some (.long (jL 1)), none, none]) d_216_1 rfl ml_216 rfl rfl ?_
  refine g_iconst (pc' := 3) d_216_2 rfl rfl ?_
  refine g_istore (pc' := 5) (l' := [some (.int (jI z0)), some (.int (jI z1)), some (.int (jI z2)), some (.long (jL 1)), none, some (.int (jI 0))]) d_216_3 rfl ml_216 rfl rfl ?_
  exact h
theorem Z_216 {z0 : Int} {z1 : Int} {z2 : Int} {w : xW} {r : Option Value × xW} (hC : CS w) (h : xGo 216 5 [some (.int (jI z0)), some (.int (jI z1)), some (.int (jI z2)), some (.long (jL 1)), none, some (.int (jI 0))] [] w r) : xCall 216 [.int (jI z0), .int (jI z1), .int (jI z2)] w r := E_216 (Z_216_0 hC h)
theorem Z_216_5 {z0 : Int} {z1 : Int} {z2 : Int} {z3 : Int} {z5 : Int} {w : xW} {r : Option Value × xW} (hC : CS w) (h : in32 z5 ∧ in32 z1 ∧ (z1 ≤ z5 → r = (some (.int (jI z3)), w)) ∧ (z5 < z1 → in32 z0 ∧ in32 z2 ∧ in64 (z3 * z0) ∧ z2 ≠ 0 ∧ ∃ y7, Int.tmod (z3 * z0) z2 = y7 ∧ xGo 216 5 [some (.int (jI z0)), some (.int (jI z1)), some (.int (jI z2)), some (.long (jL y7)), none, some (.int (jI (z5 + 1)))] [] w r)) : xGo 216 5 [some (.int (jI z0)), some (.int (jI z1)), some (.int (jI z2)), some (.long (jL z3)), none, some (.int (jI z5))] [] w r := by
  refine g_iload (pc' := 7) d_216_5 rfl rfl ?_
  refine g_iloadn (pc' := 8) d_216_7 rfl rfl ?_
  obtain ⟨hc1, h⟩ := h
  obtain ⟨hc2, h⟩ := h
  refine gz_ic_ge (pc' := 11) (pt := 25) d_216_8 (by decide) rfl hc1 hc2 (fun c => ?_) (fun c => ?_)
  · replace h := h.1 c
    refine g_lloadn (pc' := 26) d_216_25 rfl rfl ?_
    refine gz_l2i (pc' := 27) d_216_26 rfl ?_
    exact g_iret d_216_27 rt_216 h
  · replace h := h.2 c
    refine g_lloadn (pc' := 12) d_216_11 rfl rfl ?_
    refine g_iloadn (pc' := 13) d_216_12 rfl rfl ?_
    obtain ⟨hc3, h⟩ := h
    refine gz_i2l (pc' := 14) d_216_13 rfl hc3 ?_
    refine gz_lmul (pc' := 15) d_216_14 rfl ?_
    refine g_iloadn (pc' := 16) d_216_15 rfl rfl ?_
    obtain ⟨hc4, h⟩ := h
    refine gz_i2l (pc' := 17) d_216_16 rfl hc4 ?_
    obtain ⟨hc5, h⟩ := h
    obtain ⟨hc6, h⟩ := h
    obtain ⟨y7, hz8, h⟩ := h
    refine gz_lrem (pc' := 18) d_216_17 rfl hc5 (in3264 hc4) hc6 hz8 ?_
    refine g_lstoren (pc' := 19) (l' := [some (.int (jI z0)), some (.int (jI z1)), some (.int (jI z2)), some (.long (jL y7)), none, some (.int (jI z5))]) d_216_18 rfl ml_216 rfl rfl ?_
    refine gz_iinc (pc' := 22) (l' := [some (.int (jI z0)), some (.int (jI z1)), some (.int (jI z2)), some (.long (jL y7)), none, some (.int (jI (z5 + 1)))]) d_216_19 rfl rfl ml_216 rfl rfl ?_
    refine g_goto (pt := 5) d_216_22 (by decide) ?_
    exact h
theorem Z_217_0 {z1 : Int} {w : xW} {r : Option Value × xW} (hC : CS w) (h : in32 z1 ∧ (z1 < 2 → r = (some (.int (jI 0)), w)) ∧ (2 ≤ z1 → ∃ y2, Int.tmod z1 2 = y2 ∧ in32 y2 ∧ (y2 ≠ 1 → xGo 217 16 [some (.ref 39), some (.int (jI z1)), some (.int (jI 2))] [] w r) ∧ (y2 = 1 → r = (some (.int (jI 0)), w)))) : xGo 217 0 [some (.ref 39), some (.int (jI z1)), none] [] w r := by
  refine g_iloadn (pc' := 1) d_217_0 rfl rfl ?_
  refine g_iconst (pc' := 2) d_217_1 rfl rfl ?_
  obtain ⟨hc1, h⟩ := h
  refine gz_ic_lt (pc' := 5) (pt := 12) d_217_2 (by decide) rfl hc1 (s32 (z := 2)) (fun c => ?_) (fun c => ?_)
  · replace h := h.1 c
    refine g_iconst (pc' := 13) d_217_12 rfl rfl ?_
    exact g_zret d_217_13 rt_217 (Or.inl rfl) h
  · replace h := h.2 c
    refine g_iloadn (pc' := 6) d_217_5 rfl rfl ?_
    refine g_iconst (pc' := 7) d_217_6 rfl rfl ?_
    obtain ⟨y2, hz3, h⟩ := h
    refine gz_irem (pc' := 8) d_217_7 rfl hc1 (s32 (z := 2)) (by decide) hz3 ?_
    refine g_iconst (pc' := 9) d_217_8 rfl rfl ?_
    obtain ⟨hc4, h⟩ := h
    refine gz_ic_ne (pc' := 12) (pt := 14) d_217_9 (by decide) rfl hc4 (s32 (z := 1)) (fun c => ?_) (fun c => ?_)
    · replace h := h.1 c
      refine g_iconst (pc' := 15) d_217_14 rfl rfl ?_
      refine g_istoren (pc' := 16) (l' := [some (.ref 39), some (.int (jI z1)), some (.int (jI 2))]) d_217_15 rfl ml_217 rfl rfl ?_
      exact h
    · replace h := h.2 c
      refine g_iconst (pc' := 13) d_217_12 rfl rfl ?_
      exact g_zret d_217_13 rt_217 (Or.inl rfl) h
theorem Z_217 {z1 : Int} {w : xW} {r : Option Value × xW} (hC : CS w) (h : in32 z1 ∧ (z1 < 2 → r = (some (.int (jI 0)), w)) ∧ (2 ≤ z1 → ∃ y2, Int.tmod z1 2 = y2 ∧ in32 y2 ∧ (y2 ≠ 1 → xGo 217 16 [some (.ref 39), some (.int (jI z1)), some (.int (jI 2))] [] w r) ∧ (y2 = 1 → r = (some (.int (jI 0)), w)))) : xCall 217 [.ref 39, .int (jI z1)] w r := E_217 (Z_217_0 hC h)
theorem Z_217_16 {z1 : Int} {z2 : Int} {w : xW} {r : Option Value × xW} (hC : CS w) (h : 0 ≤ z2 ∧ ∃ x2, rI w 44 (z2).toNat x2 ∧ in32 x2 ∧ in32 z1 ∧ (z1 < x2 → r = (some (.int (jI 0)), w)) ∧ (x2 ≤ z1 → 0 ≤ z2 ∧ ∃ x7, rI w 44 (z2).toNat x7 ∧ in32 x7 ∧ x7 ≠ 0 ∧ ∃ y11, Int.tmod z1 x7 = y11 ∧ in32 y11 ∧ (y11 ≠ 0 → xGo 217 16 [some (.ref 39), some (.int (jI z1)), some (.int (jI (z2 + 1)))] [] w r) ∧ (y11 = 0 → 0 ≤ z2 ∧ ∃ x15, rI w 44 (z2).toNat x15 ∧ in32 (x15 - 1) ∧ x15 - 1 ≠ 0 ∧ ∃ y19, Int.tmod z1 (x15 - 1) = y19 ∧ in32 y19 ∧ (y19 = 0 → xGo 217 16 [some (.ref 39), some (.int (jI z1)), some (.int (jI (z2 + 1)))] [] w r) ∧ (y19 ≠ 0 → 0 ≤ z2 ∧ ∃ x23, rI w 44 (z2).toNat x23 ∧ ∃ r28 w25, xCall 214 [.ref 39, .ref 41, .int (jI z1), .int (jI x23)] w (some (.int (jI r28)), w25) ∧ CS w25 ∧ in32 r28 ∧ (r28 = 0 → xGo 217 16 [some (.ref 39), some (.int (jI z1)), some (.int (jI (z2 + 1)))] [] w25 r) ∧ (r28 ≠ 0 → r = (some (.int (jI 1)), w25)))))) : xGo 217 16 [some (.ref 39), some (.int (jI z1)), some (.int (jI z2))] [] w r := by
  refine g_aloadn (pc' := 17) d_217_16 rfl rfl ?_
  refine gz_getR (pc' := 20) d_217_17 rfl st_217_27 (kr_39_6 hC) ?_
  refine g_iloadn (pc' := 21) d_217_20 rfl rfl ?_
  obtain ⟨hc1, h⟩ := h
  obtain ⟨x2, hv3, h⟩ := h
  refine gz_iald (pc' := 22) d_217_21 rfl hc1 hv3 ?_
  refine g_iloadn (pc' := 23) d_217_22 rfl rfl ?_
  obtain ⟨hc4, h⟩ := h
  obtain ⟨hc5, h⟩ := h
  refine gz_ic_gt (pc' := 26) (pt := 76) d_217_23 (by decide) rfl hc4 hc5 (fun c => ?_) (fun c => ?_)
  · replace h := h.1 c
    refine g_iconst (pc' := 77) d_217_76 rfl rfl ?_
    exact g_zret d_217_77 rt_217 (Or.inl rfl) h
  · replace h := h.2 c
    refine g_iloadn (pc' := 27) d_217_26 rfl rfl ?_
    refine g_aloadn (pc' := 28) d_217_27 rfl rfl ?_
    refine gz_getR (pc' := 31) d_217_28 rfl st_217_27 (kr_39_6 hC) ?_
    refine g_iloadn (pc' := 32) d_217_31 rfl rfl ?_
    obtain ⟨hc6, h⟩ := h
    obtain ⟨x7, hv8, h⟩ := h
    refine gz_iald (pc' := 33) d_217_32 rfl hc6 hv8 ?_
    obtain ⟨hc9, h⟩ := h
    obtain ⟨hc10, h⟩ := h
    obtain ⟨y11, hz12, h⟩ := h
    refine gz_irem (pc' := 34) d_217_33 rfl hc5 hc9 hc10 hz12 ?_
    obtain ⟨hc13, h⟩ := h
    refine gz_if_ne (pc' := 37) (pt := 70) d_217_34 (by decide) rfl hc13 (fun c => ?_) (fun c => ?_)
    · replace h := h.1 c
      refine gz_iinc (pc' := 73) (l' := [some (.ref 39), some (.int (jI z1)), some (.int (jI (z2 + 1)))]) d_217_70 rfl rfl ml_217 rfl rfl ?_
      refine g_goto (pt := 16) d_217_73 (by decide) ?_
      exact h
    · replace h := h.2 c
      refine g_iloadn (pc' := 38) d_217_37 rfl rfl ?_
      refine g_aloadn (pc' := 39) d_217_38 rfl rfl ?_
      refine gz_getR (pc' := 42) d_217_39 rfl st_217_27 (kr_39_6 hC) ?_
      refine g_iloadn (pc' := 43) d_217_42 rfl rfl ?_
      obtain ⟨hc14, h⟩ := h
      obtain ⟨x15, hv16, h⟩ := h
      refine gz_iald (pc' := 44) d_217_43 rfl hc14 hv16 ?_
      refine g_iconst (pc' := 45) d_217_44 rfl rfl ?_
      refine gz_isub (pc' := 46) d_217_45 rfl ?_
      obtain ⟨hc17, h⟩ := h
      obtain ⟨hc18, h⟩ := h
      obtain ⟨y19, hz20, h⟩ := h
      refine gz_irem (pc' := 47) d_217_46 rfl hc5 hc17 hc18 hz20 ?_
      obtain ⟨hc21, h⟩ := h
      refine gz_if_eq (pc' := 50) (pt := 70) d_217_47 (by decide) rfl hc21 (fun c => ?_) (fun c => ?_)
      · replace h := h.1 c
        refine gz_iinc (pc' := 73) (l' := [some (.ref 39), some (.int (jI z1)), some (.int (jI (z2 + 1)))]) d_217_70 rfl rfl ml_217 rfl rfl ?_
        refine g_goto (pt := 16) d_217_73 (by decide) ?_
        exact h
      · replace h := h.2 c
        refine g_aloadn (pc' := 51) d_217_50 rfl rfl ?_
        refine g_aloadn (pc' := 52) d_217_51 rfl rfl ?_
        refine gz_getR (pc' := 55) d_217_52 rfl st_217_13 (kr_39_2 hC) ?_
        refine g_iloadn (pc' := 56) d_217_55 rfl rfl ?_
        refine g_aloadn (pc' := 57) d_217_56 rfl rfl ?_
        refine gz_getR (pc' := 60) d_217_57 rfl st_217_27 (kr_39_6 hC) ?_
        refine g_iloadn (pc' := 61) d_217_60 rfl rfl ?_
        obtain ⟨hc22, h⟩ := h
        obtain ⟨x23, hv24, h⟩ := h
        refine gz_iald (pc' := 62) d_217_61 rfl hc22 hv24 ?_
        obtain ⟨r28, w25, hk26, hC27, h⟩ := h
        refine gz_callV (pc' := 65) d_217_62 rfl st_217_188 na_214 ml_214 rfl rfl rfl rm_217_214 rfl rfl ow_214 (ko_39 hC) hk26 ?_
        obtain ⟨hc29, h⟩ := h
        refine gz_if_eq (pc' := 68) (pt := 70) d_217_65 (by decide) rfl hc29 (fun c => ?_) (fun c => ?_)
        · replace h := h.1 c
          refine gz_iinc (pc' := 73) (l' := [some (.ref 39), some (.int (jI z1)), some (.int (jI (z2 + 1)))]) d_217_70 rfl rfl ml_217 rfl rfl ?_
          refine g_goto (pt := 16) d_217_73 (by decide) ?_
          exact h
        · replace h := h.2 c
          refine g_iconst (pc' := 69) d_217_68 rfl rfl ?_
          exact g_zret d_217_69 rt_217 (Or.inr rfl) h
theorem Z_218_0 {z1 : Int} {z2 : Int} {w : xW} {r : Option Value × xW} (hC : CS w) (h : ∀ w2, w2 = pF w 39 0 (.int (jI 0)) → CS w2 → ∃ (P7 : Prop) (dP8 : Decidable P7) (w4 : xW), xCall 199 [.int (jI z2), .int (jI 0), .int (jI 2)] w2 (some (.int (bz P7)), w4) ∧ CS w4 ∧ (P7 → ∃ x9, fI w4 39 12 4 x9 ∧ ∃ (P14 : Prop) (dP15 : Decidable P14) (w11 : xW), xCall 199 [.int (jI z1), .int (jI 0), .int (jI x9)] w4 (some (.int (bz P14)), w11) ∧ CS w11 ∧ (¬ P14 → r = (some (.long (jL (-9223372036854775808))), w11)) ∧ (P14 → 0 ≤ (3 * z1) + z2 ∧ ∃ x17, rL w11 41 ((3 * z1) + z2).toNat x17 ∧ r = (some (.long (jL x17)), w11))) ∧ (¬ P7 → ∃ r22 w19, xCall 219 [.ref 39] w4 (some (.long (jL r22)), w19) ∧ CS w19 ∧ r = (some (.long (jL r22)), w19))) : xGo 218 0 [some (.ref 39), some (.int (jI z1)), some (.int (jI z2))] [] w r := by
  refine g_aloadn (pc' := 1) d_218_0 rfl rfl ?_
  refine g_iconst (pc' := 2) d_218_1 rfl rfl ?_
  have hpf1 := (kf_39_0 hC)
  have hC3 : CS (pF w 39 0 (.int (jI 0))) := ks_39_0 hC
  have h := h _ rfl hC3
  refine gz_putf (pc' := 5) d_218_2 rfl st_218_118 ft_12_0 ff_12_0 rfl (Or.inl rfl) hpf1 ?_
  refine g_iloadn (pc' := 6) d_218_5 rfl rfl ?_
  refine g_iconst (pc' := 7) d_218_6 rfl rfl ?_
  refine g_iconst (pc' := 8) d_218_7 rfl rfl ?_
  obtain ⟨P7, dP8, w4, hk5, hC6, h⟩ := h
  refine g_callS (pc' := 11) d_218_8 rfl st_218_137 (Or.inl rfl) na_199 ml_199 rfl rfl rfl rm_218_199 rfl rfl hk5 ?_
  refine gz_bt_ne (pc' := 14) (pt := 19) d_218_11 (by decide) rfl (fun c => ?_) (fun c => ?_)
  · replace h := h.1 c
    refine g_iloadn (pc' := 20) d_218_19 rfl rfl ?_
    refine g_iconst (pc' := 21) d_218_20 rfl rfl ?_
    refine g_aloadn (pc' := 22) d_218_21 rfl rfl ?_
    obtain ⟨x9, hv10, h⟩ := h
    refine gz_getI (pc' := 25) d_218_22 rfl st_218_20 hv10 ?_
    obtain ⟨P14, dP15, w11, hk12, hC13, h⟩ := h
    refine g_callS (pc' := 28) d_218_25 rfl st_218_137 (Or.inl rfl) na_199 ml_199 rfl rfl rfl rm_218_199 rfl rfl hk12 ?_
    refine gz_bt_eq (pc' := 31) (pt := 44) d_218_28 (by decide) rfl (fun c => ?_) (fun c => ?_)
    · replace h := h.1 c
      refine g_ldc2 (pc' := 47) d_218_44 rfl st_218_166 rfl ?_
      exact g_lret d_218_47 rt_218 h
    · replace h := h.2 c
      refine g_aloadn (pc' := 32) d_218_31 rfl rfl ?_
      refine gz_getR (pc' := 35) d_218_32 rfl st_218_13 (kr_39_2 hC13) ?_
      refine g_iconst (pc' := 36) d_218_35 rfl rfl ?_
      refine g_iloadn (pc' := 37) d_218_36 rfl rfl ?_
      refine gz_imul (pc' := 38) d_218_37 rfl ?_
      refine g_iloadn (pc' := 39) d_218_38 rfl rfl ?_
      refine gz_iadd (pc' := 40) d_218_39 rfl ?_
      obtain ⟨hc16, h⟩ := h
      obtain ⟨x17, hv18, h⟩ := h
      refine gz_lald (pc' := 41) d_218_40 rfl hc16 hv18 ?_
      refine g_goto (pt := 47) d_218_41 (by decide) ?_
      exact g_lret d_218_47 rt_218 h
  · replace h := h.2 c
    refine g_aloadn (pc' := 15) d_218_14 rfl rfl ?_
    obtain ⟨r22, w19, hk20, hC21, h⟩ := h
    refine gz_callV (pc' := 18) d_218_15 rfl st_218_162 na_219 ml_219 rfl rfl rfl rm_218_219 rfl rfl ow_219 (ko_39 hC6) hk20 ?_
    exact g_lret d_218_18 rt_218 h
theorem Z_218 {z1 : Int} {z2 : Int} {w : xW} {r : Option Value × xW} (hC : CS w) (h : ∀ w2, w2 = pF w 39 0 (.int (jI 0)) → CS w2 → ∃ (P7 : Prop) (dP8 : Decidable P7) (w4 : xW), xCall 199 [.int (jI z2), .int (jI 0), .int (jI 2)] w2 (some (.int (bz P7)), w4) ∧ CS w4 ∧ (P7 → ∃ x9, fI w4 39 12 4 x9 ∧ ∃ (P14 : Prop) (dP15 : Decidable P14) (w11 : xW), xCall 199 [.int (jI z1), .int (jI 0), .int (jI x9)] w4 (some (.int (bz P14)), w11) ∧ CS w11 ∧ (¬ P14 → r = (some (.long (jL (-9223372036854775808))), w11)) ∧ (P14 → 0 ≤ (3 * z1) + z2 ∧ ∃ x17, rL w11 41 ((3 * z1) + z2).toNat x17 ∧ r = (some (.long (jL x17)), w11))) ∧ (¬ P7 → ∃ r22 w19, xCall 219 [.ref 39] w4 (some (.long (jL r22)), w19) ∧ CS w19 ∧ r = (some (.long (jL r22)), w19))) : xCall 218 [.ref 39, .int (jI z1), .int (jI z2)] w r := E_218 (Z_218_0 hC h)
theorem Z_219_0  {w : xW} {r : Option Value × xW} (hC : CS w) (h : ∀ w2, w2 = pF w 39 0 (.int (jI 1)) → CS w2 → r = (some (.long (jL 0)), w2)) : xGo 219 0 [some (.ref 39)] [] w r := by
  refine g_aloadn (pc' := 1) d_219_0 rfl rfl ?_
  refine g_iconst (pc' := 2) d_219_1 rfl rfl ?_
  have hpf1 := (kf_39_0 hC)
  have hC3 : CS (pF w 39 0 (.int (jI 1))) := ks_39_0 hC
  have h := h _ rfl hC3
  refine gz_putf (pc' := 5) d_219_2 rfl st_219_118 ft_12_0 ff_12_0 rfl (Or.inl rfl) hpf1 ?_
  refine g_lconst (pc' := 6) (v := jL 0) d_219_5 rfl cl_0 ?_
  exact g_lret d_219_6 rt_219 h
theorem Z_219  {w : xW} {r : Option Value × xW} (hC : CS w) (h : ∀ w2, w2 = pF w 39 0 (.int (jI 1)) → CS w2 → r = (some (.long (jL 0)), w2)) : xCall 219 [.ref 39] w r := E_219 (Z_219_0 hC h)
theorem Z_220_0 {z1 : Int} {w : xW} {r : Option Value × xW} (hC : CS w) (h : ∀ w2, w2 = pF w 39 0 (.int (jI 0)) → CS w2 → ∃ (P7 : Prop) (dP8 : Decidable P7) (w4 : xW), xCall 198 [.ref 39, .int (jI z1)] w2 (some (.int (bz P7)), w4) ∧ CS w4 ∧ (P7 → ∃ x9, fI w4 39 12 4 x9 ∧ in32 z1 ∧ in32 x9 ∧ (z1 ≤ x9 → 0 ≤ z1 ∧ ∃ x14, rI w4 42 (z1).toNat x14 ∧ r = (some (.int (jI x14)), w4)) ∧ (x9 < z1 → r = (some (.int (jI (-2))), w4))) ∧ (¬ P7 → r = (some (.int (jI (-1))), w4))) : xGo 220 0 [some (.ref 39), some (.int (jI z1))] [] w r := by
  refine g_aloadn (pc' := 1) d_220_0 rfl rfl ?_
  refine g_iconst (pc' := 2) d_220_1 rfl rfl ?_
  have hpf1 := (kf_39_0 hC)
  have hC3 : CS (pF w 39 0 (.int (jI 0))) := ks_39_0 hC
  have h := h _ rfl hC3
  refine gz_putf (pc' := 5) d_220_2 rfl st_220_118 ft_12_0 ff_12_0 rfl (Or.inl rfl) hpf1 ?_
  refine g_aloadn (pc' := 6) d_220_5 rfl rfl ?_
  refine g_iloadn (pc' := 7) d_220_6 rfl rfl ?_
  obtain ⟨P7, dP8, w4, hk5, hC6, h⟩ := h
  refine gz_callV (pc' := 10) d_220_7 rfl st_220_145 na_198 ml_198 rfl rfl rfl rm_220_198 rfl rfl ow_198 (ko_39 hC3) hk5 ?_
  refine gz_bt_ne (pc' := 13) (pt := 17) d_220_10 (by decide) rfl (fun c => ?_) (fun c => ?_)
  · replace h := h.1 c
    refine g_iloadn (pc' := 18) d_220_17 rfl rfl ?_
    refine g_aloadn (pc' := 19) d_220_18 rfl rfl ?_
    obtain ⟨x9, hv10, h⟩ := h
    refine gz_getI (pc' := 22) d_220_19 rfl st_220_20 hv10 ?_
    obtain ⟨hc11, h⟩ := h
    obtain ⟨hc12, h⟩ := h
    refine gz_ic_le (pc' := 25) (pt := 30) d_220_22 (by decide) rfl hc11 hc12 (fun c => ?_) (fun c => ?_)
    · replace h := h.1 c
      refine g_aloadn (pc' := 31) d_220_30 rfl rfl ?_
      refine gz_getR (pc' := 34) d_220_31 rfl st_220_16 (kr_39_3 hC6) ?_
      refine g_iloadn (pc' := 35) d_220_34 rfl rfl ?_
      obtain ⟨hc13, h⟩ := h
      obtain ⟨x14, hv15, h⟩ := h
      refine gz_iald (pc' := 36) d_220_35 rfl hc13 hv15 ?_
      exact g_iret d_220_36 rt_220 h
    · replace h := h.2 c
      refine g_bipush (pc' := 27) (v := jI (-2)) d_220_25 rfl (by decide) ?_
      refine g_goto (pt := 36) d_220_27 (by decide) ?_
      exact g_iret d_220_36 rt_220 h
  · replace h := h.2 c
    refine g_iconst (pc' := 14) d_220_13 rfl rfl ?_
    refine g_goto (pt := 36) d_220_14 (by decide) ?_
    exact g_iret d_220_36 rt_220 h
theorem Z_220 {z1 : Int} {w : xW} {r : Option Value × xW} (hC : CS w) (h : ∀ w2, w2 = pF w 39 0 (.int (jI 0)) → CS w2 → ∃ (P7 : Prop) (dP8 : Decidable P7) (w4 : xW), xCall 198 [.ref 39, .int (jI z1)] w2 (some (.int (bz P7)), w4) ∧ CS w4 ∧ (P7 → ∃ x9, fI w4 39 12 4 x9 ∧ in32 z1 ∧ in32 x9 ∧ (z1 ≤ x9 → 0 ≤ z1 ∧ ∃ x14, rI w4 42 (z1).toNat x14 ∧ r = (some (.int (jI x14)), w4)) ∧ (x9 < z1 → r = (some (.int (jI (-2))), w4))) ∧ (¬ P7 → r = (some (.int (jI (-1))), w4))) : xCall 220 [.ref 39, .int (jI z1)] w r := E_220 (Z_220_0 hC h)
theorem Z_221_0 {z1 : Int} {w : xW} {r : Option Value × xW} (hC : CS w) (h : ∀ w2, w2 = pF w 39 0 (.int (jI 0)) → CS w2 → ∃ (P7 : Prop) (dP8 : Decidable P7) (w4 : xW), xCall 198 [.ref 39, .int (jI z1)] w2 (some (.int (bz P7)), w4) ∧ CS w4 ∧ (P7 → ∃ x9, fI w4 39 12 4 x9 ∧ in32 z1 ∧ in32 x9 ∧ (z1 ≤ x9 → ∃ (P16 : Prop) (dP17 : Decidable P16) (w13 : xW), xCall 201 [.ref 39, .int (jI z1)] w4 (some (.int (bz P16)), w13) ∧ CS w13 ∧ (¬ P16 → r = (some (.int (jI 0)), w13)) ∧ (P16 → r = (some (.int (jI 1)), w13))) ∧ (x9 < z1 → r = (some (.int (jI (-2))), w4))) ∧ (¬ P7 → r = (some (.int (jI (-1))), w4))) : xGo 221 0 [some (.ref 39), some (.int (jI z1))] [] w r := by
  refine g_aloadn (pc' := 1) d_221_0 rfl rfl ?_
  refine g_iconst (pc' := 2) d_221_1 rfl rfl ?_
  have hpf1 := (kf_39_0 hC)
  have hC3 : CS (pF w 39 0 (.int (jI 0))) := ks_39_0 hC
  have h := h _ rfl hC3
  refine gz_putf (pc' := 5) d_221_2 rfl st_221_118 ft_12_0 ff_12_0 rfl (Or.inl rfl) hpf1 ?_
  refine g_aloadn (pc' := 6) d_221_5 rfl rfl ?_
  refine g_iloadn (pc' := 7) d_221_6 rfl rfl ?_
  obtain ⟨P7, dP8, w4, hk5, hC6, h⟩ := h
  refine gz_callV (pc' := 10) d_221_7 rfl st_221_145 na_198 ml_198 rfl rfl rfl rm_221_198 rfl rfl ow_198 (ko_39 hC3) hk5 ?_
  refine gz_bt_ne (pc' := 13) (pt := 17) d_221_10 (by decide) rfl (fun c => ?_) (fun c => ?_)
  · replace h := h.1 c
    refine g_iloadn (pc' := 18) d_221_17 rfl rfl ?_
    refine g_aloadn (pc' := 19) d_221_18 rfl rfl ?_
    obtain ⟨x9, hv10, h⟩ := h
    refine gz_getI (pc' := 22) d_221_19 rfl st_221_20 hv10 ?_
    obtain ⟨hc11, h⟩ := h
    obtain ⟨hc12, h⟩ := h
    refine gz_ic_le (pc' := 25) (pt := 30) d_221_22 (by decide) rfl hc11 hc12 (fun c => ?_) (fun c => ?_)
    · replace h := h.1 c
      refine g_aloadn (pc' := 31) d_221_30 rfl rfl ?_
      refine g_iloadn (pc' := 32) d_221_31 rfl rfl ?_
      obtain ⟨P16, dP17, w13, hk14, hC15, h⟩ := h
      refine gz_callV (pc' := 35) d_221_32 rfl st_221_141 na_201 ml_201 rfl rfl rfl rm_221_201 rfl rfl ow_201 (ko_39 hC6) hk14 ?_
      refine gz_bt_eq (pc' := 38) (pt := 42) d_221_35 (by decide) rfl (fun c => ?_) (fun c => ?_)
      · replace h := h.1 c
        refine g_iconst (pc' := 43) d_221_42 rfl rfl ?_
        exact g_iret d_221_43 rt_221 h
      · replace h := h.2 c
        refine g_iconst (pc' := 39) d_221_38 rfl rfl ?_
        refine g_goto (pt := 43) d_221_39 (by decide) ?_
        exact g_iret d_221_43 rt_221 h
    · replace h := h.2 c
      refine g_bipush (pc' := 27) (v := jI (-2)) d_221_25 rfl (by decide) ?_
      refine g_goto (pt := 43) d_221_27 (by decide) ?_
      exact g_iret d_221_43 rt_221 h
  · replace h := h.2 c
    refine g_iconst (pc' := 14) d_221_13 rfl rfl ?_
    refine g_goto (pt := 43) d_221_14 (by decide) ?_
    exact g_iret d_221_43 rt_221 h
theorem Z_221 {z1 : Int} {w : xW} {r : Option Value × xW} (hC : CS w) (h : ∀ w2, w2 = pF w 39 0 (.int (jI 0)) → CS w2 → ∃ (P7 : Prop) (dP8 : Decidable P7) (w4 : xW), xCall 198 [.ref 39, .int (jI z1)] w2 (some (.int (bz P7)), w4) ∧ CS w4 ∧ (P7 → ∃ x9, fI w4 39 12 4 x9 ∧ in32 z1 ∧ in32 x9 ∧ (z1 ≤ x9 → ∃ (P16 : Prop) (dP17 : Decidable P16) (w13 : xW), xCall 201 [.ref 39, .int (jI z1)] w4 (some (.int (bz P16)), w13) ∧ CS w13 ∧ (¬ P16 → r = (some (.int (jI 0)), w13)) ∧ (P16 → r = (some (.int (jI 1)), w13))) ∧ (x9 < z1 → r = (some (.int (jI (-2))), w4))) ∧ (¬ P7 → r = (some (.int (jI (-1))), w4))) : xCall 221 [.ref 39, .int (jI z1)] w r := E_221 (Z_221_0 hC h)
theorem Z_222_0 {z1 : Int} {w : xW} {r : Option Value × xW} (hC : CS w) (h : ∀ w2, w2 = pF w 39 0 (.int (jI 0)) → CS w2 → ∃ (P7 : Prop) (dP8 : Decidable P7) (w4 : xW), xCall 198 [.ref 39, .int (jI z1)] w2 (some (.int (bz P7)), w4) ∧ CS w4 ∧ (P7 → ∃ x9, fI w4 39 12 4 x9 ∧ in32 z1 ∧ in32 x9 ∧ (z1 ≤ x9 → ∃ (P16 : Prop) (dP17 : Decidable P16) (w13 : xW), xCall 201 [.ref 39, .int (jI z1)] w4 (some (.int (bz P16)), w13) ∧ CS w13 ∧ (P16 → ∃ (P21 : Prop) (dP22 : Decidable P21) (w18 : xW), xCall 200 [.ref 39, .int (jI (z1 - 1))] w13 (some (.int (bz P21)), w18) ∧ CS w18 ∧ (¬ P21 → r = (some (.int (jI 2)), w18)) ∧ (P21 → r = (some (.int (jI 3)), w18))) ∧ (¬ P16 → r = (some (.int (jI 0)), w13))) ∧ (x9 < z1 → r = (some (.int (jI (-2))), w4))) ∧ (¬ P7 → r = (some (.int (jI (-1))), w4))) : xGo 222 0 [some (.ref 39), some (.int (jI z1))] [] w r := by
  refine g_aloadn (pc' := 1) d_222_0 rfl rfl ?_
  refine g_iconst (pc' := 2) d_222_1 rfl rfl ?_
  have hpf1 := (kf_39_0 hC)
  have hC3 : CS (pF w 39 0 (.int (jI 0))) := ks_39_0 hC
  have h := h _ rfl hC3
  refine gz_putf (pc' := 5) d_222_2 rfl st_222_118 ft_12_0 ff_12_0 rfl (Or.inl rfl) hpf1 ?_
  refine g_aloadn (pc' := 6) d_222_5 rfl rfl ?_
  refine g_iloadn (pc' := 7) d_222_6 rfl rfl ?_
  obtain ⟨P7, dP8, w4, hk5, hC6, h⟩ := h
  refine gz_callV (pc' := 10) d_222_7 rfl st_222_145 na_198 ml_198 rfl rfl rfl rm_222_198 rfl rfl ow_198 (ko_39 hC3) hk5 ?_
  refine gz_bt_ne (pc' := 13) (pt := 15) d_222_10 (by decide) rfl (fun c => ?_) (fun c => ?_)
  · replace h := h.1 c
    refine g_iloadn (pc' := 16) d_222_15 rfl rfl ?_
    refine g_aloadn (pc' := 17) d_222_16 rfl rfl ?_
    obtain ⟨x9, hv10, h⟩ := h
    refine gz_getI (pc' := 20) d_222_17 rfl st_222_20 hv10 ?_
    obtain ⟨hc11, h⟩ := h
    obtain ⟨hc12, h⟩ := h
    refine gz_ic_le (pc' := 23) (pt := 26) d_222_20 (by decide) rfl hc11 hc12 (fun c => ?_) (fun c => ?_)
    · replace h := h.1 c
      refine g_aloadn (pc' := 27) d_222_26 rfl rfl ?_
      refine g_iloadn (pc' := 28) d_222_27 rfl rfl ?_
      obtain ⟨P16, dP17, w13, hk14, hC15, h⟩ := h
      refine gz_callV (pc' := 31) d_222_28 rfl st_222_141 na_201 ml_201 rfl rfl rfl rm_222_201 rfl rfl ow_201 (ko_39 hC6) hk14 ?_
      refine gz_bt_ne (pc' := 34) (pt := 38) d_222_31 (by decide) rfl (fun c => ?_) (fun c => ?_)
      · replace h := h.1 c
        refine g_aloadn (pc' := 39) d_222_38 rfl rfl ?_
        refine g_iloadn (pc' := 40) d_222_39 rfl rfl ?_
        refine g_iconst (pc' := 41) d_222_40 rfl rfl ?_
        refine gz_isub (pc' := 42) d_222_41 rfl ?_
        obtain ⟨P21, dP22, w18, hk19, hC20, h⟩ := h
        refine gz_callV (pc' := 45) d_222_42 rfl st_222_148 na_200 ml_200 rfl rfl rfl rm_222_200 rfl rfl ow_200 (ko_39 hC15) hk19 ?_
        refine gz_bt_eq (pc' := 48) (pt := 52) d_222_45 (by decide) rfl (fun c => ?_) (fun c => ?_)
        · replace h := h.1 c
          refine g_iconst (pc' := 53) d_222_52 rfl rfl ?_
          exact g_iret d_222_53 rt_222 h
        · replace h := h.2 c
          refine g_iconst (pc' := 49) d_222_48 rfl rfl ?_
          refine g_goto (pt := 53) d_222_49 (by decide) ?_
          exact g_iret d_222_53 rt_222 h
      · replace h := h.2 c
        refine g_iconst (pc' := 35) d_222_34 rfl rfl ?_
        refine g_goto (pt := 53) d_222_35 (by decide) ?_
        exact g_iret d_222_53 rt_222 h
    · replace h := h.2 c
      refine g_bipush (pc' := 25) (v := jI (-2)) d_222_23 rfl (by decide) ?_
      exact g_iret d_222_25 rt_222 h
  · replace h := h.2 c
    refine g_iconst (pc' := 14) d_222_13 rfl rfl ?_
    exact g_iret d_222_14 rt_222 h
theorem Z_222 {z1 : Int} {w : xW} {r : Option Value × xW} (hC : CS w) (h : ∀ w2, w2 = pF w 39 0 (.int (jI 0)) → CS w2 → ∃ (P7 : Prop) (dP8 : Decidable P7) (w4 : xW), xCall 198 [.ref 39, .int (jI z1)] w2 (some (.int (bz P7)), w4) ∧ CS w4 ∧ (P7 → ∃ x9, fI w4 39 12 4 x9 ∧ in32 z1 ∧ in32 x9 ∧ (z1 ≤ x9 → ∃ (P16 : Prop) (dP17 : Decidable P16) (w13 : xW), xCall 201 [.ref 39, .int (jI z1)] w4 (some (.int (bz P16)), w13) ∧ CS w13 ∧ (P16 → ∃ (P21 : Prop) (dP22 : Decidable P21) (w18 : xW), xCall 200 [.ref 39, .int (jI (z1 - 1))] w13 (some (.int (bz P21)), w18) ∧ CS w18 ∧ (¬ P21 → r = (some (.int (jI 2)), w18)) ∧ (P21 → r = (some (.int (jI 3)), w18))) ∧ (¬ P16 → r = (some (.int (jI 0)), w13))) ∧ (x9 < z1 → r = (some (.int (jI (-2))), w4))) ∧ (¬ P7 → r = (some (.int (jI (-1))), w4))) : xCall 222 [.ref 39, .int (jI z1)] w r := E_222 (Z_222_0 hC h)
theorem Z_223_0 {z1 : Int} {z2 : Int} {w : xW} {r : Option Value × xW} (hC : CS w) (h : ∀ w2, w2 = pF w 39 0 (.int (jI 0)) → CS w2 → ∃ (P7 : Prop) (dP8 : Decidable P7) (w4 : xW), xCall 198 [.ref 39, .int (jI z1)] w2 (some (.int (bz P7)), w4) ∧ CS w4 ∧ (¬ P7 → r = (some (.int (jI (-1))), w4)) ∧ (P7 → in32 z2 ∧ (0 ≤ z2 → xGo 223 24 [some (.ref 39), some (.int (jI z1)), some (.int (jI z2)), some (.int (jI z2)), some (.int (jI 0))] [] w4 r) ∧ (z2 < 0 → r = (some (.int (jI (-1))), w4)))) : xGo 223 0 [some (.ref 39), some (.int (jI z1)), some (.int (jI z2)), none, none] [] w r := by
  refine g_aloadn (pc' := 1) d_223_0 rfl rfl ?_
  refine g_iconst (pc' := 2) d_223_1 rfl rfl ?_
  have hpf1 := (kf_39_0 hC)
  have hC3 : CS (pF w 39 0 (.int (jI 0))) := ks_39_0 hC
  have h := h _ rfl hC3
  refine gz_putf (pc' := 5) d_223_2 rfl st_223_118 ft_12_0 ff_12_0 rfl (Or.inl rfl) hpf1 ?_
  refine g_aloadn (pc' := 6) d_223_5 rfl rfl ?_
  refine g_iloadn (pc' := 7) d_223_6 rfl rfl ?_
  obtain ⟨P7, dP8, w4, hk5, hC6, h⟩ := h
  refine gz_callV (pc' := 10) d_223_7 rfl st_223_145 na_198 ml_198 rfl rfl rfl rm_223_198 rfl rfl ow_198 (ko_39 hC3) hk5 ?_
  refine gz_bt_eq (pc' := 13) (pt := 17) d_223_10 (by decide) rfl (fun c => ?_) (fun c => ?_)
  · replace h := h.1 c
    refine g_iconst (pc' := 18) d_223_17 rfl rfl ?_
    exact g_iret d_223_18 rt_223 h
  · replace h := h.2 c
    refine g_iloadn (pc' := 14) d_223_13 rfl rfl ?_
    obtain ⟨hc9, h⟩ := h
    refine gz_if_ge (pc' := 17) (pt := 19) d_223_14 (by decide) rfl hc9 (fun c => ?_) (fun c => ?_)
    · replace h := h.1 c
      refine g_iloadn (pc' := 20) d_223_19 rfl rfl ?_
      refine g_istoren (pc' := 21) (l' := [some (.ref 39), some (.int (jI z1)), some (.int (jI z2)), some (.int (jI z2)), none]) d_223_20 rfl ml_223 rfl rfl ?_
      refine g_iconst (pc' := 22) d_223_21 rfl rfl ?_
      refine g_istore (pc' := 24) (l' := [some (.ref 39), some (.int (jI z1)), some (.int (jI z2)), some (.int (jI z2)), some (.int (jI 0))]) d_223_22 rfl ml_223 rfl rfl ?_
      exact h
    · replace h := h.2 c
      refine g_iconst (pc' := 18) d_223_17 rfl rfl ?_
      exact g_iret d_223_18 rt_223 h
theorem Z_223 {z1 : Int} {z2 : Int} {w : xW} {r : Option Value × xW} (hC : CS w) (h : ∀ w2, w2 = pF w 39 0 (.int (jI 0)) → CS w2 → ∃ (P7 : Prop) (dP8 : Decidable P7) (w4 : xW), xCall 198 [.ref 39, .int (jI z1)] w2 (some (.int (bz P7)), w4) ∧ CS w4 ∧ (¬ P7 → r = (some (.int (jI (-1))), w4)) ∧ (P7 → in32 z2 ∧ (0 ≤ z2 → xGo 223 24 [some (.ref 39), some (.int (jI z1)), some (.int (jI z2)), some (.int (jI z2)), some (.int (jI 0))] [] w4 r) ∧ (z2 < 0 → r = (some (.int (jI (-1))), w4)))) : xCall 223 [.ref 39, .int (jI z1), .int (jI z2)] w r := E_223 (Z_223_0 hC h)
theorem Z_223_24 {z1 : Int} {z2 : Int} {z3 : Int} {z4 : Int} {w : xW} {r : Option Value × xW} (hC : CS w) (h : ∃ x1, fI w 39 12 7 x1 ∧ in32 z4 ∧ in32 x1 ∧ (x1 ≤ z4 → r = (some (.int (jI (-2))), w)) ∧ (z4 < x1 → 0 ≤ (3 * z1) + 2 ∧ ∃ x6, rL w 40 ((3 * z1) + 2).toNat x6 ∧ 0 ≤ z4 ∧ ∃ x9, rI w 44 (z4).toNat x9 ∧ in32 x9 ∧ in64 x6 ∧ x9 ≠ 0 ∧ ∃ y14, Int.tmod x6 x9 = y14 ∧ in64 y14 ∧ (y14 = 0 → in32 z3 ∧ (z3 ≠ 0 → xGo 223 24 [some (.ref 39), some (.int (jI z1)), some (.int (jI z2)), some (.int (jI (z3 - 1))), some (.int (jI (z4 + 1)))] [] w r) ∧ (z3 = 0 → 0 ≤ z4 ∧ ∃ x19, rI w 44 (z4).toNat x19 ∧ r = (some (.int (jI x19)), w))) ∧ (y14 ≠ 0 → xGo 223 24 [some (.ref 39), some (.int (jI z1)), some (.int (jI z2)), some (.int (jI z3)), some (.int (jI (z4 + 1)))] [] w r))) : xGo 223 24 [some (.ref 39), some (.int (jI z1)), some (.int (jI z2)), some (.int (jI z3)), some (.int (jI z4))] [] w r := by
  refine g_iload (pc' := 26) d_223_24 rfl rfl ?_
  refine g_aloadn (pc' := 27) d_223_26 rfl rfl ?_
  obtain ⟨x1, hv2, h⟩ := h
  refine gz_getI (pc' := 30) d_223_27 rfl st_223_96 hv2 ?_
  obtain ⟨hc3, h⟩ := h
  obtain ⟨hc4, h⟩ := h
  refine gz_ic_ge (pc' := 33) (pt := 81) d_223_30 (by decide) rfl hc3 hc4 (fun c => ?_) (fun c => ?_)
  · replace h := h.1 c
    refine g_bipush (pc' := 83) (v := jI (-2)) d_223_81 rfl (by decide) ?_
    exact g_iret d_223_83 rt_223 h
  · replace h := h.2 c
    refine g_aloadn (pc' := 34) d_223_33 rfl rfl ?_
    refine gz_getR (pc' := 37) d_223_34 rfl st_223_7 (kr_39_1 hC) ?_
    refine g_iconst (pc' := 38) d_223_37 rfl rfl ?_
    refine g_iloadn (pc' := 39) d_223_38 rfl rfl ?_
    refine gz_imul (pc' := 40) d_223_39 rfl ?_
    refine g_iconst (pc' := 41) d_223_40 rfl rfl ?_
    refine gz_iadd (pc' := 42) d_223_41 rfl ?_
    obtain ⟨hc5, h⟩ := h
    obtain ⟨x6, hv7, h⟩ := h
    refine gz_lald (pc' := 43) d_223_42 rfl hc5 hv7 ?_
    refine g_aloadn (pc' := 44) d_223_43 rfl rfl ?_
    refine gz_getR (pc' := 47) d_223_44 rfl st_223_27 (kr_39_6 hC) ?_
    refine g_iload (pc' := 49) d_223_47 rfl rfl ?_
    obtain ⟨hc8, h⟩ := h
    obtain ⟨x9, hv10, h⟩ := h
    refine gz_iald (pc' := 50) d_223_49 rfl hc8 hv10 ?_
    obtain ⟨hc11, h⟩ := h
    refine gz_i2l (pc' := 51) d_223_50 rfl hc11 ?_
    obtain ⟨hc12, h⟩ := h
    obtain ⟨hc13, h⟩ := h
    obtain ⟨y14, hz15, h⟩ := h
    refine gz_lrem (pc' := 52) d_223_51 rfl hc12 (in3264 hc11) hc13 hz15 ?_
    refine g_lconst (pc' := 53) (v := jL 0) d_223_52 rfl cl_0 ?_
    obtain ⟨hc16, h⟩ := h
    refine gz_lc_eq (pc' := 57) (pm := 54) (pt := 60) d_223_53 rfl d_223_54 (by decide) rfl hc16 (s64 (z := 0)) (fun c => ?_) (fun c => ?_)
    · replace h := h.1 c
      refine g_iloadn (pc' := 61) d_223_60 rfl rfl ?_
      obtain ⟨hc17, h⟩ := h
      refine gz_if_ne (pc' := 64) (pt := 72) d_223_61 (by decide) rfl hc17 (fun c => ?_) (fun c => ?_)
      · replace h := h.1 c
        refine gz_idec (pc' := 75) (c := 1) (l' := [some (.ref 39), some (.int (jI z1)), some (.int (jI z2)), some (.int (jI (z3 - 1))), some (.int (jI z4))]) d_223_72 rfl rfl ml_223 rfl rfl ?_
        refine gz_iinc (pc' := 78) (l' := [some (.ref 39), some (.int (jI z1)), some (.int (jI z2)), some (.int (jI (z3 - 1))), some (.int (jI (z4 + 1)))]) d_223_75 rfl rfl ml_223 rfl rfl ?_
        refine g_goto (pt := 24) d_223_78 (by decide) ?_
        exact h
      · replace h := h.2 c
        refine g_aloadn (pc' := 65) d_223_64 rfl rfl ?_
        refine gz_getR (pc' := 68) d_223_65 rfl st_223_27 (kr_39_6 hC) ?_
        refine g_iload (pc' := 70) d_223_68 rfl rfl ?_
        obtain ⟨hc18, h⟩ := h
        obtain ⟨x19, hv20, h⟩ := h
        refine gz_iald (pc' := 71) d_223_70 rfl hc18 hv20 ?_
        exact g_iret d_223_71 rt_223 h
    · replace h := h.2 c
      refine g_goto (pt := 75) d_223_57 (by decide) ?_
      refine gz_iinc (pc' := 78) (l' := [some (.ref 39), some (.int (jI z1)), some (.int (jI z2)), some (.int (jI z3)), some (.int (jI (z4 + 1)))]) d_223_75 rfl rfl ml_223 rfl rfl ?_
      refine g_goto (pt := 24) d_223_78 (by decide) ?_
      exact h
theorem Z_224_0 {z1 : Int} {w : xW} {r : Option Value × xW} (hC : CS w) (h : ∀ w2, w2 = pF w 39 0 (.int (jI 0)) → CS w2 → ∃ (P7 : Prop) (dP8 : Decidable P7) (w4 : xW), xCall 199 [.int (jI z1), .int (jI 2), .int (jI 38)] w2 (some (.int (bz P7)), w4) ∧ CS w4 ∧ (¬ P7 → r = (some (.long (jL (-9223372036854775808))), w4)) ∧ (P7 → in32 z1 ∧ ∃ y10, Int.tmod z1 2 = y10 ∧ in32 y10 ∧ (y10 ≠ 1 → 0 ≤ (3 * z1) + 1 ∧ ∃ x14, rL w4 40 ((3 * z1) + 1).toNat x14 ∧ 0 ≤ (3 * z1) + 2 ∧ ∃ x17, rL w4 40 ((3 * z1) + 2).toNat x17 ∧ xGo 224 52 [some (.ref 39), some (.int (jI z1)), some (.long (jL x14)), none, some (.long (jL x17)), none, some (.int (jI 0))] [] w4 r) ∧ (y10 = 1 → r = (some (.long (jL (-9223372036854775808))), w4)))) : xGo 224 0 [some (.ref 39), some (.int (jI z1)), none, none, none, none, none] [] w r := by
  refine g_aloadn (pc' := 1) d_224_0 rfl rfl ?_
  refine g_iconst (pc' := 2) d_224_1 rfl rfl ?_
  have hpf1 := (kf_39_0 hC)
  have hC3 : CS (pF w 39 0 (.int (jI 0))) := ks_39_0 hC
  have h := h _ rfl hC3
  refine gz_putf (pc' := 5) d_224_2 rfl st_224_118 ft_12_0 ff_12_0 rfl (Or.inl rfl) hpf1 ?_
  refine g_iloadn (pc' := 6) d_224_5 rfl rfl ?_
  refine g_iconst (pc' := 7) d_224_6 rfl rfl ?_
  refine g_bipush (pc' := 9) (v := jI 38) d_224_7 rfl (by decide) ?_
  obtain ⟨P7, dP8, w4, hk5, hC6, h⟩ := h
  refine g_callS (pc' := 12) d_224_9 rfl st_224_137 (Or.inl rfl) na_199 ml_199 rfl rfl rfl rm_224_199 rfl rfl hk5 ?_
  refine gz_bt_eq (pc' := 15) (pt := 22) d_224_12 (by decide) rfl (fun c => ?_) (fun c => ?_)
  · replace h := h.1 c
    refine g_ldc2 (pc' := 25) d_224_22 rfl st_224_166 rfl ?_
    exact g_lret d_224_25 rt_224 h
  · replace h := h.2 c
    refine g_iloadn (pc' := 16) d_224_15 rfl rfl ?_
    refine g_iconst (pc' := 17) d_224_16 rfl rfl ?_
    obtain ⟨hc9, h⟩ := h
    obtain ⟨y10, hz11, h⟩ := h
    refine gz_irem (pc' := 18) d_224_17 rfl hc9 (s32 (z := 2)) (by decide) hz11 ?_
    refine g_iconst (pc' := 19) d_224_18 rfl rfl ?_
    obtain ⟨hc12, h⟩ := h
    refine gz_ic_ne (pc' := 22) (pt := 26) d_224_19 (by decide) rfl hc12 (s32 (z := 1)) (fun c => ?_) (fun c => ?_)
    · replace h := h.1 c
      refine g_aloadn (pc' := 27) d_224_26 rfl rfl ?_
      refine gz_getR (pc' := 30) d_224_27 rfl st_224_7 (kr_39_1 hC6) ?_
      refine g_iconst (pc' := 31) d_224_30 rfl rfl ?_
      refine g_iloadn (pc' := 32) d_224_31 rfl rfl ?_
      refine gz_imul (pc' := 33) d_224_32 rfl ?_
      refine g_iconst (pc' := 34) d_224_33 rfl rfl ?_
      refine gz_iadd (pc' := 35) d_224_34 rfl ?_
      obtain ⟨hc13, h⟩ := h
      obtain ⟨x14, hv15, h⟩ := h
      refine gz_lald (pc' := 36) d_224_35 rfl hc13 hv15 ?_
      refine g_lstoren (pc' := 37) (l' := [some (.ref 39), some (.int (jI z1)), some (.long (jL x14)), none, none, none, none]) d_224_36 rfl ml_224 rfl rfl ?_
      refine g_aloadn (pc' := 38) d_224_37 rfl rfl ?_
      refine gz_getR (pc' := 41) d_224_38 rfl st_224_7 (kr_39_1 hC6) ?_
      refine g_iconst (pc' := 42) d_224_41 rfl rfl ?_
      refine g_iloadn (pc' := 43) d_224_42 rfl rfl ?_
      refine gz_imul (pc' := 44) d_224_43 rfl ?_
      refine g_iconst (pc' := 45) d_224_44 rfl rfl ?_
      refine gz_iadd (pc' := 46) d_224_45 rfl ?_
      obtain ⟨hc16, h⟩ := h
      obtain ⟨x17, hv18, h⟩ := h
      refine gz_lald (pc' := 47) d_224_46 rfl hc16 hv18 ?_
      refine g_lstore (pc' := 49) (l' := [some (.ref 39), some (.int (jI z1)), some (.long (jL x14)), none, some (.long (jL x17)), none, none]) d_224_47 rfl ml_224 rfl rfl ?_
      refine g_iconst (pc' := 50) d_224_49 rfl rfl ?_
      refine g_istore (pc' := 52) (l' := [some (.ref 39), some (.int (jI z1)), some (.long (jL x14)), none, some (.long (jL x17)), none, some (.int (jI 0))]) d_224_50 rfl ml_224 rfl rfl ?_
      exact h
    · replace h := h.2 c
      refine g_ldc2 (pc' := 25) d_224_22 rfl st_224_166 rfl ?_
      exact g_lret d_224_25 rt_224 h
theorem Z_224 {z1 : Int} {w : xW} {r : Option Value × xW} (hC : CS w) (h : ∀ w2, w2 = pF w 39 0 (.int (jI 0)) → CS w2 → ∃ (P7 : Prop) (dP8 : Decidable P7) (w4 : xW), xCall 199 [.int (jI z1), .int (jI 2), .int (jI 38)] w2 (some (.int (bz P7)), w4) ∧ CS w4 ∧ (¬ P7 → r = (some (.long (jL (-9223372036854775808))), w4)) ∧ (P7 → in32 z1 ∧ ∃ y10, Int.tmod z1 2 = y10 ∧ in32 y10 ∧ (y10 ≠ 1 → 0 ≤ (3 * z1) + 1 ∧ ∃ x14, rL w4 40 ((3 * z1) + 1).toNat x14 ∧ 0 ≤ (3 * z1) + 2 ∧ ∃ x17, rL w4 40 ((3 * z1) + 2).toNat x17 ∧ xGo 224 52 [some (.ref 39), some (.int (jI z1)), some (.long (jL x14)), none, some (.long (jL x17)), none, some (.int (jI 0))] [] w4 r) ∧ (y10 = 1 → r = (some (.long (jL (-9223372036854775808))), w4)))) : xCall 224 [.ref 39, .int (jI z1)] w r := E_224 (Z_224_0 hC h)
theorem Z_224_52 {z1 : Int} {z2 : Int} {z4 : Int} {z6 : Int} {w : xW} {r : Option Value × xW} (hC : CS w) (h : ∃ x1, fI w 39 12 7 x1 ∧ in32 z6 ∧ in32 x1 ∧ (x1 ≤ z6 → 0 ≤ 3 * z1 ∧ ∃ x6, rL w 40 (3 * z1).toNat x6 ∧ in64 z2 ∧ in64 z4 ∧ z4 ≠ 0 ∧ ∃ y11, Int.tdiv z2 z4 = y11 ∧ r = (some (.long (jL (x6 + y11))), w)) ∧ (z6 < x1 → 0 ≤ z6 ∧ ∃ x14, rI w 44 (z6).toNat x14 ∧ in32 x14 ∧ in64 z4 ∧ x14 ≠ 0 ∧ ∃ y19, Int.tmod z4 x14 = y19 ∧ in64 y19 ∧ (y19 ≠ 0 → xGo 224 52 [some (.ref 39), some (.int (jI z1)), some (.long (jL z2)), none, some (.long (jL z4)), none, some (.int (jI (z6 + 1)))] [] w r) ∧ (y19 = 0 → 0 ≤ z6 ∧ ∃ x23, rI w 44 (z6).toNat x23 ∧ in32 x23 ∧ x23 ≠ 0 ∧ ∃ y27, Int.tdiv z4 x23 = y27 ∧ xGo 224 52 [some (.ref 39), some (.int (jI z1)), some (.long (jL (z2 + y27))), none, some (.long (jL z4)), none, some (.int (jI (z6 + 1)))] [] w r))) : xGo 224 52 [some (.ref 39), some (.int (jI z1)), some (.long (jL z2)), none, some (.long (jL z4)), none, some (.int (jI z6))] [] w r := by
  refine g_iload (pc' := 54) d_224_52 rfl rfl ?_
  refine g_aloadn (pc' := 55) d_224_54 rfl rfl ?_
  obtain ⟨x1, hv2, h⟩ := h
  refine gz_getI (pc' := 58) d_224_55 rfl st_224_96 hv2 ?_
  obtain ⟨hc3, h⟩ := h
  obtain ⟨hc4, h⟩ := h
  refine gz_ic_ge (pc' := 61) (pt := 97) d_224_58 (by decide) rfl hc3 hc4 (fun c => ?_) (fun c => ?_)
  · replace h := h.1 c
    refine g_aloadn (pc' := 98) d_224_97 rfl rfl ?_
    refine gz_getR (pc' := 101) d_224_98 rfl st_224_7 (kr_39_1 hC) ?_
    refine g_iconst (pc' := 102) d_224_101 rfl rfl ?_
    refine g_iloadn (pc' := 103) d_224_102 rfl rfl ?_
    refine gz_imul (pc' := 104) d_224_103 rfl ?_
    obtain ⟨hc5, h⟩ := h
    obtain ⟨x6, hv7, h⟩ := h
    refine gz_lald (pc' := 105) d_224_104 rfl hc5 hv7 ?_
    refine g_lloadn (pc' := 106) d_224_105 rfl rfl ?_
    refine g_lload (pc' := 108) d_224_106 rfl rfl ?_
    obtain ⟨hc8, h⟩ := h
    obtain ⟨hc9, h⟩ := h
    obtain ⟨hc10, h⟩ := h
    obtain ⟨y11, hz12, h⟩ := h
    refine gz_ldiv (pc' := 109) d_224_108 rfl hc8 hc9 hc10 hz12 ?_
    refine gz_ladd (pc' := 110) d_224_109 rfl ?_
    exact g_lret d_224_110 rt_224 h
  · replace h := h.2 c
    refine g_lload (pc' := 63) d_224_61 rfl rfl ?_
    refine g_aloadn (pc' := 64) d_224_63 rfl rfl ?_
    refine gz_getR (pc' := 67) d_224_64 rfl st_224_27 (kr_39_6 hC) ?_
    refine g_iload (pc' := 69) d_224_67 rfl rfl ?_
    obtain ⟨hc13, h⟩ := h
    obtain ⟨x14, hv15, h⟩ := h
    refine gz_iald (pc' := 70) d_224_69 rfl hc13 hv15 ?_
    obtain ⟨hc16, h⟩ := h
    refine gz_i2l (pc' := 71) d_224_70 rfl hc16 ?_
    obtain ⟨hc17, h⟩ := h
    obtain ⟨hc18, h⟩ := h
    obtain ⟨y19, hz20, h⟩ := h
    refine gz_lrem (pc' := 72) d_224_71 rfl hc17 (in3264 hc16) hc18 hz20 ?_
    refine g_lconst (pc' := 73) (v := jL 0) d_224_72 rfl cl_0 ?_
    obtain ⟨hc21, h⟩ := h
    refine gz_lc_ne (pc' := 77) (pm := 74) (pt := 91) d_224_73 rfl d_224_74 (by decide) rfl hc21 (s64 (z := 0)) (fun c => ?_) (fun c => ?_)
    · replace h := h.1 c
      refine gz_iinc (pc' := 94) (l' := [some (.ref 39), some (.int (jI z1)), some (.long (jL z2)), none, some (.long (jL z4)), none, some (.int (jI (z6 + 1)))]) d_224_91 rfl rfl ml_224 rfl rfl ?_
      refine g_goto (pt := 52) d_224_94 (by decide) ?_
      exact h
    · replace h := h.2 c
      refine g_lloadn (pc' := 78) d_224_77 rfl rfl ?_
      refine g_lload (pc' := 80) d_224_78 rfl rfl ?_
      refine g_aloadn (pc' := 81) d_224_80 rfl rfl ?_
      refine gz_getR (pc' := 84) d_224_81 rfl st_224_27 (kr_39_6 hC) ?_
      refine g_iload (pc' := 86) d_224_84 rfl rfl ?_
      obtain ⟨hc22, h⟩ := h
      obtain ⟨x23, hv24, h⟩ := h
      refine gz_iald (pc' := 87) d_224_86 rfl hc22 hv24 ?_
      obtain ⟨hc25, h⟩ := h
      refine gz_i2l (pc' := 88) d_224_87 rfl hc25 ?_
      obtain ⟨hc26, h⟩ := h
      obtain ⟨y27, hz28, h⟩ := h
      refine gz_ldiv (pc' := 89) d_224_88 rfl hc17 (in3264 hc25) hc26 hz28 ?_
      refine gz_ladd (pc' := 90) d_224_89 rfl ?_
      refine g_lstoren (pc' := 91) (l' := [some (.ref 39), some (.int (jI z1)), some (.long (jL (z2 + y27))), none, some (.long (jL z4)), none, some (.int (jI z6))]) d_224_90 rfl ml_224 rfl rfl ?_
      refine gz_iinc (pc' := 94) (l' := [some (.ref 39), some (.int (jI z1)), some (.long (jL (z2 + y27))), none, some (.long (jL z4)), none, some (.int (jI (z6 + 1)))]) d_224_91 rfl rfl ml_224 rfl rfl ?_
      refine g_goto (pt := 52) d_224_94 (by decide) ?_
      exact h
theorem Z_225_0 {z1 : Int} {z2 : Int} {z3 : Int} {w : xW} {r : Option Value × xW} (hC : CS w) (h : ∀ w2, w2 = pF w 39 0 (.int (jI 0)) → CS w2 → in32 z1 ∧ (z1 < 0 → r = (some (.long (jL (-9223372036854775808))), w2)) ∧ (0 ≤ z1 → in32 z2 ∧ (z2 < 0 → r = (some (.long (jL (-9223372036854775808))), w2)) ∧ (0 ≤ z2 → (38 < z1 → r = (some (.long (jL (-9223372036854775808))), w2)) ∧ (z1 ≤ 38 → (38 < z2 → r = (some (.long (jL (-9223372036854775808))), w2)) ∧ (z2 ≤ 38 → in32 (z1 + z2) ∧ (38 < z1 + z2 → r = (some (.long (jL (-9223372036854775808))), w2)) ∧ (z1 + z2 ≤ 38 → ∃ (P10 : Prop) (dP11 : Decidable P10) (w7 : xW), xCall 199 [.int (jI z3), .int (jI 0), .int (jI 2)] w2 (some (.int (bz P10)), w7) ∧ CS w7 ∧ (P10 → xGo 225 49 [some (.ref 39), some (.int (jI z1)), some (.int (jI z2)), some (.int (jI z3)), some (.int (jI 0)), none, none, none, none, none] [] w7 r) ∧ (¬ P10 → r = (some (.long (jL (-9223372036854775808))), w7)))))))) : xGo 225 0 [some (.ref 39), some (.int (jI z1)), some (.int (jI z2)), some (.int (jI z3)), none, none, none, none, none, none] [] w r := by
  refine g_aloadn (pc' := 1) d_225_0 rfl rfl ?_
  refine g_iconst (pc' := 2) d_225_1 rfl rfl ?_
  have hpf1 := (kf_39_0 hC)
  have hC3 : CS (pF w 39 0 (.int (jI 0))) := ks_39_0 hC
  have h := h _ rfl hC3
  refine gz_putf (pc' := 5) d_225_2 rfl st_225_118 ft_12_0 ff_12_0 rfl (Or.inl rfl) hpf1 ?_
  refine g_iloadn (pc' := 6) d_225_5 rfl rfl ?_
  obtain ⟨hc4, h⟩ := h
  refine gz_if_lt (pc' := 9) (pt := 42) d_225_6 (by decide) rfl hc4 (fun c => ?_) (fun c => ?_)
  · replace h := h.1 c
    refine g_ldc2 (pc' := 45) d_225_42 rfl st_225_166 rfl ?_
    exact g_lret d_225_45 rt_225 h
  · replace h := h.2 c
    refine g_iloadn (pc' := 10) d_225_9 rfl rfl ?_
    obtain ⟨hc5, h⟩ := h
    refine gz_if_lt (pc' := 13) (pt := 42) d_225_10 (by decide) rfl hc5 (fun c => ?_) (fun c => ?_)
    · replace h := h.1 c
      refine g_ldc2 (pc' := 45) d_225_42 rfl st_225_166 rfl ?_
      exact g_lret d_225_45 rt_225 h
    · replace h := h.2 c
      refine g_iloadn (pc' := 14) d_225_13 rfl rfl ?_
      refine g_bipush (pc' := 16) (v := jI 38) d_225_14 rfl (by decide) ?_
      refine gz_ic_gt (pc' := 19) (pt := 42) d_225_16 (by decide) rfl hc4 (s32 (z := 38)) (fun c => ?_) (fun c => ?_)
      · replace h := h.1 c
        refine g_ldc2 (pc' := 45) d_225_42 rfl st_225_166 rfl ?_
        exact g_lret d_225_45 rt_225 h
      · replace h := h.2 c
        refine g_iloadn (pc' := 20) d_225_19 rfl rfl ?_
        refine g_bipush (pc' := 22) (v := jI 38) d_225_20 rfl (by decide) ?_
        refine gz_ic_gt (pc' := 25) (pt := 42) d_225_22 (by decide) rfl hc5 (s32 (z := 38)) (fun c => ?_) (fun c => ?_)
        · replace h := h.1 c
          refine g_ldc2 (pc' := 45) d_225_42 rfl st_225_166 rfl ?_
          exact g_lret d_225_45 rt_225 h
        · replace h := h.2 c
          refine g_iloadn (pc' := 26) d_225_25 rfl rfl ?_
          refine g_iloadn (pc' := 27) d_225_26 rfl rfl ?_
          refine gz_iadd (pc' := 28) d_225_27 rfl ?_
          refine g_bipush (pc' := 30) (v := jI 38) d_225_28 rfl (by decide) ?_
          obtain ⟨hc6, h⟩ := h
          refine gz_ic_gt (pc' := 33) (pt := 42) d_225_30 (by decide) rfl hc6 (s32 (z := 38)) (fun c => ?_) (fun c => ?_)
          · replace h := h.1 c
            refine g_ldc2 (pc' := 45) d_225_42 rfl st_225_166 rfl ?_
            exact g_lret d_225_45 rt_225 h
          · replace h := h.2 c
            refine g_iloadn (pc' := 34) d_225_33 rfl rfl ?_
            refine g_iconst (pc' := 35) d_225_34 rfl rfl ?_
            refine g_iconst (pc' := 36) d_225_35 rfl rfl ?_
            obtain ⟨P10, dP11, w7, hk8, hC9, h⟩ := h
            refine g_callS (pc' := 39) d_225_36 rfl st_225_137 (Or.inl rfl) na_199 ml_199 rfl rfl rfl rm_225_199 rfl rfl hk8 ?_
            refine gz_bt_ne (pc' := 42) (pt := 46) d_225_39 (by decide) rfl (fun c => ?_) (fun c => ?_)
            · replace h := h.1 c
              refine g_iconst (pc' := 47) d_225_46 rfl rfl ?_
              refine g_istore (pc' := 49) (l' := [some (.ref 39), some (.int (jI z1)), some (.int (jI z2)), some (.int (jI z3)), some (.int (jI 0)), none, none, none, none, none]) d_225_47 rfl ml_225 rfl rfl ?_
              exact h
            · replace h := h.2 c
              refine g_ldc2 (pc' := 45) d_225_42 rfl st_225_166 rfl ?_
              exact g_lret d_225_45 rt_225 h
theorem Z_225 {z1 : Int} {z2 : Int} {z3 : Int} {w : xW} {r : Option Value × xW} (hC : CS w) (h : ∀ w2, w2 = pF w 39 0 (.int (jI 0)) → CS w2 → in32 z1 ∧ (z1 < 0 → r = (some (.long (jL (-9223372036854775808))), w2)) ∧ (0 ≤ z1 → in32 z2 ∧ (z2 < 0 → r = (some (.long (jL (-9223372036854775808))), w2)) ∧ (0 ≤ z2 → (38 < z1 → r = (some (.long (jL (-9223372036854775808))), w2)) ∧ (z1 ≤ 38 → (38 < z2 → r = (some (.long (jL (-9223372036854775808))), w2)) ∧ (z2 ≤ 38 → in32 (z1 + z2) ∧ (38 < z1 + z2 → r = (some (.long (jL (-9223372036854775808))), w2)) ∧ (z1 + z2 ≤ 38 → ∃ (P10 : Prop) (dP11 : Decidable P10) (w7 : xW), xCall 199 [.int (jI z3), .int (jI 0), .int (jI 2)] w2 (some (.int (bz P10)), w7) ∧ CS w7 ∧ (P10 → xGo 225 49 [some (.ref 39), some (.int (jI z1)), some (.int (jI z2)), some (.int (jI z3)), some (.int (jI 0)), none, none, none, none, none] [] w7 r) ∧ (¬ P10 → r = (some (.long (jL (-9223372036854775808))), w7)))))))) : xCall 225 [.ref 39, .int (jI z1), .int (jI z2), .int (jI z3)] w r := E_225 (Z_225_0 hC h)
theorem Z_225_49 {z1 : Int} {z2 : Int} {z3 : Int} {z4 : Int} {w : xW} {r : Option Value × xW} (hC : CS w) (h : in32 z4 ∧ (38 < z4 → xGo 225 107 [some (.ref 39), some (.int (jI z1)), some (.int (jI z2)), some (.int (jI z3)), some (.int (jI 1)), none, none, none, none, none] [] w r) ∧ (z4 ≤ 38 → (z4 ≠ 0 → (0 ≤ z4 ∧ z4 < 40) ∧ ∀ w4, w4 = pL w 45 (z4).toNat (jL 0) → CS w4 → (z4 ≠ 0 → in32 (z4 + 1) ∧ z4 + 1 ≠ 0 ∧ ∃ y8, Int.tdiv 5342931457063200 (z4 + 1) = y8 ∧ ∀ w11, w11 = pL w4 46 (z4).toNat (jL y8) → CS w11 → xGo 225 49 [some (.ref 39), some (.int (jI z1)), some (.int (jI z2)), some (.int (jI z3)), some (.int (jI (z4 + 1))), none, none, none, none, none] [] w11 r) ∧ (z4 = 0 → ∀ w14, w14 = pL w4 46 (z4).toNat (jL 0) → CS w14 → xGo 225 49 [some (.ref 39), some (.int (jI z1)), some (.int (jI z2)), some (.int (jI z3)), some (.int (jI (z4 + 1))), none, none, none, none, none] [] w14 r)) ∧ (z4 = 0 → (0 ≤ z4 ∧ z4 < 40) ∧ ∀ w18, w18 = pL w 45 (z4).toNat (jL 1) → CS w18 → (z4 ≠ 0 → in32 (z4 + 1) ∧ z4 + 1 ≠ 0 ∧ ∃ y22, Int.tdiv 5342931457063200 (z4 + 1) = y22 ∧ ∀ w25, w25 = pL w18 46 (z4).toNat (jL y22) → CS w25 → xGo 225 49 [some (.ref 39), some (.int (jI z1)), some (.int (jI z2)), some (.int (jI z3)), some (.int (jI (z4 + 1))), none, none, none, none, none] [] w25 r) ∧ (z4 = 0 → ∀ w28, w28 = pL w18 46 (z4).toNat (jL 0) → CS w28 → xGo 225 49 [some (.ref 39), some (.int (jI z1)), some (.int (jI z2)), some (.int (jI z3)), some (.int (jI (z4 + 1))), none, none, none, none, none] [] w28 r)))) : xGo 225 49 [some (.ref 39), some (.int (jI z1)), some (.int (jI z2)), some (.int (jI z3)), some (.int (jI z4)), none, none, none, none, none] [] w r := by
  refine g_iload (pc' := 51) d_225_49 rfl rfl ?_
  refine g_bipush (pc' := 53) (v := jI 38) d_225_51 rfl (by decide) ?_
  obtain ⟨hc1, h⟩ := h
  refine gz_ic_gt (pc' := 56) (pt := 104) d_225_53 (by decide) rfl hc1 (s32 (z := 38)) (fun c => ?_) (fun c => ?_)
  · replace h := h.1 c
    refine g_iconst (pc' := 105) d_225_104 rfl rfl ?_
    refine g_istore (pc' := 107) (l' := [some (.ref 39), some (.int (jI z1)), some (.int (jI z2)), some (.int (jI z3)), some (.int (jI 1)), none, none, none, none, none]) d_225_105 rfl ml_225 rfl rfl ?_
    exact h
  · replace h := h.2 c
    refine g_aloadn (pc' := 57) d_225_56 rfl rfl ?_
    refine gz_getR (pc' := 60) d_225_57 rfl st_225_30 (kr_39_10 hC) ?_
    refine g_iload (pc' := 62) d_225_60 rfl rfl ?_
    refine g_iload (pc' := 64) d_225_62 rfl rfl ?_
    refine gz_if_ne (pc' := 67) (pt := 71) d_225_64 (by decide) rfl hc1 (fun c => ?_) (fun c => ?_)
    · replace h := h.1 c
      refine g_lconst (pc' := 72) (v := jL 0) d_225_71 rfl cl_0 ?_
      obtain ⟨hc2, h⟩ := h
      have hs3 := (kh_45 hC hc2)
      have hC5 : CS (pL w 45 (z4).toNat (jL 0)) := hC.putL
      have h := h _ rfl hC5
      refine gz_last (pc' := 73) d_225_72 rfl hs3 ?_
      refine g_aloadn (pc' := 74) d_225_73 rfl rfl ?_
      refine gz_getR (pc' := 77) d_225_74 rfl st_225_33 (kr_39_11 hC5) ?_
      refine g_iload (pc' := 79) d_225_77 rfl rfl ?_
      refine g_iload (pc' := 81) d_225_79 rfl rfl ?_
      refine gz_if_ne (pc' := 84) (pt := 88) d_225_81 (by decide) rfl hc1 (fun c => ?_) (fun c => ?_)
      · replace h := h.1 c
        refine g_ldc2 (pc' := 91) d_225_88 rfl st_225_168 rfl ?_
        refine g_iload (pc' := 93) d_225_91 rfl rfl ?_
        refine g_iconst (pc' := 94) d_225_93 rfl rfl ?_
        refine gz_iadd (pc' := 95) d_225_94 rfl ?_
        obtain ⟨hc6, h⟩ := h
        refine gz_i2l (pc' := 96) d_225_95 rfl hc6 ?_
        obtain ⟨hc7, h⟩ := h
        obtain ⟨y8, hz9, h⟩ := h
        refine gz_ldiv (pc' := 97) d_225_96 rfl (s64 (z := 5342931457063200)) (in3264 hc6) hc7 hz9 ?_
        have hs10 := (kh_46 hC5 hc2)
        have hC12 : CS (pL (pL w 45 (z4).toNat (jL 0)) 46 (z4).toNat (jL y8)) := hC5.putL
        have h := h _ rfl hC12
        refine gz_last (pc' := 98) d_225_97 rfl hs10 ?_
        refine gz_iinc (pc' := 101) (l' := [some (.ref 39), some (.int (jI z1)), some (.int (jI z2)), some (.int (jI z3)), some (.int (jI (z4 + 1))), none, none, none, none, none]) d_225_98 rfl rfl ml_225 rfl rfl ?_
        refine g_goto (pt := 49) d_225_101 (by decide) ?_
        exact h
      · replace h := h.2 c
        refine g_lconst (pc' := 85) (v := jL 0) d_225_84 rfl cl_0 ?_
        refine g_goto (pt := 97) d_225_85 (by decide) ?_
        have hs13 := (kh_46 hC5 hc2)
        have hC15 : CS (pL (pL w 45 (z4).toNat (jL 0)) 46 (z4).toNat (jL 0)) := hC5.putL
        have h := h _ rfl hC15
        refine gz_last (pc' := 98) d_225_97 rfl hs13 ?_
        refine gz_iinc (pc' := 101) (l' := [some (.ref 39), some (.int (jI z1)), some (.int (jI z2)), some (.int (jI z3)), some (.int (jI (z4 + 1))), none, none, none, none, none]) d_225_98 rfl rfl ml_225 rfl rfl ?_
        refine g_goto (pt := 49) d_225_101 (by decide) ?_
        exact h
    · replace h := h.2 c
      refine g_lconst (pc' := 68) (v := jL 1) d_225_67 rfl cl_1 ?_
      refine g_goto (pt := 72) d_225_68 (by decide) ?_
      obtain ⟨hc16, h⟩ := h
      have hs17 := (kh_45 hC hc16)
      have hC19 : CS (pL w 45 (z4).toNat (jL 1)) := hC.putL
      have h := h _ rfl hC19
      refine gz_last (pc' := 73) d_225_72 rfl hs17 ?_
      refine g_aloadn (pc' := 74) d_225_73 rfl rfl ?_
      refine gz_getR (pc' := 77) d_225_74 rfl st_225_33 (kr_39_11 hC19) ?_
      refine g_iload (pc' := 79) d_225_77 rfl rfl ?_
      refine g_iload (pc' := 81) d_225_79 rfl rfl ?_
      refine gz_if_ne (pc' := 84) (pt := 88) d_225_81 (by decide) rfl hc1 (fun c => ?_) (fun c => ?_)
      · replace h := h.1 c
        refine g_ldc2 (pc' := 91) d_225_88 rfl st_225_168 rfl ?_
        refine g_iload (pc' := 93) d_225_91 rfl rfl ?_
        refine g_iconst (pc' := 94) d_225_93 rfl rfl ?_
        refine gz_iadd (pc' := 95) d_225_94 rfl ?_
        obtain ⟨hc20, h⟩ := h
        refine gz_i2l (pc' := 96) d_225_95 rfl hc20 ?_
        obtain ⟨hc21, h⟩ := h
        obtain ⟨y22, hz23, h⟩ := h
        refine gz_ldiv (pc' := 97) d_225_96 rfl (s64 (z := 5342931457063200)) (in3264 hc20) hc21 hz23 ?_
        have hs24 := (kh_46 hC19 hc16)
        have hC26 : CS (pL (pL w 45 (z4).toNat (jL 1)) 46 (z4).toNat (jL y22)) := hC19.putL
        have h := h _ rfl hC26
        refine gz_last (pc' := 98) d_225_97 rfl hs24 ?_
        refine gz_iinc (pc' := 101) (l' := [some (.ref 39), some (.int (jI z1)), some (.int (jI z2)), some (.int (jI z3)), some (.int (jI (z4 + 1))), none, none, none, none, none]) d_225_98 rfl rfl ml_225 rfl rfl ?_
        refine g_goto (pt := 49) d_225_101 (by decide) ?_
        exact h
      · replace h := h.2 c
        refine g_lconst (pc' := 85) (v := jL 0) d_225_84 rfl cl_0 ?_
        refine g_goto (pt := 97) d_225_85 (by decide) ?_
        have hs27 := (kh_46 hC19 hc16)
        have hC29 : CS (pL (pL w 45 (z4).toNat (jL 1)) 46 (z4).toNat (jL 0)) := hC19.putL
        have h := h _ rfl hC29
        refine gz_last (pc' := 98) d_225_97 rfl hs27 ?_
        refine gz_iinc (pc' := 101) (l' := [some (.ref 39), some (.int (jI z1)), some (.int (jI z2)), some (.int (jI z3)), some (.int (jI (z4 + 1))), none, none, none, none, none]) d_225_98 rfl rfl ml_225 rfl rfl ?_
        refine g_goto (pt := 49) d_225_101 (by decide) ?_
        exact h
theorem Z_225_107 {z1 : Int} {z2 : Int} {z3 : Int} {z4 : Int} {w : xW} {r : Option Value × xW} (hC : CS w) (h : in32 z4 ∧ in32 z1 ∧ (z1 < z4 → 0 ≤ z2 ∧ ∃ x4, rL w 45 (z2).toNat x4 ∧ 0 ≤ z2 ∧ ∃ x7, rL w 46 (z2).toNat x7 ∧ ∃ w9, xCall 194 [.ref 39, .ref 62, .int (jI 0), .long (jL x4), .long (jL x7), .long (jL 5342931457063200)] w (none, w9) ∧ CS w9 ∧ 0 ≤ z3 ∧ ∃ x13, rL w9 62 (z3).toNat x13 ∧ r = (some (.long (jL x13)), w9)) ∧ (z4 ≤ z1 → xGo 225 116 [some (.ref 39), some (.int (jI z1)), some (.int (jI z2)), some (.int (jI z3)), some (.int (jI z4)), some (.int (jI 0)), none, none, none, none] [] w r)) : xGo 225 107 [some (.ref 39), some (.int (jI z1)), some (.int (jI z2)), some (.int (jI z3)), some (.int (jI z4)), none, none, none, none, none] [] w r := by
  refine g_iload (pc' := 109) d_225_107 rfl rfl ?_
  refine g_iloadn (pc' := 110) d_225_109 rfl rfl ?_
  obtain ⟨hc1, h⟩ := h
  obtain ⟨hc2, h⟩ := h
  refine gz_ic_gt (pc' := 113) (pt := 222) d_225_110 (by decide) rfl hc1 hc2 (fun c => ?_) (fun c => ?_)
  · replace h := h.1 c
    refine g_aloadn (pc' := 223) d_225_222 rfl rfl ?_
    refine g_aloadn (pc' := 224) d_225_223 rfl rfl ?_
    refine gz_getR (pc' := 227) d_225_224 rfl st_225_81 (kr_39_29 hC) ?_
    refine g_iconst (pc' := 228) d_225_227 rfl rfl ?_
    refine g_aloadn (pc' := 229) d_225_228 rfl rfl ?_
    refine gz_getR (pc' := 232) d_225_229 rfl st_225_30 (kr_39_10 hC) ?_
    refine g_iloadn (pc' := 233) d_225_232 rfl rfl ?_
    obtain ⟨hc3, h⟩ := h
    obtain ⟨x4, hv5, h⟩ := h
    refine gz_lald (pc' := 234) d_225_233 rfl hc3 hv5 ?_
    refine g_aloadn (pc' := 235) d_225_234 rfl rfl ?_
    refine gz_getR (pc' := 238) d_225_235 rfl st_225_33 (kr_39_11 hC) ?_
    refine g_iloadn (pc' := 239) d_225_238 rfl rfl ?_
    obtain ⟨hc6, h⟩ := h
    obtain ⟨x7, hv8, h⟩ := h
    refine gz_lald (pc' := 240) d_225_239 rfl hc6 hv8 ?_
    refine g_ldc2 (pc' := 243) d_225_240 rfl st_225_168 rfl ?_
    obtain ⟨w9, hk10, hC11, h⟩ := h
    refine gz_callV (pc' := 246) d_225_243 rfl st_225_134 na_194 ml_194 rfl rfl rfl rm_225_194 rfl rfl ow_194 (ko_39 hC) hk10 ?_
    refine g_aloadn (pc' := 247) d_225_246 rfl rfl ?_
    refine gz_getR (pc' := 250) d_225_247 rfl st_225_81 (kr_39_29 hC11) ?_
    refine g_iloadn (pc' := 251) d_225_250 rfl rfl ?_
    obtain ⟨hc12, h⟩ := h
    obtain ⟨x13, hv14, h⟩ := h
    refine gz_lald (pc' := 252) d_225_251 rfl hc12 hv14 ?_
    exact g_lret d_225_252 rt_225 h
  · replace h := h.2 c
    refine g_iconst (pc' := 114) d_225_113 rfl rfl ?_
    refine g_istore (pc' := 116) (l' := [some (.ref 39), some (.int (jI z1)), some (.int (jI z2)), some (.int (jI z3)), some (.int (jI z4)), some (.int (jI 0)), none, none, none, none]) d_225_114 rfl ml_225 rfl rfl ?_
    exact h
theorem Z_225_116 {z1 : Int} {z2 : Int} {z3 : Int} {z4 : Int} {z5 : Int} {w : xW} {r : Option Value × xW} (hC : CS w) (h : in32 (z5 + z4) ∧ (38 < z5 + z4 → xGo 225 107 [some (.ref 39), some (.int (jI z1)), some (.int (jI z2)), some (.int (jI z3)), some (.int (jI (z4 + 1))), none, none, none, none, none] [] w r) ∧ (z5 + z4 ≤ 38 → in32 (z5 + 1) ∧ 0 ≤ z5 ∧ ∃ x4, rL w 46 (z5).toNat x4 ∧ 0 ≤ z5 + 1 ∧ ∃ x7, rL w 46 (z5 + 1).toNat x7 ∧ ∃ r12 w9, xCall 193 [.long (jL ((z5 + 1) * (x4 - x7))), .long (jL 5342931457063200)] w (some (.long (jL r12)), w9) ∧ CS w9 ∧ 0 ≤ z5 ∧ ∃ x14, rL w9 45 (z5).toNat x14 ∧ 0 ≤ z5 + 1 ∧ ∃ x17, rL w9 45 (z5 + 1).toNat x17 ∧ (0 ≤ z5 ∧ z5 < 40) ∧ ∀ w21, w21 = pL w9 45 (z5).toNat (jL (((z5 + 1) * (x14 - x17)) + r12)) → CS w21 → ∀ v23 : Int, v23 = ((z5 + 1) * (x4 - x7)) - (r12 * 5342931457063200) → ∀ w25, w25 = pL w21 46 (z5).toNat (jL v23) → CS w25 → xGo 225 116 [some (.ref 39), some (.int (jI z1)), some (.int (jI z2)), some (.int (jI z3)), some (.int (jI z4)), some (.int (jI (z5 + 1))), none, none, none, none] [] w25 r)) : xGo 225 116 [some (.ref 39), some (.int (jI z1)), some (.int (jI z2)), some (.int (jI z3)), some (.int (jI z4)), some (.int (jI z5)), none, none, none, none] [] w r := by
  refine g_iload (pc' := 118) d_225_116 rfl rfl ?_
  refine g_iload (pc' := 120) d_225_118 rfl rfl ?_
  refine gz_iadd (pc' := 121) d_225_120 rfl ?_
  refine g_bipush (pc' := 123) (v := jI 38) d_225_121 rfl (by decide) ?_
  obtain ⟨hc1, h⟩ := h
  refine gz_ic_gt (pc' := 126) (pt := 216) d_225_123 (by decide) rfl hc1 (s32 (z := 38)) (fun c => ?_) (fun c => ?_)
  · replace h := h.1 c
    refine gz_iinc (pc' := 219) (l' := [some (.ref 39), some (.int (jI z1)), some (.int (jI z2)), some (.int (jI z3)), some (.int (jI (z4 + 1))), some (.int (jI z5)), none, none, none, none]) d_225_216 rfl rfl ml_225 rfl rfl ?_
    refine g_goto (pt := 107) d_225_219 (by decide) ?_
    exact xGo.more (xle_s (xle_s (xle_s (xle_s (xle_s (xle_n (xle_n (xle_n (xle_n (xle_n xle_0)))))))))) h
  · replace h := h.2 c
    refine g_iload (pc' := 128) d_225_126 rfl rfl ?_
    refine g_iconst (pc' := 129) d_225_128 rfl rfl ?_
    refine gz_iadd (pc' := 130) d_225_129 rfl ?_
    obtain ⟨hc2, h⟩ := h
    refine gz_i2l (pc' := 131) d_225_130 rfl hc2 ?_
    refine g_aloadn (pc' := 132) d_225_131 rfl rfl ?_
    refine gz_getR (pc' := 135) d_225_132 rfl st_225_33 (kr_39_11 hC) ?_
    refine g_iload (pc' := 137) d_225_135 rfl rfl ?_
    obtain ⟨hc3, h⟩ := h
    obtain ⟨x4, hv5, h⟩ := h
    refine gz_lald (pc' := 138) d_225_137 rfl hc3 hv5 ?_
    refine g_aloadn (pc' := 139) d_225_138 rfl rfl ?_
    refine gz_getR (pc' := 142) d_225_139 rfl st_225_33 (kr_39_11 hC) ?_
    refine g_iload (pc' := 144) d_225_142 rfl rfl ?_
    refine g_iconst (pc' := 145) d_225_144 rfl rfl ?_
    refine gz_iadd (pc' := 146) d_225_145 rfl ?_
    obtain ⟨hc6, h⟩ := h
    obtain ⟨x7, hv8, h⟩ := h
    refine gz_lald (pc' := 147) d_225_146 rfl hc6 hv8 ?_
    refine gz_lsub (pc' := 148) d_225_147 rfl ?_
    refine gz_lmul (pc' := 149) d_225_148 rfl ?_
    refine g_lstore (pc' := 151) (l' := [some (.ref 39), some (.int (jI z1)), some (.int (jI z2)), some (.int (jI z3)), some (.int (jI z4)), some (.int (jI z5)), some (.long (jL ((z5 + 1) * (x4 - x7)))), none, none, none]) d_225_149 rfl ml_225 rfl rfl ?_
    refine g_lload (pc' := 153) d_225_151 rfl rfl ?_
    refine g_ldc2 (pc' := 156) d_225_153 rfl st_225_168 rfl ?_
    obtain ⟨r12, w9, hk10, hC11, h⟩ := h
    refine g_callS (pc' := 159) d_225_156 rfl st_225_131 (Or.inl rfl) na_193 ml_193 rfl rfl rfl rm_225_193 rfl rfl hk10 ?_
    refine g_lstore (pc' := 161) (l' := [some (.ref 39), some (.int (jI z1)), some (.int (jI z2)), some (.int (jI z3)), some (.int (jI z4)), some (.int (jI z5)), some (.long (jL ((z5 + 1) * (x4 - x7)))), none, some (.long (jL r12)), none]) d_225_159 rfl ml_225 rfl rfl ?_
    refine g_aloadn (pc' := 162) d_225_161 rfl rfl ?_
    refine gz_getR (pc' := 165) d_225_162 rfl st_225_30 (kr_39_10 hC11) ?_
    refine g_iload (pc' := 167) d_225_165 rfl rfl ?_
    refine g_iload (pc' := 169) d_225_167 rfl rfl ?_
    refine g_iconst (pc' := 170) d_225_169 rfl rfl ?_
    refine gz_iadd (pc' := 171) d_225_170 rfl ?_
    refine gz_i2l (pc' := 172) d_225_171 rfl hc2 ?_
    refine g_aloadn (pc' := 173) d_225_172 rfl rfl ?_
    refine gz_getR (pc' := 176) d_225_173 rfl st_225_30 (kr_39_10 hC11) ?_
    refine g_iload (pc' := 178) d_225_176 rfl rfl ?_
    obtain ⟨hc13, h⟩ := h
    obtain ⟨x14, hv15, h⟩ := h
    refine gz_lald (pc' := 179) d_225_178 rfl hc13 hv15 ?_
    refine g_aloadn (pc' := 180) d_225_179 rfl rfl ?_
    refine gz_getR (pc' := 183) d_225_180 rfl st_225_30 (kr_39_10 hC11) ?_
    refine g_iload (pc' := 185) d_225_183 rfl rfl ?_
    refine g_iconst (pc' := 186) d_225_185 rfl rfl ?_
    refine gz_iadd (pc' := 187) d_225_186 rfl ?_
    obtain ⟨hc16, h⟩ := h
    obtain ⟨x17, hv18, h⟩ := h
    refine gz_lald (pc' := 188) d_225_187 rfl hc16 hv18 ?_
    refine gz_lsub (pc' := 189) d_225_188 rfl ?_
    refine gz_lmul (pc' := 190) d_225_189 rfl ?_
    refine g_lload (pc' := 192) d_225_190 rfl rfl ?_
    refine gz_ladd (pc' := 193) d_225_192 rfl ?_
    obtain ⟨hc19, h⟩ := h
    have hs20 := (kh_45 hC11 hc19)
    have hC22 : CS (pL w9 45 (z5).toNat (jL (((z5 + 1) * (x14 - x17)) + r12))) := hC11.putL
    have h := h _ rfl hC22
    refine gz_last (pc' := 194) d_225_193 rfl hs20 ?_
    refine g_aloadn (pc' := 195) d_225_194 rfl rfl ?_
    refine gz_getR (pc' := 198) d_225_195 rfl st_225_33 (kr_39_11 hC22) ?_
    refine g_iload (pc' := 200) d_225_198 rfl rfl ?_
    refine g_lload (pc' := 202) d_225_200 rfl rfl ?_
    refine g_lload (pc' := 204) d_225_202 rfl rfl ?_
    refine g_ldc2 (pc' := 207) d_225_204 rfl st_225_168 rfl ?_
    refine gz_lmul (pc' := 208) d_225_207 rfl ?_
    refine gz_lsub (pc' := 209) d_225_208 rfl ?_
    have h := h _ rfl
    have hs24 := (kh_46 hC22 hc19)
    have hC26 : CS (pL (pL w9 45 (z5).toNat (jL (((z5 + 1) * (x14 - x17)) + r12))) 46 (z5).toNat (jL (((z5 + 1) * (x4 - x7)) - (r12 * 5342931457063200)))) := hC22.putL
    have h := h _ rfl hC26
    refine gz_last (pc' := 210) d_225_209 rfl hs24 ?_
    refine gz_iinc (pc' := 213) (l' := [some (.ref 39), some (.int (jI z1)), some (.int (jI z2)), some (.int (jI z3)), some (.int (jI z4)), some (.int (jI (z5 + 1))), some (.long (jL ((z5 + 1) * (x4 - x7)))), none, some (.long (jL r12)), none]) d_225_210 rfl rfl ml_225 rfl rfl ?_
    refine g_goto (pt := 116) d_225_213 (by decide) ?_
    exact xGo.more (xle_s (xle_s (xle_s (xle_s (xle_s (xle_s (xle_n (xle_n (xle_n (xle_n xle_0)))))))))) h
theorem Z_226_0 {z1 : Int} {w : xW} {r : Option Value × xW} (hC : CS w) (h : ∀ w2, w2 = pF w 39 0 (.int (jI 0)) → CS w2 → in32 z1 ∧ (1 ≤ z1 → xGo 226 14 [some (.ref 39), some (.int (jI z1)), some (.int (jI 2))] [] w2 r) ∧ (z1 < 1 → r = (some (.int (jI (-1))), w2))) : xGo 226 0 [some (.ref 39), some (.int (jI z1)), none] [] w r := by
  refine g_aloadn (pc' := 1) d_226_0 rfl rfl ?_
  refine g_iconst (pc' := 2) d_226_1 rfl rfl ?_
  have hpf1 := (kf_39_0 hC)
  have hC3 : CS (pF w 39 0 (.int (jI 0))) := ks_39_0 hC
  have h := h _ rfl hC3
  refine gz_putf (pc' := 5) d_226_2 rfl st_226_118 ft_12_0 ff_12_0 rfl (Or.inl rfl) hpf1 ?_
  refine g_iloadn (pc' := 6) d_226_5 rfl rfl ?_
  refine g_iconst (pc' := 7) d_226_6 rfl rfl ?_
  obtain ⟨hc4, h⟩ := h
  refine gz_ic_ge (pc' := 10) (pt := 12) d_226_7 (by decide) rfl hc4 (s32 (z := 1)) (fun c => ?_) (fun c => ?_)
  · replace h := h.1 c
    refine g_iconst (pc' := 13) d_226_12 rfl rfl ?_
    refine g_istoren (pc' := 14) (l' := [some (.ref 39), some (.int (jI z1)), some (.int (jI 2))]) d_226_13 rfl ml_226 rfl rfl ?_
    exact h
  · replace h := h.2 c
    refine g_iconst (pc' := 11) d_226_10 rfl rfl ?_
    exact g_iret d_226_11 rt_226 h
theorem Z_226 {z1 : Int} {w : xW} {r : Option Value × xW} (hC : CS w) (h : ∀ w2, w2 = pF w 39 0 (.int (jI 0)) → CS w2 → in32 z1 ∧ (1 ≤ z1 → xGo 226 14 [some (.ref 39), some (.int (jI z1)), some (.int (jI 2))] [] w2 r) ∧ (z1 < 1 → r = (some (.int (jI (-1))), w2))) : xCall 226 [.ref 39, .int (jI z1)] w r := E_226 (Z_226_0 hC h)
theorem Z_226_14 {z1 : Int} {z2 : Int} {w : xW} {r : Option Value × xW} (hC : CS w) (h : in32 z2 ∧ (38 < z2 → r = (some (.int (jI (-2))), w)) ∧ (z2 ≤ 38 → 0 ≤ (3 * z2) + 2 ∧ ∃ x3, rL w 40 ((3 * z2) + 2).toNat x3 ∧ in32 z1 ∧ in64 x3 ∧ (x3 ≠ z1 → xGo 226 14 [some (.ref 39), some (.int (jI z1)), some (.int (jI (z2 + 2)))] [] w r) ∧ (x3 = z1 → r = (some (.int (jI z2)), w)))) : xGo 226 14 [some (.ref 39), some (.int (jI z1)), some (.int (jI z2))] [] w r := by
  refine g_iloadn (pc' := 15) d_226_14 rfl rfl ?_
  refine g_bipush (pc' := 17) (v := jI 38) d_226_15 rfl (by decide) ?_
  obtain ⟨hc1, h⟩ := h
  refine gz_ic_gt (pc' := 20) (pt := 44) d_226_17 (by decide) rfl hc1 (s32 (z := 38)) (fun c => ?_) (fun c => ?_)
  · replace h := h.1 c
    refine g_bipush (pc' := 46) (v := jI (-2)) d_226_44 rfl (by decide) ?_
    exact g_iret d_226_46 rt_226 h
  · replace h := h.2 c
    refine g_aloadn (pc' := 21) d_226_20 rfl rfl ?_
    refine gz_getR (pc' := 24) d_226_21 rfl st_226_7 (kr_39_1 hC) ?_
    refine g_iconst (pc' := 25) d_226_24 rfl rfl ?_
    refine g_iloadn (pc' := 26) d_226_25 rfl rfl ?_
    refine gz_imul (pc' := 27) d_226_26 rfl ?_
    refine g_iconst (pc' := 28) d_226_27 rfl rfl ?_
    refine gz_iadd (pc' := 29) d_226_28 rfl ?_
    obtain ⟨hc2, h⟩ := h
    obtain ⟨x3, hv4, h⟩ := h
    refine gz_lald (pc' := 30) d_226_29 rfl hc2 hv4 ?_
    refine g_iloadn (pc' := 31) d_226_30 rfl rfl ?_
    obtain ⟨hc5, h⟩ := h
    refine gz_i2l (pc' := 32) d_226_31 rfl hc5 ?_
    obtain ⟨hc6, h⟩ := h
    refine gz_lc_ne (pc' := 36) (pm := 33) (pt := 38) d_226_32 rfl d_226_33 (by decide) rfl hc6 (in3264 hc5) (fun c => ?_) (fun c => ?_)
    · replace h := h.1 c
      refine gz_iinc (pc' := 41) (l' := [some (.ref 39), some (.int (jI z1)), some (.int (jI (z2 + 2)))]) d_226_38 rfl rfl ml_226 rfl rfl ?_
      refine g_goto (pt := 14) d_226_41 (by decide) ?_
      exact h
    · replace h := h.2 c
      refine g_iloadn (pc' := 37) d_226_36 rfl rfl ?_
      exact g_iret d_226_37 rt_226 h
theorem Z_227_0 {z1 : Int} {z2 : Int} {w : xW} {r : Option Value × xW} (hC : CS w) (h : ∀ w2, w2 = pF w 39 0 (.int (jI 0)) → CS w2 → ∃ (P7 : Prop) (dP8 : Decidable P7) (w4 : xW), xCall 198 [.ref 39, .int (jI z1)] w2 (some (.int (bz P7)), w4) ∧ CS w4 ∧ (¬ P7 → r = (some (.int (jI (-1))), w4)) ∧ (P7 → ∃ (P12 : Prop) (dP13 : Decidable P12) (w9 : xW), xCall 228 [.ref 39, .int (jI z2)] w4 (some (.int (bz P12)), w9) ∧ CS w9 ∧ (P12 → ∃ x14, fI w9 39 12 4 x14 ∧ in32 z1 ∧ in32 x14 ∧ (z1 ≤ x14 → ∃ r21 w18, xCall 214 [.ref 39, .ref 41, .int (jI z1), .int (jI z2)] w9 (some (.int (jI r21)), w18) ∧ CS w18 ∧ in32 r21 ∧ (r21 < 0 → r = (some (.int (jI r21)), w18)) ∧ (0 ≤ r21 → ∃ w23, xCall 229 [.ref 39, .int (jI z1), .int (jI z2), .int (jI r21)] w18 (none, w23) ∧ CS w23 ∧ r = (some (.int (jI r21)), w23))) ∧ (x14 < z1 → r = (some (.int (jI (-2))), w9))) ∧ (¬ P12 → r = (some (.int (jI (-1))), w9)))) : xGo 227 0 [some (.ref 39), some (.int (jI z1)), some (.int (jI z2)), none] [] w r := by
  refine g_aloadn (pc' := 1) d_227_0 rfl rfl ?_
  refine g_iconst (pc' := 2) d_227_1 rfl rfl ?_
  have hpf1 := (kf_39_0 hC)
  have hC3 : CS (pF w 39 0 (.int (jI 0))) := ks_39_0 hC
  have h := h _ rfl hC3
  refine gz_putf (pc' := 5) d_227_2 rfl st_227_118 ft_12_0 ff_12_0 rfl (Or.inl rfl) hpf1 ?_
  refine g_aloadn (pc' := 6) d_227_5 rfl rfl ?_
  refine g_iloadn (pc' := 7) d_227_6 rfl rfl ?_
  obtain ⟨P7, dP8, w4, hk5, hC6, h⟩ := h
  refine gz_callV (pc' := 10) d_227_7 rfl st_227_145 na_198 ml_198 rfl rfl rfl rm_227_198 rfl rfl ow_198 (ko_39 hC3) hk5 ?_
  refine gz_bt_eq (pc' := 13) (pt := 21) d_227_10 (by decide) rfl (fun c => ?_) (fun c => ?_)
  · replace h := h.1 c
    refine g_iconst (pc' := 22) d_227_21 rfl rfl ?_
    exact g_iret d_227_22 rt_227 h
  · replace h := h.2 c
    refine g_aloadn (pc' := 14) d_227_13 rfl rfl ?_
    refine g_iloadn (pc' := 15) d_227_14 rfl rfl ?_
    obtain ⟨P12, dP13, w9, hk10, hC11, h⟩ := h
    refine gz_callV (pc' := 18) d_227_15 rfl st_227_185 na_228 ml_228 rfl rfl rfl rm_227_228 rfl rfl ow_228 (ko_39 hC6) hk10 ?_
    refine gz_bt_ne (pc' := 21) (pt := 23) d_227_18 (by decide) rfl (fun c => ?_) (fun c => ?_)
    · replace h := h.1 c
      refine g_iloadn (pc' := 24) d_227_23 rfl rfl ?_
      refine g_aloadn (pc' := 25) d_227_24 rfl rfl ?_
      obtain ⟨x14, hv15, h⟩ := h
      refine gz_getI (pc' := 28) d_227_25 rfl st_227_20 hv15 ?_
      obtain ⟨hc16, h⟩ := h
      obtain ⟨hc17, h⟩ := h
      refine gz_ic_le (pc' := 31) (pt := 34) d_227_28 (by decide) rfl hc16 hc17 (fun c => ?_) (fun c => ?_)
      · replace h := h.1 c
        refine g_aloadn (pc' := 35) d_227_34 rfl rfl ?_
        refine g_aloadn (pc' := 36) d_227_35 rfl rfl ?_
        refine gz_getR (pc' := 39) d_227_36 rfl st_227_13 (kr_39_2 hC11) ?_
        refine g_iloadn (pc' := 40) d_227_39 rfl rfl ?_
        refine g_iloadn (pc' := 41) d_227_40 rfl rfl ?_
        obtain ⟨r21, w18, hk19, hC20, h⟩ := h
        refine gz_callV (pc' := 44) d_227_41 rfl st_227_188 na_214 ml_214 rfl rfl rfl rm_227_214 rfl rfl ow_214 (ko_39 hC11) hk19 ?_
        refine g_istoren (pc' := 45) (l' := [some (.ref 39), some (.int (jI z1)), some (.int (jI z2)), some (.int (jI r21))]) d_227_44 rfl ml_227 rfl rfl ?_
        refine g_iloadn (pc' := 46) d_227_45 rfl rfl ?_
        obtain ⟨hc22, h⟩ := h
        refine gz_if_lt (pc' := 49) (pt := 56) d_227_46 (by decide) rfl hc22 (fun c => ?_) (fun c => ?_)
        · replace h := h.1 c
          refine g_iloadn (pc' := 57) d_227_56 rfl rfl ?_
          exact g_iret d_227_57 rt_227 h
        · replace h := h.2 c
          refine g_aloadn (pc' := 50) d_227_49 rfl rfl ?_
          refine g_iloadn (pc' := 51) d_227_50 rfl rfl ?_
          refine g_iloadn (pc' := 52) d_227_51 rfl rfl ?_
          refine g_iloadn (pc' := 53) d_227_52 rfl rfl ?_
          obtain ⟨w23, hk24, hC25, h⟩ := h
          refine gz_callV (pc' := 56) d_227_53 rfl st_227_192 na_229 ml_229 rfl rfl rfl rm_227_229 rfl rfl ow_229 (ko_39 hC20) hk24 ?_
          refine g_iloadn (pc' := 57) d_227_56 rfl rfl ?_
          exact g_iret d_227_57 rt_227 h
      · replace h := h.2 c
        refine g_bipush (pc' := 33) (v := jI (-2)) d_227_31 rfl (by decide) ?_
        exact g_iret d_227_33 rt_227 h
    · replace h := h.2 c
      refine g_iconst (pc' := 22) d_227_21 rfl rfl ?_
      exact g_iret d_227_22 rt_227 h
theorem Z_227 {z1 : Int} {z2 : Int} {w : xW} {r : Option Value × xW} (hC : CS w) (h : ∀ w2, w2 = pF w 39 0 (.int (jI 0)) → CS w2 → ∃ (P7 : Prop) (dP8 : Decidable P7) (w4 : xW), xCall 198 [.ref 39, .int (jI z1)] w2 (some (.int (bz P7)), w4) ∧ CS w4 ∧ (¬ P7 → r = (some (.int (jI (-1))), w4)) ∧ (P7 → ∃ (P12 : Prop) (dP13 : Decidable P12) (w9 : xW), xCall 228 [.ref 39, .int (jI z2)] w4 (some (.int (bz P12)), w9) ∧ CS w9 ∧ (P12 → ∃ x14, fI w9 39 12 4 x14 ∧ in32 z1 ∧ in32 x14 ∧ (z1 ≤ x14 → ∃ r21 w18, xCall 214 [.ref 39, .ref 41, .int (jI z1), .int (jI z2)] w9 (some (.int (jI r21)), w18) ∧ CS w18 ∧ in32 r21 ∧ (r21 < 0 → r = (some (.int (jI r21)), w18)) ∧ (0 ≤ r21 → ∃ w23, xCall 229 [.ref 39, .int (jI z1), .int (jI z2), .int (jI r21)] w18 (none, w23) ∧ CS w23 ∧ r = (some (.int (jI r21)), w23))) ∧ (x14 < z1 → r = (some (.int (jI (-2))), w9))) ∧ (¬ P12 → r = (some (.int (jI (-1))), w9)))) : xCall 227 [.ref 39, .int (jI z1), .int (jI z2)] w r := E_227 (Z_227_0 hC h)
theorem Z_228_0 {z1 : Int} {w : xW} {r : Option Value × xW} (hC : CS w) (h : xGo 228 2 [some (.ref 39), some (.int (jI z1)), some (.int (jI 1))] [] w r) : xGo 228 0 [some (.ref 39), some (.int (jI z1)), none] [] w r := by
  refine g_iconst (pc' := 1) d_228_0 rfl rfl ?_
  refine g_istoren (pc' := 2) (l' := [some (.ref 39), some (.int (jI z1)), some (.int (jI 1))]) d_228_1 rfl ml_228 rfl rfl ?_
  exact h
theorem Z_228 {z1 : Int} {w : xW} {r : Option Value × xW} (hC : CS w) (h : xGo 228 2 [some (.ref 39), some (.int (jI z1)), some (.int (jI 1))] [] w r) : xCall 228 [.ref 39, .int (jI z1)] w r := E_228 (Z_228_0 hC h)
theorem Z_228_2 {z1 : Int} {z2 : Int} {w : xW} {r : Option Value × xW} (hC : CS w) (h : ∃ x1, fI w 39 12 7 x1 ∧ in32 z2 ∧ in32 x1 ∧ (x1 ≤ z2 → r = (some (.int (jI 0)), w)) ∧ (z2 < x1 → 0 ≤ z2 ∧ ∃ x6, rI w 44 (z2).toNat x6 ∧ in32 x6 ∧ in32 z1 ∧ (x6 ≠ z1 → xGo 228 2 [some (.ref 39), some (.int (jI z1)), some (.int (jI (z2 + 1)))] [] w r) ∧ (x6 = z1 → r = (some (.int (jI 1)), w)))) : xGo 228 2 [some (.ref 39), some (.int (jI z1)), some (.int (jI z2))] [] w r := by
  refine g_iloadn (pc' := 3) d_228_2 rfl rfl ?_
  refine g_aloadn (pc' := 4) d_228_3 rfl rfl ?_
  obtain ⟨x1, hv2, h⟩ := h
  refine gz_getI (pc' := 7) d_228_4 rfl st_228_96 hv2 ?_
  obtain ⟨hc3, h⟩ := h
  obtain ⟨hc4, h⟩ := h
  refine gz_ic_ge (pc' := 10) (pt := 28) d_228_7 (by decide) rfl hc3 hc4 (fun c => ?_) (fun c => ?_)
  · replace h := h.1 c
    refine g_iconst (pc' := 29) d_228_28 rfl rfl ?_
    exact g_zret d_228_29 rt_228 (Or.inl rfl) h
  · replace h := h.2 c
    refine g_aloadn (pc' := 11) d_228_10 rfl rfl ?_
    refine gz_getR (pc' := 14) d_228_11 rfl st_228_27 (kr_39_6 hC) ?_
    refine g_iloadn (pc' := 15) d_228_14 rfl rfl ?_
    obtain ⟨hc5, h⟩ := h
    obtain ⟨x6, hv7, h⟩ := h
    refine gz_iald (pc' := 16) d_228_15 rfl hc5 hv7 ?_
    refine g_iloadn (pc' := 17) d_228_16 rfl rfl ?_
    obtain ⟨hc8, h⟩ := h
    obtain ⟨hc9, h⟩ := h
    refine gz_ic_ne (pc' := 20) (pt := 22) d_228_17 (by decide) rfl hc8 hc9 (fun c => ?_) (fun c => ?_)
    · replace h := h.1 c
      refine gz_iinc (pc' := 25) (l' := [some (.ref 39), some (.int (jI z1)), some (.int (jI (z2 + 1)))]) d_228_22 rfl rfl ml_228 rfl rfl ?_
      refine g_goto (pt := 2) d_228_25 (by decide) ?_
      exact h
    · replace h := h.2 c
      refine g_iconst (pc' := 21) d_228_20 rfl rfl ?_
      exact g_zret d_228_21 rt_228 (Or.inr rfl) h
theorem Z_229_0 {z1 : Int} {z2 : Int} {z3 : Int} {w : xW} {r : Option Value × xW} (hC : CS w) (h : ∃ r4 w1, xCall 230 [.ref 39, .int (jI z1), .int (jI z2)] w (some (.int (jI r4)), w1) ∧ CS w1 ∧ in32 r4 ∧ (0 ≤ r4 → (0 ≤ 3 * r4 ∧ 3 * r4 < 63) ∧ ∀ w8, w8 = pI w1 47 (3 * r4).toNat (jI z1) → CS w8 → (0 ≤ (3 * r4) + 1 ∧ (3 * r4) + 1 < 63) ∧ ∀ w12, w12 = pI w8 47 ((3 * r4) + 1).toNat (jI z2) → CS w12 → (0 ≤ (3 * r4) + 2 ∧ (3 * r4) + 2 < 63) ∧ ∀ w16, w16 = pI w12 47 ((3 * r4) + 2).toNat (jI z3) → CS w16 → r = (none, w16)) ∧ (r4 < 0 → ∃ x18, fI w1 39 12 13 x18 ∧ in32 x18 ∧ (x18 ≠ 20 → ∀ w22, w22 = pF w1 39 13 (.int (jI (x18 + 1))) → CS w22 → (0 ≤ 3 * x18 ∧ 3 * x18 < 63) ∧ ∀ w26, w26 = pI w22 47 (3 * x18).toNat (jI z1) → CS w26 → (0 ≤ (3 * x18) + 1 ∧ (3 * x18) + 1 < 63) ∧ ∀ w30, w30 = pI w26 47 ((3 * x18) + 1).toNat (jI z2) → CS w30 → (0 ≤ (3 * x18) + 2 ∧ (3 * x18) + 2 < 63) ∧ ∀ w34, w34 = pI w30 47 ((3 * x18) + 2).toNat (jI z3) → CS w34 → r = (none, w34)) ∧ (x18 = 20 → xGo 229 25 [some (.ref 39), some (.int (jI z1)), some (.int (jI z2)), some (.int (jI z3)), some (.int (jI r4)), some (.int (jI 3))] [] w1 r))) : xGo 229 0 [some (.ref 39), some (.int (jI z1)), some (.int (jI z2)), some (.int (jI z3)), none, none] [] w r := by
  refine g_aloadn (pc' := 1) d_229_0 rfl rfl ?_
  refine g_iloadn (pc' := 2) d_229_1 rfl rfl ?_
  refine g_iloadn (pc' := 3) d_229_2 rfl rfl ?_
  obtain ⟨r4, w1, hk2, hC3, h⟩ := h
  refine gz_callV (pc' := 6) d_229_3 rfl st_229_181 na_230 ml_230 rfl rfl rfl rm_229_230 rfl rfl ow_230 (ko_39 hC) hk2 ?_
  refine g_istore (pc' := 8) (l' := [some (.ref 39), some (.int (jI z1)), some (.int (jI z2)), some (.int (jI z3)), some (.int (jI r4)), none]) d_229_6 rfl ml_229 rfl rfl ?_
  refine g_iload (pc' := 10) d_229_8 rfl rfl ?_
  obtain ⟨hc5, h⟩ := h
  refine gz_if_ge (pc' := 13) (pt := 76) d_229_10 (by decide) rfl hc5 (fun c => ?_) (fun c => ?_)
  · replace h := h.1 c
    refine g_aloadn (pc' := 77) d_229_76 rfl rfl ?_
    refine gz_getR (pc' := 80) d_229_77 rfl st_229_36 (kr_39_12 hC3) ?_
    refine g_iconst (pc' := 81) d_229_80 rfl rfl ?_
    refine g_iload (pc' := 83) d_229_81 rfl rfl ?_
    refine gz_imul (pc' := 84) d_229_83 rfl ?_
    refine g_iloadn (pc' := 85) d_229_84 rfl rfl ?_
    obtain ⟨hc6, h⟩ := h
    have hs7 := (kh_47 hC3 hc6)
    have hC9 : CS (pI w1 47 (3 * r4).toNat (jI z1)) := hC3.putI
    have h := h _ rfl hC9
    refine gz_iast (pc' := 86) d_229_85 rfl hs7 ?_
    refine g_aloadn (pc' := 87) d_229_86 rfl rfl ?_
    refine gz_getR (pc' := 90) d_229_87 rfl st_229_36 (kr_39_12 hC9) ?_
    refine g_iconst (pc' := 91) d_229_90 rfl rfl ?_
    refine g_iload (pc' := 93) d_229_91 rfl rfl ?_
    refine gz_imul (pc' := 94) d_229_93 rfl ?_
    refine g_iconst (pc' := 95) d_229_94 rfl rfl ?_
    refine gz_iadd (pc' := 96) d_229_95 rfl ?_
    refine g_iloadn (pc' := 97) d_229_96 rfl rfl ?_
    obtain ⟨hc10, h⟩ := h
    have hs11 := (kh_47 hC9 hc10)
    have hC13 : CS (pI (pI w1 47 (3 * r4).toNat (jI z1)) 47 ((3 * r4) + 1).toNat (jI z2)) := hC9.putI
    have h := h _ rfl hC13
    refine gz_iast (pc' := 98) d_229_97 rfl hs11 ?_
    refine g_aloadn (pc' := 99) d_229_98 rfl rfl ?_
    refine gz_getR (pc' := 102) d_229_99 rfl st_229_36 (kr_39_12 hC13) ?_
    refine g_iconst (pc' := 103) d_229_102 rfl rfl ?_
    refine g_iload (pc' := 105) d_229_103 rfl rfl ?_
    refine gz_imul (pc' := 106) d_229_105 rfl ?_
    refine g_iconst (pc' := 107) d_229_106 rfl rfl ?_
    refine gz_iadd (pc' := 108) d_229_107 rfl ?_
    refine g_iloadn (pc' := 109) d_229_108 rfl rfl ?_
    obtain ⟨hc14, h⟩ := h
    have hs15 := (kh_47 hC13 hc14)
    have hC17 : CS (pI (pI (pI w1 47 (3 * r4).toNat (jI z1)) 47 ((3 * r4) + 1).toNat (jI z2)) 47 ((3 * r4) + 2).toNat (jI z3)) := hC13.putI
    have h := h _ rfl hC17
    refine gz_iast (pc' := 110) d_229_109 rfl hs15 ?_
    exact g_vret d_229_110 rt_229 h
  · replace h := h.2 c
    refine g_aloadn (pc' := 14) d_229_13 rfl rfl ?_
    obtain ⟨x18, hv19, h⟩ := h
    refine gz_getI (pc' := 17) d_229_14 rfl st_229_178 hv19 ?_
    refine g_bipush (pc' := 19) (v := jI 20) d_229_17 rfl (by decide) ?_
    obtain ⟨hc20, h⟩ := h
    refine gz_ic_ne (pc' := 22) (pt := 60) d_229_19 (by decide) rfl hc20 (s32 (z := 20)) (fun c => ?_) (fun c => ?_)
    · replace h := h.1 c
      refine g_aloadn (pc' := 61) d_229_60 rfl rfl ?_
      refine gz_getI (pc' := 64) d_229_61 rfl st_229_178 hv19 ?_
      refine g_istore (pc' := 66) (l' := [some (.ref 39), some (.int (jI z1)), some (.int (jI z2)), some (.int (jI z3)), some (.int (jI x18)), none]) d_229_64 rfl ml_229 rfl rfl ?_
      refine g_aloadn (pc' := 67) d_229_66 rfl rfl ?_
      refine g_dup (pc' := 68) d_229_67 rfl rfl ?_
      refine gz_getI (pc' := 71) d_229_68 rfl st_229_178 hv19 ?_
      refine g_iconst (pc' := 72) d_229_71 rfl rfl ?_
      refine gz_iadd (pc' := 73) d_229_72 rfl ?_
      have hpf21 := (kf_39_13 hC3)
      have hC23 : CS (pF w1 39 13 (.int (jI (x18 + 1)))) := ks_39_13 hC3
      have h := h _ rfl hC23
      refine gz_putf (pc' := 76) d_229_73 rfl st_229_178 ft_12_13 ff_12_13 rfl (Or.inl rfl) hpf21 ?_
      refine g_aloadn (pc' := 77) d_229_76 rfl rfl ?_
      refine gz_getR (pc' := 80) d_229_77 rfl st_229_36 (kr_39_12 hC23) ?_
      refine g_iconst (pc' := 81) d_229_80 rfl rfl ?_
      refine g_iload (pc' := 83) d_229_81 rfl rfl ?_
      refine gz_imul (pc' := 84) d_229_83 rfl ?_
      refine g_iloadn (pc' := 85) d_229_84 rfl rfl ?_
      obtain ⟨hc24, h⟩ := h
      have hs25 := (kh_47 hC23 hc24)
      have hC27 : CS (pI (pF w1 39 13 (.int (jI (x18 + 1)))) 47 (3 * x18).toNat (jI z1)) := hC23.putI
      have h := h _ rfl hC27
      refine gz_iast (pc' := 86) d_229_85 rfl hs25 ?_
      refine g_aloadn (pc' := 87) d_229_86 rfl rfl ?_
      refine gz_getR (pc' := 90) d_229_87 rfl st_229_36 (kr_39_12 hC27) ?_
      refine g_iconst (pc' := 91) d_229_90 rfl rfl ?_
      refine g_iload (pc' := 93) d_229_91 rfl rfl ?_
      refine gz_imul (pc' := 94) d_229_93 rfl ?_
      refine g_iconst (pc' := 95) d_229_94 rfl rfl ?_
      refine gz_iadd (pc' := 96) d_229_95 rfl ?_
      refine g_iloadn (pc' := 97) d_229_96 rfl rfl ?_
      obtain ⟨hc28, h⟩ := h
      have hs29 := (kh_47 hC27 hc28)
      have hC31 : CS (pI (pI (pF w1 39 13 (.int (jI (x18 + 1)))) 47 (3 * x18).toNat (jI z1)) 47 ((3 * x18) + 1).toNat (jI z2)) := hC27.putI
      have h := h _ rfl hC31
      refine gz_iast (pc' := 98) d_229_97 rfl hs29 ?_
      refine g_aloadn (pc' := 99) d_229_98 rfl rfl ?_
      refine gz_getR (pc' := 102) d_229_99 rfl st_229_36 (kr_39_12 hC31) ?_
      refine g_iconst (pc' := 103) d_229_102 rfl rfl ?_
      refine g_iload (pc' := 105) d_229_103 rfl rfl ?_
      refine gz_imul (pc' := 106) d_229_105 rfl ?_
      refine g_iconst (pc' := 107) d_229_106 rfl rfl ?_
      refine gz_iadd (pc' := 108) d_229_107 rfl ?_
      refine g_iloadn (pc' := 109) d_229_108 rfl rfl ?_
      obtain ⟨hc32, h⟩ := h
      have hs33 := (kh_47 hC31 hc32)
      have hC35 : CS (pI (pI (pI (pF w1 39 13 (.int (jI (x18 + 1)))) 47 (3 * x18).toNat (jI z1)) 47 ((3 * x18) + 1).toNat (jI z2)) 47 ((3 * x18) + 2).toNat (jI z3)) := hC31.putI
      have h := h _ rfl hC35
      refine gz_iast (pc' := 110) d_229_109 rfl hs33 ?_
      exact g_vret d_229_110 rt_229 h
    · replace h := h.2 c
      refine g_iconst (pc' := 23) d_229_22 rfl rfl ?_
      refine g_istore (pc' := 25) (l' := [some (.ref 39), some (.int (jI z1)), some (.int (jI z2)), some (.int (jI z3)), some (.int (jI r4)), some (.int (jI 3))]) d_229_23 rfl ml_229 rfl rfl ?_
      exact h
theorem Z_229 {z1 : Int} {z2 : Int} {z3 : Int} {w : xW} {r : Option Value × xW} (hC : CS w) (h : ∃ r4 w1, xCall 230 [.ref 39, .int (jI z1), .int (jI z2)] w (some (.int (jI r4)), w1) ∧ CS w1 ∧ in32 r4 ∧ (0 ≤ r4 → (0 ≤ 3 * r4 ∧ 3 * r4 < 63) ∧ ∀ w8, w8 = pI w1 47 (3 * r4).toNat (jI z1) → CS w8 → (0 ≤ (3 * r4) + 1 ∧ (3 * r4) + 1 < 63) ∧ ∀ w12, w12 = pI w8 47 ((3 * r4) + 1).toNat (jI z2) → CS w12 → (0 ≤ (3 * r4) + 2 ∧ (3 * r4) + 2 < 63) ∧ ∀ w16, w16 = pI w12 47 ((3 * r4) + 2).toNat (jI z3) → CS w16 → r = (none, w16)) ∧ (r4 < 0 → ∃ x18, fI w1 39 12 13 x18 ∧ in32 x18 ∧ (x18 ≠ 20 → ∀ w22, w22 = pF w1 39 13 (.int (jI (x18 + 1))) → CS w22 → (0 ≤ 3 * x18 ∧ 3 * x18 < 63) ∧ ∀ w26, w26 = pI w22 47 (3 * x18).toNat (jI z1) → CS w26 → (0 ≤ (3 * x18) + 1 ∧ (3 * x18) + 1 < 63) ∧ ∀ w30, w30 = pI w26 47 ((3 * x18) + 1).toNat (jI z2) → CS w30 → (0 ≤ (3 * x18) + 2 ∧ (3 * x18) + 2 < 63) ∧ ∀ w34, w34 = pI w30 47 ((3 * x18) + 2).toNat (jI z3) → CS w34 → r = (none, w34)) ∧ (x18 = 20 → xGo 229 25 [some (.ref 39), some (.int (jI z1)), some (.int (jI z2)), some (.int (jI z3)), some (.int (jI r4)), some (.int (jI 3))] [] w1 r))) : xCall 229 [.ref 39, .int (jI z1), .int (jI z2), .int (jI z3)] w r := E_229 (Z_229_0 hC h)
theorem Z_229_25 {z1 : Int} {z2 : Int} {z3 : Int} {z4 : Int} {z5 : Int} {w : xW} {r : Option Value × xW} (hC : CS w) (h : in32 z5 ∧ (60 ≤ z5 → ∀ w3, w3 = pF w 39 13 (.int (jI 19)) → CS w3 → ∃ x5, fI w3 39 12 13 x5 ∧ ∀ w8, w8 = pF w3 39 13 (.int (jI (x5 + 1))) → CS w8 → (0 ≤ 3 * x5 ∧ 3 * x5 < 63) ∧ ∀ w12, w12 = pI w8 47 (3 * x5).toNat (jI z1) → CS w12 → (0 ≤ (3 * x5) + 1 ∧ (3 * x5) + 1 < 63) ∧ ∀ w16, w16 = pI w12 47 ((3 * x5) + 1).toNat (jI z2) → CS w16 → (0 ≤ (3 * x5) + 2 ∧ (3 * x5) + 2 < 63) ∧ ∀ w20, w20 = pI w16 47 ((3 * x5) + 2).toNat (jI z3) → CS w20 → r = (none, w20)) ∧ (z5 < 60 → 0 ≤ z5 ∧ ∃ x23, rI w 47 (z5).toNat x23 ∧ (0 ≤ z5 - 3 ∧ z5 - 3 < 63) ∧ ∀ w27, w27 = pI w 47 (z5 - 3).toNat (jI x23) → CS w27 → xGo 229 25 [some (.ref 39), some (.int (jI z1)), some (.int (jI z2)), some (.int (jI z3)), some (.int (jI z4)), some (.int (jI (z5 + 1)))] [] w27 r)) : xGo 229 25 [some (.ref 39), some (.int (jI z1)), some (.int (jI z2)), some (.int (jI z3)), some (.int (jI z4)), some (.int (jI z5))] [] w r := by
  refine g_iload (pc' := 27) d_229_25 rfl rfl ?_
  refine g_bipush (pc' := 29) (v := jI 60) d_229_27 rfl (by decide) ?_
  obtain ⟨hc1, h⟩ := h
  refine gz_ic_ge (pc' := 32) (pt := 54) d_229_29 (by decide) rfl hc1 (s32 (z := 60)) (fun c => ?_) (fun c => ?_)
  · replace h := h.1 c
    refine g_aloadn (pc' := 55) d_229_54 rfl rfl ?_
    refine g_bipush (pc' := 57) (v := jI 19) d_229_55 rfl (by decide) ?_
    have hpf2 := (kf_39_13 hC)
    have hC4 : CS (pF w 39 13 (.int (jI 19))) := ks_39_13 hC
    have h := h _ rfl hC4
    refine gz_putf (pc' := 60) d_229_57 rfl st_229_178 ft_12_13 ff_12_13 rfl (Or.inl rfl) hpf2 ?_
    refine g_aloadn (pc' := 61) d_229_60 rfl rfl ?_
    obtain ⟨x5, hv6, h⟩ := h
    refine gz_getI (pc' := 64) d_229_61 rfl st_229_178 hv6 ?_
    refine g_istore (pc' := 66) (l' := [some (.ref 39), some (.int (jI z1)), some (.int (jI z2)), some (.int (jI z3)), some (.int (jI x5)), some (.int (jI z5))]) d_229_64 rfl ml_229 rfl rfl ?_
    refine g_aloadn (pc' := 67) d_229_66 rfl rfl ?_
    refine g_dup (pc' := 68) d_229_67 rfl rfl ?_
    refine gz_getI (pc' := 71) d_229_68 rfl st_229_178 hv6 ?_
    refine g_iconst (pc' := 72) d_229_71 rfl rfl ?_
    refine gz_iadd (pc' := 73) d_229_72 rfl ?_
    have hpf7 := (kf_39_13 hC4)
    have hC9 : CS (pF (pF w 39 13 (.int (jI 19))) 39 13 (.int (jI (x5 + 1)))) := ks_39_13 hC4
    have h := h _ rfl hC9
    refine gz_putf (pc' := 76) d_229_73 rfl st_229_178 ft_12_13 ff_12_13 rfl (Or.inl rfl) hpf7 ?_
    refine g_aloadn (pc' := 77) d_229_76 rfl rfl ?_
    refine gz_getR (pc' := 80) d_229_77 rfl st_229_36 (kr_39_12 hC9) ?_
    refine g_iconst (pc' := 81) d_229_80 rfl rfl ?_
    refine g_iload (pc' := 83) d_229_81 rfl rfl ?_
    refine gz_imul (pc' := 84) d_229_83 rfl ?_
    refine g_iloadn (pc' := 85) d_229_84 rfl rfl ?_
    obtain ⟨hc10, h⟩ := h
    have hs11 := (kh_47 hC9 hc10)
    have hC13 : CS (pI (pF (pF w 39 13 (.int (jI 19))) 39 13 (.int (jI (x5 + 1)))) 47 (3 * x5).toNat (jI z1)) := hC9.putI
    have h := h _ rfl hC13
    refine gz_iast (pc' := 86) d_229_85 rfl hs11 ?_
    refine g_aloadn (pc' := 87) d_229_86 rfl rfl ?_
    refine gz_getR (pc' := 90) d_229_87 rfl st_229_36 (kr_39_12 hC13) ?_
    refine g_iconst (pc' := 91) d_229_90 rfl rfl ?_
    refine g_iload (pc' := 93) d_229_91 rfl rfl ?_
    refine gz_imul (pc' := 94) d_229_93 rfl ?_
    refine g_iconst (pc' := 95) d_229_94 rfl rfl ?_
    refine gz_iadd (pc' := 96) d_229_95 rfl ?_
    refine g_iloadn (pc' := 97) d_229_96 rfl rfl ?_
    obtain ⟨hc14, h⟩ := h
    have hs15 := (kh_47 hC13 hc14)
    have hC17 : CS (pI (pI (pF (pF w 39 13 (.int (jI 19))) 39 13 (.int (jI (x5 + 1)))) 47 (3 * x5).toNat (jI z1)) 47 ((3 * x5) + 1).toNat (jI z2)) := hC13.putI
    have h := h _ rfl hC17
    refine gz_iast (pc' := 98) d_229_97 rfl hs15 ?_
    refine g_aloadn (pc' := 99) d_229_98 rfl rfl ?_
    refine gz_getR (pc' := 102) d_229_99 rfl st_229_36 (kr_39_12 hC17) ?_
    refine g_iconst (pc' := 103) d_229_102 rfl rfl ?_
    refine g_iload (pc' := 105) d_229_103 rfl rfl ?_
    refine gz_imul (pc' := 106) d_229_105 rfl ?_
    refine g_iconst (pc' := 107) d_229_106 rfl rfl ?_
    refine gz_iadd (pc' := 108) d_229_107 rfl ?_
    refine g_iloadn (pc' := 109) d_229_108 rfl rfl ?_
    obtain ⟨hc18, h⟩ := h
    have hs19 := (kh_47 hC17 hc18)
    have hC21 : CS (pI (pI (pI (pF (pF w 39 13 (.int (jI 19))) 39 13 (.int (jI (x5 + 1)))) 47 (3 * x5).toNat (jI z1)) 47 ((3 * x5) + 1).toNat (jI z2)) 47 ((3 * x5) + 2).toNat (jI z3)) := hC17.putI
    have h := h _ rfl hC21
    refine gz_iast (pc' := 110) d_229_109 rfl hs19 ?_
    exact g_vret d_229_110 rt_229 h
  · replace h := h.2 c
    refine g_aloadn (pc' := 33) d_229_32 rfl rfl ?_
    refine gz_getR (pc' := 36) d_229_33 rfl st_229_36 (kr_39_12 hC) ?_
    refine g_iload (pc' := 38) d_229_36 rfl rfl ?_
    refine g_iconst (pc' := 39) d_229_38 rfl rfl ?_
    refine gz_isub (pc' := 40) d_229_39 rfl ?_
    refine g_aloadn (pc' := 41) d_229_40 rfl rfl ?_
    refine gz_getR (pc' := 44) d_229_41 rfl st_229_36 (kr_39_12 hC) ?_
    refine g_iload (pc' := 46) d_229_44 rfl rfl ?_
    obtain ⟨hc22, h⟩ := h
    obtain ⟨x23, hv24, h⟩ := h
    refine gz_iald (pc' := 47) d_229_46 rfl hc22 hv24 ?_
    obtain ⟨hc25, h⟩ := h
    have hs26 := (kh_47 hC hc25)
    have hC28 : CS (pI w 47 (z5 - 3).toNat (jI x23)) := hC.putI
    have h := h _ rfl hC28
    refine gz_iast (pc' := 48) d_229_47 rfl hs26 ?_
    refine gz_iinc (pc' := 51) (l' := [some (.ref 39), some (.int (jI z1)), some (.int (jI z2)), some (.int (jI z3)), some (.int (jI z4)), some (.int (jI (z5 + 1)))]) d_229_48 rfl rfl ml_229 rfl rfl ?_
    refine g_goto (pt := 25) d_229_51 (by decide) ?_
    exact h
theorem Z_230_0 {z1 : Int} {z2 : Int} {w : xW} {r : Option Value × xW} (hC : CS w) (h : xGo 230 2 [some (.ref 39), some (.int (jI z1)), some (.int (jI z2)), some (.int (jI 0))] [] w r) : xGo 230 0 [some (.ref 39), some (.int (jI z1)), some (.int (jI z2)), none] [] w r := by
  refine g_iconst (pc' := 1) d_230_0 rfl rfl ?_
  refine g_istoren (pc' := 2) (l' := [some (.ref 39), some (.int (jI z1)), some (.int (jI z2)), some (.int (jI 0))]) d_230_1 rfl ml_230 rfl rfl ?_
  exact h
theorem Z_230 {z1 : Int} {z2 : Int} {w : xW} {r : Option Value × xW} (hC : CS w) (h : xGo 230 2 [some (.ref 39), some (.int (jI z1)), some (.int (jI z2)), some (.int (jI 0))] [] w r) : xCall 230 [.ref 39, .int (jI z1), .int (jI z2)] w r := E_230 (Z_230_0 hC h)
theorem Z_230_2 {z1 : Int} {z2 : Int} {z3 : Int} {w : xW} {r : Option Value × xW} (hC : CS w) (h : ∃ x1, fI w 39 12 13 x1 ∧ in32 z3 ∧ in32 x1 ∧ (x1 ≤ z3 → r = (some (.int (jI (-1))), w)) ∧ (z3 < x1 → 0 ≤ 3 * z3 ∧ ∃ x6, rI w 47 (3 * z3).toNat x6 ∧ in32 x6 ∧ in32 z1 ∧ (x6 ≠ z1 → xGo 230 2 [some (.ref 39), some (.int (jI z1)), some (.int (jI z2)), some (.int (jI (z3 + 1)))] [] w r) ∧ (x6 = z1 → 0 ≤ (3 * z3) + 1 ∧ ∃ x11, rI w 47 ((3 * z3) + 1).toNat x11 ∧ in32 x11 ∧ in32 z2 ∧ (x11 ≠ z2 → xGo 230 2 [some (.ref 39), some (.int (jI z1)), some (.int (jI z2)), some (.int (jI (z3 + 1)))] [] w r) ∧ (x11 = z2 → r = (some (.int (jI z3)), w))))) : xGo 230 2 [some (.ref 39), some (.int (jI z1)), some (.int (jI z2)), some (.int (jI z3))] [] w r := by
  refine g_iloadn (pc' := 3) d_230_2 rfl rfl ?_
  refine g_aloadn (pc' := 4) d_230_3 rfl rfl ?_
  obtain ⟨x1, hv2, h⟩ := h
  refine gz_getI (pc' := 7) d_230_4 rfl st_230_178 hv2 ?_
  obtain ⟨hc3, h⟩ := h
  obtain ⟨hc4, h⟩ := h
  refine gz_ic_ge (pc' := 10) (pt := 44) d_230_7 (by decide) rfl hc3 hc4 (fun c => ?_) (fun c => ?_)
  · replace h := h.1 c
    refine g_iconst (pc' := 45) d_230_44 rfl rfl ?_
    exact g_iret d_230_45 rt_230 h
  · replace h := h.2 c
    refine g_aloadn (pc' := 11) d_230_10 rfl rfl ?_
    refine gz_getR (pc' := 14) d_230_11 rfl st_230_36 (kr_39_12 hC) ?_
    refine g_iconst (pc' := 15) d_230_14 rfl rfl ?_
    refine g_iloadn (pc' := 16) d_230_15 rfl rfl ?_
    refine gz_imul (pc' := 17) d_230_16 rfl ?_
    obtain ⟨hc5, h⟩ := h
    obtain ⟨x6, hv7, h⟩ := h
    refine gz_iald (pc' := 18) d_230_17 rfl hc5 hv7 ?_
    refine g_iloadn (pc' := 19) d_230_18 rfl rfl ?_
    obtain ⟨hc8, h⟩ := h
    obtain ⟨hc9, h⟩ := h
    refine gz_ic_ne (pc' := 22) (pt := 38) d_230_19 (by decide) rfl hc8 hc9 (fun c => ?_) (fun c => ?_)
    · replace h := h.1 c
      refine gz_iinc (pc' := 41) (l' := [some (.ref 39), some (.int (jI z1)), some (.int (jI z2)), some (.int (jI (z3 + 1)))]) d_230_38 rfl rfl ml_230 rfl rfl ?_
      refine g_goto (pt := 2) d_230_41 (by decide) ?_
      exact h
    · replace h := h.2 c
      refine g_aloadn (pc' := 23) d_230_22 rfl rfl ?_
      refine gz_getR (pc' := 26) d_230_23 rfl st_230_36 (kr_39_12 hC) ?_
      refine g_iconst (pc' := 27) d_230_26 rfl rfl ?_
      refine g_iloadn (pc' := 28) d_230_27 rfl rfl ?_
      refine gz_imul (pc' := 29) d_230_28 rfl ?_
      refine g_iconst (pc' := 30) d_230_29 rfl rfl ?_
      refine gz_iadd (pc' := 31) d_230_30 rfl ?_
      obtain ⟨hc10, h⟩ := h
      obtain ⟨x11, hv12, h⟩ := h
      refine gz_iald (pc' := 32) d_230_31 rfl hc10 hv12 ?_
      refine g_iloadn (pc' := 33) d_230_32 rfl rfl ?_
      obtain ⟨hc13, h⟩ := h
      obtain ⟨hc14, h⟩ := h
      refine gz_ic_ne (pc' := 36) (pt := 38) d_230_33 (by decide) rfl hc13 hc14 (fun c => ?_) (fun c => ?_)
      · replace h := h.1 c
        refine gz_iinc (pc' := 41) (l' := [some (.ref 39), some (.int (jI z1)), some (.int (jI z2)), some (.int (jI (z3 + 1)))]) d_230_38 rfl rfl ml_230 rfl rfl ?_
        refine g_goto (pt := 2) d_230_41 (by decide) ?_
        exact h
      · replace h := h.2 c
        refine g_iloadn (pc' := 37) d_230_36 rfl rfl ?_
        exact g_iret d_230_37 rt_230 h
theorem Z_231_0 {z1 : Int} {z2 : Int} {w : xW} {r : Option Value × xW} (hC : CS w) (h : ∀ w2, w2 = pF w 39 0 (.int (jI 0)) → CS w2 → ∃ (P7 : Prop) (dP8 : Decidable P7) (w4 : xW), xCall 198 [.ref 39, .int (jI z1)] w2 (some (.int (bz P7)), w4) ∧ CS w4 ∧ (¬ P7 → r = (some (.int (jI (-1))), w4)) ∧ (P7 → ∃ (P12 : Prop) (dP13 : Decidable P12) (w9 : xW), xCall 228 [.ref 39, .int (jI z2)] w4 (some (.int (bz P12)), w9) ∧ CS w9 ∧ (P12 → in32 z1 ∧ (z1 < 2 → r = (some (.int (jI (-3))), w9)) ∧ (2 ≤ z1 → ∃ y15, Int.tmod z1 2 = y15 ∧ in32 y15 ∧ (y15 = 1 → r = (some (.int (jI (-3))), w9)) ∧ (y15 ≠ 1 → in32 (z2 - 1) ∧ z2 - 1 ≠ 0 ∧ ∃ y20, Int.tmod z1 (z2 - 1) = y20 ∧ in32 y20 ∧ (y20 ≠ 0 → xGo 231 51 [some (.ref 39), some (.int (jI z1)), some (.int (jI z2)), some (.int (jI 0)), some (.int (jI 1))] [] w9 r) ∧ (y20 = 0 → r = (some (.int (jI (-3))), w9))))) ∧ (¬ P12 → r = (some (.int (jI (-1))), w9)))) : xGo 231 0 [some (.ref 39), some (.int (jI z1)), some (.int (jI z2)), none, none] [] w r := by
  refine g_aloadn (pc' := 1) d_231_0 rfl rfl ?_
  refine g_iconst (pc' := 2) d_231_1 rfl rfl ?_
  have hpf1 := (kf_39_0 hC)
  have hC3 : CS (pF w 39 0 (.int (jI 0))) := ks_39_0 hC
  have h := h _ rfl hC3
  refine gz_putf (pc' := 5) d_231_2 rfl st_231_118 ft_12_0 ff_12_0 rfl (Or.inl rfl) hpf1 ?_
  refine g_aloadn (pc' := 6) d_231_5 rfl rfl ?_
  refine g_iloadn (pc' := 7) d_231_6 rfl rfl ?_
  obtain ⟨P7, dP8, w4, hk5, hC6, h⟩ := h
  refine gz_callV (pc' := 10) d_231_7 rfl st_231_145 na_198 ml_198 rfl rfl rfl rm_231_198 rfl rfl ow_198 (ko_39 hC3) hk5 ?_
  refine gz_bt_eq (pc' := 13) (pt := 21) d_231_10 (by decide) rfl (fun c => ?_) (fun c => ?_)
  · replace h := h.1 c
    refine g_iconst (pc' := 22) d_231_21 rfl rfl ?_
    exact g_iret d_231_22 rt_231 h
  · replace h := h.2 c
    refine g_aloadn (pc' := 14) d_231_13 rfl rfl ?_
    refine g_iloadn (pc' := 15) d_231_14 rfl rfl ?_
    obtain ⟨P12, dP13, w9, hk10, hC11, h⟩ := h
    refine gz_callV (pc' := 18) d_231_15 rfl st_231_185 na_228 ml_228 rfl rfl rfl rm_231_228 rfl rfl ow_228 (ko_39 hC6) hk10 ?_
    refine gz_bt_ne (pc' := 21) (pt := 23) d_231_18 (by decide) rfl (fun c => ?_) (fun c => ?_)
    · replace h := h.1 c
      refine g_iloadn (pc' := 24) d_231_23 rfl rfl ?_
      refine g_iconst (pc' := 25) d_231_24 rfl rfl ?_
      obtain ⟨hc14, h⟩ := h
      refine gz_ic_lt (pc' := 28) (pt := 43) d_231_25 (by decide) rfl hc14 (s32 (z := 2)) (fun c => ?_) (fun c => ?_)
      · replace h := h.1 c
        refine g_bipush (pc' := 45) (v := jI (-3)) d_231_43 rfl (by decide) ?_
        exact g_iret d_231_45 rt_231 h
      · replace h := h.2 c
        refine g_iloadn (pc' := 29) d_231_28 rfl rfl ?_
        refine g_iconst (pc' := 30) d_231_29 rfl rfl ?_
        obtain ⟨y15, hz16, h⟩ := h
        refine gz_irem (pc' := 31) d_231_30 rfl hc14 (s32 (z := 2)) (by decide) hz16 ?_
        refine g_iconst (pc' := 32) d_231_31 rfl rfl ?_
        obtain ⟨hc17, h⟩ := h
        refine gz_ic_eq (pc' := 35) (pt := 43) d_231_32 (by decide) rfl hc17 (s32 (z := 1)) (fun c => ?_) (fun c => ?_)
        · replace h := h.1 c
          refine g_bipush (pc' := 45) (v := jI (-3)) d_231_43 rfl (by decide) ?_
          exact g_iret d_231_45 rt_231 h
        · replace h := h.2 c
          refine g_iloadn (pc' := 36) d_231_35 rfl rfl ?_
          refine g_iloadn (pc' := 37) d_231_36 rfl rfl ?_
          refine g_iconst (pc' := 38) d_231_37 rfl rfl ?_
          refine gz_isub (pc' := 39) d_231_38 rfl ?_
          obtain ⟨hc18, h⟩ := h
          obtain ⟨hc19, h⟩ := h
          obtain ⟨y20, hz21, h⟩ := h
          refine gz_irem (pc' := 40) d_231_39 rfl hc14 hc18 hc19 hz21 ?_
          obtain ⟨hc22, h⟩ := h
          refine gz_if_ne (pc' := 43) (pt := 46) d_231_40 (by decide) rfl hc22 (fun c => ?_) (fun c => ?_)
          · replace h := h.1 c
            refine g_iconst (pc' := 47) d_231_46 rfl rfl ?_
            refine g_istoren (pc' := 48) (l' := [some (.ref 39), some (.int (jI z1)), some (.int (jI z2)), some (.int (jI 0)), none]) d_231_47 rfl ml_231 rfl rfl ?_
            refine g_iconst (pc' := 49) d_231_48 rfl rfl ?_
            refine g_istore (pc' := 51) (l' := [some (.ref 39), some (.int (jI z1)), some (.int (jI z2)), some (.int (jI 0)), some (.int (jI 1))]) d_231_49 rfl ml_231 rfl rfl ?_
            exact h
          · replace h := h.2 c
            refine g_bipush (pc' := 45) (v := jI (-3)) d_231_43 rfl (by decide) ?_
            exact g_iret d_231_45 rt_231 h
    · replace h := h.2 c
      refine g_iconst (pc' := 22) d_231_21 rfl rfl ?_
      exact g_iret d_231_22 rt_231 h
theorem Z_231 {z1 : Int} {z2 : Int} {w : xW} {r : Option Value × xW} (hC : CS w) (h : ∀ w2, w2 = pF w 39 0 (.int (jI 0)) → CS w2 → ∃ (P7 : Prop) (dP8 : Decidable P7) (w4 : xW), xCall 198 [.ref 39, .int (jI z1)] w2 (some (.int (bz P7)), w4) ∧ CS w4 ∧ (¬ P7 → r = (some (.int (jI (-1))), w4)) ∧ (P7 → ∃ (P12 : Prop) (dP13 : Decidable P12) (w9 : xW), xCall 228 [.ref 39, .int (jI z2)] w4 (some (.int (bz P12)), w9) ∧ CS w9 ∧ (P12 → in32 z1 ∧ (z1 < 2 → r = (some (.int (jI (-3))), w9)) ∧ (2 ≤ z1 → ∃ y15, Int.tmod z1 2 = y15 ∧ in32 y15 ∧ (y15 = 1 → r = (some (.int (jI (-3))), w9)) ∧ (y15 ≠ 1 → in32 (z2 - 1) ∧ z2 - 1 ≠ 0 ∧ ∃ y20, Int.tmod z1 (z2 - 1) = y20 ∧ in32 y20 ∧ (y20 ≠ 0 → xGo 231 51 [some (.ref 39), some (.int (jI z1)), some (.int (jI z2)), some (.int (jI 0)), some (.int (jI 1))] [] w9 r) ∧ (y20 = 0 → r = (some (.int (jI (-3))), w9))))) ∧ (¬ P12 → r = (some (.int (jI (-1))), w9)))) : xCall 231 [.ref 39, .int (jI z1), .int (jI z2)] w r := E_231 (Z_231_0 hC h)
theorem Z_231_51 {z1 : Int} {z2 : Int} {z3 : Int} {z4 : Int} {w : xW} {r : Option Value × xW} (hC : CS w) (h : in32 z4 ∧ in32 z2 ∧ (z2 ≤ z4 → in32 z3 ∧ z2 ≠ 0 ∧ ∃ y5, Int.tdiv z3 z2 = y5 ∧ r = (some (.int (jI y5)), w)) ∧ (z4 < z2 → ∃ r10 w7, xCall 216 [.int (jI z4), .int (jI z1), .int (jI (z2 * z2))] w (some (.int (jI r10)), w7) ∧ CS w7 ∧ in32 (z3 + r10) ∧ in32 (z2 * z2) ∧ z2 * z2 ≠ 0 ∧ ∃ y14, Int.tmod (z3 + r10) (z2 * z2) = y14 ∧ xGo 231 51 [some (.ref 39), some (.int (jI z1)), some (.int (jI z2)), some (.int (jI y14)), some (.int (jI (z4 + 1)))] [] w7 r)) : xGo 231 51 [some (.ref 39), some (.int (jI z1)), some (.int (jI z2)), some (.int (jI z3)), some (.int (jI z4))] [] w r := by
  refine g_iload (pc' := 53) d_231_51 rfl rfl ?_
  refine g_iloadn (pc' := 54) d_231_53 rfl rfl ?_
  obtain ⟨hc1, h⟩ := h
  obtain ⟨hc2, h⟩ := h
  refine gz_ic_ge (pc' := 57) (pt := 79) d_231_54 (by decide) rfl hc1 hc2 (fun c => ?_) (fun c => ?_)
  · replace h := h.1 c
    refine g_iloadn (pc' := 80) d_231_79 rfl rfl ?_
    refine g_iloadn (pc' := 81) d_231_80 rfl rfl ?_
    obtain ⟨hc3, h⟩ := h
    obtain ⟨hc4, h⟩ := h
    obtain ⟨y5, hz6, h⟩ := h
    refine gz_idiv (pc' := 82) d_231_81 rfl hc3 hc2 hc4 hz6 ?_
    exact g_iret d_231_82 rt_231 h
  · replace h := h.2 c
    refine g_iloadn (pc' := 58) d_231_57 rfl rfl ?_
    refine g_iload (pc' := 60) d_231_58 rfl rfl ?_
    refine g_iloadn (pc' := 61) d_231_60 rfl rfl ?_
    refine g_iloadn (pc' := 62) d_231_61 rfl rfl ?_
    refine g_iloadn (pc' := 63) d_231_62 rfl rfl ?_
    refine gz_imul (pc' := 64) d_231_63 rfl ?_
    obtain ⟨r10, w7, hk8, hC9, h⟩ := h
    refine g_callS (pc' := 67) d_231_64 rfl st_231_174 (Or.inl rfl) na_216 ml_216 rfl rfl rfl rm_231_216 rfl rfl hk8 ?_
    refine gz_iadd (pc' := 68) d_231_67 rfl ?_
    refine g_iloadn (pc' := 69) d_231_68 rfl rfl ?_
    refine g_iloadn (pc' := 70) d_231_69 rfl rfl ?_
    refine gz_imul (pc' := 71) d_231_70 rfl ?_
    obtain ⟨hc11, h⟩ := h
    obtain ⟨hc12, h⟩ := h
    obtain ⟨hc13, h⟩ := h
    obtain ⟨y14, hz15, h⟩ := h
    refine gz_irem (pc' := 72) d_231_71 rfl hc11 hc12 hc13 hz15 ?_
    refine g_istoren (pc' := 73) (l' := [some (.ref 39), some (.int (jI z1)), some (.int (jI z2)), some (.int (jI y14)), some (.int (jI z4))]) d_231_72 rfl ml_231 rfl rfl ?_
    refine gz_iinc (pc' := 76) (l' := [some (.ref 39), some (.int (jI z1)), some (.int (jI z2)), some (.int (jI y14)), some (.int (jI (z4 + 1)))]) d_231_73 rfl rfl ml_231 rfl rfl ?_
    refine g_goto (pt := 51) d_231_76 (by decide) ?_
    exact h
theorem Z_232_0 {z1 : Int} {z2 : Int} {w : xW} {r : Option Value × xW} (hC : CS w) (h : ∀ w2, w2 = pF w 39 0 (.int (jI 0)) → CS w2 → in32 z1 ∧ (z1 < 0 → r = (some (.int (jI (-1))), w2)) ∧ (0 ≤ z1 → ∃ (P8 : Prop) (dP9 : Decidable P8) (w5 : xW), xCall 199 [.int (jI z2), .int (jI 0), .int (jI 3)] w2 (some (.int (bz P8)), w5) ∧ CS w5 ∧ (P8 → ∃ x10, fI w5 39 12 13 x10 ∧ in32 x10 ∧ (z1 < x10 → in32 z2 ∧ (3 ≤ z2 → ∃ (P17 : Prop) (dP18 : Decidable P17) (w14 : xW), xCall 233 [.ref 39, .int (jI z1)] w5 (some (.int (bz P17)), w14) ∧ CS w14 ∧ (¬ P17 → r = (some (.int (jI 0)), w14)) ∧ (P17 → r = (some (.int (jI 1)), w14))) ∧ (z2 < 3 → 0 ≤ (3 * z1) + z2 ∧ ∃ x20, rI w5 47 ((3 * z1) + z2).toNat x20 ∧ r = (some (.int (jI x20)), w5))) ∧ (x10 ≤ z1 → r = (some (.int (jI (-2))), w5))) ∧ (¬ P8 → r = (some (.int (jI (-1))), w5)))) : xGo 232 0 [some (.ref 39), some (.int (jI z1)), some (.int (jI z2))] [] w r := by
  refine g_aloadn (pc' := 1) d_232_0 rfl rfl ?_
  refine g_iconst (pc' := 2) d_232_1 rfl rfl ?_
  have hpf1 := (kf_39_0 hC)
  have hC3 : CS (pF w 39 0 (.int (jI 0))) := ks_39_0 hC
  have h := h _ rfl hC3
  refine gz_putf (pc' := 5) d_232_2 rfl st_232_118 ft_12_0 ff_12_0 rfl (Or.inl rfl) hpf1 ?_
  refine g_iloadn (pc' := 6) d_232_5 rfl rfl ?_
  obtain ⟨hc4, h⟩ := h
  refine gz_if_lt (pc' := 9) (pt := 18) d_232_6 (by decide) rfl hc4 (fun c => ?_) (fun c => ?_)
  · replace h := h.1 c
    refine g_iconst (pc' := 19) d_232_18 rfl rfl ?_
    exact g_iret d_232_19 rt_232 h
  · replace h := h.2 c
    refine g_iloadn (pc' := 10) d_232_9 rfl rfl ?_
    refine g_iconst (pc' := 11) d_232_10 rfl rfl ?_
    refine g_iconst (pc' := 12) d_232_11 rfl rfl ?_
    obtain ⟨P8, dP9, w5, hk6, hC7, h⟩ := h
    refine g_callS (pc' := 15) d_232_12 rfl st_232_137 (Or.inl rfl) na_199 ml_199 rfl rfl rfl rm_232_199 rfl rfl hk6 ?_
    refine gz_bt_ne (pc' := 18) (pt := 20) d_232_15 (by decide) rfl (fun c => ?_) (fun c => ?_)
    · replace h := h.1 c
      refine g_iloadn (pc' := 21) d_232_20 rfl rfl ?_
      refine g_aloadn (pc' := 22) d_232_21 rfl rfl ?_
      obtain ⟨x10, hv11, h⟩ := h
      refine gz_getI (pc' := 25) d_232_22 rfl st_232_178 hv11 ?_
      obtain ⟨hc12, h⟩ := h
      refine gz_ic_lt (pc' := 28) (pt := 31) d_232_25 (by decide) rfl hc4 hc12 (fun c => ?_) (fun c => ?_)
      · replace h := h.1 c
        refine g_iloadn (pc' := 32) d_232_31 rfl rfl ?_
        refine g_iconst (pc' := 33) d_232_32 rfl rfl ?_
        obtain ⟨hc13, h⟩ := h
        refine gz_ic_ge (pc' := 36) (pt := 49) d_232_33 (by decide) rfl hc13 (s32 (z := 3)) (fun c => ?_) (fun c => ?_)
        · replace h := h.1 c
          refine g_aloadn (pc' := 50) d_232_49 rfl rfl ?_
          refine g_iloadn (pc' := 51) d_232_50 rfl rfl ?_
          obtain ⟨P17, dP18, w14, hk15, hC16, h⟩ := h
          refine gz_callV (pc' := 54) d_232_51 rfl st_232_196 na_233 ml_233 rfl rfl rfl rm_232_233 rfl rfl ow_233 (ko_39 hC7) hk15 ?_
          refine gz_bt_eq (pc' := 57) (pt := 61) d_232_54 (by decide) rfl (fun c => ?_) (fun c => ?_)
          · replace h := h.1 c
            refine g_iconst (pc' := 62) d_232_61 rfl rfl ?_
            exact g_iret d_232_62 rt_232 h
          · replace h := h.2 c
            refine g_iconst (pc' := 58) d_232_57 rfl rfl ?_
            refine g_goto (pt := 62) d_232_58 (by decide) ?_
            exact g_iret d_232_62 rt_232 h
        · replace h := h.2 c
          refine g_aloadn (pc' := 37) d_232_36 rfl rfl ?_
          refine gz_getR (pc' := 40) d_232_37 rfl st_232_36 (kr_39_12 hC7) ?_
          refine g_iconst (pc' := 41) d_232_40 rfl rfl ?_
          refine g_iloadn (pc' := 42) d_232_41 rfl rfl ?_
          refine gz_imul (pc' := 43) d_232_42 rfl ?_
          refine g_iloadn (pc' := 44) d_232_43 rfl rfl ?_
          refine gz_iadd (pc' := 45) d_232_44 rfl ?_
          obtain ⟨hc19, h⟩ := h
          obtain ⟨x20, hv21, h⟩ := h
          refine gz_iald (pc' := 46) d_232_45 rfl hc19 hv21 ?_
          refine g_goto (pt := 62) d_232_46 (by decide) ?_
          exact g_iret d_232_62 rt_232 h
      · replace h := h.2 c
        refine g_bipush (pc' := 30) (v := jI (-2)) d_232_28 rfl (by decide) ?_
        exact g_iret d_232_30 rt_232 h
    · replace h := h.2 c
      refine g_iconst (pc' := 19) d_232_18 rfl rfl ?_
      exact g_iret d_232_19 rt_232 h
theorem Z_232 {z1 : Int} {z2 : Int} {w : xW} {r : Option Value × xW} (hC : CS w) (h : ∀ w2, w2 = pF w 39 0 (.int (jI 0)) → CS w2 → in32 z1 ∧ (z1 < 0 → r = (some (.int (jI (-1))), w2)) ∧ (0 ≤ z1 → ∃ (P8 : Prop) (dP9 : Decidable P8) (w5 : xW), xCall 199 [.int (jI z2), .int (jI 0), .int (jI 3)] w2 (some (.int (bz P8)), w5) ∧ CS w5 ∧ (P8 → ∃ x10, fI w5 39 12 13 x10 ∧ in32 x10 ∧ (z1 < x10 → in32 z2 ∧ (3 ≤ z2 → ∃ (P17 : Prop) (dP18 : Decidable P17) (w14 : xW), xCall 233 [.ref 39, .int (jI z1)] w5 (some (.int (bz P17)), w14) ∧ CS w14 ∧ (¬ P17 → r = (some (.int (jI 0)), w14)) ∧ (P17 → r = (some (.int (jI 1)), w14))) ∧ (z2 < 3 → 0 ≤ (3 * z1) + z2 ∧ ∃ x20, rI w5 47 ((3 * z1) + z2).toNat x20 ∧ r = (some (.int (jI x20)), w5))) ∧ (x10 ≤ z1 → r = (some (.int (jI (-2))), w5))) ∧ (¬ P8 → r = (some (.int (jI (-1))), w5)))) : xCall 232 [.ref 39, .int (jI z1), .int (jI z2)] w r := E_232 (Z_232_0 hC h)
theorem Z_233_0 {z1 : Int} {w : xW} {r : Option Value × xW} (hC : CS w) (h : 0 ≤ 3 * z1 ∧ ∃ x2, rI w 47 (3 * z1).toNat x2 ∧ 0 ≤ (3 * z1) + 1 ∧ ∃ x5, rI w 47 ((3 * z1) + 1).toNat x5 ∧ ∃ r10 w7, xCall 214 [.ref 39, .ref 41, .int (jI x2), .int (jI x5)] w (some (.int (jI r10)), w7) ∧ CS w7 ∧ 0 ≤ (3 * z1) + 2 ∧ ∃ x12, rI w7 47 ((3 * z1) + 2).toNat x12 ∧ in32 r10 ∧ in32 x12 ∧ (r10 ≠ x12 → r = (some (.int (jI 0)), w7)) ∧ (r10 = x12 → r = (some (.int (jI 1)), w7))) : xGo 233 0 [some (.ref 39), some (.int (jI z1))] [] w r := by
  refine g_aloadn (pc' := 1) d_233_0 rfl rfl ?_
  refine g_aloadn (pc' := 2) d_233_1 rfl rfl ?_
  refine gz_getR (pc' := 5) d_233_2 rfl st_233_13 (kr_39_2 hC) ?_
  refine g_aloadn (pc' := 6) d_233_5 rfl rfl ?_
  refine gz_getR (pc' := 9) d_233_6 rfl st_233_36 (kr_39_12 hC) ?_
  refine g_iconst (pc' := 10) d_233_9 rfl rfl ?_
  refine g_iloadn (pc' := 11) d_233_10 rfl rfl ?_
  refine gz_imul (pc' := 12) d_233_11 rfl ?_
  obtain ⟨hc1, h⟩ := h
  obtain ⟨x2, hv3, h⟩ := h
  refine gz_iald (pc' := 13) d_233_12 rfl hc1 hv3 ?_
  refine g_aloadn (pc' := 14) d_233_13 rfl rfl ?_
  refine gz_getR (pc' := 17) d_233_14 rfl st_233_36 (kr_39_12 hC) ?_
  refine g_iconst (pc' := 18) d_233_17 rfl rfl ?_
  refine g_iloadn (pc' := 19) d_233_18 rfl rfl ?_
  refine gz_imul (pc' := 20) d_233_19 rfl ?_
  refine g_iconst (pc' := 21) d_233_20 rfl rfl ?_
  refine gz_iadd (pc' := 22) d_233_21 rfl ?_
  obtain ⟨hc4, h⟩ := h
  obtain ⟨x5, hv6, h⟩ := h
  refine gz_iald (pc' := 23) d_233_22 rfl hc4 hv6 ?_
  obtain ⟨r10, w7, hk8, hC9, h⟩ := h
  refine gz_callV (pc' := 26) d_233_23 rfl st_233_188 na_214 ml_214 rfl rfl rfl rm_233_214 rfl rfl ow_214 (ko_39 hC) hk8 ?_
  refine g_aloadn (pc' := 27) d_233_26 rfl rfl ?_
  refine gz_getR (pc' := 30) d_233_27 rfl st_233_36 (kr_39_12 hC9) ?_
  refine g_iconst (pc' := 31) d_233_30 rfl rfl ?_
  refine g_iloadn (pc' := 32) d_233_31 rfl rfl ?_
  refine gz_imul (pc' := 33) d_233_32 rfl ?_
  refine g_iconst (pc' := 34) d_233_33 rfl rfl ?_
  refine gz_iadd (pc' := 35) d_233_34 rfl ?_
  obtain ⟨hc11, h⟩ := h
  obtain ⟨x12, hv13, h⟩ := h
  refine gz_iald (pc' := 36) d_233_35 rfl hc11 hv13 ?_
  obtain ⟨hc14, h⟩ := h
  obtain ⟨hc15, h⟩ := h
  refine gz_ic_ne (pc' := 39) (pt := 43) d_233_36 (by decide) rfl hc14 hc15 (fun c => ?_) (fun c => ?_)
  · replace h := h.1 c
    refine g_iconst (pc' := 44) d_233_43 rfl rfl ?_
    exact g_zret d_233_44 rt_233 (Or.inl rfl) h
  · replace h := h.2 c
    refine g_iconst (pc' := 40) d_233_39 rfl rfl ?_
    refine g_goto (pt := 44) d_233_40 (by decide) ?_
    exact g_zret d_233_44 rt_233 (Or.inr rfl) h
theorem Z_233 {z1 : Int} {w : xW} {r : Option Value × xW} (hC : CS w) (h : 0 ≤ 3 * z1 ∧ ∃ x2, rI w 47 (3 * z1).toNat x2 ∧ 0 ≤ (3 * z1) + 1 ∧ ∃ x5, rI w 47 ((3 * z1) + 1).toNat x5 ∧ ∃ r10 w7, xCall 214 [.ref 39, .ref 41, .int (jI x2), .int (jI x5)] w (some (.int (jI r10)), w7) ∧ CS w7 ∧ 0 ≤ (3 * z1) + 2 ∧ ∃ x12, rI w7 47 ((3 * z1) + 2).toNat x12 ∧ in32 r10 ∧ in32 x12 ∧ (r10 ≠ x12 → r = (some (.int (jI 0)), w7)) ∧ (r10 = x12 → r = (some (.int (jI 1)), w7))) : xCall 233 [.ref 39, .int (jI z1)] w r := E_233 (Z_233_0 hC h)
theorem Z_234_0 {z1 : Int} {z2 : Int} {w : xW} {r : Option Value × xW} (hC : CS w) (h : ∀ w2, w2 = pF w 39 0 (.int (jI 0)) → CS w2 → ∃ (P7 : Prop) (dP8 : Decidable P7) (w4 : xW), xCall 198 [.ref 39, .int (jI z1)] w2 (some (.int (bz P7)), w4) ∧ CS w4 ∧ (¬ P7 → r = (some (.int (jI (-100))), w4)) ∧ (P7 → ∃ (P12 : Prop) (dP13 : Decidable P12) (w9 : xW), xCall 228 [.ref 39, .int (jI z2)] w4 (some (.int (bz P12)), w9) ∧ CS w9 ∧ (¬ P12 → r = (some (.int (jI (-100))), w9)) ∧ (P12 → ∃ x14, fI w9 39 12 4 x14 ∧ in32 z1 ∧ in32 x14 ∧ (z1 ≤ x14 → 0 ≤ (3 * z1) + 2 ∧ ∃ x19, rL w9 41 ((3 * z1) + 2).toNat x19 ∧ ∃ r24 w21, xCall 235 [.long (jL x19), .int (jI z2)] w9 (some (.int (jI r24)), w21) ∧ CS w21 ∧ ∃ r28 w25, xCall 236 [.ref 39, .int (jI z1), .int (jI z2)] w21 (some (.int (jI r28)), w25) ∧ CS w25 ∧ in32 r28 ∧ (r28 ≠ 100 → r = (some (.int (jI (r28 - r24))), w25)) ∧ (r28 = 100 → r = (some (.int (jI 100)), w25))) ∧ (x14 < z1 → r = (some (.int (jI (-100))), w9))))) : xGo 234 0 [some (.ref 39), some (.int (jI z1)), some (.int (jI z2)), none, none] [] w r := by
  refine g_aloadn (pc' := 1) d_234_0 rfl rfl ?_
  refine g_iconst (pc' := 2) d_234_1 rfl rfl ?_
  have hpf1 := (kf_39_0 hC)
  have hC3 : CS (pF w 39 0 (.int (jI 0))) := ks_39_0 hC
  have h := h _ rfl hC3
  refine gz_putf (pc' := 5) d_234_2 rfl st_234_118 ft_12_0 ff_12_0 rfl (Or.inl rfl) hpf1 ?_
  refine g_aloadn (pc' := 6) d_234_5 rfl rfl ?_
  refine g_iloadn (pc' := 7) d_234_6 rfl rfl ?_
  obtain ⟨P7, dP8, w4, hk5, hC6, h⟩ := h
  refine gz_callV (pc' := 10) d_234_7 rfl st_234_145 na_198 ml_198 rfl rfl rfl rm_234_198 rfl rfl ow_198 (ko_39 hC3) hk5 ?_
  refine gz_bt_eq (pc' := 13) (pt := 29) d_234_10 (by decide) rfl (fun c => ?_) (fun c => ?_)
  · replace h := h.1 c
    refine g_bipush (pc' := 31) (v := jI (-100)) d_234_29 rfl (by decide) ?_
    exact g_iret d_234_31 rt_234 h
  · replace h := h.2 c
    refine g_aloadn (pc' := 14) d_234_13 rfl rfl ?_
    refine g_iloadn (pc' := 15) d_234_14 rfl rfl ?_
    obtain ⟨P12, dP13, w9, hk10, hC11, h⟩ := h
    refine gz_callV (pc' := 18) d_234_15 rfl st_234_185 na_228 ml_228 rfl rfl rfl rm_234_228 rfl rfl ow_228 (ko_39 hC6) hk10 ?_
    refine gz_bt_eq (pc' := 21) (pt := 29) d_234_18 (by decide) rfl (fun c => ?_) (fun c => ?_)
    · replace h := h.1 c
      refine g_bipush (pc' := 31) (v := jI (-100)) d_234_29 rfl (by decide) ?_
      exact g_iret d_234_31 rt_234 h
    · replace h := h.2 c
      refine g_iloadn (pc' := 22) d_234_21 rfl rfl ?_
      refine g_aloadn (pc' := 23) d_234_22 rfl rfl ?_
      obtain ⟨x14, hv15, h⟩ := h
      refine gz_getI (pc' := 26) d_234_23 rfl st_234_20 hv15 ?_
      obtain ⟨hc16, h⟩ := h
      obtain ⟨hc17, h⟩ := h
      refine gz_ic_le (pc' := 29) (pt := 32) d_234_26 (by decide) rfl hc16 hc17 (fun c => ?_) (fun c => ?_)
      · replace h := h.1 c
        refine g_aloadn (pc' := 33) d_234_32 rfl rfl ?_
        refine gz_getR (pc' := 36) d_234_33 rfl st_234_13 (kr_39_2 hC11) ?_
        refine g_iconst (pc' := 37) d_234_36 rfl rfl ?_
        refine g_iloadn (pc' := 38) d_234_37 rfl rfl ?_
        refine gz_imul (pc' := 39) d_234_38 rfl ?_
        refine g_iconst (pc' := 40) d_234_39 rfl rfl ?_
        refine gz_iadd (pc' := 41) d_234_40 rfl ?_
        obtain ⟨hc18, h⟩ := h
        obtain ⟨x19, hv20, h⟩ := h
        refine gz_lald (pc' := 42) d_234_41 rfl hc18 hv20 ?_
        refine g_iloadn (pc' := 43) d_234_42 rfl rfl ?_
        obtain ⟨r24, w21, hk22, hC23, h⟩ := h
        refine g_callS (pc' := 46) d_234_43 rfl st_234_199 (Or.inl rfl) na_235 ml_235 rfl rfl rfl rm_234_235 rfl rfl hk22 ?_
        refine g_istoren (pc' := 47) (l' := [some (.ref 39), some (.int (jI z1)), some (.int (jI z2)), some (.int (jI r24)), none]) d_234_46 rfl ml_234 rfl rfl ?_
        refine g_aloadn (pc' := 48) d_234_47 rfl rfl ?_
        refine g_iloadn (pc' := 49) d_234_48 rfl rfl ?_
        refine g_iloadn (pc' := 50) d_234_49 rfl rfl ?_
        obtain ⟨r28, w25, hk26, hC27, h⟩ := h
        refine gz_callV (pc' := 53) d_234_50 rfl st_234_202 na_236 ml_236 rfl rfl rfl rm_234_236 rfl rfl ow_236 (ko_39 hC23) hk26 ?_
        refine g_istore (pc' := 55) (l' := [some (.ref 39), some (.int (jI z1)), some (.int (jI z2)), some (.int (jI r24)), some (.int (jI r28))]) d_234_53 rfl ml_234 rfl rfl ?_
        refine g_iload (pc' := 57) d_234_55 rfl rfl ?_
        refine g_bipush (pc' := 59) (v := jI 100) d_234_57 rfl (by decide) ?_
        obtain ⟨hc29, h⟩ := h
        refine gz_ic_ne (pc' := 62) (pt := 67) d_234_59 (by decide) rfl hc29 (s32 (z := 100)) (fun c => ?_) (fun c => ?_)
        · replace h := h.1 c
          refine g_iload (pc' := 69) d_234_67 rfl rfl ?_
          refine g_iloadn (pc' := 70) d_234_69 rfl rfl ?_
          refine gz_isub (pc' := 71) d_234_70 rfl ?_
          exact g_iret d_234_71 rt_234 h
        · replace h := h.2 c
          refine g_bipush (pc' := 64) (v := jI 100) d_234_62 rfl (by decide) ?_
          refine g_goto (pt := 71) d_234_64 (by decide) ?_
          exact g_iret d_234_71 rt_234 h
      · replace h := h.2 c
        refine g_bipush (pc' := 31) (v := jI (-100)) d_234_29 rfl (by decide) ?_
        exact g_iret d_234_31 rt_234 h
theorem Z_234 {z1 : Int} {z2 : Int} {w : xW} {r : Option Value × xW} (hC : CS w) (h : ∀ w2, w2 = pF w 39 0 (.int (jI 0)) → CS w2 → ∃ (P7 : Prop) (dP8 : Decidable P7) (w4 : xW), xCall 198 [.ref 39, .int (jI z1)] w2 (some (.int (bz P7)), w4) ∧ CS w4 ∧ (¬ P7 → r = (some (.int (jI (-100))), w4)) ∧ (P7 → ∃ (P12 : Prop) (dP13 : Decidable P12) (w9 : xW), xCall 228 [.ref 39, .int (jI z2)] w4 (some (.int (bz P12)), w9) ∧ CS w9 ∧ (¬ P12 → r = (some (.int (jI (-100))), w9)) ∧ (P12 → ∃ x14, fI w9 39 12 4 x14 ∧ in32 z1 ∧ in32 x14 ∧ (z1 ≤ x14 → 0 ≤ (3 * z1) + 2 ∧ ∃ x19, rL w9 41 ((3 * z1) + 2).toNat x19 ∧ ∃ r24 w21, xCall 235 [.long (jL x19), .int (jI z2)] w9 (some (.int (jI r24)), w21) ∧ CS w21 ∧ ∃ r28 w25, xCall 236 [.ref 39, .int (jI z1), .int (jI z2)] w21 (some (.int (jI r28)), w25) ∧ CS w25 ∧ in32 r28 ∧ (r28 ≠ 100 → r = (some (.int (jI (r28 - r24))), w25)) ∧ (r28 = 100 → r = (some (.int (jI 100)), w25))) ∧ (x14 < z1 → r = (some (.int (jI (-100))), w9))))) : xCall 234 [.ref 39, .int (jI z1), .int (jI z2)] w r := E_234 (Z_234_0 hC h)
theorem Z_235_0 {z0 : Int} {z2 : Int} {w : xW} {r : Option Value × xW} (hC : CS w) (h : xGo 235 5 [some (.long (jL z0)), none, some (.int (jI z2)), some (.int (jI 0)), some (.long (jL z0)), none] [] w r) : xGo 235 0 [some (.long (jL z0)), none, some (.int (jI z2)), none, none, none] [] w r := by
  refine g_iconst (pc' := 1) d_235_0 rfl rfl ?_
  refine g_istoren (pc' := 2) (l' := [some (.long (jL z0)), none, some (.int (jI z2)), some (.int (jI 0)), none, none]) d_235_1 rfl ml_235 rfl rfl ?_
  refine g_lloadn (pc' := 3) d_235_2 rfl rfl ?_
  refine g_lstore (pc' := 5) (l' := [some (.long (jL z0)), none, some (.int (jI z2)), some (.int (jI 0)), some (.long (jL z0)), none]) d_235_3 rfl ml_235 rfl rfl ?_
  exact h
theorem Z_235 {z0 : Int} {z2 : Int} {w : xW} {r : Option Value × xW} (hC : CS w) (h : xGo 235 5 [some (.long (jL z0)), none, some (.int (jI z2)), some (.int (jI 0)), some (.long (jL z0)), none] [] w r) : xCall 235 [.long (jL z0), .int (jI z2)] w r := E_235 (Z_235_0 hC h)
theorem Z_235_5 {z0 : Int} {z2 : Int} {z3 : Int} {z4 : Int} {w : xW} {r : Option Value × xW} (hC : CS w) (h : in32 z2 ∧ in64 z4 ∧ z2 ≠ 0 ∧ ∃ y4, Int.tmod z4 z2 = y4 ∧ in64 y4 ∧ (y4 ≠ 0 → r = (some (.int (jI z3)), w)) ∧ (y4 = 0 → z2 ≠ 0 ∧ ∃ y8, Int.tdiv z4 z2 = y8 ∧ xGo 235 5 [some (.long (jL z0)), none, some (.int (jI z2)), some (.int (jI (z3 + 1))), some (.long (jL y8)), none] [] w r)) : xGo 235 5 [some (.long (jL z0)), none, some (.int (jI z2)), some (.int (jI z3)), some (.long (jL z4)), none] [] w r := by
  refine g_lload (pc' := 7) d_235_5 rfl rfl ?_
  refine g_iloadn (pc' := 8) d_235_7 rfl rfl ?_
  obtain ⟨hc1, h⟩ := h
  refine gz_i2l (pc' := 9) d_235_8 rfl hc1 ?_
  obtain ⟨hc2, h⟩ := h
  obtain ⟨hc3, h⟩ := h
  obtain ⟨y4, hz5, h⟩ := h
  refine gz_lrem (pc' := 10) d_235_9 rfl hc2 (in3264 hc1) hc3 hz5 ?_
  refine g_lconst (pc' := 11) (v := jL 0) d_235_10 rfl cl_0 ?_
  obtain ⟨hc6, h⟩ := h
  refine gz_lc_ne (pc' := 15) (pm := 12) (pt := 28) d_235_11 rfl d_235_12 (by decide) rfl hc6 (s64 (z := 0)) (fun c => ?_) (fun c => ?_)
  · replace h := h.1 c
    refine g_iloadn (pc' := 29) d_235_28 rfl rfl ?_
    exact g_iret d_235_29 rt_235 h
  · replace h := h.2 c
    refine gz_iinc (pc' := 18) (l' := [some (.long (jL z0)), none, some (.int (jI z2)), some (.int (jI (z3 + 1))), some (.long (jL z4)), none]) d_235_15 rfl rfl ml_235 rfl rfl ?_
    refine g_lload (pc' := 20) d_235_18 rfl rfl ?_
    refine g_iloadn (pc' := 21) d_235_20 rfl rfl ?_
    refine gz_i2l (pc' := 22) d_235_21 rfl hc1 ?_
    obtain ⟨hc7, h⟩ := h
    obtain ⟨y8, hz9, h⟩ := h
    refine gz_ldiv (pc' := 23) d_235_22 rfl hc2 (in3264 hc1) hc7 hz9 ?_
    refine g_lstore (pc' := 25) (l' := [some (.long (jL z0)), none, some (.int (jI z2)), some (.int (jI (z3 + 1))), some (.long (jL y8)), none]) d_235_23 rfl ml_235 rfl rfl ?_
    refine g_goto (pt := 5) d_235_25 (by decide) ?_
    exact h
theorem Z_236_0 {z1 : Int} {z2 : Int} {w : xW} {r : Option Value × xW} (hC : CS w) (h : 0 ≤ 3 * z1 ∧ ∃ x2, rL w 41 (3 * z1).toNat x2 ∧ 0 ≤ (3 * z1) + 2 ∧ ∃ x5, rL w 41 ((3 * z1) + 2).toNat x5 ∧ 0 ≤ (3 * z1) + 1 ∧ ∃ x8, rL w 41 ((3 * z1) + 1).toNat x8 ∧ in64 x2 ∧ (x2 ≠ 0 → xGo 236 52 [some (.ref 39), some (.int (jI z1)), some (.int (jI z2)), some (.long (jL x2)), none, some (.long (jL x5)), none, some (.long (jL x8)), none, some (.int (jI 0)), none, none, none, none, none, none] [] w r) ∧ (x2 = 0 → in64 x8 ∧ (x8 ≠ 0 → xGo 236 52 [some (.ref 39), some (.int (jI z1)), some (.int (jI z2)), some (.long (jL x2)), none, some (.long (jL x5)), none, some (.long (jL x8)), none, some (.int (jI 0)), none, none, none, none, none, none] [] w r) ∧ (x8 = 0 → r = (some (.int (jI 100)), w)))) : xGo 236 0 [some (.ref 39), some (.int (jI z1)), some (.int (jI z2)), none, none, none, none, none, none, none, none, none, none, none, none, none] [] w r := by
  refine g_aloadn (pc' := 1) d_236_0 rfl rfl ?_
  refine gz_getR (pc' := 4) d_236_1 rfl st_236_13 (kr_39_2 hC) ?_
  refine g_iconst (pc' := 5) d_236_4 rfl rfl ?_
  refine g_iloadn (pc' := 6) d_236_5 rfl rfl ?_
  refine gz_imul (pc' := 7) d_236_6 rfl ?_
  obtain ⟨hc1, h⟩ := h
  obtain ⟨x2, hv3, h⟩ := h
  refine gz_lald (pc' := 8) d_236_7 rfl hc1 hv3 ?_
  refine g_lstoren (pc' := 9) (l' := [some (.ref 39), some (.int (jI z1)), some (.int (jI z2)), some (.long (jL x2)), none, none, none, none, none, none, none, none, none, none, none, none]) d_236_8 rfl ml_236 rfl rfl ?_
  refine g_aloadn (pc' := 10) d_236_9 rfl rfl ?_
  refine gz_getR (pc' := 13) d_236_10 rfl st_236_13 (kr_39_2 hC) ?_
  refine g_iconst (pc' := 14) d_236_13 rfl rfl ?_
  refine g_iloadn (pc' := 15) d_236_14 rfl rfl ?_
  refine gz_imul (pc' := 16) d_236_15 rfl ?_
  refine g_iconst (pc' := 17) d_236_16 rfl rfl ?_
  refine gz_iadd (pc' := 18) d_236_17 rfl ?_
  obtain ⟨hc4, h⟩ := h
  obtain ⟨x5, hv6, h⟩ := h
  refine gz_lald (pc' := 19) d_236_18 rfl hc4 hv6 ?_
  refine g_lstore (pc' := 21) (l' := [some (.ref 39), some (.int (jI z1)), some (.int (jI z2)), some (.long (jL x2)), none, some (.long (jL x5)), none, none, none, none, none, none, none, none, none, none]) d_236_19 rfl ml_236 rfl rfl ?_
  refine g_aloadn (pc' := 22) d_236_21 rfl rfl ?_
  refine gz_getR (pc' := 25) d_236_22 rfl st_236_13 (kr_39_2 hC) ?_
  refine g_iconst (pc' := 26) d_236_25 rfl rfl ?_
  refine g_iloadn (pc' := 27) d_236_26 rfl rfl ?_
  refine gz_imul (pc' := 28) d_236_27 rfl ?_
  refine g_iconst (pc' := 29) d_236_28 rfl rfl ?_
  refine gz_iadd (pc' := 30) d_236_29 rfl ?_
  obtain ⟨hc7, h⟩ := h
  obtain ⟨x8, hv9, h⟩ := h
  refine gz_lald (pc' := 31) d_236_30 rfl hc7 hv9 ?_
  refine g_lstore (pc' := 33) (l' := [some (.ref 39), some (.int (jI z1)), some (.int (jI z2)), some (.long (jL x2)), none, some (.long (jL x5)), none, some (.long (jL x8)), none, none, none, none, none, none, none, none]) d_236_31 rfl ml_236 rfl rfl ?_
  refine g_lloadn (pc' := 34) d_236_33 rfl rfl ?_
  refine g_lconst (pc' := 35) (v := jL 0) d_236_34 rfl cl_0 ?_
  obtain ⟨hc10, h⟩ := h
  refine gz_lc_ne (pc' := 39) (pm := 36) (pt := 49) d_236_35 rfl d_236_36 (by decide) rfl hc10 (s64 (z := 0)) (fun c => ?_) (fun c => ?_)
  · replace h := h.1 c
    refine g_iconst (pc' := 50) d_236_49 rfl rfl ?_
    refine g_istore (pc' := 52) (l' := [some (.ref 39), some (.int (jI z1)), some (.int (jI z2)), some (.long (jL x2)), none, some (.long (jL x5)), none, some (.long (jL x8)), none, some (.int (jI 0)), none, none, none, none, none, none]) d_236_50 rfl ml_236 rfl rfl ?_
    exact h
  · replace h := h.2 c
    refine g_lload (pc' := 41) d_236_39 rfl rfl ?_
    refine g_lconst (pc' := 42) (v := jL 0) d_236_41 rfl cl_0 ?_
    obtain ⟨hc11, h⟩ := h
    refine gz_lc_ne (pc' := 46) (pm := 43) (pt := 49) d_236_42 rfl d_236_43 (by decide) rfl hc11 (s64 (z := 0)) (fun c => ?_) (fun c => ?_)
    · replace h := h.1 c
      refine g_iconst (pc' := 50) d_236_49 rfl rfl ?_
      refine g_istore (pc' := 52) (l' := [some (.ref 39), some (.int (jI z1)), some (.int (jI z2)), some (.long (jL x2)), none, some (.long (jL x5)), none, some (.long (jL x8)), none, some (.int (jI 0)), none, none, none, none, none, none]) d_236_50 rfl ml_236 rfl rfl ?_
      exact h
    · replace h := h.2 c
      refine g_bipush (pc' := 48) (v := jI 100) d_236_46 rfl (by decide) ?_
      exact g_iret d_236_48 rt_236 h
theorem Z_236 {z1 : Int} {z2 : Int} {w : xW} {r : Option Value × xW} (hC : CS w) (h : 0 ≤ 3 * z1 ∧ ∃ x2, rL w 41 (3 * z1).toNat x2 ∧ 0 ≤ (3 * z1) + 2 ∧ ∃ x5, rL w 41 ((3 * z1) + 2).toNat x5 ∧ 0 ≤ (3 * z1) + 1 ∧ ∃ x8, rL w 41 ((3 * z1) + 1).toNat x8 ∧ in64 x2 ∧ (x2 ≠ 0 → xGo 236 52 [some (.ref 39), some (.int (jI z1)), some (.int (jI z2)), some (.long (jL x2)), none, some (.long (jL x5)), none, some (.long (jL x8)), none, some (.int (jI 0)), none, none, none, none, none, none] [] w r) ∧ (x2 = 0 → in64 x8 ∧ (x8 ≠ 0 → xGo 236 52 [some (.ref 39), some (.int (jI z1)), some (.int (jI z2)), some (.long (jL x2)), none, some (.long (jL x5)), none, some (.long (jL x8)), none, some (.int (jI 0)), none, none, none, none, none, none] [] w r) ∧ (x8 = 0 → r = (some (.int (jI 100)), w)))) : xCall 236 [.ref 39, .int (jI z1), .int (jI z2)] w r := E_236 (Z_236_0 hC h)
theorem Z_236_52 {z1 : Int} {z2 : Int} {z3 : Int} {z5 : Int} {z7 : Int} {z9 : Int} {w : xW} {r : Option Value × xW} (hC : CS w) (h : in32 z2 ∧ in64 z3 ∧ z2 ≠ 0 ∧ ∃ y4, Int.tdiv z3 z2 = y4 ∧ in64 (((z3 - (y4 * z2)) * z5) + z7) ∧ z2 ≠ 0 ∧ ∃ y8, Int.tmod (((z3 - (y4 * z2)) * z5) + z7) z2 = y8 ∧ in64 y8 ∧ (y8 = 0 → z2 ≠ 0 ∧ ∃ y12, Int.tdiv (((z3 - (y4 * z2)) * z5) + z7) z2 = y12 ∧ xGo 236 52 [some (.ref 39), some (.int (jI z1)), some (.int (jI z2)), some (.long (jL y4)), none, some (.long (jL z5)), none, some (.long (jL y12)), none, some (.int (jI (z9 + 1))), none, none, none, none, none, none] [] w r) ∧ (y8 ≠ 0 → r = (some (.int (jI z9)), w))) : xGo 236 52 [some (.ref 39), some (.int (jI z1)), some (.int (jI z2)), some (.long (jL z3)), none, some (.long (jL z5)), none, some (.long (jL z7)), none, some (.int (jI z9)), none, none, none, none, none, none] [] w r := by
  refine g_lloadn (pc' := 53) d_236_52 rfl rfl ?_
  refine g_iloadn (pc' := 54) d_236_53 rfl rfl ?_
  obtain ⟨hc1, h⟩ := h
  refine gz_i2l (pc' := 55) d_236_54 rfl hc1 ?_
  obtain ⟨hc2, h⟩ := h
  obtain ⟨hc3, h⟩ := h
  obtain ⟨y4, hz5, h⟩ := h
  refine gz_ldiv (pc' := 56) d_236_55 rfl hc2 (in3264 hc1) hc3 hz5 ?_
  refine g_lstore (pc' := 58) (l' := [some (.ref 39), some (.int (jI z1)), some (.int (jI z2)), some (.long (jL z3)), none, some (.long (jL z5)), none, some (.long (jL z7)), none, some (.int (jI z9)), some (.long (jL y4)), none, none, none, none, none]) d_236_56 rfl ml_236 rfl rfl ?_
  refine g_lloadn (pc' := 59) d_236_58 rfl rfl ?_
  refine g_lload (pc' := 61) d_236_59 rfl rfl ?_
  refine g_iloadn (pc' := 62) d_236_61 rfl rfl ?_
  refine gz_i2l (pc' := 63) d_236_62 rfl hc1 ?_
  refine gz_lmul (pc' := 64) d_236_63 rfl ?_
  refine gz_lsub (pc' := 65) d_236_64 rfl ?_
  refine g_lstore (pc' := 67) (l' := [some (.ref 39), some (.int (jI z1)), some (.int (jI z2)), some (.long (jL z3)), none, some (.long (jL z5)), none, some (.long (jL z7)), none, some (.int (jI z9)), some (.long (jL y4)), none, some (.long (jL (z3 - (y4 * z2)))), none, none, none]) d_236_65 rfl ml_236 rfl rfl ?_
  refine g_lload (pc' := 69) d_236_67 rfl rfl ?_
  refine g_lload (pc' := 71) d_236_69 rfl rfl ?_
  refine gz_lmul (pc' := 72) d_236_71 rfl ?_
  refine g_lload (pc' := 74) d_236_72 rfl rfl ?_
  refine gz_ladd (pc' := 75) d_236_74 rfl ?_
  refine g_lstore (pc' := 77) (l' := [some (.ref 39), some (.int (jI z1)), some (.int (jI z2)), some (.long (jL z3)), none, some (.long (jL z5)), none, some (.long (jL z7)), none, some (.int (jI z9)), some (.long (jL y4)), none, some (.long (jL (z3 - (y4 * z2)))), none, some (.long (jL (((z3 - (y4 * z2)) * z5) + z7))), none]) d_236_75 rfl ml_236 rfl rfl ?_
  refine g_lload (pc' := 79) d_236_77 rfl rfl ?_
  refine g_iloadn (pc' := 80) d_236_79 rfl rfl ?_
  refine gz_i2l (pc' := 81) d_236_80 rfl hc1 ?_
  obtain ⟨hc6, h⟩ := h
  obtain ⟨hc7, h⟩ := h
  obtain ⟨y8, hz9, h⟩ := h
  refine gz_lrem (pc' := 82) d_236_81 rfl hc6 (in3264 hc1) hc7 hz9 ?_
  refine g_lconst (pc' := 83) (v := jL 0) d_236_82 rfl cl_0 ?_
  obtain ⟨hc10, h⟩ := h
  refine gz_lc_eq (pc' := 87) (pm := 84) (pt := 90) d_236_83 rfl d_236_84 (by decide) rfl hc10 (s64 (z := 0)) (fun c => ?_) (fun c => ?_)
  · replace h := h.1 c
    refine g_lload (pc' := 92) d_236_90 rfl rfl ?_
    refine g_lstoren (pc' := 93) (l' := [some (.ref 39), some (.int (jI z1)), some (.int (jI z2)), some (.long (jL y4)), none, some (.long (jL z5)), none, some (.long (jL z7)), none, some (.int (jI z9)), some (.long (jL y4)), none, some (.long (jL (z3 - (y4 * z2)))), none, some (.long (jL (((z3 - (y4 * z2)) * z5) + z7))), none]) d_236_92 rfl ml_236 rfl rfl ?_
    refine g_lload (pc' := 95) d_236_93 rfl rfl ?_
    refine g_iloadn (pc' := 96) d_236_95 rfl rfl ?_
    refine gz_i2l (pc' := 97) d_236_96 rfl hc1 ?_
    obtain ⟨hc11, h⟩ := h
    obtain ⟨y12, hz13, h⟩ := h
    refine gz_ldiv (pc' := 98) d_236_97 rfl hc6 (in3264 hc1) hc11 hz13 ?_
    refine g_lstore (pc' := 100) (l' := [some (.ref 39), some (.int (jI z1)), some (.int (jI z2)), some (.long (jL y4)), none, some (.long (jL z5)), none, some (.long (jL y12)), none, some (.int (jI z9)), some (.long (jL y4)), none, some (.long (jL (z3 - (y4 * z2)))), none, some (.long (jL (((z3 - (y4 * z2)) * z5) + z7))), none]) d_236_98 rfl ml_236 rfl rfl ?_
    refine gz_iinc (pc' := 103) (l' := [some (.ref 39), some (.int (jI z1)), some (.int (jI z2)), some (.long (jL y4)), none, some (.long (jL z5)), none, some (.long (jL y12)), none, some (.int (jI (z9 + 1))), some (.long (jL y4)), none, some (.long (jL (z3 - (y4 * z2)))), none, some (.long (jL (((z3 - (y4 * z2)) * z5) + z7))), none]) d_236_100 rfl rfl ml_236 rfl rfl ?_
    refine g_goto (pt := 52) d_236_103 (by decide) ?_
    exact xGo.more (xle_s (xle_s (xle_s (xle_s (xle_n (xle_s (xle_n (xle_s (xle_n (xle_s (xle_n (xle_n (xle_n (xle_n (xle_n (xle_n xle_0)))))))))))))))) h
  · replace h := h.2 c
    refine g_iload (pc' := 89) d_236_87 rfl rfl ?_
    exact g_iret d_236_89 rt_236 h
