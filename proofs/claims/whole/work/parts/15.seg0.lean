/-! segments of methods, laid by wip/whole/wp.py -/
-- 0 BernoulliWays.<init>()V
theorem S_0_0 {a0 : Nat} {w : xW} {r : Option Value × xW} (h : (¬ xP ≤ w.length + 1) ∧ ∀ b3 w2, b3 = w.length → w2 = w ++ [.inr (1, xvs.getD 1 [])] → ∃ w4, xCall 1 [.ref b3] w2 (none, w4) ∧ ∃ fs6, w4[a0]? = some (.inr (0, fs6)) ∧ (0 < fs6.length) ∧ ∀ w9, w9 = w4.set a0 (.inr (0, fs6.set 0 (.ref b3))) → (¬ xP ≤ w9.length + 1) ∧ ∀ b12 w11, b12 = w9.length → w11 = w9 ++ [.inr (2, xvs.getD 2 [])] → ∃ w13, xCall 2 [.ref b12] w11 (none, w13) ∧ ∃ fs15, w13[a0]? = some (.inr (0, fs15)) ∧ (1 < fs15.length) ∧ ∀ w18, w18 = w13.set a0 (.inr (0, fs15.set 1 (.ref b12))) → (¬ xP ≤ w18.length + 1) ∧ ∀ b21 w20, b21 = w18.length → w20 = w18 ++ [.inr (3, xvs.getD 3 [])] → ∃ w22, xCall 3 [.ref b21] w20 (none, w22) ∧ ∃ fs24, w22[a0]? = some (.inr (0, fs24)) ∧ (2 < fs24.length) ∧ ∀ w27, w27 = w22.set a0 (.inr (0, fs24.set 2 (.ref b21))) → (¬ xP ≤ w27.length + 1) ∧ ∀ b30 w29, b30 = w27.length → w29 = w27 ++ [.inr (4, xvs.getD 4 [])] → ∃ w31, xCall 4 [.ref b30] w29 (none, w31) ∧ ∃ fs33, w31[a0]? = some (.inr (0, fs33)) ∧ (3 < fs33.length) ∧ ∀ w36, w36 = w31.set a0 (.inr (0, fs33.set 3 (.ref b30))) → (¬ xP ≤ w36.length + 1) ∧ ∀ b39 w38, b39 = w36.length → w38 = w36 ++ [.inr (4, xvs.getD 4 [])] → ∃ w40, xCall 4 [.ref b39] w38 (none, w40) ∧ ∃ fs42, w40[a0]? = some (.inr (0, fs42)) ∧ (4 < fs42.length) ∧ ∀ w45, w45 = w40.set a0 (.inr (0, fs42.set 4 (.ref b39))) → (¬ xP ≤ w45.length + 1) ∧ ∀ b48 w47, b48 = w45.length → w47 = w45 ++ [.inr (4, xvs.getD 4 [])] → ∃ w49, xCall 4 [.ref b48] w47 (none, w49) ∧ ∃ fs51, w49[a0]? = some (.inr (0, fs51)) ∧ (5 < fs51.length) ∧ ∀ w54, w54 = w49.set a0 (.inr (0, fs51.set 5 (.ref b48))) → (¬ ((39 : Int32) < 0 ∨ 1000000 < (39 : Int32).toNatClampNeg ∨ xP ≤ w54.length + 1)) ∧ ∀ b57 w56, b57 = w54.length → w56 = w54 ++ [.inl (.inl ((39 : Int32).toNatClampNeg, fun _ => 0))] → ∃ fs58, w56[a0]? = some (.inr (0, fs58)) ∧ (6 < fs58.length) ∧ ∀ w61, w61 = w56.set a0 (.inr (0, fs58.set 6 (.ref b57))) → (7 < (fs58.set 6 (.ref b57)).length) ∧ ∀ w63, w63 = w61.set a0 (.inr (0, (fs58.set 6 (.ref b57)).set 7 (.int (-1 : Int32)))) → (¬ xP ≤ w63.length + 1) ∧ ∀ b66 w65, b66 = w63.length → w65 = w63 ++ [.inr (6, xvs.getD 6 [])] → ∃ fs67, w65[a0]? = some (.inr (0, fs67)) ∧ ∃ b69, fs67[4]? = some (.ref b69) ∧ ∃ b71, fs67[0]? = some (.ref b71) ∧ ∃ b73, fs67[1]? = some (.ref b73) ∧ ∃ w75, xCall 7 [.ref b66, .ref b69, .ref b71, .ref b73] w65 (none, w75) ∧ ∃ fs77, w75[a0]? = some (.inr (0, fs77)) ∧ (8 < fs77.length) ∧ ∀ w80, w80 = w75.set a0 (.inr (0, fs77.set 8 (.ref b66))) → (¬ xP ≤ w80.length + 1) ∧ ∀ b83 w82, b83 = w80.length → w82 = w80 ++ [.inr (7, xvs.getD 7 [])] → ∃ w84, xCall 8 [.ref b83] w82 (none, w84) ∧ ∃ fs86, w84[a0]? = some (.inr (0, fs86)) ∧ (9 < fs86.length) ∧ ∀ w89, w89 = w84.set a0 (.inr (0, fs86.set 9 (.ref b83))) → (¬ xP ≤ w89.length + 1) ∧ ∀ b92 w91, b92 = w89.length → w91 = w89 ++ [.inr (8, xvs.getD 8 [])] → ∃ w93, xCall 9 [.ref b92] w91 (none, w93) ∧ ∃ fs95, w93[a0]? = some (.inr (0, fs95)) ∧ (10 < fs95.length) ∧ ∀ w98, w98 = w93.set a0 (.inr (0, fs95.set 10 (.ref b92))) → (¬ xP ≤ w98.length + 1) ∧ ∀ b101 w100, b101 = w98.length → w100 = w98 ++ [.inr (9, xvs.getD 9 [])] → ∃ fs102, w100[a0]? = some (.inr (0, fs102)) ∧ ∃ b104, fs102[10]? = some (.ref b104) ∧ ∃ w106, xCall 10 [.ref b101, .ref b104] w100 (none, w106) ∧ ∃ fs108, w106[a0]? = some (.inr (0, fs108)) ∧ (11 < fs108.length) ∧ ∀ w111, w111 = w106.set a0 (.inr (0, fs108.set 11 (.ref b101))) → (¬ xP ≤ w111.length + 1) ∧ ∀ b114 w113, b114 = w111.length → w113 = w111 ++ [.inr (10, xvs.getD 10 [])] → ∃ w115, xCall 11 [.ref b114] w113 (none, w115) ∧ ∃ fs117, w115[a0]? = some (.inr (0, fs117)) ∧ (12 < fs117.length) ∧ ∀ w120, w120 = w115.set a0 (.inr (0, fs117.set 12 (.ref b114))) → (¬ xP ≤ w120.length + 1) ∧ ∀ b123 w122, b123 = w120.length → w122 = w120 ++ [.inr (5, xvs.getD 5 [])] → ∃ w124, xCall 5 [.ref b123] w122 (none, w124) ∧ ∃ fs126, w124[a0]? = some (.inr (0, fs126)) ∧ (13 < fs126.length) ∧ ∀ w129, w129 = w124.set a0 (.inr (0, fs126.set 13 (.ref b123))) → (¬ ((40 : Int32) < 0 ∨ 1000000 < (40 : Int32).toNatClampNeg ∨ xP ≤ w129.length + 1)) ∧ ∀ b132 w131, b132 = w129.length → w131 = w129 ++ [.inl (.inr ((40 : Int32).toNatClampNeg, fun _ => 0))] → ∃ fs133, w131[a0]? = some (.inr (0, fs133)) ∧ (14 < fs133.length) ∧ ∀ w136, w136 = w131.set a0 (.inr (0, fs133.set 14 (.ref b132))) → (¬ ((40 : Int32) < 0 ∨ 1000000 < (40 : Int32).toNatClampNeg ∨ xP ≤ w136.length + 1)) ∧ ∀ b139 w138, b139 = w136.length → w138 = w136 ++ [.inl (.inr ((40 : Int32).toNatClampNeg, fun _ => 0))] → ∃ fs140, w138[a0]? = some (.inr (0, fs140)) ∧ (15 < fs140.length) ∧ ∀ w143, w143 = w138.set a0 (.inr (0, fs140.set 15 (.ref b139))) → ∃ b144, (fs140.set 15 (.ref b139))[2]? = some (.ref b144) ∧ ∃ fs146, w143[b144]? = some (.inr (3, fs146)) ∧ ∃ w148, xCall 12 [.ref b144, .int (38 : Int32)] w143 (none, w148) ∧ xGo 0 192 [some (.ref a0), some (.int (0 : Int32))] [] w148 r) : xGo 0 0 [some (.ref a0), none] [] w r := by
  refine g_aloadn (pc' := 1) d_0_0 rfl rfl ?_
  refine g_obj (pc' := 4) d_0_1 rfl st_0_5 fr_0 lo_0 rfl ?_
  refine g_aloadn (pc' := 5) d_0_4 rfl rfl ?_
  obtain ⟨hc1, h⟩ := h
  have h := h _ _ rfl rfl
  refine g_new (pc' := 8) d_0_5 rfl st_0_11 hc1 ?_
  refine g_dup (pc' := 9) d_0_8 rfl rfl ?_
  obtain ⟨w4, hk5, h⟩ := h
  refine g_callI (pc' := 12) d_0_9 rfl st_0_13 (Or.inl rfl) na_1 ml_1 rfl rfl rfl rm_0_1 rfl rfl hk5 ?_
  obtain ⟨fs6, hw7, h⟩ := h
  obtain ⟨hc8, h⟩ := h
  have h := h _ rfl
  refine g_putf (pc' := 15) d_0_12 rfl st_0_14 ft_0_0 ff_0_0 rfl (Or.inr ⟨by decide +kernel, by decide +kernel⟩) hw7 hc8 ?_
  refine g_aloadn (pc' := 16) d_0_15 rfl rfl ?_
  obtain ⟨hc10, h⟩ := h
  have h := h _ _ rfl rfl
  refine g_new (pc' := 19) d_0_16 rfl st_0_18 hc10 ?_
  refine g_dup (pc' := 20) d_0_19 rfl rfl ?_
  obtain ⟨w13, hk14, h⟩ := h
  refine g_callI (pc' := 23) d_0_20 rfl st_0_20 (Or.inr rfl) na_2 ml_2 rfl rfl rfl rm_0_2 rfl rfl hk14 ?_
  obtain ⟨fs15, hw16, h⟩ := h
  obtain ⟨hc17, h⟩ := h
  have h := h _ rfl
  refine g_putf (pc' := 26) d_0_23 rfl st_0_21 ft_0_1 ff_0_1 rfl (Or.inr ⟨by decide +kernel, by decide +kernel⟩) hw16 hc17 ?_
  refine g_aloadn (pc' := 27) d_0_26 rfl rfl ?_
  obtain ⟨hc19, h⟩ := h
  have h := h _ _ rfl rfl
  refine g_new (pc' := 30) d_0_27 rfl st_0_25 hc19 ?_
  refine g_dup (pc' := 31) d_0_30 rfl rfl ?_
  obtain ⟨w22, hk23, h⟩ := h
  refine g_callI (pc' := 34) d_0_31 rfl st_0_27 (Or.inr rfl) na_3 ml_3 rfl rfl rfl rm_0_3 rfl rfl hk23 ?_
  obtain ⟨fs24, hw25, h⟩ := h
  obtain ⟨hc26, h⟩ := h
  have h := h _ rfl
  refine g_putf (pc' := 37) d_0_34 rfl st_0_28 ft_0_2 ff_0_2 rfl (Or.inr ⟨by decide +kernel, by decide +kernel⟩) hw25 hc26 ?_
  refine g_aloadn (pc' := 38) d_0_37 rfl rfl ?_
  obtain ⟨hc28, h⟩ := h
  have h := h _ _ rfl rfl
  refine g_new (pc' := 41) d_0_38 rfl st_0_32 hc28 ?_
  refine g_dup (pc' := 42) d_0_41 rfl rfl ?_
  obtain ⟨w31, hk32, h⟩ := h
  refine g_callI (pc' := 45) d_0_42 rfl st_0_34 (Or.inl rfl) na_4 ml_4 rfl rfl rfl rm_0_4 rfl rfl hk32 ?_
  obtain ⟨fs33, hw34, h⟩ := h
  obtain ⟨hc35, h⟩ := h
  have h := h _ rfl
  refine g_putf (pc' := 48) d_0_45 rfl st_0_35 ft_0_3 ff_0_3 rfl (Or.inr ⟨by decide +kernel, by decide +kernel⟩) hw34 hc35 ?_
  refine g_aloadn (pc' := 49) d_0_48 rfl rfl ?_
  obtain ⟨hc37, h⟩ := h
  have h := h _ _ rfl rfl
  refine g_new (pc' := 52) d_0_49 rfl st_0_32 hc37 ?_
  refine g_dup (pc' := 53) d_0_52 rfl rfl ?_
  obtain ⟨w40, hk41, h⟩ := h
  refine g_callI (pc' := 56) d_0_53 rfl st_0_34 (Or.inl rfl) na_4 ml_4 rfl rfl rfl rm_0_4 rfl rfl hk41 ?_
  obtain ⟨fs42, hw43, h⟩ := h
  obtain ⟨hc44, h⟩ := h
  have h := h _ rfl
  refine g_putf (pc' := 59) d_0_56 rfl st_0_39 ft_0_4 ff_0_4 rfl (Or.inr ⟨by decide +kernel, by decide +kernel⟩) hw43 hc44 ?_
  refine g_aloadn (pc' := 60) d_0_59 rfl rfl ?_
  obtain ⟨hc46, h⟩ := h
  have h := h _ _ rfl rfl
  refine g_new (pc' := 63) d_0_60 rfl st_0_32 hc46 ?_
  refine g_dup (pc' := 64) d_0_63 rfl rfl ?_
  obtain ⟨w49, hk50, h⟩ := h
  refine g_callI (pc' := 67) d_0_64 rfl st_0_34 (Or.inl rfl) na_4 ml_4 rfl rfl rfl rm_0_4 rfl rfl hk50 ?_
  obtain ⟨fs51, hw52, h⟩ := h
  obtain ⟨hc53, h⟩ := h
  have h := h _ rfl
  refine g_putf (pc' := 70) d_0_67 rfl st_0_42 ft_0_5 ff_0_5 rfl (Or.inr ⟨by decide +kernel, by decide +kernel⟩) hw52 hc53 ?_
  refine g_aloadn (pc' := 71) d_0_70 rfl rfl ?_
  refine g_bipush (pc' := 73) d_0_71 rfl cb_39 ?_
  obtain ⟨hc55, h⟩ := h
  have h := h _ _ rfl rfl
  refine g_newi (pc' := 75) d_0_73 rfl hc55 ?_
  obtain ⟨fs58, hw59, h⟩ := h
  obtain ⟨hc60, h⟩ := h
  have h := h _ rfl
  refine g_putf (pc' := 78) d_0_75 rfl st_0_45 ft_0_6 ff_0_6 rfl (Or.inr ⟨by decide +kernel, by decide +kernel⟩) hw59 hc60 ?_
  refine g_aloadn (pc' := 79) d_0_78 rfl rfl ?_
  refine g_iconst (pc' := 80) d_0_79 rfl ci_m1 ?_
  obtain ⟨hc62, h⟩ := h
  have h := h _ rfl
  refine g_putf (pc' := 83) d_0_80 rfl st_0_49 ft_0_7 ff_0_7 rfl (Or.inl rfl) (x_gss hw59) hc62 ?_
  refine g_aloadn (pc' := 84) d_0_83 rfl rfl ?_
  obtain ⟨hc64, h⟩ := h
  have h := h _ _ rfl rfl
  refine g_new (pc' := 87) d_0_84 rfl st_0_53 hc64 ?_
  refine g_dup (pc' := 88) d_0_87 rfl rfl ?_
  refine g_aloadn (pc' := 89) d_0_88 rfl rfl ?_
  obtain ⟨fs67, hw68, h⟩ := h
  obtain ⟨b69, hv70, h⟩ := h
  refine g_getf (pc' := 92) d_0_89 rfl st_0_39 hw68 hv70 ?_
  refine g_aloadn (pc' := 93) d_0_92 rfl rfl ?_
  obtain ⟨b71, hv72, h⟩ := h
  refine g_getf (pc' := 96) d_0_93 rfl st_0_14 hw68 hv72 ?_
  refine g_aloadn (pc' := 97) d_0_96 rfl rfl ?_
  obtain ⟨b73, hv74, h⟩ := h
  refine g_getf (pc' := 100) d_0_97 rfl st_0_21 hw68 hv74 ?_
  obtain ⟨w75, hk76, h⟩ := h
  refine g_callI (pc' := 103) d_0_100 rfl st_0_55 (Or.inl rfl) na_7 ml_7 rfl rfl rfl rm_0_7 rfl rfl hk76 ?_
  obtain ⟨fs77, hw78, h⟩ := h
  obtain ⟨hc79, h⟩ := h
  have h := h _ rfl
  refine g_putf (pc' := 106) d_0_103 rfl st_0_58 ft_0_8 ff_0_8 rfl (Or.inr ⟨by decide +kernel, by decide +kernel⟩) hw78 hc79 ?_
  refine g_aloadn (pc' := 107) d_0_106 rfl rfl ?_
  obtain ⟨hc81, h⟩ := h
  have h := h _ _ rfl rfl
  refine g_new (pc' := 110) d_0_107 rfl st_0_62 hc81 ?_
  refine g_dup (pc' := 111) d_0_110 rfl rfl ?_
  obtain ⟨w84, hk85, h⟩ := h
  refine g_callI (pc' := 114) d_0_111 rfl st_0_64 (Or.inr rfl) na_8 ml_8 rfl rfl rfl rm_0_8 rfl rfl hk85 ?_
  obtain ⟨fs86, hw87, h⟩ := h
  obtain ⟨hc88, h⟩ := h
  have h := h _ rfl
  refine g_putf (pc' := 117) d_0_114 rfl st_0_65 ft_0_9 ff_0_9 rfl (Or.inr ⟨by decide +kernel, by decide +kernel⟩) hw87 hc88 ?_
  refine g_aloadn (pc' := 118) d_0_117 rfl rfl ?_
  obtain ⟨hc90, h⟩ := h
  have h := h _ _ rfl rfl
  refine g_new (pc' := 121) d_0_118 rfl st_0_69 hc90 ?_
  refine g_dup (pc' := 122) d_0_121 rfl rfl ?_
  obtain ⟨w93, hk94, h⟩ := h
  refine g_callI (pc' := 125) d_0_122 rfl st_0_71 (Or.inr rfl) na_9 ml_9 rfl rfl rfl rm_0_9 rfl rfl hk94 ?_
  obtain ⟨fs95, hw96, h⟩ := h
  obtain ⟨hc97, h⟩ := h
  have h := h _ rfl
  refine g_putf (pc' := 128) d_0_125 rfl st_0_72 ft_0_10 ff_0_10 rfl (Or.inr ⟨by decide +kernel, by decide +kernel⟩) hw96 hc97 ?_
  refine g_aloadn (pc' := 129) d_0_128 rfl rfl ?_
  obtain ⟨hc99, h⟩ := h
  have h := h _ _ rfl rfl
  refine g_new (pc' := 132) d_0_129 rfl st_0_76 hc99 ?_
  refine g_dup (pc' := 133) d_0_132 rfl rfl ?_
  refine g_aloadn (pc' := 134) d_0_133 rfl rfl ?_
  obtain ⟨fs102, hw103, h⟩ := h
  obtain ⟨b104, hv105, h⟩ := h
  refine g_getf (pc' := 137) d_0_134 rfl st_0_72 hw103 hv105 ?_
  obtain ⟨w106, hk107, h⟩ := h
  refine g_callI (pc' := 140) d_0_137 rfl st_0_78 (Or.inl rfl) na_10 ml_10 rfl rfl rfl rm_0_10 rfl rfl hk107 ?_
  obtain ⟨fs108, hw109, h⟩ := h
  obtain ⟨hc110, h⟩ := h
  have h := h _ rfl
  refine g_putf (pc' := 143) d_0_140 rfl st_0_81 ft_0_11 ff_0_11 rfl (Or.inr ⟨by decide +kernel, by decide +kernel⟩) hw109 hc110 ?_
  refine g_aloadn (pc' := 144) d_0_143 rfl rfl ?_
  obtain ⟨hc112, h⟩ := h
  have h := h _ _ rfl rfl
  refine g_new (pc' := 147) d_0_144 rfl st_0_85 hc112 ?_
  refine g_dup (pc' := 148) d_0_147 rfl rfl ?_
  obtain ⟨w115, hk116, h⟩ := h
  refine g_callI (pc' := 151) d_0_148 rfl st_0_87 (Or.inr rfl) na_11 ml_11 rfl rfl rfl rm_0_11 rfl rfl hk116 ?_
  obtain ⟨fs117, hw118, h⟩ := h
  obtain ⟨hc119, h⟩ := h
  have h := h _ rfl
  refine g_putf (pc' := 154) d_0_151 rfl st_0_88 ft_0_12 ff_0_12 rfl (Or.inr ⟨by decide +kernel, by decide +kernel⟩) hw118 hc119 ?_
  refine g_aloadn (pc' := 155) d_0_154 rfl rfl ?_
  obtain ⟨hc121, h⟩ := h
  have h := h _ _ rfl rfl
  refine g_new (pc' := 158) d_0_155 rfl st_0_92 hc121 ?_
  refine g_dup (pc' := 159) d_0_158 rfl rfl ?_
  obtain ⟨w124, hk125, h⟩ := h
  refine g_callI (pc' := 162) d_0_159 rfl st_0_94 (Or.inr rfl) na_5 ml_5 rfl rfl rfl rm_0_5 rfl rfl hk125 ?_
  obtain ⟨fs126, hw127, h⟩ := h
  obtain ⟨hc128, h⟩ := h
  have h := h _ rfl
  refine g_putf (pc' := 165) d_0_162 rfl st_0_95 ft_0_13 ff_0_13 rfl (Or.inr ⟨by decide +kernel, by decide +kernel⟩) hw127 hc128 ?_
  refine g_aloadn (pc' := 166) d_0_165 rfl rfl ?_
  refine g_bipush (pc' := 168) d_0_166 rfl cb_40 ?_
  obtain ⟨hc130, h⟩ := h
  have h := h _ _ rfl rfl
  refine g_newl (pc' := 170) d_0_168 rfl hc130 ?_
  obtain ⟨fs133, hw134, h⟩ := h
  obtain ⟨hc135, h⟩ := h
  have h := h _ rfl
  refine g_putf (pc' := 173) d_0_170 rfl st_0_99 ft_0_14 ff_0_14 rfl (Or.inr ⟨by decide +kernel, by decide +kernel⟩) hw134 hc135 ?_
  refine g_aloadn (pc' := 174) d_0_173 rfl rfl ?_
  refine g_bipush (pc' := 176) d_0_174 rfl cb_40 ?_
  obtain ⟨hc137, h⟩ := h
  have h := h _ _ rfl rfl
  refine g_newl (pc' := 178) d_0_176 rfl hc137 ?_
  obtain ⟨fs140, hw141, h⟩ := h
  obtain ⟨hc142, h⟩ := h
  have h := h _ rfl
  refine g_putf (pc' := 181) d_0_178 rfl st_0_103 ft_0_15 ff_0_15 rfl (Or.inr ⟨by decide +kernel, by decide +kernel⟩) hw141 hc142 ?_
  refine g_aloadn (pc' := 182) d_0_181 rfl rfl ?_
  obtain ⟨b144, hv145, h⟩ := h
  refine g_getf (pc' := 185) d_0_182 rfl st_0_28 (x_gss hw141) hv145 ?_
  refine g_bipush (pc' := 187) d_0_185 rfl cb_38 ?_
  obtain ⟨fs146, hw147, h⟩ := h
  obtain ⟨w148, hk149, h⟩ := h
  refine g_callV (pc' := 190) d_0_187 rfl st_0_106 na_12 ml_12 rfl rfl rfl rm_0_12 rfl rfl ow_12 hw147 hk149 ?_
  refine g_iconst (pc' := 191) d_0_190 rfl ci_0 ?_
  refine g_istoren (pc' := 192) (l' := [some (.ref a0), some (.int (0 : Int32))]) d_0_191 rfl ml_0 rfl rfl ?_
  exact h
theorem S_0_192 {a0 : Nat} {i1 : Int32} {w : xW} {r : Option Value × xW} (h : ((38 : Int32) < i1 → r = (none, w)) ∧ (¬ ((38 : Int32) < i1) → ∃ fs1, w[a0]? = some (.inr (0, fs1)) ∧ ∃ b3, fs1[2]? = some (.ref b3) ∧ ∃ b5, fs1[13]? = some (.ref b5) ∧ ∃ fs7, w[b3]? = some (.inr (3, fs7)) ∧ ∃ w9, xCall 14 [.ref b3, .int i1, .ref b5] w (none, w9) ∧ ∃ fs11, w9[a0]? = some (.inr (0, fs11)) ∧ ∃ b13, fs11[3]? = some (.ref b13) ∧ ∃ b15, fs11[13]? = some (.ref b15) ∧ ∃ fs17, w9[b13]? = some (.inr (4, fs17)) ∧ ∃ w19, xCall 20 [.ref b13, .int i1, .ref b15] w9 (none, w19) ∧ ∃ fs21, w19[a0]? = some (.inr (0, fs21)) ∧ ∃ b23, fs21[2]? = some (.ref b23) ∧ ∃ fs25, w19[b23]? = some (.inr (3, fs25)) ∧ ∃ w27, xCall 22 [.ref b23] w19 (none, w27) ∧ ∀ v29 : Int32, v29 = i1 + (1 : Int32) → xGo 0 192 [some (.ref a0), some (.int v29)] [] w27 r)) : xGo 0 192 [some (.ref a0), some (.int i1)] [] w r := by
  refine g_iloadn (pc' := 193) d_0_192 rfl rfl ?_
  refine g_bipush (pc' := 195) d_0_193 rfl cb_38 ?_
  refine g_ic_gt (pc' := 198) (pt := 235) d_0_195 (by decide) rfl (fun c => ?_) (fun c => ?_)
  · replace h := h.1 c
    exact g_vret d_0_235 rt_0 h
  · replace h := h.2 c
    refine g_aloadn (pc' := 199) d_0_198 rfl rfl ?_
    obtain ⟨fs1, hw2, h⟩ := h
    obtain ⟨b3, hv4, h⟩ := h
    refine g_getf (pc' := 202) d_0_199 rfl st_0_28 hw2 hv4 ?_
    refine g_iloadn (pc' := 203) d_0_202 rfl rfl ?_
    refine g_aloadn (pc' := 204) d_0_203 rfl rfl ?_
    obtain ⟨b5, hv6, h⟩ := h
    refine g_getf (pc' := 207) d_0_204 rfl st_0_95 hw2 hv6 ?_
    obtain ⟨fs7, hw8, h⟩ := h
    obtain ⟨w9, hk10, h⟩ := h
    refine g_callV (pc' := 210) d_0_207 rfl st_0_110 na_14 ml_14 rfl rfl rfl rm_0_14 rfl rfl ow_14 hw8 hk10 ?_
    refine g_aloadn (pc' := 211) d_0_210 rfl rfl ?_
    obtain ⟨fs11, hw12, h⟩ := h
    obtain ⟨b13, hv14, h⟩ := h
    refine g_getf (pc' := 214) d_0_211 rfl st_0_35 hw12 hv14 ?_
    refine g_iloadn (pc' := 215) d_0_214 rfl rfl ?_
    refine g_aloadn (pc' := 216) d_0_215 rfl rfl ?_
    obtain ⟨b15, hv16, h⟩ := h
    refine g_getf (pc' := 219) d_0_216 rfl st_0_95 hw12 hv16 ?_
    obtain ⟨fs17, hw18, h⟩ := h
    obtain ⟨w19, hk20, h⟩ := h
    refine g_callV (pc' := 222) d_0_219 rfl st_0_114 na_20 ml_20 rfl rfl rfl rm_0_20 rfl rfl ow_20 hw18 hk20 ?_
    refine g_aloadn (pc' := 223) d_0_222 rfl rfl ?_
    obtain ⟨fs21, hw22, h⟩ := h
    obtain ⟨b23, hv24, h⟩ := h
    refine g_getf (pc' := 226) d_0_223 rfl st_0_28 hw22 hv24 ?_
    obtain ⟨fs25, hw26, h⟩ := h
    obtain ⟨w27, hk28, h⟩ := h
    refine g_callV (pc' := 229) d_0_226 rfl st_0_117 na_22 ml_22 rfl rfl rfl rm_0_22 rfl rfl ow_22 hw26 hk28 ?_
    have h := h _ rfl
    refine g_iinc (pc' := 232) (l' := [some (.ref a0), some (.int (i1 + (1 : Int32)))]) d_0_229 rfl rfl ci_1 ml_0 rfl rfl ?_
    refine g_goto (pt := 192) d_0_232 (by decide) ?_
    exact h
-- 1 BernoulliWays$Choose.<init>()V
theorem S_1_0 {a0 : Nat} {w : xW} {r : Option Value × xW} (h : (¬ ((1764 : Int32) < 0 ∨ 1000000 < (1764 : Int32).toNatClampNeg ∨ xP ≤ w.length + 1)) ∧ ∀ b3 w2, b3 = w.length → w2 = w ++ [.inl (.inr ((1764 : Int32).toNatClampNeg, fun _ => 0))] → ∃ fs4, w2[a0]? = some (.inr (1, fs4)) ∧ (0 < fs4.length) ∧ ∀ w7, w7 = w2.set a0 (.inr (1, fs4.set 0 (.ref b3))) → xGo 1 15 [some (.ref a0), some (.int (0 : Int32)), none, none] [] w7 r) : xGo 1 0 [some (.ref a0), none, none, none] [] w r := by
  refine g_aloadn (pc' := 1) d_1_0 rfl rfl ?_
  refine g_obj (pc' := 4) d_1_1 rfl st_1_3 fr_1 lo_1 rfl ?_
  refine g_aloadn (pc' := 5) d_1_4 rfl rfl ?_
  refine g_sipush (pc' := 8) d_1_5 rfl cs_1764 ?_
  obtain ⟨hc1, h⟩ := h
  have h := h _ _ rfl rfl
  refine g_newl (pc' := 10) d_1_8 rfl hc1 ?_
  obtain ⟨fs4, hw5, h⟩ := h
  obtain ⟨hc6, h⟩ := h
  have h := h _ rfl
  refine g_putf (pc' := 13) d_1_10 rfl st_1_11 ft_1_0 ff_1_0 rfl (Or.inr ⟨by decide +kernel, by decide +kernel⟩) hw5 hc6 ?_
  refine g_iconst (pc' := 14) d_1_13 rfl ci_0 ?_
  refine g_istoren (pc' := 15) (l' := [some (.ref a0), some (.int (0 : Int32)), none, none]) d_1_14 rfl ml_1 rfl rfl ?_
  exact h
theorem S_1_15 {a0 : Nat} {i1 : Int32} {w : xW} {r : Option Value × xW} (h : ((42 : Int32) ≤ i1 → r = (none, w)) ∧ (¬ ((42 : Int32) ≤ i1) → ∃ fs1, w[a0]? = some (.inr (1, fs1)) ∧ ∃ b3, fs1[0]? = some (.ref b3) ∧ ∃ n5 f6, w[b3]? = some (.inl (.inr (n5, f6))) ∧ (¬ ((i1 * (42 : Int32)) < 0 ∨ n5 ≤ (i1 * (42 : Int32)).toNatClampNeg)) ∧ ∀ w9, w9 = w.set b3 (.inl (.inr (n5, (vp_updL f6 (i1 * (42 : Int32)).toNatClampNeg (1 : Int64))))) → xGo 1 33 [some (.ref a0), some (.int i1), some (.int (1 : Int32)), none] [] w9 r)) : xGo 1 15 [some (.ref a0), some (.int i1), none, none] [] w r := by
  refine g_iloadn (pc' := 16) d_1_15 rfl rfl ?_
  refine g_bipush (pc' := 18) d_1_16 rfl cb_42 ?_
  refine g_ic_ge (pc' := 21) (pt := 85) d_1_18 (by decide) rfl (fun c => ?_) (fun c => ?_)
  · replace h := h.1 c
    exact g_vret d_1_85 rt_1 h
  · replace h := h.2 c
    refine g_aloadn (pc' := 22) d_1_21 rfl rfl ?_
    obtain ⟨fs1, hw2, h⟩ := h
    obtain ⟨b3, hv4, h⟩ := h
    refine g_getf (pc' := 25) d_1_22 rfl st_1_11 hw2 hv4 ?_
    refine g_iloadn (pc' := 26) d_1_25 rfl rfl ?_
    refine g_bipush (pc' := 28) d_1_26 rfl cb_42 ?_
    refine g_imul (pc' := 29) d_1_28 rfl ?_
    refine g_lconst (pc' := 30) d_1_29 rfl cl_1 ?_
    obtain ⟨n5, f6, hw7, h⟩ := h
    obtain ⟨hc8, h⟩ := h
    have h := h _ rfl
    refine g_last (pc' := 31) d_1_30 rfl hw7 hc8 ?_
    refine g_iconst (pc' := 32) d_1_31 rfl ci_1 ?_
    refine g_istoren (pc' := 33) (l' := [some (.ref a0), some (.int i1), some (.int (1 : Int32)), none]) d_1_32 rfl ml_1 rfl rfl ?_
    exact h
theorem S_1_33 {a0 : Nat} {i1 : Int32} {i2 : Int32} {w : xW} {r : Option Value × xW} (h : (i1 < i2 → ∀ v1 : Int32, v1 = i1 + (1 : Int32) → xGo 1 15 [some (.ref a0), some (.int v1), none, none] [] w r) ∧ (¬ (i1 < i2) → ∀ v2 : Int32, v2 = (((i1 - (1 : Int32)) * (42 : Int32)) + i2) → ∃ fs3, w[a0]? = some (.inr (1, fs3)) ∧ ∃ b5, fs3[0]? = some (.ref b5) ∧ ∃ n7 f8, w[b5]? = some (.inl (.inr (n7, f8))) ∧ (¬ ((v2 - (1 : Int32)) < 0 ∨ n7 ≤ (v2 - (1 : Int32)).toNatClampNeg)) ∧ (¬ (v2 < 0 ∨ n7 ≤ v2.toNatClampNeg)) ∧ ∀ v12 : Int64, v12 = ((f8 (v2 - (1 : Int32)).toNatClampNeg) + (f8 v2.toNatClampNeg)) → (¬ (((i1 * (42 : Int32)) + i2) < 0 ∨ n7 ≤ ((i1 * (42 : Int32)) + i2).toNatClampNeg)) ∧ ∀ w14, w14 = w.set b5 (.inl (.inr (n7, (vp_updL f8 ((i1 * (42 : Int32)) + i2).toNatClampNeg v12)))) → ∀ v15 : Int32, v15 = i2 + (1 : Int32) → xGo 1 33 [some (.ref a0), some (.int i1), some (.int v15), none] [] w14 r)) : xGo 1 33 [some (.ref a0), some (.int i1), some (.int i2), none] [] w r := by
  refine g_iloadn (pc' := 34) d_1_33 rfl rfl ?_
  refine g_iloadn (pc' := 35) d_1_34 rfl rfl ?_
  refine g_ic_gt (pc' := 38) (pt := 79) d_1_35 (by decide) rfl (fun c => ?_) (fun c => ?_)
  · replace h := h.1 c
    have h := h _ rfl
    refine g_iinc (pc' := 82) (l' := [some (.ref a0), some (.int (i1 + (1 : Int32))), some (.int i2), none]) d_1_79 rfl rfl ci_1 ml_1 rfl rfl ?_
    refine g_goto (pt := 15) d_1_82 (by decide) ?_
    exact xGo.more (xle_s (xle_s (xle_n (xle_n xle_0)))) h
  · replace h := h.2 c
    refine g_iloadn (pc' := 39) d_1_38 rfl rfl ?_
    refine g_iconst (pc' := 40) d_1_39 rfl ci_1 ?_
    refine g_isub (pc' := 41) d_1_40 rfl ?_
    refine g_bipush (pc' := 43) d_1_41 rfl cb_42 ?_
    refine g_imul (pc' := 44) d_1_43 rfl ?_
    refine g_iloadn (pc' := 45) d_1_44 rfl rfl ?_
    refine g_iadd (pc' := 46) d_1_45 rfl ?_
    have h := h _ rfl
    refine g_istoren (pc' := 47) (l' := [some (.ref a0), some (.int i1), some (.int i2), some (.int ((((i1 - (1 : Int32)) * (42 : Int32)) + i2)))]) d_1_46 rfl ml_1 rfl rfl ?_
    refine g_aloadn (pc' := 48) d_1_47 rfl rfl ?_
    obtain ⟨fs3, hw4, h⟩ := h
    obtain ⟨b5, hv6, h⟩ := h
    refine g_getf (pc' := 51) d_1_48 rfl st_1_11 hw4 hv6 ?_
    refine g_iloadn (pc' := 52) d_1_51 rfl rfl ?_
    refine g_bipush (pc' := 54) d_1_52 rfl cb_42 ?_
    refine g_imul (pc' := 55) d_1_54 rfl ?_
    refine g_iloadn (pc' := 56) d_1_55 rfl rfl ?_
    refine g_iadd (pc' := 57) d_1_56 rfl ?_
    refine g_aloadn (pc' := 58) d_1_57 rfl rfl ?_
    refine g_getf (pc' := 61) d_1_58 rfl st_1_11 hw4 hv6 ?_
    refine g_iloadn (pc' := 62) d_1_61 rfl rfl ?_
    refine g_iconst (pc' := 63) d_1_62 rfl ci_1 ?_
    refine g_isub (pc' := 64) d_1_63 rfl ?_
    obtain ⟨n7, f8, hw9, h⟩ := h
    obtain ⟨hc10, h⟩ := h
    refine g_lald (pc' := 65) d_1_64 rfl hw9 hc10 ?_
    refine g_aloadn (pc' := 66) d_1_65 rfl rfl ?_
    refine g_getf (pc' := 69) d_1_66 rfl st_1_11 hw4 hv6 ?_
    refine g_iloadn (pc' := 70) d_1_69 rfl rfl ?_
    obtain ⟨hc11, h⟩ := h
    refine g_lald (pc' := 71) d_1_70 rfl hw9 hc11 ?_
    refine g_ladd (pc' := 72) d_1_71 rfl ?_
    have h := h _ rfl
    obtain ⟨hc13, h⟩ := h
    have h := h _ rfl
    refine g_last (pc' := 73) d_1_72 rfl hw9 hc13 ?_
    have h := h _ rfl
    refine g_iinc (pc' := 76) (l' := [some (.ref a0), some (.int i1), some (.int (i2 + (1 : Int32))), some (.int ((((i1 - (1 : Int32)) * (42 : Int32)) + i2)))]) d_1_73 rfl rfl ci_1 ml_1 rfl rfl ?_
    refine g_goto (pt := 33) d_1_76 (by decide) ?_
    exact xGo.more (xle_s (xle_s (xle_s (xle_n xle_0)))) h
-- 2 BernoulliWays$Total.<init>()V
theorem S_2_0 {a0 : Nat} {w : xW} {r : Option Value × xW} (h : ∃ fs1, w[a0]? = some (.inr (2, fs1)) ∧ (0 < fs1.length) ∧ ∀ w4, w4 = w.set a0 (.inr (2, fs1.set 0 (.long (1 : Int64)))) → r = (none, w4)) : xGo 2 0 [some (.ref a0)] [] w r := by
  refine g_aloadn (pc' := 1) d_2_0 rfl rfl ?_
  refine g_obj (pc' := 4) d_2_1 rfl st_2_1 fr_2 lo_2 rfl ?_
  refine g_aloadn (pc' := 5) d_2_4 rfl rfl ?_
  refine g_lconst (pc' := 6) d_2_5 rfl cl_1 ?_
  obtain ⟨fs1, hw2, h⟩ := h
  obtain ⟨hc3, h⟩ := h
  have h := h _ rfl
  refine g_putf (pc' := 9) d_2_6 rfl st_2_7 ft_2_0 ff_2_0 rfl (Or.inl rfl) hw2 hc3 ?_
  exact g_vret d_2_9 rt_2 h
-- 3 BernoulliWays$Triangle.<init>()V
theorem S_3_0 {a0 : Nat} {w : xW} {r : Option Value × xW} (h : (¬ ((39 : Int32) < 0 ∨ 1000000 < (39 : Int32).toNatClampNeg ∨ xP ≤ w.length + 1)) ∧ ∀ b3 w2, b3 = w.length → w2 = w ++ [.inl (.inr ((39 : Int32).toNatClampNeg, fun _ => 0))] → ∃ fs4, w2[a0]? = some (.inr (3, fs4)) ∧ (0 < fs4.length) ∧ ∀ w7, w7 = w2.set a0 (.inr (3, fs4.set 0 (.ref b3))) → (¬ ((39 : Int32) < 0 ∨ 1000000 < (39 : Int32).toNatClampNeg ∨ xP ≤ w7.length + 1)) ∧ ∀ b10 w9, b10 = w7.length → w9 = w7 ++ [.inl (.inr ((39 : Int32).toNatClampNeg, fun _ => 0))] → ∃ fs11, w9[a0]? = some (.inr (3, fs11)) ∧ (1 < fs11.length) ∧ ∀ w14, w14 = w9.set a0 (.inr (3, fs11.set 1 (.ref b10))) → r = (none, w14)) : xGo 3 0 [some (.ref a0)] [] w r := by
  refine g_aloadn (pc' := 1) d_3_0 rfl rfl ?_
  refine g_obj (pc' := 4) d_3_1 rfl st_3_3 fr_3 lo_3 rfl ?_
  refine g_aloadn (pc' := 5) d_3_4 rfl rfl ?_
  refine g_bipush (pc' := 7) d_3_5 rfl cb_39 ?_
  obtain ⟨hc1, h⟩ := h
  have h := h _ _ rfl rfl
  refine g_newl (pc' := 9) d_3_7 rfl hc1 ?_
  obtain ⟨fs4, hw5, h⟩ := h
  obtain ⟨hc6, h⟩ := h
  have h := h _ rfl
  refine g_putf (pc' := 12) d_3_9 rfl st_3_9 ft_3_0 ff_3_0 rfl (Or.inr ⟨by decide +kernel, by decide +kernel⟩) hw5 hc6 ?_
  refine g_aloadn (pc' := 13) d_3_12 rfl rfl ?_
  refine g_bipush (pc' := 15) d_3_13 rfl cb_39 ?_
  obtain ⟨hc8, h⟩ := h
  have h := h _ _ rfl rfl
  refine g_newl (pc' := 17) d_3_15 rfl hc8 ?_
  obtain ⟨fs11, hw12, h⟩ := h
  obtain ⟨hc13, h⟩ := h
  have h := h _ rfl
  refine g_putf (pc' := 20) d_3_17 rfl st_3_15 ft_3_1 ff_3_1 rfl (Or.inr ⟨by decide +kernel, by decide +kernel⟩) hw12 hc13 ?_
  exact g_vret d_3_20 rt_3 h
-- 4 BernoulliWays$Entries.<init>()V
theorem S_4_0 {a0 : Nat} {w : xW} {r : Option Value × xW} (h : (¬ ((39 : Int32) < 0 ∨ 1000000 < (39 : Int32).toNatClampNeg ∨ xP ≤ w.length + 1)) ∧ ∀ b3 w2, b3 = w.length → w2 = w ++ [.inl (.inr ((39 : Int32).toNatClampNeg, fun _ => 0))] → ∃ fs4, w2[a0]? = some (.inr (4, fs4)) ∧ (0 < fs4.length) ∧ ∀ w7, w7 = w2.set a0 (.inr (4, fs4.set 0 (.ref b3))) → (¬ ((39 : Int32) < 0 ∨ 1000000 < (39 : Int32).toNatClampNeg ∨ xP ≤ w7.length + 1)) ∧ ∀ b10 w9, b10 = w7.length → w9 = w7 ++ [.inl (.inr ((39 : Int32).toNatClampNeg, fun _ => 0))] → ∃ fs11, w9[a0]? = some (.inr (4, fs11)) ∧ (1 < fs11.length) ∧ ∀ w14, w14 = w9.set a0 (.inr (4, fs11.set 1 (.ref b10))) → (¬ ((39 : Int32) < 0 ∨ 1000000 < (39 : Int32).toNatClampNeg ∨ xP ≤ w14.length + 1)) ∧ ∀ b17 w16, b17 = w14.length → w16 = w14 ++ [.inl (.inr ((39 : Int32).toNatClampNeg, fun _ => 0))] → ∃ fs18, w16[a0]? = some (.inr (4, fs18)) ∧ (2 < fs18.length) ∧ ∀ w21, w21 = w16.set a0 (.inr (4, fs18.set 2 (.ref b17))) → (¬ xP ≤ w21.length + 1) ∧ ∀ b24 w23, b24 = w21.length → w23 = w21 ++ [.inr (5, xvs.getD 5 [])] → ∃ w25, xCall 5 [.ref b24] w23 (none, w25) ∧ ∃ fs27, w25[a0]? = some (.inr (4, fs27)) ∧ (3 < fs27.length) ∧ ∀ w30, w30 = w25.set a0 (.inr (4, fs27.set 3 (.ref b24))) → ∃ b31, (fs27.set 3 (.ref b24))[2]? = some (.ref b31) ∧ ∃ w33, xCall 6 [.ref b31, .long (1 : Int64)] w30 (none, w33) ∧ r = (none, w33)) : xGo 4 0 [some (.ref a0)] [] w r := by
  refine g_aloadn (pc' := 1) d_4_0 rfl rfl ?_
  refine g_obj (pc' := 4) d_4_1 rfl st_4_3 fr_4 lo_4 rfl ?_
  refine g_aloadn (pc' := 5) d_4_4 rfl rfl ?_
  refine g_bipush (pc' := 7) d_4_5 rfl cb_39 ?_
  obtain ⟨hc1, h⟩ := h
  have h := h _ _ rfl rfl
  refine g_newl (pc' := 9) d_4_7 rfl hc1 ?_
  obtain ⟨fs4, hw5, h⟩ := h
  obtain ⟨hc6, h⟩ := h
  have h := h _ rfl
  refine g_putf (pc' := 12) d_4_9 rfl st_4_9 ft_4_0 ff_4_0 rfl (Or.inr ⟨by decide +kernel, by decide +kernel⟩) hw5 hc6 ?_
  refine g_aloadn (pc' := 13) d_4_12 rfl rfl ?_
  refine g_bipush (pc' := 15) d_4_13 rfl cb_39 ?_
  obtain ⟨hc8, h⟩ := h
  have h := h _ _ rfl rfl
  refine g_newl (pc' := 17) d_4_15 rfl hc8 ?_
  obtain ⟨fs11, hw12, h⟩ := h
  obtain ⟨hc13, h⟩ := h
  have h := h _ rfl
  refine g_putf (pc' := 20) d_4_17 rfl st_4_15 ft_4_1 ff_4_1 rfl (Or.inr ⟨by decide +kernel, by decide +kernel⟩) hw12 hc13 ?_
  refine g_aloadn (pc' := 21) d_4_20 rfl rfl ?_
  refine g_bipush (pc' := 23) d_4_21 rfl cb_39 ?_
  obtain ⟨hc15, h⟩ := h
  have h := h _ _ rfl rfl
  refine g_newl (pc' := 25) d_4_23 rfl hc15 ?_
  obtain ⟨fs18, hw19, h⟩ := h
  obtain ⟨hc20, h⟩ := h
  have h := h _ rfl
  refine g_putf (pc' := 28) d_4_25 rfl st_4_18 ft_4_2 ff_4_2 rfl (Or.inr ⟨by decide +kernel, by decide +kernel⟩) hw19 hc20 ?_
  refine g_aloadn (pc' := 29) d_4_28 rfl rfl ?_
  obtain ⟨hc22, h⟩ := h
  have h := h _ _ rfl rfl
  refine g_new (pc' := 32) d_4_29 rfl st_4_21 hc22 ?_
  refine g_dup (pc' := 33) d_4_32 rfl rfl ?_
  obtain ⟨w25, hk26, h⟩ := h
  refine g_callI (pc' := 36) d_4_33 rfl st_4_23 (Or.inr rfl) na_5 ml_5 rfl rfl rfl rm_4_5 rfl rfl hk26 ?_
  obtain ⟨fs27, hw28, h⟩ := h
  obtain ⟨hc29, h⟩ := h
  have h := h _ rfl
  refine g_putf (pc' := 39) d_4_36 rfl st_4_24 ft_4_3 ff_4_3 rfl (Or.inr ⟨by decide +kernel, by decide +kernel⟩) hw28 hc29 ?_
  refine g_aloadn (pc' := 40) d_4_39 rfl rfl ?_
  obtain ⟨b31, hv32, h⟩ := h
  refine g_getf (pc' := 43) d_4_40 rfl st_4_18 (x_gss hw28) hv32 ?_
  refine g_lconst (pc' := 44) d_4_43 rfl cl_1 ?_
  obtain ⟨w33, hk34, h⟩ := h
  refine g_callS (pc' := 47) d_4_44 rfl st_4_28 (Or.inl rfl) na_6 ml_6 rfl rfl rfl rm_4_6 rfl rfl hk34 ?_
  exact g_vret d_4_47 rt_4 h
-- 5 BernoulliWays$Fraction.<init>()V
theorem S_5_0 {a0 : Nat} {w : xW} {r : Option Value × xW} (h : ∃ fs1, w[a0]? = some (.inr (5, fs1)) ∧ (2 < fs1.length) ∧ ∀ w4, w4 = w.set a0 (.inr (5, fs1.set 2 (.long (1 : Int64)))) → r = (none, w4)) : xGo 5 0 [some (.ref a0)] [] w r := by
  refine g_aloadn (pc' := 1) d_5_0 rfl rfl ?_
  refine g_obj (pc' := 4) d_5_1 rfl st_5_1 fr_5 lo_5 rfl ?_
  refine g_aloadn (pc' := 5) d_5_4 rfl rfl ?_
  refine g_lconst (pc' := 6) d_5_5 rfl cl_1 ?_
  obtain ⟨fs1, hw2, h⟩ := h
  obtain ⟨hc3, h⟩ := h
  have h := h _ rfl
  refine g_putf (pc' := 9) d_5_6 rfl st_5_7 ft_5_2 ff_5_2 rfl (Or.inl rfl) hw2 hc3 ?_
  exact g_vret d_5_9 rt_5 h
-- 6 java/util/Arrays.fill([JJ)V
theorem S_6_0 {a0 : Nat} {l1 : Int64} {w : xW} {r : Option Value × xW} (h : ∃ n1 f2, w[a0]? = some (.inl (.inr (n1, f2))) ∧ ∀ v4 : Int32, v4 = (Int32.ofNat n1) → xGo 6 6 [some (.ref a0), some (.long l1), none, some (.int (0 : Int32)), some (.int v4)] [] w r) : xGo 6 0 [some (.ref a0), some (.long l1), none, none, none] [] w r := by
  refine g_iconst (pc' := 1) d_6_0 rfl ci_0 ?_
  refine g_istoren (pc' := 2) (l' := [some (.ref a0), some (.long l1), none, some (.int (0 : Int32)), none]) d_6_1 rfl ml_6 rfl rfl ?_
  refine g_aloadn (pc' := 3) d_6_2 rfl rfl ?_
  obtain ⟨n1, f2, hw3, h⟩ := h
  refine g_lenl (pc' := 4) d_6_3 rfl hw3 ?_
  have h := h _ rfl
  refine g_istore (pc' := 6) (l' := [some (.ref a0), some (.long l1), none, some (.int (0 : Int32)), some (.int ((Int32.ofNat n1)))]) d_6_4 rfl ml_6 rfl rfl ?_
  exact h
theorem S_6_6 {a0 : Nat} {l1 : Int64} {i3 : Int32} {i4 : Int32} {w : xW} {r : Option Value × xW} (h : (i4 ≤ i3 → r = (none, w)) ∧ (¬ (i4 ≤ i3) → ∃ n1 f2, w[a0]? = some (.inl (.inr (n1, f2))) ∧ (¬ (i3 < 0 ∨ n1 ≤ i3.toNatClampNeg)) ∧ ∀ w5, w5 = w.set a0 (.inl (.inr (n1, (vp_updL f2 i3.toNatClampNeg l1)))) → ∀ v6 : Int32, v6 = i3 + (1 : Int32) → xGo 6 6 [some (.ref a0), some (.long l1), none, some (.int v6), some (.int i4)] [] w5 r)) : xGo 6 6 [some (.ref a0), some (.long l1), none, some (.int i3), some (.int i4)] [] w r := by
  refine g_iloadn (pc' := 7) d_6_6 rfl rfl ?_
  refine g_iload (pc' := 9) d_6_7 rfl rfl ?_
  refine g_ic_ge (pc' := 12) (pt := 22) d_6_9 (by decide) rfl (fun c => ?_) (fun c => ?_)
  · replace h := h.1 c
    exact g_vret d_6_22 rt_6 h
  · replace h := h.2 c
    refine g_aloadn (pc' := 13) d_6_12 rfl rfl ?_
    refine g_iloadn (pc' := 14) d_6_13 rfl rfl ?_
    refine g_lloadn (pc' := 15) d_6_14 rfl rfl ?_
    obtain ⟨n1, f2, hw3, h⟩ := h
    obtain ⟨hc4, h⟩ := h
    have h := h _ rfl
    refine g_last (pc' := 16) d_6_15 rfl hw3 hc4 ?_
    have h := h _ rfl
    refine g_iinc (pc' := 19) (l' := [some (.ref a0), some (.long l1), none, some (.int (i3 + (1 : Int32))), some (.int i4)]) d_6_16 rfl rfl ci_1 ml_6 rfl rfl ?_
    refine g_goto (pt := 6) d_6_19 (by decide) ?_
    exact h
-- 7 BernoulliWays$Checks.<init>(LBernoulliWays$Entries;LBernoulliWays$Choose;LBernoulliWays$Total;)V
theorem S_7_0 {a0 : Nat} {a1 : Nat} {a2 : Nat} {a3 : Nat} {w : xW} {r : Option Value × xW} (h : ∃ fs1, w[a0]? = some (.inr (6, fs1)) ∧ (0 < fs1.length) ∧ ∀ w4, w4 = w.set a0 (.inr (6, fs1.set 0 (.ref a1))) → (1 < (fs1.set 0 (.ref a1)).length) ∧ ∀ w6, w6 = w4.set a0 (.inr (6, (fs1.set 0 (.ref a1)).set 1 (.ref a2))) → (2 < ((fs1.set 0 (.ref a1)).set 1 (.ref a2)).length) ∧ ∀ w8, w8 = w6.set a0 (.inr (6, ((fs1.set 0 (.ref a1)).set 1 (.ref a2)).set 2 (.ref a3))) → r = (none, w8)) : xGo 7 0 [some (.ref a0), some (.ref a1), some (.ref a2), some (.ref a3)] [] w r := by
  refine g_aloadn (pc' := 1) d_7_0 rfl rfl ?_
  refine g_obj (pc' := 4) d_7_1 rfl st_7_3 fr_7 lo_7 rfl ?_
  refine g_aloadn (pc' := 5) d_7_4 rfl rfl ?_
  refine g_aloadn (pc' := 6) d_7_5 rfl rfl ?_
  obtain ⟨fs1, hw2, h⟩ := h
  obtain ⟨hc3, h⟩ := h
  have h := h _ rfl
  refine g_putf (pc' := 9) d_7_6 rfl st_7_9 ft_6_0 ff_6_0 rfl (Or.inr ⟨by decide +kernel, by decide +kernel⟩) hw2 hc3 ?_
  refine g_aloadn (pc' := 10) d_7_9 rfl rfl ?_
  refine g_aloadn (pc' := 11) d_7_10 rfl rfl ?_
  obtain ⟨hc5, h⟩ := h
  have h := h _ rfl
  refine g_putf (pc' := 14) d_7_11 rfl st_7_15 ft_6_1 ff_6_1 rfl (Or.inr ⟨by decide +kernel, by decide +kernel⟩) (x_gss hw2) hc5 ?_
  refine g_aloadn (pc' := 15) d_7_14 rfl rfl ?_
  refine g_aloadn (pc' := 16) d_7_15 rfl rfl ?_
  obtain ⟨hc7, h⟩ := h
  have h := h _ rfl
  refine g_putf (pc' := 19) d_7_16 rfl st_7_19 ft_6_2 ff_6_2 rfl (Or.inr ⟨by decide +kernel, by decide +kernel⟩) (x_gss (x_gss hw2)) hc7 ?_
  exact g_vret d_7_19 rt_7 h
-- 8 BernoulliWays$Memo.<init>()V
theorem S_8_0 {a0 : Nat} {w : xW} {r : Option Value × xW} (h : (¬ ((20 : Int32) < 0 ∨ 1000000 < (20 : Int32).toNatClampNeg ∨ xP ≤ w.length + 1)) ∧ ∀ b3 w2, b3 = w.length → w2 = w ++ [.inl (.inl ((20 : Int32).toNatClampNeg, fun _ => 0))] → ∃ fs4, w2[a0]? = some (.inr (7, fs4)) ∧ (0 < fs4.length) ∧ ∀ w7, w7 = w2.set a0 (.inr (7, fs4.set 0 (.ref b3))) → (¬ ((20 : Int32) < 0 ∨ 1000000 < (20 : Int32).toNatClampNeg ∨ xP ≤ w7.length + 1)) ∧ ∀ b10 w9, b10 = w7.length → w9 = w7 ++ [.inl (.inl ((20 : Int32).toNatClampNeg, fun _ => 0))] → ∃ fs11, w9[a0]? = some (.inr (7, fs11)) ∧ (1 < fs11.length) ∧ ∀ w14, w14 = w9.set a0 (.inr (7, fs11.set 1 (.ref b10))) → (¬ ((20 : Int32) < 0 ∨ 1000000 < (20 : Int32).toNatClampNeg ∨ xP ≤ w14.length + 1)) ∧ ∀ b17 w16, b17 = w14.length → w16 = w14 ++ [.inl (.inl ((20 : Int32).toNatClampNeg, fun _ => 0))] → ∃ fs18, w16[a0]? = some (.inr (7, fs18)) ∧ (2 < fs18.length) ∧ ∀ w21, w21 = w16.set a0 (.inr (7, fs18.set 2 (.ref b17))) → r = (none, w21)) : xGo 8 0 [some (.ref a0)] [] w r := by
  refine g_aloadn (pc' := 1) d_8_0 rfl rfl ?_
  refine g_obj (pc' := 4) d_8_1 rfl st_8_3 fr_8 lo_8 rfl ?_
  refine g_aloadn (pc' := 5) d_8_4 rfl rfl ?_
  refine g_bipush (pc' := 7) d_8_5 rfl cb_20 ?_
  obtain ⟨hc1, h⟩ := h
  have h := h _ _ rfl rfl
  refine g_newi (pc' := 9) d_8_7 rfl hc1 ?_
  obtain ⟨fs4, hw5, h⟩ := h
  obtain ⟨hc6, h⟩ := h
  have h := h _ rfl
  refine g_putf (pc' := 12) d_8_9 rfl st_8_11 ft_7_0 ff_7_0 rfl (Or.inr ⟨by decide +kernel, by decide +kernel⟩) hw5 hc6 ?_
  refine g_aloadn (pc' := 13) d_8_12 rfl rfl ?_
  refine g_bipush (pc' := 15) d_8_13 rfl cb_20 ?_
  obtain ⟨hc8, h⟩ := h
  have h := h _ _ rfl rfl
  refine g_newi (pc' := 17) d_8_15 rfl hc8 ?_
  obtain ⟨fs11, hw12, h⟩ := h
  obtain ⟨hc13, h⟩ := h
  have h := h _ rfl
  refine g_putf (pc' := 20) d_8_17 rfl st_8_15 ft_7_1 ff_7_1 rfl (Or.inr ⟨by decide +kernel, by decide +kernel⟩) hw12 hc13 ?_
  refine g_aloadn (pc' := 21) d_8_20 rfl rfl ?_
  refine g_bipush (pc' := 23) d_8_21 rfl cb_20 ?_
  obtain ⟨hc15, h⟩ := h
  have h := h _ _ rfl rfl
  refine g_newi (pc' := 25) d_8_23 rfl hc15 ?_
  obtain ⟨fs18, hw19, h⟩ := h
  obtain ⟨hc20, h⟩ := h
  have h := h _ rfl
  refine g_putf (pc' := 28) d_8_25 rfl st_8_18 ft_7_2 ff_7_2 rfl (Or.inr ⟨by decide +kernel, by decide +kernel⟩) hw19 hc20 ?_
  exact g_vret d_8_28 rt_8 h
-- 9 BernoulliWays$ByWays.<init>()V
theorem S_9_0 {a0 : Nat} {w : xW} {r : Option Value × xW} (h : (¬ ((200 : Int32) < 0 ∨ 1000000 < (200 : Int32).toNatClampNeg ∨ xP ≤ w.length + 1)) ∧ ∀ b3 w2, b3 = w.length → w2 = w ++ [.inl (.inr ((200 : Int32).toNatClampNeg, fun _ => 0))] → ∃ fs4, w2[a0]? = some (.inr (8, fs4)) ∧ (0 < fs4.length) ∧ ∀ w7, w7 = w2.set a0 (.inr (8, fs4.set 0 (.ref b3))) → (¬ ((200 : Int32) < 0 ∨ 1000000 < (200 : Int32).toNatClampNeg ∨ xP ≤ w7.length + 1)) ∧ ∀ b10 w9, b10 = w7.length → w9 = w7 ++ [.inl (.inr ((200 : Int32).toNatClampNeg, fun _ => 0))] → ∃ fs11, w9[a0]? = some (.inr (8, fs11)) ∧ (1 < fs11.length) ∧ ∀ w14, w14 = w9.set a0 (.inr (8, fs11.set 1 (.ref b10))) → r = (none, w14)) : xGo 9 0 [some (.ref a0)] [] w r := by
  refine g_aloadn (pc' := 1) d_9_0 rfl rfl ?_
  refine g_obj (pc' := 4) d_9_1 rfl st_9_3 fr_9 lo_9 rfl ?_
  refine g_aloadn (pc' := 5) d_9_4 rfl rfl ?_
  refine g_sipush (pc' := 8) d_9_5 rfl cs_200 ?_
  obtain ⟨hc1, h⟩ := h
  have h := h _ _ rfl rfl
  refine g_newl (pc' := 10) d_9_8 rfl hc1 ?_
  obtain ⟨fs4, hw5, h⟩ := h
  obtain ⟨hc6, h⟩ := h
  have h := h _ rfl
  refine g_putf (pc' := 13) d_9_10 rfl st_9_9 ft_8_0 ff_8_0 rfl (Or.inr ⟨by decide +kernel, by decide +kernel⟩) hw5 hc6 ?_
  refine g_aloadn (pc' := 14) d_9_13 rfl rfl ?_
  refine g_sipush (pc' := 17) d_9_14 rfl cs_200 ?_
  obtain ⟨hc8, h⟩ := h
  have h := h _ _ rfl rfl
  refine g_newl (pc' := 19) d_9_17 rfl hc8 ?_
  obtain ⟨fs11, hw12, h⟩ := h
  obtain ⟨hc13, h⟩ := h
  have h := h _ rfl
  refine g_putf (pc' := 22) d_9_19 rfl st_9_15 ft_8_1 ff_8_1 rfl (Or.inr ⟨by decide +kernel, by decide +kernel⟩) hw12 hc13 ?_
  exact g_vret d_9_22 rt_9 h
-- 10 BernoulliWays$Pairs.<init>(LBernoulliWays$ByWays;)V
theorem S_10_0 {a0 : Nat} {a1 : Nat} {w : xW} {r : Option Value × xW} (h : (¬ ((100 : Int32) < 0 ∨ 1000000 < (100 : Int32).toNatClampNeg ∨ xP ≤ w.length + 1)) ∧ ∀ b3 w2, b3 = w.length → w2 = w ++ [.inl (.inl ((100 : Int32).toNatClampNeg, fun _ => 0))] → ∃ fs4, w2[a0]? = some (.inr (9, fs4)) ∧ (1 < fs4.length) ∧ ∀ w7, w7 = w2.set a0 (.inr (9, fs4.set 1 (.ref b3))) → (¬ ((100 : Int32) < 0 ∨ 1000000 < (100 : Int32).toNatClampNeg ∨ xP ≤ w7.length + 1)) ∧ ∀ b10 w9, b10 = w7.length → w9 = w7 ++ [.inl (.inl ((100 : Int32).toNatClampNeg, fun _ => 0))] → ∃ fs11, w9[a0]? = some (.inr (9, fs11)) ∧ (2 < fs11.length) ∧ ∀ w14, w14 = w9.set a0 (.inr (9, fs11.set 2 (.ref b10))) → (4 < (fs11.set 2 (.ref b10)).length) ∧ ∀ w16, w16 = w14.set a0 (.inr (9, (fs11.set 2 (.ref b10)).set 4 (.int (1 : Int32)))) → (0 < ((fs11.set 2 (.ref b10)).set 4 (.int (1 : Int32))).length) ∧ ∀ w18, w18 = w16.set a0 (.inr (9, ((fs11.set 2 (.ref b10)).set 4 (.int (1 : Int32))).set 0 (.ref a1))) → r = (none, w18)) : xGo 10 0 [some (.ref a0), some (.ref a1)] [] w r := by
  refine g_aloadn (pc' := 1) d_10_0 rfl rfl ?_
  refine g_obj (pc' := 4) d_10_1 rfl st_10_3 fr_10 lo_10 rfl ?_
  refine g_aloadn (pc' := 5) d_10_4 rfl rfl ?_
  refine g_bipush (pc' := 7) d_10_5 rfl cb_100 ?_
  obtain ⟨hc1, h⟩ := h
  have h := h _ _ rfl rfl
  refine g_newi (pc' := 9) d_10_7 rfl hc1 ?_
  obtain ⟨fs4, hw5, h⟩ := h
  obtain ⟨hc6, h⟩ := h
  have h := h _ rfl
  refine g_putf (pc' := 12) d_10_9 rfl st_10_11 ft_9_1 ff_9_1 rfl (Or.inr ⟨by decide +kernel, by decide +kernel⟩) hw5 hc6 ?_
  refine g_aloadn (pc' := 13) d_10_12 rfl rfl ?_
  refine g_bipush (pc' := 15) d_10_13 rfl cb_100 ?_
  obtain ⟨hc8, h⟩ := h
  have h := h _ _ rfl rfl
  refine g_newi (pc' := 17) d_10_15 rfl hc8 ?_
  obtain ⟨fs11, hw12, h⟩ := h
  obtain ⟨hc13, h⟩ := h
  have h := h _ rfl
  refine g_putf (pc' := 20) d_10_17 rfl st_10_15 ft_9_2 ff_9_2 rfl (Or.inr ⟨by decide +kernel, by decide +kernel⟩) hw12 hc13 ?_
  refine g_aloadn (pc' := 21) d_10_20 rfl rfl ?_
  refine g_iconst (pc' := 22) d_10_21 rfl ci_1 ?_
  obtain ⟨hc15, h⟩ := h
  have h := h _ rfl
  refine g_putf (pc' := 25) d_10_22 rfl st_10_18 ft_9_4 ff_9_4 rfl (Or.inl rfl) (x_gss hw12) hc15 ?_
  refine g_aloadn (pc' := 26) d_10_25 rfl rfl ?_
  refine g_aloadn (pc' := 27) d_10_26 rfl rfl ?_
  obtain ⟨hc17, h⟩ := h
  have h := h _ rfl
  refine g_putf (pc' := 30) d_10_27 rfl st_10_22 ft_9_0 ff_9_0 rfl (Or.inr ⟨by decide +kernel, by decide +kernel⟩) (x_gss (x_gss hw12)) hc17 ?_
  exact g_vret d_10_30 rt_10 h
-- 11 BernoulliWays$Decimal.<init>()V
theorem S_11_0 {a0 : Nat} {w : xW} {r : Option Value × xW} (h : (¬ ((28 : Int32) < 0 ∨ 1000000 < (28 : Int32).toNatClampNeg ∨ xP ≤ w.length + 1)) ∧ ∀ b3 w2, b3 = w.length → w2 = w ++ [.inl (.inr ((28 : Int32).toNatClampNeg, fun _ => 0))] → ∃ fs4, w2[a0]? = some (.inr (10, fs4)) ∧ (0 < fs4.length) ∧ ∀ w7, w7 = w2.set a0 (.inr (10, fs4.set 0 (.ref b3))) → (1 < (fs4.set 0 (.ref b3)).length) ∧ ∀ w9, w9 = w7.set a0 (.inr (10, (fs4.set 0 (.ref b3)).set 1 (.int (1 : Int32)))) → r = (none, w9)) : xGo 11 0 [some (.ref a0)] [] w r := by
  refine g_aloadn (pc' := 1) d_11_0 rfl rfl ?_
  refine g_obj (pc' := 4) d_11_1 rfl st_11_1 fr_11 lo_11 rfl ?_
  refine g_aloadn (pc' := 5) d_11_4 rfl rfl ?_
  refine g_bipush (pc' := 7) d_11_5 rfl cb_28 ?_
  obtain ⟨hc1, h⟩ := h
  have h := h _ _ rfl rfl
  refine g_newl (pc' := 9) d_11_7 rfl hc1 ?_
  obtain ⟨fs4, hw5, h⟩ := h
  obtain ⟨hc6, h⟩ := h
  have h := h _ rfl
  refine g_putf (pc' := 12) d_11_9 rfl st_11_9 ft_10_0 ff_10_0 rfl (Or.inr ⟨by decide +kernel, by decide +kernel⟩) hw5 hc6 ?_
  refine g_aloadn (pc' := 13) d_11_12 rfl rfl ?_
  refine g_iconst (pc' := 14) d_11_13 rfl ci_1 ?_
  obtain ⟨hc8, h⟩ := h
  have h := h _ rfl
  refine g_putf (pc' := 17) d_11_14 rfl st_11_13 ft_10_1 ff_10_1 rfl (Or.inl rfl) (x_gss hw5) hc8 ?_
  exact g_vret d_11_17 rt_11 h
-- 12 BernoulliWays$Triangle.begin(I)V
theorem S_12_0 {a0 : Nat} {i1 : Int32} {w : xW} {r : Option Value × xW} (h : ∃ r3 w1, xCall 13 [.int i1, .int (38 : Int32)] w (some (.int r3), w1) ∧ ∃ fs4, w1[a0]? = some (.inr (3, fs4)) ∧ (2 < fs4.length) ∧ ∀ w7, w7 = w1.set a0 (.inr (3, fs4.set 2 (.int r3))) → xGo 12 12 [some (.ref a0), some (.int i1), some (.int (0 : Int32))] [] w7 r) : xGo 12 0 [some (.ref a0), some (.int i1), none] [] w r := by
  refine g_aloadn (pc' := 1) d_12_0 rfl rfl ?_
  refine g_iloadn (pc' := 2) d_12_1 rfl rfl ?_
  refine g_bipush (pc' := 4) d_12_2 rfl cb_38 ?_
  obtain ⟨r3, w1, hk2, h⟩ := h
  refine g_callS (pc' := 7) d_12_4 rfl st_12_18 (Or.inl rfl) na_13 ml_13 rfl rfl rfl rm_12_13 rfl rfl hk2 ?_
  obtain ⟨fs4, hw5, h⟩ := h
  obtain ⟨hc6, h⟩ := h
  have h := h _ rfl
  refine g_putf (pc' := 10) d_12_7 rfl st_12_24 ft_3_2 ff_3_2 rfl (Or.inl rfl) hw5 hc6 ?_
  refine g_iconst (pc' := 11) d_12_10 rfl ci_0 ?_
  refine g_istoren (pc' := 12) (l' := [some (.ref a0), some (.int i1), some (.int (0 : Int32))]) d_12_11 rfl ml_12 rfl rfl ?_
  exact h
theorem S_12_12 {a0 : Nat} {i1 : Int32} {i2 : Int32} {w : xW} {r : Option Value × xW} (h : ∃ fs1, w[a0]? = some (.inr (3, fs1)) ∧ ∃ x3, fs1[2]? = some (.int x3) ∧ (x3 < i2 → r = (none, w)) ∧ (¬ (x3 < i2) → ∃ b5, fs1[0]? = some (.ref b5) ∧ (¬ i2 = 0 → ∃ n7 f8, w[b5]? = some (.inl (.inr (n7, f8))) ∧ (¬ (i2 < 0 ∨ n7 ≤ i2.toNatClampNeg)) ∧ ∀ w11, w11 = w.set b5 (.inl (.inr (n7, (vp_updL f8 i2.toNatClampNeg (0 : Int64))))) → ∃ fs12, w11[a0]? = some (.inr (3, fs12)) ∧ ∃ b14, fs12[1]? = some (.ref b14) ∧ (¬ i2 = 0 → (¬ ((i2 + (1 : Int32)).toInt64) = 0) ∧ ∃ n17 f18, w11[b14]? = some (.inl (.inr (n17, f18))) ∧ ∀ v20 : Int64, v20 = ((5342931457063200 : Int64) / ((i2 + (1 : Int32)).toInt64)) → (¬ (i2 < 0 ∨ n17 ≤ i2.toNatClampNeg)) ∧ ∀ w22, w22 = w11.set b14 (.inl (.inr (n17, (vp_updL f18 i2.toNatClampNeg v20)))) → ∀ v23 : Int32, v23 = i2 + (1 : Int32) → xGo 12 12 [some (.ref a0), some (.int i1), some (.int v23)] [] w22 r) ∧ (¬ (¬ i2 = 0) → ∃ n24 f25, w11[b14]? = some (.inl (.inr (n24, f25))) ∧ (¬ (i2 < 0 ∨ n24 ≤ i2.toNatClampNeg)) ∧ ∀ w28, w28 = w11.set b14 (.inl (.inr (n24, (vp_updL f25 i2.toNatClampNeg (0 : Int64))))) → ∀ v29 : Int32, v29 = i2 + (1 : Int32) → xGo 12 12 [some (.ref a0), some (.int i1), some (.int v29)] [] w28 r)) ∧ (¬ (¬ i2 = 0) → ∃ n30 f31, w[b5]? = some (.inl (.inr (n30, f31))) ∧ (¬ (i2 < 0 ∨ n30 ≤ i2.toNatClampNeg)) ∧ ∀ w34, w34 = w.set b5 (.inl (.inr (n30, (vp_updL f31 i2.toNatClampNeg (1 : Int64))))) → ∃ fs35, w34[a0]? = some (.inr (3, fs35)) ∧ ∃ b37, fs35[1]? = some (.ref b37) ∧ (¬ i2 = 0 → (¬ ((i2 + (1 : Int32)).toInt64) = 0) ∧ ∃ n40 f41, w34[b37]? = some (.inl (.inr (n40, f41))) ∧ ∀ v43 : Int64, v43 = ((5342931457063200 : Int64) / ((i2 + (1 : Int32)).toInt64)) → (¬ (i2 < 0 ∨ n40 ≤ i2.toNatClampNeg)) ∧ ∀ w45, w45 = w34.set b37 (.inl (.inr (n40, (vp_updL f41 i2.toNatClampNeg v43)))) → ∀ v46 : Int32, v46 = i2 + (1 : Int32) → xGo 12 12 [some (.ref a0), some (.int i1), some (.int v46)] [] w45 r) ∧ (¬ (¬ i2 = 0) → ∃ n47 f48, w34[b37]? = some (.inl (.inr (n47, f48))) ∧ (¬ (i2 < 0 ∨ n47 ≤ i2.toNatClampNeg)) ∧ ∀ w51, w51 = w34.set b37 (.inl (.inr (n47, (vp_updL f48 i2.toNatClampNeg (0 : Int64))))) → ∀ v52 : Int32, v52 = i2 + (1 : Int32) → xGo 12 12 [some (.ref a0), some (.int i1), some (.int v52)] [] w51 r)))) : xGo 12 12 [some (.ref a0), some (.int i1), some (.int i2)] [] w r := by
  refine g_iloadn (pc' := 13) d_12_12 rfl rfl ?_
  refine g_aloadn (pc' := 14) d_12_13 rfl rfl ?_
  obtain ⟨fs1, hw2, h⟩ := h
  obtain ⟨x3, hv4, h⟩ := h
  refine g_getf (pc' := 17) d_12_14 rfl st_12_24 hw2 hv4 ?_
  refine g_ic_gt (pc' := 20) (pt := 63) d_12_17 (by decide) rfl (fun c => ?_) (fun c => ?_)
  · replace h := h.1 c
    exact g_vret d_12_63 rt_12 h
  · replace h := h.2 c
    refine g_aloadn (pc' := 21) d_12_20 rfl rfl ?_
    obtain ⟨b5, hv6, h⟩ := h
    refine g_getf (pc' := 24) d_12_21 rfl st_12_9 hw2 hv6 ?_
    refine g_iloadn (pc' := 25) d_12_24 rfl rfl ?_
    refine g_iloadn (pc' := 26) d_12_25 rfl rfl ?_
    refine g_if_ne (pc' := 29) (pt := 33) d_12_26 (by decide) rfl (fun c => ?_) (fun c => ?_)
    · replace h := h.1 c
      refine g_lconst (pc' := 34) d_12_33 rfl cl_0 ?_
      obtain ⟨n7, f8, hw9, h⟩ := h
      obtain ⟨hc10, h⟩ := h
      have h := h _ rfl
      refine g_last (pc' := 35) d_12_34 rfl hw9 hc10 ?_
      refine g_aloadn (pc' := 36) d_12_35 rfl rfl ?_
      obtain ⟨fs12, hw13, h⟩ := h
      obtain ⟨b14, hv15, h⟩ := h
      refine g_getf (pc' := 39) d_12_36 rfl st_12_15 hw13 hv15 ?_
      refine g_iloadn (pc' := 40) d_12_39 rfl rfl ?_
      refine g_iloadn (pc' := 41) d_12_40 rfl rfl ?_
      refine g_if_ne (pc' := 44) (pt := 48) d_12_41 (by decide) rfl (fun c => ?_) (fun c => ?_)
      · replace h := h.1 c
        refine g_ldc2 (pc' := 51) d_12_48 rfl st_12_28 cL_5342931457063200 ?_
        refine g_iloadn (pc' := 52) d_12_51 rfl rfl ?_
        refine g_iconst (pc' := 53) d_12_52 rfl ci_1 ?_
        refine g_iadd (pc' := 54) d_12_53 rfl ?_
        refine g_i2l (pc' := 55) d_12_54 rfl ?_
        obtain ⟨hc16, h⟩ := h
        refine g_ldiv (pc' := 56) d_12_55 rfl hc16 ?_
        obtain ⟨n17, f18, hw19, h⟩ := h
        have h := h _ rfl
        obtain ⟨hc21, h⟩ := h
        have h := h _ rfl
        refine g_last (pc' := 57) d_12_56 rfl hw19 hc21 ?_
        have h := h _ rfl
        refine g_iinc (pc' := 60) (l' := [some (.ref a0), some (.int i1), some (.int (i2 + (1 : Int32)))]) d_12_57 rfl rfl ci_1 ml_12 rfl rfl ?_
        refine g_goto (pt := 12) d_12_60 (by decide) ?_
        exact h
      · replace h := h.2 c
        refine g_lconst (pc' := 45) d_12_44 rfl cl_0 ?_
        refine g_goto (pt := 56) d_12_45 (by decide) ?_
        obtain ⟨n24, f25, hw26, h⟩ := h
        obtain ⟨hc27, h⟩ := h
        have h := h _ rfl
        refine g_last (pc' := 57) d_12_56 rfl hw26 hc27 ?_
        have h := h _ rfl
        refine g_iinc (pc' := 60) (l' := [some (.ref a0), some (.int i1), some (.int (i2 + (1 : Int32)))]) d_12_57 rfl rfl ci_1 ml_12 rfl rfl ?_
        refine g_goto (pt := 12) d_12_60 (by decide) ?_
        exact h
    · replace h := h.2 c
      refine g_lconst (pc' := 30) d_12_29 rfl cl_1 ?_
      refine g_goto (pt := 34) d_12_30 (by decide) ?_
      obtain ⟨n30, f31, hw32, h⟩ := h
      obtain ⟨hc33, h⟩ := h
      have h := h _ rfl
      refine g_last (pc' := 35) d_12_34 rfl hw32 hc33 ?_
      refine g_aloadn (pc' := 36) d_12_35 rfl rfl ?_
      obtain ⟨fs35, hw36, h⟩ := h
      obtain ⟨b37, hv38, h⟩ := h
      refine g_getf (pc' := 39) d_12_36 rfl st_12_15 hw36 hv38 ?_
      refine g_iloadn (pc' := 40) d_12_39 rfl rfl ?_
      refine g_iloadn (pc' := 41) d_12_40 rfl rfl ?_
      refine g_if_ne (pc' := 44) (pt := 48) d_12_41 (by decide) rfl (fun c => ?_) (fun c => ?_)
      · replace h := h.1 c
        refine g_ldc2 (pc' := 51) d_12_48 rfl st_12_28 cL_5342931457063200 ?_
        refine g_iloadn (pc' := 52) d_12_51 rfl rfl ?_
        refine g_iconst (pc' := 53) d_12_52 rfl ci_1 ?_
        refine g_iadd (pc' := 54) d_12_53 rfl ?_
        refine g_i2l (pc' := 55) d_12_54 rfl ?_
        obtain ⟨hc39, h⟩ := h
        refine g_ldiv (pc' := 56) d_12_55 rfl hc39 ?_
        obtain ⟨n40, f41, hw42, h⟩ := h
        have h := h _ rfl
        obtain ⟨hc44, h⟩ := h
        have h := h _ rfl
        refine g_last (pc' := 57) d_12_56 rfl hw42 hc44 ?_
        have h := h _ rfl
        refine g_iinc (pc' := 60) (l' := [some (.ref a0), some (.int i1), some (.int (i2 + (1 : Int32)))]) d_12_57 rfl rfl ci_1 ml_12 rfl rfl ?_
        refine g_goto (pt := 12) d_12_60 (by decide) ?_
        exact h
      · replace h := h.2 c
        refine g_lconst (pc' := 45) d_12_44 rfl cl_0 ?_
        refine g_goto (pt := 56) d_12_45 (by decide) ?_
        obtain ⟨n47, f48, hw49, h⟩ := h
        obtain ⟨hc50, h⟩ := h
        have h := h _ rfl
        refine g_last (pc' := 57) d_12_56 rfl hw49 hc50 ?_
        have h := h _ rfl
        refine g_iinc (pc' := 60) (l' := [some (.ref a0), some (.int i1), some (.int (i2 + (1 : Int32)))]) d_12_57 rfl rfl ci_1 ml_12 rfl rfl ?_
        refine g_goto (pt := 12) d_12_60 (by decide) ?_
        exact h
-- 13 java/lang/Math.min(II)I
theorem S_13_0 {i0 : Int32} {i1 : Int32} {w : xW} {r : Option Value × xW} (h : (i1 < i0 → r = (some (.int i1), w)) ∧ (¬ (i1 < i0) → r = (some (.int i0), w))) : xGo 13 0 [some (.int i0), some (.int i1)] [] w r := by
  refine g_iloadn (pc' := 1) d_13_0 rfl rfl ?_
  refine g_iloadn (pc' := 2) d_13_1 rfl rfl ?_
  refine g_ic_gt (pc' := 5) (pt := 9) d_13_2 (by decide) rfl (fun c => ?_) (fun c => ?_)
  · replace h := h.1 c
    refine g_iloadn (pc' := 10) d_13_9 rfl rfl ?_
    exact g_iret d_13_10 rt_13 h
  · replace h := h.2 c
    refine g_iloadn (pc' := 6) d_13_5 rfl rfl ?_
    refine g_goto (pt := 10) d_13_6 (by decide) ?_
    exact g_iret d_13_10 rt_13 h
-- 14 BernoulliWays$Triangle.tellEntry(ILBernoulliWays$Fraction;)V
theorem S_14_0 {a0 : Nat} {i1 : Int32} {a2 : Nat} {w : xW} {r : Option Value × xW} (h : ∃ fs1, w[a0]? = some (.inr (3, fs1)) ∧ ∃ w3, xCall 15 [.ref a0, .int (0 : Int32), .ref a2] w (none, w3) ∧ (¬ i1 = (1 : Int32) → r = (none, w3)) ∧ (¬ (¬ i1 = (1 : Int32)) → ∃ fs5, w3[a2]? = some (.inr (5, fs5)) ∧ ∃ x7, fs5[0]? = some (.long x7) ∧ ∀ v9 : Int64, v9 = (x7 - (1 : Int64)) → (0 < fs5.length) ∧ ∀ w11, w11 = w3.set a2 (.inr (5, fs5.set 0 (.long v9))) → r = (none, w11))) : xGo 14 0 [some (.ref a0), some (.int i1), some (.ref a2)] [] w r := by
  refine g_aloadn (pc' := 1) d_14_0 rfl rfl ?_
  refine g_iconst (pc' := 2) d_14_1 rfl ci_0 ?_
  refine g_aloadn (pc' := 3) d_14_2 rfl rfl ?_
  obtain ⟨fs1, hw2, h⟩ := h
  obtain ⟨w3, hk4, h⟩ := h
  refine g_callV (pc' := 6) d_14_3 rfl st_14_43 na_15 ml_15 rfl rfl rfl rm_14_15 rfl rfl ow_15 hw2 hk4 ?_
  refine g_iloadn (pc' := 7) d_14_6 rfl rfl ?_
  refine g_iconst (pc' := 8) d_14_7 rfl ci_1 ?_
  refine g_ic_ne (pc' := 11) (pt := 21) d_14_8 (by decide) rfl (fun c => ?_) (fun c => ?_)
  · replace h := h.1 c
    exact g_vret d_14_21 rt_14 h
  · replace h := h.2 c
    refine g_aloadn (pc' := 12) d_14_11 rfl rfl ?_
    refine g_dup (pc' := 13) d_14_12 rfl rfl ?_
    obtain ⟨fs5, hw6, h⟩ := h
    obtain ⟨x7, hv8, h⟩ := h
    refine g_getf (pc' := 16) d_14_13 rfl st_14_47 hw6 hv8 ?_
    refine g_lconst (pc' := 17) d_14_16 rfl cl_1 ?_
    refine g_lsub (pc' := 18) d_14_17 rfl ?_
    have h := h _ rfl
    obtain ⟨hc10, h⟩ := h
    have h := h _ rfl
    refine g_putf (pc' := 21) d_14_18 rfl st_14_47 ft_5_0 ff_5_0 rfl (Or.inl rfl) hw6 hc10 ?_
    exact g_vret d_14_21 rt_14 h
-- 15 BernoulliWays$Triangle.tellPlace(ILBernoulliWays$Fraction;)V
theorem S_15_0 {a0 : Nat} {i1 : Int32} {a2 : Nat} {w : xW} {r : Option Value × xW} (h : (i1 < 0 → r = (none, w)) ∧ (¬ (i1 < 0) → ((39 : Int32) ≤ i1 → r = (none, w)) ∧ (¬ ((39 : Int32) ≤ i1) → ∃ fs1, w[a0]? = some (.inr (3, fs1)) ∧ ∃ b3, fs1[0]? = some (.ref b3) ∧ ∃ n5 f6, w[b3]? = some (.inl (.inr (n5, f6))) ∧ (¬ (i1 < 0 ∨ n5 ≤ i1.toNatClampNeg)) ∧ ∃ b9, fs1[1]? = some (.ref b9) ∧ ∃ n11 f12, w[b9]? = some (.inl (.inr (n11, f12))) ∧ (¬ (i1 < 0 ∨ n11 ≤ i1.toNatClampNeg)) ∧ ∃ fs15, w[a2]? = some (.inr (5, fs15)) ∧ ∃ w17, xCall 16 [.ref a2, .long (f6 i1.toNatClampNeg), .long (f12 i1.toNatClampNeg), .long (5342931457063200 : Int64)] w (none, w17) ∧ r = (none, w17)))) : xGo 15 0 [some (.ref a0), some (.int i1), some (.ref a2)] [] w r := by
  refine g_iloadn (pc' := 1) d_15_0 rfl rfl ?_
  refine g_if_lt (pc' := 4) (pt := 29) d_15_1 (by decide) rfl (fun c => ?_) (fun c => ?_)
  · replace h := h.1 c
    exact g_vret d_15_29 rt_15 h
  · replace h := h.2 c
    refine g_iloadn (pc' := 5) d_15_4 rfl rfl ?_
    refine g_bipush (pc' := 7) d_15_5 rfl cb_39 ?_
    refine g_ic_ge (pc' := 10) (pt := 29) d_15_7 (by decide) rfl (fun c => ?_) (fun c => ?_)
    · replace h := h.1 c
      exact g_vret d_15_29 rt_15 h
    · replace h := h.2 c
      refine g_aloadn (pc' := 11) d_15_10 rfl rfl ?_
      refine g_aloadn (pc' := 12) d_15_11 rfl rfl ?_
      obtain ⟨fs1, hw2, h⟩ := h
      obtain ⟨b3, hv4, h⟩ := h
      refine g_getf (pc' := 15) d_15_12 rfl st_15_9 hw2 hv4 ?_
      refine g_iloadn (pc' := 16) d_15_15 rfl rfl ?_
      obtain ⟨n5, f6, hw7, h⟩ := h
      obtain ⟨hc8, h⟩ := h
      refine g_lald (pc' := 17) d_15_16 rfl hw7 hc8 ?_
      refine g_aloadn (pc' := 18) d_15_17 rfl rfl ?_
      obtain ⟨b9, hv10, h⟩ := h
      refine g_getf (pc' := 21) d_15_18 rfl st_15_15 hw2 hv10 ?_
      refine g_iloadn (pc' := 22) d_15_21 rfl rfl ?_
      obtain ⟨n11, f12, hw13, h⟩ := h
      obtain ⟨hc14, h⟩ := h
      refine g_lald (pc' := 23) d_15_22 rfl hw13 hc14 ?_
      refine g_ldc2 (pc' := 26) d_15_23 rfl st_15_28 cL_5342931457063200 ?_
      obtain ⟨fs15, hw16, h⟩ := h
      obtain ⟨w17, hk18, h⟩ := h
      refine g_callV (pc' := 29) d_15_26 rfl st_15_37 na_16 ml_16 rfl rfl rfl rm_15_16 rfl rfl ow_16 hw16 hk18 ?_
      exact g_vret d_15_29 rt_15 h
-- 16 BernoulliWays$Fraction.become(JJJ)V
theorem S_16_0 {a0 : Nat} {l1 : Int64} {l3 : Int64} {l5 : Int64} {w : xW} {r : Option Value × xW} (h : ((0 : Int64) < l5 → ∃ r3 w1, xCall 17 [.long l3, .long l5] w (some (.long r3), w1) ∧ ∃ r6 w4, xCall 18 [.long r3, .long l5] w1 (some (.long r6), w4) ∧ ∃ r9 w7, xCall 19 [.long l3, .long l5] w4 (some (.long r9), w7) ∧ ∃ fs10, w7[a0]? = some (.inr (5, fs10)) ∧ ∀ v12 : Int64, v12 = (l1 + r9) → (0 < fs10.length) ∧ ∀ w14, w14 = w7.set a0 (.inr (5, fs10.set 0 (.long v12))) → (¬ r6 = 0) ∧ ∀ v16 : Int64, v16 = (r3 / r6) → (1 < (fs10.set 0 (.long v12)).length) ∧ ∀ w18, w18 = w14.set a0 (.inr (5, (fs10.set 0 (.long v12)).set 1 (.long v16))) → (¬ r6 = 0) ∧ ∀ v20 : Int64, v20 = (l5 / r6) → (2 < ((fs10.set 0 (.long v12)).set 1 (.long v16)).length) ∧ ∀ w22, w22 = w18.set a0 (.inr (5, ((fs10.set 0 (.long v12)).set 1 (.long v16)).set 2 (.long v20))) → r = (none, w22)) ∧ (¬ ((0 : Int64) < l5) → r = (none, w))) : xGo 16 0 [some (.ref a0), some (.long l1), none, some (.long l3), none, some (.long l5), none, none, none, none, none] [] w r := by
  refine g_lload (pc' := 2) d_16_0 rfl rfl ?_
  refine g_lconst (pc' := 3) d_16_2 rfl cl_0 ?_
  refine g_lc_gt (pc' := 7) (pm := 4) (pt := 8) d_16_3 rfl d_16_4 (by decide) rfl (fun c => ?_) (fun c => ?_)
  · replace h := h.1 c
    refine g_lloadn (pc' := 9) d_16_8 rfl rfl ?_
    refine g_lload (pc' := 11) d_16_9 rfl rfl ?_
    obtain ⟨r3, w1, hk2, h⟩ := h
    refine g_callS (pc' := 14) d_16_11 rfl st_16_13 (Or.inl rfl) na_17 ml_17 rfl rfl rfl rm_16_17 rfl rfl hk2 ?_
    refine g_lstore (pc' := 16) (l' := [some (.ref a0), some (.long l1), none, some (.long l3), none, some (.long l5), none, some (.long r3), none, none, none]) d_16_14 rfl ml_16 rfl rfl ?_
    refine g_lload (pc' := 18) d_16_16 rfl rfl ?_
    refine g_lload (pc' := 20) d_16_18 rfl rfl ?_
    obtain ⟨r6, w4, hk5, h⟩ := h
    refine g_callS (pc' := 23) d_16_20 rfl st_16_19 (Or.inl rfl) na_18 ml_18 rfl rfl rfl rm_16_18 rfl rfl hk5 ?_
    refine g_lstore (pc' := 25) (l' := [some (.ref a0), some (.long l1), none, some (.long l3), none, some (.long l5), none, some (.long r3), none, some (.long r6), none]) d_16_23 rfl ml_16 rfl rfl ?_
    refine g_aloadn (pc' := 26) d_16_25 rfl rfl ?_
    refine g_lloadn (pc' := 27) d_16_26 rfl rfl ?_
    refine g_lloadn (pc' := 28) d_16_27 rfl rfl ?_
    refine g_lload (pc' := 30) d_16_28 rfl rfl ?_
    obtain ⟨r9, w7, hk8, h⟩ := h
    refine g_callS (pc' := 33) d_16_30 rfl st_16_22 (Or.inl rfl) na_19 ml_19 rfl rfl rfl rm_16_19 rfl rfl hk8 ?_
    refine g_ladd (pc' := 34) d_16_33 rfl ?_
    obtain ⟨fs10, hw11, h⟩ := h
    have h := h _ rfl
    obtain ⟨hc13, h⟩ := h
    have h := h _ rfl
    refine g_putf (pc' := 37) d_16_34 rfl st_16_25 ft_5_0 ff_5_0 rfl (Or.inl rfl) hw11 hc13 ?_
    refine g_aloadn (pc' := 38) d_16_37 rfl rfl ?_
    refine g_lload (pc' := 40) d_16_38 rfl rfl ?_
    refine g_lload (pc' := 42) d_16_40 rfl rfl ?_
    obtain ⟨hc15, h⟩ := h
    refine g_ldiv (pc' := 43) d_16_42 rfl hc15 ?_
    have h := h _ rfl
    obtain ⟨hc17, h⟩ := h
    have h := h _ rfl
    refine g_putf (pc' := 46) d_16_43 rfl st_16_28 ft_5_1 ff_5_1 rfl (Or.inl rfl) (x_gss hw11) hc17 ?_
    refine g_aloadn (pc' := 47) d_16_46 rfl rfl ?_
    refine g_lload (pc' := 49) d_16_47 rfl rfl ?_
    refine g_lload (pc' := 51) d_16_49 rfl rfl ?_
    obtain ⟨hc19, h⟩ := h
    refine g_ldiv (pc' := 52) d_16_51 rfl hc19 ?_
    have h := h _ rfl
    obtain ⟨hc21, h⟩ := h
    have h := h _ rfl
    refine g_putf (pc' := 55) d_16_52 rfl st_16_7 ft_5_2 ff_5_2 rfl (Or.inl rfl) (x_gss (x_gss hw11)) hc21 ?_
    exact g_vret d_16_55 rt_16 h
  · replace h := h.2 c
    exact g_vret d_16_7 rt_16 h
-- 17 java/lang/Math.floorMod(JJ)J
theorem S_17_0 {l0 : Int64} {l2 : Int64} {w : xW} {r : Option Value × xW} (h : (¬ l2 = 0) ∧ ∀ v2 : Int64, v2 = (lrem l0 l2) → ((0 : Int64) ≤ (l0 ^^^ l2) → r = (some (.long v2), w)) ∧ (¬ ((0 : Int64) ≤ (l0 ^^^ l2)) → (v2 = (0 : Int64) → r = (some (.long v2), w)) ∧ (¬ (v2 = (0 : Int64)) → r = (some (.long (v2 + l2)), w)))) : xGo 17 0 [some (.long l0), none, some (.long l2), none, none, none] [] w r := by
  refine g_lloadn (pc' := 1) d_17_0 rfl rfl ?_
  refine g_lloadn (pc' := 2) d_17_1 rfl rfl ?_
  obtain ⟨hc1, h⟩ := h
  refine g_lrem (pc' := 3) d_17_2 rfl hc1 ?_
  have h := h _ rfl
  refine g_lstore (pc' := 5) (l' := [some (.long l0), none, some (.long l2), none, some (.long ((lrem l0 l2))), none]) d_17_3 rfl ml_17 rfl rfl ?_
  refine g_lloadn (pc' := 6) d_17_5 rfl rfl ?_
  refine g_lloadn (pc' := 7) d_17_6 rfl rfl ?_
  refine g_lxor (pc' := 8) d_17_7 rfl ?_
  refine g_lconst (pc' := 9) d_17_8 rfl cl_0 ?_
  refine g_lc_ge (pc' := 13) (pm := 10) (pt := 25) d_17_9 rfl d_17_10 (by decide) rfl (fun c => ?_) (fun c => ?_)
  · replace h := h.1 c
    refine g_lload (pc' := 27) d_17_25 rfl rfl ?_
    exact g_lret d_17_27 rt_17 h
  · replace h := h.2 c
    refine g_lload (pc' := 15) d_17_13 rfl rfl ?_
    refine g_lconst (pc' := 16) d_17_15 rfl cl_0 ?_
    refine g_lc_eq (pc' := 20) (pm := 17) (pt := 25) d_17_16 rfl d_17_17 (by decide) rfl (fun c => ?_) (fun c => ?_)
    · replace h := h.1 c
      refine g_lload (pc' := 27) d_17_25 rfl rfl ?_
      exact g_lret d_17_27 rt_17 h
    · replace h := h.2 c
      refine g_lload (pc' := 22) d_17_20 rfl rfl ?_
      refine g_lloadn (pc' := 23) d_17_22 rfl rfl ?_
      refine g_ladd (pc' := 24) d_17_23 rfl ?_
      exact g_lret d_17_24 rt_17 h
-- 18 BernoulliWays$Fraction.commonDivisor(JJ)J
theorem S_18_0 {l0 : Int64} {l2 : Int64} {w : xW} {r : Option Value × xW} (h : xGo 18 9 [some (.long l0), none, some (.long l2), none, some (.long l2), none, some (.long l0), none, some (.int (0 : Int32)), none, none] [] w r) : xGo 18 0 [some (.long l0), none, some (.long l2), none, none, none, none, none, none, none, none] [] w r := by
  refine g_lloadn (pc' := 1) d_18_0 rfl rfl ?_
  refine g_lstore (pc' := 3) (l' := [some (.long l0), none, some (.long l2), none, some (.long l2), none, none, none, none, none, none]) d_18_1 rfl ml_18 rfl rfl ?_
  refine g_lloadn (pc' := 4) d_18_3 rfl rfl ?_
  refine g_lstore (pc' := 6) (l' := [some (.long l0), none, some (.long l2), none, some (.long l2), none, some (.long l0), none, none, none, none]) d_18_4 rfl ml_18 rfl rfl ?_
  refine g_iconst (pc' := 7) d_18_6 rfl ci_0 ?_
  refine g_istore (pc' := 9) (l' := [some (.long l0), none, some (.long l2), none, some (.long l2), none, some (.long l0), none, some (.int (0 : Int32)), none, none]) d_18_7 rfl ml_18 rfl rfl ?_
  exact h
theorem S_18_9 {l0 : Int64} {l2 : Int64} {l4 : Int64} {l6 : Int64} {i8 : Int32} {w : xW} {r : Option Value × xW} (h : ((100 : Int32) ≤ i8 → (l4 ≤ (0 : Int64) → r = (some (.long (1 : Int64)), w)) ∧ (¬ (l4 ≤ (0 : Int64)) → r = (some (.long l4), w))) ∧ (¬ ((100 : Int32) ≤ i8) → (l6 ≤ (0 : Int64) → (l4 ≤ (0 : Int64) → r = (some (.long (1 : Int64)), w)) ∧ (¬ (l4 ≤ (0 : Int64)) → r = (some (.long l4), w))) ∧ (¬ (l6 ≤ (0 : Int64)) → (¬ l6 = 0) ∧ ∀ v2 : Int64, v2 = (lrem l4 l6) → ∀ v3 : Int32, v3 = i8 + (1 : Int32) → xGo 18 9 [some (.long l0), none, some (.long l2), none, some (.long l6), none, some (.long v2), none, some (.int v3), none, none] [] w r))) : xGo 18 9 [some (.long l0), none, some (.long l2), none, some (.long l4), none, some (.long l6), none, some (.int i8), none, none] [] w r := by
  refine g_iload (pc' := 11) d_18_9 rfl rfl ?_
  refine g_bipush (pc' := 13) d_18_11 rfl cb_100 ?_
  refine g_ic_ge (pc' := 16) (pt := 44) d_18_13 (by decide) rfl (fun c => ?_) (fun c => ?_)
  · replace h := h.1 c
    refine g_lload (pc' := 46) d_18_44 rfl rfl ?_
    refine g_lconst (pc' := 47) d_18_46 rfl cl_0 ?_
    refine g_lc_le (pc' := 51) (pm := 48) (pt := 56) d_18_47 rfl d_18_48 (by decide) rfl (fun c => ?_) (fun c => ?_)
    · replace h := h.1 c
      refine g_lconst (pc' := 57) d_18_56 rfl cl_1 ?_
      exact g_lret d_18_57 rt_18 h
    · replace h := h.2 c
      refine g_lload (pc' := 53) d_18_51 rfl rfl ?_
      refine g_goto (pt := 57) d_18_53 (by decide) ?_
      exact g_lret d_18_57 rt_18 h
  · replace h := h.2 c
    refine g_lload (pc' := 18) d_18_16 rfl rfl ?_
    refine g_lconst (pc' := 19) d_18_18 rfl cl_0 ?_
    refine g_lc_le (pc' := 23) (pm := 20) (pt := 44) d_18_19 rfl d_18_20 (by decide) rfl (fun c => ?_) (fun c => ?_)
    · replace h := h.1 c
      refine g_lload (pc' := 46) d_18_44 rfl rfl ?_
      refine g_lconst (pc' := 47) d_18_46 rfl cl_0 ?_
      refine g_lc_le (pc' := 51) (pm := 48) (pt := 56) d_18_47 rfl d_18_48 (by decide) rfl (fun c => ?_) (fun c => ?_)
      · replace h := h.1 c
        refine g_lconst (pc' := 57) d_18_56 rfl cl_1 ?_
        exact g_lret d_18_57 rt_18 h
      · replace h := h.2 c
        refine g_lload (pc' := 53) d_18_51 rfl rfl ?_
        refine g_goto (pt := 57) d_18_53 (by decide) ?_
        exact g_lret d_18_57 rt_18 h
    · replace h := h.2 c
      refine g_lload (pc' := 25) d_18_23 rfl rfl ?_
      refine g_lload (pc' := 27) d_18_25 rfl rfl ?_
      obtain ⟨hc1, h⟩ := h
      refine g_lrem (pc' := 28) d_18_27 rfl hc1 ?_
      have h := h _ rfl
      refine g_lstore (pc' := 30) (l' := [some (.long l0), none, some (.long l2), none, some (.long l4), none, some (.long l6), none, some (.int i8), some (.long ((lrem l4 l6))), none]) d_18_28 rfl ml_18 rfl rfl ?_
      refine g_lload (pc' := 32) d_18_30 rfl rfl ?_
      refine g_lstore (pc' := 34) (l' := [some (.long l0), none, some (.long l2), none, some (.long l6), none, some (.long l6), none, some (.int i8), some (.long ((lrem l4 l6))), none]) d_18_32 rfl ml_18 rfl rfl ?_
      refine g_lload (pc' := 36) d_18_34 rfl rfl ?_
      refine g_lstore (pc' := 38) (l' := [some (.long l0), none, some (.long l2), none, some (.long l6), none, some (.long ((lrem l4 l6))), none, some (.int i8), some (.long ((lrem l4 l6))), none]) d_18_36 rfl ml_18 rfl rfl ?_
      have h := h _ rfl
      refine g_iinc (pc' := 41) (l' := [some (.long l0), none, some (.long l2), none, some (.long l6), none, some (.long ((lrem l4 l6))), none, some (.int (i8 + (1 : Int32))), some (.long ((lrem l4 l6))), none]) d_18_38 rfl rfl ci_1 ml_18 rfl rfl ?_
      refine g_goto (pt := 9) d_18_41 (by decide) ?_
      exact xGo.more (xle_s (xle_n (xle_s (xle_n (xle_s (xle_n (xle_s (xle_n (xle_s (xle_n (xle_n xle_0))))))))))) h
-- 19 java/lang/Math.floorDiv(JJ)J
theorem S_19_0 {l0 : Int64} {l2 : Int64} {w : xW} {r : Option Value × xW} (h : (¬ l2 = 0) ∧ ∀ v2 : Int64, v2 = (l0 / l2) → ((0 : Int64) ≤ (l0 ^^^ l2) → r = (some (.long v2), w)) ∧ (¬ ((0 : Int64) ≤ (l0 ^^^ l2)) → ((v2 * l2) = l0 → r = (some (.long v2), w)) ∧ (¬ ((v2 * l2) = l0) → r = (some (.long (v2 - (1 : Int64))), w)))) : xGo 19 0 [some (.long l0), none, some (.long l2), none, none, none] [] w r := by
  refine g_lloadn (pc' := 1) d_19_0 rfl rfl ?_
  refine g_lloadn (pc' := 2) d_19_1 rfl rfl ?_
  obtain ⟨hc1, h⟩ := h
  refine g_ldiv (pc' := 3) d_19_2 rfl hc1 ?_
  have h := h _ rfl
  refine g_lstore (pc' := 5) (l' := [some (.long l0), none, some (.long l2), none, some (.long ((l0 / l2))), none]) d_19_3 rfl ml_19 rfl rfl ?_
  refine g_lloadn (pc' := 6) d_19_5 rfl rfl ?_
  refine g_lloadn (pc' := 7) d_19_6 rfl rfl ?_
  refine g_lxor (pc' := 8) d_19_7 rfl ?_
  refine g_lconst (pc' := 9) d_19_8 rfl cl_0 ?_
  refine g_lc_ge (pc' := 13) (pm := 10) (pt := 27) d_19_9 rfl d_19_10 (by decide) rfl (fun c => ?_) (fun c => ?_)
  · replace h := h.1 c
    refine g_lload (pc' := 29) d_19_27 rfl rfl ?_
    exact g_lret d_19_29 rt_19 h
  · replace h := h.2 c
    refine g_lload (pc' := 15) d_19_13 rfl rfl ?_
    refine g_lloadn (pc' := 16) d_19_15 rfl rfl ?_
    refine g_lmul (pc' := 17) d_19_16 rfl ?_
    refine g_lloadn (pc' := 18) d_19_17 rfl rfl ?_
    refine g_lc_eq (pc' := 22) (pm := 19) (pt := 27) d_19_18 rfl d_19_19 (by decide) rfl (fun c => ?_) (fun c => ?_)
    · replace h := h.1 c
      refine g_lload (pc' := 29) d_19_27 rfl rfl ?_
      exact g_lret d_19_29 rt_19 h
    · replace h := h.2 c
      refine g_lload (pc' := 24) d_19_22 rfl rfl ?_
      refine g_lconst (pc' := 25) d_19_24 rfl cl_1 ?_
      refine g_lsub (pc' := 26) d_19_25 rfl ?_
      exact g_lret d_19_26 rt_19 h
-- 20 BernoulliWays$Entries.store(ILBernoulliWays$Fraction;)V
theorem S_20_0 {a0 : Nat} {i1 : Int32} {a2 : Nat} {w : xW} {r : Option Value × xW} (h : ∃ r3 w1, xCall 21 [.int i1] w (some (.int r3), w1) ∧ (r3 = 0 → r = (none, w1)) ∧ (¬ (r3 = 0) → ∃ fs4, w1[a0]? = some (.inr (4, fs4)) ∧ ∃ b6, fs4[0]? = some (.ref b6) ∧ ∃ fs8, w1[a2]? = some (.inr (5, fs8)) ∧ ∃ x10, fs8[0]? = some (.long x10) ∧ ∃ n12 f13, w1[b6]? = some (.inl (.inr (n12, f13))) ∧ (¬ (i1 < 0 ∨ n12 ≤ i1.toNatClampNeg)) ∧ ∀ w16, w16 = w1.set b6 (.inl (.inr (n12, (vp_updL f13 i1.toNatClampNeg x10)))) → ∃ fs17, w16[a0]? = some (.inr (4, fs17)) ∧ ∃ b19, fs17[1]? = some (.ref b19) ∧ ∃ fs21, w16[a2]? = some (.inr (5, fs21)) ∧ ∃ x23, fs21[1]? = some (.long x23) ∧ ∃ n25 f26, w16[b19]? = some (.inl (.inr (n25, f26))) ∧ (¬ (i1 < 0 ∨ n25 ≤ i1.toNatClampNeg)) ∧ ∀ w29, w29 = w16.set b19 (.inl (.inr (n25, (vp_updL f26 i1.toNatClampNeg x23)))) → ∃ fs30, w29[a0]? = some (.inr (4, fs30)) ∧ ∃ b32, fs30[2]? = some (.ref b32) ∧ ∃ fs34, w29[a2]? = some (.inr (5, fs34)) ∧ ∃ x36, fs34[2]? = some (.long x36) ∧ ∃ n38 f39, w29[b32]? = some (.inl (.inr (n38, f39))) ∧ (¬ (i1 < 0 ∨ n38 ≤ i1.toNatClampNeg)) ∧ ∀ w42, w42 = w29.set b32 (.inl (.inr (n38, (vp_updL f39 i1.toNatClampNeg x36)))) → r = (none, w42))) : xGo 20 0 [some (.ref a0), some (.int i1), some (.ref a2)] [] w r := by
  refine g_iloadn (pc' := 1) d_20_0 rfl rfl ?_
  obtain ⟨r3, w1, hk2, h⟩ := h
  refine g_callS (pc' := 4) d_20_1 rfl st_20_34 (Or.inl rfl) na_21 ml_21 rfl rfl rfl rm_20_21 rfl rfl hk2 ?_
  refine g_if_eq (pc' := 7) (pt := 37) d_20_4 (by decide) rfl (fun c => ?_) (fun c => ?_)
  · replace h := h.1 c
    exact g_vret d_20_37 rt_20 h
  · replace h := h.2 c
    refine g_aloadn (pc' := 8) d_20_7 rfl rfl ?_
    obtain ⟨fs4, hw5, h⟩ := h
    obtain ⟨b6, hv7, h⟩ := h
    refine g_getf (pc' := 11) d_20_8 rfl st_20_9 hw5 hv7 ?_
    refine g_iloadn (pc' := 12) d_20_11 rfl rfl ?_
    refine g_aloadn (pc' := 13) d_20_12 rfl rfl ?_
    obtain ⟨fs8, hw9, h⟩ := h
    obtain ⟨x10, hv11, h⟩ := h
    refine g_getf (pc' := 16) d_20_13 rfl st_20_45 hw9 hv11 ?_
    obtain ⟨n12, f13, hw14, h⟩ := h
    obtain ⟨hc15, h⟩ := h
    have h := h _ rfl
    refine g_last (pc' := 17) d_20_16 rfl hw14 hc15 ?_
    refine g_aloadn (pc' := 18) d_20_17 rfl rfl ?_
    obtain ⟨fs17, hw18, h⟩ := h
    obtain ⟨b19, hv20, h⟩ := h
    refine g_getf (pc' := 21) d_20_18 rfl st_20_15 hw18 hv20 ?_
    refine g_iloadn (pc' := 22) d_20_21 rfl rfl ?_
    refine g_aloadn (pc' := 23) d_20_22 rfl rfl ?_
    obtain ⟨fs21, hw22, h⟩ := h
    obtain ⟨x23, hv24, h⟩ := h
    refine g_getf (pc' := 26) d_20_23 rfl st_20_49 hw22 hv24 ?_
    obtain ⟨n25, f26, hw27, h⟩ := h
    obtain ⟨hc28, h⟩ := h
    have h := h _ rfl
    refine g_last (pc' := 27) d_20_26 rfl hw27 hc28 ?_
    refine g_aloadn (pc' := 28) d_20_27 rfl rfl ?_
    obtain ⟨fs30, hw31, h⟩ := h
    obtain ⟨b32, hv33, h⟩ := h
    refine g_getf (pc' := 31) d_20_28 rfl st_20_18 hw31 hv33 ?_
    refine g_iloadn (pc' := 32) d_20_31 rfl rfl ?_
    refine g_aloadn (pc' := 33) d_20_32 rfl rfl ?_
    obtain ⟨fs34, hw35, h⟩ := h
    obtain ⟨x36, hv37, h⟩ := h
    refine g_getf (pc' := 36) d_20_33 rfl st_20_52 hw35 hv37 ?_
    obtain ⟨n38, f39, hw40, h⟩ := h
    obtain ⟨hc41, h⟩ := h
    have h := h _ rfl
    refine g_last (pc' := 37) d_20_36 rfl hw40 hc41 ?_
    exact g_vret d_20_37 rt_20 h
-- 21 BernoulliWays$Entries.fits(I)Z
theorem S_21_0 {i0 : Int32} {w : xW} {r : Option Value × xW} (h : (i0 < 0 → r = (some (.int (0 : Int32)), w)) ∧ (¬ (i0 < 0) → ((39 : Int32) ≤ i0 → r = (some (.int (0 : Int32)), w)) ∧ (¬ ((39 : Int32) ≤ i0) → r = (some (.int (1 : Int32)), w)))) : xGo 21 0 [some (.int i0)] [] w r := by
  refine g_iloadn (pc' := 1) d_21_0 rfl rfl ?_
  refine g_if_lt (pc' := 4) (pt := 14) d_21_1 (by decide) rfl (fun c => ?_) (fun c => ?_)
  · replace h := h.1 c
    refine g_iconst (pc' := 15) d_21_14 rfl ci_0 ?_
    exact g_zret d_21_15 rt_21 (Or.inl rfl) h
  · replace h := h.2 c
    refine g_iloadn (pc' := 5) d_21_4 rfl rfl ?_
    refine g_bipush (pc' := 7) d_21_5 rfl cb_39 ?_
    refine g_ic_ge (pc' := 10) (pt := 14) d_21_7 (by decide) rfl (fun c => ?_) (fun c => ?_)
    · replace h := h.1 c
      refine g_iconst (pc' := 15) d_21_14 rfl ci_0 ?_
      exact g_zret d_21_15 rt_21 (Or.inl rfl) h
    · replace h := h.2 c
      refine g_iconst (pc' := 11) d_21_10 rfl ci_1 ?_
      refine g_goto (pt := 15) d_21_11 (by decide) ?_
      exact g_zret d_21_15 rt_21 (Or.inr rfl) h
-- 22 BernoulliWays$Triangle.step()V
theorem S_22_0 {a0 : Nat} {w : xW} {r : Option Value × xW} (h : xGo 22 2 [some (.ref a0), some (.int (0 : Int32)), none, none] [] w r) : xGo 22 0 [some (.ref a0), none, none, none] [] w r := by
  refine g_iconst (pc' := 1) d_22_0 rfl ci_0 ?_
  refine g_istoren (pc' := 2) (l' := [some (.ref a0), some (.int (0 : Int32)), none, none]) d_22_1 rfl ml_22 rfl rfl ?_
  exact h
theorem S_22_2 {a0 : Nat} {i1 : Int32} {w : xW} {r : Option Value × xW} (h : ∃ fs1, w[a0]? = some (.inr (3, fs1)) ∧ ∃ x3, fs1[2]? = some (.int x3) ∧ (x3 ≤ i1 → ∀ v5 : Int32, v5 = (x3 - (1 : Int32)) → (2 < fs1.length) ∧ ∀ w7, w7 = w.set a0 (.inr (3, fs1.set 2 (.int v5))) → r = (none, w7)) ∧ (¬ (x3 ≤ i1) → ((39 : Int32) ≤ (i1 + (1 : Int32)) → ∀ v8 : Int32, v8 = (x3 - (1 : Int32)) → (2 < fs1.length) ∧ ∀ w10, w10 = w.set a0 (.inr (3, fs1.set 2 (.int v8))) → r = (none, w10)) ∧ (¬ ((39 : Int32) ≤ (i1 + (1 : Int32))) → ∃ b11, fs1[1]? = some (.ref b11) ∧ ∃ n13 f14, w[b11]? = some (.inl (.inr (n13, f14))) ∧ (¬ (i1 < 0 ∨ n13 ≤ i1.toNatClampNeg)) ∧ (¬ ((i1 + (1 : Int32)) < 0 ∨ n13 ≤ (i1 + (1 : Int32)).toNatClampNeg)) ∧ ∀ v18 : Int64, v18 = (((i1 + (1 : Int32)).toInt64) * ((f14 i1.toNatClampNeg) - (f14 (i1 + (1 : Int32)).toNatClampNeg))) → ∃ b19, fs1[0]? = some (.ref b19) ∧ ∃ n21 f22, w[b19]? = some (.inl (.inr (n21, f22))) ∧ (¬ (i1 < 0 ∨ n21 ≤ i1.toNatClampNeg)) ∧ (¬ ((i1 + (1 : Int32)) < 0 ∨ n21 ≤ (i1 + (1 : Int32)).toNatClampNeg)) ∧ ∃ r28 w26, xCall 19 [.long v18, .long (5342931457063200 : Int64)] w (some (.long r28), w26) ∧ ∃ n29 f30, w26[b19]? = some (.inl (.inr (n29, f30))) ∧ ∀ v32 : Int64, v32 = ((((i1 + (1 : Int32)).toInt64) * ((f22 i1.toNatClampNeg) - (f22 (i1 + (1 : Int32)).toNatClampNeg))) + r28) → (¬ (i1 < 0 ∨ n29 ≤ i1.toNatClampNeg)) ∧ ∀ w34, w34 = w26.set b19 (.inl (.inr (n29, (vp_updL f30 i1.toNatClampNeg v32)))) → ∃ fs35, w34[a0]? = some (.inr (3, fs35)) ∧ ∃ b37, fs35[1]? = some (.ref b37) ∧ ∃ r41 w39, xCall 17 [.long v18, .long (5342931457063200 : Int64)] w34 (some (.long r41), w39) ∧ ∃ n42 f43, w39[b37]? = some (.inl (.inr (n42, f43))) ∧ (¬ (i1 < 0 ∨ n42 ≤ i1.toNatClampNeg)) ∧ ∀ w46, w46 = w39.set b37 (.inl (.inr (n42, (vp_updL f43 i1.toNatClampNeg r41)))) → ∀ v47 : Int32, v47 = i1 + (1 : Int32) → xGo 22 2 [some (.ref a0), some (.int v47), none, none] [] w46 r))) : xGo 22 2 [some (.ref a0), some (.int i1), none, none] [] w r := by
  refine g_iloadn (pc' := 3) d_22_2 rfl rfl ?_
  refine g_aloadn (pc' := 4) d_22_3 rfl rfl ?_
  obtain ⟨fs1, hw2, h⟩ := h
  obtain ⟨x3, hv4, h⟩ := h
  refine g_getf (pc' := 7) d_22_4 rfl st_22_24 hw2 hv4 ?_
  refine g_ic_ge (pc' := 10) (pt := 92) d_22_7 (by decide) rfl (fun c => ?_) (fun c => ?_)
  · replace h := h.1 c
    refine g_aloadn (pc' := 93) d_22_92 rfl rfl ?_
    refine g_dup (pc' := 94) d_22_93 rfl rfl ?_
    refine g_getf (pc' := 97) d_22_94 rfl st_22_24 hw2 hv4 ?_
    refine g_iconst (pc' := 98) d_22_97 rfl ci_1 ?_
    refine g_isub (pc' := 99) d_22_98 rfl ?_
    have h := h _ rfl
    obtain ⟨hc6, h⟩ := h
    have h := h _ rfl
    refine g_putf (pc' := 102) d_22_99 rfl st_22_24 ft_3_2 ff_3_2 rfl (Or.inl rfl) hw2 hc6 ?_
    exact g_vret d_22_102 rt_22 h
  · replace h := h.2 c
    refine g_iloadn (pc' := 11) d_22_10 rfl rfl ?_
    refine g_iconst (pc' := 12) d_22_11 rfl ci_1 ?_
    refine g_iadd (pc' := 13) d_22_12 rfl ?_
    refine g_bipush (pc' := 15) d_22_13 rfl cb_39 ?_
    refine g_ic_ge (pc' := 18) (pt := 92) d_22_15 (by decide) rfl (fun c => ?_) (fun c => ?_)
    · replace h := h.1 c
      refine g_aloadn (pc' := 93) d_22_92 rfl rfl ?_
      refine g_dup (pc' := 94) d_22_93 rfl rfl ?_
      refine g_getf (pc' := 97) d_22_94 rfl st_22_24 hw2 hv4 ?_
      refine g_iconst (pc' := 98) d_22_97 rfl ci_1 ?_
      refine g_isub (pc' := 99) d_22_98 rfl ?_
      have h := h _ rfl
      obtain ⟨hc9, h⟩ := h
      have h := h _ rfl
      refine g_putf (pc' := 102) d_22_99 rfl st_22_24 ft_3_2 ff_3_2 rfl (Or.inl rfl) hw2 hc9 ?_
      exact g_vret d_22_102 rt_22 h
    · replace h := h.2 c
      refine g_iloadn (pc' := 19) d_22_18 rfl rfl ?_
      refine g_iconst (pc' := 20) d_22_19 rfl ci_1 ?_
      refine g_iadd (pc' := 21) d_22_20 rfl ?_
      refine g_i2l (pc' := 22) d_22_21 rfl ?_
      refine g_aloadn (pc' := 23) d_22_22 rfl rfl ?_
      obtain ⟨b11, hv12, h⟩ := h
      refine g_getf (pc' := 26) d_22_23 rfl st_22_15 hw2 hv12 ?_
      refine g_iloadn (pc' := 27) d_22_26 rfl rfl ?_
      obtain ⟨n13, f14, hw15, h⟩ := h
      obtain ⟨hc16, h⟩ := h
      refine g_lald (pc' := 28) d_22_27 rfl hw15 hc16 ?_
      refine g_aloadn (pc' := 29) d_22_28 rfl rfl ?_
      refine g_getf (pc' := 32) d_22_29 rfl st_22_15 hw2 hv12 ?_
      refine g_iloadn (pc' := 33) d_22_32 rfl rfl ?_
      refine g_iconst (pc' := 34) d_22_33 rfl ci_1 ?_
      refine g_iadd (pc' := 35) d_22_34 rfl ?_
      obtain ⟨hc17, h⟩ := h
      refine g_lald (pc' := 36) d_22_35 rfl hw15 hc17 ?_
      refine g_lsub (pc' := 37) d_22_36 rfl ?_
      refine g_lmul (pc' := 38) d_22_37 rfl ?_
      have h := h _ rfl
      refine g_lstoren (pc' := 39) (l' := [some (.ref a0), some (.int i1), some (.long ((((i1 + (1 : Int32)).toInt64) * ((f14 i1.toNatClampNeg) - (f14 (i1 + (1 : Int32)).toNatClampNeg))))), none]) d_22_38 rfl ml_22 rfl rfl ?_
      refine g_aloadn (pc' := 40) d_22_39 rfl rfl ?_
      obtain ⟨b19, hv20, h⟩ := h
      refine g_getf (pc' := 43) d_22_40 rfl st_22_9 hw2 hv20 ?_
      refine g_iloadn (pc' := 44) d_22_43 rfl rfl ?_
      refine g_iloadn (pc' := 45) d_22_44 rfl rfl ?_
      refine g_iconst (pc' := 46) d_22_45 rfl ci_1 ?_
      refine g_iadd (pc' := 47) d_22_46 rfl ?_
      refine g_i2l (pc' := 48) d_22_47 rfl ?_
      refine g_aloadn (pc' := 49) d_22_48 rfl rfl ?_
      refine g_getf (pc' := 52) d_22_49 rfl st_22_9 hw2 hv20 ?_
      refine g_iloadn (pc' := 53) d_22_52 rfl rfl ?_
      obtain ⟨n21, f22, hw23, h⟩ := h
      obtain ⟨hc24, h⟩ := h
      refine g_lald (pc' := 54) d_22_53 rfl hw23 hc24 ?_
      refine g_aloadn (pc' := 55) d_22_54 rfl rfl ?_
      refine g_getf (pc' := 58) d_22_55 rfl st_22_9 hw2 hv20 ?_
      refine g_iloadn (pc' := 59) d_22_58 rfl rfl ?_
      refine g_iconst (pc' := 60) d_22_59 rfl ci_1 ?_
      refine g_iadd (pc' := 61) d_22_60 rfl ?_
      obtain ⟨hc25, h⟩ := h
      refine g_lald (pc' := 62) d_22_61 rfl hw23 hc25 ?_
      refine g_lsub (pc' := 63) d_22_62 rfl ?_
      refine g_lmul (pc' := 64) d_22_63 rfl ?_
      refine g_lloadn (pc' := 65) d_22_64 rfl rfl ?_
      refine g_ldc2 (pc' := 68) d_22_65 rfl st_22_28 cL_5342931457063200 ?_
      obtain ⟨r28, w26, hk27, h⟩ := h
      refine g_callS (pc' := 71) d_22_68 rfl st_22_30 (Or.inl rfl) na_19 ml_19 rfl rfl rfl rm_22_19 rfl rfl hk27 ?_
      refine g_ladd (pc' := 72) d_22_71 rfl ?_
      obtain ⟨n29, f30, hw31, h⟩ := h
      have h := h _ rfl
      obtain ⟨hc33, h⟩ := h
      have h := h _ rfl
      refine g_last (pc' := 73) d_22_72 rfl hw31 hc33 ?_
      refine g_aloadn (pc' := 74) d_22_73 rfl rfl ?_
      obtain ⟨fs35, hw36, h⟩ := h
      obtain ⟨b37, hv38, h⟩ := h
      refine g_getf (pc' := 77) d_22_74 rfl st_22_15 hw36 hv38 ?_
      refine g_iloadn (pc' := 78) d_22_77 rfl rfl ?_
      refine g_lloadn (pc' := 79) d_22_78 rfl rfl ?_
      refine g_ldc2 (pc' := 82) d_22_79 rfl st_22_28 cL_5342931457063200 ?_
      obtain ⟨r41, w39, hk40, h⟩ := h
      refine g_callS (pc' := 85) d_22_82 rfl st_22_34 (Or.inl rfl) na_17 ml_17 rfl rfl rfl rm_22_17 rfl rfl hk40 ?_
      obtain ⟨n42, f43, hw44, h⟩ := h
      obtain ⟨hc45, h⟩ := h
      have h := h _ rfl
      refine g_last (pc' := 86) d_22_85 rfl hw44 hc45 ?_
      have h := h _ rfl
      refine g_iinc (pc' := 89) (l' := [some (.ref a0), some (.int (i1 + (1 : Int32))), some (.long ((((i1 + (1 : Int32)).toInt64) * ((f14 i1.toNatClampNeg) - (f14 (i1 + (1 : Int32)).toNatClampNeg))))), none]) d_22_86 rfl rfl ci_1 ml_22 rfl rfl ?_
      refine g_goto (pt := 2) d_22_89 (by decide) ?_
      exact xGo.more (xle_s (xle_s (xle_n (xle_n xle_0)))) h
-- 23 BernoulliWays.lay(II)I
theorem S_23_0 {a0 : Nat} {i1 : Int32} {i2 : Int32} {w : xW} {r : Option Value × xW} (h : ∃ r3 w1, xCall 24 [.int i1] w (some (.int r3), w1) ∧ (r3 = 0 → r = (some (.int (-1 : Int32)), w1)) ∧ (¬ (r3 = 0) → ∃ r6 w4, xCall 25 [.int i2] w1 (some (.int r6), w4) ∧ (¬ r6 = 0 → (¬ i2 = 0 → ∃ fs7, w4[a0]? = some (.inr (0, fs7)) ∧ ∃ x9, fs7[7]? = some (.int x9) ∧ ∀ v11 : Int32, v11 = (x9 + (1 : Int32)) → xGo 23 46 [some (.ref a0), some (.int i1), some (.int i2), some (.int (0 : Int32)), some (.int v11)] [] w4 r) ∧ (¬ (¬ i2 = 0) → ∃ fs12, w4[a0]? = some (.inr (0, fs12)) ∧ ∃ x14, fs12[7]? = some (.int x14) ∧ ∃ r18 w16, xCall 26 [.ref a0, .int (x14 + (1 : Int32))] w4 (some (.int r18), w16) ∧ (¬ r18 = 0 → ∃ fs19, w16[a0]? = some (.inr (0, fs19)) ∧ ∃ x21, fs19[7]? = some (.int x21) ∧ ∀ v23 : Int32, v23 = (x21 + (1 : Int32)) → xGo 23 46 [some (.ref a0), some (.int i1), some (.int i2), some (.int (0 : Int32)), some (.int v23)] [] w16 r) ∧ (¬ (¬ r18 = 0) → r = (some (.int (-3 : Int32)), w16)))) ∧ (¬ (¬ r6 = 0) → r = (some (.int (-1 : Int32)), w4)))) : xGo 23 0 [some (.ref a0), some (.int i1), some (.int i2), none, none] [] w r := by
  refine g_iloadn (pc' := 1) d_23_0 rfl rfl ?_
  obtain ⟨r3, w1, hk2, h⟩ := h
  refine g_callS (pc' := 4) d_23_1 rfl st_23_120 (Or.inl rfl) na_24 ml_24 rfl rfl rfl rm_23_24 rfl rfl hk2 ?_
  refine g_if_eq (pc' := 7) (pt := 14) d_23_4 (by decide) rfl (fun c => ?_) (fun c => ?_)
  · replace h := h.1 c
    refine g_iconst (pc' := 15) d_23_14 rfl ci_m1 ?_
    exact g_iret d_23_15 rt_23 h
  · replace h := h.2 c
    refine g_iloadn (pc' := 8) d_23_7 rfl rfl ?_
    obtain ⟨r6, w4, hk5, h⟩ := h
    refine g_callS (pc' := 11) d_23_8 rfl st_23_124 (Or.inl rfl) na_25 ml_25 rfl rfl rfl rm_23_25 rfl rfl hk5 ?_
    refine g_if_ne (pc' := 14) (pt := 16) d_23_11 (by decide) rfl (fun c => ?_) (fun c => ?_)
    · replace h := h.1 c
      refine g_iloadn (pc' := 17) d_23_16 rfl rfl ?_
      refine g_if_ne (pc' := 20) (pt := 36) d_23_17 (by decide) rfl (fun c => ?_) (fun c => ?_)
      · replace h := h.1 c
        refine g_iconst (pc' := 37) d_23_36 rfl ci_0 ?_
        refine g_istoren (pc' := 38) (l' := [some (.ref a0), some (.int i1), some (.int i2), some (.int (0 : Int32)), none]) d_23_37 rfl ml_23 rfl rfl ?_
        refine g_aloadn (pc' := 39) d_23_38 rfl rfl ?_
        obtain ⟨fs7, hw8, h⟩ := h
        obtain ⟨x9, hv10, h⟩ := h
        refine g_getf (pc' := 42) d_23_39 rfl st_23_49 hw8 hv10 ?_
        refine g_iconst (pc' := 43) d_23_42 rfl ci_1 ?_
        refine g_iadd (pc' := 44) d_23_43 rfl ?_
        have h := h _ rfl
        refine g_istore (pc' := 46) (l' := [some (.ref a0), some (.int i1), some (.int i2), some (.int (0 : Int32)), some (.int ((x9 + (1 : Int32))))]) d_23_44 rfl ml_23 rfl rfl ?_
        exact h
      · replace h := h.2 c
        refine g_aloadn (pc' := 21) d_23_20 rfl rfl ?_
        refine g_aloadn (pc' := 22) d_23_21 rfl rfl ?_
        obtain ⟨fs12, hw13, h⟩ := h
        obtain ⟨x14, hv15, h⟩ := h
        refine g_getf (pc' := 25) d_23_22 rfl st_23_49 hw13 hv15 ?_
        refine g_iconst (pc' := 26) d_23_25 rfl ci_1 ?_
        refine g_iadd (pc' := 27) d_23_26 rfl ?_
        obtain ⟨r18, w16, hk17, h⟩ := h
        refine g_callV (pc' := 30) d_23_27 rfl st_23_127 na_26 ml_26 rfl rfl rfl rm_23_26 rfl rfl ow_26 hw13 hk17 ?_
        refine g_if_ne (pc' := 33) (pt := 36) d_23_30 (by decide) rfl (fun c => ?_) (fun c => ?_)
        · replace h := h.1 c
          refine g_iconst (pc' := 37) d_23_36 rfl ci_0 ?_
          refine g_istoren (pc' := 38) (l' := [some (.ref a0), some (.int i1), some (.int i2), some (.int (0 : Int32)), none]) d_23_37 rfl ml_23 rfl rfl ?_
          refine g_aloadn (pc' := 39) d_23_38 rfl rfl ?_
          obtain ⟨fs19, hw20, h⟩ := h
          obtain ⟨x21, hv22, h⟩ := h
          refine g_getf (pc' := 42) d_23_39 rfl st_23_49 hw20 hv22 ?_
          refine g_iconst (pc' := 43) d_23_42 rfl ci_1 ?_
          refine g_iadd (pc' := 44) d_23_43 rfl ?_
          have h := h _ rfl
          refine g_istore (pc' := 46) (l' := [some (.ref a0), some (.int i1), some (.int i2), some (.int (0 : Int32)), some (.int ((x21 + (1 : Int32))))]) d_23_44 rfl ml_23 rfl rfl ?_
          exact h
        · replace h := h.2 c
          refine g_bipush (pc' := 35) d_23_33 rfl cb_m3 ?_
          exact g_iret d_23_35 rt_23 h
    · replace h := h.2 c
      refine g_iconst (pc' := 15) d_23_14 rfl ci_m1 ?_
      exact g_iret d_23_15 rt_23 h
theorem S_23_46 {a0 : Nat} {i1 : Int32} {i2 : Int32} {i3 : Int32} {i4 : Int32} {w : xW} {r : Option Value × xW} (h : (i1 < i4 → r = (some (.int i3), w)) ∧ (¬ (i1 < i4) → ∃ fs1, w[a0]? = some (.inr (0, fs1)) ∧ ∃ r5 w3, xCall 32 [.ref a0, .int i4, .int i2] w (some (.int r5), w3) ∧ ∃ fs6, w3[a0]? = some (.inr (0, fs6)) ∧ (7 < fs6.length) ∧ ∀ w9, w9 = w3.set a0 (.inr (0, fs6.set 7 (.int i4))) → ∀ v10 : Int32, v10 = i3 + (1 : Int32) → ∀ v11 : Int32, v11 = i4 + (1 : Int32) → xGo 23 46 [some (.ref a0), some (.int i1), some (.int i2), some (.int v10), some (.int v11)] [] w9 r)) : xGo 23 46 [some (.ref a0), some (.int i1), some (.int i2), some (.int i3), some (.int i4)] [] w r := by
  refine g_iload (pc' := 48) d_23_46 rfl rfl ?_
  refine g_iloadn (pc' := 49) d_23_48 rfl rfl ?_
  refine g_ic_gt (pc' := 52) (pt := 75) d_23_49 (by decide) rfl (fun c => ?_) (fun c => ?_)
  · replace h := h.1 c
    refine g_iloadn (pc' := 76) d_23_75 rfl rfl ?_
    exact g_iret d_23_76 rt_23 h
  · replace h := h.2 c
    refine g_aloadn (pc' := 53) d_23_52 rfl rfl ?_
    refine g_iload (pc' := 55) d_23_53 rfl rfl ?_
    refine g_iloadn (pc' := 56) d_23_55 rfl rfl ?_
    obtain ⟨fs1, hw2, h⟩ := h
    obtain ⟨r5, w3, hk4, h⟩ := h
    refine g_callV (pc' := 59) d_23_56 rfl st_23_130 na_32 ml_32 rfl rfl rfl rm_23_32 rfl rfl ow_32 hw2 hk4 ?_
    refine g_pop (pc' := 60) d_23_59 rfl rfl ?_
    refine g_aloadn (pc' := 61) d_23_60 rfl rfl ?_
    refine g_iload (pc' := 63) d_23_61 rfl rfl ?_
    obtain ⟨fs6, hw7, h⟩ := h
    obtain ⟨hc8, h⟩ := h
    have h := h _ rfl
    refine g_putf (pc' := 66) d_23_63 rfl st_23_49 ft_0_7 ff_0_7 rfl (Or.inl rfl) hw7 hc8 ?_
    have h := h _ rfl
    refine g_iinc (pc' := 69) (l' := [some (.ref a0), some (.int i1), some (.int i2), some (.int (i3 + (1 : Int32))), some (.int i4)]) d_23_66 rfl rfl ci_1 ml_23 rfl rfl ?_
    have h := h _ rfl
    refine g_iinc (pc' := 72) (l' := [some (.ref a0), some (.int i1), some (.int i2), some (.int (i3 + (1 : Int32))), some (.int (i4 + (1 : Int32)))]) d_23_69 rfl rfl ci_1 ml_23 rfl rfl ?_
    refine g_goto (pt := 46) d_23_72 (by decide) ?_
    exact h
-- 24 BernoulliWays.isEntry(I)Z
theorem S_24_0 {i0 : Int32} {w : xW} {r : Option Value × xW} (h : (i0 < 0 → r = (some (.int (0 : Int32)), w)) ∧ (¬ (i0 < 0) → ((38 : Int32) < i0 → r = (some (.int (0 : Int32)), w)) ∧ (¬ ((38 : Int32) < i0) → r = (some (.int (1 : Int32)), w)))) : xGo 24 0 [some (.int i0)] [] w r := by
  refine g_iloadn (pc' := 1) d_24_0 rfl rfl ?_
  refine g_if_lt (pc' := 4) (pt := 14) d_24_1 (by decide) rfl (fun c => ?_) (fun c => ?_)
  · replace h := h.1 c
    refine g_iconst (pc' := 15) d_24_14 rfl ci_0 ?_
    exact g_zret d_24_15 rt_24 (Or.inl rfl) h
  · replace h := h.2 c
    refine g_iloadn (pc' := 5) d_24_4 rfl rfl ?_
    refine g_bipush (pc' := 7) d_24_5 rfl cb_38 ?_
    refine g_ic_gt (pc' := 10) (pt := 14) d_24_7 (by decide) rfl (fun c => ?_) (fun c => ?_)
    · replace h := h.1 c
      refine g_iconst (pc' := 15) d_24_14 rfl ci_0 ?_
      exact g_zret d_24_15 rt_24 (Or.inl rfl) h
    · replace h := h.2 c
      refine g_iconst (pc' := 11) d_24_10 rfl ci_1 ?_
      refine g_goto (pt := 15) d_24_11 (by decide) ?_
      exact g_zret d_24_15 rt_24 (Or.inr rfl) h
-- 25 BernoulliWays.isWay(I)Z
theorem S_25_0 {i0 : Int32} {w : xW} {r : Option Value × xW} (h : (i0 < 0 → r = (some (.int (0 : Int32)), w)) ∧ (¬ (i0 < 0) → ((2 : Int32) < i0 → r = (some (.int (0 : Int32)), w)) ∧ (¬ ((2 : Int32) < i0) → r = (some (.int (1 : Int32)), w)))) : xGo 25 0 [some (.int i0)] [] w r := by
  refine g_iloadn (pc' := 1) d_25_0 rfl rfl ?_
  refine g_if_lt (pc' := 4) (pt := 13) d_25_1 (by decide) rfl (fun c => ?_) (fun c => ?_)
  · replace h := h.1 c
    refine g_iconst (pc' := 14) d_25_13 rfl ci_0 ?_
    exact g_zret d_25_14 rt_25 (Or.inl rfl) h
  · replace h := h.2 c
    refine g_iloadn (pc' := 5) d_25_4 rfl rfl ?_
    refine g_iconst (pc' := 6) d_25_5 rfl ci_2 ?_
    refine g_ic_gt (pc' := 9) (pt := 13) d_25_6 (by decide) rfl (fun c => ?_) (fun c => ?_)
    · replace h := h.1 c
      refine g_iconst (pc' := 14) d_25_13 rfl ci_0 ?_
      exact g_zret d_25_14 rt_25 (Or.inl rfl) h
    · replace h := h.2 c
      refine g_iconst (pc' := 10) d_25_9 rfl ci_1 ?_
      refine g_goto (pt := 14) d_25_10 (by decide) ?_
      exact g_zret d_25_14 rt_25 (Or.inr rfl) h
-- 26 BernoulliWays.allRightBelow(I)Z
theorem S_26_0 {a0 : Nat} {i1 : Int32} {w : xW} {r : Option Value × xW} (h : xGo 26 2 [some (.ref a0), some (.int i1), some (.int (0 : Int32))] [] w r) : xGo 26 0 [some (.ref a0), some (.int i1), none] [] w r := by
  refine g_iconst (pc' := 1) d_26_0 rfl ci_0 ?_
  refine g_istoren (pc' := 2) (l' := [some (.ref a0), some (.int i1), some (.int (0 : Int32))]) d_26_1 rfl ml_26 rfl rfl ?_
  exact h
theorem S_26_2 {a0 : Nat} {i1 : Int32} {i2 : Int32} {w : xW} {r : Option Value × xW} (h : (i1 ≤ i2 → r = (some (.int (1 : Int32)), w)) ∧ (¬ (i1 ≤ i2) → ∃ fs1, w[a0]? = some (.inr (0, fs1)) ∧ ∃ r5 w3, xCall 27 [.ref a0, .int i2] w (some (.int r5), w3) ∧ (¬ r5 = 0 → ∀ v6 : Int32, v6 = i2 + (1 : Int32) → xGo 26 2 [some (.ref a0), some (.int i1), some (.int v6)] [] w3 r) ∧ (¬ (¬ r5 = 0) → r = (some (.int (0 : Int32)), w3)))) : xGo 26 2 [some (.ref a0), some (.int i1), some (.int i2)] [] w r := by
  refine g_iloadn (pc' := 3) d_26_2 rfl rfl ?_
  refine g_iloadn (pc' := 4) d_26_3 rfl rfl ?_
  refine g_ic_ge (pc' := 7) (pt := 23) d_26_4 (by decide) rfl (fun c => ?_) (fun c => ?_)
  · replace h := h.1 c
    refine g_iconst (pc' := 24) d_26_23 rfl ci_1 ?_
    exact g_zret d_26_24 rt_26 (Or.inr rfl) h
  · replace h := h.2 c
    refine g_aloadn (pc' := 8) d_26_7 rfl rfl ?_
    refine g_iloadn (pc' := 9) d_26_8 rfl rfl ?_
    obtain ⟨fs1, hw2, h⟩ := h
    obtain ⟨r5, w3, hk4, h⟩ := h
    refine g_callV (pc' := 12) d_26_9 rfl st_26_174 na_27 ml_27 rfl rfl rfl rm_26_27 rfl rfl ow_27 hw2 hk4 ?_
    refine g_if_ne (pc' := 15) (pt := 17) d_26_12 (by decide) rfl (fun c => ?_) (fun c => ?_)
    · replace h := h.1 c
      have h := h _ rfl
      refine g_iinc (pc' := 20) (l' := [some (.ref a0), some (.int i1), some (.int (i2 + (1 : Int32)))]) d_26_17 rfl rfl ci_1 ml_26 rfl rfl ?_
      refine g_goto (pt := 2) d_26_20 (by decide) ?_
      exact h
    · replace h := h.2 c
      refine g_iconst (pc' := 16) d_26_15 rfl ci_0 ?_
      exact g_zret d_26_16 rt_26 (Or.inl rfl) h
-- 27 BernoulliWays.isRight(I)Z
theorem S_27_0 {a0 : Nat} {i1 : Int32} {w : xW} {r : Option Value × xW} (h : ∃ fs1, w[a0]? = some (.inr (0, fs1)) ∧ ∃ b3, fs1[4]? = some (.ref b3) ∧ ∃ b5, fs1[3]? = some (.ref b5) ∧ ∃ fs7, w[b3]? = some (.inr (4, fs7)) ∧ ∃ r11 w9, xCall 28 [.ref b3, .int i1, .ref b5] w (some (.int r11), w9) ∧ (r11 = 0 ∨ r11 = 1) ∧ r = (some (.int r11), w9)) : xGo 27 0 [some (.ref a0), some (.int i1)] [] w r := by
  refine g_aloadn (pc' := 1) d_27_0 rfl rfl ?_
  obtain ⟨fs1, hw2, h⟩ := h
  obtain ⟨b3, hv4, h⟩ := h
  refine g_getf (pc' := 4) d_27_1 rfl st_27_39 hw2 hv4 ?_
  refine g_iloadn (pc' := 5) d_27_4 rfl rfl ?_
  refine g_aloadn (pc' := 6) d_27_5 rfl rfl ?_
  obtain ⟨b5, hv6, h⟩ := h
  refine g_getf (pc' := 9) d_27_6 rfl st_27_35 hw2 hv6 ?_
  obtain ⟨fs7, hw8, h⟩ := h
  obtain ⟨r11, w9, hk10, h⟩ := h
  refine g_callV (pc' := 12) d_27_9 rfl st_27_418 na_28 ml_28 rfl rfl rfl rm_27_28 rfl rfl ow_28 hw8 hk10 ?_
  obtain ⟨hc12, h⟩ := h
  exact g_zret d_27_12 rt_27 hc12 h
-- 28 BernoulliWays$Entries.alike(ILBernoulliWays$Entries;)Z
theorem S_28_0 {a0 : Nat} {i1 : Int32} {a2 : Nat} {w : xW} {r : Option Value × xW} (h : ∃ fs1, w[a0]? = some (.inr (4, fs1)) ∧ ∃ r5 w3, xCall 29 [.ref a0, .int i1] w (some (.long r5), w3) ∧ ∃ fs6, w3[a2]? = some (.inr (4, fs6)) ∧ ∃ r10 w8, xCall 29 [.ref a2, .int i1] w3 (some (.long r10), w8) ∧ (¬ r5 = r10 → r = (some (.int (0 : Int32)), w8)) ∧ (¬ (¬ r5 = r10) → ∃ fs11, w8[a0]? = some (.inr (4, fs11)) ∧ ∃ r15 w13, xCall 30 [.ref a0, .int i1] w8 (some (.long r15), w13) ∧ ∃ fs16, w13[a2]? = some (.inr (4, fs16)) ∧ ∃ r20 w18, xCall 30 [.ref a2, .int i1] w13 (some (.long r20), w18) ∧ (¬ r15 = r20 → r = (some (.int (0 : Int32)), w18)) ∧ (¬ (¬ r15 = r20) → ∃ fs21, w18[a0]? = some (.inr (4, fs21)) ∧ ∃ r25 w23, xCall 31 [.ref a0, .int i1] w18 (some (.long r25), w23) ∧ ∃ fs26, w23[a2]? = some (.inr (4, fs26)) ∧ ∃ r30 w28, xCall 31 [.ref a2, .int i1] w23 (some (.long r30), w28) ∧ (¬ r25 = r30 → r = (some (.int (0 : Int32)), w28)) ∧ (¬ (¬ r25 = r30) → r = (some (.int (1 : Int32)), w28))))) : xGo 28 0 [some (.ref a0), some (.int i1), some (.ref a2)] [] w r := by
  refine g_aloadn (pc' := 1) d_28_0 rfl rfl ?_
  refine g_iloadn (pc' := 2) d_28_1 rfl rfl ?_
  obtain ⟨fs1, hw2, h⟩ := h
  obtain ⟨r5, w3, hk4, h⟩ := h
  refine g_callV (pc' := 5) d_28_2 rfl st_28_38 na_29 ml_29 rfl rfl rfl rm_28_29 rfl rfl ow_29 hw2 hk4 ?_
  refine g_aloadn (pc' := 6) d_28_5 rfl rfl ?_
  refine g_iloadn (pc' := 7) d_28_6 rfl rfl ?_
  obtain ⟨fs6, hw7, h⟩ := h
  obtain ⟨r10, w8, hk9, h⟩ := h
  refine g_callV (pc' := 10) d_28_7 rfl st_28_38 na_29 ml_29 rfl rfl rfl rm_28_29 rfl rfl ow_29 hw7 hk9 ?_
  refine g_lc_ne (pc' := 14) (pm := 11) (pt := 46) d_28_10 rfl d_28_11 (by decide) rfl (fun c => ?_) (fun c => ?_)
  · replace h := h.1 c
    refine g_iconst (pc' := 47) d_28_46 rfl ci_0 ?_
    exact g_zret d_28_47 rt_28 (Or.inl rfl) h
  · replace h := h.2 c
    refine g_aloadn (pc' := 15) d_28_14 rfl rfl ?_
    refine g_iloadn (pc' := 16) d_28_15 rfl rfl ?_
    obtain ⟨fs11, hw12, h⟩ := h
    obtain ⟨r15, w13, hk14, h⟩ := h
    refine g_callV (pc' := 19) d_28_16 rfl st_28_42 na_30 ml_30 rfl rfl rfl rm_28_30 rfl rfl ow_30 hw12 hk14 ?_
    refine g_aloadn (pc' := 20) d_28_19 rfl rfl ?_
    refine g_iloadn (pc' := 21) d_28_20 rfl rfl ?_
    obtain ⟨fs16, hw17, h⟩ := h
    obtain ⟨r20, w18, hk19, h⟩ := h
    refine g_callV (pc' := 24) d_28_21 rfl st_28_42 na_30 ml_30 rfl rfl rfl rm_28_30 rfl rfl ow_30 hw17 hk19 ?_
    refine g_lc_ne (pc' := 28) (pm := 25) (pt := 46) d_28_24 rfl d_28_25 (by decide) rfl (fun c => ?_) (fun c => ?_)
    · replace h := h.1 c
      refine g_iconst (pc' := 47) d_28_46 rfl ci_0 ?_
      exact g_zret d_28_47 rt_28 (Or.inl rfl) h
    · replace h := h.2 c
      refine g_aloadn (pc' := 29) d_28_28 rfl rfl ?_
      refine g_iloadn (pc' := 30) d_28_29 rfl rfl ?_
      obtain ⟨fs21, hw22, h⟩ := h
      obtain ⟨r25, w23, hk24, h⟩ := h
      refine g_callV (pc' := 33) d_28_30 rfl st_28_55 na_31 ml_31 rfl rfl rfl rm_28_31 rfl rfl ow_31 hw22 hk24 ?_
      refine g_aloadn (pc' := 34) d_28_33 rfl rfl ?_
      refine g_iloadn (pc' := 35) d_28_34 rfl rfl ?_
      obtain ⟨fs26, hw27, h⟩ := h
      obtain ⟨r30, w28, hk29, h⟩ := h
      refine g_callV (pc' := 38) d_28_35 rfl st_28_55 na_31 ml_31 rfl rfl rfl rm_28_31 rfl rfl ow_31 hw27 hk29 ?_
      refine g_lc_ne (pc' := 42) (pm := 39) (pt := 46) d_28_38 rfl d_28_39 (by decide) rfl (fun c => ?_) (fun c => ?_)
      · replace h := h.1 c
        refine g_iconst (pc' := 47) d_28_46 rfl ci_0 ?_
        exact g_zret d_28_47 rt_28 (Or.inl rfl) h
      · replace h := h.2 c
        refine g_iconst (pc' := 43) d_28_42 rfl ci_1 ?_
        refine g_goto (pt := 47) d_28_43 (by decide) ?_
        exact g_zret d_28_47 rt_28 (Or.inr rfl) h
-- 29 BernoulliWays$Entries.wholeOf(I)J
theorem S_29_0 {a0 : Nat} {i1 : Int32} {w : xW} {r : Option Value × xW} (h : ∃ r3 w1, xCall 21 [.int i1] w (some (.int r3), w1) ∧ (r3 = 0 → r = (some (.long (0 : Int64)), w1)) ∧ (¬ (r3 = 0) → ∃ fs4, w1[a0]? = some (.inr (4, fs4)) ∧ ∃ b6, fs4[0]? = some (.ref b6) ∧ ∃ n8 f9, w1[b6]? = some (.inl (.inr (n8, f9))) ∧ (¬ (i1 < 0 ∨ n8 ≤ i1.toNatClampNeg)) ∧ r = (some (.long (f9 i1.toNatClampNeg)), w1))) : xGo 29 0 [some (.ref a0), some (.int i1)] [] w r := by
  refine g_iloadn (pc' := 1) d_29_0 rfl rfl ?_
  obtain ⟨r3, w1, hk2, h⟩ := h
  refine g_callS (pc' := 4) d_29_1 rfl st_29_34 (Or.inl rfl) na_21 ml_21 rfl rfl rfl rm_29_21 rfl rfl hk2 ?_
  refine g_if_eq (pc' := 7) (pt := 16) d_29_4 (by decide) rfl (fun c => ?_) (fun c => ?_)
  · replace h := h.1 c
    refine g_lconst (pc' := 17) d_29_16 rfl cl_0 ?_
    exact g_lret d_29_17 rt_29 h
  · replace h := h.2 c
    refine g_aloadn (pc' := 8) d_29_7 rfl rfl ?_
    obtain ⟨fs4, hw5, h⟩ := h
    obtain ⟨b6, hv7, h⟩ := h
    refine g_getf (pc' := 11) d_29_8 rfl st_29_9 hw5 hv7 ?_
    refine g_iloadn (pc' := 12) d_29_11 rfl rfl ?_
    obtain ⟨n8, f9, hw10, h⟩ := h
    obtain ⟨hc11, h⟩ := h
    refine g_lald (pc' := 13) d_29_12 rfl hw10 hc11 ?_
    refine g_goto (pt := 17) d_29_13 (by decide) ?_
    exact g_lret d_29_17 rt_29 h
-- 30 BernoulliWays$Entries.aboveOf(I)J
theorem S_30_0 {a0 : Nat} {i1 : Int32} {w : xW} {r : Option Value × xW} (h : ∃ r3 w1, xCall 21 [.int i1] w (some (.int r3), w1) ∧ (r3 = 0 → r = (some (.long (0 : Int64)), w1)) ∧ (¬ (r3 = 0) → ∃ fs4, w1[a0]? = some (.inr (4, fs4)) ∧ ∃ b6, fs4[1]? = some (.ref b6) ∧ ∃ n8 f9, w1[b6]? = some (.inl (.inr (n8, f9))) ∧ (¬ (i1 < 0 ∨ n8 ≤ i1.toNatClampNeg)) ∧ r = (some (.long (f9 i1.toNatClampNeg)), w1))) : xGo 30 0 [some (.ref a0), some (.int i1)] [] w r := by
  refine g_iloadn (pc' := 1) d_30_0 rfl rfl ?_
  obtain ⟨r3, w1, hk2, h⟩ := h
  refine g_callS (pc' := 4) d_30_1 rfl st_30_34 (Or.inl rfl) na_21 ml_21 rfl rfl rfl rm_30_21 rfl rfl hk2 ?_
  refine g_if_eq (pc' := 7) (pt := 16) d_30_4 (by decide) rfl (fun c => ?_) (fun c => ?_)
  · replace h := h.1 c
    refine g_lconst (pc' := 17) d_30_16 rfl cl_0 ?_
    exact g_lret d_30_17 rt_30 h
  · replace h := h.2 c
    refine g_aloadn (pc' := 8) d_30_7 rfl rfl ?_
    obtain ⟨fs4, hw5, h⟩ := h
    obtain ⟨b6, hv7, h⟩ := h
    refine g_getf (pc' := 11) d_30_8 rfl st_30_15 hw5 hv7 ?_
    refine g_iloadn (pc' := 12) d_30_11 rfl rfl ?_
    obtain ⟨n8, f9, hw10, h⟩ := h
    obtain ⟨hc11, h⟩ := h
    refine g_lald (pc' := 13) d_30_12 rfl hw10 hc11 ?_
    refine g_goto (pt := 17) d_30_13 (by decide) ?_
    exact g_lret d_30_17 rt_30 h
-- 31 BernoulliWays$Entries.belowOf(I)J
theorem S_31_0 {a0 : Nat} {i1 : Int32} {w : xW} {r : Option Value × xW} (h : ∃ r3 w1, xCall 21 [.int i1] w (some (.int r3), w1) ∧ (r3 = 0 → r = (some (.long (1 : Int64)), w1)) ∧ (¬ (r3 = 0) → ∃ fs4, w1[a0]? = some (.inr (4, fs4)) ∧ ∃ b6, fs4[2]? = some (.ref b6) ∧ ∃ n8 f9, w1[b6]? = some (.inl (.inr (n8, f9))) ∧ (¬ (i1 < 0 ∨ n8 ≤ i1.toNatClampNeg)) ∧ r = (some (.long (f9 i1.toNatClampNeg)), w1))) : xGo 31 0 [some (.ref a0), some (.int i1)] [] w r := by
  refine g_iloadn (pc' := 1) d_31_0 rfl rfl ?_
  obtain ⟨r3, w1, hk2, h⟩ := h
  refine g_callS (pc' := 4) d_31_1 rfl st_31_34 (Or.inl rfl) na_21 ml_21 rfl rfl rfl rm_31_21 rfl rfl hk2 ?_
  refine g_if_eq (pc' := 7) (pt := 16) d_31_4 (by decide) rfl (fun c => ?_) (fun c => ?_)
  · replace h := h.1 c
    refine g_lconst (pc' := 17) d_31_16 rfl cl_1 ?_
    exact g_lret d_31_17 rt_31 h
  · replace h := h.2 c
    refine g_aloadn (pc' := 8) d_31_7 rfl rfl ?_
    obtain ⟨fs4, hw5, h⟩ := h
    obtain ⟨b6, hv7, h⟩ := h
    refine g_getf (pc' := 11) d_31_8 rfl st_31_18 hw5 hv7 ?_
    refine g_iloadn (pc' := 12) d_31_11 rfl rfl ?_
    obtain ⟨n8, f9, hw10, h⟩ := h
    obtain ⟨hc11, h⟩ := h
    refine g_lald (pc' := 13) d_31_12 rfl hw10 hc11 ?_
    refine g_goto (pt := 17) d_31_13 (by decide) ?_
    exact g_lret d_31_17 rt_31 h
-- 32 BernoulliWays.layOne(II)Z
theorem S_32_0 {a0 : Nat} {i1 : Int32} {i2 : Int32} {w : xW} {r : Option Value × xW} (h : ∃ fs1, w[a0]? = some (.inr (0, fs1)) ∧ ∃ w3, xCall 33 [.ref a0, .int i1, .int i2] w (none, w3) ∧ ∃ fs5, w3[a0]? = some (.inr (0, fs5)) ∧ ∃ b7, fs5[4]? = some (.ref b7) ∧ ∃ b9, fs5[13]? = some (.ref b9) ∧ ∃ fs11, w3[b7]? = some (.inr (4, fs11)) ∧ ∃ r15 w13, xCall 56 [.ref b7, .int i1, .ref b9] w3 (some (.int r15), w13) ∧ (¬ r15 = 0 → ∃ fs16, w13[a0]? = some (.inr (0, fs16)) ∧ ∃ b18, fs16[4]? = some (.ref b18) ∧ ∃ b20, fs16[13]? = some (.ref b20) ∧ ∃ fs22, w13[b18]? = some (.inr (4, fs22)) ∧ ∃ w24, xCall 20 [.ref b18, .int i1, .ref b20] w13 (none, w24) ∧ ∃ fs26, w24[a0]? = some (.inr (0, fs26)) ∧ ∃ w28, xCall 57 [.ref a0, .int i1, .int i2] w24 (none, w28) ∧ r = (some (.int (0 : Int32)), w28)) ∧ (¬ (¬ r15 = 0) → ∃ fs30, w13[a0]? = some (.inr (0, fs30)) ∧ ∃ b32, fs30[4]? = some (.ref b32) ∧ ∃ b34, fs30[13]? = some (.ref b34) ∧ ∃ fs36, w13[b32]? = some (.inr (4, fs36)) ∧ ∃ w38, xCall 20 [.ref b32, .int i1, .ref b34] w13 (none, w38) ∧ ∃ fs40, w38[a0]? = some (.inr (0, fs40)) ∧ ∃ w42, xCall 57 [.ref a0, .int i1, .int i2] w38 (none, w42) ∧ r = (some (.int (1 : Int32)), w42))) : xGo 32 0 [some (.ref a0), some (.int i1), some (.int i2), none] [] w r := by
  refine g_aloadn (pc' := 1) d_32_0 rfl rfl ?_
  refine g_iloadn (pc' := 2) d_32_1 rfl rfl ?_
  refine g_iloadn (pc' := 3) d_32_2 rfl rfl ?_
  obtain ⟨fs1, hw2, h⟩ := h
  obtain ⟨w3, hk4, h⟩ := h
  refine g_callV (pc' := 6) d_32_3 rfl st_32_177 na_33 ml_33 rfl rfl rfl rm_32_33 rfl rfl ow_33 hw2 hk4 ?_
  refine g_aloadn (pc' := 7) d_32_6 rfl rfl ?_
  obtain ⟨fs5, hw6, h⟩ := h
  obtain ⟨b7, hv8, h⟩ := h
  refine g_getf (pc' := 10) d_32_7 rfl st_32_39 hw6 hv8 ?_
  refine g_iloadn (pc' := 11) d_32_10 rfl rfl ?_
  refine g_aloadn (pc' := 12) d_32_11 rfl rfl ?_
  obtain ⟨b9, hv10, h⟩ := h
  refine g_getf (pc' := 15) d_32_12 rfl st_32_95 hw6 hv10 ?_
  obtain ⟨fs11, hw12, h⟩ := h
  obtain ⟨r15, w13, hk14, h⟩ := h
  refine g_callV (pc' := 18) d_32_15 rfl st_32_180 na_56 ml_56 rfl rfl rfl rm_32_56 rfl rfl ow_56 hw12 hk14 ?_
  refine g_if_ne (pc' := 21) (pt := 25) d_32_18 (by decide) rfl (fun c => ?_) (fun c => ?_)
  · replace h := h.1 c
    refine g_iconst (pc' := 26) d_32_25 rfl ci_0 ?_
    refine g_istoren (pc' := 27) (l' := [some (.ref a0), some (.int i1), some (.int i2), some (.int (0 : Int32))]) d_32_26 rfl ml_32 rfl rfl ?_
    refine g_aloadn (pc' := 28) d_32_27 rfl rfl ?_
    obtain ⟨fs16, hw17, h⟩ := h
    obtain ⟨b18, hv19, h⟩ := h
    refine g_getf (pc' := 31) d_32_28 rfl st_32_39 hw17 hv19 ?_
    refine g_iloadn (pc' := 32) d_32_31 rfl rfl ?_
    refine g_aloadn (pc' := 33) d_32_32 rfl rfl ?_
    obtain ⟨b20, hv21, h⟩ := h
    refine g_getf (pc' := 36) d_32_33 rfl st_32_95 hw17 hv21 ?_
    obtain ⟨fs22, hw23, h⟩ := h
    obtain ⟨w24, hk25, h⟩ := h
    refine g_callV (pc' := 39) d_32_36 rfl st_32_114 na_20 ml_20 rfl rfl rfl rm_32_20 rfl rfl ow_20 hw23 hk25 ?_
    refine g_aloadn (pc' := 40) d_32_39 rfl rfl ?_
    refine g_iloadn (pc' := 41) d_32_40 rfl rfl ?_
    refine g_iloadn (pc' := 42) d_32_41 rfl rfl ?_
    obtain ⟨fs26, hw27, h⟩ := h
    obtain ⟨w28, hk29, h⟩ := h
    refine g_callV (pc' := 45) d_32_42 rfl st_32_138 na_57 ml_57 rfl rfl rfl rm_32_57 rfl rfl ow_57 hw27 hk29 ?_
    refine g_iloadn (pc' := 46) d_32_45 rfl rfl ?_
    exact g_zret d_32_46 rt_32 (Or.inl rfl) h
  · replace h := h.2 c
    refine g_iconst (pc' := 22) d_32_21 rfl ci_1 ?_
    refine g_goto (pt := 26) d_32_22 (by decide) ?_
    refine g_istoren (pc' := 27) (l' := [some (.ref a0), some (.int i1), some (.int i2), some (.int (1 : Int32))]) d_32_26 rfl ml_32 rfl rfl ?_
    refine g_aloadn (pc' := 28) d_32_27 rfl rfl ?_
    obtain ⟨fs30, hw31, h⟩ := h
    obtain ⟨b32, hv33, h⟩ := h
    refine g_getf (pc' := 31) d_32_28 rfl st_32_39 hw31 hv33 ?_
    refine g_iloadn (pc' := 32) d_32_31 rfl rfl ?_
    refine g_aloadn (pc' := 33) d_32_32 rfl rfl ?_
    obtain ⟨b34, hv35, h⟩ := h
    refine g_getf (pc' := 36) d_32_33 rfl st_32_95 hw31 hv35 ?_
    obtain ⟨fs36, hw37, h⟩ := h
    obtain ⟨w38, hk39, h⟩ := h
    refine g_callV (pc' := 39) d_32_36 rfl st_32_114 na_20 ml_20 rfl rfl rfl rm_32_20 rfl rfl ow_20 hw37 hk39 ?_
    refine g_aloadn (pc' := 40) d_32_39 rfl rfl ?_
    refine g_iloadn (pc' := 41) d_32_40 rfl rfl ?_
    refine g_iloadn (pc' := 42) d_32_41 rfl rfl ?_
    obtain ⟨fs40, hw41, h⟩ := h
    obtain ⟨w42, hk43, h⟩ := h
    refine g_callV (pc' := 45) d_32_42 rfl st_32_138 na_57 ml_57 rfl rfl rfl rm_32_57 rfl rfl ow_57 hw41 hk43 ?_
    refine g_iloadn (pc' := 46) d_32_45 rfl rfl ?_
    exact g_zret d_32_46 rt_32 (Or.inr rfl) h
-- 33 BernoulliWays.work(II)V
theorem S_33_0 {a0 : Nat} {i1 : Int32} {i2 : Int32} {w : xW} {r : Option Value × xW} (h : (¬ i2 = 0 → (¬ i2 = (1 : Int32) → ∃ fs1, w[a0]? = some (.inr (0, fs1)) ∧ ∃ w3, xCall 46 [.ref a0, .int i1] w (none, w3) ∧ r = (none, w3)) ∧ (¬ (¬ i2 = (1 : Int32)) → ∃ fs5, w[a0]? = some (.inr (0, fs5)) ∧ ∃ w7, xCall 45 [.ref a0, .int i1] w (none, w7) ∧ r = (none, w7))) ∧ (¬ (¬ i2 = 0) → ∃ fs9, w[a0]? = some (.inr (0, fs9)) ∧ ∃ w11, xCall 34 [.ref a0, .int i1] w (none, w11) ∧ r = (none, w11))) : xGo 33 0 [some (.ref a0), some (.int i1), some (.int i2)] [] w r := by
  refine g_iloadn (pc' := 1) d_33_0 rfl rfl ?_
  refine g_if_ne (pc' := 4) (pt := 12) d_33_1 (by decide) rfl (fun c => ?_) (fun c => ?_)
  · replace h := h.1 c
    refine g_iloadn (pc' := 13) d_33_12 rfl rfl ?_
    refine g_iconst (pc' := 14) d_33_13 rfl ci_1 ?_
    refine g_ic_ne (pc' := 17) (pt := 25) d_33_14 (by decide) rfl (fun c => ?_) (fun c => ?_)
    · replace h := h.1 c
      refine g_aloadn (pc' := 26) d_33_25 rfl rfl ?_
      refine g_iloadn (pc' := 27) d_33_26 rfl rfl ?_
      obtain ⟨fs1, hw2, h⟩ := h
      obtain ⟨w3, hk4, h⟩ := h
      refine g_callV (pc' := 30) d_33_27 rfl st_33_428 na_46 ml_46 rfl rfl rfl rm_33_46 rfl rfl ow_46 hw2 hk4 ?_
      exact g_vret d_33_30 rt_33 h
    · replace h := h.2 c
      refine g_aloadn (pc' := 18) d_33_17 rfl rfl ?_
      refine g_iloadn (pc' := 19) d_33_18 rfl rfl ?_
      obtain ⟨fs5, hw6, h⟩ := h
      obtain ⟨w7, hk8, h⟩ := h
      refine g_callV (pc' := 22) d_33_19 rfl st_33_425 na_45 ml_45 rfl rfl rfl rm_33_45 rfl rfl ow_45 hw6 hk8 ?_
      refine g_goto (pt := 30) d_33_22 (by decide) ?_
      exact g_vret d_33_30 rt_33 h
  · replace h := h.2 c
    refine g_aloadn (pc' := 5) d_33_4 rfl rfl ?_
    refine g_iloadn (pc' := 6) d_33_5 rfl rfl ?_
    obtain ⟨fs9, hw10, h⟩ := h
    obtain ⟨w11, hk12, h⟩ := h
    refine g_callV (pc' := 9) d_33_6 rfl st_33_422 na_34 ml_34 rfl rfl rfl rm_33_34 rfl rfl ow_34 hw10 hk12 ?_
    refine g_goto (pt := 30) d_33_9 (by decide) ?_
    exact g_vret d_33_30 rt_33 h
-- 34 BernoulliWays.workRecurrence(I)V
theorem S_34_0 {a0 : Nat} {i1 : Int32} {w : xW} {r : Option Value × xW} (h : ((1 : Int32) ≤ i1 → ∃ fs1, w[a0]? = some (.inr (0, fs1)) ∧ ∃ b3, fs1[8]? = some (.ref b3) ∧ ∃ fs5, w[b3]? = some (.inr (6, fs5)) ∧ ∃ w7, xCall 36 [.ref b3, .int i1, .int (i1 - (1 : Int32))] w (none, w7) ∧ ∃ fs9, w7[a0]? = some (.inr (0, fs9)) ∧ ∃ b11, fs9[1]? = some (.ref b11) ∧ ∃ b13, fs9[13]? = some (.ref b13) ∧ ∃ fs15, w7[b11]? = some (.inr (2, fs15)) ∧ ∃ w17, xCall 42 [.ref b11, .ref b13] w7 (none, w17) ∧ ∃ fs19, w17[a0]? = some (.inr (0, fs19)) ∧ ∃ b21, fs19[13]? = some (.ref b21) ∧ ∃ fs23, w17[b21]? = some (.inr (5, fs23)) ∧ ∃ w25, xCall 43 [.ref b21, .long (-1 : Int64)] w17 (none, w25) ∧ ∃ fs27, w25[a0]? = some (.inr (0, fs27)) ∧ ∃ b29, fs27[13]? = some (.ref b29) ∧ ∃ fs31, w25[b29]? = some (.inr (5, fs31)) ∧ ∃ w33, xCall 44 [.ref b29, .long ((i1 + (1 : Int32)).toInt64)] w25 (none, w33) ∧ r = (none, w33)) ∧ (¬ ((1 : Int32) ≤ i1) → ∃ fs35, w[a0]? = some (.inr (0, fs35)) ∧ ∃ w37, xCall 35 [.ref a0, .int i1] w (none, w37) ∧ r = (none, w37))) : xGo 34 0 [some (.ref a0), some (.int i1)] [] w r := by
  refine g_iloadn (pc' := 1) d_34_0 rfl rfl ?_
  refine g_iconst (pc' := 2) d_34_1 rfl ci_1 ?_
  refine g_ic_ge (pc' := 5) (pt := 11) d_34_2 (by decide) rfl (fun c => ?_) (fun c => ?_)
  · replace h := h.1 c
    refine g_aloadn (pc' := 12) d_34_11 rfl rfl ?_
    obtain ⟨fs1, hw2, h⟩ := h
    obtain ⟨b3, hv4, h⟩ := h
    refine g_getf (pc' := 15) d_34_12 rfl st_34_58 hw2 hv4 ?_
    refine g_iloadn (pc' := 16) d_34_15 rfl rfl ?_
    refine g_iloadn (pc' := 17) d_34_16 rfl rfl ?_
    refine g_iconst (pc' := 18) d_34_17 rfl ci_1 ?_
    refine g_isub (pc' := 19) d_34_18 rfl ?_
    obtain ⟨fs5, hw6, h⟩ := h
    obtain ⟨w7, hk8, h⟩ := h
    refine g_callV (pc' := 22) d_34_19 rfl st_34_281 na_36 ml_36 rfl rfl rfl rm_34_36 rfl rfl ow_36 hw6 hk8 ?_
    refine g_aloadn (pc' := 23) d_34_22 rfl rfl ?_
    obtain ⟨fs9, hw10, h⟩ := h
    obtain ⟨b11, hv12, h⟩ := h
    refine g_getf (pc' := 26) d_34_23 rfl st_34_21 hw10 hv12 ?_
    refine g_aloadn (pc' := 27) d_34_26 rfl rfl ?_
    obtain ⟨b13, hv14, h⟩ := h
    refine g_getf (pc' := 30) d_34_27 rfl st_34_95 hw10 hv14 ?_
    obtain ⟨fs15, hw16, h⟩ := h
    obtain ⟨w17, hk18, h⟩ := h
    refine g_callV (pc' := 33) d_34_30 rfl st_34_214 na_42 ml_42 rfl rfl rfl rm_34_42 rfl rfl ow_42 hw16 hk18 ?_
    refine g_aloadn (pc' := 34) d_34_33 rfl rfl ?_
    obtain ⟨fs19, hw20, h⟩ := h
    obtain ⟨b21, hv22, h⟩ := h
    refine g_getf (pc' := 37) d_34_34 rfl st_34_95 hw20 hv22 ?_
    refine g_ldc2 (pc' := 40) d_34_37 rfl st_34_387 cL_m1 ?_
    obtain ⟨fs23, hw24, h⟩ := h
    obtain ⟨w25, hk26, h⟩ := h
    refine g_callV (pc' := 43) d_34_40 rfl st_34_339 na_43 ml_43 rfl rfl rfl rm_34_43 rfl rfl ow_43 hw24 hk26 ?_
    refine g_aloadn (pc' := 44) d_34_43 rfl rfl ?_
    obtain ⟨fs27, hw28, h⟩ := h
    obtain ⟨b29, hv30, h⟩ := h
    refine g_getf (pc' := 47) d_34_44 rfl st_34_95 hw28 hv30 ?_
    refine g_iloadn (pc' := 48) d_34_47 rfl rfl ?_
    refine g_iconst (pc' := 49) d_34_48 rfl ci_1 ?_
    refine g_iadd (pc' := 50) d_34_49 rfl ?_
    refine g_i2l (pc' := 51) d_34_50 rfl ?_
    obtain ⟨fs31, hw32, h⟩ := h
    obtain ⟨w33, hk34, h⟩ := h
    refine g_callV (pc' := 54) d_34_51 rfl st_34_342 na_44 ml_44 rfl rfl rfl rm_34_44 rfl rfl ow_44 hw32 hk34 ?_
    exact g_vret d_34_54 rt_34 h
  · replace h := h.2 c
    refine g_aloadn (pc' := 6) d_34_5 rfl rfl ?_
    refine g_iloadn (pc' := 7) d_34_6 rfl rfl ?_
    obtain ⟨fs35, hw36, h⟩ := h
    obtain ⟨w37, hk38, h⟩ := h
    refine g_callV (pc' := 10) d_34_7 rfl st_34_431 na_35 ml_35 rfl rfl rfl rm_34_35 rfl rfl ow_35 hw36 hk38 ?_
    exact g_vret d_34_10 rt_34 h
-- 35 BernoulliWays.workAsTold(I)V
theorem S_35_0 {a0 : Nat} {i1 : Int32} {w : xW} {r : Option Value × xW} (h : (¬ i1 = 0 → (¬ i1 = (1 : Int32) → ∃ fs1, w[a0]? = some (.inr (0, fs1)) ∧ ∃ b3, fs1[13]? = some (.ref b3) ∧ ∃ fs5, w[b3]? = some (.inr (5, fs5)) ∧ ∃ w7, xCall 16 [.ref b3, .long (0 : Int64), .long (0 : Int64), .long (1 : Int64)] w (none, w7) ∧ r = (none, w7)) ∧ (¬ (¬ i1 = (1 : Int32)) → ∃ fs9, w[a0]? = some (.inr (0, fs9)) ∧ ∃ b11, fs9[13]? = some (.ref b11) ∧ ∃ fs13, w[b11]? = some (.inr (5, fs13)) ∧ ∃ w15, xCall 16 [.ref b11, .long (0 : Int64), .long (-1 : Int64), .long (2 : Int64)] w (none, w15) ∧ r = (none, w15))) ∧ (¬ (¬ i1 = 0) → ∃ fs17, w[a0]? = some (.inr (0, fs17)) ∧ ∃ b19, fs17[13]? = some (.ref b19) ∧ ∃ fs21, w[b19]? = some (.inr (5, fs21)) ∧ ∃ w23, xCall 16 [.ref b19, .long (1 : Int64), .long (0 : Int64), .long (1 : Int64)] w (none, w23) ∧ r = (none, w23))) : xGo 35 0 [some (.ref a0), some (.int i1)] [] w r := by
  refine g_iloadn (pc' := 1) d_35_0 rfl rfl ?_
  refine g_if_ne (pc' := 4) (pt := 17) d_35_1 (by decide) rfl (fun c => ?_) (fun c => ?_)
  · replace h := h.1 c
    refine g_iloadn (pc' := 18) d_35_17 rfl rfl ?_
    refine g_iconst (pc' := 19) d_35_18 rfl ci_1 ?_
    refine g_ic_ne (pc' := 22) (pt := 39) d_35_19 (by decide) rfl (fun c => ?_) (fun c => ?_)
    · replace h := h.1 c
      refine g_aloadn (pc' := 40) d_35_39 rfl rfl ?_
      obtain ⟨fs1, hw2, h⟩ := h
      obtain ⟨b3, hv4, h⟩ := h
      refine g_getf (pc' := 43) d_35_40 rfl st_35_95 hw2 hv4 ?_
      refine g_lconst (pc' := 44) d_35_43 rfl cl_0 ?_
      refine g_lconst (pc' := 45) d_35_44 rfl cl_0 ?_
      refine g_lconst (pc' := 46) d_35_45 rfl cl_1 ?_
      obtain ⟨fs5, hw6, h⟩ := h
      obtain ⟨w7, hk8, h⟩ := h
      refine g_callV (pc' := 49) d_35_46 rfl st_35_327 na_16 ml_16 rfl rfl rfl rm_35_16 rfl rfl ow_16 hw6 hk8 ?_
      exact g_vret d_35_49 rt_35 h
    · replace h := h.2 c
      refine g_aloadn (pc' := 23) d_35_22 rfl rfl ?_
      obtain ⟨fs9, hw10, h⟩ := h
      obtain ⟨b11, hv12, h⟩ := h
      refine g_getf (pc' := 26) d_35_23 rfl st_35_95 hw10 hv12 ?_
      refine g_lconst (pc' := 27) d_35_26 rfl cl_0 ?_
      refine g_ldc2 (pc' := 30) d_35_27 rfl st_35_387 cL_m1 ?_
      refine g_ldc2 (pc' := 33) d_35_30 rfl st_35_389 cL_2 ?_
      obtain ⟨fs13, hw14, h⟩ := h
      obtain ⟨w15, hk16, h⟩ := h
      refine g_callV (pc' := 36) d_35_33 rfl st_35_327 na_16 ml_16 rfl rfl rfl rm_35_16 rfl rfl ow_16 hw14 hk16 ?_
      refine g_goto (pt := 49) d_35_36 (by decide) ?_
      exact g_vret d_35_49 rt_35 h
  · replace h := h.2 c
    refine g_aloadn (pc' := 5) d_35_4 rfl rfl ?_
    obtain ⟨fs17, hw18, h⟩ := h
    obtain ⟨b19, hv20, h⟩ := h
    refine g_getf (pc' := 8) d_35_5 rfl st_35_95 hw18 hv20 ?_
    refine g_lconst (pc' := 9) d_35_8 rfl cl_1 ?_
    refine g_lconst (pc' := 10) d_35_9 rfl cl_0 ?_
    refine g_lconst (pc' := 11) d_35_10 rfl cl_1 ?_
    obtain ⟨fs21, hw22, h⟩ := h
    obtain ⟨w23, hk24, h⟩ := h
    refine g_callV (pc' := 14) d_35_11 rfl st_35_327 na_16 ml_16 rfl rfl rfl rm_35_16 rfl rfl ow_16 hw22 hk24 ?_
    refine g_goto (pt := 49) d_35_14 (by decide) ?_
    exact g_vret d_35_49 rt_35 h
-- 36 BernoulliWays$Checks.addUp(II)V
theorem S_36_0 {a0 : Nat} {i1 : Int32} {i2 : Int32} {w : xW} {r : Option Value × xW} (h : ∃ fs1, w[a0]? = some (.inr (6, fs1)) ∧ ∃ b3, fs1[2]? = some (.ref b3) ∧ ∃ fs5, w[b3]? = some (.inr (2, fs5)) ∧ ∃ w7, xCall 37 [.ref b3, .long (7420738134810 : Int64)] w (none, w7) ∧ xGo 36 12 [some (.ref a0), some (.int i1), some (.int i2), some (.int (0 : Int32))] [] w7 r) : xGo 36 0 [some (.ref a0), some (.int i1), some (.int i2), none] [] w r := by
  refine g_aloadn (pc' := 1) d_36_0 rfl rfl ?_
  obtain ⟨fs1, hw2, h⟩ := h
  obtain ⟨b3, hv4, h⟩ := h
  refine g_getf (pc' := 4) d_36_1 rfl st_36_19 hw2 hv4 ?_
  refine g_ldc2 (pc' := 7) d_36_4 rfl st_36_48 cL_7420738134810 ?_
  obtain ⟨fs5, hw6, h⟩ := h
  obtain ⟨w7, hk8, h⟩ := h
  refine g_callV (pc' := 10) d_36_7 rfl st_36_50 na_37 ml_37 rfl rfl rfl rm_36_37 rfl rfl ow_37 hw6 hk8 ?_
  refine g_iconst (pc' := 11) d_36_10 rfl ci_0 ?_
  refine g_istoren (pc' := 12) (l' := [some (.ref a0), some (.int i1), some (.int i2), some (.int (0 : Int32))]) d_36_11 rfl ml_36 rfl rfl ?_
  exact h
theorem S_36_12 {a0 : Nat} {i1 : Int32} {i2 : Int32} {i3 : Int32} {w : xW} {r : Option Value × xW} (h : (i2 < i3 → r = (none, w)) ∧ (¬ (i2 < i3) → ∃ fs1, w[a0]? = some (.inr (6, fs1)) ∧ ∃ b3, fs1[1]? = some (.ref b3) ∧ ∃ fs5, w[b3]? = some (.inr (1, fs5)) ∧ ∃ r9 w7, xCall 39 [.ref b3, .int (i1 + (1 : Int32)), .int i3] w (some (.long r9), w7) ∧ ∃ fs10, w7[a0]? = some (.inr (6, fs10)) ∧ ∃ w12, xCall 40 [.ref a0, .long r9, .int i3] w7 (none, w12) ∧ ∀ v14 : Int32, v14 = i3 + (1 : Int32) → xGo 36 12 [some (.ref a0), some (.int i1), some (.int i2), some (.int v14)] [] w12 r)) : xGo 36 12 [some (.ref a0), some (.int i1), some (.int i2), some (.int i3)] [] w r := by
  refine g_iloadn (pc' := 13) d_36_12 rfl rfl ?_
  refine g_iloadn (pc' := 14) d_36_13 rfl rfl ?_
  refine g_ic_gt (pc' := 17) (pt := 39) d_36_14 (by decide) rfl (fun c => ?_) (fun c => ?_)
  · replace h := h.1 c
    exact g_vret d_36_39 rt_36 h
  · replace h := h.2 c
    refine g_aloadn (pc' := 18) d_36_17 rfl rfl ?_
    refine g_aloadn (pc' := 19) d_36_18 rfl rfl ?_
    obtain ⟨fs1, hw2, h⟩ := h
    obtain ⟨b3, hv4, h⟩ := h
    refine g_getf (pc' := 22) d_36_19 rfl st_36_15 hw2 hv4 ?_
    refine g_iloadn (pc' := 23) d_36_22 rfl rfl ?_
    refine g_iconst (pc' := 24) d_36_23 rfl ci_1 ?_
    refine g_iadd (pc' := 25) d_36_24 rfl ?_
    refine g_iloadn (pc' := 26) d_36_25 rfl rfl ?_
    obtain ⟨fs5, hw6, h⟩ := h
    obtain ⟨r9, w7, hk8, h⟩ := h
    refine g_callV (pc' := 29) d_36_26 rfl st_36_56 na_39 ml_39 rfl rfl rfl rm_36_39 rfl rfl ow_39 hw6 hk8 ?_
    refine g_iloadn (pc' := 30) d_36_29 rfl rfl ?_
    obtain ⟨fs10, hw11, h⟩ := h
    obtain ⟨w12, hk13, h⟩ := h
    refine g_callV (pc' := 33) d_36_30 rfl st_36_62 na_40 ml_40 rfl rfl rfl rm_36_40 rfl rfl ow_40 hw11 hk13 ?_
    have h := h _ rfl
    refine g_iinc (pc' := 36) (l' := [some (.ref a0), some (.int i1), some (.int i2), some (.int (i3 + (1 : Int32)))]) d_36_33 rfl rfl ci_1 ml_36 rfl rfl ?_
    refine g_goto (pt := 12) d_36_36 (by decide) ?_
    exact h
-- 37 BernoulliWays$Total.begin(J)V
theorem S_37_0 {a0 : Nat} {l1 : Int64} {w : xW} {r : Option Value × xW} (h : ∃ r3 w1, xCall 38 [.long l1, .long (1 : Int64)] w (some (.long r3), w1) ∧ ∃ fs4, w1[a0]? = some (.inr (2, fs4)) ∧ (0 < fs4.length) ∧ ∀ w7, w7 = w1.set a0 (.inr (2, fs4.set 0 (.long r3))) → (1 < (fs4.set 0 (.long r3)).length) ∧ ∀ w9, w9 = w7.set a0 (.inr (2, (fs4.set 0 (.long r3)).set 1 (.long (0 : Int64)))) → (2 < ((fs4.set 0 (.long r3)).set 1 (.long (0 : Int64))).length) ∧ ∀ w11, w11 = w9.set a0 (.inr (2, ((fs4.set 0 (.long r3)).set 1 (.long (0 : Int64))).set 2 (.long (0 : Int64)))) → r = (none, w11)) : xGo 37 0 [some (.ref a0), some (.long l1), none] [] w r := by
  refine g_aloadn (pc' := 1) d_37_0 rfl rfl ?_
  refine g_lloadn (pc' := 2) d_37_1 rfl rfl ?_
  refine g_lconst (pc' := 3) d_37_2 rfl cl_1 ?_
  obtain ⟨r3, w1, hk2, h⟩ := h
  refine g_callS (pc' := 6) d_37_3 rfl st_37_13 (Or.inl rfl) na_38 ml_38 rfl rfl rfl rm_37_38 rfl rfl hk2 ?_
  obtain ⟨fs4, hw5, h⟩ := h
  obtain ⟨hc6, h⟩ := h
  have h := h _ rfl
  refine g_putf (pc' := 9) d_37_6 rfl st_37_7 ft_2_0 ff_2_0 rfl (Or.inl rfl) hw5 hc6 ?_
  refine g_aloadn (pc' := 10) d_37_9 rfl rfl ?_
  refine g_lconst (pc' := 11) d_37_10 rfl cl_0 ?_
  obtain ⟨hc8, h⟩ := h
  have h := h _ rfl
  refine g_putf (pc' := 14) d_37_11 rfl st_37_19 ft_2_1 ff_2_1 rfl (Or.inl rfl) (x_gss hw5) hc8 ?_
  refine g_aloadn (pc' := 15) d_37_14 rfl rfl ?_
  refine g_lconst (pc' := 16) d_37_15 rfl cl_0 ?_
  obtain ⟨hc10, h⟩ := h
  have h := h _ rfl
  refine g_putf (pc' := 19) d_37_16 rfl st_37_22 ft_2_2 ff_2_2 rfl (Or.inl rfl) (x_gss (x_gss hw5)) hc10 ?_
  exact g_vret d_37_19 rt_37 h
-- 38 java/lang/Math.max(JJ)J
theorem S_38_0 {l0 : Int64} {l2 : Int64} {w : xW} {r : Option Value × xW} (h : (l0 < l2 → r = (some (.long l2), w)) ∧ (¬ (l0 < l2) → r = (some (.long l0), w))) : xGo 38 0 [some (.long l0), none, some (.long l2), none] [] w r := by
  refine g_lloadn (pc' := 1) d_38_0 rfl rfl ?_
  refine g_lloadn (pc' := 2) d_38_1 rfl rfl ?_
  refine g_lc_lt (pc' := 6) (pm := 3) (pt := 10) d_38_2 rfl d_38_3 (by decide) rfl (fun c => ?_) (fun c => ?_)
  · replace h := h.1 c
    refine g_lloadn (pc' := 11) d_38_10 rfl rfl ?_
    exact g_lret d_38_11 rt_38 h
  · replace h := h.2 c
    refine g_lloadn (pc' := 7) d_38_6 rfl rfl ?_
    refine g_goto (pt := 11) d_38_7 (by decide) ?_
    exact g_lret d_38_11 rt_38 h
-- 39 BernoulliWays$Choose.of(II)J
theorem S_39_0 {a0 : Nat} {i1 : Int32} {i2 : Int32} {w : xW} {r : Option Value × xW} (h : (i1 < 0 → r = (some (.long (0 : Int64)), w)) ∧ (¬ (i1 < 0) → ((42 : Int32) ≤ i1 → r = (some (.long (0 : Int64)), w)) ∧ (¬ ((42 : Int32) ≤ i1) → (i2 < 0 → r = (some (.long (0 : Int64)), w)) ∧ (¬ (i2 < 0) → ((42 : Int32) ≤ i2 → r = (some (.long (0 : Int64)), w)) ∧ (¬ ((42 : Int32) ≤ i2) → ∃ fs1, w[a0]? = some (.inr (1, fs1)) ∧ ∃ b3, fs1[0]? = some (.ref b3) ∧ ∃ n5 f6, w[b3]? = some (.inl (.inr (n5, f6))) ∧ (¬ (((i1 * (42 : Int32)) + i2) < 0 ∨ n5 ≤ ((i1 * (42 : Int32)) + i2).toNatClampNeg)) ∧ r = (some (.long (f6 ((i1 * (42 : Int32)) + i2).toNatClampNeg)), w)))))) : xGo 39 0 [some (.ref a0), some (.int i1), some (.int i2)] [] w r := by
  refine g_iloadn (pc' := 1) d_39_0 rfl rfl ?_
  refine g_if_lt (pc' := 4) (pt := 34) d_39_1 (by decide) rfl (fun c => ?_) (fun c => ?_)
  · replace h := h.1 c
    refine g_lconst (pc' := 35) d_39_34 rfl cl_0 ?_
    exact g_lret d_39_35 rt_39 h
  · replace h := h.2 c
    refine g_iloadn (pc' := 5) d_39_4 rfl rfl ?_
    refine g_bipush (pc' := 7) d_39_5 rfl cb_42 ?_
    refine g_ic_ge (pc' := 10) (pt := 34) d_39_7 (by decide) rfl (fun c => ?_) (fun c => ?_)
    · replace h := h.1 c
      refine g_lconst (pc' := 35) d_39_34 rfl cl_0 ?_
      exact g_lret d_39_35 rt_39 h
    · replace h := h.2 c
      refine g_iloadn (pc' := 11) d_39_10 rfl rfl ?_
      refine g_if_lt (pc' := 14) (pt := 34) d_39_11 (by decide) rfl (fun c => ?_) (fun c => ?_)
      · replace h := h.1 c
        refine g_lconst (pc' := 35) d_39_34 rfl cl_0 ?_
        exact g_lret d_39_35 rt_39 h
      · replace h := h.2 c
        refine g_iloadn (pc' := 15) d_39_14 rfl rfl ?_
        refine g_bipush (pc' := 17) d_39_15 rfl cb_42 ?_
        refine g_ic_ge (pc' := 20) (pt := 34) d_39_17 (by decide) rfl (fun c => ?_) (fun c => ?_)
        · replace h := h.1 c
          refine g_lconst (pc' := 35) d_39_34 rfl cl_0 ?_
          exact g_lret d_39_35 rt_39 h
        · replace h := h.2 c
          refine g_aloadn (pc' := 21) d_39_20 rfl rfl ?_
          obtain ⟨fs1, hw2, h⟩ := h
          obtain ⟨b3, hv4, h⟩ := h
          refine g_getf (pc' := 24) d_39_21 rfl st_39_11 hw2 hv4 ?_
          refine g_iloadn (pc' := 25) d_39_24 rfl rfl ?_
          refine g_bipush (pc' := 27) d_39_25 rfl cb_42 ?_
          refine g_imul (pc' := 28) d_39_27 rfl ?_
          refine g_iloadn (pc' := 29) d_39_28 rfl rfl ?_
          refine g_iadd (pc' := 30) d_39_29 rfl ?_
          obtain ⟨n5, f6, hw7, h⟩ := h
          obtain ⟨hc8, h⟩ := h
          refine g_lald (pc' := 31) d_39_30 rfl hw7 hc8 ?_
          refine g_goto (pt := 35) d_39_31 (by decide) ?_
          exact g_lret d_39_35 rt_39 h
-- 40 BernoulliWays$Checks.addEntry(JI)V
theorem S_40_0 {a0 : Nat} {l1 : Int64} {i3 : Int32} {w : xW} {r : Option Value × xW} (h : ∃ fs1, w[a0]? = some (.inr (6, fs1)) ∧ ∃ b3, fs1[2]? = some (.ref b3) ∧ ∃ b5, fs1[0]? = some (.ref b5) ∧ ∃ fs7, w[b5]? = some (.inr (4, fs7)) ∧ ∃ r11 w9, xCall 29 [.ref b5, .int i3] w (some (.long r11), w9) ∧ ∃ fs12, w9[a0]? = some (.inr (6, fs12)) ∧ ∃ b14, fs12[0]? = some (.ref b14) ∧ ∃ fs16, w9[b14]? = some (.inr (4, fs16)) ∧ ∃ r20 w18, xCall 30 [.ref b14, .int i3] w9 (some (.long r20), w18) ∧ ∃ fs21, w18[a0]? = some (.inr (6, fs21)) ∧ ∃ b23, fs21[0]? = some (.ref b23) ∧ ∃ fs25, w18[b23]? = some (.inr (4, fs25)) ∧ ∃ r29 w27, xCall 31 [.ref b23, .int i3] w18 (some (.long r29), w27) ∧ ∃ fs30, w27[b3]? = some (.inr (2, fs30)) ∧ ∃ w32, xCall 41 [.ref b3, .long l1, .long r11, .long r20, .long r29] w27 (none, w32) ∧ r = (none, w32)) : xGo 40 0 [some (.ref a0), some (.long l1), none, some (.int i3)] [] w r := by
  refine g_aloadn (pc' := 1) d_40_0 rfl rfl ?_
  obtain ⟨fs1, hw2, h⟩ := h
  obtain ⟨b3, hv4, h⟩ := h
  refine g_getf (pc' := 4) d_40_1 rfl st_40_19 hw2 hv4 ?_
  refine g_lloadn (pc' := 5) d_40_4 rfl rfl ?_
  refine g_aloadn (pc' := 6) d_40_5 rfl rfl ?_
  obtain ⟨b5, hv6, h⟩ := h
  refine g_getf (pc' := 9) d_40_6 rfl st_40_9 hw2 hv6 ?_
  refine g_iloadn (pc' := 10) d_40_9 rfl rfl ?_
  obtain ⟨fs7, hw8, h⟩ := h
  obtain ⟨r11, w9, hk10, h⟩ := h
  refine g_callV (pc' := 13) d_40_10 rfl st_40_91 na_29 ml_29 rfl rfl rfl rm_40_29 rfl rfl ow_29 hw8 hk10 ?_
  refine g_aloadn (pc' := 14) d_40_13 rfl rfl ?_
  obtain ⟨fs12, hw13, h⟩ := h
  obtain ⟨b14, hv15, h⟩ := h
  refine g_getf (pc' := 17) d_40_14 rfl st_40_9 hw13 hv15 ?_
  refine g_iloadn (pc' := 18) d_40_17 rfl rfl ?_
  obtain ⟨fs16, hw17, h⟩ := h
  obtain ⟨r20, w18, hk19, h⟩ := h
  refine g_callV (pc' := 21) d_40_18 rfl st_40_94 na_30 ml_30 rfl rfl rfl rm_40_30 rfl rfl ow_30 hw17 hk19 ?_
  refine g_aloadn (pc' := 22) d_40_21 rfl rfl ?_
  obtain ⟨fs21, hw22, h⟩ := h
  obtain ⟨b23, hv24, h⟩ := h
  refine g_getf (pc' := 25) d_40_22 rfl st_40_9 hw22 hv24 ?_
  refine g_iloadn (pc' := 26) d_40_25 rfl rfl ?_
  obtain ⟨fs25, hw26, h⟩ := h
  obtain ⟨r29, w27, hk28, h⟩ := h
  refine g_callV (pc' := 29) d_40_26 rfl st_40_87 na_31 ml_31 rfl rfl rfl rm_40_31 rfl rfl ow_31 hw26 hk28 ?_
  obtain ⟨fs30, hw31, h⟩ := h
  obtain ⟨w32, hk33, h⟩ := h
  refine g_callV (pc' := 32) d_40_29 rfl st_40_100 na_41 ml_41 rfl rfl rfl rm_40_41 rfl rfl ow_41 hw31 hk33 ?_
  exact g_vret d_40_32 rt_40 h
-- 41 BernoulliWays$Total.add(JJJJ)V
theorem S_41_0 {a0 : Nat} {l1 : Int64} {l3 : Int64} {l5 : Int64} {l7 : Int64} {w : xW} {r : Option Value × xW} (h : ((0 : Int64) < l7 → ∀ v1 : Int64, v1 = (l1 * l5) → ∃ fs2, w[a0]? = some (.inr (2, fs2)) ∧ ∃ x4, fs2[1]? = some (.long x4) ∧ ∃ r8 w6, xCall 19 [.long v1, .long l7] w (some (.long r8), w6) ∧ ∃ fs9, w6[a0]? = some (.inr (2, fs9)) ∧ ∀ v11 : Int64, v11 = (x4 + ((l1 * l3) + r8)) → (1 < fs9.length) ∧ ∀ w13, w13 = w6.set a0 (.inr (2, fs9.set 1 (.long v11))) → ∃ x14, (fs9.set 1 (.long v11))[2]? = some (.long x14) ∧ ∃ r18 w16, xCall 17 [.long v1, .long l7] w13 (some (.long r18), w16) ∧ ∃ fs19, w16[a0]? = some (.inr (2, fs19)) ∧ ∃ x21, fs19[0]? = some (.long x21) ∧ (¬ l7 = 0) ∧ ∀ v24 : Int64, v24 = (x14 + (r18 * (x21 / l7))) → (2 < fs19.length) ∧ ∀ w26, w26 = w16.set a0 (.inr (2, fs19.set 2 (.long v24))) → ∃ x27, (fs19.set 2 (.long v24))[2]? = some (.long x27) ∧ ∃ x29, (fs19.set 2 (.long v24))[0]? = some (.long x29) ∧ (x27 < x29 → r = (none, w26)) ∧ (¬ (x27 < x29) → ∀ v31 : Int64, v31 = (x27 - x29) → (2 < (fs19.set 2 (.long v24)).length) ∧ ∀ w33, w33 = w26.set a0 (.inr (2, (fs19.set 2 (.long v24)).set 2 (.long v31))) → ∃ x34, ((fs19.set 2 (.long v24)).set 2 (.long v31))[1]? = some (.long x34) ∧ ∀ v36 : Int64, v36 = (x34 + (1 : Int64)) → (1 < ((fs19.set 2 (.long v24)).set 2 (.long v31)).length) ∧ ∀ w38, w38 = w33.set a0 (.inr (2, ((fs19.set 2 (.long v24)).set 2 (.long v31)).set 1 (.long v36))) → r = (none, w38))) ∧ (¬ ((0 : Int64) < l7) → r = (none, w))) : xGo 41 0 [some (.ref a0), some (.long l1), none, some (.long l3), none, some (.long l5), none, some (.long l7), none, none, none] [] w r := by
  refine g_lload (pc' := 2) d_41_0 rfl rfl ?_
  refine g_lconst (pc' := 3) d_41_2 rfl cl_0 ?_
  refine g_lc_gt (pc' := 7) (pm := 4) (pt := 8) d_41_3 rfl d_41_4 (by decide) rfl (fun c => ?_) (fun c => ?_)
  · replace h := h.1 c
    refine g_lloadn (pc' := 9) d_41_8 rfl rfl ?_
    refine g_lload (pc' := 11) d_41_9 rfl rfl ?_
    refine g_lmul (pc' := 12) d_41_11 rfl ?_
    have h := h _ rfl
    refine g_lstore (pc' := 14) (l' := [some (.ref a0), some (.long l1), none, some (.long l3), none, some (.long l5), none, some (.long l7), none, some (.long ((l1 * l5))), none]) d_41_12 rfl ml_41 rfl rfl ?_
    refine g_aloadn (pc' := 15) d_41_14 rfl rfl ?_
    refine g_dup (pc' := 16) d_41_15 rfl rfl ?_
    obtain ⟨fs2, hw3, h⟩ := h
    obtain ⟨x4, hv5, h⟩ := h
    refine g_getf (pc' := 19) d_41_16 rfl st_41_19 hw3 hv5 ?_
    refine g_lloadn (pc' := 20) d_41_19 rfl rfl ?_
    refine g_lloadn (pc' := 21) d_41_20 rfl rfl ?_
    refine g_lmul (pc' := 22) d_41_21 rfl ?_
    refine g_lload (pc' := 24) d_41_22 rfl rfl ?_
    refine g_lload (pc' := 26) d_41_24 rfl rfl ?_
    obtain ⟨r8, w6, hk7, h⟩ := h
    refine g_callS (pc' := 29) d_41_26 rfl st_41_25 (Or.inl rfl) na_19 ml_19 rfl rfl rfl rm_41_19 rfl rfl hk7 ?_
    refine g_ladd (pc' := 30) d_41_29 rfl ?_
    refine g_ladd (pc' := 31) d_41_30 rfl ?_
    obtain ⟨fs9, hw10, h⟩ := h
    have h := h _ rfl
    obtain ⟨hc12, h⟩ := h
    have h := h _ rfl
    refine g_putf (pc' := 34) d_41_31 rfl st_41_19 ft_2_1 ff_2_1 rfl (Or.inl rfl) hw10 hc12 ?_
    refine g_aloadn (pc' := 35) d_41_34 rfl rfl ?_
    refine g_dup (pc' := 36) d_41_35 rfl rfl ?_
    obtain ⟨x14, hv15, h⟩ := h
    refine g_getf (pc' := 39) d_41_36 rfl st_41_22 (x_gss hw10) hv15 ?_
    refine g_lload (pc' := 41) d_41_39 rfl rfl ?_
    refine g_lload (pc' := 43) d_41_41 rfl rfl ?_
    obtain ⟨r18, w16, hk17, h⟩ := h
    refine g_callS (pc' := 46) d_41_43 rfl st_41_28 (Or.inl rfl) na_17 ml_17 rfl rfl rfl rm_41_17 rfl rfl hk17 ?_
    refine g_aloadn (pc' := 47) d_41_46 rfl rfl ?_
    obtain ⟨fs19, hw20, h⟩ := h
    obtain ⟨x21, hv22, h⟩ := h
    refine g_getf (pc' := 50) d_41_47 rfl st_41_7 hw20 hv22 ?_
    refine g_lload (pc' := 52) d_41_50 rfl rfl ?_
    obtain ⟨hc23, h⟩ := h
    refine g_ldiv (pc' := 53) d_41_52 rfl hc23 ?_
    refine g_lmul (pc' := 54) d_41_53 rfl ?_
    refine g_ladd (pc' := 55) d_41_54 rfl ?_
    have h := h _ rfl
    obtain ⟨hc25, h⟩ := h
    have h := h _ rfl
    refine g_putf (pc' := 58) d_41_55 rfl st_41_22 ft_2_2 ff_2_2 rfl (Or.inl rfl) hw20 hc25 ?_
    refine g_aloadn (pc' := 59) d_41_58 rfl rfl ?_
    obtain ⟨x27, hv28, h⟩ := h
    refine g_getf (pc' := 62) d_41_59 rfl st_41_22 (x_gss hw20) hv28 ?_
    refine g_aloadn (pc' := 63) d_41_62 rfl rfl ?_
    obtain ⟨x29, hv30, h⟩ := h
    refine g_getf (pc' := 66) d_41_63 rfl st_41_7 (x_gss hw20) hv30 ?_
    refine g_lc_lt (pc' := 70) (pm := 67) (pt := 93) d_41_66 rfl d_41_67 (by decide) rfl (fun c => ?_) (fun c => ?_)
    · replace h := h.1 c
      exact g_vret d_41_93 rt_41 h
    · replace h := h.2 c
      refine g_aloadn (pc' := 71) d_41_70 rfl rfl ?_
      refine g_dup (pc' := 72) d_41_71 rfl rfl ?_
      refine g_getf (pc' := 75) d_41_72 rfl st_41_22 (x_gss hw20) hv28 ?_
      refine g_aloadn (pc' := 76) d_41_75 rfl rfl ?_
      refine g_getf (pc' := 79) d_41_76 rfl st_41_7 (x_gss hw20) hv30 ?_
      refine g_lsub (pc' := 80) d_41_79 rfl ?_
      have h := h _ rfl
      obtain ⟨hc32, h⟩ := h
      have h := h _ rfl
      refine g_putf (pc' := 83) d_41_80 rfl st_41_22 ft_2_2 ff_2_2 rfl (Or.inl rfl) (x_gss hw20) hc32 ?_
      refine g_aloadn (pc' := 84) d_41_83 rfl rfl ?_
      refine g_dup (pc' := 85) d_41_84 rfl rfl ?_
      obtain ⟨x34, hv35, h⟩ := h
      refine g_getf (pc' := 88) d_41_85 rfl st_41_19 (x_gss (x_gss hw20)) hv35 ?_
      refine g_lconst (pc' := 89) d_41_88 rfl cl_1 ?_
      refine g_ladd (pc' := 90) d_41_89 rfl ?_
      have h := h _ rfl
      obtain ⟨hc37, h⟩ := h
      have h := h _ rfl
      refine g_putf (pc' := 93) d_41_90 rfl st_41_19 ft_2_1 ff_2_1 rfl (Or.inl rfl) (x_gss (x_gss hw20)) hc37 ?_
      exact g_vret d_41_93 rt_41 h
  · replace h := h.2 c
    exact g_vret d_41_7 rt_41 h
-- 42 BernoulliWays$Total.tell(LBernoulliWays$Fraction;)V
theorem S_42_0 {a0 : Nat} {a1 : Nat} {w : xW} {r : Option Value × xW} (h : ∃ fs1, w[a0]? = some (.inr (2, fs1)) ∧ ∃ x3, fs1[1]? = some (.long x3) ∧ ∃ x5, fs1[2]? = some (.long x5) ∧ ∃ x7, fs1[0]? = some (.long x7) ∧ ∃ fs9, w[a1]? = some (.inr (5, fs9)) ∧ ∃ w11, xCall 16 [.ref a1, .long x3, .long x5, .long x7] w (none, w11) ∧ r = (none, w11)) : xGo 42 0 [some (.ref a0), some (.ref a1)] [] w r := by
  refine g_aloadn (pc' := 1) d_42_0 rfl rfl ?_
  refine g_aloadn (pc' := 2) d_42_1 rfl rfl ?_
  obtain ⟨fs1, hw2, h⟩ := h
  obtain ⟨x3, hv4, h⟩ := h
  refine g_getf (pc' := 5) d_42_2 rfl st_42_19 hw2 hv4 ?_
  refine g_aloadn (pc' := 6) d_42_5 rfl rfl ?_
  obtain ⟨x5, hv6, h⟩ := h
  refine g_getf (pc' := 9) d_42_6 rfl st_42_22 hw2 hv6 ?_
  refine g_aloadn (pc' := 10) d_42_9 rfl rfl ?_
  obtain ⟨x7, hv8, h⟩ := h
  refine g_getf (pc' := 13) d_42_10 rfl st_42_7 hw2 hv8 ?_
  obtain ⟨fs9, hw10, h⟩ := h
  obtain ⟨w11, hk12, h⟩ := h
  refine g_callV (pc' := 16) d_42_13 rfl st_42_31 na_16 ml_16 rfl rfl rfl rm_42_16 rfl rfl ow_16 hw10 hk12 ?_
  exact g_vret d_42_16 rt_42 h
-- 43 BernoulliWays$Fraction.multiply(J)V
theorem S_43_0 {a0 : Nat} {l1 : Int64} {w : xW} {r : Option Value × xW} (h : ∃ fs1, w[a0]? = some (.inr (5, fs1)) ∧ ∃ x3, fs1[0]? = some (.long x3) ∧ ∃ x5, fs1[1]? = some (.long x5) ∧ ∃ x7, fs1[2]? = some (.long x7) ∧ ∃ w9, xCall 16 [.ref a0, .long (l1 * x3), .long (l1 * x5), .long x7] w (none, w9) ∧ r = (none, w9)) : xGo 43 0 [some (.ref a0), some (.long l1), none] [] w r := by
  refine g_aloadn (pc' := 1) d_43_0 rfl rfl ?_
  refine g_lloadn (pc' := 2) d_43_1 rfl rfl ?_
  refine g_aloadn (pc' := 3) d_43_2 rfl rfl ?_
  obtain ⟨fs1, hw2, h⟩ := h
  obtain ⟨x3, hv4, h⟩ := h
  refine g_getf (pc' := 6) d_43_3 rfl st_43_25 hw2 hv4 ?_
  refine g_lmul (pc' := 7) d_43_6 rfl ?_
  refine g_lloadn (pc' := 8) d_43_7 rfl rfl ?_
  refine g_aloadn (pc' := 9) d_43_8 rfl rfl ?_
  obtain ⟨x5, hv6, h⟩ := h
  refine g_getf (pc' := 12) d_43_9 rfl st_43_28 hw2 hv6 ?_
  refine g_lmul (pc' := 13) d_43_12 rfl ?_
  refine g_aloadn (pc' := 14) d_43_13 rfl rfl ?_
  obtain ⟨x7, hv8, h⟩ := h
  refine g_getf (pc' := 17) d_43_14 rfl st_43_7 hw2 hv8 ?_
  obtain ⟨w9, hk10, h⟩ := h
  refine g_callV (pc' := 20) d_43_17 rfl st_43_31 na_16 ml_16 rfl rfl rfl rm_43_16 rfl rfl ow_16 hw2 hk10 ?_
  exact g_vret d_43_20 rt_43 h
-- 44 BernoulliWays$Fraction.divide(J)V
theorem S_44_0 {a0 : Nat} {l1 : Int64} {w : xW} {r : Option Value × xW} (h : (l1 ≤ (0 : Int64) → r = (none, w)) ∧ (¬ (l1 ≤ (0 : Int64)) → ∃ fs1, w[a0]? = some (.inr (5, fs1)) ∧ ∃ x3, fs1[0]? = some (.long x3) ∧ ∃ r7 w5, xCall 17 [.long x3, .long l1] w (some (.long r7), w5) ∧ ∃ fs8, w5[a0]? = some (.inr (5, fs8)) ∧ ∃ x10, fs8[0]? = some (.long x10) ∧ ∃ r14 w12, xCall 19 [.long x10, .long l1] w5 (some (.long r14), w12) ∧ ∃ fs15, w12[a0]? = some (.inr (5, fs15)) ∧ ∃ x17, fs15[2]? = some (.long x17) ∧ ∃ x19, fs15[1]? = some (.long x19) ∧ ∃ w21, xCall 16 [.ref a0, .long r14, .long ((r7 * x17) + x19), .long (x17 * l1)] w12 (none, w21) ∧ r = (none, w21))) : xGo 44 0 [some (.ref a0), some (.long l1), none, none, none] [] w r := by
  refine g_lloadn (pc' := 1) d_44_0 rfl rfl ?_
  refine g_lconst (pc' := 2) d_44_1 rfl cl_0 ?_
  refine g_lc_le (pc' := 6) (pm := 3) (pt := 44) d_44_2 rfl d_44_3 (by decide) rfl (fun c => ?_) (fun c => ?_)
  · replace h := h.1 c
    exact g_vret d_44_44 rt_44 h
  · replace h := h.2 c
    refine g_aloadn (pc' := 7) d_44_6 rfl rfl ?_
    obtain ⟨fs1, hw2, h⟩ := h
    obtain ⟨x3, hv4, h⟩ := h
    refine g_getf (pc' := 10) d_44_7 rfl st_44_25 hw2 hv4 ?_
    refine g_lloadn (pc' := 11) d_44_10 rfl rfl ?_
    obtain ⟨r7, w5, hk6, h⟩ := h
    refine g_callS (pc' := 14) d_44_11 rfl st_44_13 (Or.inl rfl) na_17 ml_17 rfl rfl rfl rm_44_17 rfl rfl hk6 ?_
    refine g_lstoren (pc' := 15) (l' := [some (.ref a0), some (.long l1), none, some (.long r7), none]) d_44_14 rfl ml_44 rfl rfl ?_
    refine g_aloadn (pc' := 16) d_44_15 rfl rfl ?_
    refine g_aloadn (pc' := 17) d_44_16 rfl rfl ?_
    obtain ⟨fs8, hw9, h⟩ := h
    obtain ⟨x10, hv11, h⟩ := h
    refine g_getf (pc' := 20) d_44_17 rfl st_44_25 hw9 hv11 ?_
    refine g_lloadn (pc' := 21) d_44_20 rfl rfl ?_
    obtain ⟨r14, w12, hk13, h⟩ := h
    refine g_callS (pc' := 24) d_44_21 rfl st_44_22 (Or.inl rfl) na_19 ml_19 rfl rfl rfl rm_44_19 rfl rfl hk13 ?_
    refine g_lloadn (pc' := 25) d_44_24 rfl rfl ?_
    refine g_aloadn (pc' := 26) d_44_25 rfl rfl ?_
    obtain ⟨fs15, hw16, h⟩ := h
    obtain ⟨x17, hv18, h⟩ := h
    refine g_getf (pc' := 29) d_44_26 rfl st_44_7 hw16 hv18 ?_
    refine g_lmul (pc' := 30) d_44_29 rfl ?_
    refine g_aloadn (pc' := 31) d_44_30 rfl rfl ?_
    obtain ⟨x19, hv20, h⟩ := h
    refine g_getf (pc' := 34) d_44_31 rfl st_44_28 hw16 hv20 ?_
    refine g_ladd (pc' := 35) d_44_34 rfl ?_
    refine g_aloadn (pc' := 36) d_44_35 rfl rfl ?_
    refine g_getf (pc' := 39) d_44_36 rfl st_44_7 hw16 hv18 ?_
    refine g_lloadn (pc' := 40) d_44_39 rfl rfl ?_
    refine g_lmul (pc' := 41) d_44_40 rfl ?_
    obtain ⟨w21, hk22, h⟩ := h
    refine g_callV (pc' := 44) d_44_41 rfl st_44_31 na_16 ml_16 rfl rfl rfl rm_44_16 rfl rfl ow_16 hw16 hk22 ?_
    exact g_vret d_44_44 rt_44 h
-- 45 BernoulliWays.workTriangle(I)V
theorem S_45_0 {a0 : Nat} {i1 : Int32} {w : xW} {r : Option Value × xW} (h : ∃ fs1, w[a0]? = some (.inr (0, fs1)) ∧ ∃ b3, fs1[2]? = some (.ref b3) ∧ ∃ fs5, w[b3]? = some (.inr (3, fs5)) ∧ ∃ w7, xCall 12 [.ref b3, .int i1] w (none, w7) ∧ xGo 45 10 [some (.ref a0), some (.int i1), some (.int (0 : Int32))] [] w7 r) : xGo 45 0 [some (.ref a0), some (.int i1), none] [] w r := by
  refine g_aloadn (pc' := 1) d_45_0 rfl rfl ?_
  obtain ⟨fs1, hw2, h⟩ := h
  obtain ⟨b3, hv4, h⟩ := h
  refine g_getf (pc' := 4) d_45_1 rfl st_45_28 hw2 hv4 ?_
  refine g_iloadn (pc' := 5) d_45_4 rfl rfl ?_
  obtain ⟨fs5, hw6, h⟩ := h
  obtain ⟨w7, hk8, h⟩ := h
  refine g_callV (pc' := 8) d_45_5 rfl st_45_106 na_12 ml_12 rfl rfl rfl rm_45_12 rfl rfl ow_12 hw6 hk8 ?_
  refine g_iconst (pc' := 9) d_45_8 rfl ci_0 ?_
  refine g_istoren (pc' := 10) (l' := [some (.ref a0), some (.int i1), some (.int (0 : Int32))]) d_45_9 rfl ml_45 rfl rfl ?_
  exact h
theorem S_45_10 {a0 : Nat} {i1 : Int32} {i2 : Int32} {w : xW} {r : Option Value × xW} (h : (i1 ≤ i2 → ∃ fs1, w[a0]? = some (.inr (0, fs1)) ∧ ∃ b3, fs1[2]? = some (.ref b3) ∧ ∃ b5, fs1[13]? = some (.ref b5) ∧ ∃ fs7, w[b3]? = some (.inr (3, fs7)) ∧ ∃ w9, xCall 14 [.ref b3, .int i1, .ref b5] w (none, w9) ∧ r = (none, w9)) ∧ (¬ (i1 ≤ i2) → ∃ fs11, w[a0]? = some (.inr (0, fs11)) ∧ ∃ b13, fs11[2]? = some (.ref b13) ∧ ∃ fs15, w[b13]? = some (.inr (3, fs15)) ∧ ∃ w17, xCall 22 [.ref b13] w (none, w17) ∧ ∀ v19 : Int32, v19 = i2 + (1 : Int32) → xGo 45 10 [some (.ref a0), some (.int i1), some (.int v19)] [] w17 r)) : xGo 45 10 [some (.ref a0), some (.int i1), some (.int i2)] [] w r := by
  refine g_iloadn (pc' := 11) d_45_10 rfl rfl ?_
  refine g_iloadn (pc' := 12) d_45_11 rfl rfl ?_
  refine g_ic_ge (pc' := 15) (pt := 28) d_45_12 (by decide) rfl (fun c => ?_) (fun c => ?_)
  · replace h := h.1 c
    refine g_aloadn (pc' := 29) d_45_28 rfl rfl ?_
    obtain ⟨fs1, hw2, h⟩ := h
    obtain ⟨b3, hv4, h⟩ := h
    refine g_getf (pc' := 32) d_45_29 rfl st_45_28 hw2 hv4 ?_
    refine g_iloadn (pc' := 33) d_45_32 rfl rfl ?_
    refine g_aloadn (pc' := 34) d_45_33 rfl rfl ?_
    obtain ⟨b5, hv6, h⟩ := h
    refine g_getf (pc' := 37) d_45_34 rfl st_45_95 hw2 hv6 ?_
    obtain ⟨fs7, hw8, h⟩ := h
    obtain ⟨w9, hk10, h⟩ := h
    refine g_callV (pc' := 40) d_45_37 rfl st_45_110 na_14 ml_14 rfl rfl rfl rm_45_14 rfl rfl ow_14 hw8 hk10 ?_
    exact g_vret d_45_40 rt_45 h
  · replace h := h.2 c
    refine g_aloadn (pc' := 16) d_45_15 rfl rfl ?_
    obtain ⟨fs11, hw12, h⟩ := h
    obtain ⟨b13, hv14, h⟩ := h
    refine g_getf (pc' := 19) d_45_16 rfl st_45_28 hw12 hv14 ?_
    obtain ⟨fs15, hw16, h⟩ := h
    obtain ⟨w17, hk18, h⟩ := h
    refine g_callV (pc' := 22) d_45_19 rfl st_45_117 na_22 ml_22 rfl rfl rfl rm_45_22 rfl rfl ow_22 hw16 hk18 ?_
    have h := h _ rfl
    refine g_iinc (pc' := 25) (l' := [some (.ref a0), some (.int i1), some (.int (i2 + (1 : Int32)))]) d_45_22 rfl rfl ci_1 ml_45 rfl rfl ?_
    refine g_goto (pt := 10) d_45_25 (by decide) ?_
    exact h
-- 46 BernoulliWays.workSieve(I)V
theorem S_46_0 {a0 : Nat} {i1 : Int32} {w : xW} {r : Option Value × xW} (h : ∃ r3 w1, xCall 47 [.int i1] w (some (.int r3), w1) ∧ (¬ r3 = 0 → ∃ fs4, w1[a0]? = some (.inr (0, fs4)) ∧ ∃ b6, fs4[1]? = some (.ref b6) ∧ ∃ fs8, w1[b6]? = some (.inr (2, fs8)) ∧ ∃ w10, xCall 37 [.ref b6, .long (7420738134810 : Int64)] w1 (none, w10) ∧ ∃ fs12, w10[a0]? = some (.inr (0, fs12)) ∧ ∃ b14, fs12[1]? = some (.ref b14) ∧ ∃ r18 w16, xCall 48 [.ref a0, .int i1] w10 (some (.long r18), w16) ∧ ∃ fs19, w16[b14]? = some (.inr (2, fs19)) ∧ ∃ w21, xCall 41 [.ref b14, .long (1 : Int64), .long r18, .long (0 : Int64), .long (1 : Int64)] w16 (none, w21) ∧ ∃ fs23, w21[a0]? = some (.inr (0, fs23)) ∧ ∃ w25, xCall 55 [.ref a0, .int i1, .int (-1 : Int32)] w21 (none, w25) ∧ ∃ fs27, w25[a0]? = some (.inr (0, fs27)) ∧ ∃ b29, fs27[1]? = some (.ref b29) ∧ ∃ b31, fs27[13]? = some (.ref b31) ∧ ∃ fs33, w25[b29]? = some (.inr (2, fs33)) ∧ ∃ w35, xCall 42 [.ref b29, .ref b31] w25 (none, w35) ∧ r = (none, w35)) ∧ (¬ (¬ r3 = 0) → ∃ fs37, w1[a0]? = some (.inr (0, fs37)) ∧ ∃ w39, xCall 35 [.ref a0, .int i1] w1 (none, w39) ∧ r = (none, w39))) : xGo 46 0 [some (.ref a0), some (.int i1)] [] w r := by
  refine g_iloadn (pc' := 1) d_46_0 rfl rfl ?_
  obtain ⟨r3, w1, hk2, h⟩ := h
  refine g_callS (pc' := 4) d_46_1 rfl st_46_190 (Or.inl rfl) na_47 ml_47 rfl rfl rfl rm_46_47 rfl rfl hk2 ?_
  refine g_if_ne (pc' := 7) (pt := 13) d_46_4 (by decide) rfl (fun c => ?_) (fun c => ?_)
  · replace h := h.1 c
    refine g_aloadn (pc' := 14) d_46_13 rfl rfl ?_
    obtain ⟨fs4, hw5, h⟩ := h
    obtain ⟨b6, hv7, h⟩ := h
    refine g_getf (pc' := 17) d_46_14 rfl st_46_21 hw5 hv7 ?_
    refine g_ldc2 (pc' := 20) d_46_17 rfl st_46_193 cL_7420738134810 ?_
    obtain ⟨fs8, hw9, h⟩ := h
    obtain ⟨w10, hk11, h⟩ := h
    refine g_callV (pc' := 23) d_46_20 rfl st_46_195 na_37 ml_37 rfl rfl rfl rm_46_37 rfl rfl ow_37 hw9 hk11 ?_
    refine g_aloadn (pc' := 24) d_46_23 rfl rfl ?_
    obtain ⟨fs12, hw13, h⟩ := h
    obtain ⟨b14, hv15, h⟩ := h
    refine g_getf (pc' := 27) d_46_24 rfl st_46_21 hw13 hv15 ?_
    refine g_lconst (pc' := 28) d_46_27 rfl cl_1 ?_
    refine g_aloadn (pc' := 29) d_46_28 rfl rfl ?_
    refine g_iloadn (pc' := 30) d_46_29 rfl rfl ?_
    obtain ⟨r18, w16, hk17, h⟩ := h
    refine g_callV (pc' := 33) d_46_30 rfl st_46_434 na_48 ml_48 rfl rfl rfl rm_46_48 rfl rfl ow_48 hw13 hk17 ?_
    refine g_lconst (pc' := 34) d_46_33 rfl cl_0 ?_
    refine g_lconst (pc' := 35) d_46_34 rfl cl_1 ?_
    obtain ⟨fs19, hw20, h⟩ := h
    obtain ⟨w21, hk22, h⟩ := h
    refine g_callV (pc' := 38) d_46_35 rfl st_46_207 na_41 ml_41 rfl rfl rfl rm_46_41 rfl rfl ow_41 hw20 hk22 ?_
    refine g_aloadn (pc' := 39) d_46_38 rfl rfl ?_
    refine g_iloadn (pc' := 40) d_46_39 rfl rfl ?_
    refine g_iconst (pc' := 41) d_46_40 rfl ci_m1 ?_
    obtain ⟨fs23, hw24, h⟩ := h
    obtain ⟨w25, hk26, h⟩ := h
    refine g_callV (pc' := 44) d_46_41 rfl st_46_211 na_55 ml_55 rfl rfl rfl rm_46_55 rfl rfl ow_55 hw24 hk26 ?_
    refine g_aloadn (pc' := 45) d_46_44 rfl rfl ?_
    obtain ⟨fs27, hw28, h⟩ := h
    obtain ⟨b29, hv30, h⟩ := h
    refine g_getf (pc' := 48) d_46_45 rfl st_46_21 hw28 hv30 ?_
    refine g_aloadn (pc' := 49) d_46_48 rfl rfl ?_
    obtain ⟨b31, hv32, h⟩ := h
    refine g_getf (pc' := 52) d_46_49 rfl st_46_95 hw28 hv32 ?_
    obtain ⟨fs33, hw34, h⟩ := h
    obtain ⟨w35, hk36, h⟩ := h
    refine g_callV (pc' := 55) d_46_52 rfl st_46_214 na_42 ml_42 rfl rfl rfl rm_46_42 rfl rfl ow_42 hw34 hk36 ?_
    exact g_vret d_46_55 rt_46 h
  · replace h := h.2 c
    refine g_aloadn (pc' := 8) d_46_7 rfl rfl ?_
    refine g_iloadn (pc' := 9) d_46_8 rfl rfl ?_
    obtain ⟨fs37, hw38, h⟩ := h
    obtain ⟨w39, hk40, h⟩ := h
    refine g_callV (pc' := 12) d_46_9 rfl st_46_431 na_35 ml_35 rfl rfl rfl rm_46_35 rfl rfl ow_35 hw38 hk40 ?_
    exact g_vret d_46_12 rt_46 h
-- 47 BernoulliWays.isEvenFromTwo(I)Z
theorem S_47_0 {i0 : Int32} {w : xW} {r : Option Value × xW} (h : (i0 < (2 : Int32) → r = (some (.int (0 : Int32)), w)) ∧ (¬ (i0 < (2 : Int32)) → (¬ (irem i0 (2 : Int32)) = 0 → r = (some (.int (0 : Int32)), w)) ∧ (¬ (¬ (irem i0 (2 : Int32)) = 0) → r = (some (.int (1 : Int32)), w)))) : xGo 47 0 [some (.int i0)] [] w r := by
  refine g_iloadn (pc' := 1) d_47_0 rfl rfl ?_
  refine g_iconst (pc' := 2) d_47_1 rfl ci_2 ?_
  refine g_ic_lt (pc' := 5) (pt := 15) d_47_2 (by decide) rfl (fun c => ?_) (fun c => ?_)
  · replace h := h.1 c
    refine g_iconst (pc' := 16) d_47_15 rfl ci_0 ?_
    exact g_zret d_47_16 rt_47 (Or.inl rfl) h
  · replace h := h.2 c
    refine g_iloadn (pc' := 6) d_47_5 rfl rfl ?_
    refine g_iconst (pc' := 7) d_47_6 rfl ci_2 ?_
    refine g_irem (pc' := 8) d_47_7 rfl (by decide) ?_
    refine g_if_ne (pc' := 11) (pt := 15) d_47_8 (by decide) rfl (fun c => ?_) (fun c => ?_)
    · replace h := h.1 c
      refine g_iconst (pc' := 16) d_47_15 rfl ci_0 ?_
      exact g_zret d_47_16 rt_47 (Or.inl rfl) h
    · replace h := h.2 c
      refine g_iconst (pc' := 12) d_47_11 rfl ci_1 ?_
      refine g_goto (pt := 16) d_47_12 (by decide) ?_
      exact g_zret d_47_16 rt_47 (Or.inr rfl) h
-- 48 BernoulliWays.sievedWhole(I)J
theorem S_48_0 {a0 : Nat} {i1 : Int32} {w : xW} {r : Option Value × xW} (h : xGo 48 9 [some (.ref a0), some (.int i1), some (.long (0 : Int64)), none, some (.long (1 : Int64)), none, some (.int (12 : Int32)), none, none, none, none, none] [] w r) : xGo 48 0 [some (.ref a0), some (.int i1), none, none, none, none, none, none, none, none, none, none] [] w r := by
  refine g_lconst (pc' := 1) d_48_0 rfl cl_0 ?_
  refine g_lstoren (pc' := 2) (l' := [some (.ref a0), some (.int i1), some (.long (0 : Int64)), none, none, none, none, none, none, none, none, none]) d_48_1 rfl ml_48 rfl rfl ?_
  refine g_lconst (pc' := 3) d_48_2 rfl cl_1 ?_
  refine g_lstore (pc' := 5) (l' := [some (.ref a0), some (.int i1), some (.long (0 : Int64)), none, some (.long (1 : Int64)), none, none, none, none, none, none, none]) d_48_3 rfl ml_48 rfl rfl ?_
  refine g_bipush (pc' := 7) d_48_5 rfl cb_12 ?_
  refine g_istore (pc' := 9) (l' := [some (.ref a0), some (.int i1), some (.long (0 : Int64)), none, some (.long (1 : Int64)), none, some (.int (12 : Int32)), none, none, none, none, none]) d_48_7 rfl ml_48 rfl rfl ?_
  exact h
theorem S_48_9 {a0 : Nat} {i1 : Int32} {l2 : Int64} {l4 : Int64} {i6 : Int32} {w : xW} {r : Option Value × xW} (h : ((21 : Int32) ≤ i6 → (l2 ≤ (l4 / (2 : Int64)) → r = (some (.long l2), w)) ∧ (¬ (l2 ≤ (l4 / (2 : Int64))) → r = (some (.long (l2 - l4)), w))) ∧ (¬ ((21 : Int32) ≤ i6) → (w[xP]? = none) ∧ ((46 : Int32) ≤ i6 → (l2 ≤ (l4 / (2 : Int64)) → r = (some (.long l2), w)) ∧ (¬ (l2 ≤ (l4 / (2 : Int64))) → r = (some (.long (l2 - l4)), w))) ∧ (¬ ((46 : Int32) ≤ i6) → (w[xP]? = none) ∧ (¬ (i6 < 0 ∨ 46 ≤ i6.toNatClampNeg)) ∧ ∀ v4 : Int32, v4 = (xpr i6.toNatClampNeg) → ∃ r7 w5, xCall 49 [.int i1, .int v4, .long ((v4.toInt64) * (v4.toInt64))] w (some (.long r7), w5) ∧ (¬ (v4.toInt64) = 0) ∧ ∃ r11 w9, xCall 51 [.int i1, .int v4] w5 (some (.long r11), w9) ∧ ∀ v12 : Int64, v12 = ((r7 / (v4.toInt64)) + r11) → ∃ r15 w13, xCall 54 [.long (v12 - l2), .long (v4.toInt64)] w9 (some (.long r15), w13) ∧ ∃ r18 w16, xCall 53 [.long l4, .long (v4.toInt64)] w13 (some (.long r18), w16) ∧ (¬ (v4.toInt64) = 0) ∧ ∀ v20 : Int64, v20 = (l2 + (l4 * (lrem (r15 * r18) (v4.toInt64)))) → ∀ v21 : Int64, v21 = (l4 * (v4.toInt64)) → ∀ v22 : Int32, v22 = i6 + (1 : Int32) → xGo 48 9 [some (.ref a0), some (.int i1), some (.long v20), none, some (.long v21), none, some (.int v22), none, none, none, none, none] [] w16 r))) : xGo 48 9 [some (.ref a0), some (.int i1), some (.long l2), none, some (.long l4), none, some (.int i6), none, none, none, none, none] [] w r := by
  refine g_iload (pc' := 11) d_48_9 rfl rfl ?_
  refine g_bipush (pc' := 13) d_48_11 rfl cb_21 ?_
  refine g_ic_ge (pc' := 16) (pt := 106) d_48_13 (by decide) rfl (fun c => ?_) (fun c => ?_)
  · replace h := h.1 c
    refine g_lloadn (pc' := 107) d_48_106 rfl rfl ?_
    refine g_lload (pc' := 109) d_48_107 rfl rfl ?_
    refine g_ldc2 (pc' := 112) d_48_109 rfl st_48_389 cL_2 ?_
    refine g_ldiv (pc' := 113) d_48_112 rfl (by decide) ?_
    refine g_lc_le (pc' := 117) (pm := 114) (pt := 124) d_48_113 rfl d_48_114 (by decide) rfl (fun c => ?_) (fun c => ?_)
    · replace h := h.1 c
      refine g_lloadn (pc' := 125) d_48_124 rfl rfl ?_
      exact g_lret d_48_125 rt_48 h
    · replace h := h.2 c
      refine g_lloadn (pc' := 118) d_48_117 rfl rfl ?_
      refine g_lload (pc' := 120) d_48_118 rfl rfl ?_
      refine g_lsub (pc' := 121) d_48_120 rfl ?_
      refine g_goto (pt := 125) d_48_121 (by decide) ?_
      exact g_lret d_48_125 rt_48 h
  · replace h := h.2 c
    refine g_iload (pc' := 18) d_48_16 rfl rfl ?_
    refine g_gets (pc' := 21) d_48_18 rfl st_48_184 (Or.inl rfl) ?_
    obtain ⟨hc1, h⟩ := h
    refine g_lenp (pc' := 22) d_48_21 rfl hc1 ?_
    refine g_ic_ge (pc' := 25) (pt := 106) d_48_22 (by decide) rfl (fun c => ?_) (fun c => ?_)
    · replace h := h.1 c
      refine g_lloadn (pc' := 107) d_48_106 rfl rfl ?_
      refine g_lload (pc' := 109) d_48_107 rfl rfl ?_
      refine g_ldc2 (pc' := 112) d_48_109 rfl st_48_389 cL_2 ?_
      refine g_ldiv (pc' := 113) d_48_112 rfl (by decide) ?_
      refine g_lc_le (pc' := 117) (pm := 114) (pt := 124) d_48_113 rfl d_48_114 (by decide) rfl (fun c => ?_) (fun c => ?_)
      · replace h := h.1 c
        refine g_lloadn (pc' := 125) d_48_124 rfl rfl ?_
        exact g_lret d_48_125 rt_48 h
      · replace h := h.2 c
        refine g_lloadn (pc' := 118) d_48_117 rfl rfl ?_
        refine g_lload (pc' := 120) d_48_118 rfl rfl ?_
        refine g_lsub (pc' := 121) d_48_120 rfl ?_
        refine g_goto (pt := 125) d_48_121 (by decide) ?_
        exact g_lret d_48_125 rt_48 h
    · replace h := h.2 c
      refine g_gets (pc' := 28) d_48_25 rfl st_48_184 (Or.inl rfl) ?_
      refine g_iload (pc' := 30) d_48_28 rfl rfl ?_
      obtain ⟨hc2, h⟩ := h
      obtain ⟨hc3, h⟩ := h
      refine g_pald (pc' := 31) d_48_30 rfl hc2 hc3 ?_
      have h := h _ rfl
      refine g_istore (pc' := 33) (l' := [some (.ref a0), some (.int i1), some (.long l2), none, some (.long l4), none, some (.int i6), some (.int ((xpr i6.toNatClampNeg))), none, none, none, none]) d_48_31 rfl ml_48 rfl rfl ?_
      refine g_iloadn (pc' := 34) d_48_33 rfl rfl ?_
      refine g_iload (pc' := 36) d_48_34 rfl rfl ?_
      refine g_iload (pc' := 38) d_48_36 rfl rfl ?_
      refine g_i2l (pc' := 39) d_48_38 rfl ?_
      refine g_iload (pc' := 41) d_48_39 rfl rfl ?_
      refine g_i2l (pc' := 42) d_48_41 rfl ?_
      refine g_lmul (pc' := 43) d_48_42 rfl ?_
      obtain ⟨r7, w5, hk6, h⟩ := h
      refine g_callS (pc' := 46) d_48_43 rfl st_48_437 (Or.inl rfl) na_49 ml_49 rfl rfl rfl rm_48_49 rfl rfl hk6 ?_
      refine g_iload (pc' := 48) d_48_46 rfl rfl ?_
      refine g_i2l (pc' := 49) d_48_48 rfl ?_
      obtain ⟨hc8, h⟩ := h
      refine g_ldiv (pc' := 50) d_48_49 rfl hc8 ?_
      refine g_iloadn (pc' := 51) d_48_50 rfl rfl ?_
      refine g_iload (pc' := 53) d_48_51 rfl rfl ?_
      obtain ⟨r11, w9, hk10, h⟩ := h
      refine g_callS (pc' := 56) d_48_53 rfl st_48_441 (Or.inl rfl) na_51 ml_51 rfl rfl rfl rm_48_51 rfl rfl hk10 ?_
      refine g_ladd (pc' := 57) d_48_56 rfl ?_
      have h := h _ rfl
      refine g_lstore (pc' := 59) (l' := [some (.ref a0), some (.int i1), some (.long l2), none, some (.long l4), none, some (.int i6), some (.int ((xpr i6.toNatClampNeg))), some (.long (((r7 / (((xpr i6.toNatClampNeg)).toInt64)) + r11))), none, none, none]) d_48_57 rfl ml_48 rfl rfl ?_
      refine g_lload (pc' := 61) d_48_59 rfl rfl ?_
      refine g_lloadn (pc' := 62) d_48_61 rfl rfl ?_
      refine g_lsub (pc' := 63) d_48_62 rfl ?_
      refine g_iload (pc' := 65) d_48_63 rfl rfl ?_
      refine g_i2l (pc' := 66) d_48_65 rfl ?_
      obtain ⟨r15, w13, hk14, h⟩ := h
      refine g_callS (pc' := 69) d_48_66 rfl st_48_306 (Or.inl rfl) na_54 ml_54 rfl rfl rfl rm_48_54 rfl rfl hk14 ?_
      refine g_lstore (pc' := 71) (l' := [some (.ref a0), some (.int i1), some (.long l2), none, some (.long l4), none, some (.int i6), some (.int ((xpr i6.toNatClampNeg))), some (.long (((r7 / (((xpr i6.toNatClampNeg)).toInt64)) + r11))), none, some (.long r15), none]) d_48_69 rfl ml_48 rfl rfl ?_
      refine g_lloadn (pc' := 72) d_48_71 rfl rfl ?_
      refine g_lload (pc' := 74) d_48_72 rfl rfl ?_
      refine g_lload (pc' := 76) d_48_74 rfl rfl ?_
      refine g_lload (pc' := 78) d_48_76 rfl rfl ?_
      refine g_iload (pc' := 80) d_48_78 rfl rfl ?_
      refine g_i2l (pc' := 81) d_48_80 rfl ?_
      obtain ⟨r18, w16, hk17, h⟩ := h
      refine g_callS (pc' := 84) d_48_81 rfl st_48_316 (Or.inl rfl) na_53 ml_53 rfl rfl rfl rm_48_53 rfl rfl hk17 ?_
      refine g_lmul (pc' := 85) d_48_84 rfl ?_
      refine g_iload (pc' := 87) d_48_85 rfl rfl ?_
      refine g_i2l (pc' := 88) d_48_87 rfl ?_
      obtain ⟨hc19, h⟩ := h
      refine g_lrem (pc' := 89) d_48_88 rfl hc19 ?_
      refine g_lmul (pc' := 90) d_48_89 rfl ?_
      refine g_ladd (pc' := 91) d_48_90 rfl ?_
      have h := h _ rfl
      refine g_lstoren (pc' := 92) (l' := [some (.ref a0), some (.int i1), some (.long ((l2 + (l4 * (lrem (r15 * r18) (((xpr i6.toNatClampNeg)).toInt64)))))), none, some (.long l4), none, some (.int i6), some (.int ((xpr i6.toNatClampNeg))), some (.long (((r7 / (((xpr i6.toNatClampNeg)).toInt64)) + r11))), none, some (.long r15), none]) d_48_91 rfl ml_48 rfl rfl ?_
      refine g_lload (pc' := 94) d_48_92 rfl rfl ?_
      refine g_iload (pc' := 96) d_48_94 rfl rfl ?_
      refine g_i2l (pc' := 97) d_48_96 rfl ?_
      refine g_lmul (pc' := 98) d_48_97 rfl ?_
      have h := h _ rfl
      refine g_lstore (pc' := 100) (l' := [some (.ref a0), some (.int i1), some (.long ((l2 + (l4 * (lrem (r15 * r18) (((xpr i6.toNatClampNeg)).toInt64)))))), none, some (.long ((l4 * (((xpr i6.toNatClampNeg)).toInt64)))), none, some (.int i6), some (.int ((xpr i6.toNatClampNeg))), some (.long (((r7 / (((xpr i6.toNatClampNeg)).toInt64)) + r11))), none, some (.long r15), none]) d_48_98 rfl ml_48 rfl rfl ?_
      have h := h _ rfl
      refine g_iinc (pc' := 103) (l' := [some (.ref a0), some (.int i1), some (.long ((l2 + (l4 * (lrem (r15 * r18) (((xpr i6.toNatClampNeg)).toInt64)))))), none, some (.long ((l4 * (((xpr i6.toNatClampNeg)).toInt64)))), none, some (.int (i6 + (1 : Int32))), some (.int ((xpr i6.toNatClampNeg))), some (.long (((r7 / (((xpr i6.toNatClampNeg)).toInt64)) + r11))), none, some (.long r15), none]) d_48_100 rfl rfl ci_1 ml_48 rfl rfl ?_
      refine g_goto (pt := 9) d_48_103 (by decide) ?_
      exact xGo.more (xle_s (xle_s (xle_s (xle_n (xle_s (xle_n (xle_s (xle_n (xle_n (xle_n (xle_n (xle_n xle_0)))))))))))) h
-- 49 BernoulliWays$Modulo.powerSum(IIJ)J
theorem S_49_0 {i0 : Int32} {i1 : Int32} {l2 : Int64} {w : xW} {r : Option Value × xW} (h : ((0 : Int64) < l2 → xGo 49 14 [some (.int i0), some (.int i1), some (.long l2), none, some (.long (0 : Int64)), none, some (.int (1 : Int32))] [] w r) ∧ (¬ ((0 : Int64) < l2) → r = (some (.long (0 : Int64)), w))) : xGo 49 0 [some (.int i0), some (.int i1), some (.long l2), none, none, none, none] [] w r := by
  refine g_lloadn (pc' := 1) d_49_0 rfl rfl ?_
  refine g_lconst (pc' := 2) d_49_1 rfl cl_0 ?_
  refine g_lc_gt (pc' := 6) (pm := 3) (pt := 8) d_49_2 rfl d_49_3 (by decide) rfl (fun c => ?_) (fun c => ?_)
  · replace h := h.1 c
    refine g_lconst (pc' := 9) d_49_8 rfl cl_0 ?_
    refine g_lstore (pc' := 11) (l' := [some (.int i0), some (.int i1), some (.long l2), none, some (.long (0 : Int64)), none, none]) d_49_9 rfl ml_49 rfl rfl ?_
    refine g_iconst (pc' := 12) d_49_11 rfl ci_1 ?_
    refine g_istore (pc' := 14) (l' := [some (.int i0), some (.int i1), some (.long l2), none, some (.long (0 : Int64)), none, some (.int (1 : Int32))]) d_49_12 rfl ml_49 rfl rfl ?_
    exact h
  · replace h := h.2 c
    refine g_lconst (pc' := 7) d_49_6 rfl cl_0 ?_
    exact g_lret d_49_7 rt_49 h
theorem S_49_14 {i0 : Int32} {i1 : Int32} {l2 : Int64} {l4 : Int64} {i6 : Int32} {w : xW} {r : Option Value × xW} (h : (i1 ≤ i6 → (¬ l2 = 0) ∧ r = (some (.long (lrem l4 l2)), w)) ∧ (¬ (i1 ≤ i6) → ∃ r4 w2, xCall 50 [.long (i6.toInt64), .int i0, .long l2] w (some (.long r4), w2) ∧ ∀ v5 : Int64, v5 = (l4 + r4) → ∀ v6 : Int32, v6 = i6 + (1 : Int32) → xGo 49 14 [some (.int i0), some (.int i1), some (.long l2), none, some (.long v5), none, some (.int v6)] [] w2 r)) : xGo 49 14 [some (.int i0), some (.int i1), some (.long l2), none, some (.long l4), none, some (.int i6)] [] w r := by
  refine g_iload (pc' := 16) d_49_14 rfl rfl ?_
  refine g_iloadn (pc' := 17) d_49_16 rfl rfl ?_
  refine g_ic_ge (pc' := 20) (pt := 39) d_49_17 (by decide) rfl (fun c => ?_) (fun c => ?_)
  · replace h := h.1 c
    refine g_lload (pc' := 41) d_49_39 rfl rfl ?_
    refine g_lloadn (pc' := 42) d_49_41 rfl rfl ?_
    obtain ⟨hc1, h⟩ := h
    refine g_lrem (pc' := 43) d_49_42 rfl hc1 ?_
    exact g_lret d_49_43 rt_49 h
  · replace h := h.2 c
    refine g_lload (pc' := 22) d_49_20 rfl rfl ?_
    refine g_iload (pc' := 24) d_49_22 rfl rfl ?_
    refine g_i2l (pc' := 25) d_49_24 rfl ?_
    refine g_iloadn (pc' := 26) d_49_25 rfl rfl ?_
    refine g_lloadn (pc' := 27) d_49_26 rfl rfl ?_
    obtain ⟨r4, w2, hk3, h⟩ := h
    refine g_callS (pc' := 30) d_49_27 rfl st_49_13 (Or.inl rfl) na_50 ml_50 rfl rfl rfl rm_49_50 rfl rfl hk3 ?_
    refine g_ladd (pc' := 31) d_49_30 rfl ?_
    have h := h _ rfl
    refine g_lstore (pc' := 33) (l' := [some (.int i0), some (.int i1), some (.long l2), none, some (.long ((l4 + r4))), none, some (.int i6)]) d_49_31 rfl ml_49 rfl rfl ?_
    have h := h _ rfl
    refine g_iinc (pc' := 36) (l' := [some (.int i0), some (.int i1), some (.long l2), none, some (.long ((l4 + r4))), none, some (.int (i6 + (1 : Int32)))]) d_49_33 rfl rfl ci_1 ml_49 rfl rfl ?_
    refine g_goto (pt := 14) d_49_36 (by decide) ?_
    exact h
-- 50 BernoulliWays$Modulo.power(JIJ)J
theorem S_50_0 {l0 : Int64} {i2 : Int32} {l3 : Int64} {w : xW} {r : Option Value × xW} (h : ((0 : Int64) < l3 → (¬ l3 = 0) ∧ ∀ v2 : Int64, v2 = (lrem (1 : Int64) l3) → ∃ r5 w3, xCall 17 [.long l0, .long l3] w (some (.long r5), w3) ∧ xGo 50 23 [some (.long l0), none, some (.int i2), some (.long l3), none, some (.long v2), none, some (.long r5), none, some (.int (0 : Int32))] [] w3 r) ∧ (¬ ((0 : Int64) < l3) → r = (some (.long (0 : Int64)), w))) : xGo 50 0 [some (.long l0), none, some (.int i2), some (.long l3), none, none, none, none, none, none] [] w r := by
  refine g_lloadn (pc' := 1) d_50_0 rfl rfl ?_
  refine g_lconst (pc' := 2) d_50_1 rfl cl_0 ?_
  refine g_lc_gt (pc' := 6) (pm := 3) (pt := 8) d_50_2 rfl d_50_3 (by decide) rfl (fun c => ?_) (fun c => ?_)
  · replace h := h.1 c
    refine g_lconst (pc' := 9) d_50_8 rfl cl_1 ?_
    refine g_lloadn (pc' := 10) d_50_9 rfl rfl ?_
    obtain ⟨hc1, h⟩ := h
    refine g_lrem (pc' := 11) d_50_10 rfl hc1 ?_
    have h := h _ rfl
    refine g_lstore (pc' := 13) (l' := [some (.long l0), none, some (.int i2), some (.long l3), none, some (.long ((lrem (1 : Int64) l3))), none, none, none, none]) d_50_11 rfl ml_50 rfl rfl ?_
    refine g_lloadn (pc' := 14) d_50_13 rfl rfl ?_
    refine g_lloadn (pc' := 15) d_50_14 rfl rfl ?_
    obtain ⟨r5, w3, hk4, h⟩ := h
    refine g_callS (pc' := 18) d_50_15 rfl st_50_7 (Or.inl rfl) na_17 ml_17 rfl rfl rfl rm_50_17 rfl rfl hk4 ?_
    refine g_lstore (pc' := 20) (l' := [some (.long l0), none, some (.int i2), some (.long l3), none, some (.long ((lrem (1 : Int64) l3))), none, some (.long r5), none, none]) d_50_18 rfl ml_50 rfl rfl ?_
    refine g_iconst (pc' := 21) d_50_20 rfl ci_0 ?_
    refine g_istore (pc' := 23) (l' := [some (.long l0), none, some (.int i2), some (.long l3), none, some (.long ((lrem (1 : Int64) l3))), none, some (.long r5), none, some (.int (0 : Int32))]) d_50_21 rfl ml_50 rfl rfl ?_
    exact h
  · replace h := h.2 c
    refine g_lconst (pc' := 7) d_50_6 rfl cl_0 ?_
    exact g_lret d_50_7 rt_50 h
theorem S_50_23 {l0 : Int64} {i2 : Int32} {l3 : Int64} {l5 : Int64} {l7 : Int64} {i9 : Int32} {w : xW} {r : Option Value × xW} (h : ((31 : Int32) ≤ i9 → r = (some (.long l5), w)) ∧ (¬ ((31 : Int32) ≤ i9) → ((i2 >>> (i9 &&& 31)) ≤ 0 → r = (some (.long l5), w)) ∧ (¬ ((i2 >>> (i9 &&& 31)) ≤ 0) → (¬ ((i2 >>> (i9 &&& 31)) &&& (1 : Int32)) = (1 : Int32) → (¬ l3 = 0) ∧ ∀ v2 : Int64, v2 = (lrem (l7 * l7) l3) → ∀ v3 : Int32, v3 = i9 + (1 : Int32) → xGo 50 23 [some (.long l0), none, some (.int i2), some (.long l3), none, some (.long l5), none, some (.long v2), none, some (.int v3)] [] w r) ∧ (¬ (¬ ((i2 >>> (i9 &&& 31)) &&& (1 : Int32)) = (1 : Int32)) → (¬ l3 = 0) ∧ ∀ v5 : Int64, v5 = (lrem (l5 * l7) l3) → (¬ l3 = 0) ∧ ∀ v7 : Int64, v7 = (lrem (l7 * l7) l3) → ∀ v8 : Int32, v8 = i9 + (1 : Int32) → xGo 50 23 [some (.long l0), none, some (.int i2), some (.long l3), none, some (.long v5), none, some (.long v7), none, some (.int v8)] [] w r)))) : xGo 50 23 [some (.long l0), none, some (.int i2), some (.long l3), none, some (.long l5), none, some (.long l7), none, some (.int i9)] [] w r := by
  refine g_iload (pc' := 25) d_50_23 rfl rfl ?_
  refine g_bipush (pc' := 27) d_50_25 rfl cb_31 ?_
  refine g_ic_ge (pc' := 30) (pt := 71) d_50_27 (by decide) rfl (fun c => ?_) (fun c => ?_)
  · replace h := h.1 c
    refine g_lload (pc' := 73) d_50_71 rfl rfl ?_
    exact g_lret d_50_73 rt_50 h
  · replace h := h.2 c
    refine g_iloadn (pc' := 31) d_50_30 rfl rfl ?_
    refine g_iload (pc' := 33) d_50_31 rfl rfl ?_
    refine g_ishr (pc' := 34) d_50_33 rfl ?_
    refine g_if_le (pc' := 37) (pt := 71) d_50_34 (by decide) rfl (fun c => ?_) (fun c => ?_)
    · replace h := h.1 c
      refine g_lload (pc' := 73) d_50_71 rfl rfl ?_
      exact g_lret d_50_73 rt_50 h
    · replace h := h.2 c
      refine g_iloadn (pc' := 38) d_50_37 rfl rfl ?_
      refine g_iload (pc' := 40) d_50_38 rfl rfl ?_
      refine g_ishr (pc' := 41) d_50_40 rfl ?_
      refine g_iconst (pc' := 42) d_50_41 rfl ci_1 ?_
      refine g_iand (pc' := 43) d_50_42 rfl ?_
      refine g_iconst (pc' := 44) d_50_43 rfl ci_1 ?_
      refine g_ic_ne (pc' := 47) (pt := 56) d_50_44 (by decide) rfl (fun c => ?_) (fun c => ?_)
      · replace h := h.1 c
        refine g_lload (pc' := 58) d_50_56 rfl rfl ?_
        refine g_lload (pc' := 60) d_50_58 rfl rfl ?_
        refine g_lmul (pc' := 61) d_50_60 rfl ?_
        refine g_lloadn (pc' := 62) d_50_61 rfl rfl ?_
        obtain ⟨hc1, h⟩ := h
        refine g_lrem (pc' := 63) d_50_62 rfl hc1 ?_
        have h := h _ rfl
        refine g_lstore (pc' := 65) (l' := [some (.long l0), none, some (.int i2), some (.long l3), none, some (.long l5), none, some (.long ((lrem (l7 * l7) l3))), none, some (.int i9)]) d_50_63 rfl ml_50 rfl rfl ?_
        have h := h _ rfl
        refine g_iinc (pc' := 68) (l' := [some (.long l0), none, some (.int i2), some (.long l3), none, some (.long l5), none, some (.long ((lrem (l7 * l7) l3))), none, some (.int (i9 + (1 : Int32)))]) d_50_65 rfl rfl ci_1 ml_50 rfl rfl ?_
        refine g_goto (pt := 23) d_50_68 (by decide) ?_
        exact h
      · replace h := h.2 c
        refine g_lload (pc' := 49) d_50_47 rfl rfl ?_
        refine g_lload (pc' := 51) d_50_49 rfl rfl ?_
        refine g_lmul (pc' := 52) d_50_51 rfl ?_
        refine g_lloadn (pc' := 53) d_50_52 rfl rfl ?_
        obtain ⟨hc4, h⟩ := h
        refine g_lrem (pc' := 54) d_50_53 rfl hc4 ?_
        have h := h _ rfl
        refine g_lstore (pc' := 56) (l' := [some (.long l0), none, some (.int i2), some (.long l3), none, some (.long ((lrem (l5 * l7) l3))), none, some (.long l7), none, some (.int i9)]) d_50_54 rfl ml_50 rfl rfl ?_
        refine g_lload (pc' := 58) d_50_56 rfl rfl ?_
        refine g_lload (pc' := 60) d_50_58 rfl rfl ?_
        refine g_lmul (pc' := 61) d_50_60 rfl ?_
        refine g_lloadn (pc' := 62) d_50_61 rfl rfl ?_
        obtain ⟨hc6, h⟩ := h
        refine g_lrem (pc' := 63) d_50_62 rfl hc6 ?_
        have h := h _ rfl
        refine g_lstore (pc' := 65) (l' := [some (.long l0), none, some (.int i2), some (.long l3), none, some (.long ((lrem (l5 * l7) l3))), none, some (.long ((lrem (l7 * l7) l3))), none, some (.int i9)]) d_50_63 rfl ml_50 rfl rfl ?_
        have h := h _ rfl
        refine g_iinc (pc' := 68) (l' := [some (.long l0), none, some (.int i2), some (.long l3), none, some (.long ((lrem (l5 * l7) l3))), none, some (.long ((lrem (l7 * l7) l3))), none, some (.int (i9 + (1 : Int32)))]) d_50_65 rfl rfl ci_1 ml_50 rfl rfl ?_
        refine g_goto (pt := 23) d_50_68 (by decide) ?_
        exact h
-- 51 BernoulliWays.inversesBelow(II)J
theorem S_51_0 {i0 : Int32} {i1 : Int32} {w : xW} {r : Option Value × xW} (h : (w[xP]? = none) ∧ xGo 51 15 [some (.int i0), some (.int i1), some (.long (0 : Int64)), none, some (.ref xP), some (.int (46 : Int32)), some (.int (0 : Int32)), none] [] w r) : xGo 51 0 [some (.int i0), some (.int i1), none, none, none, none, none, none] [] w r := by
  refine g_lconst (pc' := 1) d_51_0 rfl cl_0 ?_
  refine g_lstoren (pc' := 2) (l' := [some (.int i0), some (.int i1), some (.long (0 : Int64)), none, none, none, none, none]) d_51_1 rfl ml_51 rfl rfl ?_
  refine g_gets (pc' := 5) d_51_2 rfl st_51_184 (Or.inl rfl) ?_
  refine g_astore (pc' := 7) (l' := [some (.int i0), some (.int i1), some (.long (0 : Int64)), none, some (.ref xP), none, none, none]) d_51_5 rfl ml_51 rfl rfl ?_
  refine g_aload (pc' := 9) d_51_7 rfl rfl ?_
  obtain ⟨hc1, h⟩ := h
  refine g_lenp (pc' := 10) d_51_9 rfl hc1 ?_
  refine g_istore (pc' := 12) (l' := [some (.int i0), some (.int i1), some (.long (0 : Int64)), none, some (.ref xP), some (.int (46 : Int32)), none, none]) d_51_10 rfl ml_51 rfl rfl ?_
  refine g_iconst (pc' := 13) d_51_12 rfl ci_0 ?_
  refine g_istore (pc' := 15) (l' := [some (.int i0), some (.int i1), some (.long (0 : Int64)), none, some (.ref xP), some (.int (46 : Int32)), some (.int (0 : Int32)), none]) d_51_13 rfl ml_51 rfl rfl ?_
  exact h
theorem S_51_15 {i0 : Int32} {i1 : Int32} {l2 : Int64} {i5 : Int32} {i6 : Int32} {w : xW} {r : Option Value × xW} (h : (i5 ≤ i6 → r = (some (.long l2), w)) ∧ (¬ (i5 ≤ i6) → (w[xP]? = none) ∧ (¬ (i6 < 0 ∨ 46 ≤ i6.toNatClampNeg)) ∧ ∀ v3 : Int32, v3 = (xpr i6.toNatClampNeg) → ∃ r6 w4, xCall 52 [.int v3, .int i0] w (some (.int r6), w4) ∧ (r6 = 0 → ∀ v7 : Int32, v7 = i6 + (1 : Int32) → xGo 51 15 [some (.int i0), some (.int i1), some (.long l2), none, some (.ref xP), some (.int i5), some (.int v7), none] [] w4 r) ∧ (¬ (r6 = 0) → ∃ r10 w8, xCall 53 [.long (v3.toInt64), .long (i1.toInt64)] w4 (some (.long r10), w8) ∧ ∀ v11 : Int64, v11 = (l2 + r10) → ∀ v12 : Int32, v12 = i6 + (1 : Int32) → xGo 51 15 [some (.int i0), some (.int i1), some (.long v11), none, some (.ref xP), some (.int i5), some (.int v12), none] [] w8 r))) : xGo 51 15 [some (.int i0), some (.int i1), some (.long l2), none, some (.ref xP), some (.int i5), some (.int i6), none] [] w r := by
  refine g_iload (pc' := 17) d_51_15 rfl rfl ?_
  refine g_iload (pc' := 19) d_51_17 rfl rfl ?_
  refine g_ic_ge (pc' := 22) (pt := 55) d_51_19 (by decide) rfl (fun c => ?_) (fun c => ?_)
  · replace h := h.1 c
    refine g_lloadn (pc' := 56) d_51_55 rfl rfl ?_
    exact g_lret d_51_56 rt_51 h
  · replace h := h.2 c
    refine g_aload (pc' := 24) d_51_22 rfl rfl ?_
    refine g_iload (pc' := 26) d_51_24 rfl rfl ?_
    obtain ⟨hc1, h⟩ := h
    obtain ⟨hc2, h⟩ := h
    refine g_pald (pc' := 27) d_51_26 rfl hc1 hc2 ?_
    have h := h _ rfl
    refine g_istore (pc' := 29) (l' := [some (.int i0), some (.int i1), some (.long l2), none, some (.ref xP), some (.int i5), some (.int i6), some (.int ((xpr i6.toNatClampNeg)))]) d_51_27 rfl ml_51 rfl rfl ?_
    refine g_iload (pc' := 31) d_51_29 rfl rfl ?_
    refine g_iloadn (pc' := 32) d_51_31 rfl rfl ?_
    obtain ⟨r6, w4, hk5, h⟩ := h
    refine g_callS (pc' := 35) d_51_32 rfl st_51_187 (Or.inl rfl) na_52 ml_52 rfl rfl rfl rm_51_52 rfl rfl hk5 ?_
    refine g_if_eq (pc' := 38) (pt := 49) d_51_35 (by decide) rfl (fun c => ?_) (fun c => ?_)
    · replace h := h.1 c
      have h := h _ rfl
      refine g_iinc (pc' := 52) (l' := [some (.int i0), some (.int i1), some (.long l2), none, some (.ref xP), some (.int i5), some (.int (i6 + (1 : Int32))), some (.int ((xpr i6.toNatClampNeg)))]) d_51_49 rfl rfl ci_1 ml_51 rfl rfl ?_
      refine g_goto (pt := 15) d_51_52 (by decide) ?_
      exact xGo.more (xle_s (xle_s (xle_s (xle_n (xle_s (xle_s (xle_s (xle_n xle_0)))))))) h
    · replace h := h.2 c
      refine g_lloadn (pc' := 39) d_51_38 rfl rfl ?_
      refine g_iload (pc' := 41) d_51_39 rfl rfl ?_
      refine g_i2l (pc' := 42) d_51_41 rfl ?_
      refine g_iloadn (pc' := 43) d_51_42 rfl rfl ?_
      refine g_i2l (pc' := 44) d_51_43 rfl ?_
      obtain ⟨r10, w8, hk9, h⟩ := h
      refine g_callS (pc' := 47) d_51_44 rfl st_51_316 (Or.inl rfl) na_53 ml_53 rfl rfl rfl rm_51_53 rfl rfl hk9 ?_
      refine g_ladd (pc' := 48) d_51_47 rfl ?_
      have h := h _ rfl
      refine g_lstoren (pc' := 49) (l' := [some (.int i0), some (.int i1), some (.long ((l2 + r10))), none, some (.ref xP), some (.int i5), some (.int i6), some (.int ((xpr i6.toNatClampNeg)))]) d_51_48 rfl ml_51 rfl rfl ?_
      have h := h _ rfl
      refine g_iinc (pc' := 52) (l' := [some (.int i0), some (.int i1), some (.long ((l2 + r10))), none, some (.ref xP), some (.int i5), some (.int (i6 + (1 : Int32))), some (.int ((xpr i6.toNatClampNeg)))]) d_51_49 rfl rfl ci_1 ml_51 rfl rfl ?_
      refine g_goto (pt := 15) d_51_52 (by decide) ?_
      exact xGo.more (xle_s (xle_s (xle_s (xle_n (xle_s (xle_s (xle_s (xle_n xle_0)))))))) h
-- 52 BernoulliWays.isBelow(II)Z
theorem S_52_0 {i0 : Int32} {i1 : Int32} {w : xW} {r : Option Value × xW} (h : (¬ i1 = (1 : Int32) → ∃ r3 w1, xCall 47 [.int i1] w (some (.int r3), w1) ∧ (r3 = 0 → r = (some (.int (0 : Int32)), w1)) ∧ (¬ (r3 = 0) → (i0 ≤ (1 : Int32) → r = (some (.int (0 : Int32)), w1)) ∧ (¬ (i0 ≤ (1 : Int32)) → (¬ (i0 - (1 : Int32)) = 0) ∧ (¬ (irem i1 (i0 - (1 : Int32))) = 0 → r = (some (.int (0 : Int32)), w1)) ∧ (¬ (¬ (irem i1 (i0 - (1 : Int32))) = 0) → r = (some (.int (1 : Int32)), w1))))) ∧ (¬ (¬ i1 = (1 : Int32)) → (¬ i0 = (2 : Int32) → r = (some (.int (0 : Int32)), w)) ∧ (¬ (¬ i0 = (2 : Int32)) → r = (some (.int (1 : Int32)), w)))) : xGo 52 0 [some (.int i0), some (.int i1)] [] w r := by
  refine g_iloadn (pc' := 1) d_52_0 rfl rfl ?_
  refine g_iconst (pc' := 2) d_52_1 rfl ci_1 ?_
  refine g_ic_ne (pc' := 5) (pt := 16) d_52_2 (by decide) rfl (fun c => ?_) (fun c => ?_)
  · replace h := h.1 c
    refine g_iloadn (pc' := 17) d_52_16 rfl rfl ?_
    obtain ⟨r3, w1, hk2, h⟩ := h
    refine g_callS (pc' := 20) d_52_17 rfl st_52_190 (Or.inl rfl) na_47 ml_47 rfl rfl rfl rm_52_47 rfl rfl hk2 ?_
    refine g_if_eq (pc' := 23) (pt := 40) d_52_20 (by decide) rfl (fun c => ?_) (fun c => ?_)
    · replace h := h.1 c
      refine g_iconst (pc' := 41) d_52_40 rfl ci_0 ?_
      exact g_zret d_52_41 rt_52 (Or.inl rfl) h
    · replace h := h.2 c
      refine g_iloadn (pc' := 24) d_52_23 rfl rfl ?_
      refine g_iconst (pc' := 25) d_52_24 rfl ci_1 ?_
      refine g_ic_le (pc' := 28) (pt := 40) d_52_25 (by decide) rfl (fun c => ?_) (fun c => ?_)
      · replace h := h.1 c
        refine g_iconst (pc' := 41) d_52_40 rfl ci_0 ?_
        exact g_zret d_52_41 rt_52 (Or.inl rfl) h
      · replace h := h.2 c
        refine g_iloadn (pc' := 29) d_52_28 rfl rfl ?_
        refine g_iloadn (pc' := 30) d_52_29 rfl rfl ?_
        refine g_iconst (pc' := 31) d_52_30 rfl ci_1 ?_
        refine g_isub (pc' := 32) d_52_31 rfl ?_
        obtain ⟨hc4, h⟩ := h
        refine g_irem (pc' := 33) d_52_32 rfl hc4 ?_
        refine g_if_ne (pc' := 36) (pt := 40) d_52_33 (by decide) rfl (fun c => ?_) (fun c => ?_)
        · replace h := h.1 c
          refine g_iconst (pc' := 41) d_52_40 rfl ci_0 ?_
          exact g_zret d_52_41 rt_52 (Or.inl rfl) h
        · replace h := h.2 c
          refine g_iconst (pc' := 37) d_52_36 rfl ci_1 ?_
          refine g_goto (pt := 41) d_52_37 (by decide) ?_
          exact g_zret d_52_41 rt_52 (Or.inr rfl) h
  · replace h := h.2 c
    refine g_iloadn (pc' := 6) d_52_5 rfl rfl ?_
    refine g_iconst (pc' := 7) d_52_6 rfl ci_2 ?_
    refine g_ic_ne (pc' := 10) (pt := 14) d_52_7 (by decide) rfl (fun c => ?_) (fun c => ?_)
    · replace h := h.1 c
      refine g_iconst (pc' := 15) d_52_14 rfl ci_0 ?_
      exact g_zret d_52_15 rt_52 (Or.inl rfl) h
    · replace h := h.2 c
      refine g_iconst (pc' := 11) d_52_10 rfl ci_1 ?_
      refine g_goto (pt := 15) d_52_11 (by decide) ?_
      exact g_zret d_52_15 rt_52 (Or.inr rfl) h
-- 53 BernoulliWays$Modulo.inverse(JJ)J
theorem S_53_0 {l0 : Int64} {l2 : Int64} {w : xW} {r : Option Value × xW} (h : ((0 : Int64) < l2 → ∃ r3 w1, xCall 17 [.long l0, .long l2] w (some (.long r3), w1) ∧ xGo 53 27 [some (.long l0), none, some (.long l2), none, some (.long l2), none, some (.long r3), none, some (.long (0 : Int64)), none, some (.long (1 : Int64)), none, some (.int (0 : Int32)), none, none, none, none, none, none] [] w1 r) ∧ (¬ ((0 : Int64) < l2) → r = (some (.long (0 : Int64)), w))) : xGo 53 0 [some (.long l0), none, some (.long l2), none, none, none, none, none, none, none, none, none, none, none, none, none, none, none, none] [] w r := by
  refine g_lloadn (pc' := 1) d_53_0 rfl rfl ?_
  refine g_lconst (pc' := 2) d_53_1 rfl cl_0 ?_
  refine g_lc_gt (pc' := 6) (pm := 3) (pt := 8) d_53_2 rfl d_53_3 (by decide) rfl (fun c => ?_) (fun c => ?_)
  · replace h := h.1 c
    refine g_lloadn (pc' := 9) d_53_8 rfl rfl ?_
    refine g_lstore (pc' := 11) (l' := [some (.long l0), none, some (.long l2), none, some (.long l2), none, none, none, none, none, none, none, none, none, none, none, none, none, none]) d_53_9 rfl ml_53 rfl rfl ?_
    refine g_lloadn (pc' := 12) d_53_11 rfl rfl ?_
    refine g_lloadn (pc' := 13) d_53_12 rfl rfl ?_
    obtain ⟨r3, w1, hk2, h⟩ := h
    refine g_callS (pc' := 16) d_53_13 rfl st_53_7 (Or.inl rfl) na_17 ml_17 rfl rfl rfl rm_53_17 rfl rfl hk2 ?_
    refine g_lstore (pc' := 18) (l' := [some (.long l0), none, some (.long l2), none, some (.long l2), none, some (.long r3), none, none, none, none, none, none, none, none, none, none, none, none]) d_53_16 rfl ml_53 rfl rfl ?_
    refine g_lconst (pc' := 19) d_53_18 rfl cl_0 ?_
    refine g_lstore (pc' := 21) (l' := [some (.long l0), none, some (.long l2), none, some (.long l2), none, some (.long r3), none, some (.long (0 : Int64)), none, none, none, none, none, none, none, none, none, none]) d_53_19 rfl ml_53 rfl rfl ?_
    refine g_lconst (pc' := 22) d_53_21 rfl cl_1 ?_
    refine g_lstore (pc' := 24) (l' := [some (.long l0), none, some (.long l2), none, some (.long l2), none, some (.long r3), none, some (.long (0 : Int64)), none, some (.long (1 : Int64)), none, none, none, none, none, none, none, none]) d_53_22 rfl ml_53 rfl rfl ?_
    refine g_iconst (pc' := 25) d_53_24 rfl ci_0 ?_
    refine g_istore (pc' := 27) (l' := [some (.long l0), none, some (.long l2), none, some (.long l2), none, some (.long r3), none, some (.long (0 : Int64)), none, some (.long (1 : Int64)), none, some (.int (0 : Int32)), none, none, none, none, none, none]) d_53_25 rfl ml_53 rfl rfl ?_
    exact h
  · replace h := h.2 c
    refine g_lconst (pc' := 7) d_53_6 rfl cl_0 ?_
    exact g_lret d_53_7 rt_53 h
theorem S_53_27 {l0 : Int64} {l2 : Int64} {l4 : Int64} {l6 : Int64} {l8 : Int64} {l10 : Int64} {i12 : Int32} {w : xW} {r : Option Value × xW} (h : ((100 : Int32) ≤ i12 → ∃ r3 w1, xCall 17 [.long l8, .long l2] w (some (.long r3), w1) ∧ r = (some (.long r3), w1)) ∧ (¬ ((100 : Int32) ≤ i12) → (l6 ≤ (0 : Int64) → ∃ r6 w4, xCall 17 [.long l8, .long l2] w (some (.long r6), w4) ∧ r = (some (.long r6), w4)) ∧ (¬ (l6 ≤ (0 : Int64)) → (¬ l6 = 0) ∧ ∀ v8 : Int64, v8 = (l4 / l6) → ∀ v9 : Int64, v9 = (l4 - (v8 * l6)) → ∀ v10 : Int64, v10 = (l8 - (v8 * l10)) → ∀ v11 : Int32, v11 = i12 + (1 : Int32) → xGo 53 27 [some (.long l0), none, some (.long l2), none, some (.long l6), none, some (.long v9), none, some (.long l10), none, some (.long v10), none, some (.int v11), none, none, none, none, none, none] [] w r))) : xGo 53 27 [some (.long l0), none, some (.long l2), none, some (.long l4), none, some (.long l6), none, some (.long l8), none, some (.long l10), none, some (.int i12), none, none, none, none, none, none] [] w r := by
  refine g_iload (pc' := 29) d_53_27 rfl rfl ?_
  refine g_bipush (pc' := 31) d_53_29 rfl cb_100 ?_
  refine g_ic_ge (pc' := 34) (pt := 90) d_53_31 (by decide) rfl (fun c => ?_) (fun c => ?_)
  · replace h := h.1 c
    refine g_lload (pc' := 92) d_53_90 rfl rfl ?_
    refine g_lloadn (pc' := 93) d_53_92 rfl rfl ?_
    obtain ⟨r3, w1, hk2, h⟩ := h
    refine g_callS (pc' := 96) d_53_93 rfl st_53_7 (Or.inl rfl) na_17 ml_17 rfl rfl rfl rm_53_17 rfl rfl hk2 ?_
    exact g_lret d_53_96 rt_53 h
  · replace h := h.2 c
    refine g_lload (pc' := 36) d_53_34 rfl rfl ?_
    refine g_lconst (pc' := 37) d_53_36 rfl cl_0 ?_
    refine g_lc_le (pc' := 41) (pm := 38) (pt := 90) d_53_37 rfl d_53_38 (by decide) rfl (fun c => ?_) (fun c => ?_)
    · replace h := h.1 c
      refine g_lload (pc' := 92) d_53_90 rfl rfl ?_
      refine g_lloadn (pc' := 93) d_53_92 rfl rfl ?_
      obtain ⟨r6, w4, hk5, h⟩ := h
      refine g_callS (pc' := 96) d_53_93 rfl st_53_7 (Or.inl rfl) na_17 ml_17 rfl rfl rfl rm_53_17 rfl rfl hk5 ?_
      exact g_lret d_53_96 rt_53 h
    · replace h := h.2 c
      refine g_lload (pc' := 43) d_53_41 rfl rfl ?_
      refine g_lload (pc' := 45) d_53_43 rfl rfl ?_
      obtain ⟨hc7, h⟩ := h
      refine g_ldiv (pc' := 46) d_53_45 rfl hc7 ?_
      have h := h _ rfl
      refine g_lstore (pc' := 48) (l' := [some (.long l0), none, some (.long l2), none, some (.long l4), none, some (.long l6), none, some (.long l8), none, some (.long l10), none, some (.int i12), some (.long ((l4 / l6))), none, none, none, none, none]) d_53_46 rfl ml_53 rfl rfl ?_
      refine g_lload (pc' := 50) d_53_48 rfl rfl ?_
      refine g_lload (pc' := 52) d_53_50 rfl rfl ?_
      refine g_lload (pc' := 54) d_53_52 rfl rfl ?_
      refine g_lmul (pc' := 55) d_53_54 rfl ?_
      refine g_lsub (pc' := 56) d_53_55 rfl ?_
      have h := h _ rfl
      refine g_lstore (pc' := 58) (l' := [some (.long l0), none, some (.long l2), none, some (.long l4), none, some (.long l6), none, some (.long l8), none, some (.long l10), none, some (.int i12), some (.long ((l4 / l6))), none, some (.long ((l4 - (((l4 / l6)) * l6)))), none, none, none]) d_53_56 rfl ml_53 rfl rfl ?_
      refine g_lload (pc' := 60) d_53_58 rfl rfl ?_
      refine g_lload (pc' := 62) d_53_60 rfl rfl ?_
      refine g_lload (pc' := 64) d_53_62 rfl rfl ?_
      refine g_lmul (pc' := 65) d_53_64 rfl ?_
      refine g_lsub (pc' := 66) d_53_65 rfl ?_
      have h := h _ rfl
      refine g_lstore (pc' := 68) (l' := [some (.long l0), none, some (.long l2), none, some (.long l4), none, some (.long l6), none, some (.long l8), none, some (.long l10), none, some (.int i12), some (.long ((l4 / l6))), none, some (.long ((l4 - (((l4 / l6)) * l6)))), none, some (.long ((l8 - (((l4 / l6)) * l10)))), none]) d_53_66 rfl ml_53 rfl rfl ?_
      refine g_lload (pc' := 70) d_53_68 rfl rfl ?_
      refine g_lstore (pc' := 72) (l' := [some (.long l0), none, some (.long l2), none, some (.long l6), none, some (.long l6), none, some (.long l8), none, some (.long l10), none, some (.int i12), some (.long ((l4 / l6))), none, some (.long ((l4 - (((l4 / l6)) * l6)))), none, some (.long ((l8 - (((l4 / l6)) * l10)))), none]) d_53_70 rfl ml_53 rfl rfl ?_
      refine g_lload (pc' := 74) d_53_72 rfl rfl ?_
      refine g_lstore (pc' := 76) (l' := [some (.long l0), none, some (.long l2), none, some (.long l6), none, some (.long ((l4 - (((l4 / l6)) * l6)))), none, some (.long l8), none, some (.long l10), none, some (.int i12), some (.long ((l4 / l6))), none, some (.long ((l4 - (((l4 / l6)) * l6)))), none, some (.long ((l8 - (((l4 / l6)) * l10)))), none]) d_53_74 rfl ml_53 rfl rfl ?_
      refine g_lload (pc' := 78) d_53_76 rfl rfl ?_
      refine g_lstore (pc' := 80) (l' := [some (.long l0), none, some (.long l2), none, some (.long l6), none, some (.long ((l4 - (((l4 / l6)) * l6)))), none, some (.long l10), none, some (.long l10), none, some (.int i12), some (.long ((l4 / l6))), none, some (.long ((l4 - (((l4 / l6)) * l6)))), none, some (.long ((l8 - (((l4 / l6)) * l10)))), none]) d_53_78 rfl ml_53 rfl rfl ?_
      refine g_lload (pc' := 82) d_53_80 rfl rfl ?_
      refine g_lstore (pc' := 84) (l' := [some (.long l0), none, some (.long l2), none, some (.long l6), none, some (.long ((l4 - (((l4 / l6)) * l6)))), none, some (.long l10), none, some (.long ((l8 - (((l4 / l6)) * l10)))), none, some (.int i12), some (.long ((l4 / l6))), none, some (.long ((l4 - (((l4 / l6)) * l6)))), none, some (.long ((l8 - (((l4 / l6)) * l10)))), none]) d_53_82 rfl ml_53 rfl rfl ?_
      have h := h _ rfl
      refine g_iinc (pc' := 87) (l' := [some (.long l0), none, some (.long l2), none, some (.long l6), none, some (.long ((l4 - (((l4 / l6)) * l6)))), none, some (.long l10), none, some (.long ((l8 - (((l4 / l6)) * l10)))), none, some (.int (i12 + (1 : Int32))), some (.long ((l4 / l6))), none, some (.long ((l4 - (((l4 / l6)) * l6)))), none, some (.long ((l8 - (((l4 / l6)) * l10)))), none]) d_53_84 rfl rfl ci_1 ml_53 rfl rfl ?_
      refine g_goto (pt := 27) d_53_87 (by decide) ?_
      exact xGo.more (xle_s (xle_n (xle_s (xle_n (xle_s (xle_n (xle_s (xle_n (xle_s (xle_n (xle_s (xle_n (xle_s (xle_n (xle_n (xle_n (xle_n (xle_n (xle_n xle_0))))))))))))))))))) h
-- 54 BernoulliWays$Modulo.least(JJ)J
theorem S_54_0 {l0 : Int64} {l2 : Int64} {w : xW} {r : Option Value × xW} (h : (l2 ≤ (0 : Int64) → r = (some (.long (0 : Int64)), w)) ∧ (¬ (l2 ≤ (0 : Int64)) → ∃ r3 w1, xCall 17 [.long l0, .long l2] w (some (.long r3), w1) ∧ r = (some (.long r3), w1))) : xGo 54 0 [some (.long l0), none, some (.long l2), none] [] w r := by
  refine g_lloadn (pc' := 1) d_54_0 rfl rfl ?_
  refine g_lconst (pc' := 2) d_54_1 rfl cl_0 ?_
  refine g_lc_le (pc' := 6) (pm := 3) (pt := 14) d_54_2 rfl d_54_3 (by decide) rfl (fun c => ?_) (fun c => ?_)
  · replace h := h.1 c
    refine g_lconst (pc' := 15) d_54_14 rfl cl_0 ?_
    exact g_lret d_54_15 rt_54 h
  · replace h := h.2 c
    refine g_lloadn (pc' := 7) d_54_6 rfl rfl ?_
    refine g_lloadn (pc' := 8) d_54_7 rfl rfl ?_
    obtain ⟨r3, w1, hk2, h⟩ := h
    refine g_callS (pc' := 11) d_54_8 rfl st_54_7 (Or.inl rfl) na_17 ml_17 rfl rfl rfl rm_54_17 rfl rfl hk2 ?_
    refine g_goto (pt := 15) d_54_11 (by decide) ?_
    exact g_lret d_54_15 rt_54 h
-- 55 BernoulliWays.addPrimesBelow(II)V
theorem S_55_0 {a0 : Nat} {i1 : Int32} {i2 : Int32} {w : xW} {r : Option Value × xW} (h : (w[xP]? = none) ∧ xGo 55 11 [some (.ref a0), some (.int i1), some (.int i2), some (.ref xP), some (.int (46 : Int32)), some (.int (0 : Int32)), none] [] w r) : xGo 55 0 [some (.ref a0), some (.int i1), some (.int i2), none, none, none, none] [] w r := by
  refine g_gets (pc' := 3) d_55_0 rfl st_55_184 (Or.inl rfl) ?_
  refine g_astoren (pc' := 4) (l' := [some (.ref a0), some (.int i1), some (.int i2), some (.ref xP), none, none, none]) d_55_3 rfl ml_55 rfl rfl ?_
  refine g_aloadn (pc' := 5) d_55_4 rfl rfl ?_
  obtain ⟨hc1, h⟩ := h
  refine g_lenp (pc' := 6) d_55_5 rfl hc1 ?_
  refine g_istore (pc' := 8) (l' := [some (.ref a0), some (.int i1), some (.int i2), some (.ref xP), some (.int (46 : Int32)), none, none]) d_55_6 rfl ml_55 rfl rfl ?_
  refine g_iconst (pc' := 9) d_55_8 rfl ci_0 ?_
  refine g_istore (pc' := 11) (l' := [some (.ref a0), some (.int i1), some (.int i2), some (.ref xP), some (.int (46 : Int32)), some (.int (0 : Int32)), none]) d_55_9 rfl ml_55 rfl rfl ?_
  exact h
theorem S_55_11 {a0 : Nat} {i1 : Int32} {i2 : Int32} {i4 : Int32} {i5 : Int32} {w : xW} {r : Option Value × xW} (h : (i4 ≤ i5 → r = (none, w)) ∧ (¬ (i4 ≤ i5) → (w[xP]? = none) ∧ (¬ (i5 < 0 ∨ 46 ≤ i5.toNatClampNeg)) ∧ ∀ v3 : Int32, v3 = (xpr i5.toNatClampNeg) → ∃ r6 w4, xCall 52 [.int v3, .int i1] w (some (.int r6), w4) ∧ (r6 = 0 → ∀ v7 : Int32, v7 = i5 + (1 : Int32) → xGo 55 11 [some (.ref a0), some (.int i1), some (.int i2), some (.ref xP), some (.int i4), some (.int v7), none] [] w4 r) ∧ (¬ (r6 = 0) → ∃ fs8, w4[a0]? = some (.inr (0, fs8)) ∧ ∃ b10, fs8[1]? = some (.ref b10) ∧ ∃ fs12, w4[b10]? = some (.inr (2, fs12)) ∧ ∃ w14, xCall 41 [.ref b10, .long (i2.toInt64), .long (0 : Int64), .long (1 : Int64), .long (v3.toInt64)] w4 (none, w14) ∧ ∀ v16 : Int32, v16 = i5 + (1 : Int32) → xGo 55 11 [some (.ref a0), some (.int i1), some (.int i2), some (.ref xP), some (.int i4), some (.int v16), none] [] w14 r))) : xGo 55 11 [some (.ref a0), some (.int i1), some (.int i2), some (.ref xP), some (.int i4), some (.int i5), none] [] w r := by
  refine g_iload (pc' := 13) d_55_11 rfl rfl ?_
  refine g_iload (pc' := 15) d_55_13 rfl rfl ?_
  refine g_ic_ge (pc' := 18) (pt := 53) d_55_15 (by decide) rfl (fun c => ?_) (fun c => ?_)
  · replace h := h.1 c
    exact g_vret d_55_53 rt_55 h
  · replace h := h.2 c
    refine g_aloadn (pc' := 19) d_55_18 rfl rfl ?_
    refine g_iload (pc' := 21) d_55_19 rfl rfl ?_
    obtain ⟨hc1, h⟩ := h
    obtain ⟨hc2, h⟩ := h
    refine g_pald (pc' := 22) d_55_21 rfl hc1 hc2 ?_
    have h := h _ rfl
    refine g_istore (pc' := 24) (l' := [some (.ref a0), some (.int i1), some (.int i2), some (.ref xP), some (.int i4), some (.int i5), some (.int ((xpr i5.toNatClampNeg)))]) d_55_22 rfl ml_55 rfl rfl ?_
    refine g_iload (pc' := 26) d_55_24 rfl rfl ?_
    refine g_iloadn (pc' := 27) d_55_26 rfl rfl ?_
    obtain ⟨r6, w4, hk5, h⟩ := h
    refine g_callS (pc' := 30) d_55_27 rfl st_55_187 (Or.inl rfl) na_52 ml_52 rfl rfl rfl rm_55_52 rfl rfl hk5 ?_
    refine g_if_eq (pc' := 33) (pt := 47) d_55_30 (by decide) rfl (fun c => ?_) (fun c => ?_)
    · replace h := h.1 c
      have h := h _ rfl
      refine g_iinc (pc' := 50) (l' := [some (.ref a0), some (.int i1), some (.int i2), some (.ref xP), some (.int i4), some (.int (i5 + (1 : Int32))), some (.int ((xpr i5.toNatClampNeg)))]) d_55_47 rfl rfl ci_1 ml_55 rfl rfl ?_
      refine g_goto (pt := 11) d_55_50 (by decide) ?_
      exact xGo.more (xle_s (xle_s (xle_s (xle_s (xle_s (xle_s (xle_n xle_0))))))) h
    · replace h := h.2 c
      refine g_aloadn (pc' := 34) d_55_33 rfl rfl ?_
      obtain ⟨fs8, hw9, h⟩ := h
      obtain ⟨b10, hv11, h⟩ := h
      refine g_getf (pc' := 37) d_55_34 rfl st_55_21 hw9 hv11 ?_
      refine g_iloadn (pc' := 38) d_55_37 rfl rfl ?_
      refine g_i2l (pc' := 39) d_55_38 rfl ?_
      refine g_lconst (pc' := 40) d_55_39 rfl cl_0 ?_
      refine g_lconst (pc' := 41) d_55_40 rfl cl_1 ?_
      refine g_iload (pc' := 43) d_55_41 rfl rfl ?_
      refine g_i2l (pc' := 44) d_55_43 rfl ?_
      obtain ⟨fs12, hw13, h⟩ := h
      obtain ⟨w14, hk15, h⟩ := h
      refine g_callV (pc' := 47) d_55_44 rfl st_55_207 na_41 ml_41 rfl rfl rfl rm_55_41 rfl rfl ow_41 hw13 hk15 ?_
      have h := h _ rfl
      refine g_iinc (pc' := 50) (l' := [some (.ref a0), some (.int i1), some (.int i2), some (.ref xP), some (.int i4), some (.int (i5 + (1 : Int32))), some (.int ((xpr i5.toNatClampNeg)))]) d_55_47 rfl rfl ci_1 ml_55 rfl rfl ?_
      refine g_goto (pt := 11) d_55_50 (by decide) ?_
      exact xGo.more (xle_s (xle_s (xle_s (xle_s (xle_s (xle_s (xle_n xle_0))))))) h
-- 56 BernoulliWays$Entries.holds(ILBernoulliWays$Fraction;)Z
theorem S_56_0 {a0 : Nat} {i1 : Int32} {a2 : Nat} {w : xW} {r : Option Value × xW} (h : ∃ fs1, w[a0]? = some (.inr (4, fs1)) ∧ ∃ r5 w3, xCall 29 [.ref a0, .int i1] w (some (.long r5), w3) ∧ ∃ fs6, w3[a2]? = some (.inr (5, fs6)) ∧ ∃ x8, fs6[0]? = some (.long x8) ∧ (¬ r5 = x8 → r = (some (.int (0 : Int32)), w3)) ∧ (¬ (¬ r5 = x8) → ∃ fs10, w3[a0]? = some (.inr (4, fs10)) ∧ ∃ r14 w12, xCall 30 [.ref a0, .int i1] w3 (some (.long r14), w12) ∧ ∃ fs15, w12[a2]? = some (.inr (5, fs15)) ∧ ∃ x17, fs15[1]? = some (.long x17) ∧ (¬ r14 = x17 → r = (some (.int (0 : Int32)), w12)) ∧ (¬ (¬ r14 = x17) → ∃ fs19, w12[a0]? = some (.inr (4, fs19)) ∧ ∃ r23 w21, xCall 31 [.ref a0, .int i1] w12 (some (.long r23), w21) ∧ ∃ fs24, w21[a2]? = some (.inr (5, fs24)) ∧ ∃ x26, fs24[2]? = some (.long x26) ∧ (¬ r23 = x26 → r = (some (.int (0 : Int32)), w21)) ∧ (¬ (¬ r23 = x26) → r = (some (.int (1 : Int32)), w21))))) : xGo 56 0 [some (.ref a0), some (.int i1), some (.ref a2)] [] w r := by
  refine g_aloadn (pc' := 1) d_56_0 rfl rfl ?_
  refine g_iloadn (pc' := 2) d_56_1 rfl rfl ?_
  obtain ⟨fs1, hw2, h⟩ := h
  obtain ⟨r5, w3, hk4, h⟩ := h
  refine g_callV (pc' := 5) d_56_2 rfl st_56_38 na_29 ml_29 rfl rfl rfl rm_56_29 rfl rfl ow_29 hw2 hk4 ?_
  refine g_aloadn (pc' := 6) d_56_5 rfl rfl ?_
  obtain ⟨fs6, hw7, h⟩ := h
  obtain ⟨x8, hv9, h⟩ := h
  refine g_getf (pc' := 9) d_56_6 rfl st_56_45 hw7 hv9 ?_
  refine g_lc_ne (pc' := 13) (pm := 10) (pt := 43) d_56_9 rfl d_56_10 (by decide) rfl (fun c => ?_) (fun c => ?_)
  · replace h := h.1 c
    refine g_iconst (pc' := 44) d_56_43 rfl ci_0 ?_
    exact g_zret d_56_44 rt_56 (Or.inl rfl) h
  · replace h := h.2 c
    refine g_aloadn (pc' := 14) d_56_13 rfl rfl ?_
    refine g_iloadn (pc' := 15) d_56_14 rfl rfl ?_
    obtain ⟨fs10, hw11, h⟩ := h
    obtain ⟨r14, w12, hk13, h⟩ := h
    refine g_callV (pc' := 18) d_56_15 rfl st_56_42 na_30 ml_30 rfl rfl rfl rm_56_30 rfl rfl ow_30 hw11 hk13 ?_
    refine g_aloadn (pc' := 19) d_56_18 rfl rfl ?_
    obtain ⟨fs15, hw16, h⟩ := h
    obtain ⟨x17, hv18, h⟩ := h
    refine g_getf (pc' := 22) d_56_19 rfl st_56_49 hw16 hv18 ?_
    refine g_lc_ne (pc' := 26) (pm := 23) (pt := 43) d_56_22 rfl d_56_23 (by decide) rfl (fun c => ?_) (fun c => ?_)
    · replace h := h.1 c
      refine g_iconst (pc' := 44) d_56_43 rfl ci_0 ?_
      exact g_zret d_56_44 rt_56 (Or.inl rfl) h
    · replace h := h.2 c
      refine g_aloadn (pc' := 27) d_56_26 rfl rfl ?_
      refine g_iloadn (pc' := 28) d_56_27 rfl rfl ?_
      obtain ⟨fs19, hw20, h⟩ := h
      obtain ⟨r23, w21, hk22, h⟩ := h
      refine g_callV (pc' := 31) d_56_28 rfl st_56_55 na_31 ml_31 rfl rfl rfl rm_56_31 rfl rfl ow_31 hw20 hk22 ?_
      refine g_aloadn (pc' := 32) d_56_31 rfl rfl ?_
      obtain ⟨fs24, hw25, h⟩ := h
      obtain ⟨x26, hv27, h⟩ := h
      refine g_getf (pc' := 35) d_56_32 rfl st_56_52 hw25 hv27 ?_
      refine g_lc_ne (pc' := 39) (pm := 36) (pt := 43) d_56_35 rfl d_56_36 (by decide) rfl (fun c => ?_) (fun c => ?_)
      · replace h := h.1 c
        refine g_iconst (pc' := 44) d_56_43 rfl ci_0 ?_
        exact g_zret d_56_44 rt_56 (Or.inl rfl) h
      · replace h := h.2 c
        refine g_iconst (pc' := 40) d_56_39 rfl ci_1 ?_
        refine g_goto (pt := 44) d_56_40 (by decide) ?_
        exact g_zret d_56_44 rt_56 (Or.inr rfl) h
-- 57 BernoulliWays.noteWay(II)V
theorem S_57_0 {a0 : Nat} {i1 : Int32} {i2 : Int32} {w : xW} {r : Option Value × xW} (h : (i1 < 0 → r = (none, w)) ∧ (¬ (i1 < 0) → ∃ fs1, w[a0]? = some (.inr (0, fs1)) ∧ ∃ b3, fs1[6]? = some (.ref b3) ∧ ∃ n5 f6, w[b3]? = some (.inl (.inl (n5, f6))) ∧ ((Int32.ofNat n5) ≤ i1 → r = (none, w)) ∧ (¬ ((Int32.ofNat n5) ≤ i1) → (¬ (i1 < 0 ∨ n5 ≤ i1.toNatClampNeg)) ∧ ∀ w9, w9 = w.set b3 (.inl (.inl (n5, (upd f6 i1.toNatClampNeg i2)))) → r = (none, w9)))) : xGo 57 0 [some (.ref a0), some (.int i1), some (.int i2)] [] w r := by
  refine g_iloadn (pc' := 1) d_57_0 rfl rfl ?_
  refine g_if_lt (pc' := 4) (pt := 20) d_57_1 (by decide) rfl (fun c => ?_) (fun c => ?_)
  · replace h := h.1 c
    exact g_vret d_57_20 rt_57 h
  · replace h := h.2 c
    refine g_iloadn (pc' := 5) d_57_4 rfl rfl ?_
    refine g_aloadn (pc' := 6) d_57_5 rfl rfl ?_
    obtain ⟨fs1, hw2, h⟩ := h
    obtain ⟨b3, hv4, h⟩ := h
    refine g_getf (pc' := 9) d_57_6 rfl st_57_45 hw2 hv4 ?_
    obtain ⟨n5, f6, hw7, h⟩ := h
    refine g_leni (pc' := 10) d_57_9 rfl hw7 ?_
    refine g_ic_ge (pc' := 13) (pt := 20) d_57_10 (by decide) rfl (fun c => ?_) (fun c => ?_)
    · replace h := h.1 c
      exact g_vret d_57_20 rt_57 h
    · replace h := h.2 c
      refine g_aloadn (pc' := 14) d_57_13 rfl rfl ?_
      refine g_getf (pc' := 17) d_57_14 rfl st_57_45 hw2 hv4 ?_
      refine g_iloadn (pc' := 18) d_57_17 rfl rfl ?_
      refine g_iloadn (pc' := 19) d_57_18 rfl rfl ?_
      obtain ⟨hc8, h⟩ := h
      have h := h _ rfl
      refine g_iast (pc' := 20) d_57_19 rfl hw7 hc8 ?_
      exact g_vret d_57_20 rt_57 h
-- 58 BernoulliWays.relay(II)I
theorem S_58_0 {a0 : Nat} {i1 : Int32} {i2 : Int32} {w : xW} {r : Option Value × xW} (h : ∃ r3 w1, xCall 24 [.int i1] w (some (.int r3), w1) ∧ (r3 = 0 → r = (some (.int (-1 : Int32)), w1)) ∧ (¬ (r3 = 0) → ∃ r6 w4, xCall 25 [.int i2] w1 (some (.int r6), w4) ∧ (¬ r6 = 0 → ∃ fs7, w4[a0]? = some (.inr (0, fs7)) ∧ ∃ x9, fs7[7]? = some (.int x9) ∧ (i1 ≤ x9 → (¬ i2 = 0 → ∃ r13 w11, xCall 32 [.ref a0, .int i1, .int i2] w4 (some (.int r13), w11) ∧ (r13 = 0 → r = (some (.int (0 : Int32)), w11)) ∧ (¬ (r13 = 0) → r = (some (.int (1 : Int32)), w11))) ∧ (¬ (¬ i2 = 0) → ∃ r16 w14, xCall 26 [.ref a0, .int i1] w4 (some (.int r16), w14) ∧ (¬ r16 = 0 → ∃ fs17, w14[a0]? = some (.inr (0, fs17)) ∧ ∃ r21 w19, xCall 32 [.ref a0, .int i1, .int i2] w14 (some (.int r21), w19) ∧ (r21 = 0 → r = (some (.int (0 : Int32)), w19)) ∧ (¬ (r21 = 0) → r = (some (.int (1 : Int32)), w19))) ∧ (¬ (¬ r16 = 0) → r = (some (.int (-3 : Int32)), w14)))) ∧ (¬ (i1 ≤ x9) → r = (some (.int (-2 : Int32)), w4))) ∧ (¬ (¬ r6 = 0) → r = (some (.int (-1 : Int32)), w4)))) : xGo 58 0 [some (.ref a0), some (.int i1), some (.int i2)] [] w r := by
  refine g_iloadn (pc' := 1) d_58_0 rfl rfl ?_
  obtain ⟨r3, w1, hk2, h⟩ := h
  refine g_callS (pc' := 4) d_58_1 rfl st_58_120 (Or.inl rfl) na_24 ml_24 rfl rfl rfl rm_58_24 rfl rfl hk2 ?_
  refine g_if_eq (pc' := 7) (pt := 14) d_58_4 (by decide) rfl (fun c => ?_) (fun c => ?_)
  · replace h := h.1 c
    refine g_iconst (pc' := 15) d_58_14 rfl ci_m1 ?_
    exact g_iret d_58_15 rt_58 h
  · replace h := h.2 c
    refine g_iloadn (pc' := 8) d_58_7 rfl rfl ?_
    obtain ⟨r6, w4, hk5, h⟩ := h
    refine g_callS (pc' := 11) d_58_8 rfl st_58_124 (Or.inl rfl) na_25 ml_25 rfl rfl rfl rm_58_25 rfl rfl hk5 ?_
    refine g_if_ne (pc' := 14) (pt := 16) d_58_11 (by decide) rfl (fun c => ?_) (fun c => ?_)
    · replace h := h.1 c
      refine g_iloadn (pc' := 17) d_58_16 rfl rfl ?_
      refine g_aloadn (pc' := 18) d_58_17 rfl rfl ?_
      obtain ⟨fs7, hw8, h⟩ := h
      obtain ⟨x9, hv10, h⟩ := h
      refine g_getf (pc' := 21) d_58_18 rfl st_58_49 hw8 hv10 ?_
      refine g_ic_le (pc' := 24) (pt := 27) d_58_21 (by decide) rfl (fun c => ?_) (fun c => ?_)
      · replace h := h.1 c
        refine g_iloadn (pc' := 28) d_58_27 rfl rfl ?_
        refine g_if_ne (pc' := 31) (pt := 42) d_58_28 (by decide) rfl (fun c => ?_) (fun c => ?_)
        · replace h := h.1 c
          refine g_aloadn (pc' := 43) d_58_42 rfl rfl ?_
          refine g_iloadn (pc' := 44) d_58_43 rfl rfl ?_
          refine g_iloadn (pc' := 45) d_58_44 rfl rfl ?_
          obtain ⟨r13, w11, hk12, h⟩ := h
          refine g_callV (pc' := 48) d_58_45 rfl st_58_130 na_32 ml_32 rfl rfl rfl rm_58_32 rfl rfl ow_32 hw8 hk12 ?_
          refine g_if_eq (pc' := 51) (pt := 55) d_58_48 (by decide) rfl (fun c => ?_) (fun c => ?_)
          · replace h := h.1 c
            refine g_iconst (pc' := 56) d_58_55 rfl ci_0 ?_
            exact g_iret d_58_56 rt_58 h
          · replace h := h.2 c
            refine g_iconst (pc' := 52) d_58_51 rfl ci_1 ?_
            refine g_goto (pt := 56) d_58_52 (by decide) ?_
            exact g_iret d_58_56 rt_58 h
        · replace h := h.2 c
          refine g_aloadn (pc' := 32) d_58_31 rfl rfl ?_
          refine g_iloadn (pc' := 33) d_58_32 rfl rfl ?_
          obtain ⟨r16, w14, hk15, h⟩ := h
          refine g_callV (pc' := 36) d_58_33 rfl st_58_127 na_26 ml_26 rfl rfl rfl rm_58_26 rfl rfl ow_26 hw8 hk15 ?_
          refine g_if_ne (pc' := 39) (pt := 42) d_58_36 (by decide) rfl (fun c => ?_) (fun c => ?_)
          · replace h := h.1 c
            refine g_aloadn (pc' := 43) d_58_42 rfl rfl ?_
            refine g_iloadn (pc' := 44) d_58_43 rfl rfl ?_
            refine g_iloadn (pc' := 45) d_58_44 rfl rfl ?_
            obtain ⟨fs17, hw18, h⟩ := h
            obtain ⟨r21, w19, hk20, h⟩ := h
            refine g_callV (pc' := 48) d_58_45 rfl st_58_130 na_32 ml_32 rfl rfl rfl rm_58_32 rfl rfl ow_32 hw18 hk20 ?_
            refine g_if_eq (pc' := 51) (pt := 55) d_58_48 (by decide) rfl (fun c => ?_) (fun c => ?_)
            · replace h := h.1 c
              refine g_iconst (pc' := 56) d_58_55 rfl ci_0 ?_
              exact g_iret d_58_56 rt_58 h
            · replace h := h.2 c
              refine g_iconst (pc' := 52) d_58_51 rfl ci_1 ?_
              refine g_goto (pt := 56) d_58_52 (by decide) ?_
              exact g_iret d_58_56 rt_58 h
          · replace h := h.2 c
            refine g_bipush (pc' := 41) d_58_39 rfl cb_m3 ?_
            exact g_iret d_58_41 rt_58 h
      · replace h := h.2 c
        refine g_bipush (pc' := 26) d_58_24 rfl cb_m2 ?_
        exact g_iret d_58_26 rt_58 h
    · replace h := h.2 c
      refine g_iconst (pc' := 15) d_58_14 rfl ci_m1 ?_
      exact g_iret d_58_15 rt_58 h
-- 59 BernoulliWays.spoil(II)I
theorem S_59_0 {a0 : Nat} {i1 : Int32} {i2 : Int32} {w : xW} {r : Option Value × xW} (h : ∃ r3 w1, xCall 24 [.int i1] w (some (.int r3), w1) ∧ (r3 = 0 → r = (some (.int (-1 : Int32)), w1)) ∧ (¬ (r3 = 0) → (i2 = 0 → r = (some (.int (-1 : Int32)), w1)) ∧ (¬ (i2 = 0) → (i2 < (-9 : Int32) → r = (some (.int (-1 : Int32)), w1)) ∧ (¬ (i2 < (-9 : Int32)) → (i2 ≤ (9 : Int32) → ∃ fs4, w1[a0]? = some (.inr (0, fs4)) ∧ ∃ x6, fs4[7]? = some (.int x6) ∧ (i1 ≤ x6 → ∃ b8, fs4[4]? = some (.ref b8) ∧ ∃ fs10, w1[b8]? = some (.inr (4, fs10)) ∧ ∃ w12, xCall 60 [.ref b8, .int i1, .long (i2.toInt64)] w1 (none, w12) ∧ ∃ fs14, w12[a0]? = some (.inr (0, fs14)) ∧ ∃ w16, xCall 57 [.ref a0, .int i1, .int (3 : Int32)] w12 (none, w16) ∧ ∃ fs18, w16[a0]? = some (.inr (0, fs18)) ∧ ∃ b20, fs18[8]? = some (.ref b20) ∧ ∃ fs22, w16[b20]? = some (.inr (6, fs22)) ∧ ∃ r26 w24, xCall 61 [.ref b20, .int i1, .int (63 : Int32)] w16 (some (.int r26), w24) ∧ r = (some (.int r26), w24)) ∧ (¬ (i1 ≤ x6) → r = (some (.int (-2 : Int32)), w1))) ∧ (¬ (i2 ≤ (9 : Int32)) → r = (some (.int (-1 : Int32)), w1)))))) : xGo 59 0 [some (.ref a0), some (.int i1), some (.int i2)] [] w r := by
  refine g_iloadn (pc' := 1) d_59_0 rfl rfl ?_
  obtain ⟨r3, w1, hk2, h⟩ := h
  refine g_callS (pc' := 4) d_59_1 rfl st_59_120 (Or.inl rfl) na_24 ml_24 rfl rfl rfl rm_59_24 rfl rfl hk2 ?_
  refine g_if_eq (pc' := 7) (pt := 23) d_59_4 (by decide) rfl (fun c => ?_) (fun c => ?_)
  · replace h := h.1 c
    refine g_iconst (pc' := 24) d_59_23 rfl ci_m1 ?_
    exact g_iret d_59_24 rt_59 h
  · replace h := h.2 c
    refine g_iloadn (pc' := 8) d_59_7 rfl rfl ?_
    refine g_if_eq (pc' := 11) (pt := 23) d_59_8 (by decide) rfl (fun c => ?_) (fun c => ?_)
    · replace h := h.1 c
      refine g_iconst (pc' := 24) d_59_23 rfl ci_m1 ?_
      exact g_iret d_59_24 rt_59 h
    · replace h := h.2 c
      refine g_iloadn (pc' := 12) d_59_11 rfl rfl ?_
      refine g_bipush (pc' := 14) d_59_12 rfl cb_m9 ?_
      refine g_ic_lt (pc' := 17) (pt := 23) d_59_14 (by decide) rfl (fun c => ?_) (fun c => ?_)
      · replace h := h.1 c
        refine g_iconst (pc' := 24) d_59_23 rfl ci_m1 ?_
        exact g_iret d_59_24 rt_59 h
      · replace h := h.2 c
        refine g_iloadn (pc' := 18) d_59_17 rfl rfl ?_
        refine g_bipush (pc' := 20) d_59_18 rfl cb_9 ?_
        refine g_ic_le (pc' := 23) (pt := 25) d_59_20 (by decide) rfl (fun c => ?_) (fun c => ?_)
        · replace h := h.1 c
          refine g_iloadn (pc' := 26) d_59_25 rfl rfl ?_
          refine g_aloadn (pc' := 27) d_59_26 rfl rfl ?_
          obtain ⟨fs4, hw5, h⟩ := h
          obtain ⟨x6, hv7, h⟩ := h
          refine g_getf (pc' := 30) d_59_27 rfl st_59_49 hw5 hv7 ?_
          refine g_ic_le (pc' := 33) (pt := 36) d_59_30 (by decide) rfl (fun c => ?_) (fun c => ?_)
          · replace h := h.1 c
            refine g_aloadn (pc' := 37) d_59_36 rfl rfl ?_
            obtain ⟨b8, hv9, h⟩ := h
            refine g_getf (pc' := 40) d_59_37 rfl st_59_39 hw5 hv9 ?_
            refine g_iloadn (pc' := 41) d_59_40 rfl rfl ?_
            refine g_iloadn (pc' := 42) d_59_41 rfl rfl ?_
            refine g_i2l (pc' := 43) d_59_42 rfl ?_
            obtain ⟨fs10, hw11, h⟩ := h
            obtain ⟨w12, hk13, h⟩ := h
            refine g_callV (pc' := 46) d_59_43 rfl st_59_134 na_60 ml_60 rfl rfl rfl rm_59_60 rfl rfl ow_60 hw11 hk13 ?_
            refine g_aloadn (pc' := 47) d_59_46 rfl rfl ?_
            refine g_iloadn (pc' := 48) d_59_47 rfl rfl ?_
            refine g_iconst (pc' := 49) d_59_48 rfl ci_3 ?_
            obtain ⟨fs14, hw15, h⟩ := h
            obtain ⟨w16, hk17, h⟩ := h
            refine g_callV (pc' := 52) d_59_49 rfl st_59_138 na_57 ml_57 rfl rfl rfl rm_59_57 rfl rfl ow_57 hw15 hk17 ?_
            refine g_aloadn (pc' := 53) d_59_52 rfl rfl ?_
            obtain ⟨fs18, hw19, h⟩ := h
            obtain ⟨b20, hv21, h⟩ := h
            refine g_getf (pc' := 56) d_59_53 rfl st_59_58 hw19 hv21 ?_
            refine g_iloadn (pc' := 57) d_59_56 rfl rfl ?_
            refine g_bipush (pc' := 59) d_59_57 rfl cb_63 ?_
            obtain ⟨fs22, hw23, h⟩ := h
            obtain ⟨r26, w24, hk25, h⟩ := h
            refine g_callV (pc' := 62) d_59_59 rfl st_59_142 na_61 ml_61 rfl rfl rfl rm_59_61 rfl rfl ow_61 hw23 hk25 ?_
            exact g_iret d_59_62 rt_59 h
          · replace h := h.2 c
            refine g_bipush (pc' := 35) d_59_33 rfl cb_m2 ?_
            exact g_iret d_59_35 rt_59 h
        · replace h := h.2 c
          refine g_iconst (pc' := 24) d_59_23 rfl ci_m1 ?_
          exact g_iret d_59_24 rt_59 h
-- 60 BernoulliWays$Entries.increase(IJ)V
theorem S_60_0 {a0 : Nat} {i1 : Int32} {l2 : Int64} {w : xW} {r : Option Value × xW} (h : ∃ fs1, w[a0]? = some (.inr (4, fs1)) ∧ ∃ b3, fs1[3]? = some (.ref b3) ∧ ∃ r7 w5, xCall 29 [.ref a0, .int i1] w (some (.long r7), w5) ∧ ∃ fs8, w5[a0]? = some (.inr (4, fs8)) ∧ ∃ r12 w10, xCall 30 [.ref a0, .int i1] w5 (some (.long r12), w10) ∧ ∃ fs13, w10[a0]? = some (.inr (4, fs13)) ∧ ∃ r17 w15, xCall 31 [.ref a0, .int i1] w10 (some (.long r17), w15) ∧ ∃ fs18, w15[b3]? = some (.inr (5, fs18)) ∧ ∃ w20, xCall 16 [.ref b3, .long r7, .long (r12 + l2), .long r17] w15 (none, w20) ∧ ∃ fs22, w20[a0]? = some (.inr (4, fs22)) ∧ ∃ b24, fs22[3]? = some (.ref b24) ∧ ∃ w26, xCall 20 [.ref a0, .int i1, .ref b24] w20 (none, w26) ∧ r = (none, w26)) : xGo 60 0 [some (.ref a0), some (.int i1), some (.long l2), none] [] w r := by
  refine g_aloadn (pc' := 1) d_60_0 rfl rfl ?_
  obtain ⟨fs1, hw2, h⟩ := h
  obtain ⟨b3, hv4, h⟩ := h
  refine g_getf (pc' := 4) d_60_1 rfl st_60_24 hw2 hv4 ?_
  refine g_aloadn (pc' := 5) d_60_4 rfl rfl ?_
  refine g_iloadn (pc' := 6) d_60_5 rfl rfl ?_
  obtain ⟨r7, w5, hk6, h⟩ := h
  refine g_callV (pc' := 9) d_60_6 rfl st_60_38 na_29 ml_29 rfl rfl rfl rm_60_29 rfl rfl ow_29 hw2 hk6 ?_
  refine g_aloadn (pc' := 10) d_60_9 rfl rfl ?_
  refine g_iloadn (pc' := 11) d_60_10 rfl rfl ?_
  obtain ⟨fs8, hw9, h⟩ := h
  obtain ⟨r12, w10, hk11, h⟩ := h
  refine g_callV (pc' := 14) d_60_11 rfl st_60_42 na_30 ml_30 rfl rfl rfl rm_60_30 rfl rfl ow_30 hw9 hk11 ?_
  refine g_lloadn (pc' := 15) d_60_14 rfl rfl ?_
  refine g_ladd (pc' := 16) d_60_15 rfl ?_
  refine g_aloadn (pc' := 17) d_60_16 rfl rfl ?_
  refine g_iloadn (pc' := 18) d_60_17 rfl rfl ?_
  obtain ⟨fs13, hw14, h⟩ := h
  obtain ⟨r17, w15, hk16, h⟩ := h
  refine g_callV (pc' := 21) d_60_18 rfl st_60_55 na_31 ml_31 rfl rfl rfl rm_60_31 rfl rfl ow_31 hw14 hk16 ?_
  obtain ⟨fs18, hw19, h⟩ := h
  obtain ⟨w20, hk21, h⟩ := h
  refine g_callV (pc' := 24) d_60_21 rfl st_60_58 na_16 ml_16 rfl rfl rfl rm_60_16 rfl rfl ow_16 hw19 hk21 ?_
  refine g_aloadn (pc' := 25) d_60_24 rfl rfl ?_
  refine g_iloadn (pc' := 26) d_60_25 rfl rfl ?_
  refine g_aloadn (pc' := 27) d_60_26 rfl rfl ?_
  obtain ⟨fs22, hw23, h⟩ := h
  obtain ⟨b24, hv25, h⟩ := h
  refine g_getf (pc' := 30) d_60_27 rfl st_60_24 hw23 hv25 ?_
  obtain ⟨w26, hk27, h⟩ := h
  refine g_callV (pc' := 33) d_60_30 rfl st_60_68 na_20 ml_20 rfl rfl rfl rm_60_20 rfl rfl ow_20 hw23 hk27 ?_
  exact g_vret d_60_33 rt_60 h
-- 61 BernoulliWays$Checks.failed(II)I
theorem S_61_0 {a0 : Nat} {i1 : Int32} {i2 : Int32} {w : xW} {r : Option Value × xW} (h : ((i2 &&& (1 : Int32)) = 0 → ((i2 &&& (2 : Int32)) = 0 → xGo 61 45 [some (.ref a0), some (.int i1), some (.int i2), some (.int (0 : Int32))] [] w r) ∧ (¬ ((i2 &&& (2 : Int32)) = 0) → ∃ fs1, w[a0]? = some (.inr (6, fs1)) ∧ ∃ b3, fs1[0]? = some (.ref b3) ∧ ∃ fs5, w[b3]? = some (.inr (4, fs5)) ∧ ∃ r9 w7, xCall 63 [.ref b3, .int i1] w (some (.int r9), w7) ∧ ∃ r12 w10, xCall 64 [.int i1] w7 (some (.int r12), w10) ∧ (r9 = r12 → xGo 61 45 [some (.ref a0), some (.int i1), some (.int i2), some (.int (0 : Int32))] [] w10 r) ∧ (¬ (r9 = r12) → ∀ v13 : Int32, v13 = ((0 : Int32) ||| (2 : Int32)) → xGo 61 45 [some (.ref a0), some (.int i1), some (.int i2), some (.int v13)] [] w10 r))) ∧ (¬ ((i2 &&& (1 : Int32)) = 0) → ∃ fs14, w[a0]? = some (.inr (6, fs14)) ∧ ∃ r18 w16, xCall 62 [.ref a0, .int i1] w (some (.int r18), w16) ∧ (r18 = 0 → ((i2 &&& (2 : Int32)) = 0 → xGo 61 45 [some (.ref a0), some (.int i1), some (.int i2), some (.int (0 : Int32))] [] w16 r) ∧ (¬ ((i2 &&& (2 : Int32)) = 0) → ∃ fs19, w16[a0]? = some (.inr (6, fs19)) ∧ ∃ b21, fs19[0]? = some (.ref b21) ∧ ∃ fs23, w16[b21]? = some (.inr (4, fs23)) ∧ ∃ r27 w25, xCall 63 [.ref b21, .int i1] w16 (some (.int r27), w25) ∧ ∃ r30 w28, xCall 64 [.int i1] w25 (some (.int r30), w28) ∧ (r27 = r30 → xGo 61 45 [some (.ref a0), some (.int i1), some (.int i2), some (.int (0 : Int32))] [] w28 r) ∧ (¬ (r27 = r30) → ∀ v31 : Int32, v31 = ((0 : Int32) ||| (2 : Int32)) → xGo 61 45 [some (.ref a0), some (.int i1), some (.int i2), some (.int v31)] [] w28 r))) ∧ (¬ (r18 = 0) → ∀ v32 : Int32, v32 = ((0 : Int32) ||| (1 : Int32)) → ((i2 &&& (2 : Int32)) = 0 → xGo 61 45 [some (.ref a0), some (.int i1), some (.int i2), some (.int v32)] [] w16 r) ∧ (¬ ((i2 &&& (2 : Int32)) = 0) → ∃ fs33, w16[a0]? = some (.inr (6, fs33)) ∧ ∃ b35, fs33[0]? = some (.ref b35) ∧ ∃ fs37, w16[b35]? = some (.inr (4, fs37)) ∧ ∃ r41 w39, xCall 63 [.ref b35, .int i1] w16 (some (.int r41), w39) ∧ ∃ r44 w42, xCall 64 [.int i1] w39 (some (.int r44), w42) ∧ (r41 = r44 → xGo 61 45 [some (.ref a0), some (.int i1), some (.int i2), some (.int v32)] [] w42 r) ∧ (¬ (r41 = r44) → ∀ v45 : Int32, v45 = (v32 ||| (2 : Int32)) → xGo 61 45 [some (.ref a0), some (.int i1), some (.int i2), some (.int v45)] [] w42 r))))) : xGo 61 0 [some (.ref a0), some (.int i1), some (.int i2), none] [] w r := by
  refine g_iconst (pc' := 1) d_61_0 rfl ci_0 ?_
  refine g_istoren (pc' := 2) (l' := [some (.ref a0), some (.int i1), some (.int i2), some (.int (0 : Int32))]) d_61_1 rfl ml_61 rfl rfl ?_
  refine g_iloadn (pc' := 3) d_61_2 rfl rfl ?_
  refine g_iconst (pc' := 4) d_61_3 rfl ci_1 ?_
  refine g_iand (pc' := 5) d_61_4 rfl ?_
  refine g_if_eq (pc' := 8) (pt := 20) d_61_5 (by decide) rfl (fun c => ?_) (fun c => ?_)
  · replace h := h.1 c
    refine g_iloadn (pc' := 21) d_61_20 rfl rfl ?_
    refine g_iconst (pc' := 22) d_61_21 rfl ci_2 ?_
    refine g_iand (pc' := 23) d_61_22 rfl ?_
    refine g_if_eq (pc' := 26) (pt := 45) d_61_23 (by decide) rfl (fun c => ?_) (fun c => ?_)
    · replace h := h.1 c
      exact h
    · replace h := h.2 c
      refine g_aloadn (pc' := 27) d_61_26 rfl rfl ?_
      obtain ⟨fs1, hw2, h⟩ := h
      obtain ⟨b3, hv4, h⟩ := h
      refine g_getf (pc' := 30) d_61_27 rfl st_61_9 hw2 hv4 ?_
      refine g_iloadn (pc' := 31) d_61_30 rfl rfl ?_
      obtain ⟨fs5, hw6, h⟩ := h
      obtain ⟨r9, w7, hk8, h⟩ := h
      refine g_callV (pc' := 34) d_61_31 rfl st_61_27 na_63 ml_63 rfl rfl rfl rm_61_63 rfl rfl ow_63 hw6 hk8 ?_
      refine g_iloadn (pc' := 35) d_61_34 rfl rfl ?_
      obtain ⟨r12, w10, hk11, h⟩ := h
      refine g_callS (pc' := 38) d_61_35 rfl st_61_33 (Or.inl rfl) na_64 ml_64 rfl rfl rfl rm_61_64 rfl rfl hk11 ?_
      refine g_ic_eq (pc' := 41) (pt := 45) d_61_38 (by decide) rfl (fun c => ?_) (fun c => ?_)
      · replace h := h.1 c
        exact h
      · replace h := h.2 c
        refine g_iloadn (pc' := 42) d_61_41 rfl rfl ?_
        refine g_iconst (pc' := 43) d_61_42 rfl ci_2 ?_
        refine g_ior (pc' := 44) d_61_43 rfl ?_
        have h := h _ rfl
        refine g_istoren (pc' := 45) (l' := [some (.ref a0), some (.int i1), some (.int i2), some (.int (((0 : Int32) ||| (2 : Int32))))]) d_61_44 rfl ml_61 rfl rfl ?_
        exact h
  · replace h := h.2 c
    refine g_aloadn (pc' := 9) d_61_8 rfl rfl ?_
    refine g_iloadn (pc' := 10) d_61_9 rfl rfl ?_
    obtain ⟨fs14, hw15, h⟩ := h
    obtain ⟨r18, w16, hk17, h⟩ := h
    refine g_callV (pc' := 13) d_61_10 rfl st_61_23 na_62 ml_62 rfl rfl rfl rm_61_62 rfl rfl ow_62 hw15 hk17 ?_
    refine g_if_eq (pc' := 16) (pt := 20) d_61_13 (by decide) rfl (fun c => ?_) (fun c => ?_)
    · replace h := h.1 c
      refine g_iloadn (pc' := 21) d_61_20 rfl rfl ?_
      refine g_iconst (pc' := 22) d_61_21 rfl ci_2 ?_
      refine g_iand (pc' := 23) d_61_22 rfl ?_
      refine g_if_eq (pc' := 26) (pt := 45) d_61_23 (by decide) rfl (fun c => ?_) (fun c => ?_)
      · replace h := h.1 c
        exact h
      · replace h := h.2 c
        refine g_aloadn (pc' := 27) d_61_26 rfl rfl ?_
        obtain ⟨fs19, hw20, h⟩ := h
        obtain ⟨b21, hv22, h⟩ := h
        refine g_getf (pc' := 30) d_61_27 rfl st_61_9 hw20 hv22 ?_
        refine g_iloadn (pc' := 31) d_61_30 rfl rfl ?_
        obtain ⟨fs23, hw24, h⟩ := h
        obtain ⟨r27, w25, hk26, h⟩ := h
        refine g_callV (pc' := 34) d_61_31 rfl st_61_27 na_63 ml_63 rfl rfl rfl rm_61_63 rfl rfl ow_63 hw24 hk26 ?_
        refine g_iloadn (pc' := 35) d_61_34 rfl rfl ?_
        obtain ⟨r30, w28, hk29, h⟩ := h
        refine g_callS (pc' := 38) d_61_35 rfl st_61_33 (Or.inl rfl) na_64 ml_64 rfl rfl rfl rm_61_64 rfl rfl hk29 ?_
        refine g_ic_eq (pc' := 41) (pt := 45) d_61_38 (by decide) rfl (fun c => ?_) (fun c => ?_)
        · replace h := h.1 c
          exact h
        · replace h := h.2 c
          refine g_iloadn (pc' := 42) d_61_41 rfl rfl ?_
          refine g_iconst (pc' := 43) d_61_42 rfl ci_2 ?_
          refine g_ior (pc' := 44) d_61_43 rfl ?_
          have h := h _ rfl
          refine g_istoren (pc' := 45) (l' := [some (.ref a0), some (.int i1), some (.int i2), some (.int (((0 : Int32) ||| (2 : Int32))))]) d_61_44 rfl ml_61 rfl rfl ?_
          exact h
    · replace h := h.2 c
      refine g_iloadn (pc' := 17) d_61_16 rfl rfl ?_
      refine g_iconst (pc' := 18) d_61_17 rfl ci_1 ?_
      refine g_ior (pc' := 19) d_61_18 rfl ?_
      have h := h _ rfl
      refine g_istoren (pc' := 20) (l' := [some (.ref a0), some (.int i1), some (.int i2), some (.int (((0 : Int32) ||| (1 : Int32))))]) d_61_19 rfl ml_61 rfl rfl ?_
      refine g_iloadn (pc' := 21) d_61_20 rfl rfl ?_
      refine g_iconst (pc' := 22) d_61_21 rfl ci_2 ?_
      refine g_iand (pc' := 23) d_61_22 rfl ?_
      refine g_if_eq (pc' := 26) (pt := 45) d_61_23 (by decide) rfl (fun c => ?_) (fun c => ?_)
      · replace h := h.1 c
        exact h
      · replace h := h.2 c
        refine g_aloadn (pc' := 27) d_61_26 rfl rfl ?_
        obtain ⟨fs33, hw34, h⟩ := h
        obtain ⟨b35, hv36, h⟩ := h
        refine g_getf (pc' := 30) d_61_27 rfl st_61_9 hw34 hv36 ?_
        refine g_iloadn (pc' := 31) d_61_30 rfl rfl ?_
        obtain ⟨fs37, hw38, h⟩ := h
        obtain ⟨r41, w39, hk40, h⟩ := h
        refine g_callV (pc' := 34) d_61_31 rfl st_61_27 na_63 ml_63 rfl rfl rfl rm_61_63 rfl rfl ow_63 hw38 hk40 ?_
        refine g_iloadn (pc' := 35) d_61_34 rfl rfl ?_
        obtain ⟨r44, w42, hk43, h⟩ := h
        refine g_callS (pc' := 38) d_61_35 rfl st_61_33 (Or.inl rfl) na_64 ml_64 rfl rfl rfl rm_61_64 rfl rfl hk43 ?_
        refine g_ic_eq (pc' := 41) (pt := 45) d_61_38 (by decide) rfl (fun c => ?_) (fun c => ?_)
        · replace h := h.1 c
          exact h
        · replace h := h.2 c
          refine g_iloadn (pc' := 42) d_61_41 rfl rfl ?_
          refine g_iconst (pc' := 43) d_61_42 rfl ci_2 ?_
          refine g_ior (pc' := 44) d_61_43 rfl ?_
          have h := h _ rfl
          refine g_istoren (pc' := 45) (l' := [some (.ref a0), some (.int i1), some (.int i2), some (.int (((((0 : Int32) ||| (1 : Int32))) ||| (2 : Int32))))]) d_61_44 rfl ml_61 rfl rfl ?_
          exact h
theorem S_61_45 {a0 : Nat} {i1 : Int32} {i2 : Int32} {i3 : Int32} {w : xW} {r : Option Value × xW} (h : ((i2 &&& (4 : Int32)) = 0 → xGo 61 63 [some (.ref a0), some (.int i1), some (.int i2), some (.int i3)] [] w r) ∧ (¬ ((i2 &&& (4 : Int32)) = 0) → ∃ fs1, w[a0]? = some (.inr (6, fs1)) ∧ ∃ r5 w3, xCall 65 [.ref a0, .int i1] w (some (.int r5), w3) ∧ (r5 = 0 → xGo 61 63 [some (.ref a0), some (.int i1), some (.int i2), some (.int i3)] [] w3 r) ∧ (¬ (r5 = 0) → ∀ v6 : Int32, v6 = (i3 ||| (4 : Int32)) → xGo 61 63 [some (.ref a0), some (.int i1), some (.int i2), some (.int v6)] [] w3 r))) : xGo 61 45 [some (.ref a0), some (.int i1), some (.int i2), some (.int i3)] [] w r := by
  refine g_iloadn (pc' := 46) d_61_45 rfl rfl ?_
  refine g_iconst (pc' := 47) d_61_46 rfl ci_4 ?_
  refine g_iand (pc' := 48) d_61_47 rfl ?_
  refine g_if_eq (pc' := 51) (pt := 63) d_61_48 (by decide) rfl (fun c => ?_) (fun c => ?_)
  · replace h := h.1 c
    exact h
  · replace h := h.2 c
    refine g_aloadn (pc' := 52) d_61_51 rfl rfl ?_
    refine g_iloadn (pc' := 53) d_61_52 rfl rfl ?_
    obtain ⟨fs1, hw2, h⟩ := h
    obtain ⟨r5, w3, hk4, h⟩ := h
    refine g_callV (pc' := 56) d_61_53 rfl st_61_36 na_65 ml_65 rfl rfl rfl rm_61_65 rfl rfl ow_65 hw2 hk4 ?_
    refine g_if_eq (pc' := 59) (pt := 63) d_61_56 (by decide) rfl (fun c => ?_) (fun c => ?_)
    · replace h := h.1 c
      exact h
    · replace h := h.2 c
      refine g_iloadn (pc' := 60) d_61_59 rfl rfl ?_
      refine g_iconst (pc' := 61) d_61_60 rfl ci_4 ?_
      refine g_ior (pc' := 62) d_61_61 rfl ?_
      have h := h _ rfl
      refine g_istoren (pc' := 63) (l' := [some (.ref a0), some (.int i1), some (.int i2), some (.int ((i3 ||| (4 : Int32))))]) d_61_62 rfl ml_61 rfl rfl ?_
      exact h
theorem S_61_63 {a0 : Nat} {i1 : Int32} {i2 : Int32} {i3 : Int32} {w : xW} {r : Option Value × xW} (h : ((i2 &&& (8 : Int32)) = 0 → xGo 61 83 [some (.ref a0), some (.int i1), some (.int i2), some (.int i3)] [] w r) ∧ (¬ ((i2 &&& (8 : Int32)) = 0) → ∃ fs1, w[a0]? = some (.inr (6, fs1)) ∧ ∃ r5 w3, xCall 67 [.ref a0, .int i1] w (some (.int r5), w3) ∧ (r5 = 0 → xGo 61 83 [some (.ref a0), some (.int i1), some (.int i2), some (.int i3)] [] w3 r) ∧ (¬ (r5 = 0) → ∀ v6 : Int32, v6 = (i3 ||| (8 : Int32)) → xGo 61 83 [some (.ref a0), some (.int i1), some (.int i2), some (.int v6)] [] w3 r))) : xGo 61 63 [some (.ref a0), some (.int i1), some (.int i2), some (.int i3)] [] w r := by
  refine g_iloadn (pc' := 64) d_61_63 rfl rfl ?_
  refine g_bipush (pc' := 66) d_61_64 rfl cb_8 ?_
  refine g_iand (pc' := 67) d_61_66 rfl ?_
  refine g_if_eq (pc' := 70) (pt := 83) d_61_67 (by decide) rfl (fun c => ?_) (fun c => ?_)
  · replace h := h.1 c
    exact h
  · replace h := h.2 c
    refine g_aloadn (pc' := 71) d_61_70 rfl rfl ?_
    refine g_iloadn (pc' := 72) d_61_71 rfl rfl ?_
    obtain ⟨fs1, hw2, h⟩ := h
    obtain ⟨r5, w3, hk4, h⟩ := h
    refine g_callV (pc' := 75) d_61_72 rfl st_61_39 na_67 ml_67 rfl rfl rfl rm_61_67 rfl rfl ow_67 hw2 hk4 ?_
    refine g_if_eq (pc' := 78) (pt := 83) d_61_75 (by decide) rfl (fun c => ?_) (fun c => ?_)
    · replace h := h.1 c
      exact h
    · replace h := h.2 c
      refine g_iloadn (pc' := 79) d_61_78 rfl rfl ?_
      refine g_bipush (pc' := 81) d_61_79 rfl cb_8 ?_
      refine g_ior (pc' := 82) d_61_81 rfl ?_
      have h := h _ rfl
      refine g_istoren (pc' := 83) (l' := [some (.ref a0), some (.int i1), some (.int i2), some (.int ((i3 ||| (8 : Int32))))]) d_61_82 rfl ml_61 rfl rfl ?_
      exact h
theorem S_61_83 {a0 : Nat} {i1 : Int32} {i2 : Int32} {i3 : Int32} {w : xW} {r : Option Value × xW} (h : ((i2 &&& (16 : Int32)) = 0 → xGo 61 103 [some (.ref a0), some (.int i1), some (.int i2), some (.int i3)] [] w r) ∧ (¬ ((i2 &&& (16 : Int32)) = 0) → ∃ fs1, w[a0]? = some (.inr (6, fs1)) ∧ ∃ r5 w3, xCall 72 [.ref a0, .int i1] w (some (.int r5), w3) ∧ (r5 = 0 → xGo 61 103 [some (.ref a0), some (.int i1), some (.int i2), some (.int i3)] [] w3 r) ∧ (¬ (r5 = 0) → ∀ v6 : Int32, v6 = (i3 ||| (16 : Int32)) → xGo 61 103 [some (.ref a0), some (.int i1), some (.int i2), some (.int v6)] [] w3 r))) : xGo 61 83 [some (.ref a0), some (.int i1), some (.int i2), some (.int i3)] [] w r := by
  refine g_iloadn (pc' := 84) d_61_83 rfl rfl ?_
  refine g_bipush (pc' := 86) d_61_84 rfl cb_16 ?_
  refine g_iand (pc' := 87) d_61_86 rfl ?_
  refine g_if_eq (pc' := 90) (pt := 103) d_61_87 (by decide) rfl (fun c => ?_) (fun c => ?_)
  · replace h := h.1 c
    exact h
  · replace h := h.2 c
    refine g_aloadn (pc' := 91) d_61_90 rfl rfl ?_
    refine g_iloadn (pc' := 92) d_61_91 rfl rfl ?_
    obtain ⟨fs1, hw2, h⟩ := h
    obtain ⟨r5, w3, hk4, h⟩ := h
    refine g_callV (pc' := 95) d_61_92 rfl st_61_42 na_72 ml_72 rfl rfl rfl rm_61_72 rfl rfl ow_72 hw2 hk4 ?_
    refine g_if_eq (pc' := 98) (pt := 103) d_61_95 (by decide) rfl (fun c => ?_) (fun c => ?_)
    · replace h := h.1 c
      exact h
    · replace h := h.2 c
      refine g_iloadn (pc' := 99) d_61_98 rfl rfl ?_
      refine g_bipush (pc' := 101) d_61_99 rfl cb_16 ?_
      refine g_ior (pc' := 102) d_61_101 rfl ?_
      have h := h _ rfl
      refine g_istoren (pc' := 103) (l' := [some (.ref a0), some (.int i1), some (.int i2), some (.int ((i3 ||| (16 : Int32))))]) d_61_102 rfl ml_61 rfl rfl ?_
      exact h
theorem S_61_103 {a0 : Nat} {i1 : Int32} {i2 : Int32} {i3 : Int32} {w : xW} {r : Option Value × xW} (h : ((i2 &&& (32 : Int32)) = 0 → r = (some (.int i3), w)) ∧ (¬ ((i2 &&& (32 : Int32)) = 0) → ∃ fs1, w[a0]? = some (.inr (6, fs1)) ∧ ∃ r5 w3, xCall 74 [.ref a0, .int i1] w (some (.int r5), w3) ∧ (r5 = 0 → r = (some (.int i3), w3)) ∧ (¬ (r5 = 0) → ∀ v6 : Int32, v6 = (i3 ||| (32 : Int32)) → r = (some (.int v6), w3)))) : xGo 61 103 [some (.ref a0), some (.int i1), some (.int i2), some (.int i3)] [] w r := by
  refine g_iloadn (pc' := 104) d_61_103 rfl rfl ?_
  refine g_bipush (pc' := 106) d_61_104 rfl cb_32 ?_
  refine g_iand (pc' := 107) d_61_106 rfl ?_
  refine g_if_eq (pc' := 110) (pt := 123) d_61_107 (by decide) rfl (fun c => ?_) (fun c => ?_)
  · replace h := h.1 c
    refine g_iloadn (pc' := 124) d_61_123 rfl rfl ?_
    exact g_iret d_61_124 rt_61 h
  · replace h := h.2 c
    refine g_aloadn (pc' := 111) d_61_110 rfl rfl ?_
    refine g_iloadn (pc' := 112) d_61_111 rfl rfl ?_
    obtain ⟨fs1, hw2, h⟩ := h
    obtain ⟨r5, w3, hk4, h⟩ := h
    refine g_callV (pc' := 115) d_61_112 rfl st_61_45 na_74 ml_74 rfl rfl rfl rm_61_74 rfl rfl ow_74 hw2 hk4 ?_
    refine g_if_eq (pc' := 118) (pt := 123) d_61_115 (by decide) rfl (fun c => ?_) (fun c => ?_)
    · replace h := h.1 c
      refine g_iloadn (pc' := 124) d_61_123 rfl rfl ?_
      exact g_iret d_61_124 rt_61 h
    · replace h := h.2 c
      refine g_iloadn (pc' := 119) d_61_118 rfl rfl ?_
      refine g_bipush (pc' := 121) d_61_119 rfl cb_32 ?_
      refine g_ior (pc' := 122) d_61_121 rfl ?_
      have h := h _ rfl
      refine g_istoren (pc' := 123) (l' := [some (.ref a0), some (.int i1), some (.int i2), some (.int ((i3 ||| (32 : Int32))))]) d_61_122 rfl ml_61 rfl rfl ?_
      refine g_iloadn (pc' := 124) d_61_123 rfl rfl ?_
      exact g_iret d_61_124 rt_61 h
-- 62 BernoulliWays$Checks.failsBelow(I)Z
theorem S_62_0 {a0 : Nat} {i1 : Int32} {w : xW} {r : Option Value × xW} (h : (w[xP]? = none) ∧ xGo 62 15 [some (.ref a0), some (.int i1), some (.long (1 : Int64)), none, some (.ref xP), some (.int (46 : Int32)), some (.int (0 : Int32)), none] [] w r) : xGo 62 0 [some (.ref a0), some (.int i1), none, none, none, none, none, none] [] w r := by
  refine g_lconst (pc' := 1) d_62_0 rfl cl_1 ?_
  refine g_lstoren (pc' := 2) (l' := [some (.ref a0), some (.int i1), some (.long (1 : Int64)), none, none, none, none, none]) d_62_1 rfl ml_62 rfl rfl ?_
  refine g_gets (pc' := 5) d_62_2 rfl st_62_104 (Or.inr rfl) ?_
  refine g_astore (pc' := 7) (l' := [some (.ref a0), some (.int i1), some (.long (1 : Int64)), none, some (.ref xP), none, none, none]) d_62_5 rfl ml_62 rfl rfl ?_
  refine g_aload (pc' := 9) d_62_7 rfl rfl ?_
  obtain ⟨hc1, h⟩ := h
  refine g_lenp (pc' := 10) d_62_9 rfl hc1 ?_
  refine g_istore (pc' := 12) (l' := [some (.ref a0), some (.int i1), some (.long (1 : Int64)), none, some (.ref xP), some (.int (46 : Int32)), none, none]) d_62_10 rfl ml_62 rfl rfl ?_
  refine g_iconst (pc' := 13) d_62_12 rfl ci_0 ?_
  refine g_istore (pc' := 15) (l' := [some (.ref a0), some (.int i1), some (.long (1 : Int64)), none, some (.ref xP), some (.int (46 : Int32)), some (.int (0 : Int32)), none]) d_62_13 rfl ml_62 rfl rfl ?_
  exact h
theorem S_62_15 {a0 : Nat} {i1 : Int32} {l2 : Int64} {i5 : Int32} {i6 : Int32} {w : xW} {r : Option Value × xW} (h : (i5 ≤ i6 → ∃ fs1, w[a0]? = some (.inr (6, fs1)) ∧ ∃ b3, fs1[0]? = some (.ref b3) ∧ ∃ fs5, w[b3]? = some (.inr (4, fs5)) ∧ ∃ r9 w7, xCall 31 [.ref b3, .int i1] w (some (.long r9), w7) ∧ (r9 = l2 → r = (some (.int (0 : Int32)), w7)) ∧ (¬ (r9 = l2) → r = (some (.int (1 : Int32)), w7))) ∧ (¬ (i5 ≤ i6) → (w[xP]? = none) ∧ (¬ (i6 < 0 ∨ 46 ≤ i6.toNatClampNeg)) ∧ ∀ v12 : Int32, v12 = (xpr i6.toNatClampNeg) → ∃ r15 w13, xCall 52 [.int v12, .int i1] w (some (.int r15), w13) ∧ (r15 = 0 → ∀ v16 : Int32, v16 = i6 + (1 : Int32) → xGo 62 15 [some (.ref a0), some (.int i1), some (.long l2), none, some (.ref xP), some (.int i5), some (.int v16), none] [] w13 r) ∧ (¬ (r15 = 0) → ∀ v17 : Int64, v17 = (l2 * (v12.toInt64)) → ∀ v18 : Int32, v18 = i6 + (1 : Int32) → xGo 62 15 [some (.ref a0), some (.int i1), some (.long v17), none, some (.ref xP), some (.int i5), some (.int v18), none] [] w13 r))) : xGo 62 15 [some (.ref a0), some (.int i1), some (.long l2), none, some (.ref xP), some (.int i5), some (.int i6), none] [] w r := by
  refine g_iload (pc' := 17) d_62_15 rfl rfl ?_
  refine g_iload (pc' := 19) d_62_17 rfl rfl ?_
  refine g_ic_ge (pc' := 22) (pt := 50) d_62_19 (by decide) rfl (fun c => ?_) (fun c => ?_)
  · replace h := h.1 c
    refine g_aloadn (pc' := 51) d_62_50 rfl rfl ?_
    obtain ⟨fs1, hw2, h⟩ := h
    obtain ⟨b3, hv4, h⟩ := h
    refine g_getf (pc' := 54) d_62_51 rfl st_62_9 hw2 hv4 ?_
    refine g_iloadn (pc' := 55) d_62_54 rfl rfl ?_
    obtain ⟨fs5, hw6, h⟩ := h
    obtain ⟨r9, w7, hk8, h⟩ := h
    refine g_callV (pc' := 58) d_62_55 rfl st_62_87 na_31 ml_31 rfl rfl rfl rm_62_31 rfl rfl ow_31 hw6 hk8 ?_
    refine g_lloadn (pc' := 59) d_62_58 rfl rfl ?_
    refine g_lc_eq (pc' := 63) (pm := 60) (pt := 67) d_62_59 rfl d_62_60 (by decide) rfl (fun c => ?_) (fun c => ?_)
    · replace h := h.1 c
      refine g_iconst (pc' := 68) d_62_67 rfl ci_0 ?_
      exact g_zret d_62_68 rt_62 (Or.inl rfl) h
    · replace h := h.2 c
      refine g_iconst (pc' := 64) d_62_63 rfl ci_1 ?_
      refine g_goto (pt := 68) d_62_64 (by decide) ?_
      exact g_zret d_62_68 rt_62 (Or.inr rfl) h
  · replace h := h.2 c
    refine g_aload (pc' := 24) d_62_22 rfl rfl ?_
    refine g_iload (pc' := 26) d_62_24 rfl rfl ?_
    obtain ⟨hc10, h⟩ := h
    obtain ⟨hc11, h⟩ := h
    refine g_pald (pc' := 27) d_62_26 rfl hc10 hc11 ?_
    have h := h _ rfl
    refine g_istore (pc' := 29) (l' := [some (.ref a0), some (.int i1), some (.long l2), none, some (.ref xP), some (.int i5), some (.int i6), some (.int ((xpr i6.toNatClampNeg)))]) d_62_27 rfl ml_62 rfl rfl ?_
    refine g_iload (pc' := 31) d_62_29 rfl rfl ?_
    refine g_iloadn (pc' := 32) d_62_31 rfl rfl ?_
    obtain ⟨r15, w13, hk14, h⟩ := h
    refine g_callS (pc' := 35) d_62_32 rfl st_62_108 (Or.inr rfl) na_52 ml_52 rfl rfl rfl rm_62_52 rfl rfl hk14 ?_
    refine g_if_eq (pc' := 38) (pt := 44) d_62_35 (by decide) rfl (fun c => ?_) (fun c => ?_)
    · replace h := h.1 c
      have h := h _ rfl
      refine g_iinc (pc' := 47) (l' := [some (.ref a0), some (.int i1), some (.long l2), none, some (.ref xP), some (.int i5), some (.int (i6 + (1 : Int32))), some (.int ((xpr i6.toNatClampNeg)))]) d_62_44 rfl rfl ci_1 ml_62 rfl rfl ?_
      refine g_goto (pt := 15) d_62_47 (by decide) ?_
      exact xGo.more (xle_s (xle_s (xle_s (xle_n (xle_s (xle_s (xle_s (xle_n xle_0)))))))) h
    · replace h := h.2 c
      refine g_lloadn (pc' := 39) d_62_38 rfl rfl ?_
      refine g_iload (pc' := 41) d_62_39 rfl rfl ?_
      refine g_i2l (pc' := 42) d_62_41 rfl ?_
      refine g_lmul (pc' := 43) d_62_42 rfl ?_
      have h := h _ rfl
      refine g_lstoren (pc' := 44) (l' := [some (.ref a0), some (.int i1), some (.long ((l2 * (((xpr i6.toNatClampNeg)).toInt64)))), none, some (.ref xP), some (.int i5), some (.int i6), some (.int ((xpr i6.toNatClampNeg)))]) d_62_43 rfl ml_62 rfl rfl ?_
      have h := h _ rfl
      refine g_iinc (pc' := 47) (l' := [some (.ref a0), some (.int i1), some (.long ((l2 * (((xpr i6.toNatClampNeg)).toInt64)))), none, some (.ref xP), some (.int i5), some (.int (i6 + (1 : Int32))), some (.int ((xpr i6.toNatClampNeg)))]) d_62_44 rfl rfl ci_1 ml_62 rfl rfl ?_
      refine g_goto (pt := 15) d_62_47 (by decide) ?_
      exact xGo.more (xle_s (xle_s (xle_s (xle_n (xle_s (xle_s (xle_s (xle_n xle_0)))))))) h
-- 63 BernoulliWays$Entries.signOf(I)I
theorem S_63_0 {a0 : Nat} {i1 : Int32} {w : xW} {r : Option Value × xW} (h : ∃ fs1, w[a0]? = some (.inr (4, fs1)) ∧ ∃ r5 w3, xCall 29 [.ref a0, .int i1] w (some (.long r5), w3) ∧ ((0 : Int64) ≤ r5 → ∃ fs6, w3[a0]? = some (.inr (4, fs6)) ∧ ∃ r10 w8, xCall 29 [.ref a0, .int i1] w3 (some (.long r10), w8) ∧ (¬ r10 = (0 : Int64) → r = (some (.int (1 : Int32)), w8)) ∧ (¬ (¬ r10 = (0 : Int64)) → ∃ fs11, w8[a0]? = some (.inr (4, fs11)) ∧ ∃ r15 w13, xCall 30 [.ref a0, .int i1] w8 (some (.long r15), w13) ∧ (¬ r15 = (0 : Int64) → r = (some (.int (1 : Int32)), w13)) ∧ (¬ (¬ r15 = (0 : Int64)) → r = (some (.int (0 : Int32)), w13)))) ∧ (¬ ((0 : Int64) ≤ r5) → r = (some (.int (-1 : Int32)), w3))) : xGo 63 0 [some (.ref a0), some (.int i1)] [] w r := by
  refine g_aloadn (pc' := 1) d_63_0 rfl rfl ?_
  refine g_iloadn (pc' := 2) d_63_1 rfl rfl ?_
  obtain ⟨fs1, hw2, h⟩ := h
  obtain ⟨r5, w3, hk4, h⟩ := h
  refine g_callV (pc' := 5) d_63_2 rfl st_63_38 na_29 ml_29 rfl rfl rfl rm_63_29 rfl rfl ow_29 hw2 hk4 ?_
  refine g_lconst (pc' := 6) d_63_5 rfl cl_0 ?_
  refine g_lc_ge (pc' := 10) (pm := 7) (pt := 12) d_63_6 rfl d_63_7 (by decide) rfl (fun c => ?_) (fun c => ?_)
  · replace h := h.1 c
    refine g_aloadn (pc' := 13) d_63_12 rfl rfl ?_
    refine g_iloadn (pc' := 14) d_63_13 rfl rfl ?_
    obtain ⟨fs6, hw7, h⟩ := h
    obtain ⟨r10, w8, hk9, h⟩ := h
    refine g_callV (pc' := 17) d_63_14 rfl st_63_38 na_29 ml_29 rfl rfl rfl rm_63_29 rfl rfl ow_29 hw7 hk9 ?_
    refine g_lconst (pc' := 18) d_63_17 rfl cl_0 ?_
    refine g_lc_ne (pc' := 22) (pm := 19) (pt := 36) d_63_18 rfl d_63_19 (by decide) rfl (fun c => ?_) (fun c => ?_)
    · replace h := h.1 c
      refine g_iconst (pc' := 37) d_63_36 rfl ci_1 ?_
      exact g_iret d_63_37 rt_63 h
    · replace h := h.2 c
      refine g_aloadn (pc' := 23) d_63_22 rfl rfl ?_
      refine g_iloadn (pc' := 24) d_63_23 rfl rfl ?_
      obtain ⟨fs11, hw12, h⟩ := h
      obtain ⟨r15, w13, hk14, h⟩ := h
      refine g_callV (pc' := 27) d_63_24 rfl st_63_42 na_30 ml_30 rfl rfl rfl rm_63_30 rfl rfl ow_30 hw12 hk14 ?_
      refine g_lconst (pc' := 28) d_63_27 rfl cl_0 ?_
      refine g_lc_ne (pc' := 32) (pm := 29) (pt := 36) d_63_28 rfl d_63_29 (by decide) rfl (fun c => ?_) (fun c => ?_)
      · replace h := h.1 c
        refine g_iconst (pc' := 37) d_63_36 rfl ci_1 ?_
        exact g_iret d_63_37 rt_63 h
      · replace h := h.2 c
        refine g_iconst (pc' := 33) d_63_32 rfl ci_0 ?_
        refine g_goto (pt := 37) d_63_33 (by decide) ?_
        exact g_iret d_63_37 rt_63 h
  · replace h := h.2 c
    refine g_iconst (pc' := 11) d_63_10 rfl ci_m1 ?_
    exact g_iret d_63_11 rt_63 h
