/-! instructions by their places, laid by wip/whole/wp.py -/
theorem d_0_0 : xcode 0 0 = some (.aload_n 0, 1) := by decide +kernel
theorem d_0_1 : xcode 0 1 = some (.invokespecial 5, 3) := by decide +kernel
theorem d_0_4 : xcode 0 4 = some (.aload_n 0, 1) := by decide +kernel
theorem d_0_5 : xcode 0 5 = some (.new 11, 3) := by decide +kernel
theorem d_0_8 : xcode 0 8 = some (.dup, 1) := by decide +kernel
theorem d_0_9 : xcode 0 9 = some (.invokespecial 13, 3) := by decide +kernel
theorem d_0_12 : xcode 0 12 = some (.putfield 14, 3) := by decide +kernel
theorem d_0_15 : xcode 0 15 = some (.aload_n 0, 1) := by decide +kernel
theorem d_0_16 : xcode 0 16 = some (.new 18, 3) := by decide +kernel
theorem d_0_19 : xcode 0 19 = some (.dup, 1) := by decide +kernel
theorem d_0_20 : xcode 0 20 = some (.invokespecial 20, 3) := by decide +kernel
theorem d_0_23 : xcode 0 23 = some (.putfield 21, 3) := by decide +kernel
theorem d_0_26 : xcode 0 26 = some (.aload_n 0, 1) := by decide +kernel
theorem d_0_27 : xcode 0 27 = some (.new 25, 3) := by decide +kernel
theorem d_0_30 : xcode 0 30 = some (.dup, 1) := by decide +kernel
theorem d_0_31 : xcode 0 31 = some (.invokespecial 27, 3) := by decide +kernel
theorem d_0_34 : xcode 0 34 = some (.putfield 28, 3) := by decide +kernel
theorem d_0_37 : xcode 0 37 = some (.aload_n 0, 1) := by decide +kernel
theorem d_0_38 : xcode 0 38 = some (.new 32, 3) := by decide +kernel
theorem d_0_41 : xcode 0 41 = some (.dup, 1) := by decide +kernel
theorem d_0_42 : xcode 0 42 = some (.invokespecial 34, 3) := by decide +kernel
theorem d_0_45 : xcode 0 45 = some (.putfield 35, 3) := by decide +kernel
theorem d_0_48 : xcode 0 48 = some (.aload_n 0, 1) := by decide +kernel
theorem d_0_49 : xcode 0 49 = some (.new 32, 3) := by decide +kernel
theorem d_0_52 : xcode 0 52 = some (.dup, 1) := by decide +kernel
theorem d_0_53 : xcode 0 53 = some (.invokespecial 34, 3) := by decide +kernel
theorem d_0_56 : xcode 0 56 = some (.putfield 39, 3) := by decide +kernel
theorem d_0_59 : xcode 0 59 = some (.aload_n 0, 1) := by decide +kernel
theorem d_0_60 : xcode 0 60 = some (.new 32, 3) := by decide +kernel
theorem d_0_63 : xcode 0 63 = some (.dup, 1) := by decide +kernel
theorem d_0_64 : xcode 0 64 = some (.invokespecial 34, 3) := by decide +kernel
theorem d_0_67 : xcode 0 67 = some (.putfield 42, 3) := by decide +kernel
theorem d_0_70 : xcode 0 70 = some (.aload_n 0, 1) := by decide +kernel
theorem d_0_71 : xcode 0 71 = some (.bipush 39, 2) := by decide +kernel
theorem d_0_73 : xcode 0 73 = some (.newarray .int, 2) := by decide +kernel
theorem d_0_75 : xcode 0 75 = some (.putfield 45, 3) := by decide +kernel
theorem d_0_78 : xcode 0 78 = some (.aload_n 0, 1) := by decide +kernel
theorem d_0_79 : xcode 0 79 = some (.iconst (-1), 1) := by decide +kernel
theorem d_0_80 : xcode 0 80 = some (.putfield 49, 3) := by decide +kernel
theorem d_0_83 : xcode 0 83 = some (.aload_n 0, 1) := by decide +kernel
theorem d_0_84 : xcode 0 84 = some (.new 53, 3) := by decide +kernel
theorem d_0_87 : xcode 0 87 = some (.dup, 1) := by decide +kernel
theorem d_0_88 : xcode 0 88 = some (.aload_n 0, 1) := by decide +kernel
theorem d_0_89 : xcode 0 89 = some (.getfield 39, 3) := by decide +kernel
theorem d_0_92 : xcode 0 92 = some (.aload_n 0, 1) := by decide +kernel
theorem d_0_93 : xcode 0 93 = some (.getfield 14, 3) := by decide +kernel
theorem d_0_96 : xcode 0 96 = some (.aload_n 0, 1) := by decide +kernel
theorem d_0_97 : xcode 0 97 = some (.getfield 21, 3) := by decide +kernel
theorem d_0_100 : xcode 0 100 = some (.invokespecial 55, 3) := by decide +kernel
theorem d_0_103 : xcode 0 103 = some (.putfield 58, 3) := by decide +kernel
theorem d_0_106 : xcode 0 106 = some (.aload_n 0, 1) := by decide +kernel
theorem d_0_107 : xcode 0 107 = some (.new 62, 3) := by decide +kernel
theorem d_0_110 : xcode 0 110 = some (.dup, 1) := by decide +kernel
theorem d_0_111 : xcode 0 111 = some (.invokespecial 64, 3) := by decide +kernel
theorem d_0_114 : xcode 0 114 = some (.putfield 65, 3) := by decide +kernel
theorem d_0_117 : xcode 0 117 = some (.aload_n 0, 1) := by decide +kernel
theorem d_0_118 : xcode 0 118 = some (.new 69, 3) := by decide +kernel
theorem d_0_121 : xcode 0 121 = some (.dup, 1) := by decide +kernel
theorem d_0_122 : xcode 0 122 = some (.invokespecial 71, 3) := by decide +kernel
theorem d_0_125 : xcode 0 125 = some (.putfield 72, 3) := by decide +kernel
theorem d_0_128 : xcode 0 128 = some (.aload_n 0, 1) := by decide +kernel
theorem d_0_129 : xcode 0 129 = some (.new 76, 3) := by decide +kernel
theorem d_0_132 : xcode 0 132 = some (.dup, 1) := by decide +kernel
theorem d_0_133 : xcode 0 133 = some (.aload_n 0, 1) := by decide +kernel
theorem d_0_134 : xcode 0 134 = some (.getfield 72, 3) := by decide +kernel
theorem d_0_137 : xcode 0 137 = some (.invokespecial 78, 3) := by decide +kernel
theorem d_0_140 : xcode 0 140 = some (.putfield 81, 3) := by decide +kernel
theorem d_0_143 : xcode 0 143 = some (.aload_n 0, 1) := by decide +kernel
theorem d_0_144 : xcode 0 144 = some (.new 85, 3) := by decide +kernel
theorem d_0_147 : xcode 0 147 = some (.dup, 1) := by decide +kernel
theorem d_0_148 : xcode 0 148 = some (.invokespecial 87, 3) := by decide +kernel
theorem d_0_151 : xcode 0 151 = some (.putfield 88, 3) := by decide +kernel
theorem d_0_154 : xcode 0 154 = some (.aload_n 0, 1) := by decide +kernel
theorem d_0_155 : xcode 0 155 = some (.new 92, 3) := by decide +kernel
theorem d_0_158 : xcode 0 158 = some (.dup, 1) := by decide +kernel
theorem d_0_159 : xcode 0 159 = some (.invokespecial 94, 3) := by decide +kernel
theorem d_0_162 : xcode 0 162 = some (.putfield 95, 3) := by decide +kernel
theorem d_0_165 : xcode 0 165 = some (.aload_n 0, 1) := by decide +kernel
theorem d_0_166 : xcode 0 166 = some (.bipush 40, 2) := by decide +kernel
theorem d_0_168 : xcode 0 168 = some (.newarray .long, 2) := by decide +kernel
theorem d_0_170 : xcode 0 170 = some (.putfield 99, 3) := by decide +kernel
theorem d_0_173 : xcode 0 173 = some (.aload_n 0, 1) := by decide +kernel
theorem d_0_174 : xcode 0 174 = some (.bipush 40, 2) := by decide +kernel
theorem d_0_176 : xcode 0 176 = some (.newarray .long, 2) := by decide +kernel
theorem d_0_178 : xcode 0 178 = some (.putfield 103, 3) := by decide +kernel
theorem d_0_181 : xcode 0 181 = some (.aload_n 0, 1) := by decide +kernel
theorem d_0_182 : xcode 0 182 = some (.getfield 28, 3) := by decide +kernel
theorem d_0_185 : xcode 0 185 = some (.bipush 38, 2) := by decide +kernel
theorem d_0_187 : xcode 0 187 = some (.invokevirtual 106, 3) := by decide +kernel
theorem d_0_190 : xcode 0 190 = some (.iconst 0, 1) := by decide +kernel
theorem d_0_191 : xcode 0 191 = some (.istore_n 1, 1) := by decide +kernel
theorem d_0_192 : xcode 0 192 = some (.iload_n 1, 1) := by decide +kernel
theorem d_0_193 : xcode 0 193 = some (.bipush 38, 2) := by decide +kernel
theorem d_0_195 : xcode 0 195 = some (.if_icmp .gt 40, 3) := by decide +kernel
theorem d_0_198 : xcode 0 198 = some (.aload_n 0, 1) := by decide +kernel
theorem d_0_199 : xcode 0 199 = some (.getfield 28, 3) := by decide +kernel
theorem d_0_202 : xcode 0 202 = some (.iload_n 1, 1) := by decide +kernel
theorem d_0_203 : xcode 0 203 = some (.aload_n 0, 1) := by decide +kernel
theorem d_0_204 : xcode 0 204 = some (.getfield 95, 3) := by decide +kernel
theorem d_0_207 : xcode 0 207 = some (.invokevirtual 110, 3) := by decide +kernel
theorem d_0_210 : xcode 0 210 = some (.aload_n 0, 1) := by decide +kernel
theorem d_0_211 : xcode 0 211 = some (.getfield 35, 3) := by decide +kernel
theorem d_0_214 : xcode 0 214 = some (.iload_n 1, 1) := by decide +kernel
theorem d_0_215 : xcode 0 215 = some (.aload_n 0, 1) := by decide +kernel
theorem d_0_216 : xcode 0 216 = some (.getfield 95, 3) := by decide +kernel
theorem d_0_219 : xcode 0 219 = some (.invokevirtual 114, 3) := by decide +kernel
theorem d_0_222 : xcode 0 222 = some (.aload_n 0, 1) := by decide +kernel
theorem d_0_223 : xcode 0 223 = some (.getfield 28, 3) := by decide +kernel
theorem d_0_226 : xcode 0 226 = some (.invokevirtual 117, 3) := by decide +kernel
theorem d_0_229 : xcode 0 229 = some (.iinc 1 1, 3) := by decide +kernel
theorem d_0_232 : xcode 0 232 = some (.goto (-40), 3) := by decide +kernel
theorem d_0_235 : xcode 0 235 = some (.return_, 1) := by decide +kernel
theorem d_1_0 : xcode 1 0 = some (.aload_n 0, 1) := by decide +kernel
theorem d_1_1 : xcode 1 1 = some (.invokespecial 3, 3) := by decide +kernel
theorem d_1_4 : xcode 1 4 = some (.aload_n 0, 1) := by decide +kernel
theorem d_1_5 : xcode 1 5 = some (.sipush 1764, 3) := by decide +kernel
theorem d_1_8 : xcode 1 8 = some (.newarray .long, 2) := by decide +kernel
theorem d_1_10 : xcode 1 10 = some (.putfield 11, 3) := by decide +kernel
theorem d_1_13 : xcode 1 13 = some (.iconst 0, 1) := by decide +kernel
theorem d_1_14 : xcode 1 14 = some (.istore_n 1, 1) := by decide +kernel
theorem d_1_15 : xcode 1 15 = some (.iload_n 1, 1) := by decide +kernel
theorem d_1_16 : xcode 1 16 = some (.bipush 42, 2) := by decide +kernel
theorem d_1_18 : xcode 1 18 = some (.if_icmp .ge 67, 3) := by decide +kernel
theorem d_1_21 : xcode 1 21 = some (.aload_n 0, 1) := by decide +kernel
theorem d_1_22 : xcode 1 22 = some (.getfield 11, 3) := by decide +kernel
theorem d_1_25 : xcode 1 25 = some (.iload_n 1, 1) := by decide +kernel
theorem d_1_26 : xcode 1 26 = some (.bipush 42, 2) := by decide +kernel
theorem d_1_28 : xcode 1 28 = some (.imul, 1) := by decide +kernel
theorem d_1_29 : xcode 1 29 = some (.lconst 1, 1) := by decide +kernel
theorem d_1_30 : xcode 1 30 = some (.lastore, 1) := by decide +kernel
theorem d_1_31 : xcode 1 31 = some (.iconst 1, 1) := by decide +kernel
theorem d_1_32 : xcode 1 32 = some (.istore_n 2, 1) := by decide +kernel
theorem d_1_33 : xcode 1 33 = some (.iload_n 2, 1) := by decide +kernel
theorem d_1_34 : xcode 1 34 = some (.iload_n 1, 1) := by decide +kernel
theorem d_1_35 : xcode 1 35 = some (.if_icmp .gt 44, 3) := by decide +kernel
theorem d_1_38 : xcode 1 38 = some (.iload_n 1, 1) := by decide +kernel
theorem d_1_39 : xcode 1 39 = some (.iconst 1, 1) := by decide +kernel
theorem d_1_40 : xcode 1 40 = some (.isub, 1) := by decide +kernel
theorem d_1_41 : xcode 1 41 = some (.bipush 42, 2) := by decide +kernel
theorem d_1_43 : xcode 1 43 = some (.imul, 1) := by decide +kernel
theorem d_1_44 : xcode 1 44 = some (.iload_n 2, 1) := by decide +kernel
theorem d_1_45 : xcode 1 45 = some (.iadd, 1) := by decide +kernel
theorem d_1_46 : xcode 1 46 = some (.istore_n 3, 1) := by decide +kernel
theorem d_1_47 : xcode 1 47 = some (.aload_n 0, 1) := by decide +kernel
theorem d_1_48 : xcode 1 48 = some (.getfield 11, 3) := by decide +kernel
theorem d_1_51 : xcode 1 51 = some (.iload_n 1, 1) := by decide +kernel
theorem d_1_52 : xcode 1 52 = some (.bipush 42, 2) := by decide +kernel
theorem d_1_54 : xcode 1 54 = some (.imul, 1) := by decide +kernel
theorem d_1_55 : xcode 1 55 = some (.iload_n 2, 1) := by decide +kernel
theorem d_1_56 : xcode 1 56 = some (.iadd, 1) := by decide +kernel
theorem d_1_57 : xcode 1 57 = some (.aload_n 0, 1) := by decide +kernel
theorem d_1_58 : xcode 1 58 = some (.getfield 11, 3) := by decide +kernel
theorem d_1_61 : xcode 1 61 = some (.iload_n 3, 1) := by decide +kernel
theorem d_1_62 : xcode 1 62 = some (.iconst 1, 1) := by decide +kernel
theorem d_1_63 : xcode 1 63 = some (.isub, 1) := by decide +kernel
theorem d_1_64 : xcode 1 64 = some (.laload, 1) := by decide +kernel
theorem d_1_65 : xcode 1 65 = some (.aload_n 0, 1) := by decide +kernel
theorem d_1_66 : xcode 1 66 = some (.getfield 11, 3) := by decide +kernel
theorem d_1_69 : xcode 1 69 = some (.iload_n 3, 1) := by decide +kernel
theorem d_1_70 : xcode 1 70 = some (.laload, 1) := by decide +kernel
theorem d_1_71 : xcode 1 71 = some (.ladd, 1) := by decide +kernel
theorem d_1_72 : xcode 1 72 = some (.lastore, 1) := by decide +kernel
theorem d_1_73 : xcode 1 73 = some (.iinc 2 1, 3) := by decide +kernel
theorem d_1_76 : xcode 1 76 = some (.goto (-43), 3) := by decide +kernel
theorem d_1_79 : xcode 1 79 = some (.iinc 1 1, 3) := by decide +kernel
theorem d_1_82 : xcode 1 82 = some (.goto (-67), 3) := by decide +kernel
theorem d_1_85 : xcode 1 85 = some (.return_, 1) := by decide +kernel
theorem d_2_0 : xcode 2 0 = some (.aload_n 0, 1) := by decide +kernel
theorem d_2_1 : xcode 2 1 = some (.invokespecial 1, 3) := by decide +kernel
theorem d_2_4 : xcode 2 4 = some (.aload_n 0, 1) := by decide +kernel
theorem d_2_5 : xcode 2 5 = some (.lconst 1, 1) := by decide +kernel
theorem d_2_6 : xcode 2 6 = some (.putfield 7, 3) := by decide +kernel
theorem d_2_9 : xcode 2 9 = some (.return_, 1) := by decide +kernel
theorem d_3_0 : xcode 3 0 = some (.aload_n 0, 1) := by decide +kernel
theorem d_3_1 : xcode 3 1 = some (.invokespecial 3, 3) := by decide +kernel
theorem d_3_4 : xcode 3 4 = some (.aload_n 0, 1) := by decide +kernel
theorem d_3_5 : xcode 3 5 = some (.bipush 39, 2) := by decide +kernel
theorem d_3_7 : xcode 3 7 = some (.newarray .long, 2) := by decide +kernel
theorem d_3_9 : xcode 3 9 = some (.putfield 9, 3) := by decide +kernel
theorem d_3_12 : xcode 3 12 = some (.aload_n 0, 1) := by decide +kernel
theorem d_3_13 : xcode 3 13 = some (.bipush 39, 2) := by decide +kernel
theorem d_3_15 : xcode 3 15 = some (.newarray .long, 2) := by decide +kernel
theorem d_3_17 : xcode 3 17 = some (.putfield 15, 3) := by decide +kernel
theorem d_3_20 : xcode 3 20 = some (.return_, 1) := by decide +kernel
theorem d_4_0 : xcode 4 0 = some (.aload_n 0, 1) := by decide +kernel
theorem d_4_1 : xcode 4 1 = some (.invokespecial 3, 3) := by decide +kernel
theorem d_4_4 : xcode 4 4 = some (.aload_n 0, 1) := by decide +kernel
theorem d_4_5 : xcode 4 5 = some (.bipush 39, 2) := by decide +kernel
theorem d_4_7 : xcode 4 7 = some (.newarray .long, 2) := by decide +kernel
theorem d_4_9 : xcode 4 9 = some (.putfield 9, 3) := by decide +kernel
theorem d_4_12 : xcode 4 12 = some (.aload_n 0, 1) := by decide +kernel
theorem d_4_13 : xcode 4 13 = some (.bipush 39, 2) := by decide +kernel
theorem d_4_15 : xcode 4 15 = some (.newarray .long, 2) := by decide +kernel
theorem d_4_17 : xcode 4 17 = some (.putfield 15, 3) := by decide +kernel
theorem d_4_20 : xcode 4 20 = some (.aload_n 0, 1) := by decide +kernel
theorem d_4_21 : xcode 4 21 = some (.bipush 39, 2) := by decide +kernel
theorem d_4_23 : xcode 4 23 = some (.newarray .long, 2) := by decide +kernel
theorem d_4_25 : xcode 4 25 = some (.putfield 18, 3) := by decide +kernel
theorem d_4_28 : xcode 4 28 = some (.aload_n 0, 1) := by decide +kernel
theorem d_4_29 : xcode 4 29 = some (.new 21, 3) := by decide +kernel
theorem d_4_32 : xcode 4 32 = some (.dup, 1) := by decide +kernel
theorem d_4_33 : xcode 4 33 = some (.invokespecial 23, 3) := by decide +kernel
theorem d_4_36 : xcode 4 36 = some (.putfield 24, 3) := by decide +kernel
theorem d_4_39 : xcode 4 39 = some (.aload_n 0, 1) := by decide +kernel
theorem d_4_40 : xcode 4 40 = some (.getfield 18, 3) := by decide +kernel
theorem d_4_43 : xcode 4 43 = some (.lconst 1, 1) := by decide +kernel
theorem d_4_44 : xcode 4 44 = some (.invokestatic 28, 3) := by decide +kernel
theorem d_4_47 : xcode 4 47 = some (.return_, 1) := by decide +kernel
theorem d_5_0 : xcode 5 0 = some (.aload_n 0, 1) := by decide +kernel
theorem d_5_1 : xcode 5 1 = some (.invokespecial 1, 3) := by decide +kernel
theorem d_5_4 : xcode 5 4 = some (.aload_n 0, 1) := by decide +kernel
theorem d_5_5 : xcode 5 5 = some (.lconst 1, 1) := by decide +kernel
theorem d_5_6 : xcode 5 6 = some (.putfield 7, 3) := by decide +kernel
theorem d_5_9 : xcode 5 9 = some (.return_, 1) := by decide +kernel
theorem d_6_0 : xcode 6 0 = some (.iconst 0, 1) := by decide +kernel
theorem d_6_1 : xcode 6 1 = some (.istore_n 3, 1) := by decide +kernel
theorem d_6_2 : xcode 6 2 = some (.aload_n 0, 1) := by decide +kernel
theorem d_6_3 : xcode 6 3 = some (.arraylength, 1) := by decide +kernel
theorem d_6_4 : xcode 6 4 = some (.istore 4, 2) := by decide +kernel
theorem d_6_6 : xcode 6 6 = some (.iload_n 3, 1) := by decide +kernel
theorem d_6_7 : xcode 6 7 = some (.iload 4, 2) := by decide +kernel
theorem d_6_9 : xcode 6 9 = some (.if_icmp .ge 13, 3) := by decide +kernel
theorem d_6_12 : xcode 6 12 = some (.aload_n 0, 1) := by decide +kernel
theorem d_6_13 : xcode 6 13 = some (.iload_n 3, 1) := by decide +kernel
theorem d_6_14 : xcode 6 14 = some (.lload_n 1, 1) := by decide +kernel
theorem d_6_15 : xcode 6 15 = some (.lastore, 1) := by decide +kernel
theorem d_6_16 : xcode 6 16 = some (.iinc 3 1, 3) := by decide +kernel
theorem d_6_19 : xcode 6 19 = some (.goto (-13), 3) := by decide +kernel
theorem d_6_22 : xcode 6 22 = some (.return_, 1) := by decide +kernel
theorem d_7_0 : xcode 7 0 = some (.aload_n 0, 1) := by decide +kernel
theorem d_7_1 : xcode 7 1 = some (.invokespecial 3, 3) := by decide +kernel
theorem d_7_4 : xcode 7 4 = some (.aload_n 0, 1) := by decide +kernel
theorem d_7_5 : xcode 7 5 = some (.aload_n 1, 1) := by decide +kernel
theorem d_7_6 : xcode 7 6 = some (.putfield 9, 3) := by decide +kernel
theorem d_7_9 : xcode 7 9 = some (.aload_n 0, 1) := by decide +kernel
theorem d_7_10 : xcode 7 10 = some (.aload_n 2, 1) := by decide +kernel
theorem d_7_11 : xcode 7 11 = some (.putfield 15, 3) := by decide +kernel
theorem d_7_14 : xcode 7 14 = some (.aload_n 0, 1) := by decide +kernel
theorem d_7_15 : xcode 7 15 = some (.aload_n 3, 1) := by decide +kernel
theorem d_7_16 : xcode 7 16 = some (.putfield 19, 3) := by decide +kernel
theorem d_7_19 : xcode 7 19 = some (.return_, 1) := by decide +kernel
theorem d_8_0 : xcode 8 0 = some (.aload_n 0, 1) := by decide +kernel
theorem d_8_1 : xcode 8 1 = some (.invokespecial 3, 3) := by decide +kernel
theorem d_8_4 : xcode 8 4 = some (.aload_n 0, 1) := by decide +kernel
theorem d_8_5 : xcode 8 5 = some (.bipush 20, 2) := by decide +kernel
theorem d_8_7 : xcode 8 7 = some (.newarray .int, 2) := by decide +kernel
theorem d_8_9 : xcode 8 9 = some (.putfield 11, 3) := by decide +kernel
theorem d_8_12 : xcode 8 12 = some (.aload_n 0, 1) := by decide +kernel
theorem d_8_13 : xcode 8 13 = some (.bipush 20, 2) := by decide +kernel
theorem d_8_15 : xcode 8 15 = some (.newarray .int, 2) := by decide +kernel
theorem d_8_17 : xcode 8 17 = some (.putfield 15, 3) := by decide +kernel
theorem d_8_20 : xcode 8 20 = some (.aload_n 0, 1) := by decide +kernel
theorem d_8_21 : xcode 8 21 = some (.bipush 20, 2) := by decide +kernel
theorem d_8_23 : xcode 8 23 = some (.newarray .int, 2) := by decide +kernel
theorem d_8_25 : xcode 8 25 = some (.putfield 18, 3) := by decide +kernel
theorem d_8_28 : xcode 8 28 = some (.return_, 1) := by decide +kernel
theorem d_9_0 : xcode 9 0 = some (.aload_n 0, 1) := by decide +kernel
theorem d_9_1 : xcode 9 1 = some (.invokespecial 3, 3) := by decide +kernel
theorem d_9_4 : xcode 9 4 = some (.aload_n 0, 1) := by decide +kernel
theorem d_9_5 : xcode 9 5 = some (.sipush 200, 3) := by decide +kernel
theorem d_9_8 : xcode 9 8 = some (.newarray .long, 2) := by decide +kernel
theorem d_9_10 : xcode 9 10 = some (.putfield 9, 3) := by decide +kernel
theorem d_9_13 : xcode 9 13 = some (.aload_n 0, 1) := by decide +kernel
theorem d_9_14 : xcode 9 14 = some (.sipush 200, 3) := by decide +kernel
theorem d_9_17 : xcode 9 17 = some (.newarray .long, 2) := by decide +kernel
theorem d_9_19 : xcode 9 19 = some (.putfield 15, 3) := by decide +kernel
theorem d_9_22 : xcode 9 22 = some (.return_, 1) := by decide +kernel
theorem d_10_0 : xcode 10 0 = some (.aload_n 0, 1) := by decide +kernel
theorem d_10_1 : xcode 10 1 = some (.invokespecial 3, 3) := by decide +kernel
theorem d_10_4 : xcode 10 4 = some (.aload_n 0, 1) := by decide +kernel
theorem d_10_5 : xcode 10 5 = some (.bipush 100, 2) := by decide +kernel
theorem d_10_7 : xcode 10 7 = some (.newarray .int, 2) := by decide +kernel
theorem d_10_9 : xcode 10 9 = some (.putfield 11, 3) := by decide +kernel
theorem d_10_12 : xcode 10 12 = some (.aload_n 0, 1) := by decide +kernel
theorem d_10_13 : xcode 10 13 = some (.bipush 100, 2) := by decide +kernel
theorem d_10_15 : xcode 10 15 = some (.newarray .int, 2) := by decide +kernel
theorem d_10_17 : xcode 10 17 = some (.putfield 15, 3) := by decide +kernel
theorem d_10_20 : xcode 10 20 = some (.aload_n 0, 1) := by decide +kernel
theorem d_10_21 : xcode 10 21 = some (.iconst 1, 1) := by decide +kernel
theorem d_10_22 : xcode 10 22 = some (.putfield 18, 3) := by decide +kernel
theorem d_10_25 : xcode 10 25 = some (.aload_n 0, 1) := by decide +kernel
theorem d_10_26 : xcode 10 26 = some (.aload_n 1, 1) := by decide +kernel
theorem d_10_27 : xcode 10 27 = some (.putfield 22, 3) := by decide +kernel
theorem d_10_30 : xcode 10 30 = some (.return_, 1) := by decide +kernel
theorem d_11_0 : xcode 11 0 = some (.aload_n 0, 1) := by decide +kernel
theorem d_11_1 : xcode 11 1 = some (.invokespecial 1, 3) := by decide +kernel
theorem d_11_4 : xcode 11 4 = some (.aload_n 0, 1) := by decide +kernel
theorem d_11_5 : xcode 11 5 = some (.bipush 28, 2) := by decide +kernel
theorem d_11_7 : xcode 11 7 = some (.newarray .long, 2) := by decide +kernel
theorem d_11_9 : xcode 11 9 = some (.putfield 9, 3) := by decide +kernel
theorem d_11_12 : xcode 11 12 = some (.aload_n 0, 1) := by decide +kernel
theorem d_11_13 : xcode 11 13 = some (.iconst 1, 1) := by decide +kernel
theorem d_11_14 : xcode 11 14 = some (.putfield 13, 3) := by decide +kernel
theorem d_11_17 : xcode 11 17 = some (.return_, 1) := by decide +kernel
theorem d_12_0 : xcode 12 0 = some (.aload_n 0, 1) := by decide +kernel
theorem d_12_1 : xcode 12 1 = some (.iload_n 1, 1) := by decide +kernel
theorem d_12_2 : xcode 12 2 = some (.bipush 38, 2) := by decide +kernel
theorem d_12_4 : xcode 12 4 = some (.invokestatic 18, 3) := by decide +kernel
theorem d_12_7 : xcode 12 7 = some (.putfield 24, 3) := by decide +kernel
theorem d_12_10 : xcode 12 10 = some (.iconst 0, 1) := by decide +kernel
theorem d_12_11 : xcode 12 11 = some (.istore_n 2, 1) := by decide +kernel
theorem d_12_12 : xcode 12 12 = some (.iload_n 2, 1) := by decide +kernel
theorem d_12_13 : xcode 12 13 = some (.aload_n 0, 1) := by decide +kernel
theorem d_12_14 : xcode 12 14 = some (.getfield 24, 3) := by decide +kernel
theorem d_12_17 : xcode 12 17 = some (.if_icmp .gt 46, 3) := by decide +kernel
theorem d_12_20 : xcode 12 20 = some (.aload_n 0, 1) := by decide +kernel
theorem d_12_21 : xcode 12 21 = some (.getfield 9, 3) := by decide +kernel
theorem d_12_24 : xcode 12 24 = some (.iload_n 2, 1) := by decide +kernel
theorem d_12_25 : xcode 12 25 = some (.iload_n 2, 1) := by decide +kernel
theorem d_12_26 : xcode 12 26 = some (.ifCond .ne 7, 3) := by decide +kernel
theorem d_12_29 : xcode 12 29 = some (.lconst 1, 1) := by decide +kernel
theorem d_12_30 : xcode 12 30 = some (.goto 4, 3) := by decide +kernel
theorem d_12_33 : xcode 12 33 = some (.lconst 0, 1) := by decide +kernel
theorem d_12_34 : xcode 12 34 = some (.lastore, 1) := by decide +kernel
theorem d_12_35 : xcode 12 35 = some (.aload_n 0, 1) := by decide +kernel
theorem d_12_36 : xcode 12 36 = some (.getfield 15, 3) := by decide +kernel
theorem d_12_39 : xcode 12 39 = some (.iload_n 2, 1) := by decide +kernel
theorem d_12_40 : xcode 12 40 = some (.iload_n 2, 1) := by decide +kernel
theorem d_12_41 : xcode 12 41 = some (.ifCond .ne 7, 3) := by decide +kernel
theorem d_12_44 : xcode 12 44 = some (.lconst 0, 1) := by decide +kernel
theorem d_12_45 : xcode 12 45 = some (.goto 11, 3) := by decide +kernel
theorem d_12_48 : xcode 12 48 = some (.ldc2_w 28, 3) := by decide +kernel
theorem d_12_51 : xcode 12 51 = some (.iload_n 2, 1) := by decide +kernel
theorem d_12_52 : xcode 12 52 = some (.iconst 1, 1) := by decide +kernel
theorem d_12_53 : xcode 12 53 = some (.iadd, 1) := by decide +kernel
theorem d_12_54 : xcode 12 54 = some (.i2l, 1) := by decide +kernel
theorem d_12_55 : xcode 12 55 = some (.ldiv, 1) := by decide +kernel
theorem d_12_56 : xcode 12 56 = some (.lastore, 1) := by decide +kernel
theorem d_12_57 : xcode 12 57 = some (.iinc 2 1, 3) := by decide +kernel
theorem d_12_60 : xcode 12 60 = some (.goto (-48), 3) := by decide +kernel
theorem d_12_63 : xcode 12 63 = some (.return_, 1) := by decide +kernel
theorem d_13_0 : xcode 13 0 = some (.iload_n 0, 1) := by decide +kernel
theorem d_13_1 : xcode 13 1 = some (.iload_n 1, 1) := by decide +kernel
theorem d_13_2 : xcode 13 2 = some (.if_icmp .gt 7, 3) := by decide +kernel
theorem d_13_5 : xcode 13 5 = some (.iload_n 0, 1) := by decide +kernel
theorem d_13_6 : xcode 13 6 = some (.goto 4, 3) := by decide +kernel
theorem d_13_9 : xcode 13 9 = some (.iload_n 1, 1) := by decide +kernel
theorem d_13_10 : xcode 13 10 = some (.ireturn, 1) := by decide +kernel
theorem d_14_0 : xcode 14 0 = some (.aload_n 0, 1) := by decide +kernel
theorem d_14_1 : xcode 14 1 = some (.iconst 0, 1) := by decide +kernel
theorem d_14_2 : xcode 14 2 = some (.aload_n 2, 1) := by decide +kernel
theorem d_14_3 : xcode 14 3 = some (.invokevirtual 43, 3) := by decide +kernel
theorem d_14_6 : xcode 14 6 = some (.iload_n 1, 1) := by decide +kernel
theorem d_14_7 : xcode 14 7 = some (.iconst 1, 1) := by decide +kernel
theorem d_14_8 : xcode 14 8 = some (.if_icmp .ne 13, 3) := by decide +kernel
theorem d_14_11 : xcode 14 11 = some (.aload_n 2, 1) := by decide +kernel
theorem d_14_12 : xcode 14 12 = some (.dup, 1) := by decide +kernel
theorem d_14_13 : xcode 14 13 = some (.getfield 47, 3) := by decide +kernel
theorem d_14_16 : xcode 14 16 = some (.lconst 1, 1) := by decide +kernel
theorem d_14_17 : xcode 14 17 = some (.lsub, 1) := by decide +kernel
theorem d_14_18 : xcode 14 18 = some (.putfield 47, 3) := by decide +kernel
theorem d_14_21 : xcode 14 21 = some (.return_, 1) := by decide +kernel
theorem d_15_0 : xcode 15 0 = some (.iload_n 1, 1) := by decide +kernel
theorem d_15_1 : xcode 15 1 = some (.ifCond .lt 28, 3) := by decide +kernel
theorem d_15_4 : xcode 15 4 = some (.iload_n 1, 1) := by decide +kernel
theorem d_15_5 : xcode 15 5 = some (.bipush 39, 2) := by decide +kernel
theorem d_15_7 : xcode 15 7 = some (.if_icmp .ge 22, 3) := by decide +kernel
theorem d_15_10 : xcode 15 10 = some (.aload_n 2, 1) := by decide +kernel
theorem d_15_11 : xcode 15 11 = some (.aload_n 0, 1) := by decide +kernel
theorem d_15_12 : xcode 15 12 = some (.getfield 9, 3) := by decide +kernel
theorem d_15_15 : xcode 15 15 = some (.iload_n 1, 1) := by decide +kernel
theorem d_15_16 : xcode 15 16 = some (.laload, 1) := by decide +kernel
theorem d_15_17 : xcode 15 17 = some (.aload_n 0, 1) := by decide +kernel
theorem d_15_18 : xcode 15 18 = some (.getfield 15, 3) := by decide +kernel
theorem d_15_21 : xcode 15 21 = some (.iload_n 1, 1) := by decide +kernel
theorem d_15_22 : xcode 15 22 = some (.laload, 1) := by decide +kernel
theorem d_15_23 : xcode 15 23 = some (.ldc2_w 28, 3) := by decide +kernel
theorem d_15_26 : xcode 15 26 = some (.invokevirtual 37, 3) := by decide +kernel
theorem d_15_29 : xcode 15 29 = some (.return_, 1) := by decide +kernel
theorem d_16_0 : xcode 16 0 = some (.lload 5, 2) := by decide +kernel
theorem d_16_2 : xcode 16 2 = some (.lconst 0, 1) := by decide +kernel
theorem d_16_3 : xcode 16 3 = some (.lcmp, 1) := by decide +kernel
theorem d_16_4 : xcode 16 4 = some (.ifCond .gt 4, 3) := by decide +kernel
theorem d_16_7 : xcode 16 7 = some (.return_, 1) := by decide +kernel
theorem d_16_8 : xcode 16 8 = some (.lload_n 3, 1) := by decide +kernel
theorem d_16_9 : xcode 16 9 = some (.lload 5, 2) := by decide +kernel
theorem d_16_11 : xcode 16 11 = some (.invokestatic 13, 3) := by decide +kernel
theorem d_16_14 : xcode 16 14 = some (.lstore 7, 2) := by decide +kernel
theorem d_16_16 : xcode 16 16 = some (.lload 7, 2) := by decide +kernel
theorem d_16_18 : xcode 16 18 = some (.lload 5, 2) := by decide +kernel
theorem d_16_20 : xcode 16 20 = some (.invokestatic 19, 3) := by decide +kernel
theorem d_16_23 : xcode 16 23 = some (.lstore 9, 2) := by decide +kernel
theorem d_16_25 : xcode 16 25 = some (.aload_n 0, 1) := by decide +kernel
theorem d_16_26 : xcode 16 26 = some (.lload_n 1, 1) := by decide +kernel
theorem d_16_27 : xcode 16 27 = some (.lload_n 3, 1) := by decide +kernel
theorem d_16_28 : xcode 16 28 = some (.lload 5, 2) := by decide +kernel
theorem d_16_30 : xcode 16 30 = some (.invokestatic 22, 3) := by decide +kernel
theorem d_16_33 : xcode 16 33 = some (.ladd, 1) := by decide +kernel
theorem d_16_34 : xcode 16 34 = some (.putfield 25, 3) := by decide +kernel
theorem d_16_37 : xcode 16 37 = some (.aload_n 0, 1) := by decide +kernel
theorem d_16_38 : xcode 16 38 = some (.lload 7, 2) := by decide +kernel
theorem d_16_40 : xcode 16 40 = some (.lload 9, 2) := by decide +kernel
theorem d_16_42 : xcode 16 42 = some (.ldiv, 1) := by decide +kernel
theorem d_16_43 : xcode 16 43 = some (.putfield 28, 3) := by decide +kernel
theorem d_16_46 : xcode 16 46 = some (.aload_n 0, 1) := by decide +kernel
theorem d_16_47 : xcode 16 47 = some (.lload 5, 2) := by decide +kernel
theorem d_16_49 : xcode 16 49 = some (.lload 9, 2) := by decide +kernel
theorem d_16_51 : xcode 16 51 = some (.ldiv, 1) := by decide +kernel
theorem d_16_52 : xcode 16 52 = some (.putfield 7, 3) := by decide +kernel
theorem d_16_55 : xcode 16 55 = some (.return_, 1) := by decide +kernel
theorem d_17_0 : xcode 17 0 = some (.lload_n 0, 1) := by decide +kernel
theorem d_17_1 : xcode 17 1 = some (.lload_n 2, 1) := by decide +kernel
theorem d_17_2 : xcode 17 2 = some (.lrem, 1) := by decide +kernel
theorem d_17_3 : xcode 17 3 = some (.lstore 4, 2) := by decide +kernel
theorem d_17_5 : xcode 17 5 = some (.lload_n 0, 1) := by decide +kernel
theorem d_17_6 : xcode 17 6 = some (.lload_n 2, 1) := by decide +kernel
theorem d_17_7 : xcode 17 7 = some (.lxor, 1) := by decide +kernel
theorem d_17_8 : xcode 17 8 = some (.lconst 0, 1) := by decide +kernel
theorem d_17_9 : xcode 17 9 = some (.lcmp, 1) := by decide +kernel
theorem d_17_10 : xcode 17 10 = some (.ifCond .ge 15, 3) := by decide +kernel
theorem d_17_13 : xcode 17 13 = some (.lload 4, 2) := by decide +kernel
theorem d_17_15 : xcode 17 15 = some (.lconst 0, 1) := by decide +kernel
theorem d_17_16 : xcode 17 16 = some (.lcmp, 1) := by decide +kernel
theorem d_17_17 : xcode 17 17 = some (.ifCond .eq 8, 3) := by decide +kernel
theorem d_17_20 : xcode 17 20 = some (.lload 4, 2) := by decide +kernel
theorem d_17_22 : xcode 17 22 = some (.lload_n 2, 1) := by decide +kernel
theorem d_17_23 : xcode 17 23 = some (.ladd, 1) := by decide +kernel
theorem d_17_24 : xcode 17 24 = some (.lreturn, 1) := by decide +kernel
theorem d_17_25 : xcode 17 25 = some (.lload 4, 2) := by decide +kernel
theorem d_17_27 : xcode 17 27 = some (.lreturn, 1) := by decide +kernel
theorem d_18_0 : xcode 18 0 = some (.lload_n 2, 1) := by decide +kernel
theorem d_18_1 : xcode 18 1 = some (.lstore 4, 2) := by decide +kernel
theorem d_18_3 : xcode 18 3 = some (.lload_n 0, 1) := by decide +kernel
theorem d_18_4 : xcode 18 4 = some (.lstore 6, 2) := by decide +kernel
theorem d_18_6 : xcode 18 6 = some (.iconst 0, 1) := by decide +kernel
theorem d_18_7 : xcode 18 7 = some (.istore 8, 2) := by decide +kernel
theorem d_18_9 : xcode 18 9 = some (.iload 8, 2) := by decide +kernel
theorem d_18_11 : xcode 18 11 = some (.bipush 100, 2) := by decide +kernel
theorem d_18_13 : xcode 18 13 = some (.if_icmp .ge 31, 3) := by decide +kernel
theorem d_18_16 : xcode 18 16 = some (.lload 6, 2) := by decide +kernel
theorem d_18_18 : xcode 18 18 = some (.lconst 0, 1) := by decide +kernel
theorem d_18_19 : xcode 18 19 = some (.lcmp, 1) := by decide +kernel
theorem d_18_20 : xcode 18 20 = some (.ifCond .le 24, 3) := by decide +kernel
theorem d_18_23 : xcode 18 23 = some (.lload 4, 2) := by decide +kernel
theorem d_18_25 : xcode 18 25 = some (.lload 6, 2) := by decide +kernel
theorem d_18_27 : xcode 18 27 = some (.lrem, 1) := by decide +kernel
theorem d_18_28 : xcode 18 28 = some (.lstore 9, 2) := by decide +kernel
theorem d_18_30 : xcode 18 30 = some (.lload 6, 2) := by decide +kernel
theorem d_18_32 : xcode 18 32 = some (.lstore 4, 2) := by decide +kernel
theorem d_18_34 : xcode 18 34 = some (.lload 9, 2) := by decide +kernel
theorem d_18_36 : xcode 18 36 = some (.lstore 6, 2) := by decide +kernel
theorem d_18_38 : xcode 18 38 = some (.iinc 8 1, 3) := by decide +kernel
theorem d_18_41 : xcode 18 41 = some (.goto (-32), 3) := by decide +kernel
theorem d_18_44 : xcode 18 44 = some (.lload 4, 2) := by decide +kernel
theorem d_18_46 : xcode 18 46 = some (.lconst 0, 1) := by decide +kernel
theorem d_18_47 : xcode 18 47 = some (.lcmp, 1) := by decide +kernel
theorem d_18_48 : xcode 18 48 = some (.ifCond .le 8, 3) := by decide +kernel
theorem d_18_51 : xcode 18 51 = some (.lload 4, 2) := by decide +kernel
theorem d_18_53 : xcode 18 53 = some (.goto 4, 3) := by decide +kernel
theorem d_18_56 : xcode 18 56 = some (.lconst 1, 1) := by decide +kernel
theorem d_18_57 : xcode 18 57 = some (.lreturn, 1) := by decide +kernel
theorem d_19_0 : xcode 19 0 = some (.lload_n 0, 1) := by decide +kernel
theorem d_19_1 : xcode 19 1 = some (.lload_n 2, 1) := by decide +kernel
theorem d_19_2 : xcode 19 2 = some (.ldiv, 1) := by decide +kernel
theorem d_19_3 : xcode 19 3 = some (.lstore 4, 2) := by decide +kernel
theorem d_19_5 : xcode 19 5 = some (.lload_n 0, 1) := by decide +kernel
theorem d_19_6 : xcode 19 6 = some (.lload_n 2, 1) := by decide +kernel
theorem d_19_7 : xcode 19 7 = some (.lxor, 1) := by decide +kernel
theorem d_19_8 : xcode 19 8 = some (.lconst 0, 1) := by decide +kernel
theorem d_19_9 : xcode 19 9 = some (.lcmp, 1) := by decide +kernel
theorem d_19_10 : xcode 19 10 = some (.ifCond .ge 17, 3) := by decide +kernel
theorem d_19_13 : xcode 19 13 = some (.lload 4, 2) := by decide +kernel
theorem d_19_15 : xcode 19 15 = some (.lload_n 2, 1) := by decide +kernel
theorem d_19_16 : xcode 19 16 = some (.lmul, 1) := by decide +kernel
theorem d_19_17 : xcode 19 17 = some (.lload_n 0, 1) := by decide +kernel
theorem d_19_18 : xcode 19 18 = some (.lcmp, 1) := by decide +kernel
theorem d_19_19 : xcode 19 19 = some (.ifCond .eq 8, 3) := by decide +kernel
theorem d_19_22 : xcode 19 22 = some (.lload 4, 2) := by decide +kernel
theorem d_19_24 : xcode 19 24 = some (.lconst 1, 1) := by decide +kernel
theorem d_19_25 : xcode 19 25 = some (.lsub, 1) := by decide +kernel
theorem d_19_26 : xcode 19 26 = some (.lreturn, 1) := by decide +kernel
theorem d_19_27 : xcode 19 27 = some (.lload 4, 2) := by decide +kernel
theorem d_19_29 : xcode 19 29 = some (.lreturn, 1) := by decide +kernel
theorem d_20_0 : xcode 20 0 = some (.iload_n 1, 1) := by decide +kernel
theorem d_20_1 : xcode 20 1 = some (.invokestatic 34, 3) := by decide +kernel
theorem d_20_4 : xcode 20 4 = some (.ifCond .eq 33, 3) := by decide +kernel
theorem d_20_7 : xcode 20 7 = some (.aload_n 0, 1) := by decide +kernel
theorem d_20_8 : xcode 20 8 = some (.getfield 9, 3) := by decide +kernel
theorem d_20_11 : xcode 20 11 = some (.iload_n 1, 1) := by decide +kernel
theorem d_20_12 : xcode 20 12 = some (.aload_n 2, 1) := by decide +kernel
theorem d_20_13 : xcode 20 13 = some (.getfield 45, 3) := by decide +kernel
theorem d_20_16 : xcode 20 16 = some (.lastore, 1) := by decide +kernel
theorem d_20_17 : xcode 20 17 = some (.aload_n 0, 1) := by decide +kernel
theorem d_20_18 : xcode 20 18 = some (.getfield 15, 3) := by decide +kernel
theorem d_20_21 : xcode 20 21 = some (.iload_n 1, 1) := by decide +kernel
theorem d_20_22 : xcode 20 22 = some (.aload_n 2, 1) := by decide +kernel
theorem d_20_23 : xcode 20 23 = some (.getfield 49, 3) := by decide +kernel
theorem d_20_26 : xcode 20 26 = some (.lastore, 1) := by decide +kernel
theorem d_20_27 : xcode 20 27 = some (.aload_n 0, 1) := by decide +kernel
theorem d_20_28 : xcode 20 28 = some (.getfield 18, 3) := by decide +kernel
theorem d_20_31 : xcode 20 31 = some (.iload_n 1, 1) := by decide +kernel
theorem d_20_32 : xcode 20 32 = some (.aload_n 2, 1) := by decide +kernel
theorem d_20_33 : xcode 20 33 = some (.getfield 52, 3) := by decide +kernel
theorem d_20_36 : xcode 20 36 = some (.lastore, 1) := by decide +kernel
theorem d_20_37 : xcode 20 37 = some (.return_, 1) := by decide +kernel
theorem d_21_0 : xcode 21 0 = some (.iload_n 0, 1) := by decide +kernel
theorem d_21_1 : xcode 21 1 = some (.ifCond .lt 13, 3) := by decide +kernel
theorem d_21_4 : xcode 21 4 = some (.iload_n 0, 1) := by decide +kernel
theorem d_21_5 : xcode 21 5 = some (.bipush 39, 2) := by decide +kernel
theorem d_21_7 : xcode 21 7 = some (.if_icmp .ge 7, 3) := by decide +kernel
theorem d_21_10 : xcode 21 10 = some (.iconst 1, 1) := by decide +kernel
theorem d_21_11 : xcode 21 11 = some (.goto 4, 3) := by decide +kernel
theorem d_21_14 : xcode 21 14 = some (.iconst 0, 1) := by decide +kernel
theorem d_21_15 : xcode 21 15 = some (.ireturn, 1) := by decide +kernel
theorem d_22_0 : xcode 22 0 = some (.iconst 0, 1) := by decide +kernel
theorem d_22_1 : xcode 22 1 = some (.istore_n 1, 1) := by decide +kernel
theorem d_22_2 : xcode 22 2 = some (.iload_n 1, 1) := by decide +kernel
theorem d_22_3 : xcode 22 3 = some (.aload_n 0, 1) := by decide +kernel
theorem d_22_4 : xcode 22 4 = some (.getfield 24, 3) := by decide +kernel
theorem d_22_7 : xcode 22 7 = some (.if_icmp .ge 85, 3) := by decide +kernel
theorem d_22_10 : xcode 22 10 = some (.iload_n 1, 1) := by decide +kernel
theorem d_22_11 : xcode 22 11 = some (.iconst 1, 1) := by decide +kernel
theorem d_22_12 : xcode 22 12 = some (.iadd, 1) := by decide +kernel
theorem d_22_13 : xcode 22 13 = some (.bipush 39, 2) := by decide +kernel
theorem d_22_15 : xcode 22 15 = some (.if_icmp .ge 77, 3) := by decide +kernel
theorem d_22_18 : xcode 22 18 = some (.iload_n 1, 1) := by decide +kernel
theorem d_22_19 : xcode 22 19 = some (.iconst 1, 1) := by decide +kernel
theorem d_22_20 : xcode 22 20 = some (.iadd, 1) := by decide +kernel
theorem d_22_21 : xcode 22 21 = some (.i2l, 1) := by decide +kernel
theorem d_22_22 : xcode 22 22 = some (.aload_n 0, 1) := by decide +kernel
theorem d_22_23 : xcode 22 23 = some (.getfield 15, 3) := by decide +kernel
theorem d_22_26 : xcode 22 26 = some (.iload_n 1, 1) := by decide +kernel
theorem d_22_27 : xcode 22 27 = some (.laload, 1) := by decide +kernel
theorem d_22_28 : xcode 22 28 = some (.aload_n 0, 1) := by decide +kernel
theorem d_22_29 : xcode 22 29 = some (.getfield 15, 3) := by decide +kernel
theorem d_22_32 : xcode 22 32 = some (.iload_n 1, 1) := by decide +kernel
theorem d_22_33 : xcode 22 33 = some (.iconst 1, 1) := by decide +kernel
theorem d_22_34 : xcode 22 34 = some (.iadd, 1) := by decide +kernel
theorem d_22_35 : xcode 22 35 = some (.laload, 1) := by decide +kernel
theorem d_22_36 : xcode 22 36 = some (.lsub, 1) := by decide +kernel
theorem d_22_37 : xcode 22 37 = some (.lmul, 1) := by decide +kernel
theorem d_22_38 : xcode 22 38 = some (.lstore_n 2, 1) := by decide +kernel
theorem d_22_39 : xcode 22 39 = some (.aload_n 0, 1) := by decide +kernel
theorem d_22_40 : xcode 22 40 = some (.getfield 9, 3) := by decide +kernel
theorem d_22_43 : xcode 22 43 = some (.iload_n 1, 1) := by decide +kernel
theorem d_22_44 : xcode 22 44 = some (.iload_n 1, 1) := by decide +kernel
theorem d_22_45 : xcode 22 45 = some (.iconst 1, 1) := by decide +kernel
theorem d_22_46 : xcode 22 46 = some (.iadd, 1) := by decide +kernel
theorem d_22_47 : xcode 22 47 = some (.i2l, 1) := by decide +kernel
theorem d_22_48 : xcode 22 48 = some (.aload_n 0, 1) := by decide +kernel
theorem d_22_49 : xcode 22 49 = some (.getfield 9, 3) := by decide +kernel
theorem d_22_52 : xcode 22 52 = some (.iload_n 1, 1) := by decide +kernel
theorem d_22_53 : xcode 22 53 = some (.laload, 1) := by decide +kernel
theorem d_22_54 : xcode 22 54 = some (.aload_n 0, 1) := by decide +kernel
theorem d_22_55 : xcode 22 55 = some (.getfield 9, 3) := by decide +kernel
theorem d_22_58 : xcode 22 58 = some (.iload_n 1, 1) := by decide +kernel
theorem d_22_59 : xcode 22 59 = some (.iconst 1, 1) := by decide +kernel
theorem d_22_60 : xcode 22 60 = some (.iadd, 1) := by decide +kernel
theorem d_22_61 : xcode 22 61 = some (.laload, 1) := by decide +kernel
theorem d_22_62 : xcode 22 62 = some (.lsub, 1) := by decide +kernel
theorem d_22_63 : xcode 22 63 = some (.lmul, 1) := by decide +kernel
theorem d_22_64 : xcode 22 64 = some (.lload_n 2, 1) := by decide +kernel
theorem d_22_65 : xcode 22 65 = some (.ldc2_w 28, 3) := by decide +kernel
theorem d_22_68 : xcode 22 68 = some (.invokestatic 30, 3) := by decide +kernel
theorem d_22_71 : xcode 22 71 = some (.ladd, 1) := by decide +kernel
theorem d_22_72 : xcode 22 72 = some (.lastore, 1) := by decide +kernel
theorem d_22_73 : xcode 22 73 = some (.aload_n 0, 1) := by decide +kernel
theorem d_22_74 : xcode 22 74 = some (.getfield 15, 3) := by decide +kernel
theorem d_22_77 : xcode 22 77 = some (.iload_n 1, 1) := by decide +kernel
theorem d_22_78 : xcode 22 78 = some (.lload_n 2, 1) := by decide +kernel
theorem d_22_79 : xcode 22 79 = some (.ldc2_w 28, 3) := by decide +kernel
theorem d_22_82 : xcode 22 82 = some (.invokestatic 34, 3) := by decide +kernel
theorem d_22_85 : xcode 22 85 = some (.lastore, 1) := by decide +kernel
theorem d_22_86 : xcode 22 86 = some (.iinc 1 1, 3) := by decide +kernel
theorem d_22_89 : xcode 22 89 = some (.goto (-87), 3) := by decide +kernel
theorem d_22_92 : xcode 22 92 = some (.aload_n 0, 1) := by decide +kernel
theorem d_22_93 : xcode 22 93 = some (.dup, 1) := by decide +kernel
theorem d_22_94 : xcode 22 94 = some (.getfield 24, 3) := by decide +kernel
theorem d_22_97 : xcode 22 97 = some (.iconst 1, 1) := by decide +kernel
theorem d_22_98 : xcode 22 98 = some (.isub, 1) := by decide +kernel
theorem d_22_99 : xcode 22 99 = some (.putfield 24, 3) := by decide +kernel
theorem d_22_102 : xcode 22 102 = some (.return_, 1) := by decide +kernel
theorem d_23_0 : xcode 23 0 = some (.iload_n 1, 1) := by decide +kernel
theorem d_23_1 : xcode 23 1 = some (.invokestatic 120, 3) := by decide +kernel
theorem d_23_4 : xcode 23 4 = some (.ifCond .eq 10, 3) := by decide +kernel
theorem d_23_7 : xcode 23 7 = some (.iload_n 2, 1) := by decide +kernel
theorem d_23_8 : xcode 23 8 = some (.invokestatic 124, 3) := by decide +kernel
theorem d_23_11 : xcode 23 11 = some (.ifCond .ne 5, 3) := by decide +kernel
theorem d_23_14 : xcode 23 14 = some (.iconst (-1), 1) := by decide +kernel
theorem d_23_15 : xcode 23 15 = some (.ireturn, 1) := by decide +kernel
theorem d_23_16 : xcode 23 16 = some (.iload_n 2, 1) := by decide +kernel
theorem d_23_17 : xcode 23 17 = some (.ifCond .ne 19, 3) := by decide +kernel
theorem d_23_20 : xcode 23 20 = some (.aload_n 0, 1) := by decide +kernel
theorem d_23_21 : xcode 23 21 = some (.aload_n 0, 1) := by decide +kernel
theorem d_23_22 : xcode 23 22 = some (.getfield 49, 3) := by decide +kernel
theorem d_23_25 : xcode 23 25 = some (.iconst 1, 1) := by decide +kernel
theorem d_23_26 : xcode 23 26 = some (.iadd, 1) := by decide +kernel
theorem d_23_27 : xcode 23 27 = some (.invokevirtual 127, 3) := by decide +kernel
theorem d_23_30 : xcode 23 30 = some (.ifCond .ne 6, 3) := by decide +kernel
theorem d_23_33 : xcode 23 33 = some (.bipush (-3), 2) := by decide +kernel
theorem d_23_35 : xcode 23 35 = some (.ireturn, 1) := by decide +kernel
theorem d_23_36 : xcode 23 36 = some (.iconst 0, 1) := by decide +kernel
theorem d_23_37 : xcode 23 37 = some (.istore_n 3, 1) := by decide +kernel
theorem d_23_38 : xcode 23 38 = some (.aload_n 0, 1) := by decide +kernel
theorem d_23_39 : xcode 23 39 = some (.getfield 49, 3) := by decide +kernel
theorem d_23_42 : xcode 23 42 = some (.iconst 1, 1) := by decide +kernel
theorem d_23_43 : xcode 23 43 = some (.iadd, 1) := by decide +kernel
theorem d_23_44 : xcode 23 44 = some (.istore 4, 2) := by decide +kernel
theorem d_23_46 : xcode 23 46 = some (.iload 4, 2) := by decide +kernel
theorem d_23_48 : xcode 23 48 = some (.iload_n 1, 1) := by decide +kernel
theorem d_23_49 : xcode 23 49 = some (.if_icmp .gt 26, 3) := by decide +kernel
theorem d_23_52 : xcode 23 52 = some (.aload_n 0, 1) := by decide +kernel
theorem d_23_53 : xcode 23 53 = some (.iload 4, 2) := by decide +kernel
theorem d_23_55 : xcode 23 55 = some (.iload_n 2, 1) := by decide +kernel
theorem d_23_56 : xcode 23 56 = some (.invokevirtual 130, 3) := by decide +kernel
theorem d_23_59 : xcode 23 59 = some (.pop, 1) := by decide +kernel
theorem d_23_60 : xcode 23 60 = some (.aload_n 0, 1) := by decide +kernel
theorem d_23_61 : xcode 23 61 = some (.iload 4, 2) := by decide +kernel
theorem d_23_63 : xcode 23 63 = some (.putfield 49, 3) := by decide +kernel
theorem d_23_66 : xcode 23 66 = some (.iinc 3 1, 3) := by decide +kernel
theorem d_23_69 : xcode 23 69 = some (.iinc 4 1, 3) := by decide +kernel
theorem d_23_72 : xcode 23 72 = some (.goto (-26), 3) := by decide +kernel
theorem d_23_75 : xcode 23 75 = some (.iload_n 3, 1) := by decide +kernel
theorem d_23_76 : xcode 23 76 = some (.ireturn, 1) := by decide +kernel
theorem d_24_0 : xcode 24 0 = some (.iload_n 0, 1) := by decide +kernel
theorem d_24_1 : xcode 24 1 = some (.ifCond .lt 13, 3) := by decide +kernel
theorem d_24_4 : xcode 24 4 = some (.iload_n 0, 1) := by decide +kernel
theorem d_24_5 : xcode 24 5 = some (.bipush 38, 2) := by decide +kernel
theorem d_24_7 : xcode 24 7 = some (.if_icmp .gt 7, 3) := by decide +kernel
theorem d_24_10 : xcode 24 10 = some (.iconst 1, 1) := by decide +kernel
theorem d_24_11 : xcode 24 11 = some (.goto 4, 3) := by decide +kernel
theorem d_24_14 : xcode 24 14 = some (.iconst 0, 1) := by decide +kernel
theorem d_24_15 : xcode 24 15 = some (.ireturn, 1) := by decide +kernel
theorem d_25_0 : xcode 25 0 = some (.iload_n 0, 1) := by decide +kernel
theorem d_25_1 : xcode 25 1 = some (.ifCond .lt 12, 3) := by decide +kernel
theorem d_25_4 : xcode 25 4 = some (.iload_n 0, 1) := by decide +kernel
theorem d_25_5 : xcode 25 5 = some (.iconst 2, 1) := by decide +kernel
theorem d_25_6 : xcode 25 6 = some (.if_icmp .gt 7, 3) := by decide +kernel
theorem d_25_9 : xcode 25 9 = some (.iconst 1, 1) := by decide +kernel
theorem d_25_10 : xcode 25 10 = some (.goto 4, 3) := by decide +kernel
theorem d_25_13 : xcode 25 13 = some (.iconst 0, 1) := by decide +kernel
theorem d_25_14 : xcode 25 14 = some (.ireturn, 1) := by decide +kernel
theorem d_26_0 : xcode 26 0 = some (.iconst 0, 1) := by decide +kernel
theorem d_26_1 : xcode 26 1 = some (.istore_n 2, 1) := by decide +kernel
theorem d_26_2 : xcode 26 2 = some (.iload_n 2, 1) := by decide +kernel
theorem d_26_3 : xcode 26 3 = some (.iload_n 1, 1) := by decide +kernel
theorem d_26_4 : xcode 26 4 = some (.if_icmp .ge 19, 3) := by decide +kernel
theorem d_26_7 : xcode 26 7 = some (.aload_n 0, 1) := by decide +kernel
theorem d_26_8 : xcode 26 8 = some (.iload_n 2, 1) := by decide +kernel
theorem d_26_9 : xcode 26 9 = some (.invokevirtual 174, 3) := by decide +kernel
theorem d_26_12 : xcode 26 12 = some (.ifCond .ne 5, 3) := by decide +kernel
theorem d_26_15 : xcode 26 15 = some (.iconst 0, 1) := by decide +kernel
theorem d_26_16 : xcode 26 16 = some (.ireturn, 1) := by decide +kernel
theorem d_26_17 : xcode 26 17 = some (.iinc 2 1, 3) := by decide +kernel
theorem d_26_20 : xcode 26 20 = some (.goto (-18), 3) := by decide +kernel
theorem d_26_23 : xcode 26 23 = some (.iconst 1, 1) := by decide +kernel
theorem d_26_24 : xcode 26 24 = some (.ireturn, 1) := by decide +kernel
theorem d_27_0 : xcode 27 0 = some (.aload_n 0, 1) := by decide +kernel
theorem d_27_1 : xcode 27 1 = some (.getfield 39, 3) := by decide +kernel
theorem d_27_4 : xcode 27 4 = some (.iload_n 1, 1) := by decide +kernel
theorem d_27_5 : xcode 27 5 = some (.aload_n 0, 1) := by decide +kernel
theorem d_27_6 : xcode 27 6 = some (.getfield 35, 3) := by decide +kernel
theorem d_27_9 : xcode 27 9 = some (.invokevirtual 418, 3) := by decide +kernel
theorem d_27_12 : xcode 27 12 = some (.ireturn, 1) := by decide +kernel
theorem d_28_0 : xcode 28 0 = some (.aload_n 0, 1) := by decide +kernel
theorem d_28_1 : xcode 28 1 = some (.iload_n 1, 1) := by decide +kernel
theorem d_28_2 : xcode 28 2 = some (.invokevirtual 38, 3) := by decide +kernel
theorem d_28_5 : xcode 28 5 = some (.aload_n 2, 1) := by decide +kernel
theorem d_28_6 : xcode 28 6 = some (.iload_n 1, 1) := by decide +kernel
theorem d_28_7 : xcode 28 7 = some (.invokevirtual 38, 3) := by decide +kernel
theorem d_28_10 : xcode 28 10 = some (.lcmp, 1) := by decide +kernel
theorem d_28_11 : xcode 28 11 = some (.ifCond .ne 35, 3) := by decide +kernel
theorem d_28_14 : xcode 28 14 = some (.aload_n 0, 1) := by decide +kernel
theorem d_28_15 : xcode 28 15 = some (.iload_n 1, 1) := by decide +kernel
theorem d_28_16 : xcode 28 16 = some (.invokevirtual 42, 3) := by decide +kernel
theorem d_28_19 : xcode 28 19 = some (.aload_n 2, 1) := by decide +kernel
theorem d_28_20 : xcode 28 20 = some (.iload_n 1, 1) := by decide +kernel
theorem d_28_21 : xcode 28 21 = some (.invokevirtual 42, 3) := by decide +kernel
theorem d_28_24 : xcode 28 24 = some (.lcmp, 1) := by decide +kernel
theorem d_28_25 : xcode 28 25 = some (.ifCond .ne 21, 3) := by decide +kernel
theorem d_28_28 : xcode 28 28 = some (.aload_n 0, 1) := by decide +kernel
theorem d_28_29 : xcode 28 29 = some (.iload_n 1, 1) := by decide +kernel
theorem d_28_30 : xcode 28 30 = some (.invokevirtual 55, 3) := by decide +kernel
theorem d_28_33 : xcode 28 33 = some (.aload_n 2, 1) := by decide +kernel
theorem d_28_34 : xcode 28 34 = some (.iload_n 1, 1) := by decide +kernel
theorem d_28_35 : xcode 28 35 = some (.invokevirtual 55, 3) := by decide +kernel
theorem d_28_38 : xcode 28 38 = some (.lcmp, 1) := by decide +kernel
theorem d_28_39 : xcode 28 39 = some (.ifCond .ne 7, 3) := by decide +kernel
theorem d_28_42 : xcode 28 42 = some (.iconst 1, 1) := by decide +kernel
theorem d_28_43 : xcode 28 43 = some (.goto 4, 3) := by decide +kernel
theorem d_28_46 : xcode 28 46 = some (.iconst 0, 1) := by decide +kernel
theorem d_28_47 : xcode 28 47 = some (.ireturn, 1) := by decide +kernel
theorem d_29_0 : xcode 29 0 = some (.iload_n 1, 1) := by decide +kernel
theorem d_29_1 : xcode 29 1 = some (.invokestatic 34, 3) := by decide +kernel
theorem d_29_4 : xcode 29 4 = some (.ifCond .eq 12, 3) := by decide +kernel
theorem d_29_7 : xcode 29 7 = some (.aload_n 0, 1) := by decide +kernel
theorem d_29_8 : xcode 29 8 = some (.getfield 9, 3) := by decide +kernel
theorem d_29_11 : xcode 29 11 = some (.iload_n 1, 1) := by decide +kernel
theorem d_29_12 : xcode 29 12 = some (.laload, 1) := by decide +kernel
theorem d_29_13 : xcode 29 13 = some (.goto 4, 3) := by decide +kernel
theorem d_29_16 : xcode 29 16 = some (.lconst 0, 1) := by decide +kernel
theorem d_29_17 : xcode 29 17 = some (.lreturn, 1) := by decide +kernel
theorem d_30_0 : xcode 30 0 = some (.iload_n 1, 1) := by decide +kernel
theorem d_30_1 : xcode 30 1 = some (.invokestatic 34, 3) := by decide +kernel
theorem d_30_4 : xcode 30 4 = some (.ifCond .eq 12, 3) := by decide +kernel
theorem d_30_7 : xcode 30 7 = some (.aload_n 0, 1) := by decide +kernel
theorem d_30_8 : xcode 30 8 = some (.getfield 15, 3) := by decide +kernel
theorem d_30_11 : xcode 30 11 = some (.iload_n 1, 1) := by decide +kernel
theorem d_30_12 : xcode 30 12 = some (.laload, 1) := by decide +kernel
theorem d_30_13 : xcode 30 13 = some (.goto 4, 3) := by decide +kernel
theorem d_30_16 : xcode 30 16 = some (.lconst 0, 1) := by decide +kernel
theorem d_30_17 : xcode 30 17 = some (.lreturn, 1) := by decide +kernel
theorem d_31_0 : xcode 31 0 = some (.iload_n 1, 1) := by decide +kernel
theorem d_31_1 : xcode 31 1 = some (.invokestatic 34, 3) := by decide +kernel
theorem d_31_4 : xcode 31 4 = some (.ifCond .eq 12, 3) := by decide +kernel
theorem d_31_7 : xcode 31 7 = some (.aload_n 0, 1) := by decide +kernel
theorem d_31_8 : xcode 31 8 = some (.getfield 18, 3) := by decide +kernel
theorem d_31_11 : xcode 31 11 = some (.iload_n 1, 1) := by decide +kernel
theorem d_31_12 : xcode 31 12 = some (.laload, 1) := by decide +kernel
theorem d_31_13 : xcode 31 13 = some (.goto 4, 3) := by decide +kernel
theorem d_31_16 : xcode 31 16 = some (.lconst 1, 1) := by decide +kernel
theorem d_31_17 : xcode 31 17 = some (.lreturn, 1) := by decide +kernel
theorem d_32_0 : xcode 32 0 = some (.aload_n 0, 1) := by decide +kernel
theorem d_32_1 : xcode 32 1 = some (.iload_n 1, 1) := by decide +kernel
theorem d_32_2 : xcode 32 2 = some (.iload_n 2, 1) := by decide +kernel
theorem d_32_3 : xcode 32 3 = some (.invokevirtual 177, 3) := by decide +kernel
theorem d_32_6 : xcode 32 6 = some (.aload_n 0, 1) := by decide +kernel
theorem d_32_7 : xcode 32 7 = some (.getfield 39, 3) := by decide +kernel
theorem d_32_10 : xcode 32 10 = some (.iload_n 1, 1) := by decide +kernel
theorem d_32_11 : xcode 32 11 = some (.aload_n 0, 1) := by decide +kernel
theorem d_32_12 : xcode 32 12 = some (.getfield 95, 3) := by decide +kernel
theorem d_32_15 : xcode 32 15 = some (.invokevirtual 180, 3) := by decide +kernel
theorem d_32_18 : xcode 32 18 = some (.ifCond .ne 7, 3) := by decide +kernel
theorem d_32_21 : xcode 32 21 = some (.iconst 1, 1) := by decide +kernel
theorem d_32_22 : xcode 32 22 = some (.goto 4, 3) := by decide +kernel
theorem d_32_25 : xcode 32 25 = some (.iconst 0, 1) := by decide +kernel
theorem d_32_26 : xcode 32 26 = some (.istore_n 3, 1) := by decide +kernel
theorem d_32_27 : xcode 32 27 = some (.aload_n 0, 1) := by decide +kernel
theorem d_32_28 : xcode 32 28 = some (.getfield 39, 3) := by decide +kernel
theorem d_32_31 : xcode 32 31 = some (.iload_n 1, 1) := by decide +kernel
theorem d_32_32 : xcode 32 32 = some (.aload_n 0, 1) := by decide +kernel
theorem d_32_33 : xcode 32 33 = some (.getfield 95, 3) := by decide +kernel
theorem d_32_36 : xcode 32 36 = some (.invokevirtual 114, 3) := by decide +kernel
theorem d_32_39 : xcode 32 39 = some (.aload_n 0, 1) := by decide +kernel
theorem d_32_40 : xcode 32 40 = some (.iload_n 1, 1) := by decide +kernel
theorem d_32_41 : xcode 32 41 = some (.iload_n 2, 1) := by decide +kernel
theorem d_32_42 : xcode 32 42 = some (.invokevirtual 138, 3) := by decide +kernel
theorem d_32_45 : xcode 32 45 = some (.iload_n 3, 1) := by decide +kernel
theorem d_32_46 : xcode 32 46 = some (.ireturn, 1) := by decide +kernel
theorem d_33_0 : xcode 33 0 = some (.iload_n 2, 1) := by decide +kernel
theorem d_33_1 : xcode 33 1 = some (.ifCond .ne 11, 3) := by decide +kernel
theorem d_33_4 : xcode 33 4 = some (.aload_n 0, 1) := by decide +kernel
theorem d_33_5 : xcode 33 5 = some (.iload_n 1, 1) := by decide +kernel
theorem d_33_6 : xcode 33 6 = some (.invokevirtual 422, 3) := by decide +kernel
theorem d_33_9 : xcode 33 9 = some (.goto 21, 3) := by decide +kernel
theorem d_33_12 : xcode 33 12 = some (.iload_n 2, 1) := by decide +kernel
theorem d_33_13 : xcode 33 13 = some (.iconst 1, 1) := by decide +kernel
theorem d_33_14 : xcode 33 14 = some (.if_icmp .ne 11, 3) := by decide +kernel
theorem d_33_17 : xcode 33 17 = some (.aload_n 0, 1) := by decide +kernel
theorem d_33_18 : xcode 33 18 = some (.iload_n 1, 1) := by decide +kernel
theorem d_33_19 : xcode 33 19 = some (.invokevirtual 425, 3) := by decide +kernel
theorem d_33_22 : xcode 33 22 = some (.goto 8, 3) := by decide +kernel
theorem d_33_25 : xcode 33 25 = some (.aload_n 0, 1) := by decide +kernel
theorem d_33_26 : xcode 33 26 = some (.iload_n 1, 1) := by decide +kernel
theorem d_33_27 : xcode 33 27 = some (.invokevirtual 428, 3) := by decide +kernel
theorem d_33_30 : xcode 33 30 = some (.return_, 1) := by decide +kernel
theorem d_34_0 : xcode 34 0 = some (.iload_n 1, 1) := by decide +kernel
theorem d_34_1 : xcode 34 1 = some (.iconst 1, 1) := by decide +kernel
theorem d_34_2 : xcode 34 2 = some (.if_icmp .ge 9, 3) := by decide +kernel
theorem d_34_5 : xcode 34 5 = some (.aload_n 0, 1) := by decide +kernel
theorem d_34_6 : xcode 34 6 = some (.iload_n 1, 1) := by decide +kernel
theorem d_34_7 : xcode 34 7 = some (.invokevirtual 431, 3) := by decide +kernel
theorem d_34_10 : xcode 34 10 = some (.return_, 1) := by decide +kernel
theorem d_34_11 : xcode 34 11 = some (.aload_n 0, 1) := by decide +kernel
theorem d_34_12 : xcode 34 12 = some (.getfield 58, 3) := by decide +kernel
theorem d_34_15 : xcode 34 15 = some (.iload_n 1, 1) := by decide +kernel
theorem d_34_16 : xcode 34 16 = some (.iload_n 1, 1) := by decide +kernel
theorem d_34_17 : xcode 34 17 = some (.iconst 1, 1) := by decide +kernel
theorem d_34_18 : xcode 34 18 = some (.isub, 1) := by decide +kernel
theorem d_34_19 : xcode 34 19 = some (.invokevirtual 281, 3) := by decide +kernel
theorem d_34_22 : xcode 34 22 = some (.aload_n 0, 1) := by decide +kernel
theorem d_34_23 : xcode 34 23 = some (.getfield 21, 3) := by decide +kernel
theorem d_34_26 : xcode 34 26 = some (.aload_n 0, 1) := by decide +kernel
theorem d_34_27 : xcode 34 27 = some (.getfield 95, 3) := by decide +kernel
theorem d_34_30 : xcode 34 30 = some (.invokevirtual 214, 3) := by decide +kernel
theorem d_34_33 : xcode 34 33 = some (.aload_n 0, 1) := by decide +kernel
theorem d_34_34 : xcode 34 34 = some (.getfield 95, 3) := by decide +kernel
theorem d_34_37 : xcode 34 37 = some (.ldc2_w 387, 3) := by decide +kernel
theorem d_34_40 : xcode 34 40 = some (.invokevirtual 339, 3) := by decide +kernel
theorem d_34_43 : xcode 34 43 = some (.aload_n 0, 1) := by decide +kernel
theorem d_34_44 : xcode 34 44 = some (.getfield 95, 3) := by decide +kernel
theorem d_34_47 : xcode 34 47 = some (.iload_n 1, 1) := by decide +kernel
theorem d_34_48 : xcode 34 48 = some (.iconst 1, 1) := by decide +kernel
theorem d_34_49 : xcode 34 49 = some (.iadd, 1) := by decide +kernel
theorem d_34_50 : xcode 34 50 = some (.i2l, 1) := by decide +kernel
theorem d_34_51 : xcode 34 51 = some (.invokevirtual 342, 3) := by decide +kernel
theorem d_34_54 : xcode 34 54 = some (.return_, 1) := by decide +kernel
theorem d_35_0 : xcode 35 0 = some (.iload_n 1, 1) := by decide +kernel
theorem d_35_1 : xcode 35 1 = some (.ifCond .ne 16, 3) := by decide +kernel
theorem d_35_4 : xcode 35 4 = some (.aload_n 0, 1) := by decide +kernel
theorem d_35_5 : xcode 35 5 = some (.getfield 95, 3) := by decide +kernel
theorem d_35_8 : xcode 35 8 = some (.lconst 1, 1) := by decide +kernel
theorem d_35_9 : xcode 35 9 = some (.lconst 0, 1) := by decide +kernel
theorem d_35_10 : xcode 35 10 = some (.lconst 1, 1) := by decide +kernel
theorem d_35_11 : xcode 35 11 = some (.invokevirtual 327, 3) := by decide +kernel
theorem d_35_14 : xcode 35 14 = some (.goto 35, 3) := by decide +kernel
theorem d_35_17 : xcode 35 17 = some (.iload_n 1, 1) := by decide +kernel
theorem d_35_18 : xcode 35 18 = some (.iconst 1, 1) := by decide +kernel
theorem d_35_19 : xcode 35 19 = some (.if_icmp .ne 20, 3) := by decide +kernel
theorem d_35_22 : xcode 35 22 = some (.aload_n 0, 1) := by decide +kernel
theorem d_35_23 : xcode 35 23 = some (.getfield 95, 3) := by decide +kernel
theorem d_35_26 : xcode 35 26 = some (.lconst 0, 1) := by decide +kernel
theorem d_35_27 : xcode 35 27 = some (.ldc2_w 387, 3) := by decide +kernel
theorem d_35_30 : xcode 35 30 = some (.ldc2_w 389, 3) := by decide +kernel
theorem d_35_33 : xcode 35 33 = some (.invokevirtual 327, 3) := by decide +kernel
theorem d_35_36 : xcode 35 36 = some (.goto 13, 3) := by decide +kernel
theorem d_35_39 : xcode 35 39 = some (.aload_n 0, 1) := by decide +kernel
theorem d_35_40 : xcode 35 40 = some (.getfield 95, 3) := by decide +kernel
theorem d_35_43 : xcode 35 43 = some (.lconst 0, 1) := by decide +kernel
theorem d_35_44 : xcode 35 44 = some (.lconst 0, 1) := by decide +kernel
theorem d_35_45 : xcode 35 45 = some (.lconst 1, 1) := by decide +kernel
theorem d_35_46 : xcode 35 46 = some (.invokevirtual 327, 3) := by decide +kernel
theorem d_35_49 : xcode 35 49 = some (.return_, 1) := by decide +kernel
theorem d_36_0 : xcode 36 0 = some (.aload_n 0, 1) := by decide +kernel
theorem d_36_1 : xcode 36 1 = some (.getfield 19, 3) := by decide +kernel
theorem d_36_4 : xcode 36 4 = some (.ldc2_w 48, 3) := by decide +kernel
theorem d_36_7 : xcode 36 7 = some (.invokevirtual 50, 3) := by decide +kernel
theorem d_36_10 : xcode 36 10 = some (.iconst 0, 1) := by decide +kernel
theorem d_36_11 : xcode 36 11 = some (.istore_n 3, 1) := by decide +kernel
theorem d_36_12 : xcode 36 12 = some (.iload_n 3, 1) := by decide +kernel
theorem d_36_13 : xcode 36 13 = some (.iload_n 2, 1) := by decide +kernel
theorem d_36_14 : xcode 36 14 = some (.if_icmp .gt 25, 3) := by decide +kernel
theorem d_36_17 : xcode 36 17 = some (.aload_n 0, 1) := by decide +kernel
theorem d_36_18 : xcode 36 18 = some (.aload_n 0, 1) := by decide +kernel
theorem d_36_19 : xcode 36 19 = some (.getfield 15, 3) := by decide +kernel
theorem d_36_22 : xcode 36 22 = some (.iload_n 1, 1) := by decide +kernel
theorem d_36_23 : xcode 36 23 = some (.iconst 1, 1) := by decide +kernel
theorem d_36_24 : xcode 36 24 = some (.iadd, 1) := by decide +kernel
theorem d_36_25 : xcode 36 25 = some (.iload_n 3, 1) := by decide +kernel
theorem d_36_26 : xcode 36 26 = some (.invokevirtual 56, 3) := by decide +kernel
theorem d_36_29 : xcode 36 29 = some (.iload_n 3, 1) := by decide +kernel
theorem d_36_30 : xcode 36 30 = some (.invokevirtual 62, 3) := by decide +kernel
theorem d_36_33 : xcode 36 33 = some (.iinc 3 1, 3) := by decide +kernel
theorem d_36_36 : xcode 36 36 = some (.goto (-24), 3) := by decide +kernel
theorem d_36_39 : xcode 36 39 = some (.return_, 1) := by decide +kernel
theorem d_37_0 : xcode 37 0 = some (.aload_n 0, 1) := by decide +kernel
theorem d_37_1 : xcode 37 1 = some (.lload_n 1, 1) := by decide +kernel
theorem d_37_2 : xcode 37 2 = some (.lconst 1, 1) := by decide +kernel
theorem d_37_3 : xcode 37 3 = some (.invokestatic 13, 3) := by decide +kernel
theorem d_37_6 : xcode 37 6 = some (.putfield 7, 3) := by decide +kernel
theorem d_37_9 : xcode 37 9 = some (.aload_n 0, 1) := by decide +kernel
theorem d_37_10 : xcode 37 10 = some (.lconst 0, 1) := by decide +kernel
theorem d_37_11 : xcode 37 11 = some (.putfield 19, 3) := by decide +kernel
theorem d_37_14 : xcode 37 14 = some (.aload_n 0, 1) := by decide +kernel
theorem d_37_15 : xcode 37 15 = some (.lconst 0, 1) := by decide +kernel
theorem d_37_16 : xcode 37 16 = some (.putfield 22, 3) := by decide +kernel
theorem d_37_19 : xcode 37 19 = some (.return_, 1) := by decide +kernel
theorem d_38_0 : xcode 38 0 = some (.lload_n 0, 1) := by decide +kernel
theorem d_38_1 : xcode 38 1 = some (.lload_n 2, 1) := by decide +kernel
theorem d_38_2 : xcode 38 2 = some (.lcmp, 1) := by decide +kernel
theorem d_38_3 : xcode 38 3 = some (.ifCond .lt 7, 3) := by decide +kernel
theorem d_38_6 : xcode 38 6 = some (.lload_n 0, 1) := by decide +kernel
theorem d_38_7 : xcode 38 7 = some (.goto 4, 3) := by decide +kernel
theorem d_38_10 : xcode 38 10 = some (.lload_n 2, 1) := by decide +kernel
theorem d_38_11 : xcode 38 11 = some (.lreturn, 1) := by decide +kernel
theorem d_39_0 : xcode 39 0 = some (.iload_n 1, 1) := by decide +kernel
theorem d_39_1 : xcode 39 1 = some (.ifCond .lt 33, 3) := by decide +kernel
theorem d_39_4 : xcode 39 4 = some (.iload_n 1, 1) := by decide +kernel
theorem d_39_5 : xcode 39 5 = some (.bipush 42, 2) := by decide +kernel
theorem d_39_7 : xcode 39 7 = some (.if_icmp .ge 27, 3) := by decide +kernel
theorem d_39_10 : xcode 39 10 = some (.iload_n 2, 1) := by decide +kernel
theorem d_39_11 : xcode 39 11 = some (.ifCond .lt 23, 3) := by decide +kernel
theorem d_39_14 : xcode 39 14 = some (.iload_n 2, 1) := by decide +kernel
theorem d_39_15 : xcode 39 15 = some (.bipush 42, 2) := by decide +kernel
theorem d_39_17 : xcode 39 17 = some (.if_icmp .ge 17, 3) := by decide +kernel
theorem d_39_20 : xcode 39 20 = some (.aload_n 0, 1) := by decide +kernel
theorem d_39_21 : xcode 39 21 = some (.getfield 11, 3) := by decide +kernel
theorem d_39_24 : xcode 39 24 = some (.iload_n 1, 1) := by decide +kernel
theorem d_39_25 : xcode 39 25 = some (.bipush 42, 2) := by decide +kernel
theorem d_39_27 : xcode 39 27 = some (.imul, 1) := by decide +kernel
theorem d_39_28 : xcode 39 28 = some (.iload_n 2, 1) := by decide +kernel
theorem d_39_29 : xcode 39 29 = some (.iadd, 1) := by decide +kernel
theorem d_39_30 : xcode 39 30 = some (.laload, 1) := by decide +kernel
theorem d_39_31 : xcode 39 31 = some (.goto 4, 3) := by decide +kernel
theorem d_39_34 : xcode 39 34 = some (.lconst 0, 1) := by decide +kernel
theorem d_39_35 : xcode 39 35 = some (.lreturn, 1) := by decide +kernel
theorem d_40_0 : xcode 40 0 = some (.aload_n 0, 1) := by decide +kernel
theorem d_40_1 : xcode 40 1 = some (.getfield 19, 3) := by decide +kernel
theorem d_40_4 : xcode 40 4 = some (.lload_n 1, 1) := by decide +kernel
theorem d_40_5 : xcode 40 5 = some (.aload_n 0, 1) := by decide +kernel
theorem d_40_6 : xcode 40 6 = some (.getfield 9, 3) := by decide +kernel
theorem d_40_9 : xcode 40 9 = some (.iload_n 3, 1) := by decide +kernel
theorem d_40_10 : xcode 40 10 = some (.invokevirtual 91, 3) := by decide +kernel
theorem d_40_13 : xcode 40 13 = some (.aload_n 0, 1) := by decide +kernel
theorem d_40_14 : xcode 40 14 = some (.getfield 9, 3) := by decide +kernel
theorem d_40_17 : xcode 40 17 = some (.iload_n 3, 1) := by decide +kernel
theorem d_40_18 : xcode 40 18 = some (.invokevirtual 94, 3) := by decide +kernel
theorem d_40_21 : xcode 40 21 = some (.aload_n 0, 1) := by decide +kernel
theorem d_40_22 : xcode 40 22 = some (.getfield 9, 3) := by decide +kernel
theorem d_40_25 : xcode 40 25 = some (.iload_n 3, 1) := by decide +kernel
theorem d_40_26 : xcode 40 26 = some (.invokevirtual 87, 3) := by decide +kernel
theorem d_40_29 : xcode 40 29 = some (.invokevirtual 100, 3) := by decide +kernel
theorem d_40_32 : xcode 40 32 = some (.return_, 1) := by decide +kernel
theorem d_41_0 : xcode 41 0 = some (.lload 7, 2) := by decide +kernel
theorem d_41_2 : xcode 41 2 = some (.lconst 0, 1) := by decide +kernel
theorem d_41_3 : xcode 41 3 = some (.lcmp, 1) := by decide +kernel
theorem d_41_4 : xcode 41 4 = some (.ifCond .gt 4, 3) := by decide +kernel
theorem d_41_7 : xcode 41 7 = some (.return_, 1) := by decide +kernel
theorem d_41_8 : xcode 41 8 = some (.lload_n 1, 1) := by decide +kernel
theorem d_41_9 : xcode 41 9 = some (.lload 5, 2) := by decide +kernel
theorem d_41_11 : xcode 41 11 = some (.lmul, 1) := by decide +kernel
theorem d_41_12 : xcode 41 12 = some (.lstore 9, 2) := by decide +kernel
theorem d_41_14 : xcode 41 14 = some (.aload_n 0, 1) := by decide +kernel
theorem d_41_15 : xcode 41 15 = some (.dup, 1) := by decide +kernel
theorem d_41_16 : xcode 41 16 = some (.getfield 19, 3) := by decide +kernel
theorem d_41_19 : xcode 41 19 = some (.lload_n 1, 1) := by decide +kernel
theorem d_41_20 : xcode 41 20 = some (.lload_n 3, 1) := by decide +kernel
theorem d_41_21 : xcode 41 21 = some (.lmul, 1) := by decide +kernel
theorem d_41_22 : xcode 41 22 = some (.lload 9, 2) := by decide +kernel
theorem d_41_24 : xcode 41 24 = some (.lload 7, 2) := by decide +kernel
theorem d_41_26 : xcode 41 26 = some (.invokestatic 25, 3) := by decide +kernel
theorem d_41_29 : xcode 41 29 = some (.ladd, 1) := by decide +kernel
theorem d_41_30 : xcode 41 30 = some (.ladd, 1) := by decide +kernel
theorem d_41_31 : xcode 41 31 = some (.putfield 19, 3) := by decide +kernel
theorem d_41_34 : xcode 41 34 = some (.aload_n 0, 1) := by decide +kernel
theorem d_41_35 : xcode 41 35 = some (.dup, 1) := by decide +kernel
theorem d_41_36 : xcode 41 36 = some (.getfield 22, 3) := by decide +kernel
theorem d_41_39 : xcode 41 39 = some (.lload 9, 2) := by decide +kernel
theorem d_41_41 : xcode 41 41 = some (.lload 7, 2) := by decide +kernel
theorem d_41_43 : xcode 41 43 = some (.invokestatic 28, 3) := by decide +kernel
theorem d_41_46 : xcode 41 46 = some (.aload_n 0, 1) := by decide +kernel
theorem d_41_47 : xcode 41 47 = some (.getfield 7, 3) := by decide +kernel
theorem d_41_50 : xcode 41 50 = some (.lload 7, 2) := by decide +kernel
theorem d_41_52 : xcode 41 52 = some (.ldiv, 1) := by decide +kernel
theorem d_41_53 : xcode 41 53 = some (.lmul, 1) := by decide +kernel
theorem d_41_54 : xcode 41 54 = some (.ladd, 1) := by decide +kernel
theorem d_41_55 : xcode 41 55 = some (.putfield 22, 3) := by decide +kernel
theorem d_41_58 : xcode 41 58 = some (.aload_n 0, 1) := by decide +kernel
theorem d_41_59 : xcode 41 59 = some (.getfield 22, 3) := by decide +kernel
theorem d_41_62 : xcode 41 62 = some (.aload_n 0, 1) := by decide +kernel
theorem d_41_63 : xcode 41 63 = some (.getfield 7, 3) := by decide +kernel
theorem d_41_66 : xcode 41 66 = some (.lcmp, 1) := by decide +kernel
theorem d_41_67 : xcode 41 67 = some (.ifCond .lt 26, 3) := by decide +kernel
theorem d_41_70 : xcode 41 70 = some (.aload_n 0, 1) := by decide +kernel
theorem d_41_71 : xcode 41 71 = some (.dup, 1) := by decide +kernel
theorem d_41_72 : xcode 41 72 = some (.getfield 22, 3) := by decide +kernel
theorem d_41_75 : xcode 41 75 = some (.aload_n 0, 1) := by decide +kernel
theorem d_41_76 : xcode 41 76 = some (.getfield 7, 3) := by decide +kernel
theorem d_41_79 : xcode 41 79 = some (.lsub, 1) := by decide +kernel
theorem d_41_80 : xcode 41 80 = some (.putfield 22, 3) := by decide +kernel
theorem d_41_83 : xcode 41 83 = some (.aload_n 0, 1) := by decide +kernel
theorem d_41_84 : xcode 41 84 = some (.dup, 1) := by decide +kernel
theorem d_41_85 : xcode 41 85 = some (.getfield 19, 3) := by decide +kernel
theorem d_41_88 : xcode 41 88 = some (.lconst 1, 1) := by decide +kernel
theorem d_41_89 : xcode 41 89 = some (.ladd, 1) := by decide +kernel
theorem d_41_90 : xcode 41 90 = some (.putfield 19, 3) := by decide +kernel
theorem d_41_93 : xcode 41 93 = some (.return_, 1) := by decide +kernel
theorem d_42_0 : xcode 42 0 = some (.aload_n 1, 1) := by decide +kernel
theorem d_42_1 : xcode 42 1 = some (.aload_n 0, 1) := by decide +kernel
theorem d_42_2 : xcode 42 2 = some (.getfield 19, 3) := by decide +kernel
theorem d_42_5 : xcode 42 5 = some (.aload_n 0, 1) := by decide +kernel
theorem d_42_6 : xcode 42 6 = some (.getfield 22, 3) := by decide +kernel
theorem d_42_9 : xcode 42 9 = some (.aload_n 0, 1) := by decide +kernel
theorem d_42_10 : xcode 42 10 = some (.getfield 7, 3) := by decide +kernel
theorem d_42_13 : xcode 42 13 = some (.invokevirtual 31, 3) := by decide +kernel
theorem d_42_16 : xcode 42 16 = some (.return_, 1) := by decide +kernel
theorem d_43_0 : xcode 43 0 = some (.aload_n 0, 1) := by decide +kernel
theorem d_43_1 : xcode 43 1 = some (.lload_n 1, 1) := by decide +kernel
theorem d_43_2 : xcode 43 2 = some (.aload_n 0, 1) := by decide +kernel
theorem d_43_3 : xcode 43 3 = some (.getfield 25, 3) := by decide +kernel
theorem d_43_6 : xcode 43 6 = some (.lmul, 1) := by decide +kernel
theorem d_43_7 : xcode 43 7 = some (.lload_n 1, 1) := by decide +kernel
theorem d_43_8 : xcode 43 8 = some (.aload_n 0, 1) := by decide +kernel
theorem d_43_9 : xcode 43 9 = some (.getfield 28, 3) := by decide +kernel
theorem d_43_12 : xcode 43 12 = some (.lmul, 1) := by decide +kernel
theorem d_43_13 : xcode 43 13 = some (.aload_n 0, 1) := by decide +kernel
theorem d_43_14 : xcode 43 14 = some (.getfield 7, 3) := by decide +kernel
theorem d_43_17 : xcode 43 17 = some (.invokevirtual 31, 3) := by decide +kernel
theorem d_43_20 : xcode 43 20 = some (.return_, 1) := by decide +kernel
theorem d_44_0 : xcode 44 0 = some (.lload_n 1, 1) := by decide +kernel
theorem d_44_1 : xcode 44 1 = some (.lconst 0, 1) := by decide +kernel
theorem d_44_2 : xcode 44 2 = some (.lcmp, 1) := by decide +kernel
theorem d_44_3 : xcode 44 3 = some (.ifCond .le 41, 3) := by decide +kernel
theorem d_44_6 : xcode 44 6 = some (.aload_n 0, 1) := by decide +kernel
theorem d_44_7 : xcode 44 7 = some (.getfield 25, 3) := by decide +kernel
theorem d_44_10 : xcode 44 10 = some (.lload_n 1, 1) := by decide +kernel
theorem d_44_11 : xcode 44 11 = some (.invokestatic 13, 3) := by decide +kernel
theorem d_44_14 : xcode 44 14 = some (.lstore_n 3, 1) := by decide +kernel
theorem d_44_15 : xcode 44 15 = some (.aload_n 0, 1) := by decide +kernel
theorem d_44_16 : xcode 44 16 = some (.aload_n 0, 1) := by decide +kernel
theorem d_44_17 : xcode 44 17 = some (.getfield 25, 3) := by decide +kernel
theorem d_44_20 : xcode 44 20 = some (.lload_n 1, 1) := by decide +kernel
theorem d_44_21 : xcode 44 21 = some (.invokestatic 22, 3) := by decide +kernel
theorem d_44_24 : xcode 44 24 = some (.lload_n 3, 1) := by decide +kernel
theorem d_44_25 : xcode 44 25 = some (.aload_n 0, 1) := by decide +kernel
theorem d_44_26 : xcode 44 26 = some (.getfield 7, 3) := by decide +kernel
theorem d_44_29 : xcode 44 29 = some (.lmul, 1) := by decide +kernel
theorem d_44_30 : xcode 44 30 = some (.aload_n 0, 1) := by decide +kernel
theorem d_44_31 : xcode 44 31 = some (.getfield 28, 3) := by decide +kernel
theorem d_44_34 : xcode 44 34 = some (.ladd, 1) := by decide +kernel
theorem d_44_35 : xcode 44 35 = some (.aload_n 0, 1) := by decide +kernel
theorem d_44_36 : xcode 44 36 = some (.getfield 7, 3) := by decide +kernel
theorem d_44_39 : xcode 44 39 = some (.lload_n 1, 1) := by decide +kernel
theorem d_44_40 : xcode 44 40 = some (.lmul, 1) := by decide +kernel
theorem d_44_41 : xcode 44 41 = some (.invokevirtual 31, 3) := by decide +kernel
theorem d_44_44 : xcode 44 44 = some (.return_, 1) := by decide +kernel
theorem d_45_0 : xcode 45 0 = some (.aload_n 0, 1) := by decide +kernel
theorem d_45_1 : xcode 45 1 = some (.getfield 28, 3) := by decide +kernel
theorem d_45_4 : xcode 45 4 = some (.iload_n 1, 1) := by decide +kernel
theorem d_45_5 : xcode 45 5 = some (.invokevirtual 106, 3) := by decide +kernel
theorem d_45_8 : xcode 45 8 = some (.iconst 0, 1) := by decide +kernel
theorem d_45_9 : xcode 45 9 = some (.istore_n 2, 1) := by decide +kernel
theorem d_45_10 : xcode 45 10 = some (.iload_n 2, 1) := by decide +kernel
theorem d_45_11 : xcode 45 11 = some (.iload_n 1, 1) := by decide +kernel
theorem d_45_12 : xcode 45 12 = some (.if_icmp .ge 16, 3) := by decide +kernel
theorem d_45_15 : xcode 45 15 = some (.aload_n 0, 1) := by decide +kernel
theorem d_45_16 : xcode 45 16 = some (.getfield 28, 3) := by decide +kernel
theorem d_45_19 : xcode 45 19 = some (.invokevirtual 117, 3) := by decide +kernel
theorem d_45_22 : xcode 45 22 = some (.iinc 2 1, 3) := by decide +kernel
theorem d_45_25 : xcode 45 25 = some (.goto (-15), 3) := by decide +kernel
theorem d_45_28 : xcode 45 28 = some (.aload_n 0, 1) := by decide +kernel
theorem d_45_29 : xcode 45 29 = some (.getfield 28, 3) := by decide +kernel
theorem d_45_32 : xcode 45 32 = some (.iload_n 1, 1) := by decide +kernel
theorem d_45_33 : xcode 45 33 = some (.aload_n 0, 1) := by decide +kernel
theorem d_45_34 : xcode 45 34 = some (.getfield 95, 3) := by decide +kernel
theorem d_45_37 : xcode 45 37 = some (.invokevirtual 110, 3) := by decide +kernel
theorem d_45_40 : xcode 45 40 = some (.return_, 1) := by decide +kernel
theorem d_46_0 : xcode 46 0 = some (.iload_n 1, 1) := by decide +kernel
theorem d_46_1 : xcode 46 1 = some (.invokestatic 190, 3) := by decide +kernel
theorem d_46_4 : xcode 46 4 = some (.ifCond .ne 9, 3) := by decide +kernel
theorem d_46_7 : xcode 46 7 = some (.aload_n 0, 1) := by decide +kernel
theorem d_46_8 : xcode 46 8 = some (.iload_n 1, 1) := by decide +kernel
theorem d_46_9 : xcode 46 9 = some (.invokevirtual 431, 3) := by decide +kernel
theorem d_46_12 : xcode 46 12 = some (.return_, 1) := by decide +kernel
theorem d_46_13 : xcode 46 13 = some (.aload_n 0, 1) := by decide +kernel
theorem d_46_14 : xcode 46 14 = some (.getfield 21, 3) := by decide +kernel
theorem d_46_17 : xcode 46 17 = some (.ldc2_w 193, 3) := by decide +kernel
theorem d_46_20 : xcode 46 20 = some (.invokevirtual 195, 3) := by decide +kernel
theorem d_46_23 : xcode 46 23 = some (.aload_n 0, 1) := by decide +kernel
theorem d_46_24 : xcode 46 24 = some (.getfield 21, 3) := by decide +kernel
theorem d_46_27 : xcode 46 27 = some (.lconst 1, 1) := by decide +kernel
theorem d_46_28 : xcode 46 28 = some (.aload_n 0, 1) := by decide +kernel
theorem d_46_29 : xcode 46 29 = some (.iload_n 1, 1) := by decide +kernel
theorem d_46_30 : xcode 46 30 = some (.invokevirtual 434, 3) := by decide +kernel
theorem d_46_33 : xcode 46 33 = some (.lconst 0, 1) := by decide +kernel
theorem d_46_34 : xcode 46 34 = some (.lconst 1, 1) := by decide +kernel
theorem d_46_35 : xcode 46 35 = some (.invokevirtual 207, 3) := by decide +kernel
theorem d_46_38 : xcode 46 38 = some (.aload_n 0, 1) := by decide +kernel
theorem d_46_39 : xcode 46 39 = some (.iload_n 1, 1) := by decide +kernel
theorem d_46_40 : xcode 46 40 = some (.iconst (-1), 1) := by decide +kernel
theorem d_46_41 : xcode 46 41 = some (.invokevirtual 211, 3) := by decide +kernel
theorem d_46_44 : xcode 46 44 = some (.aload_n 0, 1) := by decide +kernel
theorem d_46_45 : xcode 46 45 = some (.getfield 21, 3) := by decide +kernel
theorem d_46_48 : xcode 46 48 = some (.aload_n 0, 1) := by decide +kernel
theorem d_46_49 : xcode 46 49 = some (.getfield 95, 3) := by decide +kernel
theorem d_46_52 : xcode 46 52 = some (.invokevirtual 214, 3) := by decide +kernel
theorem d_46_55 : xcode 46 55 = some (.return_, 1) := by decide +kernel
theorem d_47_0 : xcode 47 0 = some (.iload_n 0, 1) := by decide +kernel
theorem d_47_1 : xcode 47 1 = some (.iconst 2, 1) := by decide +kernel
theorem d_47_2 : xcode 47 2 = some (.if_icmp .lt 13, 3) := by decide +kernel
theorem d_47_5 : xcode 47 5 = some (.iload_n 0, 1) := by decide +kernel
theorem d_47_6 : xcode 47 6 = some (.iconst 2, 1) := by decide +kernel
theorem d_47_7 : xcode 47 7 = some (.irem, 1) := by decide +kernel
theorem d_47_8 : xcode 47 8 = some (.ifCond .ne 7, 3) := by decide +kernel
theorem d_47_11 : xcode 47 11 = some (.iconst 1, 1) := by decide +kernel
theorem d_47_12 : xcode 47 12 = some (.goto 4, 3) := by decide +kernel
theorem d_47_15 : xcode 47 15 = some (.iconst 0, 1) := by decide +kernel
theorem d_47_16 : xcode 47 16 = some (.ireturn, 1) := by decide +kernel
theorem d_48_0 : xcode 48 0 = some (.lconst 0, 1) := by decide +kernel
theorem d_48_1 : xcode 48 1 = some (.lstore_n 2, 1) := by decide +kernel
theorem d_48_2 : xcode 48 2 = some (.lconst 1, 1) := by decide +kernel
theorem d_48_3 : xcode 48 3 = some (.lstore 4, 2) := by decide +kernel
theorem d_48_5 : xcode 48 5 = some (.bipush 12, 2) := by decide +kernel
theorem d_48_7 : xcode 48 7 = some (.istore 6, 2) := by decide +kernel
theorem d_48_9 : xcode 48 9 = some (.iload 6, 2) := by decide +kernel
theorem d_48_11 : xcode 48 11 = some (.bipush 21, 2) := by decide +kernel
theorem d_48_13 : xcode 48 13 = some (.if_icmp .ge 93, 3) := by decide +kernel
theorem d_48_16 : xcode 48 16 = some (.iload 6, 2) := by decide +kernel
theorem d_48_18 : xcode 48 18 = some (.getstatic 184, 3) := by decide +kernel
theorem d_48_21 : xcode 48 21 = some (.arraylength, 1) := by decide +kernel
theorem d_48_22 : xcode 48 22 = some (.if_icmp .ge 84, 3) := by decide +kernel
theorem d_48_25 : xcode 48 25 = some (.getstatic 184, 3) := by decide +kernel
theorem d_48_28 : xcode 48 28 = some (.iload 6, 2) := by decide +kernel
theorem d_48_30 : xcode 48 30 = some (.iaload, 1) := by decide +kernel
theorem d_48_31 : xcode 48 31 = some (.istore 7, 2) := by decide +kernel
theorem d_48_33 : xcode 48 33 = some (.iload_n 1, 1) := by decide +kernel
theorem d_48_34 : xcode 48 34 = some (.iload 7, 2) := by decide +kernel
theorem d_48_36 : xcode 48 36 = some (.iload 7, 2) := by decide +kernel
theorem d_48_38 : xcode 48 38 = some (.i2l, 1) := by decide +kernel
theorem d_48_39 : xcode 48 39 = some (.iload 7, 2) := by decide +kernel
theorem d_48_41 : xcode 48 41 = some (.i2l, 1) := by decide +kernel
theorem d_48_42 : xcode 48 42 = some (.lmul, 1) := by decide +kernel
theorem d_48_43 : xcode 48 43 = some (.invokestatic 437, 3) := by decide +kernel
theorem d_48_46 : xcode 48 46 = some (.iload 7, 2) := by decide +kernel
theorem d_48_48 : xcode 48 48 = some (.i2l, 1) := by decide +kernel
theorem d_48_49 : xcode 48 49 = some (.ldiv, 1) := by decide +kernel
theorem d_48_50 : xcode 48 50 = some (.iload_n 1, 1) := by decide +kernel
theorem d_48_51 : xcode 48 51 = some (.iload 7, 2) := by decide +kernel
theorem d_48_53 : xcode 48 53 = some (.invokestatic 441, 3) := by decide +kernel
theorem d_48_56 : xcode 48 56 = some (.ladd, 1) := by decide +kernel
theorem d_48_57 : xcode 48 57 = some (.lstore 8, 2) := by decide +kernel
theorem d_48_59 : xcode 48 59 = some (.lload 8, 2) := by decide +kernel
theorem d_48_61 : xcode 48 61 = some (.lload_n 2, 1) := by decide +kernel
theorem d_48_62 : xcode 48 62 = some (.lsub, 1) := by decide +kernel
theorem d_48_63 : xcode 48 63 = some (.iload 7, 2) := by decide +kernel
theorem d_48_65 : xcode 48 65 = some (.i2l, 1) := by decide +kernel
theorem d_48_66 : xcode 48 66 = some (.invokestatic 306, 3) := by decide +kernel
theorem d_48_69 : xcode 48 69 = some (.lstore 10, 2) := by decide +kernel
theorem d_48_71 : xcode 48 71 = some (.lload_n 2, 1) := by decide +kernel
theorem d_48_72 : xcode 48 72 = some (.lload 4, 2) := by decide +kernel
theorem d_48_74 : xcode 48 74 = some (.lload 10, 2) := by decide +kernel
theorem d_48_76 : xcode 48 76 = some (.lload 4, 2) := by decide +kernel
theorem d_48_78 : xcode 48 78 = some (.iload 7, 2) := by decide +kernel
theorem d_48_80 : xcode 48 80 = some (.i2l, 1) := by decide +kernel
theorem d_48_81 : xcode 48 81 = some (.invokestatic 316, 3) := by decide +kernel
theorem d_48_84 : xcode 48 84 = some (.lmul, 1) := by decide +kernel
theorem d_48_85 : xcode 48 85 = some (.iload 7, 2) := by decide +kernel
theorem d_48_87 : xcode 48 87 = some (.i2l, 1) := by decide +kernel
theorem d_48_88 : xcode 48 88 = some (.lrem, 1) := by decide +kernel
theorem d_48_89 : xcode 48 89 = some (.lmul, 1) := by decide +kernel
theorem d_48_90 : xcode 48 90 = some (.ladd, 1) := by decide +kernel
theorem d_48_91 : xcode 48 91 = some (.lstore_n 2, 1) := by decide +kernel
theorem d_48_92 : xcode 48 92 = some (.lload 4, 2) := by decide +kernel
theorem d_48_94 : xcode 48 94 = some (.iload 7, 2) := by decide +kernel
theorem d_48_96 : xcode 48 96 = some (.i2l, 1) := by decide +kernel
theorem d_48_97 : xcode 48 97 = some (.lmul, 1) := by decide +kernel
theorem d_48_98 : xcode 48 98 = some (.lstore 4, 2) := by decide +kernel
theorem d_48_100 : xcode 48 100 = some (.iinc 6 1, 3) := by decide +kernel
theorem d_48_103 : xcode 48 103 = some (.goto (-94), 3) := by decide +kernel
theorem d_48_106 : xcode 48 106 = some (.lload_n 2, 1) := by decide +kernel
theorem d_48_107 : xcode 48 107 = some (.lload 4, 2) := by decide +kernel
theorem d_48_109 : xcode 48 109 = some (.ldc2_w 389, 3) := by decide +kernel
theorem d_48_112 : xcode 48 112 = some (.ldiv, 1) := by decide +kernel
theorem d_48_113 : xcode 48 113 = some (.lcmp, 1) := by decide +kernel
theorem d_48_114 : xcode 48 114 = some (.ifCond .le 10, 3) := by decide +kernel
theorem d_48_117 : xcode 48 117 = some (.lload_n 2, 1) := by decide +kernel
theorem d_48_118 : xcode 48 118 = some (.lload 4, 2) := by decide +kernel
theorem d_48_120 : xcode 48 120 = some (.lsub, 1) := by decide +kernel
theorem d_48_121 : xcode 48 121 = some (.goto 4, 3) := by decide +kernel
theorem d_48_124 : xcode 48 124 = some (.lload_n 2, 1) := by decide +kernel
theorem d_48_125 : xcode 48 125 = some (.lreturn, 1) := by decide +kernel
theorem d_49_0 : xcode 49 0 = some (.lload_n 2, 1) := by decide +kernel
theorem d_49_1 : xcode 49 1 = some (.lconst 0, 1) := by decide +kernel
theorem d_49_2 : xcode 49 2 = some (.lcmp, 1) := by decide +kernel
theorem d_49_3 : xcode 49 3 = some (.ifCond .gt 5, 3) := by decide +kernel
theorem d_49_6 : xcode 49 6 = some (.lconst 0, 1) := by decide +kernel
theorem d_49_7 : xcode 49 7 = some (.lreturn, 1) := by decide +kernel
theorem d_49_8 : xcode 49 8 = some (.lconst 0, 1) := by decide +kernel
theorem d_49_9 : xcode 49 9 = some (.lstore 4, 2) := by decide +kernel
theorem d_49_11 : xcode 49 11 = some (.iconst 1, 1) := by decide +kernel
theorem d_49_12 : xcode 49 12 = some (.istore 6, 2) := by decide +kernel
theorem d_49_14 : xcode 49 14 = some (.iload 6, 2) := by decide +kernel
theorem d_49_16 : xcode 49 16 = some (.iload_n 1, 1) := by decide +kernel
theorem d_49_17 : xcode 49 17 = some (.if_icmp .ge 22, 3) := by decide +kernel
theorem d_49_20 : xcode 49 20 = some (.lload 4, 2) := by decide +kernel
theorem d_49_22 : xcode 49 22 = some (.iload 6, 2) := by decide +kernel
theorem d_49_24 : xcode 49 24 = some (.i2l, 1) := by decide +kernel
theorem d_49_25 : xcode 49 25 = some (.iload_n 0, 1) := by decide +kernel
theorem d_49_26 : xcode 49 26 = some (.lload_n 2, 1) := by decide +kernel
theorem d_49_27 : xcode 49 27 = some (.invokestatic 13, 3) := by decide +kernel
theorem d_49_30 : xcode 49 30 = some (.ladd, 1) := by decide +kernel
theorem d_49_31 : xcode 49 31 = some (.lstore 4, 2) := by decide +kernel
theorem d_49_33 : xcode 49 33 = some (.iinc 6 1, 3) := by decide +kernel
theorem d_49_36 : xcode 49 36 = some (.goto (-22), 3) := by decide +kernel
theorem d_49_39 : xcode 49 39 = some (.lload 4, 2) := by decide +kernel
theorem d_49_41 : xcode 49 41 = some (.lload_n 2, 1) := by decide +kernel
theorem d_49_42 : xcode 49 42 = some (.lrem, 1) := by decide +kernel
theorem d_49_43 : xcode 49 43 = some (.lreturn, 1) := by decide +kernel
theorem d_50_0 : xcode 50 0 = some (.lload_n 3, 1) := by decide +kernel
theorem d_50_1 : xcode 50 1 = some (.lconst 0, 1) := by decide +kernel
theorem d_50_2 : xcode 50 2 = some (.lcmp, 1) := by decide +kernel
theorem d_50_3 : xcode 50 3 = some (.ifCond .gt 5, 3) := by decide +kernel
theorem d_50_6 : xcode 50 6 = some (.lconst 0, 1) := by decide +kernel
theorem d_50_7 : xcode 50 7 = some (.lreturn, 1) := by decide +kernel
theorem d_50_8 : xcode 50 8 = some (.lconst 1, 1) := by decide +kernel
theorem d_50_9 : xcode 50 9 = some (.lload_n 3, 1) := by decide +kernel
theorem d_50_10 : xcode 50 10 = some (.lrem, 1) := by decide +kernel
theorem d_50_11 : xcode 50 11 = some (.lstore 5, 2) := by decide +kernel
theorem d_50_13 : xcode 50 13 = some (.lload_n 0, 1) := by decide +kernel
theorem d_50_14 : xcode 50 14 = some (.lload_n 3, 1) := by decide +kernel
theorem d_50_15 : xcode 50 15 = some (.invokestatic 7, 3) := by decide +kernel
theorem d_50_18 : xcode 50 18 = some (.lstore 7, 2) := by decide +kernel
theorem d_50_20 : xcode 50 20 = some (.iconst 0, 1) := by decide +kernel
theorem d_50_21 : xcode 50 21 = some (.istore 9, 2) := by decide +kernel
theorem d_50_23 : xcode 50 23 = some (.iload 9, 2) := by decide +kernel
theorem d_50_25 : xcode 50 25 = some (.bipush 31, 2) := by decide +kernel
theorem d_50_27 : xcode 50 27 = some (.if_icmp .ge 44, 3) := by decide +kernel
theorem d_50_30 : xcode 50 30 = some (.iload_n 2, 1) := by decide +kernel
theorem d_50_31 : xcode 50 31 = some (.iload 9, 2) := by decide +kernel
theorem d_50_33 : xcode 50 33 = some (.ishr, 1) := by decide +kernel
theorem d_50_34 : xcode 50 34 = some (.ifCond .le 37, 3) := by decide +kernel
theorem d_50_37 : xcode 50 37 = some (.iload_n 2, 1) := by decide +kernel
theorem d_50_38 : xcode 50 38 = some (.iload 9, 2) := by decide +kernel
theorem d_50_40 : xcode 50 40 = some (.ishr, 1) := by decide +kernel
theorem d_50_41 : xcode 50 41 = some (.iconst 1, 1) := by decide +kernel
theorem d_50_42 : xcode 50 42 = some (.iand, 1) := by decide +kernel
theorem d_50_43 : xcode 50 43 = some (.iconst 1, 1) := by decide +kernel
theorem d_50_44 : xcode 50 44 = some (.if_icmp .ne 12, 3) := by decide +kernel
theorem d_50_47 : xcode 50 47 = some (.lload 5, 2) := by decide +kernel
theorem d_50_49 : xcode 50 49 = some (.lload 7, 2) := by decide +kernel
theorem d_50_51 : xcode 50 51 = some (.lmul, 1) := by decide +kernel
theorem d_50_52 : xcode 50 52 = some (.lload_n 3, 1) := by decide +kernel
theorem d_50_53 : xcode 50 53 = some (.lrem, 1) := by decide +kernel
theorem d_50_54 : xcode 50 54 = some (.lstore 5, 2) := by decide +kernel
theorem d_50_56 : xcode 50 56 = some (.lload 7, 2) := by decide +kernel
theorem d_50_58 : xcode 50 58 = some (.lload 7, 2) := by decide +kernel
theorem d_50_60 : xcode 50 60 = some (.lmul, 1) := by decide +kernel
theorem d_50_61 : xcode 50 61 = some (.lload_n 3, 1) := by decide +kernel
theorem d_50_62 : xcode 50 62 = some (.lrem, 1) := by decide +kernel
theorem d_50_63 : xcode 50 63 = some (.lstore 7, 2) := by decide +kernel
theorem d_50_65 : xcode 50 65 = some (.iinc 9 1, 3) := by decide +kernel
theorem d_50_68 : xcode 50 68 = some (.goto (-45), 3) := by decide +kernel
theorem d_50_71 : xcode 50 71 = some (.lload 5, 2) := by decide +kernel
theorem d_50_73 : xcode 50 73 = some (.lreturn, 1) := by decide +kernel
theorem d_51_0 : xcode 51 0 = some (.lconst 0, 1) := by decide +kernel
theorem d_51_1 : xcode 51 1 = some (.lstore_n 2, 1) := by decide +kernel
theorem d_51_2 : xcode 51 2 = some (.getstatic 184, 3) := by decide +kernel
theorem d_51_5 : xcode 51 5 = some (.astore 4, 2) := by decide +kernel
theorem d_51_7 : xcode 51 7 = some (.aload 4, 2) := by decide +kernel
theorem d_51_9 : xcode 51 9 = some (.arraylength, 1) := by decide +kernel
theorem d_51_10 : xcode 51 10 = some (.istore 5, 2) := by decide +kernel
theorem d_51_12 : xcode 51 12 = some (.iconst 0, 1) := by decide +kernel
theorem d_51_13 : xcode 51 13 = some (.istore 6, 2) := by decide +kernel
theorem d_51_15 : xcode 51 15 = some (.iload 6, 2) := by decide +kernel
theorem d_51_17 : xcode 51 17 = some (.iload 5, 2) := by decide +kernel
theorem d_51_19 : xcode 51 19 = some (.if_icmp .ge 36, 3) := by decide +kernel
theorem d_51_22 : xcode 51 22 = some (.aload 4, 2) := by decide +kernel
theorem d_51_24 : xcode 51 24 = some (.iload 6, 2) := by decide +kernel
theorem d_51_26 : xcode 51 26 = some (.iaload, 1) := by decide +kernel
theorem d_51_27 : xcode 51 27 = some (.istore 7, 2) := by decide +kernel
theorem d_51_29 : xcode 51 29 = some (.iload 7, 2) := by decide +kernel
theorem d_51_31 : xcode 51 31 = some (.iload_n 0, 1) := by decide +kernel
theorem d_51_32 : xcode 51 32 = some (.invokestatic 187, 3) := by decide +kernel
theorem d_51_35 : xcode 51 35 = some (.ifCond .eq 14, 3) := by decide +kernel
theorem d_51_38 : xcode 51 38 = some (.lload_n 2, 1) := by decide +kernel
theorem d_51_39 : xcode 51 39 = some (.iload 7, 2) := by decide +kernel
theorem d_51_41 : xcode 51 41 = some (.i2l, 1) := by decide +kernel
theorem d_51_42 : xcode 51 42 = some (.iload_n 1, 1) := by decide +kernel
theorem d_51_43 : xcode 51 43 = some (.i2l, 1) := by decide +kernel
theorem d_51_44 : xcode 51 44 = some (.invokestatic 316, 3) := by decide +kernel
theorem d_51_47 : xcode 51 47 = some (.ladd, 1) := by decide +kernel
theorem d_51_48 : xcode 51 48 = some (.lstore_n 2, 1) := by decide +kernel
theorem d_51_49 : xcode 51 49 = some (.iinc 6 1, 3) := by decide +kernel
theorem d_51_52 : xcode 51 52 = some (.goto (-37), 3) := by decide +kernel
theorem d_51_55 : xcode 51 55 = some (.lload_n 2, 1) := by decide +kernel
theorem d_51_56 : xcode 51 56 = some (.lreturn, 1) := by decide +kernel
theorem d_52_0 : xcode 52 0 = some (.iload_n 1, 1) := by decide +kernel
theorem d_52_1 : xcode 52 1 = some (.iconst 1, 1) := by decide +kernel
theorem d_52_2 : xcode 52 2 = some (.if_icmp .ne 14, 3) := by decide +kernel
theorem d_52_5 : xcode 52 5 = some (.iload_n 0, 1) := by decide +kernel
theorem d_52_6 : xcode 52 6 = some (.iconst 2, 1) := by decide +kernel
theorem d_52_7 : xcode 52 7 = some (.if_icmp .ne 7, 3) := by decide +kernel
theorem d_52_10 : xcode 52 10 = some (.iconst 1, 1) := by decide +kernel
theorem d_52_11 : xcode 52 11 = some (.goto 4, 3) := by decide +kernel
theorem d_52_14 : xcode 52 14 = some (.iconst 0, 1) := by decide +kernel
theorem d_52_15 : xcode 52 15 = some (.ireturn, 1) := by decide +kernel
theorem d_52_16 : xcode 52 16 = some (.iload_n 1, 1) := by decide +kernel
theorem d_52_17 : xcode 52 17 = some (.invokestatic 190, 3) := by decide +kernel
theorem d_52_20 : xcode 52 20 = some (.ifCond .eq 20, 3) := by decide +kernel
theorem d_52_23 : xcode 52 23 = some (.iload_n 0, 1) := by decide +kernel
theorem d_52_24 : xcode 52 24 = some (.iconst 1, 1) := by decide +kernel
theorem d_52_25 : xcode 52 25 = some (.if_icmp .le 15, 3) := by decide +kernel
theorem d_52_28 : xcode 52 28 = some (.iload_n 1, 1) := by decide +kernel
theorem d_52_29 : xcode 52 29 = some (.iload_n 0, 1) := by decide +kernel
theorem d_52_30 : xcode 52 30 = some (.iconst 1, 1) := by decide +kernel
theorem d_52_31 : xcode 52 31 = some (.isub, 1) := by decide +kernel
theorem d_52_32 : xcode 52 32 = some (.irem, 1) := by decide +kernel
theorem d_52_33 : xcode 52 33 = some (.ifCond .ne 7, 3) := by decide +kernel
theorem d_52_36 : xcode 52 36 = some (.iconst 1, 1) := by decide +kernel
theorem d_52_37 : xcode 52 37 = some (.goto 4, 3) := by decide +kernel
theorem d_52_40 : xcode 52 40 = some (.iconst 0, 1) := by decide +kernel
theorem d_52_41 : xcode 52 41 = some (.ireturn, 1) := by decide +kernel
theorem d_53_0 : xcode 53 0 = some (.lload_n 2, 1) := by decide +kernel
theorem d_53_1 : xcode 53 1 = some (.lconst 0, 1) := by decide +kernel
theorem d_53_2 : xcode 53 2 = some (.lcmp, 1) := by decide +kernel
theorem d_53_3 : xcode 53 3 = some (.ifCond .gt 5, 3) := by decide +kernel
theorem d_53_6 : xcode 53 6 = some (.lconst 0, 1) := by decide +kernel
theorem d_53_7 : xcode 53 7 = some (.lreturn, 1) := by decide +kernel
theorem d_53_8 : xcode 53 8 = some (.lload_n 2, 1) := by decide +kernel
theorem d_53_9 : xcode 53 9 = some (.lstore 4, 2) := by decide +kernel
theorem d_53_11 : xcode 53 11 = some (.lload_n 0, 1) := by decide +kernel
theorem d_53_12 : xcode 53 12 = some (.lload_n 2, 1) := by decide +kernel
theorem d_53_13 : xcode 53 13 = some (.invokestatic 7, 3) := by decide +kernel
theorem d_53_16 : xcode 53 16 = some (.lstore 6, 2) := by decide +kernel
theorem d_53_18 : xcode 53 18 = some (.lconst 0, 1) := by decide +kernel
theorem d_53_19 : xcode 53 19 = some (.lstore 8, 2) := by decide +kernel
theorem d_53_21 : xcode 53 21 = some (.lconst 1, 1) := by decide +kernel
theorem d_53_22 : xcode 53 22 = some (.lstore 10, 2) := by decide +kernel
theorem d_53_24 : xcode 53 24 = some (.iconst 0, 1) := by decide +kernel
theorem d_53_25 : xcode 53 25 = some (.istore 12, 2) := by decide +kernel
theorem d_53_27 : xcode 53 27 = some (.iload 12, 2) := by decide +kernel
theorem d_53_29 : xcode 53 29 = some (.bipush 100, 2) := by decide +kernel
theorem d_53_31 : xcode 53 31 = some (.if_icmp .ge 59, 3) := by decide +kernel
theorem d_53_34 : xcode 53 34 = some (.lload 6, 2) := by decide +kernel
theorem d_53_36 : xcode 53 36 = some (.lconst 0, 1) := by decide +kernel
theorem d_53_37 : xcode 53 37 = some (.lcmp, 1) := by decide +kernel
theorem d_53_38 : xcode 53 38 = some (.ifCond .le 52, 3) := by decide +kernel
theorem d_53_41 : xcode 53 41 = some (.lload 4, 2) := by decide +kernel
theorem d_53_43 : xcode 53 43 = some (.lload 6, 2) := by decide +kernel
theorem d_53_45 : xcode 53 45 = some (.ldiv, 1) := by decide +kernel
theorem d_53_46 : xcode 53 46 = some (.lstore 13, 2) := by decide +kernel
theorem d_53_48 : xcode 53 48 = some (.lload 4, 2) := by decide +kernel
theorem d_53_50 : xcode 53 50 = some (.lload 13, 2) := by decide +kernel
theorem d_53_52 : xcode 53 52 = some (.lload 6, 2) := by decide +kernel
theorem d_53_54 : xcode 53 54 = some (.lmul, 1) := by decide +kernel
theorem d_53_55 : xcode 53 55 = some (.lsub, 1) := by decide +kernel
theorem d_53_56 : xcode 53 56 = some (.lstore 15, 2) := by decide +kernel
theorem d_53_58 : xcode 53 58 = some (.lload 8, 2) := by decide +kernel
theorem d_53_60 : xcode 53 60 = some (.lload 13, 2) := by decide +kernel
theorem d_53_62 : xcode 53 62 = some (.lload 10, 2) := by decide +kernel
theorem d_53_64 : xcode 53 64 = some (.lmul, 1) := by decide +kernel
theorem d_53_65 : xcode 53 65 = some (.lsub, 1) := by decide +kernel
theorem d_53_66 : xcode 53 66 = some (.lstore 17, 2) := by decide +kernel
theorem d_53_68 : xcode 53 68 = some (.lload 6, 2) := by decide +kernel
theorem d_53_70 : xcode 53 70 = some (.lstore 4, 2) := by decide +kernel
theorem d_53_72 : xcode 53 72 = some (.lload 15, 2) := by decide +kernel
theorem d_53_74 : xcode 53 74 = some (.lstore 6, 2) := by decide +kernel
theorem d_53_76 : xcode 53 76 = some (.lload 10, 2) := by decide +kernel
theorem d_53_78 : xcode 53 78 = some (.lstore 8, 2) := by decide +kernel
theorem d_53_80 : xcode 53 80 = some (.lload 17, 2) := by decide +kernel
theorem d_53_82 : xcode 53 82 = some (.lstore 10, 2) := by decide +kernel
theorem d_53_84 : xcode 53 84 = some (.iinc 12 1, 3) := by decide +kernel
theorem d_53_87 : xcode 53 87 = some (.goto (-60), 3) := by decide +kernel
theorem d_53_90 : xcode 53 90 = some (.lload 8, 2) := by decide +kernel
theorem d_53_92 : xcode 53 92 = some (.lload_n 2, 1) := by decide +kernel
theorem d_53_93 : xcode 53 93 = some (.invokestatic 7, 3) := by decide +kernel
theorem d_53_96 : xcode 53 96 = some (.lreturn, 1) := by decide +kernel
theorem d_54_0 : xcode 54 0 = some (.lload_n 2, 1) := by decide +kernel
theorem d_54_1 : xcode 54 1 = some (.lconst 0, 1) := by decide +kernel
theorem d_54_2 : xcode 54 2 = some (.lcmp, 1) := by decide +kernel
theorem d_54_3 : xcode 54 3 = some (.ifCond .le 11, 3) := by decide +kernel
theorem d_54_6 : xcode 54 6 = some (.lload_n 0, 1) := by decide +kernel
theorem d_54_7 : xcode 54 7 = some (.lload_n 2, 1) := by decide +kernel
theorem d_54_8 : xcode 54 8 = some (.invokestatic 7, 3) := by decide +kernel
theorem d_54_11 : xcode 54 11 = some (.goto 4, 3) := by decide +kernel
theorem d_54_14 : xcode 54 14 = some (.lconst 0, 1) := by decide +kernel
theorem d_54_15 : xcode 54 15 = some (.lreturn, 1) := by decide +kernel
theorem d_55_0 : xcode 55 0 = some (.getstatic 184, 3) := by decide +kernel
theorem d_55_3 : xcode 55 3 = some (.astore_n 3, 1) := by decide +kernel
theorem d_55_4 : xcode 55 4 = some (.aload_n 3, 1) := by decide +kernel
theorem d_55_5 : xcode 55 5 = some (.arraylength, 1) := by decide +kernel
theorem d_55_6 : xcode 55 6 = some (.istore 4, 2) := by decide +kernel
theorem d_55_8 : xcode 55 8 = some (.iconst 0, 1) := by decide +kernel
theorem d_55_9 : xcode 55 9 = some (.istore 5, 2) := by decide +kernel
theorem d_55_11 : xcode 55 11 = some (.iload 5, 2) := by decide +kernel
theorem d_55_13 : xcode 55 13 = some (.iload 4, 2) := by decide +kernel
theorem d_55_15 : xcode 55 15 = some (.if_icmp .ge 38, 3) := by decide +kernel
theorem d_55_18 : xcode 55 18 = some (.aload_n 3, 1) := by decide +kernel
theorem d_55_19 : xcode 55 19 = some (.iload 5, 2) := by decide +kernel
theorem d_55_21 : xcode 55 21 = some (.iaload, 1) := by decide +kernel
theorem d_55_22 : xcode 55 22 = some (.istore 6, 2) := by decide +kernel
theorem d_55_24 : xcode 55 24 = some (.iload 6, 2) := by decide +kernel
theorem d_55_26 : xcode 55 26 = some (.iload_n 1, 1) := by decide +kernel
theorem d_55_27 : xcode 55 27 = some (.invokestatic 187, 3) := by decide +kernel
theorem d_55_30 : xcode 55 30 = some (.ifCond .eq 17, 3) := by decide +kernel
theorem d_55_33 : xcode 55 33 = some (.aload_n 0, 1) := by decide +kernel
theorem d_55_34 : xcode 55 34 = some (.getfield 21, 3) := by decide +kernel
theorem d_55_37 : xcode 55 37 = some (.iload_n 2, 1) := by decide +kernel
theorem d_55_38 : xcode 55 38 = some (.i2l, 1) := by decide +kernel
theorem d_55_39 : xcode 55 39 = some (.lconst 0, 1) := by decide +kernel
theorem d_55_40 : xcode 55 40 = some (.lconst 1, 1) := by decide +kernel
theorem d_55_41 : xcode 55 41 = some (.iload 6, 2) := by decide +kernel
theorem d_55_43 : xcode 55 43 = some (.i2l, 1) := by decide +kernel
theorem d_55_44 : xcode 55 44 = some (.invokevirtual 207, 3) := by decide +kernel
theorem d_55_47 : xcode 55 47 = some (.iinc 5 1, 3) := by decide +kernel
theorem d_55_50 : xcode 55 50 = some (.goto (-39), 3) := by decide +kernel
theorem d_55_53 : xcode 55 53 = some (.return_, 1) := by decide +kernel
theorem d_56_0 : xcode 56 0 = some (.aload_n 0, 1) := by decide +kernel
theorem d_56_1 : xcode 56 1 = some (.iload_n 1, 1) := by decide +kernel
theorem d_56_2 : xcode 56 2 = some (.invokevirtual 38, 3) := by decide +kernel
theorem d_56_5 : xcode 56 5 = some (.aload_n 2, 1) := by decide +kernel
theorem d_56_6 : xcode 56 6 = some (.getfield 45, 3) := by decide +kernel
theorem d_56_9 : xcode 56 9 = some (.lcmp, 1) := by decide +kernel
theorem d_56_10 : xcode 56 10 = some (.ifCond .ne 33, 3) := by decide +kernel
theorem d_56_13 : xcode 56 13 = some (.aload_n 0, 1) := by decide +kernel
theorem d_56_14 : xcode 56 14 = some (.iload_n 1, 1) := by decide +kernel
theorem d_56_15 : xcode 56 15 = some (.invokevirtual 42, 3) := by decide +kernel
theorem d_56_18 : xcode 56 18 = some (.aload_n 2, 1) := by decide +kernel
theorem d_56_19 : xcode 56 19 = some (.getfield 49, 3) := by decide +kernel
theorem d_56_22 : xcode 56 22 = some (.lcmp, 1) := by decide +kernel
theorem d_56_23 : xcode 56 23 = some (.ifCond .ne 20, 3) := by decide +kernel
theorem d_56_26 : xcode 56 26 = some (.aload_n 0, 1) := by decide +kernel
theorem d_56_27 : xcode 56 27 = some (.iload_n 1, 1) := by decide +kernel
theorem d_56_28 : xcode 56 28 = some (.invokevirtual 55, 3) := by decide +kernel
theorem d_56_31 : xcode 56 31 = some (.aload_n 2, 1) := by decide +kernel
theorem d_56_32 : xcode 56 32 = some (.getfield 52, 3) := by decide +kernel
theorem d_56_35 : xcode 56 35 = some (.lcmp, 1) := by decide +kernel
theorem d_56_36 : xcode 56 36 = some (.ifCond .ne 7, 3) := by decide +kernel
theorem d_56_39 : xcode 56 39 = some (.iconst 1, 1) := by decide +kernel
theorem d_56_40 : xcode 56 40 = some (.goto 4, 3) := by decide +kernel
theorem d_56_43 : xcode 56 43 = some (.iconst 0, 1) := by decide +kernel
theorem d_56_44 : xcode 56 44 = some (.ireturn, 1) := by decide +kernel
theorem d_57_0 : xcode 57 0 = some (.iload_n 1, 1) := by decide +kernel
theorem d_57_1 : xcode 57 1 = some (.ifCond .lt 19, 3) := by decide +kernel
theorem d_57_4 : xcode 57 4 = some (.iload_n 1, 1) := by decide +kernel
theorem d_57_5 : xcode 57 5 = some (.aload_n 0, 1) := by decide +kernel
theorem d_57_6 : xcode 57 6 = some (.getfield 45, 3) := by decide +kernel
theorem d_57_9 : xcode 57 9 = some (.arraylength, 1) := by decide +kernel
theorem d_57_10 : xcode 57 10 = some (.if_icmp .ge 10, 3) := by decide +kernel
theorem d_57_13 : xcode 57 13 = some (.aload_n 0, 1) := by decide +kernel
theorem d_57_14 : xcode 57 14 = some (.getfield 45, 3) := by decide +kernel
theorem d_57_17 : xcode 57 17 = some (.iload_n 1, 1) := by decide +kernel
theorem d_57_18 : xcode 57 18 = some (.iload_n 2, 1) := by decide +kernel
theorem d_57_19 : xcode 57 19 = some (.iastore, 1) := by decide +kernel
theorem d_57_20 : xcode 57 20 = some (.return_, 1) := by decide +kernel
theorem d_58_0 : xcode 58 0 = some (.iload_n 1, 1) := by decide +kernel
theorem d_58_1 : xcode 58 1 = some (.invokestatic 120, 3) := by decide +kernel
theorem d_58_4 : xcode 58 4 = some (.ifCond .eq 10, 3) := by decide +kernel
theorem d_58_7 : xcode 58 7 = some (.iload_n 2, 1) := by decide +kernel
theorem d_58_8 : xcode 58 8 = some (.invokestatic 124, 3) := by decide +kernel
theorem d_58_11 : xcode 58 11 = some (.ifCond .ne 5, 3) := by decide +kernel
theorem d_58_14 : xcode 58 14 = some (.iconst (-1), 1) := by decide +kernel
theorem d_58_15 : xcode 58 15 = some (.ireturn, 1) := by decide +kernel
theorem d_58_16 : xcode 58 16 = some (.iload_n 1, 1) := by decide +kernel
theorem d_58_17 : xcode 58 17 = some (.aload_n 0, 1) := by decide +kernel
theorem d_58_18 : xcode 58 18 = some (.getfield 49, 3) := by decide +kernel
theorem d_58_21 : xcode 58 21 = some (.if_icmp .le 6, 3) := by decide +kernel
theorem d_58_24 : xcode 58 24 = some (.bipush (-2), 2) := by decide +kernel
theorem d_58_26 : xcode 58 26 = some (.ireturn, 1) := by decide +kernel
theorem d_58_27 : xcode 58 27 = some (.iload_n 2, 1) := by decide +kernel
theorem d_58_28 : xcode 58 28 = some (.ifCond .ne 14, 3) := by decide +kernel
theorem d_58_31 : xcode 58 31 = some (.aload_n 0, 1) := by decide +kernel
theorem d_58_32 : xcode 58 32 = some (.iload_n 1, 1) := by decide +kernel
theorem d_58_33 : xcode 58 33 = some (.invokevirtual 127, 3) := by decide +kernel
theorem d_58_36 : xcode 58 36 = some (.ifCond .ne 6, 3) := by decide +kernel
theorem d_58_39 : xcode 58 39 = some (.bipush (-3), 2) := by decide +kernel
theorem d_58_41 : xcode 58 41 = some (.ireturn, 1) := by decide +kernel
theorem d_58_42 : xcode 58 42 = some (.aload_n 0, 1) := by decide +kernel
theorem d_58_43 : xcode 58 43 = some (.iload_n 1, 1) := by decide +kernel
theorem d_58_44 : xcode 58 44 = some (.iload_n 2, 1) := by decide +kernel
theorem d_58_45 : xcode 58 45 = some (.invokevirtual 130, 3) := by decide +kernel
theorem d_58_48 : xcode 58 48 = some (.ifCond .eq 7, 3) := by decide +kernel
theorem d_58_51 : xcode 58 51 = some (.iconst 1, 1) := by decide +kernel
theorem d_58_52 : xcode 58 52 = some (.goto 4, 3) := by decide +kernel
theorem d_58_55 : xcode 58 55 = some (.iconst 0, 1) := by decide +kernel
theorem d_58_56 : xcode 58 56 = some (.ireturn, 1) := by decide +kernel
theorem d_59_0 : xcode 59 0 = some (.iload_n 1, 1) := by decide +kernel
theorem d_59_1 : xcode 59 1 = some (.invokestatic 120, 3) := by decide +kernel
theorem d_59_4 : xcode 59 4 = some (.ifCond .eq 19, 3) := by decide +kernel
theorem d_59_7 : xcode 59 7 = some (.iload_n 2, 1) := by decide +kernel
theorem d_59_8 : xcode 59 8 = some (.ifCond .eq 15, 3) := by decide +kernel
theorem d_59_11 : xcode 59 11 = some (.iload_n 2, 1) := by decide +kernel
theorem d_59_12 : xcode 59 12 = some (.bipush (-9), 2) := by decide +kernel
theorem d_59_14 : xcode 59 14 = some (.if_icmp .lt 9, 3) := by decide +kernel
theorem d_59_17 : xcode 59 17 = some (.iload_n 2, 1) := by decide +kernel
theorem d_59_18 : xcode 59 18 = some (.bipush 9, 2) := by decide +kernel
theorem d_59_20 : xcode 59 20 = some (.if_icmp .le 5, 3) := by decide +kernel
theorem d_59_23 : xcode 59 23 = some (.iconst (-1), 1) := by decide +kernel
theorem d_59_24 : xcode 59 24 = some (.ireturn, 1) := by decide +kernel
theorem d_59_25 : xcode 59 25 = some (.iload_n 1, 1) := by decide +kernel
theorem d_59_26 : xcode 59 26 = some (.aload_n 0, 1) := by decide +kernel
theorem d_59_27 : xcode 59 27 = some (.getfield 49, 3) := by decide +kernel
theorem d_59_30 : xcode 59 30 = some (.if_icmp .le 6, 3) := by decide +kernel
theorem d_59_33 : xcode 59 33 = some (.bipush (-2), 2) := by decide +kernel
theorem d_59_35 : xcode 59 35 = some (.ireturn, 1) := by decide +kernel
theorem d_59_36 : xcode 59 36 = some (.aload_n 0, 1) := by decide +kernel
theorem d_59_37 : xcode 59 37 = some (.getfield 39, 3) := by decide +kernel
theorem d_59_40 : xcode 59 40 = some (.iload_n 1, 1) := by decide +kernel
theorem d_59_41 : xcode 59 41 = some (.iload_n 2, 1) := by decide +kernel
theorem d_59_42 : xcode 59 42 = some (.i2l, 1) := by decide +kernel
theorem d_59_43 : xcode 59 43 = some (.invokevirtual 134, 3) := by decide +kernel
theorem d_59_46 : xcode 59 46 = some (.aload_n 0, 1) := by decide +kernel
theorem d_59_47 : xcode 59 47 = some (.iload_n 1, 1) := by decide +kernel
theorem d_59_48 : xcode 59 48 = some (.iconst 3, 1) := by decide +kernel
theorem d_59_49 : xcode 59 49 = some (.invokevirtual 138, 3) := by decide +kernel
theorem d_59_52 : xcode 59 52 = some (.aload_n 0, 1) := by decide +kernel
theorem d_59_53 : xcode 59 53 = some (.getfield 58, 3) := by decide +kernel
theorem d_59_56 : xcode 59 56 = some (.iload_n 1, 1) := by decide +kernel
theorem d_59_57 : xcode 59 57 = some (.bipush 63, 2) := by decide +kernel
theorem d_59_59 : xcode 59 59 = some (.invokevirtual 142, 3) := by decide +kernel
theorem d_59_62 : xcode 59 62 = some (.ireturn, 1) := by decide +kernel
theorem d_60_0 : xcode 60 0 = some (.aload_n 0, 1) := by decide +kernel
theorem d_60_1 : xcode 60 1 = some (.getfield 24, 3) := by decide +kernel
theorem d_60_4 : xcode 60 4 = some (.aload_n 0, 1) := by decide +kernel
theorem d_60_5 : xcode 60 5 = some (.iload_n 1, 1) := by decide +kernel
theorem d_60_6 : xcode 60 6 = some (.invokevirtual 38, 3) := by decide +kernel
theorem d_60_9 : xcode 60 9 = some (.aload_n 0, 1) := by decide +kernel
theorem d_60_10 : xcode 60 10 = some (.iload_n 1, 1) := by decide +kernel
theorem d_60_11 : xcode 60 11 = some (.invokevirtual 42, 3) := by decide +kernel
theorem d_60_14 : xcode 60 14 = some (.lload_n 2, 1) := by decide +kernel
theorem d_60_15 : xcode 60 15 = some (.ladd, 1) := by decide +kernel
theorem d_60_16 : xcode 60 16 = some (.aload_n 0, 1) := by decide +kernel
theorem d_60_17 : xcode 60 17 = some (.iload_n 1, 1) := by decide +kernel
theorem d_60_18 : xcode 60 18 = some (.invokevirtual 55, 3) := by decide +kernel
theorem d_60_21 : xcode 60 21 = some (.invokevirtual 58, 3) := by decide +kernel
theorem d_60_24 : xcode 60 24 = some (.aload_n 0, 1) := by decide +kernel
theorem d_60_25 : xcode 60 25 = some (.iload_n 1, 1) := by decide +kernel
theorem d_60_26 : xcode 60 26 = some (.aload_n 0, 1) := by decide +kernel
theorem d_60_27 : xcode 60 27 = some (.getfield 24, 3) := by decide +kernel
theorem d_60_30 : xcode 60 30 = some (.invokevirtual 68, 3) := by decide +kernel
theorem d_60_33 : xcode 60 33 = some (.return_, 1) := by decide +kernel
theorem d_61_0 : xcode 61 0 = some (.iconst 0, 1) := by decide +kernel
theorem d_61_1 : xcode 61 1 = some (.istore_n 3, 1) := by decide +kernel
theorem d_61_2 : xcode 61 2 = some (.iload_n 2, 1) := by decide +kernel
theorem d_61_3 : xcode 61 3 = some (.iconst 1, 1) := by decide +kernel
theorem d_61_4 : xcode 61 4 = some (.iand, 1) := by decide +kernel
theorem d_61_5 : xcode 61 5 = some (.ifCond .eq 15, 3) := by decide +kernel
theorem d_61_8 : xcode 61 8 = some (.aload_n 0, 1) := by decide +kernel
theorem d_61_9 : xcode 61 9 = some (.iload_n 1, 1) := by decide +kernel
theorem d_61_10 : xcode 61 10 = some (.invokevirtual 23, 3) := by decide +kernel
theorem d_61_13 : xcode 61 13 = some (.ifCond .eq 7, 3) := by decide +kernel
theorem d_61_16 : xcode 61 16 = some (.iload_n 3, 1) := by decide +kernel
theorem d_61_17 : xcode 61 17 = some (.iconst 1, 1) := by decide +kernel
theorem d_61_18 : xcode 61 18 = some (.ior, 1) := by decide +kernel
theorem d_61_19 : xcode 61 19 = some (.istore_n 3, 1) := by decide +kernel
theorem d_61_20 : xcode 61 20 = some (.iload_n 2, 1) := by decide +kernel
theorem d_61_21 : xcode 61 21 = some (.iconst 2, 1) := by decide +kernel
theorem d_61_22 : xcode 61 22 = some (.iand, 1) := by decide +kernel
theorem d_61_23 : xcode 61 23 = some (.ifCond .eq 22, 3) := by decide +kernel
theorem d_61_26 : xcode 61 26 = some (.aload_n 0, 1) := by decide +kernel
theorem d_61_27 : xcode 61 27 = some (.getfield 9, 3) := by decide +kernel
theorem d_61_30 : xcode 61 30 = some (.iload_n 1, 1) := by decide +kernel
theorem d_61_31 : xcode 61 31 = some (.invokevirtual 27, 3) := by decide +kernel
theorem d_61_34 : xcode 61 34 = some (.iload_n 1, 1) := by decide +kernel
theorem d_61_35 : xcode 61 35 = some (.invokestatic 33, 3) := by decide +kernel
theorem d_61_38 : xcode 61 38 = some (.if_icmp .eq 7, 3) := by decide +kernel
theorem d_61_41 : xcode 61 41 = some (.iload_n 3, 1) := by decide +kernel
theorem d_61_42 : xcode 61 42 = some (.iconst 2, 1) := by decide +kernel
theorem d_61_43 : xcode 61 43 = some (.ior, 1) := by decide +kernel
theorem d_61_44 : xcode 61 44 = some (.istore_n 3, 1) := by decide +kernel
theorem d_61_45 : xcode 61 45 = some (.iload_n 2, 1) := by decide +kernel
theorem d_61_46 : xcode 61 46 = some (.iconst 4, 1) := by decide +kernel
theorem d_61_47 : xcode 61 47 = some (.iand, 1) := by decide +kernel
theorem d_61_48 : xcode 61 48 = some (.ifCond .eq 15, 3) := by decide +kernel
theorem d_61_51 : xcode 61 51 = some (.aload_n 0, 1) := by decide +kernel
theorem d_61_52 : xcode 61 52 = some (.iload_n 1, 1) := by decide +kernel
theorem d_61_53 : xcode 61 53 = some (.invokevirtual 36, 3) := by decide +kernel
theorem d_61_56 : xcode 61 56 = some (.ifCond .eq 7, 3) := by decide +kernel
theorem d_61_59 : xcode 61 59 = some (.iload_n 3, 1) := by decide +kernel
theorem d_61_60 : xcode 61 60 = some (.iconst 4, 1) := by decide +kernel
theorem d_61_61 : xcode 61 61 = some (.ior, 1) := by decide +kernel
theorem d_61_62 : xcode 61 62 = some (.istore_n 3, 1) := by decide +kernel
theorem d_61_63 : xcode 61 63 = some (.iload_n 2, 1) := by decide +kernel
theorem d_61_64 : xcode 61 64 = some (.bipush 8, 2) := by decide +kernel
theorem d_61_66 : xcode 61 66 = some (.iand, 1) := by decide +kernel
theorem d_61_67 : xcode 61 67 = some (.ifCond .eq 16, 3) := by decide +kernel
theorem d_61_70 : xcode 61 70 = some (.aload_n 0, 1) := by decide +kernel
theorem d_61_71 : xcode 61 71 = some (.iload_n 1, 1) := by decide +kernel
theorem d_61_72 : xcode 61 72 = some (.invokevirtual 39, 3) := by decide +kernel
theorem d_61_75 : xcode 61 75 = some (.ifCond .eq 8, 3) := by decide +kernel
theorem d_61_78 : xcode 61 78 = some (.iload_n 3, 1) := by decide +kernel
theorem d_61_79 : xcode 61 79 = some (.bipush 8, 2) := by decide +kernel
theorem d_61_81 : xcode 61 81 = some (.ior, 1) := by decide +kernel
theorem d_61_82 : xcode 61 82 = some (.istore_n 3, 1) := by decide +kernel
theorem d_61_83 : xcode 61 83 = some (.iload_n 2, 1) := by decide +kernel
theorem d_61_84 : xcode 61 84 = some (.bipush 16, 2) := by decide +kernel
theorem d_61_86 : xcode 61 86 = some (.iand, 1) := by decide +kernel
theorem d_61_87 : xcode 61 87 = some (.ifCond .eq 16, 3) := by decide +kernel
theorem d_61_90 : xcode 61 90 = some (.aload_n 0, 1) := by decide +kernel
theorem d_61_91 : xcode 61 91 = some (.iload_n 1, 1) := by decide +kernel
theorem d_61_92 : xcode 61 92 = some (.invokevirtual 42, 3) := by decide +kernel
theorem d_61_95 : xcode 61 95 = some (.ifCond .eq 8, 3) := by decide +kernel
theorem d_61_98 : xcode 61 98 = some (.iload_n 3, 1) := by decide +kernel
theorem d_61_99 : xcode 61 99 = some (.bipush 16, 2) := by decide +kernel
theorem d_61_101 : xcode 61 101 = some (.ior, 1) := by decide +kernel
theorem d_61_102 : xcode 61 102 = some (.istore_n 3, 1) := by decide +kernel
theorem d_61_103 : xcode 61 103 = some (.iload_n 2, 1) := by decide +kernel
theorem d_61_104 : xcode 61 104 = some (.bipush 32, 2) := by decide +kernel
theorem d_61_106 : xcode 61 106 = some (.iand, 1) := by decide +kernel
theorem d_61_107 : xcode 61 107 = some (.ifCond .eq 16, 3) := by decide +kernel
theorem d_61_110 : xcode 61 110 = some (.aload_n 0, 1) := by decide +kernel
theorem d_61_111 : xcode 61 111 = some (.iload_n 1, 1) := by decide +kernel
theorem d_61_112 : xcode 61 112 = some (.invokevirtual 45, 3) := by decide +kernel
theorem d_61_115 : xcode 61 115 = some (.ifCond .eq 8, 3) := by decide +kernel
theorem d_61_118 : xcode 61 118 = some (.iload_n 3, 1) := by decide +kernel
theorem d_61_119 : xcode 61 119 = some (.bipush 32, 2) := by decide +kernel
theorem d_61_121 : xcode 61 121 = some (.ior, 1) := by decide +kernel
theorem d_61_122 : xcode 61 122 = some (.istore_n 3, 1) := by decide +kernel
theorem d_61_123 : xcode 61 123 = some (.iload_n 3, 1) := by decide +kernel
theorem d_61_124 : xcode 61 124 = some (.ireturn, 1) := by decide +kernel
theorem d_62_0 : xcode 62 0 = some (.lconst 1, 1) := by decide +kernel
theorem d_62_1 : xcode 62 1 = some (.lstore_n 2, 1) := by decide +kernel
theorem d_62_2 : xcode 62 2 = some (.getstatic 104, 3) := by decide +kernel
theorem d_62_5 : xcode 62 5 = some (.astore 4, 2) := by decide +kernel
theorem d_62_7 : xcode 62 7 = some (.aload 4, 2) := by decide +kernel
theorem d_62_9 : xcode 62 9 = some (.arraylength, 1) := by decide +kernel
theorem d_62_10 : xcode 62 10 = some (.istore 5, 2) := by decide +kernel
theorem d_62_12 : xcode 62 12 = some (.iconst 0, 1) := by decide +kernel
theorem d_62_13 : xcode 62 13 = some (.istore 6, 2) := by decide +kernel
theorem d_62_15 : xcode 62 15 = some (.iload 6, 2) := by decide +kernel
theorem d_62_17 : xcode 62 17 = some (.iload 5, 2) := by decide +kernel
theorem d_62_19 : xcode 62 19 = some (.if_icmp .ge 31, 3) := by decide +kernel
theorem d_62_22 : xcode 62 22 = some (.aload 4, 2) := by decide +kernel
theorem d_62_24 : xcode 62 24 = some (.iload 6, 2) := by decide +kernel
theorem d_62_26 : xcode 62 26 = some (.iaload, 1) := by decide +kernel
theorem d_62_27 : xcode 62 27 = some (.istore 7, 2) := by decide +kernel
theorem d_62_29 : xcode 62 29 = some (.iload 7, 2) := by decide +kernel
theorem d_62_31 : xcode 62 31 = some (.iload_n 1, 1) := by decide +kernel
theorem d_62_32 : xcode 62 32 = some (.invokestatic 108, 3) := by decide +kernel
theorem d_62_35 : xcode 62 35 = some (.ifCond .eq 9, 3) := by decide +kernel
theorem d_62_38 : xcode 62 38 = some (.lload_n 2, 1) := by decide +kernel
theorem d_62_39 : xcode 62 39 = some (.iload 7, 2) := by decide +kernel
theorem d_62_41 : xcode 62 41 = some (.i2l, 1) := by decide +kernel
theorem d_62_42 : xcode 62 42 = some (.lmul, 1) := by decide +kernel
theorem d_62_43 : xcode 62 43 = some (.lstore_n 2, 1) := by decide +kernel
theorem d_62_44 : xcode 62 44 = some (.iinc 6 1, 3) := by decide +kernel
theorem d_62_47 : xcode 62 47 = some (.goto (-32), 3) := by decide +kernel
theorem d_62_50 : xcode 62 50 = some (.aload_n 0, 1) := by decide +kernel
theorem d_62_51 : xcode 62 51 = some (.getfield 9, 3) := by decide +kernel
theorem d_62_54 : xcode 62 54 = some (.iload_n 1, 1) := by decide +kernel
theorem d_62_55 : xcode 62 55 = some (.invokevirtual 87, 3) := by decide +kernel
theorem d_62_58 : xcode 62 58 = some (.lload_n 2, 1) := by decide +kernel
theorem d_62_59 : xcode 62 59 = some (.lcmp, 1) := by decide +kernel
theorem d_62_60 : xcode 62 60 = some (.ifCond .eq 7, 3) := by decide +kernel
theorem d_62_63 : xcode 62 63 = some (.iconst 1, 1) := by decide +kernel
theorem d_62_64 : xcode 62 64 = some (.goto 4, 3) := by decide +kernel
theorem d_62_67 : xcode 62 67 = some (.iconst 0, 1) := by decide +kernel
theorem d_62_68 : xcode 62 68 = some (.ireturn, 1) := by decide +kernel
theorem d_63_0 : xcode 63 0 = some (.aload_n 0, 1) := by decide +kernel
theorem d_63_1 : xcode 63 1 = some (.iload_n 1, 1) := by decide +kernel
theorem d_63_2 : xcode 63 2 = some (.invokevirtual 38, 3) := by decide +kernel
theorem d_63_5 : xcode 63 5 = some (.lconst 0, 1) := by decide +kernel
theorem d_63_6 : xcode 63 6 = some (.lcmp, 1) := by decide +kernel
theorem d_63_7 : xcode 63 7 = some (.ifCond .ge 5, 3) := by decide +kernel
theorem d_63_10 : xcode 63 10 = some (.iconst (-1), 1) := by decide +kernel
theorem d_63_11 : xcode 63 11 = some (.ireturn, 1) := by decide +kernel
theorem d_63_12 : xcode 63 12 = some (.aload_n 0, 1) := by decide +kernel
theorem d_63_13 : xcode 63 13 = some (.iload_n 1, 1) := by decide +kernel
theorem d_63_14 : xcode 63 14 = some (.invokevirtual 38, 3) := by decide +kernel
theorem d_63_17 : xcode 63 17 = some (.lconst 0, 1) := by decide +kernel
theorem d_63_18 : xcode 63 18 = some (.lcmp, 1) := by decide +kernel
theorem d_63_19 : xcode 63 19 = some (.ifCond .ne 17, 3) := by decide +kernel
theorem d_63_22 : xcode 63 22 = some (.aload_n 0, 1) := by decide +kernel
theorem d_63_23 : xcode 63 23 = some (.iload_n 1, 1) := by decide +kernel
theorem d_63_24 : xcode 63 24 = some (.invokevirtual 42, 3) := by decide +kernel
theorem d_63_27 : xcode 63 27 = some (.lconst 0, 1) := by decide +kernel
theorem d_63_28 : xcode 63 28 = some (.lcmp, 1) := by decide +kernel
theorem d_63_29 : xcode 63 29 = some (.ifCond .ne 7, 3) := by decide +kernel
theorem d_63_32 : xcode 63 32 = some (.iconst 0, 1) := by decide +kernel
theorem d_63_33 : xcode 63 33 = some (.goto 4, 3) := by decide +kernel
theorem d_63_36 : xcode 63 36 = some (.iconst 1, 1) := by decide +kernel
theorem d_63_37 : xcode 63 37 = some (.ireturn, 1) := by decide +kernel
theorem d_64_0 : xcode 64 0 = some (.iload_n 0, 1) := by decide +kernel
theorem d_64_1 : xcode 64 1 = some (.ifCond .ne 5, 3) := by decide +kernel
theorem d_64_4 : xcode 64 4 = some (.iconst 1, 1) := by decide +kernel
theorem d_64_5 : xcode 64 5 = some (.ireturn, 1) := by decide +kernel
theorem d_64_6 : xcode 64 6 = some (.iload_n 0, 1) := by decide +kernel
theorem d_64_7 : xcode 64 7 = some (.iconst 2, 1) := by decide +kernel
theorem d_64_8 : xcode 64 8 = some (.irem, 1) := by decide +kernel
theorem d_64_9 : xcode 64 9 = some (.ifCond .eq 14, 3) := by decide +kernel
theorem d_64_12 : xcode 64 12 = some (.iload_n 0, 1) := by decide +kernel
theorem d_64_13 : xcode 64 13 = some (.iconst 1, 1) := by decide +kernel
theorem d_64_14 : xcode 64 14 = some (.if_icmp .ne 7, 3) := by decide +kernel
theorem d_64_17 : xcode 64 17 = some (.iconst (-1), 1) := by decide +kernel
theorem d_64_18 : xcode 64 18 = some (.goto 4, 3) := by decide +kernel
theorem d_64_21 : xcode 64 21 = some (.iconst 0, 1) := by decide +kernel
theorem d_64_22 : xcode 64 22 = some (.ireturn, 1) := by decide +kernel
theorem d_64_23 : xcode 64 23 = some (.iload_n 0, 1) := by decide +kernel
theorem d_64_24 : xcode 64 24 = some (.iconst 4, 1) := by decide +kernel
theorem d_64_25 : xcode 64 25 = some (.irem, 1) := by decide +kernel
theorem d_64_26 : xcode 64 26 = some (.iconst 2, 1) := by decide +kernel
theorem d_64_27 : xcode 64 27 = some (.if_icmp .ne 7, 3) := by decide +kernel
theorem d_64_30 : xcode 64 30 = some (.iconst 1, 1) := by decide +kernel
theorem d_64_31 : xcode 64 31 = some (.goto 4, 3) := by decide +kernel
theorem d_64_34 : xcode 64 34 = some (.iconst (-1), 1) := by decide +kernel
theorem d_64_35 : xcode 64 35 = some (.ireturn, 1) := by decide +kernel
theorem d_65_0 : xcode 65 0 = some (.iload_n 1, 1) := by decide +kernel
theorem d_65_1 : xcode 65 1 = some (.iconst 1, 1) := by decide +kernel
theorem d_65_2 : xcode 65 2 = some (.if_icmp .ge 5, 3) := by decide +kernel
theorem d_65_5 : xcode 65 5 = some (.iconst 0, 1) := by decide +kernel
theorem d_65_6 : xcode 65 6 = some (.ireturn, 1) := by decide +kernel
theorem d_65_7 : xcode 65 7 = some (.aload_n 0, 1) := by decide +kernel
theorem d_65_8 : xcode 65 8 = some (.iload_n 1, 1) := by decide +kernel
theorem d_65_9 : xcode 65 9 = some (.iload_n 1, 1) := by decide +kernel
theorem d_65_10 : xcode 65 10 = some (.invokevirtual 111, 3) := by decide +kernel
theorem d_65_13 : xcode 65 13 = some (.aload_n 0, 1) := by decide +kernel
theorem d_65_14 : xcode 65 14 = some (.getfield 19, 3) := by decide +kernel
theorem d_65_17 : xcode 65 17 = some (.invokevirtual 115, 3) := by decide +kernel
theorem d_65_20 : xcode 65 20 = some (.ifCond .ne 7, 3) := by decide +kernel
theorem d_65_23 : xcode 65 23 = some (.iconst 1, 1) := by decide +kernel
theorem d_65_24 : xcode 65 24 = some (.goto 4, 3) := by decide +kernel
theorem d_65_27 : xcode 65 27 = some (.iconst 0, 1) := by decide +kernel
theorem d_65_28 : xcode 65 28 = some (.ireturn, 1) := by decide +kernel
theorem d_66_0 : xcode 66 0 = some (.aload_n 0, 1) := by decide +kernel
theorem d_66_1 : xcode 66 1 = some (.getfield 19, 3) := by decide +kernel
theorem d_66_4 : xcode 66 4 = some (.lconst 0, 1) := by decide +kernel
theorem d_66_5 : xcode 66 5 = some (.lcmp, 1) := by decide +kernel
theorem d_66_6 : xcode 66 6 = some (.ifCond .ne 16, 3) := by decide +kernel
theorem d_66_9 : xcode 66 9 = some (.aload_n 0, 1) := by decide +kernel
theorem d_66_10 : xcode 66 10 = some (.getfield 22, 3) := by decide +kernel
theorem d_66_13 : xcode 66 13 = some (.lconst 0, 1) := by decide +kernel
theorem d_66_14 : xcode 66 14 = some (.lcmp, 1) := by decide +kernel
theorem d_66_15 : xcode 66 15 = some (.ifCond .ne 7, 3) := by decide +kernel
theorem d_66_18 : xcode 66 18 = some (.iconst 1, 1) := by decide +kernel
theorem d_66_19 : xcode 66 19 = some (.goto 4, 3) := by decide +kernel
theorem d_66_22 : xcode 66 22 = some (.iconst 0, 1) := by decide +kernel
theorem d_66_23 : xcode 66 23 = some (.ireturn, 1) := by decide +kernel
theorem d_67_0 : xcode 67 0 = some (.iconst 2, 1) := by decide +kernel
theorem d_67_1 : xcode 67 1 = some (.istore_n 2, 1) := by decide +kernel
theorem d_67_2 : xcode 67 2 = some (.iload_n 2, 1) := by decide +kernel
theorem d_67_3 : xcode 67 3 = some (.bipush 11, 2) := by decide +kernel
theorem d_67_5 : xcode 67 5 = some (.if_icmp .gt 64, 3) := by decide +kernel
theorem d_67_8 : xcode 67 8 = some (.iload_n 2, 1) := by decide +kernel
theorem d_67_9 : xcode 67 9 = some (.getstatic 104, 3) := by decide +kernel
theorem d_67_12 : xcode 67 12 = some (.arraylength, 1) := by decide +kernel
theorem d_67_13 : xcode 67 13 = some (.if_icmp .ge 56, 3) := by decide +kernel
theorem d_67_16 : xcode 67 16 = some (.getstatic 104, 3) := by decide +kernel
theorem d_67_19 : xcode 67 19 = some (.iload_n 2, 1) := by decide +kernel
theorem d_67_20 : xcode 67 20 = some (.iaload, 1) := by decide +kernel
theorem d_67_21 : xcode 67 21 = some (.istore_n 3, 1) := by decide +kernel
theorem d_67_22 : xcode 67 22 = some (.iload_n 1, 1) := by decide +kernel
theorem d_67_23 : xcode 67 23 = some (.iload_n 3, 1) := by decide +kernel
theorem d_67_24 : xcode 67 24 = some (.isub, 1) := by decide +kernel
theorem d_67_25 : xcode 67 25 = some (.iconst 1, 1) := by decide +kernel
theorem d_67_26 : xcode 67 26 = some (.iadd, 1) := by decide +kernel
theorem d_67_27 : xcode 67 27 = some (.istore 4, 2) := by decide +kernel
theorem d_67_29 : xcode 67 29 = some (.iload 4, 2) := by decide +kernel
theorem d_67_31 : xcode 67 31 = some (.iconst 2, 1) := by decide +kernel
theorem d_67_32 : xcode 67 32 = some (.if_icmp .lt 31, 3) := by decide +kernel
theorem d_67_35 : xcode 67 35 = some (.aload_n 0, 1) := by decide +kernel
theorem d_67_36 : xcode 67 36 = some (.iload_n 3, 1) := by decide +kernel
theorem d_67_37 : xcode 67 37 = some (.iload 4, 2) := by decide +kernel
theorem d_67_39 : xcode 67 39 = some (.iload_n 1, 1) := by decide +kernel
theorem d_67_40 : xcode 67 40 = some (.invokevirtual 119, 3) := by decide +kernel
theorem d_67_43 : xcode 67 43 = some (.ifCond .le 5, 3) := by decide +kernel
theorem d_67_46 : xcode 67 46 = some (.iconst 1, 1) := by decide +kernel
theorem d_67_47 : xcode 67 47 = some (.ireturn, 1) := by decide +kernel
theorem d_67_48 : xcode 67 48 = some (.iload 4, 2) := by decide +kernel
theorem d_67_50 : xcode 67 50 = some (.iload_n 3, 1) := by decide +kernel
theorem d_67_51 : xcode 67 51 = some (.iconst 1, 1) := by decide +kernel
theorem d_67_52 : xcode 67 52 = some (.isub, 1) := by decide +kernel
theorem d_67_53 : xcode 67 53 = some (.iconst 1, 1) := by decide +kernel
theorem d_67_54 : xcode 67 54 = some (.invokestatic 123, 3) := by decide +kernel
theorem d_67_57 : xcode 67 57 = some (.isub, 1) := by decide +kernel
theorem d_67_58 : xcode 67 58 = some (.istore 4, 2) := by decide +kernel
theorem d_67_60 : xcode 67 60 = some (.goto (-31), 3) := by decide +kernel
theorem d_67_63 : xcode 67 63 = some (.iinc 2 1, 3) := by decide +kernel
theorem d_67_66 : xcode 67 66 = some (.goto (-64), 3) := by decide +kernel
theorem d_67_69 : xcode 67 69 = some (.iconst 0, 1) := by decide +kernel
theorem d_67_70 : xcode 67 70 = some (.ireturn, 1) := by decide +kernel
theorem d_68_0 : xcode 68 0 = some (.aload_n 0, 1) := by decide +kernel
theorem d_68_1 : xcode 68 1 = some (.iload_n 1, 1) := by decide +kernel
theorem d_68_2 : xcode 68 2 = some (.iload_n 2, 1) := by decide +kernel
theorem d_68_3 : xcode 68 3 = some (.invokevirtual 66, 3) := by decide +kernel
theorem d_68_6 : xcode 68 6 = some (.ifCond .eq 22, 3) := by decide +kernel
theorem d_68_9 : xcode 68 9 = some (.aload_n 0, 1) := by decide +kernel
theorem d_68_10 : xcode 68 10 = some (.iload_n 1, 1) := by decide +kernel
theorem d_68_11 : xcode 68 11 = some (.iload_n 3, 1) := by decide +kernel
theorem d_68_12 : xcode 68 12 = some (.invokevirtual 66, 3) := by decide +kernel
theorem d_68_15 : xcode 68 15 = some (.ifCond .eq 13, 3) := by decide +kernel
theorem d_68_18 : xcode 68 18 = some (.iload_n 2, 1) := by decide +kernel
theorem d_68_19 : xcode 68 19 = some (.iload_n 3, 1) := by decide +kernel
theorem d_68_20 : xcode 68 20 = some (.isub, 1) := by decide +kernel
theorem d_68_21 : xcode 68 21 = some (.iload_n 1, 1) := by decide +kernel
theorem d_68_22 : xcode 68 22 = some (.iconst 1, 1) := by decide +kernel
theorem d_68_23 : xcode 68 23 = some (.isub, 1) := by decide +kernel
theorem d_68_24 : xcode 68 24 = some (.irem, 1) := by decide +kernel
theorem d_68_25 : xcode 68 25 = some (.ifCond .eq 6, 3) := by decide +kernel
theorem d_68_28 : xcode 68 28 = some (.bipush (-3), 2) := by decide +kernel
theorem d_68_30 : xcode 68 30 = some (.ireturn, 1) := by decide +kernel
theorem d_68_31 : xcode 68 31 = some (.aload_n 0, 1) := by decide +kernel
theorem d_68_32 : xcode 68 32 = some (.iload_n 2, 1) := by decide +kernel
theorem d_68_33 : xcode 68 33 = some (.iload_n 1, 1) := by decide +kernel
theorem d_68_34 : xcode 68 34 = some (.i2l, 1) := by decide +kernel
theorem d_68_35 : xcode 68 35 = some (.invokevirtual 70, 3) := by decide +kernel
theorem d_68_38 : xcode 68 38 = some (.aload_n 0, 1) := by decide +kernel
theorem d_68_39 : xcode 68 39 = some (.iload_n 3, 1) := by decide +kernel
theorem d_68_40 : xcode 68 40 = some (.iload_n 1, 1) := by decide +kernel
theorem d_68_41 : xcode 68 41 = some (.i2l, 1) := by decide +kernel
theorem d_68_42 : xcode 68 42 = some (.invokevirtual 70, 3) := by decide +kernel
theorem d_68_45 : xcode 68 45 = some (.lsub, 1) := by decide +kernel
theorem d_68_46 : xcode 68 46 = some (.iload_n 1, 1) := by decide +kernel
theorem d_68_47 : xcode 68 47 = some (.i2l, 1) := by decide +kernel
theorem d_68_48 : xcode 68 48 = some (.invokestatic 74, 3) := by decide +kernel
theorem d_68_51 : xcode 68 51 = some (.l2i, 1) := by decide +kernel
theorem d_68_52 : xcode 68 52 = some (.ireturn, 1) := by decide +kernel
theorem d_69_0 : xcode 69 0 = some (.iload_n 1, 1) := by decide +kernel
theorem d_69_1 : xcode 69 1 = some (.iconst 1, 1) := by decide +kernel
theorem d_69_2 : xcode 69 2 = some (.if_icmp .le 44, 3) := by decide +kernel
theorem d_69_5 : xcode 69 5 = some (.iload_n 2, 1) := by decide +kernel
theorem d_69_6 : xcode 69 6 = some (.invokestatic 84, 3) := by decide +kernel
theorem d_69_9 : xcode 69 9 = some (.ifCond .eq 37, 3) := by decide +kernel
theorem d_69_12 : xcode 69 12 = some (.iload_n 2, 1) := by decide +kernel
theorem d_69_13 : xcode 69 13 = some (.iload_n 1, 1) := by decide +kernel
theorem d_69_14 : xcode 69 14 = some (.iconst 1, 1) := by decide +kernel
theorem d_69_15 : xcode 69 15 = some (.isub, 1) := by decide +kernel
theorem d_69_16 : xcode 69 16 = some (.irem, 1) := by decide +kernel
theorem d_69_17 : xcode 69 17 = some (.ifCond .eq 29, 3) := by decide +kernel
theorem d_69_20 : xcode 69 20 = some (.iload_n 2, 1) := by decide +kernel
theorem d_69_21 : xcode 69 21 = some (.iload_n 1, 1) := by decide +kernel
theorem d_69_22 : xcode 69 22 = some (.irem, 1) := by decide +kernel
theorem d_69_23 : xcode 69 23 = some (.ifCond .eq 23, 3) := by decide +kernel
theorem d_69_26 : xcode 69 26 = some (.aload_n 0, 1) := by decide +kernel
theorem d_69_27 : xcode 69 27 = some (.getfield 9, 3) := by decide +kernel
theorem d_69_30 : xcode 69 30 = some (.iload_n 2, 1) := by decide +kernel
theorem d_69_31 : xcode 69 31 = some (.invokevirtual 87, 3) := by decide +kernel
theorem d_69_34 : xcode 69 34 = some (.iload_n 1, 1) := by decide +kernel
theorem d_69_35 : xcode 69 35 = some (.i2l, 1) := by decide +kernel
theorem d_69_36 : xcode 69 36 = some (.lrem, 1) := by decide +kernel
theorem d_69_37 : xcode 69 37 = some (.lconst 0, 1) := by decide +kernel
theorem d_69_38 : xcode 69 38 = some (.lcmp, 1) := by decide +kernel
theorem d_69_39 : xcode 69 39 = some (.ifCond .eq 7, 3) := by decide +kernel
theorem d_69_42 : xcode 69 42 = some (.iconst 1, 1) := by decide +kernel
theorem d_69_43 : xcode 69 43 = some (.goto 4, 3) := by decide +kernel
theorem d_69_46 : xcode 69 46 = some (.iconst 0, 1) := by decide +kernel
theorem d_69_47 : xcode 69 47 = some (.ireturn, 1) := by decide +kernel
theorem d_70_0 : xcode 70 0 = some (.lload_n 2, 1) := by decide +kernel
theorem d_70_1 : xcode 70 1 = some (.lconst 0, 1) := by decide +kernel
theorem d_70_2 : xcode 70 2 = some (.lcmp, 1) := by decide +kernel
theorem d_70_3 : xcode 70 3 = some (.ifCond .gt 5, 3) := by decide +kernel
theorem d_70_6 : xcode 70 6 = some (.lconst 0, 1) := by decide +kernel
theorem d_70_7 : xcode 70 7 = some (.lreturn, 1) := by decide +kernel
theorem d_70_8 : xcode 70 8 = some (.aload_n 0, 1) := by decide +kernel
theorem d_70_9 : xcode 70 9 = some (.getfield 9, 3) := by decide +kernel
theorem d_70_12 : xcode 70 12 = some (.iload_n 1, 1) := by decide +kernel
theorem d_70_13 : xcode 70 13 = some (.invokevirtual 87, 3) := by decide +kernel
theorem d_70_16 : xcode 70 16 = some (.lstore 4, 2) := by decide +kernel
theorem d_70_18 : xcode 70 18 = some (.aload_n 0, 1) := by decide +kernel
theorem d_70_19 : xcode 70 19 = some (.getfield 9, 3) := by decide +kernel
theorem d_70_22 : xcode 70 22 = some (.iload_n 1, 1) := by decide +kernel
theorem d_70_23 : xcode 70 23 = some (.invokevirtual 91, 3) := by decide +kernel
theorem d_70_26 : xcode 70 26 = some (.lload_n 2, 1) := by decide +kernel
theorem d_70_27 : xcode 70 27 = some (.lrem, 1) := by decide +kernel
theorem d_70_28 : xcode 70 28 = some (.lload 4, 2) := by decide +kernel
theorem d_70_30 : xcode 70 30 = some (.lmul, 1) := by decide +kernel
theorem d_70_31 : xcode 70 31 = some (.aload_n 0, 1) := by decide +kernel
theorem d_70_32 : xcode 70 32 = some (.getfield 9, 3) := by decide +kernel
theorem d_70_35 : xcode 70 35 = some (.iload_n 1, 1) := by decide +kernel
theorem d_70_36 : xcode 70 36 = some (.invokevirtual 94, 3) := by decide +kernel
theorem d_70_39 : xcode 70 39 = some (.ladd, 1) := by decide +kernel
theorem d_70_40 : xcode 70 40 = some (.lstore 6, 2) := by decide +kernel
theorem d_70_42 : xcode 70 42 = some (.lload 6, 2) := by decide +kernel
theorem d_70_44 : xcode 70 44 = some (.lload_n 2, 1) := by decide +kernel
theorem d_70_45 : xcode 70 45 = some (.lrem, 1) := by decide +kernel
theorem d_70_46 : xcode 70 46 = some (.iload_n 1, 1) := by decide +kernel
theorem d_70_47 : xcode 70 47 = some (.i2l, 1) := by decide +kernel
theorem d_70_48 : xcode 70 48 = some (.lload 4, 2) := by decide +kernel
theorem d_70_50 : xcode 70 50 = some (.lmul, 1) := by decide +kernel
theorem d_70_51 : xcode 70 51 = some (.lload_n 2, 1) := by decide +kernel
theorem d_70_52 : xcode 70 52 = some (.invokestatic 97, 3) := by decide +kernel
theorem d_70_55 : xcode 70 55 = some (.lmul, 1) := by decide +kernel
theorem d_70_56 : xcode 70 56 = some (.lload_n 2, 1) := by decide +kernel
theorem d_70_57 : xcode 70 57 = some (.lrem, 1) := by decide +kernel
theorem d_70_58 : xcode 70 58 = some (.lreturn, 1) := by decide +kernel
theorem d_71_0 : xcode 71 0 = some (.iload_n 0, 1) := by decide +kernel
theorem d_71_1 : xcode 71 1 = some (.iload_n 1, 1) := by decide +kernel
theorem d_71_2 : xcode 71 2 = some (.if_icmp .lt 7, 3) := by decide +kernel
theorem d_71_5 : xcode 71 5 = some (.iload_n 0, 1) := by decide +kernel
theorem d_71_6 : xcode 71 6 = some (.goto 4, 3) := by decide +kernel
theorem d_71_9 : xcode 71 9 = some (.iload_n 1, 1) := by decide +kernel
theorem d_71_10 : xcode 71 10 = some (.ireturn, 1) := by decide +kernel
theorem d_72_0 : xcode 72 0 = some (.iload_n 1, 1) := by decide +kernel
theorem d_72_1 : xcode 72 1 = some (.invokestatic 84, 3) := by decide +kernel
theorem d_72_4 : xcode 72 4 = some (.ifCond .ne 5, 3) := by decide +kernel
theorem d_72_7 : xcode 72 7 = some (.iconst 0, 1) := by decide +kernel
theorem d_72_8 : xcode 72 8 = some (.ireturn, 1) := by decide +kernel
theorem d_72_9 : xcode 72 9 = some (.iconst 2, 1) := by decide +kernel
theorem d_72_10 : xcode 72 10 = some (.istore_n 2, 1) := by decide +kernel
theorem d_72_11 : xcode 72 11 = some (.iload_n 2, 1) := by decide +kernel
theorem d_72_12 : xcode 72 12 = some (.getstatic 104, 3) := by decide +kernel
theorem d_72_15 : xcode 72 15 = some (.arraylength, 1) := by decide +kernel
theorem d_72_16 : xcode 72 16 = some (.if_icmp .ge 75, 3) := by decide +kernel
theorem d_72_19 : xcode 72 19 = some (.getstatic 104, 3) := by decide +kernel
theorem d_72_22 : xcode 72 22 = some (.iload_n 2, 1) := by decide +kernel
theorem d_72_23 : xcode 72 23 = some (.iaload, 1) := by decide +kernel
theorem d_72_24 : xcode 72 24 = some (.istore_n 3, 1) := by decide +kernel
theorem d_72_25 : xcode 72 25 = some (.iload_n 3, 1) := by decide +kernel
theorem d_72_26 : xcode 72 26 = some (.iconst 2, 1) := by decide +kernel
theorem d_72_27 : xcode 72 27 = some (.if_icmp .lt 58, 3) := by decide +kernel
theorem d_72_30 : xcode 72 30 = some (.iload_n 3, 1) := by decide +kernel
theorem d_72_31 : xcode 72 31 = some (.iload_n 1, 1) := by decide +kernel
theorem d_72_32 : xcode 72 32 = some (.if_icmp .gt 53, 3) := by decide +kernel
theorem d_72_35 : xcode 72 35 = some (.iload_n 1, 1) := by decide +kernel
theorem d_72_36 : xcode 72 36 = some (.iload_n 3, 1) := by decide +kernel
theorem d_72_37 : xcode 72 37 = some (.irem, 1) := by decide +kernel
theorem d_72_38 : xcode 72 38 = some (.ifCond .ne 47, 3) := by decide +kernel
theorem d_72_41 : xcode 72 41 = some (.iload_n 1, 1) := by decide +kernel
theorem d_72_42 : xcode 72 42 = some (.iload_n 3, 1) := by decide +kernel
theorem d_72_43 : xcode 72 43 = some (.iconst 1, 1) := by decide +kernel
theorem d_72_44 : xcode 72 44 = some (.isub, 1) := by decide +kernel
theorem d_72_45 : xcode 72 45 = some (.irem, 1) := by decide +kernel
theorem d_72_46 : xcode 72 46 = some (.ifCond .ne 6, 3) := by decide +kernel
theorem d_72_49 : xcode 72 49 = some (.goto 36, 3) := by decide +kernel
theorem d_72_52 : xcode 72 52 = some (.aload_n 0, 1) := by decide +kernel
theorem d_72_53 : xcode 72 53 = some (.getfield 9, 3) := by decide +kernel
theorem d_72_56 : xcode 72 56 = some (.iload_n 1, 1) := by decide +kernel
theorem d_72_57 : xcode 72 57 = some (.invokevirtual 87, 3) := by decide +kernel
theorem d_72_60 : xcode 72 60 = some (.iload_n 3, 1) := by decide +kernel
theorem d_72_61 : xcode 72 61 = some (.i2l, 1) := by decide +kernel
theorem d_72_62 : xcode 72 62 = some (.lrem, 1) := by decide +kernel
theorem d_72_63 : xcode 72 63 = some (.lconst 0, 1) := by decide +kernel
theorem d_72_64 : xcode 72 64 = some (.lcmp, 1) := by decide +kernel
theorem d_72_65 : xcode 72 65 = some (.ifCond .eq 18, 3) := by decide +kernel
theorem d_72_68 : xcode 72 68 = some (.aload_n 0, 1) := by decide +kernel
theorem d_72_69 : xcode 72 69 = some (.getfield 9, 3) := by decide +kernel
theorem d_72_72 : xcode 72 72 = some (.iload_n 1, 1) := by decide +kernel
theorem d_72_73 : xcode 72 73 = some (.iload_n 3, 1) := by decide +kernel
theorem d_72_74 : xcode 72 74 = some (.i2l, 1) := by decide +kernel
theorem d_72_75 : xcode 72 75 = some (.invokevirtual 129, 3) := by decide +kernel
theorem d_72_78 : xcode 72 78 = some (.lconst 0, 1) := by decide +kernel
theorem d_72_79 : xcode 72 79 = some (.lcmp, 1) := by decide +kernel
theorem d_72_80 : xcode 72 80 = some (.ifCond .eq 5, 3) := by decide +kernel
theorem d_72_83 : xcode 72 83 = some (.iconst 1, 1) := by decide +kernel
theorem d_72_84 : xcode 72 84 = some (.ireturn, 1) := by decide +kernel
theorem d_72_85 : xcode 72 85 = some (.iinc 2 1, 3) := by decide +kernel
theorem d_72_88 : xcode 72 88 = some (.goto (-77), 3) := by decide +kernel
theorem d_72_91 : xcode 72 91 = some (.iconst 0, 1) := by decide +kernel
theorem d_72_92 : xcode 72 92 = some (.ireturn, 1) := by decide +kernel
theorem d_73_0 : xcode 73 0 = some (.aload_n 0, 1) := by decide +kernel
theorem d_73_1 : xcode 73 1 = some (.iload_n 1, 1) := by decide +kernel
theorem d_73_2 : xcode 73 2 = some (.invokevirtual 38, 3) := by decide +kernel
theorem d_73_5 : xcode 73 5 = some (.aload_n 0, 1) := by decide +kernel
theorem d_73_6 : xcode 73 6 = some (.iload_n 1, 1) := by decide +kernel
theorem d_73_7 : xcode 73 7 = some (.invokevirtual 42, 3) := by decide +kernel
theorem d_73_10 : xcode 73 10 = some (.aload_n 0, 1) := by decide +kernel
theorem d_73_11 : xcode 73 11 = some (.iload_n 1, 1) := by decide +kernel
theorem d_73_12 : xcode 73 12 = some (.invokevirtual 55, 3) := by decide +kernel
theorem d_73_15 : xcode 73 15 = some (.lload_n 2, 1) := by decide +kernel
theorem d_73_16 : xcode 73 16 = some (.invokestatic 72, 3) := by decide +kernel
theorem d_73_19 : xcode 73 19 = some (.lmul, 1) := by decide +kernel
theorem d_73_20 : xcode 73 20 = some (.ladd, 1) := by decide +kernel
theorem d_73_21 : xcode 73 21 = some (.lload_n 2, 1) := by decide +kernel
theorem d_73_22 : xcode 73 22 = some (.invokestatic 78, 3) := by decide +kernel
theorem d_73_25 : xcode 73 25 = some (.lreturn, 1) := by decide +kernel
theorem d_74_0 : xcode 74 0 = some (.iload_n 1, 1) := by decide +kernel
theorem d_74_1 : xcode 74 1 = some (.iconst 2, 1) := by decide +kernel
theorem d_74_2 : xcode 74 2 = some (.irem, 1) := by decide +kernel
theorem d_74_3 : xcode 74 3 = some (.ifCond .eq 5, 3) := by decide +kernel
theorem d_74_6 : xcode 74 6 = some (.iconst 0, 1) := by decide +kernel
theorem d_74_7 : xcode 74 7 = some (.ireturn, 1) := by decide +kernel
theorem d_74_8 : xcode 74 8 = some (.aload_n 0, 1) := by decide +kernel
theorem d_74_9 : xcode 74 9 = some (.getfield 19, 3) := by decide +kernel
theorem d_74_12 : xcode 74 12 = some (.ldc2_w 48, 3) := by decide +kernel
theorem d_74_15 : xcode 74 15 = some (.invokevirtual 50, 3) := by decide +kernel
theorem d_74_18 : xcode 74 18 = some (.iload_n 1, 1) := by decide +kernel
theorem d_74_19 : xcode 74 19 = some (.istore_n 2, 1) := by decide +kernel
theorem d_74_20 : xcode 74 20 = some (.iload_n 2, 1) := by decide +kernel
theorem d_74_21 : xcode 74 21 = some (.ifCond .lt 25, 3) := by decide +kernel
theorem d_74_24 : xcode 74 24 = some (.aload_n 0, 1) := by decide +kernel
theorem d_74_25 : xcode 74 25 = some (.aload_n 0, 1) := by decide +kernel
theorem d_74_26 : xcode 74 26 = some (.getfield 15, 3) := by decide +kernel
theorem d_74_29 : xcode 74 29 = some (.iload_n 1, 1) := by decide +kernel
theorem d_74_30 : xcode 74 30 = some (.iconst 3, 1) := by decide +kernel
theorem d_74_31 : xcode 74 31 = some (.iadd, 1) := by decide +kernel
theorem d_74_32 : xcode 74 32 = some (.iload_n 2, 1) := by decide +kernel
theorem d_74_33 : xcode 74 33 = some (.invokevirtual 56, 3) := by decide +kernel
theorem d_74_36 : xcode 74 36 = some (.iload_n 2, 1) := by decide +kernel
theorem d_74_37 : xcode 74 37 = some (.invokevirtual 62, 3) := by decide +kernel
theorem d_74_40 : xcode 74 40 = some (.iinc 2 (-6), 3) := by decide +kernel
theorem d_74_43 : xcode 74 43 = some (.goto (-23), 3) := by decide +kernel
theorem d_74_46 : xcode 74 46 = some (.iload_n 1, 1) := by decide +kernel
theorem d_74_47 : xcode 74 47 = some (.bipush 6, 2) := by decide +kernel
theorem d_74_49 : xcode 74 49 = some (.irem, 1) := by decide +kernel
theorem d_74_50 : xcode 74 50 = some (.iconst 4, 1) := by decide +kernel
theorem d_74_51 : xcode 74 51 = some (.if_icmp .ne 22, 3) := by decide +kernel
theorem d_74_54 : xcode 74 54 = some (.aload_n 0, 1) := by decide +kernel
theorem d_74_55 : xcode 74 55 = some (.getfield 19, 3) := by decide +kernel
theorem d_74_58 : xcode 74 58 = some (.iload_n 1, 1) := by decide +kernel
theorem d_74_59 : xcode 74 59 = some (.iconst 3, 1) := by decide +kernel
theorem d_74_60 : xcode 74 60 = some (.iadd, 1) := by decide +kernel
theorem d_74_61 : xcode 74 61 = some (.i2l, 1) := by decide +kernel
theorem d_74_62 : xcode 74 62 = some (.lconst 0, 1) := by decide +kernel
theorem d_74_63 : xcode 74 63 = some (.lconst 1, 1) := by decide +kernel
theorem d_74_64 : xcode 74 64 = some (.ldc2_w 132, 3) := by decide +kernel
theorem d_74_67 : xcode 74 67 = some (.invokevirtual 100, 3) := by decide +kernel
theorem d_74_70 : xcode 74 70 = some (.goto 20, 3) := by decide +kernel
theorem d_74_73 : xcode 74 73 = some (.aload_n 0, 1) := by decide +kernel
theorem d_74_74 : xcode 74 74 = some (.getfield 19, 3) := by decide +kernel
theorem d_74_77 : xcode 74 77 = some (.iload_n 1, 1) := by decide +kernel
theorem d_74_78 : xcode 74 78 = some (.iconst 3, 1) := by decide +kernel
theorem d_74_79 : xcode 74 79 = some (.iadd, 1) := by decide +kernel
theorem d_74_80 : xcode 74 80 = some (.ineg, 1) := by decide +kernel
theorem d_74_81 : xcode 74 81 = some (.i2l, 1) := by decide +kernel
theorem d_74_82 : xcode 74 82 = some (.lconst 0, 1) := by decide +kernel
theorem d_74_83 : xcode 74 83 = some (.lconst 1, 1) := by decide +kernel
theorem d_74_84 : xcode 74 84 = some (.ldc2_w 134, 3) := by decide +kernel
theorem d_74_87 : xcode 74 87 = some (.invokevirtual 100, 3) := by decide +kernel
theorem d_74_90 : xcode 74 90 = some (.aload_n 0, 1) := by decide +kernel
theorem d_74_91 : xcode 74 91 = some (.getfield 19, 3) := by decide +kernel
theorem d_74_94 : xcode 74 94 = some (.invokevirtual 115, 3) := by decide +kernel
theorem d_74_97 : xcode 74 97 = some (.ifCond .ne 7, 3) := by decide +kernel
theorem d_74_100 : xcode 74 100 = some (.iconst 1, 1) := by decide +kernel
theorem d_74_101 : xcode 74 101 = some (.goto 4, 3) := by decide +kernel
theorem d_74_104 : xcode 74 104 = some (.iconst 0, 1) := by decide +kernel
theorem d_74_105 : xcode 74 105 = some (.ireturn, 1) := by decide +kernel
theorem d_75_0 : xcode 75 0 = some (.iload_n 1, 1) := by decide +kernel
theorem d_75_1 : xcode 75 1 = some (.invokestatic 146, 3) := by decide +kernel
theorem d_75_4 : xcode 75 4 = some (.ifCond .ne 5, 3) := by decide +kernel
theorem d_75_7 : xcode 75 7 = some (.iconst (-1), 1) := by decide +kernel
theorem d_75_8 : xcode 75 8 = some (.ireturn, 1) := by decide +kernel
theorem d_75_9 : xcode 75 9 = some (.aload_n 0, 1) := by decide +kernel
theorem d_75_10 : xcode 75 10 = some (.iload_n 1, 1) := by decide +kernel
theorem d_75_11 : xcode 75 11 = some (.invokevirtual 149, 3) := by decide +kernel
theorem d_75_14 : xcode 75 14 = some (.lstore_n 2, 1) := by decide +kernel
theorem d_75_15 : xcode 75 15 = some (.iconst 0, 1) := by decide +kernel
theorem d_75_16 : xcode 75 16 = some (.istore 4, 2) := by decide +kernel
theorem d_75_18 : xcode 75 18 = some (.iconst 0, 1) := by decide +kernel
theorem d_75_19 : xcode 75 19 = some (.istore 5, 2) := by decide +kernel
theorem d_75_21 : xcode 75 21 = some (.iload 5, 2) := by decide +kernel
theorem d_75_23 : xcode 75 23 = some (.aload_n 0, 1) := by decide +kernel
theorem d_75_24 : xcode 75 24 = some (.getfield 49, 3) := by decide +kernel
theorem d_75_27 : xcode 75 27 = some (.if_icmp .gt 33, 3) := by decide +kernel
theorem d_75_30 : xcode 75 30 = some (.lload_n 2, 1) := by decide +kernel
theorem d_75_31 : xcode 75 31 = some (.iload 5, 2) := by decide +kernel
theorem d_75_33 : xcode 75 33 = some (.lshr, 1) := by decide +kernel
theorem d_75_34 : xcode 75 34 = some (.lconst 1, 1) := by decide +kernel
theorem d_75_35 : xcode 75 35 = some (.land, 1) := by decide +kernel
theorem d_75_36 : xcode 75 36 = some (.lconst 1, 1) := by decide +kernel
theorem d_75_37 : xcode 75 37 = some (.lcmp, 1) := by decide +kernel
theorem d_75_38 : xcode 75 38 = some (.ifCond .ne 16, 3) := by decide +kernel
theorem d_75_41 : xcode 75 41 = some (.aload_n 0, 1) := by decide +kernel
theorem d_75_42 : xcode 75 42 = some (.iload 5, 2) := by decide +kernel
theorem d_75_44 : xcode 75 44 = some (.iconst 1, 1) := by decide +kernel
theorem d_75_45 : xcode 75 45 = some (.invokevirtual 130, 3) := by decide +kernel
theorem d_75_48 : xcode 75 48 = some (.ifCond .eq 6, 3) := by decide +kernel
theorem d_75_51 : xcode 75 51 = some (.iinc 4 1, 3) := by decide +kernel
theorem d_75_54 : xcode 75 54 = some (.iinc 5 1, 3) := by decide +kernel
theorem d_75_57 : xcode 75 57 = some (.goto (-36), 3) := by decide +kernel
theorem d_75_60 : xcode 75 60 = some (.iload 4, 2) := by decide +kernel
theorem d_75_62 : xcode 75 62 = some (.ireturn, 1) := by decide +kernel
theorem d_76_0 : xcode 76 0 = some (.iload_n 0, 1) := by decide +kernel
theorem d_76_1 : xcode 76 1 = some (.ifCond .lt 13, 3) := by decide +kernel
theorem d_76_4 : xcode 76 4 = some (.iload_n 0, 1) := by decide +kernel
theorem d_76_5 : xcode 76 5 = some (.bipush 63, 2) := by decide +kernel
theorem d_76_7 : xcode 76 7 = some (.if_icmp .gt 7, 3) := by decide +kernel
theorem d_76_10 : xcode 76 10 = some (.iconst 1, 1) := by decide +kernel
theorem d_76_11 : xcode 76 11 = some (.goto 4, 3) := by decide +kernel
theorem d_76_14 : xcode 76 14 = some (.iconst 0, 1) := by decide +kernel
theorem d_76_15 : xcode 76 15 = some (.ireturn, 1) := by decide +kernel
theorem d_77_0 : xcode 77 0 = some (.lconst 0, 1) := by decide +kernel
theorem d_77_1 : xcode 77 1 = some (.lstore_n 2, 1) := by decide +kernel
theorem d_77_2 : xcode 77 2 = some (.iconst 0, 1) := by decide +kernel
theorem d_77_3 : xcode 77 3 = some (.istore 4, 2) := by decide +kernel
theorem d_77_5 : xcode 77 5 = some (.iload 4, 2) := by decide +kernel
theorem d_77_7 : xcode 77 7 = some (.aload_n 0, 1) := by decide +kernel
theorem d_77_8 : xcode 77 8 = some (.getfield 49, 3) := by decide +kernel
theorem d_77_11 : xcode 77 11 = some (.if_icmp .gt 29, 3) := by decide +kernel
theorem d_77_14 : xcode 77 14 = some (.aload_n 0, 1) := by decide +kernel
theorem d_77_15 : xcode 77 15 = some (.getfield 58, 3) := by decide +kernel
theorem d_77_18 : xcode 77 18 = some (.iload 4, 2) := by decide +kernel
theorem d_77_20 : xcode 77 20 = some (.iload_n 1, 1) := by decide +kernel
theorem d_77_21 : xcode 77 21 = some (.invokevirtual 142, 3) := by decide +kernel
theorem d_77_24 : xcode 77 24 = some (.ifCond .eq 10, 3) := by decide +kernel
theorem d_77_27 : xcode 77 27 = some (.lload_n 2, 1) := by decide +kernel
theorem d_77_28 : xcode 77 28 = some (.lconst 1, 1) := by decide +kernel
theorem d_77_29 : xcode 77 29 = some (.iload 4, 2) := by decide +kernel
theorem d_77_31 : xcode 77 31 = some (.lshl, 1) := by decide +kernel
theorem d_77_32 : xcode 77 32 = some (.lor, 1) := by decide +kernel
theorem d_77_33 : xcode 77 33 = some (.lstore_n 2, 1) := by decide +kernel
theorem d_77_34 : xcode 77 34 = some (.iinc 4 1, 3) := by decide +kernel
theorem d_77_37 : xcode 77 37 = some (.goto (-32), 3) := by decide +kernel
theorem d_77_40 : xcode 77 40 = some (.lload_n 2, 1) := by decide +kernel
theorem d_77_41 : xcode 77 41 = some (.lreturn, 1) := by decide +kernel
theorem d_78_0 : xcode 78 0 = some (.iload_n 1, 1) := by decide +kernel
theorem d_78_1 : xcode 78 1 = some (.invokestatic 120, 3) := by decide +kernel
theorem d_78_4 : xcode 78 4 = some (.ifCond .ne 5, 3) := by decide +kernel
theorem d_78_7 : xcode 78 7 = some (.iconst (-1), 1) := by decide +kernel
theorem d_78_8 : xcode 78 8 = some (.ireturn, 1) := by decide +kernel
theorem d_78_9 : xcode 78 9 = some (.iload_n 1, 1) := by decide +kernel
theorem d_78_10 : xcode 78 10 = some (.aload_n 0, 1) := by decide +kernel
theorem d_78_11 : xcode 78 11 = some (.getfield 49, 3) := by decide +kernel
theorem d_78_14 : xcode 78 14 = some (.if_icmp .le 8, 3) := by decide +kernel
theorem d_78_17 : xcode 78 17 = some (.bipush (-2), 2) := by decide +kernel
theorem d_78_19 : xcode 78 19 = some (.goto 9, 3) := by decide +kernel
theorem d_78_22 : xcode 78 22 = some (.aload_n 0, 1) := by decide +kernel
theorem d_78_23 : xcode 78 23 = some (.getfield 45, 3) := by decide +kernel
theorem d_78_26 : xcode 78 26 = some (.iload_n 1, 1) := by decide +kernel
theorem d_78_27 : xcode 78 27 = some (.iaload, 1) := by decide +kernel
theorem d_78_28 : xcode 78 28 = some (.ireturn, 1) := by decide +kernel
theorem d_79_0 : xcode 79 0 = some (.iload_n 1, 1) := by decide +kernel
theorem d_79_1 : xcode 79 1 = some (.invokestatic 120, 3) := by decide +kernel
theorem d_79_4 : xcode 79 4 = some (.ifCond .ne 5, 3) := by decide +kernel
theorem d_79_7 : xcode 79 7 = some (.iconst (-1), 1) := by decide +kernel
theorem d_79_8 : xcode 79 8 = some (.ireturn, 1) := by decide +kernel
theorem d_79_9 : xcode 79 9 = some (.iload_n 1, 1) := by decide +kernel
theorem d_79_10 : xcode 79 10 = some (.aload_n 0, 1) := by decide +kernel
theorem d_79_11 : xcode 79 11 = some (.getfield 49, 3) := by decide +kernel
theorem d_79_14 : xcode 79 14 = some (.if_icmp .le 6, 3) := by decide +kernel
theorem d_79_17 : xcode 79 17 = some (.bipush (-2), 2) := by decide +kernel
theorem d_79_19 : xcode 79 19 = some (.ireturn, 1) := by decide +kernel
theorem d_79_20 : xcode 79 20 = some (.aload_n 0, 1) := by decide +kernel
theorem d_79_21 : xcode 79 21 = some (.iload_n 1, 1) := by decide +kernel
theorem d_79_22 : xcode 79 22 = some (.invokevirtual 174, 3) := by decide +kernel
theorem d_79_25 : xcode 79 25 = some (.ifCond .eq 7, 3) := by decide +kernel
theorem d_79_28 : xcode 79 28 = some (.iconst 1, 1) := by decide +kernel
theorem d_79_29 : xcode 79 29 = some (.goto 4, 3) := by decide +kernel
theorem d_79_32 : xcode 79 32 = some (.iconst 0, 1) := by decide +kernel
theorem d_79_33 : xcode 79 33 = some (.ireturn, 1) := by decide +kernel
theorem d_80_0 : xcode 80 0 = some (.iload_n 1, 1) := by decide +kernel
theorem d_80_1 : xcode 80 1 = some (.invokestatic 120, 3) := by decide +kernel
theorem d_80_4 : xcode 80 4 = some (.ifCond .ne 5, 3) := by decide +kernel
theorem d_80_7 : xcode 80 7 = some (.iconst (-1), 1) := by decide +kernel
theorem d_80_8 : xcode 80 8 = some (.ireturn, 1) := by decide +kernel
theorem d_80_9 : xcode 80 9 = some (.iload_n 1, 1) := by decide +kernel
theorem d_80_10 : xcode 80 10 = some (.aload_n 0, 1) := by decide +kernel
theorem d_80_11 : xcode 80 11 = some (.getfield 49, 3) := by decide +kernel
theorem d_80_14 : xcode 80 14 = some (.if_icmp .le 6, 3) := by decide +kernel
theorem d_80_17 : xcode 80 17 = some (.bipush (-2), 2) := by decide +kernel
theorem d_80_19 : xcode 80 19 = some (.ireturn, 1) := by decide +kernel
theorem d_80_20 : xcode 80 20 = some (.iconst 0, 1) := by decide +kernel
theorem d_80_21 : xcode 80 21 = some (.istore_n 2, 1) := by decide +kernel
theorem d_80_22 : xcode 80 22 = some (.iconst 0, 1) := by decide +kernel
theorem d_80_23 : xcode 80 23 = some (.istore_n 3, 1) := by decide +kernel
theorem d_80_24 : xcode 80 24 = some (.iload_n 3, 1) := by decide +kernel
theorem d_80_25 : xcode 80 25 = some (.iconst 2, 1) := by decide +kernel
theorem d_80_26 : xcode 80 26 = some (.if_icmp .gt 48, 3) := by decide +kernel
theorem d_80_29 : xcode 80 29 = some (.iload_n 3, 1) := by decide +kernel
theorem d_80_30 : xcode 80 30 = some (.ifCond .ne 14, 3) := by decide +kernel
theorem d_80_33 : xcode 80 33 = some (.aload_n 0, 1) := by decide +kernel
theorem d_80_34 : xcode 80 34 = some (.iload_n 1, 1) := by decide +kernel
theorem d_80_35 : xcode 80 35 = some (.invokevirtual 127, 3) := by decide +kernel
theorem d_80_38 : xcode 80 38 = some (.ifCond .ne 6, 3) := by decide +kernel
theorem d_80_41 : xcode 80 41 = some (.goto 27, 3) := by decide +kernel
theorem d_80_44 : xcode 80 44 = some (.aload_n 0, 1) := by decide +kernel
theorem d_80_45 : xcode 80 45 = some (.iload_n 1, 1) := by decide +kernel
theorem d_80_46 : xcode 80 46 = some (.iload_n 3, 1) := by decide +kernel
theorem d_80_47 : xcode 80 47 = some (.invokevirtual 177, 3) := by decide +kernel
theorem d_80_50 : xcode 80 50 = some (.aload_n 0, 1) := by decide +kernel
theorem d_80_51 : xcode 80 51 = some (.getfield 39, 3) := by decide +kernel
theorem d_80_54 : xcode 80 54 = some (.iload_n 1, 1) := by decide +kernel
theorem d_80_55 : xcode 80 55 = some (.aload_n 0, 1) := by decide +kernel
theorem d_80_56 : xcode 80 56 = some (.getfield 95, 3) := by decide +kernel
theorem d_80_59 : xcode 80 59 = some (.invokevirtual 180, 3) := by decide +kernel
theorem d_80_62 : xcode 80 62 = some (.ifCond .eq 6, 3) := by decide +kernel
theorem d_80_65 : xcode 80 65 = some (.iinc 2 1, 3) := by decide +kernel
theorem d_80_68 : xcode 80 68 = some (.iinc 3 1, 3) := by decide +kernel
theorem d_80_71 : xcode 80 71 = some (.goto (-47), 3) := by decide +kernel
theorem d_80_74 : xcode 80 74 = some (.iload_n 2, 1) := by decide +kernel
theorem d_80_75 : xcode 80 75 = some (.ireturn, 1) := by decide +kernel
theorem d_81_0 : xcode 81 0 = some (.iload_n 1, 1) := by decide +kernel
theorem d_81_1 : xcode 81 1 = some (.invokestatic 120, 3) := by decide +kernel
theorem d_81_4 : xcode 81 4 = some (.ifCond .eq 7, 3) := by decide +kernel
theorem d_81_7 : xcode 81 7 = some (.iload_n 2, 1) := by decide +kernel
theorem d_81_8 : xcode 81 8 = some (.ifCond .ge 5, 3) := by decide +kernel
theorem d_81_11 : xcode 81 11 = some (.iconst (-1), 1) := by decide +kernel
theorem d_81_12 : xcode 81 12 = some (.ireturn, 1) := by decide +kernel
theorem d_81_13 : xcode 81 13 = some (.iconst 0, 1) := by decide +kernel
theorem d_81_14 : xcode 81 14 = some (.istore_n 3, 1) := by decide +kernel
theorem d_81_15 : xcode 81 15 = some (.getstatic 184, 3) := by decide +kernel
theorem d_81_18 : xcode 81 18 = some (.astore 4, 2) := by decide +kernel
theorem d_81_20 : xcode 81 20 = some (.aload 4, 2) := by decide +kernel
theorem d_81_22 : xcode 81 22 = some (.arraylength, 1) := by decide +kernel
theorem d_81_23 : xcode 81 23 = some (.istore 5, 2) := by decide +kernel
theorem d_81_25 : xcode 81 25 = some (.iconst 0, 1) := by decide +kernel
theorem d_81_26 : xcode 81 26 = some (.istore 6, 2) := by decide +kernel
theorem d_81_28 : xcode 81 28 = some (.iload 6, 2) := by decide +kernel
theorem d_81_30 : xcode 81 30 = some (.iload 5, 2) := by decide +kernel
theorem d_81_32 : xcode 81 32 = some (.if_icmp .ge 39, 3) := by decide +kernel
theorem d_81_35 : xcode 81 35 = some (.aload 4, 2) := by decide +kernel
theorem d_81_37 : xcode 81 37 = some (.iload 6, 2) := by decide +kernel
theorem d_81_39 : xcode 81 39 = some (.iaload, 1) := by decide +kernel
theorem d_81_40 : xcode 81 40 = some (.istore 7, 2) := by decide +kernel
theorem d_81_42 : xcode 81 42 = some (.iload 7, 2) := by decide +kernel
theorem d_81_44 : xcode 81 44 = some (.iload_n 1, 1) := by decide +kernel
theorem d_81_45 : xcode 81 45 = some (.invokestatic 187, 3) := by decide +kernel
theorem d_81_48 : xcode 81 48 = some (.ifCond .ne 6, 3) := by decide +kernel
theorem d_81_51 : xcode 81 51 = some (.goto 14, 3) := by decide +kernel
theorem d_81_54 : xcode 81 54 = some (.iload_n 3, 1) := by decide +kernel
theorem d_81_55 : xcode 81 55 = some (.iload_n 2, 1) := by decide +kernel
theorem d_81_56 : xcode 81 56 = some (.if_icmp .ne 6, 3) := by decide +kernel
theorem d_81_59 : xcode 81 59 = some (.iload 7, 2) := by decide +kernel
theorem d_81_61 : xcode 81 61 = some (.ireturn, 1) := by decide +kernel
theorem d_81_62 : xcode 81 62 = some (.iinc 3 1, 3) := by decide +kernel
theorem d_81_65 : xcode 81 65 = some (.iinc 6 1, 3) := by decide +kernel
theorem d_81_68 : xcode 81 68 = some (.goto (-40), 3) := by decide +kernel
theorem d_81_71 : xcode 81 71 = some (.bipush (-2), 2) := by decide +kernel
theorem d_81_73 : xcode 81 73 = some (.ireturn, 1) := by decide +kernel
theorem d_82_0 : xcode 82 0 = some (.iload_n 1, 1) := by decide +kernel
theorem d_82_1 : xcode 82 1 = some (.invokestatic 120, 3) := by decide +kernel
theorem d_82_4 : xcode 82 4 = some (.ifCond .eq 10, 3) := by decide +kernel
theorem d_82_7 : xcode 82 7 = some (.iload_n 1, 1) := by decide +kernel
theorem d_82_8 : xcode 82 8 = some (.invokestatic 190, 3) := by decide +kernel
theorem d_82_11 : xcode 82 11 = some (.ifCond .ne 7, 3) := by decide +kernel
theorem d_82_14 : xcode 82 14 = some (.ldc2_w 166, 3) := by decide +kernel
theorem d_82_17 : xcode 82 17 = some (.lreturn, 1) := by decide +kernel
theorem d_82_18 : xcode 82 18 = some (.aload_n 0, 1) := by decide +kernel
theorem d_82_19 : xcode 82 19 = some (.getfield 21, 3) := by decide +kernel
theorem d_82_22 : xcode 82 22 = some (.ldc2_w 193, 3) := by decide +kernel
theorem d_82_25 : xcode 82 25 = some (.invokevirtual 195, 3) := by decide +kernel
theorem d_82_28 : xcode 82 28 = some (.aload_n 0, 1) := by decide +kernel
theorem d_82_29 : xcode 82 29 = some (.getfield 21, 3) := by decide +kernel
theorem d_82_32 : xcode 82 32 = some (.lconst 1, 1) := by decide +kernel
theorem d_82_33 : xcode 82 33 = some (.aload_n 0, 1) := by decide +kernel
theorem d_82_34 : xcode 82 34 = some (.getfield 35, 3) := by decide +kernel
theorem d_82_37 : xcode 82 37 = some (.iload_n 1, 1) := by decide +kernel
theorem d_82_38 : xcode 82 38 = some (.invokevirtual 198, 3) := by decide +kernel
theorem d_82_41 : xcode 82 41 = some (.aload_n 0, 1) := by decide +kernel
theorem d_82_42 : xcode 82 42 = some (.getfield 35, 3) := by decide +kernel
theorem d_82_45 : xcode 82 45 = some (.iload_n 1, 1) := by decide +kernel
theorem d_82_46 : xcode 82 46 = some (.invokevirtual 201, 3) := by decide +kernel
theorem d_82_49 : xcode 82 49 = some (.aload_n 0, 1) := by decide +kernel
theorem d_82_50 : xcode 82 50 = some (.getfield 35, 3) := by decide +kernel
theorem d_82_53 : xcode 82 53 = some (.iload_n 1, 1) := by decide +kernel
theorem d_82_54 : xcode 82 54 = some (.invokevirtual 204, 3) := by decide +kernel
theorem d_82_57 : xcode 82 57 = some (.invokevirtual 207, 3) := by decide +kernel
theorem d_82_60 : xcode 82 60 = some (.aload_n 0, 1) := by decide +kernel
theorem d_82_61 : xcode 82 61 = some (.iload_n 1, 1) := by decide +kernel
theorem d_82_62 : xcode 82 62 = some (.iconst 1, 1) := by decide +kernel
theorem d_82_63 : xcode 82 63 = some (.invokevirtual 211, 3) := by decide +kernel
theorem d_82_66 : xcode 82 66 = some (.aload_n 0, 1) := by decide +kernel
theorem d_82_67 : xcode 82 67 = some (.getfield 21, 3) := by decide +kernel
theorem d_82_70 : xcode 82 70 = some (.aload_n 0, 1) := by decide +kernel
theorem d_82_71 : xcode 82 71 = some (.getfield 95, 3) := by decide +kernel
theorem d_82_74 : xcode 82 74 = some (.invokevirtual 214, 3) := by decide +kernel
theorem d_82_77 : xcode 82 77 = some (.aload_n 0, 1) := by decide +kernel
theorem d_82_78 : xcode 82 78 = some (.getfield 95, 3) := by decide +kernel
theorem d_82_81 : xcode 82 81 = some (.getfield 218, 3) := by decide +kernel
theorem d_82_84 : xcode 82 84 = some (.lreturn, 1) := by decide +kernel
theorem d_83_0 : xcode 83 0 = some (.iload_n 1, 1) := by decide +kernel
theorem d_83_1 : xcode 83 1 = some (.invokestatic 120, 3) := by decide +kernel
theorem d_83_4 : xcode 83 4 = some (.ifCond .eq 10, 3) := by decide +kernel
theorem d_83_7 : xcode 83 7 = some (.iload_n 2, 1) := by decide +kernel
theorem d_83_8 : xcode 83 8 = some (.invokestatic 222, 3) := by decide +kernel
theorem d_83_11 : xcode 83 11 = some (.ifCond .ne 5, 3) := by decide +kernel
theorem d_83_14 : xcode 83 14 = some (.iconst (-1), 1) := by decide +kernel
theorem d_83_15 : xcode 83 15 = some (.ireturn, 1) := by decide +kernel
theorem d_83_16 : xcode 83 16 = some (.iload_n 1, 1) := by decide +kernel
theorem d_83_17 : xcode 83 17 = some (.aload_n 0, 1) := by decide +kernel
theorem d_83_18 : xcode 83 18 = some (.getfield 49, 3) := by decide +kernel
theorem d_83_21 : xcode 83 21 = some (.if_icmp .le 6, 3) := by decide +kernel
theorem d_83_24 : xcode 83 24 = some (.bipush (-2), 2) := by decide +kernel
theorem d_83_26 : xcode 83 26 = some (.ireturn, 1) := by decide +kernel
theorem d_83_27 : xcode 83 27 = some (.aload_n 0, 1) := by decide +kernel
theorem d_83_28 : xcode 83 28 = some (.iload_n 1, 1) := by decide +kernel
theorem d_83_29 : xcode 83 29 = some (.iload_n 2, 1) := by decide +kernel
theorem d_83_30 : xcode 83 30 = some (.invokevirtual 225, 3) := by decide +kernel
theorem d_83_33 : xcode 83 33 = some (.istore_n 3, 1) := by decide +kernel
theorem d_83_34 : xcode 83 34 = some (.iload_n 3, 1) := by decide +kernel
theorem d_83_35 : xcode 83 35 = some (.ifCond .lt 13, 3) := by decide +kernel
theorem d_83_38 : xcode 83 38 = some (.aload_n 0, 1) := by decide +kernel
theorem d_83_39 : xcode 83 39 = some (.getfield 65, 3) := by decide +kernel
theorem d_83_42 : xcode 83 42 = some (.iload_n 1, 1) := by decide +kernel
theorem d_83_43 : xcode 83 43 = some (.iload_n 2, 1) := by decide +kernel
theorem d_83_44 : xcode 83 44 = some (.iload_n 3, 1) := by decide +kernel
theorem d_83_45 : xcode 83 45 = some (.invokevirtual 228, 3) := by decide +kernel
theorem d_83_48 : xcode 83 48 = some (.iload_n 3, 1) := by decide +kernel
theorem d_83_49 : xcode 83 49 = some (.ireturn, 1) := by decide +kernel
theorem d_84_0 : xcode 84 0 = some (.iload_n 0, 1) := by decide +kernel
theorem d_84_1 : xcode 84 1 = some (.iconst 3, 1) := by decide +kernel
theorem d_84_2 : xcode 84 2 = some (.if_icmp .lt 10, 3) := by decide +kernel
theorem d_84_5 : xcode 84 5 = some (.iload_n 0, 1) := by decide +kernel
theorem d_84_6 : xcode 84 6 = some (.sipush 199, 3) := by decide +kernel
theorem d_84_9 : xcode 84 9 = some (.if_icmp .le 5, 3) := by decide +kernel
theorem d_84_12 : xcode 84 12 = some (.iconst 0, 1) := by decide +kernel
theorem d_84_13 : xcode 84 13 = some (.ireturn, 1) := by decide +kernel
theorem d_84_14 : xcode 84 14 = some (.getstatic 184, 3) := by decide +kernel
theorem d_84_17 : xcode 84 17 = some (.astore_n 1, 1) := by decide +kernel
theorem d_84_18 : xcode 84 18 = some (.aload_n 1, 1) := by decide +kernel
theorem d_84_19 : xcode 84 19 = some (.arraylength, 1) := by decide +kernel
theorem d_84_20 : xcode 84 20 = some (.istore_n 2, 1) := by decide +kernel
theorem d_84_21 : xcode 84 21 = some (.iconst 0, 1) := by decide +kernel
theorem d_84_22 : xcode 84 22 = some (.istore_n 3, 1) := by decide +kernel
theorem d_84_23 : xcode 84 23 = some (.iload_n 3, 1) := by decide +kernel
theorem d_84_24 : xcode 84 24 = some (.iload_n 2, 1) := by decide +kernel
theorem d_84_25 : xcode 84 25 = some (.if_icmp .ge 22, 3) := by decide +kernel
theorem d_84_28 : xcode 84 28 = some (.aload_n 1, 1) := by decide +kernel
theorem d_84_29 : xcode 84 29 = some (.iload_n 3, 1) := by decide +kernel
theorem d_84_30 : xcode 84 30 = some (.iaload, 1) := by decide +kernel
theorem d_84_31 : xcode 84 31 = some (.istore 4, 2) := by decide +kernel
theorem d_84_33 : xcode 84 33 = some (.iload 4, 2) := by decide +kernel
theorem d_84_35 : xcode 84 35 = some (.iload_n 0, 1) := by decide +kernel
theorem d_84_36 : xcode 84 36 = some (.if_icmp .ne 5, 3) := by decide +kernel
theorem d_84_39 : xcode 84 39 = some (.iconst 1, 1) := by decide +kernel
theorem d_84_40 : xcode 84 40 = some (.ireturn, 1) := by decide +kernel
theorem d_84_41 : xcode 84 41 = some (.iinc 3 1, 3) := by decide +kernel
theorem d_84_44 : xcode 84 44 = some (.goto (-21), 3) := by decide +kernel
theorem d_84_47 : xcode 84 47 = some (.iconst 0, 1) := by decide +kernel
theorem d_84_48 : xcode 84 48 = some (.ireturn, 1) := by decide +kernel
theorem d_85_0 : xcode 85 0 = some (.iload_n 2, 1) := by decide +kernel
theorem d_85_1 : xcode 85 1 = some (.iconst 3, 1) := by decide +kernel
theorem d_85_2 : xcode 85 2 = some (.if_icmp .lt 19, 3) := by decide +kernel
theorem d_85_5 : xcode 85 5 = some (.aload_n 0, 1) := by decide +kernel
theorem d_85_6 : xcode 85 6 = some (.getfield 39, 3) := by decide +kernel
theorem d_85_9 : xcode 85 9 = some (.iload_n 1, 1) := by decide +kernel
theorem d_85_10 : xcode 85 10 = some (.invokevirtual 204, 3) := by decide +kernel
theorem d_85_13 : xcode 85 13 = some (.iload_n 2, 1) := by decide +kernel
theorem d_85_14 : xcode 85 14 = some (.i2l, 1) := by decide +kernel
theorem d_85_15 : xcode 85 15 = some (.lrem, 1) := by decide +kernel
theorem d_85_16 : xcode 85 16 = some (.lconst 0, 1) := by decide +kernel
theorem d_85_17 : xcode 85 17 = some (.lcmp, 1) := by decide +kernel
theorem d_85_18 : xcode 85 18 = some (.ifCond .ne 6, 3) := by decide +kernel
theorem d_85_21 : xcode 85 21 = some (.bipush (-3), 2) := by decide +kernel
theorem d_85_23 : xcode 85 23 = some (.ireturn, 1) := by decide +kernel
theorem d_85_24 : xcode 85 24 = some (.aload_n 0, 1) := by decide +kernel
theorem d_85_25 : xcode 85 25 = some (.getfield 39, 3) := by decide +kernel
theorem d_85_28 : xcode 85 28 = some (.iload_n 1, 1) := by decide +kernel
theorem d_85_29 : xcode 85 29 = some (.iload_n 2, 1) := by decide +kernel
theorem d_85_30 : xcode 85 30 = some (.i2l, 1) := by decide +kernel
theorem d_85_31 : xcode 85 31 = some (.invokevirtual 444, 3) := by decide +kernel
theorem d_85_34 : xcode 85 34 = some (.l2i, 1) := by decide +kernel
theorem d_85_35 : xcode 85 35 = some (.ireturn, 1) := by decide +kernel
theorem d_86_0 : xcode 86 0 = some (.aload_n 0, 1) := by decide +kernel
theorem d_86_1 : xcode 86 1 = some (.iload_n 1, 1) := by decide +kernel
theorem d_86_2 : xcode 86 2 = some (.iload_n 2, 1) := by decide +kernel
theorem d_86_3 : xcode 86 3 = some (.invokevirtual 29, 3) := by decide +kernel
theorem d_86_6 : xcode 86 6 = some (.istore 4, 2) := by decide +kernel
theorem d_86_8 : xcode 86 8 = some (.iload 4, 2) := by decide +kernel
theorem d_86_10 : xcode 86 10 = some (.bipush 20, 2) := by decide +kernel
theorem d_86_12 : xcode 86 12 = some (.if_icmp .ne 11, 3) := by decide +kernel
theorem d_86_15 : xcode 86 15 = some (.aload_n 0, 1) := by decide +kernel
theorem d_86_16 : xcode 86 16 = some (.invokevirtual 33, 3) := by decide +kernel
theorem d_86_19 : xcode 86 19 = some (.bipush 19, 2) := by decide +kernel
theorem d_86_21 : xcode 86 21 = some (.istore 4, 2) := by decide +kernel
theorem d_86_23 : xcode 86 23 = some (.iload 4, 2) := by decide +kernel
theorem d_86_25 : xcode 86 25 = some (.aload_n 0, 1) := by decide +kernel
theorem d_86_26 : xcode 86 26 = some (.getfield 21, 3) := by decide +kernel
theorem d_86_29 : xcode 86 29 = some (.if_icmp .ne 13, 3) := by decide +kernel
theorem d_86_32 : xcode 86 32 = some (.aload_n 0, 1) := by decide +kernel
theorem d_86_33 : xcode 86 33 = some (.dup, 1) := by decide +kernel
theorem d_86_34 : xcode 86 34 = some (.getfield 21, 3) := by decide +kernel
theorem d_86_37 : xcode 86 37 = some (.iconst 1, 1) := by decide +kernel
theorem d_86_38 : xcode 86 38 = some (.iadd, 1) := by decide +kernel
theorem d_86_39 : xcode 86 39 = some (.putfield 21, 3) := by decide +kernel
theorem d_86_42 : xcode 86 42 = some (.aload_n 0, 1) := by decide +kernel
theorem d_86_43 : xcode 86 43 = some (.iload 4, 2) := by decide +kernel
theorem d_86_45 : xcode 86 45 = some (.invokevirtual 25, 3) := by decide +kernel
theorem d_86_48 : xcode 86 48 = some (.ifCond .eq 27, 3) := by decide +kernel
theorem d_86_51 : xcode 86 51 = some (.aload_n 0, 1) := by decide +kernel
theorem d_86_52 : xcode 86 52 = some (.getfield 11, 3) := by decide +kernel
theorem d_86_55 : xcode 86 55 = some (.iload 4, 2) := by decide +kernel
theorem d_86_57 : xcode 86 57 = some (.iload_n 1, 1) := by decide +kernel
theorem d_86_58 : xcode 86 58 = some (.iastore, 1) := by decide +kernel
theorem d_86_59 : xcode 86 59 = some (.aload_n 0, 1) := by decide +kernel
theorem d_86_60 : xcode 86 60 = some (.getfield 15, 3) := by decide +kernel
theorem d_86_63 : xcode 86 63 = some (.iload 4, 2) := by decide +kernel
theorem d_86_65 : xcode 86 65 = some (.iload_n 2, 1) := by decide +kernel
theorem d_86_66 : xcode 86 66 = some (.iastore, 1) := by decide +kernel
theorem d_86_67 : xcode 86 67 = some (.aload_n 0, 1) := by decide +kernel
theorem d_86_68 : xcode 86 68 = some (.getfield 18, 3) := by decide +kernel
theorem d_86_71 : xcode 86 71 = some (.iload 4, 2) := by decide +kernel
theorem d_86_73 : xcode 86 73 = some (.iload_n 3, 1) := by decide +kernel
theorem d_86_74 : xcode 86 74 = some (.iastore, 1) := by decide +kernel
theorem d_86_75 : xcode 86 75 = some (.return_, 1) := by decide +kernel
theorem d_87_0 : xcode 87 0 = some (.iconst 0, 1) := by decide +kernel
theorem d_87_1 : xcode 87 1 = some (.istore_n 3, 1) := by decide +kernel
theorem d_87_2 : xcode 87 2 = some (.iload_n 3, 1) := by decide +kernel
theorem d_87_3 : xcode 87 3 = some (.aload_n 0, 1) := by decide +kernel
theorem d_87_4 : xcode 87 4 = some (.getfield 21, 3) := by decide +kernel
theorem d_87_7 : xcode 87 7 = some (.if_icmp .ge 37, 3) := by decide +kernel
theorem d_87_10 : xcode 87 10 = some (.iload_n 3, 1) := by decide +kernel
theorem d_87_11 : xcode 87 11 = some (.bipush 20, 2) := by decide +kernel
theorem d_87_13 : xcode 87 13 = some (.if_icmp .ge 31, 3) := by decide +kernel
theorem d_87_16 : xcode 87 16 = some (.aload_n 0, 1) := by decide +kernel
theorem d_87_17 : xcode 87 17 = some (.getfield 11, 3) := by decide +kernel
theorem d_87_20 : xcode 87 20 = some (.iload_n 3, 1) := by decide +kernel
theorem d_87_21 : xcode 87 21 = some (.iaload, 1) := by decide +kernel
theorem d_87_22 : xcode 87 22 = some (.iload_n 1, 1) := by decide +kernel
theorem d_87_23 : xcode 87 23 = some (.if_icmp .ne 15, 3) := by decide +kernel
theorem d_87_26 : xcode 87 26 = some (.aload_n 0, 1) := by decide +kernel
theorem d_87_27 : xcode 87 27 = some (.getfield 15, 3) := by decide +kernel
theorem d_87_30 : xcode 87 30 = some (.iload_n 3, 1) := by decide +kernel
theorem d_87_31 : xcode 87 31 = some (.iaload, 1) := by decide +kernel
theorem d_87_32 : xcode 87 32 = some (.iload_n 2, 1) := by decide +kernel
theorem d_87_33 : xcode 87 33 = some (.if_icmp .ne 5, 3) := by decide +kernel
theorem d_87_36 : xcode 87 36 = some (.iload_n 3, 1) := by decide +kernel
theorem d_87_37 : xcode 87 37 = some (.ireturn, 1) := by decide +kernel
theorem d_87_38 : xcode 87 38 = some (.iinc 3 1, 3) := by decide +kernel
theorem d_87_41 : xcode 87 41 = some (.goto (-39), 3) := by decide +kernel
theorem d_87_44 : xcode 87 44 = some (.aload_n 0, 1) := by decide +kernel
theorem d_87_45 : xcode 87 45 = some (.getfield 21, 3) := by decide +kernel
theorem d_87_48 : xcode 87 48 = some (.ireturn, 1) := by decide +kernel
theorem d_88_0 : xcode 88 0 = some (.aload_n 0, 1) := by decide +kernel
theorem d_88_1 : xcode 88 1 = some (.getfield 11, 3) := by decide +kernel
theorem d_88_4 : xcode 88 4 = some (.iconst 1, 1) := by decide +kernel
theorem d_88_5 : xcode 88 5 = some (.aload_n 0, 1) := by decide +kernel
theorem d_88_6 : xcode 88 6 = some (.getfield 11, 3) := by decide +kernel
theorem d_88_9 : xcode 88 9 = some (.iconst 0, 1) := by decide +kernel
theorem d_88_10 : xcode 88 10 = some (.bipush 19, 2) := by decide +kernel
theorem d_88_12 : xcode 88 12 = some (.invokestatic 36, 3) := by decide +kernel
theorem d_88_15 : xcode 88 15 = some (.aload_n 0, 1) := by decide +kernel
theorem d_88_16 : xcode 88 16 = some (.getfield 15, 3) := by decide +kernel
theorem d_88_19 : xcode 88 19 = some (.iconst 1, 1) := by decide +kernel
theorem d_88_20 : xcode 88 20 = some (.aload_n 0, 1) := by decide +kernel
theorem d_88_21 : xcode 88 21 = some (.getfield 15, 3) := by decide +kernel
theorem d_88_24 : xcode 88 24 = some (.iconst 0, 1) := by decide +kernel
theorem d_88_25 : xcode 88 25 = some (.bipush 19, 2) := by decide +kernel
theorem d_88_27 : xcode 88 27 = some (.invokestatic 36, 3) := by decide +kernel
theorem d_88_30 : xcode 88 30 = some (.aload_n 0, 1) := by decide +kernel
theorem d_88_31 : xcode 88 31 = some (.getfield 18, 3) := by decide +kernel
theorem d_88_34 : xcode 88 34 = some (.iconst 1, 1) := by decide +kernel
theorem d_88_35 : xcode 88 35 = some (.aload_n 0, 1) := by decide +kernel
theorem d_88_36 : xcode 88 36 = some (.getfield 18, 3) := by decide +kernel
theorem d_88_39 : xcode 88 39 = some (.iconst 0, 1) := by decide +kernel
theorem d_88_40 : xcode 88 40 = some (.bipush 19, 2) := by decide +kernel
theorem d_88_42 : xcode 88 42 = some (.invokestatic 36, 3) := by decide +kernel
theorem d_88_45 : xcode 88 45 = some (.aload_n 0, 1) := by decide +kernel
theorem d_88_46 : xcode 88 46 = some (.bipush 19, 2) := by decide +kernel
theorem d_88_48 : xcode 88 48 = some (.putfield 21, 3) := by decide +kernel
theorem d_88_51 : xcode 88 51 = some (.return_, 1) := by decide +kernel
theorem d_89_0 : xcode 89 0 = some (.iload_n 1, 1) := by decide +kernel
theorem d_89_1 : xcode 89 1 = some (.ifCond .lt 21, 3) := by decide +kernel
theorem d_89_4 : xcode 89 4 = some (.iload_n 1, 1) := by decide +kernel
theorem d_89_5 : xcode 89 5 = some (.aload_n 0, 1) := by decide +kernel
theorem d_89_6 : xcode 89 6 = some (.getfield 21, 3) := by decide +kernel
theorem d_89_9 : xcode 89 9 = some (.if_icmp .ge 13, 3) := by decide +kernel
theorem d_89_12 : xcode 89 12 = some (.iload_n 1, 1) := by decide +kernel
theorem d_89_13 : xcode 89 13 = some (.bipush 20, 2) := by decide +kernel
theorem d_89_15 : xcode 89 15 = some (.if_icmp .ge 7, 3) := by decide +kernel
theorem d_89_18 : xcode 89 18 = some (.iconst 1, 1) := by decide +kernel
theorem d_89_19 : xcode 89 19 = some (.goto 4, 3) := by decide +kernel
theorem d_89_22 : xcode 89 22 = some (.iconst 0, 1) := by decide +kernel
theorem d_89_23 : xcode 89 23 = some (.ireturn, 1) := by decide +kernel
theorem d_90_0 : xcode 90 0 = some (.iload_n 1, 1) := by decide +kernel
theorem d_90_1 : xcode 90 1 = some (.invokestatic 120, 3) := by decide +kernel
theorem d_90_4 : xcode 90 4 = some (.ifCond .eq 10, 3) := by decide +kernel
theorem d_90_7 : xcode 90 7 = some (.iload_n 2, 1) := by decide +kernel
theorem d_90_8 : xcode 90 8 = some (.invokestatic 222, 3) := by decide +kernel
theorem d_90_11 : xcode 90 11 = some (.ifCond .ne 5, 3) := by decide +kernel
theorem d_90_14 : xcode 90 14 = some (.iconst (-1), 1) := by decide +kernel
theorem d_90_15 : xcode 90 15 = some (.ireturn, 1) := by decide +kernel
theorem d_90_16 : xcode 90 16 = some (.iload_n 1, 1) := by decide +kernel
theorem d_90_17 : xcode 90 17 = some (.invokestatic 190, 3) := by decide +kernel
theorem d_90_20 : xcode 90 20 = some (.ifCond .eq 11, 3) := by decide +kernel
theorem d_90_23 : xcode 90 23 = some (.iload_n 1, 1) := by decide +kernel
theorem d_90_24 : xcode 90 24 = some (.iload_n 2, 1) := by decide +kernel
theorem d_90_25 : xcode 90 25 = some (.iconst 1, 1) := by decide +kernel
theorem d_90_26 : xcode 90 26 = some (.isub, 1) := by decide +kernel
theorem d_90_27 : xcode 90 27 = some (.irem, 1) := by decide +kernel
theorem d_90_28 : xcode 90 28 = some (.ifCond .ne 6, 3) := by decide +kernel
theorem d_90_31 : xcode 90 31 = some (.bipush (-3), 2) := by decide +kernel
theorem d_90_33 : xcode 90 33 = some (.ireturn, 1) := by decide +kernel
theorem d_90_34 : xcode 90 34 = some (.iload_n 1, 1) := by decide +kernel
theorem d_90_35 : xcode 90 35 = some (.iload_n 2, 1) := by decide +kernel
theorem d_90_36 : xcode 90 36 = some (.invokestatic 232, 3) := by decide +kernel
theorem d_90_39 : xcode 90 39 = some (.l2i, 1) := by decide +kernel
theorem d_90_40 : xcode 90 40 = some (.ireturn, 1) := by decide +kernel
theorem d_91_0 : xcode 91 0 = some (.iload_n 1, 1) := by decide +kernel
theorem d_91_1 : xcode 91 1 = some (.ifCond .le 19, 3) := by decide +kernel
theorem d_91_4 : xcode 91 4 = some (.iload_n 0, 1) := by decide +kernel
theorem d_91_5 : xcode 91 5 = some (.iload_n 1, 1) := by decide +kernel
theorem d_91_6 : xcode 91 6 = some (.iload_n 1, 1) := by decide +kernel
theorem d_91_7 : xcode 91 7 = some (.i2l, 1) := by decide +kernel
theorem d_91_8 : xcode 91 8 = some (.iload_n 1, 1) := by decide +kernel
theorem d_91_9 : xcode 91 9 = some (.i2l, 1) := by decide +kernel
theorem d_91_10 : xcode 91 10 = some (.lmul, 1) := by decide +kernel
theorem d_91_11 : xcode 91 11 = some (.invokestatic 19, 3) := by decide +kernel
theorem d_91_14 : xcode 91 14 = some (.iload_n 1, 1) := by decide +kernel
theorem d_91_15 : xcode 91 15 = some (.i2l, 1) := by decide +kernel
theorem d_91_16 : xcode 91 16 = some (.ldiv, 1) := by decide +kernel
theorem d_91_17 : xcode 91 17 = some (.goto 4, 3) := by decide +kernel
theorem d_91_20 : xcode 91 20 = some (.lconst 0, 1) := by decide +kernel
theorem d_91_21 : xcode 91 21 = some (.lreturn, 1) := by decide +kernel
theorem d_92_0 : xcode 92 0 = some (.iload_n 1, 1) := by decide +kernel
theorem d_92_1 : xcode 92 1 = some (.ifCond .lt 12, 3) := by decide +kernel
theorem d_92_4 : xcode 92 4 = some (.iload_n 2, 1) := by decide +kernel
theorem d_92_5 : xcode 92 5 = some (.ifCond .lt 8, 3) := by decide +kernel
theorem d_92_8 : xcode 92 8 = some (.iload_n 2, 1) := by decide +kernel
theorem d_92_9 : xcode 92 9 = some (.iconst 3, 1) := by decide +kernel
theorem d_92_10 : xcode 92 10 = some (.if_icmp .le 5, 3) := by decide +kernel
theorem d_92_13 : xcode 92 13 = some (.iconst (-1), 1) := by decide +kernel
theorem d_92_14 : xcode 92 14 = some (.ireturn, 1) := by decide +kernel
theorem d_92_15 : xcode 92 15 = some (.iload_n 1, 1) := by decide +kernel
theorem d_92_16 : xcode 92 16 = some (.aload_n 0, 1) := by decide +kernel
theorem d_92_17 : xcode 92 17 = some (.getfield 65, 3) := by decide +kernel
theorem d_92_20 : xcode 92 20 = some (.invokevirtual 238, 3) := by decide +kernel
theorem d_92_23 : xcode 92 23 = some (.if_icmp .lt 6, 3) := by decide +kernel
theorem d_92_26 : xcode 92 26 = some (.bipush (-2), 2) := by decide +kernel
theorem d_92_28 : xcode 92 28 = some (.ireturn, 1) := by decide +kernel
theorem d_92_29 : xcode 92 29 = some (.iload_n 2, 1) := by decide +kernel
theorem d_92_30 : xcode 92 30 = some (.tableswitch 53 0 2 #[26, 35, 44], 26) := by decide +kernel
theorem d_92_56 : xcode 92 56 = some (.aload_n 0, 1) := by decide +kernel
theorem d_92_57 : xcode 92 57 = some (.getfield 65, 3) := by decide +kernel
theorem d_92_60 : xcode 92 60 = some (.iload_n 1, 1) := by decide +kernel
theorem d_92_61 : xcode 92 61 = some (.invokevirtual 242, 3) := by decide +kernel
theorem d_92_64 : xcode 92 64 = some (.ireturn, 1) := by decide +kernel
theorem d_92_65 : xcode 92 65 = some (.aload_n 0, 1) := by decide +kernel
theorem d_92_66 : xcode 92 66 = some (.getfield 65, 3) := by decide +kernel
theorem d_92_69 : xcode 92 69 = some (.iload_n 1, 1) := by decide +kernel
theorem d_92_70 : xcode 92 70 = some (.invokevirtual 246, 3) := by decide +kernel
theorem d_92_73 : xcode 92 73 = some (.ireturn, 1) := by decide +kernel
theorem d_92_74 : xcode 92 74 = some (.aload_n 0, 1) := by decide +kernel
theorem d_92_75 : xcode 92 75 = some (.getfield 65, 3) := by decide +kernel
theorem d_92_78 : xcode 92 78 = some (.iload_n 1, 1) := by decide +kernel
theorem d_92_79 : xcode 92 79 = some (.invokevirtual 249, 3) := by decide +kernel
theorem d_92_82 : xcode 92 82 = some (.ireturn, 1) := by decide +kernel
theorem d_92_83 : xcode 92 83 = some (.aload_n 0, 1) := by decide +kernel
theorem d_92_84 : xcode 92 84 = some (.iload_n 1, 1) := by decide +kernel
theorem d_92_85 : xcode 92 85 = some (.invokevirtual 252, 3) := by decide +kernel
theorem d_92_88 : xcode 92 88 = some (.ifCond .eq 7, 3) := by decide +kernel
theorem d_92_91 : xcode 92 91 = some (.iconst 1, 1) := by decide +kernel
theorem d_92_92 : xcode 92 92 = some (.goto 4, 3) := by decide +kernel
theorem d_92_95 : xcode 92 95 = some (.iconst 0, 1) := by decide +kernel
theorem d_92_96 : xcode 92 96 = some (.ireturn, 1) := by decide +kernel
theorem d_93_0 : xcode 93 0 = some (.aload_n 0, 1) := by decide +kernel
theorem d_93_1 : xcode 93 1 = some (.getfield 21, 3) := by decide +kernel
theorem d_93_4 : xcode 93 4 = some (.ireturn, 1) := by decide +kernel
theorem d_94_0 : xcode 94 0 = some (.aload_n 0, 1) := by decide +kernel
theorem d_94_1 : xcode 94 1 = some (.iload_n 1, 1) := by decide +kernel
theorem d_94_2 : xcode 94 2 = some (.invokevirtual 25, 3) := by decide +kernel
theorem d_94_5 : xcode 94 5 = some (.ifCond .eq 12, 3) := by decide +kernel
theorem d_94_8 : xcode 94 8 = some (.aload_n 0, 1) := by decide +kernel
theorem d_94_9 : xcode 94 9 = some (.getfield 11, 3) := by decide +kernel
theorem d_94_12 : xcode 94 12 = some (.iload_n 1, 1) := by decide +kernel
theorem d_94_13 : xcode 94 13 = some (.iaload, 1) := by decide +kernel
theorem d_94_14 : xcode 94 14 = some (.goto 4, 3) := by decide +kernel
theorem d_94_17 : xcode 94 17 = some (.iconst (-1), 1) := by decide +kernel
theorem d_94_18 : xcode 94 18 = some (.ireturn, 1) := by decide +kernel
theorem d_95_0 : xcode 95 0 = some (.aload_n 0, 1) := by decide +kernel
theorem d_95_1 : xcode 95 1 = some (.iload_n 1, 1) := by decide +kernel
theorem d_95_2 : xcode 95 2 = some (.invokevirtual 25, 3) := by decide +kernel
theorem d_95_5 : xcode 95 5 = some (.ifCond .eq 12, 3) := by decide +kernel
theorem d_95_8 : xcode 95 8 = some (.aload_n 0, 1) := by decide +kernel
theorem d_95_9 : xcode 95 9 = some (.getfield 15, 3) := by decide +kernel
theorem d_95_12 : xcode 95 12 = some (.iload_n 1, 1) := by decide +kernel
theorem d_95_13 : xcode 95 13 = some (.iaload, 1) := by decide +kernel
theorem d_95_14 : xcode 95 14 = some (.goto 4, 3) := by decide +kernel
theorem d_95_17 : xcode 95 17 = some (.iconst (-1), 1) := by decide +kernel
theorem d_95_18 : xcode 95 18 = some (.ireturn, 1) := by decide +kernel
theorem d_96_0 : xcode 96 0 = some (.aload_n 0, 1) := by decide +kernel
theorem d_96_1 : xcode 96 1 = some (.iload_n 1, 1) := by decide +kernel
theorem d_96_2 : xcode 96 2 = some (.invokevirtual 25, 3) := by decide +kernel
theorem d_96_5 : xcode 96 5 = some (.ifCond .eq 12, 3) := by decide +kernel
theorem d_96_8 : xcode 96 8 = some (.aload_n 0, 1) := by decide +kernel
theorem d_96_9 : xcode 96 9 = some (.getfield 18, 3) := by decide +kernel
theorem d_96_12 : xcode 96 12 = some (.iload_n 1, 1) := by decide +kernel
theorem d_96_13 : xcode 96 13 = some (.iaload, 1) := by decide +kernel
theorem d_96_14 : xcode 96 14 = some (.goto 4, 3) := by decide +kernel
theorem d_96_17 : xcode 96 17 = some (.iconst (-1), 1) := by decide +kernel
theorem d_96_18 : xcode 96 18 = some (.ireturn, 1) := by decide +kernel
theorem d_97_0 : xcode 97 0 = some (.aload_n 0, 1) := by decide +kernel
theorem d_97_1 : xcode 97 1 = some (.aload_n 0, 1) := by decide +kernel
theorem d_97_2 : xcode 97 2 = some (.getfield 65, 3) := by decide +kernel
theorem d_97_5 : xcode 97 5 = some (.iload_n 1, 1) := by decide +kernel
theorem d_97_6 : xcode 97 6 = some (.invokevirtual 242, 3) := by decide +kernel
theorem d_97_9 : xcode 97 9 = some (.aload_n 0, 1) := by decide +kernel
theorem d_97_10 : xcode 97 10 = some (.getfield 65, 3) := by decide +kernel
theorem d_97_13 : xcode 97 13 = some (.iload_n 1, 1) := by decide +kernel
theorem d_97_14 : xcode 97 14 = some (.invokevirtual 246, 3) := by decide +kernel
theorem d_97_17 : xcode 97 17 = some (.invokevirtual 225, 3) := by decide +kernel
theorem d_97_20 : xcode 97 20 = some (.aload_n 0, 1) := by decide +kernel
theorem d_97_21 : xcode 97 21 = some (.getfield 65, 3) := by decide +kernel
theorem d_97_24 : xcode 97 24 = some (.iload_n 1, 1) := by decide +kernel
theorem d_97_25 : xcode 97 25 = some (.invokevirtual 249, 3) := by decide +kernel
theorem d_97_28 : xcode 97 28 = some (.if_icmp .ne 7, 3) := by decide +kernel
theorem d_97_31 : xcode 97 31 = some (.iconst 1, 1) := by decide +kernel
theorem d_97_32 : xcode 97 32 = some (.goto 4, 3) := by decide +kernel
theorem d_97_35 : xcode 97 35 = some (.iconst 0, 1) := by decide +kernel
theorem d_97_36 : xcode 97 36 = some (.ireturn, 1) := by decide +kernel
theorem d_98_0 : xcode 98 0 = some (.iload_n 2, 1) := by decide +kernel
theorem d_98_1 : xcode 98 1 = some (.invokestatic 222, 3) := by decide +kernel
theorem d_98_4 : xcode 98 4 = some (.ifCond .eq 11, 3) := by decide +kernel
theorem d_98_7 : xcode 98 7 = some (.aload_n 0, 1) := by decide +kernel
theorem d_98_8 : xcode 98 8 = some (.iload_n 1, 1) := by decide +kernel
theorem d_98_9 : xcode 98 9 = some (.invokevirtual 163, 3) := by decide +kernel
theorem d_98_12 : xcode 98 12 = some (.ifCond .ne 6, 3) := by decide +kernel
theorem d_98_15 : xcode 98 15 = some (.bipush (-100), 2) := by decide +kernel
theorem d_98_17 : xcode 98 17 = some (.ireturn, 1) := by decide +kernel
theorem d_98_18 : xcode 98 18 = some (.aload_n 0, 1) := by decide +kernel
theorem d_98_19 : xcode 98 19 = some (.getfield 39, 3) := by decide +kernel
theorem d_98_22 : xcode 98 22 = some (.iload_n 1, 1) := by decide +kernel
theorem d_98_23 : xcode 98 23 = some (.invokevirtual 255, 3) := by decide +kernel
theorem d_98_26 : xcode 98 26 = some (.ifCond .ne 6, 3) := by decide +kernel
theorem d_98_29 : xcode 98 29 = some (.bipush 100, 2) := by decide +kernel
theorem d_98_31 : xcode 98 31 = some (.ireturn, 1) := by decide +kernel
theorem d_98_32 : xcode 98 32 = some (.aload_n 0, 1) := by decide +kernel
theorem d_98_33 : xcode 98 33 = some (.getfield 39, 3) := by decide +kernel
theorem d_98_36 : xcode 98 36 = some (.iload_n 1, 1) := by decide +kernel
theorem d_98_37 : xcode 98 37 = some (.aload_n 0, 1) := by decide +kernel
theorem d_98_38 : xcode 98 38 = some (.getfield 95, 3) := by decide +kernel
theorem d_98_41 : xcode 98 41 = some (.invokevirtual 168, 3) := by decide +kernel
theorem d_98_44 : xcode 98 44 = some (.aload_n 0, 1) := by decide +kernel
theorem d_98_45 : xcode 98 45 = some (.getfield 95, 3) := by decide +kernel
theorem d_98_48 : xcode 98 48 = some (.iload_n 2, 1) := by decide +kernel
theorem d_98_49 : xcode 98 49 = some (.invokevirtual 258, 3) := by decide +kernel
theorem d_98_52 : xcode 98 52 = some (.aload_n 0, 1) := by decide +kernel
theorem d_98_53 : xcode 98 53 = some (.getfield 95, 3) := by decide +kernel
theorem d_98_56 : xcode 98 56 = some (.iload_n 2, 1) := by decide +kernel
theorem d_98_57 : xcode 98 57 = some (.invokevirtual 261, 3) := by decide +kernel
theorem d_98_60 : xcode 98 60 = some (.isub, 1) := by decide +kernel
theorem d_98_61 : xcode 98 61 = some (.ireturn, 1) := by decide +kernel
theorem d_99_0 : xcode 99 0 = some (.iload_n 1, 1) := by decide +kernel
theorem d_99_1 : xcode 99 1 = some (.ifCond .lt 15, 3) := by decide +kernel
theorem d_99_4 : xcode 99 4 = some (.iload_n 1, 1) := by decide +kernel
theorem d_99_5 : xcode 99 5 = some (.aload_n 0, 1) := by decide +kernel
theorem d_99_6 : xcode 99 6 = some (.getfield 49, 3) := by decide +kernel
theorem d_99_9 : xcode 99 9 = some (.if_icmp .gt 7, 3) := by decide +kernel
theorem d_99_12 : xcode 99 12 = some (.iconst 1, 1) := by decide +kernel
theorem d_99_13 : xcode 99 13 = some (.goto 4, 3) := by decide +kernel
theorem d_99_16 : xcode 99 16 = some (.iconst 0, 1) := by decide +kernel
theorem d_99_17 : xcode 99 17 = some (.ireturn, 1) := by decide +kernel
theorem d_100_0 : xcode 100 0 = some (.aload_n 2, 1) := by decide +kernel
theorem d_100_1 : xcode 100 1 = some (.aload_n 0, 1) := by decide +kernel
theorem d_100_2 : xcode 100 2 = some (.iload_n 1, 1) := by decide +kernel
theorem d_100_3 : xcode 100 3 = some (.invokevirtual 38, 3) := by decide +kernel
theorem d_100_6 : xcode 100 6 = some (.aload_n 0, 1) := by decide +kernel
theorem d_100_7 : xcode 100 7 = some (.iload_n 1, 1) := by decide +kernel
theorem d_100_8 : xcode 100 8 = some (.invokevirtual 42, 3) := by decide +kernel
theorem d_100_11 : xcode 100 11 = some (.aload_n 0, 1) := by decide +kernel
theorem d_100_12 : xcode 100 12 = some (.iload_n 1, 1) := by decide +kernel
theorem d_100_13 : xcode 100 13 = some (.invokevirtual 55, 3) := by decide +kernel
theorem d_100_16 : xcode 100 16 = some (.invokevirtual 58, 3) := by decide +kernel
theorem d_100_19 : xcode 100 19 = some (.return_, 1) := by decide +kernel
theorem d_101_0 : xcode 101 0 = some (.iload_n 1, 1) := by decide +kernel
theorem d_101_1 : xcode 101 1 = some (.iconst 2, 1) := by decide +kernel
theorem d_101_2 : xcode 101 2 = some (.if_icmp .lt 21, 3) := by decide +kernel
theorem d_101_5 : xcode 101 5 = some (.aload_n 0, 1) := by decide +kernel
theorem d_101_6 : xcode 101 6 = some (.getfield 25, 3) := by decide +kernel
theorem d_101_9 : xcode 101 9 = some (.lconst 0, 1) := by decide +kernel
theorem d_101_10 : xcode 101 10 = some (.lcmp, 1) := by decide +kernel
theorem d_101_11 : xcode 101 11 = some (.ifCond .ne 14, 3) := by decide +kernel
theorem d_101_14 : xcode 101 14 = some (.aload_n 0, 1) := by decide +kernel
theorem d_101_15 : xcode 101 15 = some (.getfield 28, 3) := by decide +kernel
theorem d_101_18 : xcode 101 18 = some (.lconst 0, 1) := by decide +kernel
theorem d_101_19 : xcode 101 19 = some (.lcmp, 1) := by decide +kernel
theorem d_101_20 : xcode 101 20 = some (.ifCond .ne 5, 3) := by decide +kernel
theorem d_101_23 : xcode 101 23 = some (.iconst 0, 1) := by decide +kernel
theorem d_101_24 : xcode 101 24 = some (.ireturn, 1) := by decide +kernel
theorem d_101_25 : xcode 101 25 = some (.aload_n 0, 1) := by decide +kernel
theorem d_101_26 : xcode 101 26 = some (.getfield 25, 3) := by decide +kernel
theorem d_101_29 : xcode 101 29 = some (.lstore_n 2, 1) := by decide +kernel
theorem d_101_30 : xcode 101 30 = some (.aload_n 0, 1) := by decide +kernel
theorem d_101_31 : xcode 101 31 = some (.getfield 28, 3) := by decide +kernel
theorem d_101_34 : xcode 101 34 = some (.lstore 4, 2) := by decide +kernel
theorem d_101_36 : xcode 101 36 = some (.iconst 0, 1) := by decide +kernel
theorem d_101_37 : xcode 101 37 = some (.istore 6, 2) := by decide +kernel
theorem d_101_39 : xcode 101 39 = some (.iload 6, 2) := by decide +kernel
theorem d_101_41 : xcode 101 41 = some (.bipush 64, 2) := by decide +kernel
theorem d_101_43 : xcode 101 43 = some (.if_icmp .ge 52, 3) := by decide +kernel
theorem d_101_46 : xcode 101 46 = some (.lload_n 2, 1) := by decide +kernel
theorem d_101_47 : xcode 101 47 = some (.iload_n 1, 1) := by decide +kernel
theorem d_101_48 : xcode 101 48 = some (.i2l, 1) := by decide +kernel
theorem d_101_49 : xcode 101 49 = some (.invokestatic 13, 3) := by decide +kernel
theorem d_101_52 : xcode 101 52 = some (.aload_n 0, 1) := by decide +kernel
theorem d_101_53 : xcode 101 53 = some (.getfield 7, 3) := by decide +kernel
theorem d_101_56 : xcode 101 56 = some (.lmul, 1) := by decide +kernel
theorem d_101_57 : xcode 101 57 = some (.lload 4, 2) := by decide +kernel
theorem d_101_59 : xcode 101 59 = some (.ladd, 1) := by decide +kernel
theorem d_101_60 : xcode 101 60 = some (.lstore 7, 2) := by decide +kernel
theorem d_101_62 : xcode 101 62 = some (.lload 7, 2) := by decide +kernel
theorem d_101_64 : xcode 101 64 = some (.iload_n 1, 1) := by decide +kernel
theorem d_101_65 : xcode 101 65 = some (.i2l, 1) := by decide +kernel
theorem d_101_66 : xcode 101 66 = some (.lrem, 1) := by decide +kernel
theorem d_101_67 : xcode 101 67 = some (.lconst 0, 1) := by decide +kernel
theorem d_101_68 : xcode 101 68 = some (.lcmp, 1) := by decide +kernel
theorem d_101_69 : xcode 101 69 = some (.ifCond .eq 6, 3) := by decide +kernel
theorem d_101_72 : xcode 101 72 = some (.iload 6, 2) := by decide +kernel
theorem d_101_74 : xcode 101 74 = some (.ireturn, 1) := by decide +kernel
theorem d_101_75 : xcode 101 75 = some (.lload_n 2, 1) := by decide +kernel
theorem d_101_76 : xcode 101 76 = some (.iload_n 1, 1) := by decide +kernel
theorem d_101_77 : xcode 101 77 = some (.i2l, 1) := by decide +kernel
theorem d_101_78 : xcode 101 78 = some (.invokestatic 22, 3) := by decide +kernel
theorem d_101_81 : xcode 101 81 = some (.lstore_n 2, 1) := by decide +kernel
theorem d_101_82 : xcode 101 82 = some (.lload 7, 2) := by decide +kernel
theorem d_101_84 : xcode 101 84 = some (.iload_n 1, 1) := by decide +kernel
theorem d_101_85 : xcode 101 85 = some (.i2l, 1) := by decide +kernel
theorem d_101_86 : xcode 101 86 = some (.ldiv, 1) := by decide +kernel
theorem d_101_87 : xcode 101 87 = some (.lstore 4, 2) := by decide +kernel
theorem d_101_89 : xcode 101 89 = some (.iinc 6 1, 3) := by decide +kernel
theorem d_101_92 : xcode 101 92 = some (.goto (-53), 3) := by decide +kernel
theorem d_101_95 : xcode 101 95 = some (.bipush 64, 2) := by decide +kernel
theorem d_101_97 : xcode 101 97 = some (.ireturn, 1) := by decide +kernel
theorem d_102_0 : xcode 102 0 = some (.iload_n 1, 1) := by decide +kernel
theorem d_102_1 : xcode 102 1 = some (.iconst 2, 1) := by decide +kernel
theorem d_102_2 : xcode 102 2 = some (.if_icmp .ge 5, 3) := by decide +kernel
theorem d_102_5 : xcode 102 5 = some (.iconst 0, 1) := by decide +kernel
theorem d_102_6 : xcode 102 6 = some (.ireturn, 1) := by decide +kernel
theorem d_102_7 : xcode 102 7 = some (.aload_n 0, 1) := by decide +kernel
theorem d_102_8 : xcode 102 8 = some (.getfield 7, 3) := by decide +kernel
theorem d_102_11 : xcode 102 11 = some (.lstore_n 2, 1) := by decide +kernel
theorem d_102_12 : xcode 102 12 = some (.iconst 0, 1) := by decide +kernel
theorem d_102_13 : xcode 102 13 = some (.istore 4, 2) := by decide +kernel
theorem d_102_15 : xcode 102 15 = some (.iload 4, 2) := by decide +kernel
theorem d_102_17 : xcode 102 17 = some (.bipush 64, 2) := by decide +kernel
theorem d_102_19 : xcode 102 19 = some (.if_icmp .ge 26, 3) := by decide +kernel
theorem d_102_22 : xcode 102 22 = some (.lload_n 2, 1) := by decide +kernel
theorem d_102_23 : xcode 102 23 = some (.iload_n 1, 1) := by decide +kernel
theorem d_102_24 : xcode 102 24 = some (.i2l, 1) := by decide +kernel
theorem d_102_25 : xcode 102 25 = some (.lrem, 1) := by decide +kernel
theorem d_102_26 : xcode 102 26 = some (.lconst 0, 1) := by decide +kernel
theorem d_102_27 : xcode 102 27 = some (.lcmp, 1) := by decide +kernel
theorem d_102_28 : xcode 102 28 = some (.ifCond .eq 6, 3) := by decide +kernel
theorem d_102_31 : xcode 102 31 = some (.iload 4, 2) := by decide +kernel
theorem d_102_33 : xcode 102 33 = some (.ireturn, 1) := by decide +kernel
theorem d_102_34 : xcode 102 34 = some (.lload_n 2, 1) := by decide +kernel
theorem d_102_35 : xcode 102 35 = some (.iload_n 1, 1) := by decide +kernel
theorem d_102_36 : xcode 102 36 = some (.i2l, 1) := by decide +kernel
theorem d_102_37 : xcode 102 37 = some (.ldiv, 1) := by decide +kernel
theorem d_102_38 : xcode 102 38 = some (.lstore_n 2, 1) := by decide +kernel
theorem d_102_39 : xcode 102 39 = some (.iinc 4 1, 3) := by decide +kernel
theorem d_102_42 : xcode 102 42 = some (.goto (-27), 3) := by decide +kernel
theorem d_102_45 : xcode 102 45 = some (.bipush 64, 2) := by decide +kernel
theorem d_102_47 : xcode 102 47 = some (.ireturn, 1) := by decide +kernel
theorem d_103_0 : xcode 103 0 = some (.iload_n 1, 1) := by decide +kernel
theorem d_103_1 : xcode 103 1 = some (.invokestatic 222, 3) := by decide +kernel
theorem d_103_4 : xcode 103 4 = some (.ifCond .eq 17, 3) := by decide +kernel
theorem d_103_7 : xcode 103 7 = some (.iload_n 2, 1) := by decide +kernel
theorem d_103_8 : xcode 103 8 = some (.invokestatic 120, 3) := by decide +kernel
theorem d_103_11 : xcode 103 11 = some (.ifCond .eq 10, 3) := by decide +kernel
theorem d_103_14 : xcode 103 14 = some (.iload_n 3, 1) := by decide +kernel
theorem d_103_15 : xcode 103 15 = some (.invokestatic 120, 3) := by decide +kernel
theorem d_103_18 : xcode 103 18 = some (.ifCond .ne 5, 3) := by decide +kernel
theorem d_103_21 : xcode 103 21 = some (.iconst (-1), 1) := by decide +kernel
theorem d_103_22 : xcode 103 22 = some (.ireturn, 1) := by decide +kernel
theorem d_103_23 : xcode 103 23 = some (.iload_n 2, 1) := by decide +kernel
theorem d_103_24 : xcode 103 24 = some (.aload_n 0, 1) := by decide +kernel
theorem d_103_25 : xcode 103 25 = some (.getfield 49, 3) := by decide +kernel
theorem d_103_28 : xcode 103 28 = some (.if_icmp .gt 11, 3) := by decide +kernel
theorem d_103_31 : xcode 103 31 = some (.iload_n 3, 1) := by decide +kernel
theorem d_103_32 : xcode 103 32 = some (.aload_n 0, 1) := by decide +kernel
theorem d_103_33 : xcode 103 33 = some (.getfield 49, 3) := by decide +kernel
theorem d_103_36 : xcode 103 36 = some (.if_icmp .le 6, 3) := by decide +kernel
theorem d_103_39 : xcode 103 39 = some (.bipush (-2), 2) := by decide +kernel
theorem d_103_41 : xcode 103 41 = some (.ireturn, 1) := by decide +kernel
theorem d_103_42 : xcode 103 42 = some (.aload_n 0, 1) := by decide +kernel
theorem d_103_43 : xcode 103 43 = some (.getfield 58, 3) := by decide +kernel
theorem d_103_46 : xcode 103 46 = some (.iload_n 1, 1) := by decide +kernel
theorem d_103_47 : xcode 103 47 = some (.iload_n 2, 1) := by decide +kernel
theorem d_103_48 : xcode 103 48 = some (.iload_n 3, 1) := by decide +kernel
theorem d_103_49 : xcode 103 49 = some (.invokevirtual 264, 3) := by decide +kernel
theorem d_103_52 : xcode 103 52 = some (.ireturn, 1) := by decide +kernel
theorem d_104_0 : xcode 104 0 = some (.iload_n 1, 1) := by decide +kernel
theorem d_104_1 : xcode 104 1 = some (.invokestatic 222, 3) := by decide +kernel
theorem d_104_4 : xcode 104 4 = some (.ifCond .eq 17, 3) := by decide +kernel
theorem d_104_7 : xcode 104 7 = some (.iload_n 2, 1) := by decide +kernel
theorem d_104_8 : xcode 104 8 = some (.invokestatic 120, 3) := by decide +kernel
theorem d_104_11 : xcode 104 11 = some (.ifCond .eq 10, 3) := by decide +kernel
theorem d_104_14 : xcode 104 14 = some (.iload_n 3, 1) := by decide +kernel
theorem d_104_15 : xcode 104 15 = some (.invokestatic 120, 3) := by decide +kernel
theorem d_104_18 : xcode 104 18 = some (.ifCond .ne 5, 3) := by decide +kernel
theorem d_104_21 : xcode 104 21 = some (.iconst (-1), 1) := by decide +kernel
theorem d_104_22 : xcode 104 22 = some (.ireturn, 1) := by decide +kernel
theorem d_104_23 : xcode 104 23 = some (.iload_n 2, 1) := by decide +kernel
theorem d_104_24 : xcode 104 24 = some (.aload_n 0, 1) := by decide +kernel
theorem d_104_25 : xcode 104 25 = some (.getfield 49, 3) := by decide +kernel
theorem d_104_28 : xcode 104 28 = some (.if_icmp .gt 11, 3) := by decide +kernel
theorem d_104_31 : xcode 104 31 = some (.iload_n 3, 1) := by decide +kernel
theorem d_104_32 : xcode 104 32 = some (.aload_n 0, 1) := by decide +kernel
theorem d_104_33 : xcode 104 33 = some (.getfield 49, 3) := by decide +kernel
theorem d_104_36 : xcode 104 36 = some (.if_icmp .le 6, 3) := by decide +kernel
theorem d_104_39 : xcode 104 39 = some (.bipush (-2), 2) := by decide +kernel
theorem d_104_41 : xcode 104 41 = some (.ireturn, 1) := by decide +kernel
theorem d_104_42 : xcode 104 42 = some (.aload_n 0, 1) := by decide +kernel
theorem d_104_43 : xcode 104 43 = some (.getfield 58, 3) := by decide +kernel
theorem d_104_46 : xcode 104 46 = some (.iload_n 1, 1) := by decide +kernel
theorem d_104_47 : xcode 104 47 = some (.iload_n 2, 1) := by decide +kernel
theorem d_104_48 : xcode 104 48 = some (.iload_n 3, 1) := by decide +kernel
theorem d_104_49 : xcode 104 49 = some (.invokevirtual 268, 3) := by decide +kernel
theorem d_104_52 : xcode 104 52 = some (.ireturn, 1) := by decide +kernel
theorem d_105_0 : xcode 105 0 = some (.aload_n 0, 1) := by decide +kernel
theorem d_105_1 : xcode 105 1 = some (.iload_n 1, 1) := by decide +kernel
theorem d_105_2 : xcode 105 2 = some (.iload_n 2, 1) := by decide +kernel
theorem d_105_3 : xcode 105 3 = some (.invokevirtual 66, 3) := by decide +kernel
theorem d_105_6 : xcode 105 6 = some (.ifCond .eq 24, 3) := by decide +kernel
theorem d_105_9 : xcode 105 9 = some (.aload_n 0, 1) := by decide +kernel
theorem d_105_10 : xcode 105 10 = some (.iload_n 1, 1) := by decide +kernel
theorem d_105_11 : xcode 105 11 = some (.iload_n 3, 1) := by decide +kernel
theorem d_105_12 : xcode 105 12 = some (.invokevirtual 66, 3) := by decide +kernel
theorem d_105_15 : xcode 105 15 = some (.ifCond .eq 15, 3) := by decide +kernel
theorem d_105_18 : xcode 105 18 = some (.iload_n 2, 1) := by decide +kernel
theorem d_105_19 : xcode 105 19 = some (.iload_n 3, 1) := by decide +kernel
theorem d_105_20 : xcode 105 20 = some (.isub, 1) := by decide +kernel
theorem d_105_21 : xcode 105 21 = some (.iload_n 1, 1) := by decide +kernel
theorem d_105_22 : xcode 105 22 = some (.iload_n 1, 1) := by decide +kernel
theorem d_105_23 : xcode 105 23 = some (.iconst 1, 1) := by decide +kernel
theorem d_105_24 : xcode 105 24 = some (.isub, 1) := by decide +kernel
theorem d_105_25 : xcode 105 25 = some (.imul, 1) := by decide +kernel
theorem d_105_26 : xcode 105 26 = some (.irem, 1) := by decide +kernel
theorem d_105_27 : xcode 105 27 = some (.ifCond .eq 6, 3) := by decide +kernel
theorem d_105_30 : xcode 105 30 = some (.bipush (-3), 2) := by decide +kernel
theorem d_105_32 : xcode 105 32 = some (.ireturn, 1) := by decide +kernel
theorem d_105_33 : xcode 105 33 = some (.iload_n 1, 1) := by decide +kernel
theorem d_105_34 : xcode 105 34 = some (.i2l, 1) := by decide +kernel
theorem d_105_35 : xcode 105 35 = some (.iload_n 1, 1) := by decide +kernel
theorem d_105_36 : xcode 105 36 = some (.i2l, 1) := by decide +kernel
theorem d_105_37 : xcode 105 37 = some (.lmul, 1) := by decide +kernel
theorem d_105_38 : xcode 105 38 = some (.lstore 4, 2) := by decide +kernel
theorem d_105_40 : xcode 105 40 = some (.aload_n 0, 1) := by decide +kernel
theorem d_105_41 : xcode 105 41 = some (.iload_n 2, 1) := by decide +kernel
theorem d_105_42 : xcode 105 42 = some (.lload 4, 2) := by decide +kernel
theorem d_105_44 : xcode 105 44 = some (.invokevirtual 70, 3) := by decide +kernel
theorem d_105_47 : xcode 105 47 = some (.lconst 1, 1) := by decide +kernel
theorem d_105_48 : xcode 105 48 = some (.iload_n 1, 1) := by decide +kernel
theorem d_105_49 : xcode 105 49 = some (.i2l, 1) := by decide +kernel
theorem d_105_50 : xcode 105 50 = some (.iload_n 2, 1) := by decide +kernel
theorem d_105_51 : xcode 105 51 = some (.iconst 1, 1) := by decide +kernel
theorem d_105_52 : xcode 105 52 = some (.isub, 1) := by decide +kernel
theorem d_105_53 : xcode 105 53 = some (.lload 4, 2) := by decide +kernel
theorem d_105_55 : xcode 105 55 = some (.invokestatic 80, 3) := by decide +kernel
theorem d_105_58 : xcode 105 58 = some (.lsub, 1) := by decide +kernel
theorem d_105_59 : xcode 105 59 = some (.lmul, 1) := by decide +kernel
theorem d_105_60 : xcode 105 60 = some (.lstore 6, 2) := by decide +kernel
theorem d_105_62 : xcode 105 62 = some (.aload_n 0, 1) := by decide +kernel
theorem d_105_63 : xcode 105 63 = some (.iload_n 3, 1) := by decide +kernel
theorem d_105_64 : xcode 105 64 = some (.lload 4, 2) := by decide +kernel
theorem d_105_66 : xcode 105 66 = some (.invokevirtual 70, 3) := by decide +kernel
theorem d_105_69 : xcode 105 69 = some (.lconst 1, 1) := by decide +kernel
theorem d_105_70 : xcode 105 70 = some (.iload_n 1, 1) := by decide +kernel
theorem d_105_71 : xcode 105 71 = some (.i2l, 1) := by decide +kernel
theorem d_105_72 : xcode 105 72 = some (.iload_n 3, 1) := by decide +kernel
theorem d_105_73 : xcode 105 73 = some (.iconst 1, 1) := by decide +kernel
theorem d_105_74 : xcode 105 74 = some (.isub, 1) := by decide +kernel
theorem d_105_75 : xcode 105 75 = some (.lload 4, 2) := by decide +kernel
theorem d_105_77 : xcode 105 77 = some (.invokestatic 80, 3) := by decide +kernel
theorem d_105_80 : xcode 105 80 = some (.lsub, 1) := by decide +kernel
theorem d_105_81 : xcode 105 81 = some (.lmul, 1) := by decide +kernel
theorem d_105_82 : xcode 105 82 = some (.lstore 8, 2) := by decide +kernel
theorem d_105_84 : xcode 105 84 = some (.lload 6, 2) := by decide +kernel
theorem d_105_86 : xcode 105 86 = some (.lload 8, 2) := by decide +kernel
theorem d_105_88 : xcode 105 88 = some (.lsub, 1) := by decide +kernel
theorem d_105_89 : xcode 105 89 = some (.lload 4, 2) := by decide +kernel
theorem d_105_91 : xcode 105 91 = some (.invokestatic 74, 3) := by decide +kernel
theorem d_105_94 : xcode 105 94 = some (.l2i, 1) := by decide +kernel
theorem d_105_95 : xcode 105 95 = some (.ireturn, 1) := by decide +kernel
theorem d_106_0 : xcode 106 0 = some (.iload_n 1, 1) := by decide +kernel
theorem d_106_1 : xcode 106 1 = some (.invokestatic 120, 3) := by decide +kernel
theorem d_106_4 : xcode 106 4 = some (.ifCond .ne 5, 3) := by decide +kernel
theorem d_106_7 : xcode 106 7 = some (.iconst (-1), 1) := by decide +kernel
theorem d_106_8 : xcode 106 8 = some (.ireturn, 1) := by decide +kernel
theorem d_106_9 : xcode 106 9 = some (.iload_n 1, 1) := by decide +kernel
theorem d_106_10 : xcode 106 10 = some (.aload_n 0, 1) := by decide +kernel
theorem d_106_11 : xcode 106 11 = some (.getfield 49, 3) := by decide +kernel
theorem d_106_14 : xcode 106 14 = some (.if_icmp .le 8, 3) := by decide +kernel
theorem d_106_17 : xcode 106 17 = some (.bipush (-2), 2) := by decide +kernel
theorem d_106_19 : xcode 106 19 = some (.goto 13, 3) := by decide +kernel
theorem d_106_22 : xcode 106 22 = some (.aload_n 0, 1) := by decide +kernel
theorem d_106_23 : xcode 106 23 = some (.getfield 58, 3) := by decide +kernel
theorem d_106_26 : xcode 106 26 = some (.iload_n 1, 1) := by decide +kernel
theorem d_106_27 : xcode 106 27 = some (.bipush 63, 2) := by decide +kernel
theorem d_106_29 : xcode 106 29 = some (.invokevirtual 142, 3) := by decide +kernel
theorem d_106_32 : xcode 106 32 = some (.ireturn, 1) := by decide +kernel
theorem d_107_0 : xcode 107 0 = some (.iload_n 1, 1) := by decide +kernel
theorem d_107_1 : xcode 107 1 = some (.invokestatic 146, 3) := by decide +kernel
theorem d_107_4 : xcode 107 4 = some (.ifCond .eq 11, 3) := by decide +kernel
theorem d_107_7 : xcode 107 7 = some (.aload_n 0, 1) := by decide +kernel
theorem d_107_8 : xcode 107 8 = some (.iload_n 1, 1) := by decide +kernel
theorem d_107_9 : xcode 107 9 = some (.invokevirtual 149, 3) := by decide +kernel
theorem d_107_12 : xcode 107 12 = some (.goto 6, 3) := by decide +kernel
theorem d_107_15 : xcode 107 15 = some (.ldc2_w 166, 3) := by decide +kernel
theorem d_107_18 : xcode 107 18 = some (.lreturn, 1) := by decide +kernel
theorem d_108_0 : xcode 108 0 = some (.iload_n 1, 1) := by decide +kernel
theorem d_108_1 : xcode 108 1 = some (.ifCond .lt 8, 3) := by decide +kernel
theorem d_108_4 : xcode 108 4 = some (.iload_n 1, 1) := by decide +kernel
theorem d_108_5 : xcode 108 5 = some (.iconst 1, 1) := by decide +kernel
theorem d_108_6 : xcode 108 6 = some (.if_icmp .le 5, 3) := by decide +kernel
theorem d_108_9 : xcode 108 9 = some (.iconst (-1), 1) := by decide +kernel
theorem d_108_10 : xcode 108 10 = some (.ireturn, 1) := by decide +kernel
theorem d_108_11 : xcode 108 11 = some (.bipush (-2), 2) := by decide +kernel
theorem d_108_13 : xcode 108 13 = some (.istore_n 2, 1) := by decide +kernel
theorem d_108_14 : xcode 108 14 = some (.iconst 0, 1) := by decide +kernel
theorem d_108_15 : xcode 108 15 = some (.istore_n 3, 1) := by decide +kernel
theorem d_108_16 : xcode 108 16 = some (.iconst 1, 1) := by decide +kernel
theorem d_108_17 : xcode 108 17 = some (.istore 4, 2) := by decide +kernel
theorem d_108_19 : xcode 108 19 = some (.iload 4, 2) := by decide +kernel
theorem d_108_21 : xcode 108 21 = some (.aload_n 0, 1) := by decide +kernel
theorem d_108_22 : xcode 108 22 = some (.getfield 49, 3) := by decide +kernel
theorem d_108_25 : xcode 108 25 = some (.if_icmp .gt 35, 3) := by decide +kernel
theorem d_108_28 : xcode 108 28 = some (.aload_n 0, 1) := by decide +kernel
theorem d_108_29 : xcode 108 29 = some (.getfield 58, 3) := by decide +kernel
theorem d_108_32 : xcode 108 32 = some (.iload 4, 2) := by decide +kernel
theorem d_108_34 : xcode 108 34 = some (.iconst 4, 1) := by decide +kernel
theorem d_108_35 : xcode 108 35 = some (.invokevirtual 142, 3) := by decide +kernel
theorem d_108_38 : xcode 108 38 = some (.ifCond .ne 6, 3) := by decide +kernel
theorem d_108_41 : xcode 108 41 = some (.goto 13, 3) := by decide +kernel
theorem d_108_44 : xcode 108 44 = some (.iload_n 3, 1) := by decide +kernel
theorem d_108_45 : xcode 108 45 = some (.ifCond .ne 6, 3) := by decide +kernel
theorem d_108_48 : xcode 108 48 = some (.iload 4, 2) := by decide +kernel
theorem d_108_50 : xcode 108 50 = some (.istore_n 2, 1) := by decide +kernel
theorem d_108_51 : xcode 108 51 = some (.iinc 3 1, 3) := by decide +kernel
theorem d_108_54 : xcode 108 54 = some (.iinc 4 1, 3) := by decide +kernel
theorem d_108_57 : xcode 108 57 = some (.goto (-38), 3) := by decide +kernel
theorem d_108_60 : xcode 108 60 = some (.iload_n 1, 1) := by decide +kernel
theorem d_108_61 : xcode 108 61 = some (.ifCond .ne 7, 3) := by decide +kernel
theorem d_108_64 : xcode 108 64 = some (.iload_n 2, 1) := by decide +kernel
theorem d_108_65 : xcode 108 65 = some (.goto 4, 3) := by decide +kernel
theorem d_108_68 : xcode 108 68 = some (.iload_n 3, 1) := by decide +kernel
theorem d_108_69 : xcode 108 69 = some (.ireturn, 1) := by decide +kernel
theorem d_109_0 : xcode 109 0 = some (.iload_n 1, 1) := by decide +kernel
theorem d_109_1 : xcode 109 1 = some (.invokestatic 146, 3) := by decide +kernel
theorem d_109_4 : xcode 109 4 = some (.ifCond .ne 5, 3) := by decide +kernel
theorem d_109_7 : xcode 109 7 = some (.iconst (-1), 1) := by decide +kernel
theorem d_109_8 : xcode 109 8 = some (.ireturn, 1) := by decide +kernel
theorem d_109_9 : xcode 109 9 = some (.aload_n 0, 1) := by decide +kernel
theorem d_109_10 : xcode 109 10 = some (.iload_n 1, 1) := by decide +kernel
theorem d_109_11 : xcode 109 11 = some (.invokevirtual 271, 3) := by decide +kernel
theorem d_109_14 : xcode 109 14 = some (.istore_n 2, 1) := by decide +kernel
theorem d_109_15 : xcode 109 15 = some (.bipush (-2), 2) := by decide +kernel
theorem d_109_17 : xcode 109 17 = some (.istore_n 3, 1) := by decide +kernel
theorem d_109_18 : xcode 109 18 = some (.aload_n 0, 1) := by decide +kernel
theorem d_109_19 : xcode 109 19 = some (.getfield 42, 3) := by decide +kernel
theorem d_109_22 : xcode 109 22 = some (.aload_n 0, 1) := by decide +kernel
theorem d_109_23 : xcode 109 23 = some (.getfield 39, 3) := by decide +kernel
theorem d_109_26 : xcode 109 26 = some (.invokevirtual 274, 3) := by decide +kernel
theorem d_109_29 : xcode 109 29 = some (.iconst 0, 1) := by decide +kernel
theorem d_109_30 : xcode 109 30 = some (.istore 4, 2) := by decide +kernel
theorem d_109_32 : xcode 109 32 = some (.iload 4, 2) := by decide +kernel
theorem d_109_34 : xcode 109 34 = some (.aload_n 0, 1) := by decide +kernel
theorem d_109_35 : xcode 109 35 = some (.getfield 49, 3) := by decide +kernel
theorem d_109_38 : xcode 109 38 = some (.if_icmp .gt 77, 3) := by decide +kernel
theorem d_109_41 : xcode 109 41 = some (.iload_n 3, 1) := by decide +kernel
theorem d_109_42 : xcode 109 42 = some (.ifCond .ge 73, 3) := by decide +kernel
theorem d_109_45 : xcode 109 45 = some (.iload_n 2, 1) := by decide +kernel
theorem d_109_46 : xcode 109 46 = some (.istore 5, 2) := by decide +kernel
theorem d_109_48 : xcode 109 48 = some (.aload_n 0, 1) := by decide +kernel
theorem d_109_49 : xcode 109 49 = some (.iload 4, 2) := by decide +kernel
theorem d_109_51 : xcode 109 51 = some (.invokevirtual 174, 3) := by decide +kernel
theorem d_109_54 : xcode 109 54 = some (.ifCond .ne 47, 3) := by decide +kernel
theorem d_109_57 : xcode 109 57 = some (.aload_n 0, 1) := by decide +kernel
theorem d_109_58 : xcode 109 58 = some (.getfield 35, 3) := by decide +kernel
theorem d_109_61 : xcode 109 61 = some (.iload 4, 2) := by decide +kernel
theorem d_109_63 : xcode 109 63 = some (.aload_n 0, 1) := by decide +kernel
theorem d_109_64 : xcode 109 64 = some (.getfield 95, 3) := by decide +kernel
theorem d_109_67 : xcode 109 67 = some (.invokevirtual 168, 3) := by decide +kernel
theorem d_109_70 : xcode 109 70 = some (.aload_n 0, 1) := by decide +kernel
theorem d_109_71 : xcode 109 71 = some (.getfield 39, 3) := by decide +kernel
theorem d_109_74 : xcode 109 74 = some (.iload 4, 2) := by decide +kernel
theorem d_109_76 : xcode 109 76 = some (.aload_n 0, 1) := by decide +kernel
theorem d_109_77 : xcode 109 77 = some (.getfield 95, 3) := by decide +kernel
theorem d_109_80 : xcode 109 80 = some (.invokevirtual 114, 3) := by decide +kernel
theorem d_109_83 : xcode 109 83 = some (.aload_n 0, 1) := by decide +kernel
theorem d_109_84 : xcode 109 84 = some (.iload_n 1, 1) := by decide +kernel
theorem d_109_85 : xcode 109 85 = some (.invokevirtual 271, 3) := by decide +kernel
theorem d_109_88 : xcode 109 88 = some (.istore 5, 2) := by decide +kernel
