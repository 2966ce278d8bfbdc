/-! instructions by their places, laid by wip/whole/wp.py -/
theorem d_252_2 : xcode 252 2 = some (.invokevirtual 268, 3) := by decide +kernel
theorem d_252_5 : xcode 252 5 = some (.iconst 0, 1) := by decide +kernel
theorem d_252_6 : xcode 252 6 = some (.istore_n 2, 1) := by decide +kernel
theorem d_252_7 : xcode 252 7 = some (.iload_n 2, 1) := by decide +kernel
theorem d_252_8 : xcode 252 8 = some (.iload_n 1, 1) := by decide +kernel
theorem d_252_9 : xcode 252 9 = some (.iconst 3, 1) := by decide +kernel
theorem d_252_10 : xcode 252 10 = some (.isub, 1) := by decide +kernel
theorem d_252_11 : xcode 252 11 = some (.if_icmp .gt 21, 3) := by decide +kernel
theorem d_252_14 : xcode 252 14 = some (.aload_n 0, 1) := by decide +kernel
theorem d_252_15 : xcode 252 15 = some (.getfield 48, 3) := by decide +kernel
theorem d_252_18 : xcode 252 18 = some (.iload_n 2, 1) := by decide +kernel
theorem d_252_19 : xcode 252 19 = some (.aload_n 0, 1) := by decide +kernel
theorem d_252_20 : xcode 252 20 = some (.getfield 42, 3) := by decide +kernel
theorem d_252_23 : xcode 252 23 = some (.iload_n 2, 1) := by decide +kernel
theorem d_252_24 : xcode 252 24 = some (.iaload, 1) := by decide +kernel
theorem d_252_25 : xcode 252 25 = some (.iastore, 1) := by decide +kernel
theorem d_252_26 : xcode 252 26 = some (.iinc 2 1, 3) := by decide +kernel
theorem d_252_29 : xcode 252 29 = some (.goto (-22), 3) := by decide +kernel
theorem d_252_32 : xcode 252 32 = some (.aload_n 0, 1) := by decide +kernel
theorem d_252_33 : xcode 252 33 = some (.getfield 48, 3) := by decide +kernel
theorem d_252_36 : xcode 252 36 = some (.iload_n 1, 1) := by decide +kernel
theorem d_252_37 : xcode 252 37 = some (.iconst 2, 1) := by decide +kernel
theorem d_252_38 : xcode 252 38 = some (.isub, 1) := by decide +kernel
theorem d_252_39 : xcode 252 39 = some (.iload_n 1, 1) := by decide +kernel
theorem d_252_40 : xcode 252 40 = some (.iconst 3, 1) := by decide +kernel
theorem d_252_41 : xcode 252 41 = some (.if_icmp .ne 7, 3) := by decide +kernel
theorem d_252_44 : xcode 252 44 = some (.iconst 1, 1) := by decide +kernel
theorem d_252_45 : xcode 252 45 = some (.goto 4, 3) := by decide +kernel
theorem d_252_48 : xcode 252 48 = some (.iconst 0, 1) := by decide +kernel
theorem d_252_49 : xcode 252 49 = some (.iastore, 1) := by decide +kernel
theorem d_252_50 : xcode 252 50 = some (.return_, 1) := by decide +kernel
theorem d_253_0 : xcode 253 0 = some (.aload_n 0, 1) := by decide +kernel
theorem d_253_1 : xcode 253 1 = some (.getfield 42, 3) := by decide +kernel
theorem d_253_4 : xcode 253 4 = some (.iconst 0, 1) := by decide +kernel
theorem d_253_5 : xcode 253 5 = some (.iconst 1, 1) := by decide +kernel
theorem d_253_6 : xcode 253 6 = some (.iastore, 1) := by decide +kernel
theorem d_253_7 : xcode 253 7 = some (.iconst 0, 1) := by decide +kernel
theorem d_253_8 : xcode 253 8 = some (.istore_n 2, 1) := by decide +kernel
theorem d_253_9 : xcode 253 9 = some (.iload_n 2, 1) := by decide +kernel
theorem d_253_10 : xcode 253 10 = some (.sipush 200, 3) := by decide +kernel
theorem d_253_13 : xcode 253 13 = some (.if_icmp .ge 24, 3) := by decide +kernel
theorem d_253_16 : xcode 253 16 = some (.aload_n 0, 1) := by decide +kernel
theorem d_253_17 : xcode 253 17 = some (.getfield 45, 3) := by decide +kernel
theorem d_253_20 : xcode 253 20 = some (.iload_n 2, 1) := by decide +kernel
theorem d_253_21 : xcode 253 21 = some (.iload_n 2, 1) := by decide +kernel
theorem d_253_22 : xcode 253 22 = some (.ifCond .ne 7, 3) := by decide +kernel
theorem d_253_25 : xcode 253 25 = some (.iconst 1, 1) := by decide +kernel
theorem d_253_26 : xcode 253 26 = some (.goto 4, 3) := by decide +kernel
theorem d_253_29 : xcode 253 29 = some (.iconst 0, 1) := by decide +kernel
theorem d_253_30 : xcode 253 30 = some (.iastore, 1) := by decide +kernel
theorem d_253_31 : xcode 253 31 = some (.iinc 2 1, 3) := by decide +kernel
theorem d_253_34 : xcode 253 34 = some (.goto (-25), 3) := by decide +kernel
theorem d_253_37 : xcode 253 37 = some (.aload_n 0, 1) := by decide +kernel
theorem d_253_38 : xcode 253 38 = some (.getfield 45, 3) := by decide +kernel
theorem d_253_41 : xcode 253 41 = some (.iconst 1, 1) := by decide +kernel
theorem d_253_42 : xcode 253 42 = some (.iconst 1, 1) := by decide +kernel
theorem d_253_43 : xcode 253 43 = some (.iastore, 1) := by decide +kernel
theorem d_253_44 : xcode 253 44 = some (.iconst 1, 1) := by decide +kernel
theorem d_253_45 : xcode 253 45 = some (.istore_n 2, 1) := by decide +kernel
theorem d_253_46 : xcode 253 46 = some (.iload_n 2, 1) := by decide +kernel
theorem d_253_47 : xcode 253 47 = some (.iload_n 1, 1) := by decide +kernel
theorem d_253_48 : xcode 253 48 = some (.iconst 3, 1) := by decide +kernel
theorem d_253_49 : xcode 253 49 = some (.isub, 1) := by decide +kernel
theorem d_253_50 : xcode 253 50 = some (.if_icmp .gt 108, 3) := by decide +kernel
theorem d_253_53 : xcode 253 53 = some (.iload_n 2, 1) := by decide +kernel
theorem d_253_54 : xcode 253 54 = some (.iconst 1, 1) := by decide +kernel
theorem d_253_55 : xcode 253 55 = some (.iadd, 1) := by decide +kernel
theorem d_253_56 : xcode 253 56 = some (.istore_n 3, 1) := by decide +kernel
theorem d_253_57 : xcode 253 57 = some (.iload_n 3, 1) := by decide +kernel
theorem d_253_58 : xcode 253 58 = some (.ifCond .le 32, 3) := by decide +kernel
theorem d_253_61 : xcode 253 61 = some (.aload_n 0, 1) := by decide +kernel
theorem d_253_62 : xcode 253 62 = some (.getfield 45, 3) := by decide +kernel
theorem d_253_65 : xcode 253 65 = some (.iload_n 3, 1) := by decide +kernel
theorem d_253_66 : xcode 253 66 = some (.aload_n 0, 1) := by decide +kernel
theorem d_253_67 : xcode 253 67 = some (.getfield 45, 3) := by decide +kernel
theorem d_253_70 : xcode 253 70 = some (.iload_n 3, 1) := by decide +kernel
theorem d_253_71 : xcode 253 71 = some (.iaload, 1) := by decide +kernel
theorem d_253_72 : xcode 253 72 = some (.aload_n 0, 1) := by decide +kernel
theorem d_253_73 : xcode 253 73 = some (.getfield 45, 3) := by decide +kernel
theorem d_253_76 : xcode 253 76 = some (.iload_n 3, 1) := by decide +kernel
theorem d_253_77 : xcode 253 77 = some (.iconst 1, 1) := by decide +kernel
theorem d_253_78 : xcode 253 78 = some (.isub, 1) := by decide +kernel
theorem d_253_79 : xcode 253 79 = some (.iaload, 1) := by decide +kernel
theorem d_253_80 : xcode 253 80 = some (.iadd, 1) := by decide +kernel
theorem d_253_81 : xcode 253 81 = some (.iload_n 1, 1) := by decide +kernel
theorem d_253_82 : xcode 253 82 = some (.irem, 1) := by decide +kernel
theorem d_253_83 : xcode 253 83 = some (.iastore, 1) := by decide +kernel
theorem d_253_84 : xcode 253 84 = some (.iinc 3 (-1), 3) := by decide +kernel
theorem d_253_87 : xcode 253 87 = some (.goto (-30), 3) := by decide +kernel
theorem d_253_90 : xcode 253 90 = some (.iconst 0, 1) := by decide +kernel
theorem d_253_91 : xcode 253 91 = some (.istore_n 3, 1) := by decide +kernel
theorem d_253_92 : xcode 253 92 = some (.iconst 0, 1) := by decide +kernel
theorem d_253_93 : xcode 253 93 = some (.istore 4, 2) := by decide +kernel
theorem d_253_95 : xcode 253 95 = some (.iload 4, 2) := by decide +kernel
theorem d_253_97 : xcode 253 97 = some (.iload_n 2, 1) := by decide +kernel
theorem d_253_98 : xcode 253 98 = some (.if_icmp .ge 29, 3) := by decide +kernel
theorem d_253_101 : xcode 253 101 = some (.iload_n 3, 1) := by decide +kernel
theorem d_253_102 : xcode 253 102 = some (.aload_n 0, 1) := by decide +kernel
theorem d_253_103 : xcode 253 103 = some (.getfield 45, 3) := by decide +kernel
theorem d_253_106 : xcode 253 106 = some (.iload 4, 2) := by decide +kernel
theorem d_253_108 : xcode 253 108 = some (.iaload, 1) := by decide +kernel
theorem d_253_109 : xcode 253 109 = some (.aload_n 0, 1) := by decide +kernel
theorem d_253_110 : xcode 253 110 = some (.getfield 42, 3) := by decide +kernel
theorem d_253_113 : xcode 253 113 = some (.iload 4, 2) := by decide +kernel
theorem d_253_115 : xcode 253 115 = some (.iaload, 1) := by decide +kernel
theorem d_253_116 : xcode 253 116 = some (.imul, 1) := by decide +kernel
theorem d_253_117 : xcode 253 117 = some (.iadd, 1) := by decide +kernel
theorem d_253_118 : xcode 253 118 = some (.iload_n 1, 1) := by decide +kernel
theorem d_253_119 : xcode 253 119 = some (.irem, 1) := by decide +kernel
theorem d_253_120 : xcode 253 120 = some (.istore_n 3, 1) := by decide +kernel
theorem d_253_121 : xcode 253 121 = some (.iinc 4 1, 3) := by decide +kernel
theorem d_253_124 : xcode 253 124 = some (.goto (-29), 3) := by decide +kernel
theorem d_253_127 : xcode 253 127 = some (.aload_n 0, 1) := by decide +kernel
theorem d_253_128 : xcode 253 128 = some (.getfield 42, 3) := by decide +kernel
theorem d_253_131 : xcode 253 131 = some (.iload_n 2, 1) := by decide +kernel
theorem d_253_132 : xcode 253 132 = some (.iload_n 3, 1) := by decide +kernel
theorem d_253_133 : xcode 253 133 = some (.i2l, 1) := by decide +kernel
theorem d_253_134 : xcode 253 134 = some (.lneg, 1) := by decide +kernel
theorem d_253_135 : xcode 253 135 = some (.iload_n 2, 1) := by decide +kernel
theorem d_253_136 : xcode 253 136 = some (.iconst 1, 1) := by decide +kernel
theorem d_253_137 : xcode 253 137 = some (.iadd, 1) := by decide +kernel
theorem d_253_138 : xcode 253 138 = some (.iload_n 1, 1) := by decide +kernel
theorem d_253_139 : xcode 253 139 = some (.iconst 2, 1) := by decide +kernel
theorem d_253_140 : xcode 253 140 = some (.isub, 1) := by decide +kernel
theorem d_253_141 : xcode 253 141 = some (.iload_n 1, 1) := by decide +kernel
theorem d_253_142 : xcode 253 142 = some (.invokestatic 174, 3) := by decide +kernel
theorem d_253_145 : xcode 253 145 = some (.i2l, 1) := by decide +kernel
theorem d_253_146 : xcode 253 146 = some (.lmul, 1) := by decide +kernel
theorem d_253_147 : xcode 253 147 = some (.iload_n 1, 1) := by decide +kernel
theorem d_253_148 : xcode 253 148 = some (.invokestatic 170, 3) := by decide +kernel
theorem d_253_151 : xcode 253 151 = some (.iastore, 1) := by decide +kernel
theorem d_253_152 : xcode 253 152 = some (.iinc 2 1, 3) := by decide +kernel
theorem d_253_155 : xcode 253 155 = some (.goto (-109), 3) := by decide +kernel
theorem d_253_158 : xcode 253 158 = some (.return_, 1) := by decide +kernel
theorem d_254_0 : xcode 254 0 = some (.iconst 0, 1) := by decide +kernel
theorem d_254_1 : xcode 254 1 = some (.istore_n 2, 1) := by decide +kernel
theorem d_254_2 : xcode 254 2 = some (.iload_n 2, 1) := by decide +kernel
theorem d_254_3 : xcode 254 3 = some (.iload_n 1, 1) := by decide +kernel
theorem d_254_4 : xcode 254 4 = some (.iconst 2, 1) := by decide +kernel
theorem d_254_5 : xcode 254 5 = some (.isub, 1) := by decide +kernel
theorem d_254_6 : xcode 254 6 = some (.if_icmp .gt 25, 3) := by decide +kernel
theorem d_254_9 : xcode 254 9 = some (.aload_n 0, 1) := by decide +kernel
theorem d_254_10 : xcode 254 10 = some (.getfield 51, 3) := by decide +kernel
theorem d_254_13 : xcode 254 13 = some (.iload_n 2, 1) := by decide +kernel
theorem d_254_14 : xcode 254 14 = some (.iload_n 2, 1) := by decide +kernel
theorem d_254_15 : xcode 254 15 = some (.iconst 1, 1) := by decide +kernel
theorem d_254_16 : xcode 254 16 = some (.iadd, 1) := by decide +kernel
theorem d_254_17 : xcode 254 17 = some (.iload_n 1, 1) := by decide +kernel
theorem d_254_18 : xcode 254 18 = some (.iconst 2, 1) := by decide +kernel
theorem d_254_19 : xcode 254 19 = some (.isub, 1) := by decide +kernel
theorem d_254_20 : xcode 254 20 = some (.iload_n 1, 1) := by decide +kernel
theorem d_254_21 : xcode 254 21 = some (.invokestatic 174, 3) := by decide +kernel
theorem d_254_24 : xcode 254 24 = some (.iastore, 1) := by decide +kernel
theorem d_254_25 : xcode 254 25 = some (.iinc 2 1, 3) := by decide +kernel
theorem d_254_28 : xcode 254 28 = some (.goto (-26), 3) := by decide +kernel
theorem d_254_31 : xcode 254 31 = some (.iconst 0, 1) := by decide +kernel
theorem d_254_32 : xcode 254 32 = some (.istore_n 2, 1) := by decide +kernel
theorem d_254_33 : xcode 254 33 = some (.iload_n 2, 1) := by decide +kernel
theorem d_254_34 : xcode 254 34 = some (.iload_n 1, 1) := by decide +kernel
theorem d_254_35 : xcode 254 35 = some (.iconst 2, 1) := by decide +kernel
theorem d_254_36 : xcode 254 36 = some (.isub, 1) := by decide +kernel
theorem d_254_37 : xcode 254 37 = some (.if_icmp .gt 90, 3) := by decide +kernel
theorem d_254_40 : xcode 254 40 = some (.aload_n 0, 1) := by decide +kernel
theorem d_254_41 : xcode 254 41 = some (.getfield 48, 3) := by decide +kernel
theorem d_254_44 : xcode 254 44 = some (.iload_n 2, 1) := by decide +kernel
theorem d_254_45 : xcode 254 45 = some (.iload_n 2, 1) := by decide +kernel
theorem d_254_46 : xcode 254 46 = some (.iconst 1, 1) := by decide +kernel
theorem d_254_47 : xcode 254 47 = some (.if_icmp .ne 19, 3) := by decide +kernel
theorem d_254_50 : xcode 254 50 = some (.aload_n 0, 1) := by decide +kernel
theorem d_254_51 : xcode 254 51 = some (.getfield 51, 3) := by decide +kernel
theorem d_254_54 : xcode 254 54 = some (.iconst 0, 1) := by decide +kernel
theorem d_254_55 : xcode 254 55 = some (.iaload, 1) := by decide +kernel
theorem d_254_56 : xcode 254 56 = some (.i2l, 1) := by decide +kernel
theorem d_254_57 : xcode 254 57 = some (.lconst 1, 1) := by decide +kernel
theorem d_254_58 : xcode 254 58 = some (.lsub, 1) := by decide +kernel
theorem d_254_59 : xcode 254 59 = some (.iload_n 1, 1) := by decide +kernel
theorem d_254_60 : xcode 254 60 = some (.invokestatic 170, 3) := by decide +kernel
theorem d_254_63 : xcode 254 63 = some (.goto 9, 3) := by decide +kernel
theorem d_254_66 : xcode 254 66 = some (.aload_n 0, 1) := by decide +kernel
theorem d_254_67 : xcode 254 67 = some (.getfield 51, 3) := by decide +kernel
theorem d_254_70 : xcode 254 70 = some (.iconst 0, 1) := by decide +kernel
theorem d_254_71 : xcode 254 71 = some (.iaload, 1) := by decide +kernel
theorem d_254_72 : xcode 254 72 = some (.iastore, 1) := by decide +kernel
theorem d_254_73 : xcode 254 73 = some (.iconst 0, 1) := by decide +kernel
theorem d_254_74 : xcode 254 74 = some (.istore_n 3, 1) := by decide +kernel
theorem d_254_75 : xcode 254 75 = some (.iload_n 3, 1) := by decide +kernel
theorem d_254_76 : xcode 254 76 = some (.iload_n 2, 1) := by decide +kernel
theorem d_254_77 : xcode 254 77 = some (.iadd, 1) := by decide +kernel
theorem d_254_78 : xcode 254 78 = some (.iload_n 1, 1) := by decide +kernel
theorem d_254_79 : xcode 254 79 = some (.iconst 2, 1) := by decide +kernel
theorem d_254_80 : xcode 254 80 = some (.isub, 1) := by decide +kernel
theorem d_254_81 : xcode 254 81 = some (.if_icmp .ge 40, 3) := by decide +kernel
theorem d_254_84 : xcode 254 84 = some (.aload_n 0, 1) := by decide +kernel
theorem d_254_85 : xcode 254 85 = some (.getfield 51, 3) := by decide +kernel
theorem d_254_88 : xcode 254 88 = some (.iload_n 3, 1) := by decide +kernel
theorem d_254_89 : xcode 254 89 = some (.iload_n 3, 1) := by decide +kernel
theorem d_254_90 : xcode 254 90 = some (.i2l, 1) := by decide +kernel
theorem d_254_91 : xcode 254 91 = some (.lconst 1, 1) := by decide +kernel
theorem d_254_92 : xcode 254 92 = some (.ladd, 1) := by decide +kernel
theorem d_254_93 : xcode 254 93 = some (.aload_n 0, 1) := by decide +kernel
theorem d_254_94 : xcode 254 94 = some (.getfield 51, 3) := by decide +kernel
theorem d_254_97 : xcode 254 97 = some (.iload_n 3, 1) := by decide +kernel
theorem d_254_98 : xcode 254 98 = some (.iaload, 1) := by decide +kernel
theorem d_254_99 : xcode 254 99 = some (.aload_n 0, 1) := by decide +kernel
theorem d_254_100 : xcode 254 100 = some (.getfield 51, 3) := by decide +kernel
theorem d_254_103 : xcode 254 103 = some (.iload_n 3, 1) := by decide +kernel
theorem d_254_104 : xcode 254 104 = some (.iconst 1, 1) := by decide +kernel
theorem d_254_105 : xcode 254 105 = some (.iadd, 1) := by decide +kernel
theorem d_254_106 : xcode 254 106 = some (.iaload, 1) := by decide +kernel
theorem d_254_107 : xcode 254 107 = some (.isub, 1) := by decide +kernel
theorem d_254_108 : xcode 254 108 = some (.i2l, 1) := by decide +kernel
theorem d_254_109 : xcode 254 109 = some (.lmul, 1) := by decide +kernel
theorem d_254_110 : xcode 254 110 = some (.iload_n 1, 1) := by decide +kernel
theorem d_254_111 : xcode 254 111 = some (.invokestatic 170, 3) := by decide +kernel
theorem d_254_114 : xcode 254 114 = some (.iastore, 1) := by decide +kernel
theorem d_254_115 : xcode 254 115 = some (.iinc 3 1, 3) := by decide +kernel
theorem d_254_118 : xcode 254 118 = some (.goto (-43), 3) := by decide +kernel
theorem d_254_121 : xcode 254 121 = some (.iinc 2 1, 3) := by decide +kernel
theorem d_254_124 : xcode 254 124 = some (.goto (-91), 3) := by decide +kernel
theorem d_254_127 : xcode 254 127 = some (.return_, 1) := by decide +kernel
theorem d_255_0 : xcode 255 0 = some (.lconst 0, 1) := by decide +kernel
theorem d_255_1 : xcode 255 1 = some (.lstore 4, 2) := by decide +kernel
theorem d_255_3 : xcode 255 3 = some (.iconst 1, 1) := by decide +kernel
theorem d_255_4 : xcode 255 4 = some (.istore 6, 2) := by decide +kernel
theorem d_255_6 : xcode 255 6 = some (.iload 6, 2) := by decide +kernel
theorem d_255_8 : xcode 255 8 = some (.iload_n 1, 1) := by decide +kernel
theorem d_255_9 : xcode 255 9 = some (.if_icmp .ge 24, 3) := by decide +kernel
theorem d_255_12 : xcode 255 12 = some (.lload 4, 2) := by decide +kernel
theorem d_255_14 : xcode 255 14 = some (.iload 6, 2) := by decide +kernel
theorem d_255_16 : xcode 255 16 = some (.i2l, 1) := by decide +kernel
theorem d_255_17 : xcode 255 17 = some (.iload_n 0, 1) := by decide +kernel
theorem d_255_18 : xcode 255 18 = some (.lload_n 2, 1) := by decide +kernel
theorem d_255_19 : xcode 255 19 = some (.invokestatic 208, 3) := by decide +kernel
theorem d_255_22 : xcode 255 22 = some (.ladd, 1) := by decide +kernel
theorem d_255_23 : xcode 255 23 = some (.lload_n 2, 1) := by decide +kernel
theorem d_255_24 : xcode 255 24 = some (.lrem, 1) := by decide +kernel
theorem d_255_25 : xcode 255 25 = some (.lstore 4, 2) := by decide +kernel
theorem d_255_27 : xcode 255 27 = some (.iinc 6 1, 3) := by decide +kernel
theorem d_255_30 : xcode 255 30 = some (.goto (-24), 3) := by decide +kernel
theorem d_255_33 : xcode 255 33 = some (.lload 4, 2) := by decide +kernel
theorem d_255_35 : xcode 255 35 = some (.iload_n 1, 1) := by decide +kernel
theorem d_255_36 : xcode 255 36 = some (.i2l, 1) := by decide +kernel
theorem d_255_37 : xcode 255 37 = some (.ldiv, 1) := by decide +kernel
theorem d_255_38 : xcode 255 38 = some (.lreturn, 1) := by decide +kernel
theorem d_256_0 : xcode 256 0 = some (.aload_n 0, 1) := by decide +kernel
theorem d_256_1 : xcode 256 1 = some (.iconst 0, 1) := by decide +kernel
theorem d_256_2 : xcode 256 2 = some (.putfield 118, 3) := by decide +kernel
theorem d_256_5 : xcode 256 5 = some (.aload_n 0, 1) := by decide +kernel
theorem d_256_6 : xcode 256 6 = some (.iload_n 1, 1) := by decide +kernel
theorem d_256_7 : xcode 256 7 = some (.invokevirtual 185, 3) := by decide +kernel
theorem d_256_10 : xcode 256 10 = some (.ifCond .eq 12, 3) := by decide +kernel
theorem d_256_13 : xcode 256 13 = some (.iload_n 2, 1) := by decide +kernel
theorem d_256_14 : xcode 256 14 = some (.iconst 0, 1) := by decide +kernel
theorem d_256_15 : xcode 256 15 = some (.iconst 2, 1) := by decide +kernel
theorem d_256_16 : xcode 256 16 = some (.invokestatic 137, 3) := by decide +kernel
theorem d_256_19 : xcode 256 19 = some (.ifCond .ne 5, 3) := by decide +kernel
theorem d_256_22 : xcode 256 22 = some (.iconst (-1), 1) := by decide +kernel
theorem d_256_23 : xcode 256 23 = some (.ireturn, 1) := by decide +kernel
theorem d_256_24 : xcode 256 24 = some (.aload_n 0, 1) := by decide +kernel
theorem d_256_25 : xcode 256 25 = some (.iload_n 1, 1) := by decide +kernel
theorem d_256_26 : xcode 256 26 = some (.iload_n 2, 1) := by decide +kernel
theorem d_256_27 : xcode 256 27 = some (.invokevirtual 271, 3) := by decide +kernel
theorem d_256_30 : xcode 256 30 = some (.iconst 0, 1) := by decide +kernel
theorem d_256_31 : xcode 256 31 = some (.istore_n 3, 1) := by decide +kernel
theorem d_256_32 : xcode 256 32 = some (.iconst 2, 1) := by decide +kernel
theorem d_256_33 : xcode 256 33 = some (.istore 4, 2) := by decide +kernel
theorem d_256_35 : xcode 256 35 = some (.iload 4, 2) := by decide +kernel
theorem d_256_37 : xcode 256 37 = some (.iload_n 1, 1) := by decide +kernel
theorem d_256_38 : xcode 256 38 = some (.iconst 3, 1) := by decide +kernel
theorem d_256_39 : xcode 256 39 = some (.isub, 1) := by decide +kernel
theorem d_256_40 : xcode 256 40 = some (.if_icmp .gt 27, 3) := by decide +kernel
theorem d_256_43 : xcode 256 43 = some (.iload_n 3, 1) := by decide +kernel
theorem d_256_44 : xcode 256 44 = some (.aload_n 0, 1) := by decide +kernel
theorem d_256_45 : xcode 256 45 = some (.getfield 48, 3) := by decide +kernel
theorem d_256_48 : xcode 256 48 = some (.iload 4, 2) := by decide +kernel
theorem d_256_50 : xcode 256 50 = some (.iaload, 1) := by decide +kernel
theorem d_256_51 : xcode 256 51 = some (.ifCond .ne 7, 3) := by decide +kernel
theorem d_256_54 : xcode 256 54 = some (.iconst 1, 1) := by decide +kernel
theorem d_256_55 : xcode 256 55 = some (.goto 4, 3) := by decide +kernel
theorem d_256_58 : xcode 256 58 = some (.iconst 0, 1) := by decide +kernel
theorem d_256_59 : xcode 256 59 = some (.iadd, 1) := by decide +kernel
theorem d_256_60 : xcode 256 60 = some (.istore_n 3, 1) := by decide +kernel
theorem d_256_61 : xcode 256 61 = some (.iinc 4 2, 3) := by decide +kernel
theorem d_256_64 : xcode 256 64 = some (.goto (-29), 3) := by decide +kernel
theorem d_256_67 : xcode 256 67 = some (.iload_n 3, 1) := by decide +kernel
theorem d_256_68 : xcode 256 68 = some (.ireturn, 1) := by decide +kernel
theorem d_257_0 : xcode 257 0 = some (.aload_n 0, 1) := by decide +kernel
theorem d_257_1 : xcode 257 1 = some (.iconst 0, 1) := by decide +kernel
theorem d_257_2 : xcode 257 2 = some (.putfield 118, 3) := by decide +kernel
theorem d_257_5 : xcode 257 5 = some (.aload_n 0, 1) := by decide +kernel
theorem d_257_6 : xcode 257 6 = some (.iload_n 1, 1) := by decide +kernel
theorem d_257_7 : xcode 257 7 = some (.invokevirtual 185, 3) := by decide +kernel
theorem d_257_10 : xcode 257 10 = some (.ifCond .eq 11, 3) := by decide +kernel
theorem d_257_13 : xcode 257 13 = some (.aload_n 0, 1) := by decide +kernel
theorem d_257_14 : xcode 257 14 = some (.iload_n 1, 1) := by decide +kernel
theorem d_257_15 : xcode 257 15 = some (.invokevirtual 274, 3) := by decide +kernel
theorem d_257_18 : xcode 257 18 = some (.goto 4, 3) := by decide +kernel
theorem d_257_21 : xcode 257 21 = some (.iconst (-1), 1) := by decide +kernel
theorem d_257_22 : xcode 257 22 = some (.ireturn, 1) := by decide +kernel
theorem d_258_0 : xcode 258 0 = some (.aload_n 0, 1) := by decide +kernel
theorem d_258_1 : xcode 258 1 = some (.iload_n 1, 1) := by decide +kernel
theorem d_258_2 : xcode 258 2 = some (.invokevirtual 268, 3) := by decide +kernel
theorem d_258_5 : xcode 258 5 = some (.iconst 0, 1) := by decide +kernel
theorem d_258_6 : xcode 258 6 = some (.istore_n 2, 1) := by decide +kernel
theorem d_258_7 : xcode 258 7 = some (.iconst 2, 1) := by decide +kernel
theorem d_258_8 : xcode 258 8 = some (.istore_n 3, 1) := by decide +kernel
theorem d_258_9 : xcode 258 9 = some (.iload_n 3, 1) := by decide +kernel
theorem d_258_10 : xcode 258 10 = some (.iload_n 1, 1) := by decide +kernel
theorem d_258_11 : xcode 258 11 = some (.iconst 3, 1) := by decide +kernel
theorem d_258_12 : xcode 258 12 = some (.isub, 1) := by decide +kernel
theorem d_258_13 : xcode 258 13 = some (.if_icmp .gt 26, 3) := by decide +kernel
theorem d_258_16 : xcode 258 16 = some (.iload_n 2, 1) := by decide +kernel
theorem d_258_17 : xcode 258 17 = some (.aload_n 0, 1) := by decide +kernel
theorem d_258_18 : xcode 258 18 = some (.getfield 42, 3) := by decide +kernel
theorem d_258_21 : xcode 258 21 = some (.iload_n 3, 1) := by decide +kernel
theorem d_258_22 : xcode 258 22 = some (.iaload, 1) := by decide +kernel
theorem d_258_23 : xcode 258 23 = some (.ifCond .ne 7, 3) := by decide +kernel
theorem d_258_26 : xcode 258 26 = some (.iconst 1, 1) := by decide +kernel
theorem d_258_27 : xcode 258 27 = some (.goto 4, 3) := by decide +kernel
theorem d_258_30 : xcode 258 30 = some (.iconst 0, 1) := by decide +kernel
theorem d_258_31 : xcode 258 31 = some (.iadd, 1) := by decide +kernel
theorem d_258_32 : xcode 258 32 = some (.istore_n 2, 1) := by decide +kernel
theorem d_258_33 : xcode 258 33 = some (.iinc 3 2, 3) := by decide +kernel
theorem d_258_36 : xcode 258 36 = some (.goto (-27), 3) := by decide +kernel
theorem d_258_39 : xcode 258 39 = some (.iload_n 2, 1) := by decide +kernel
theorem d_258_40 : xcode 258 40 = some (.ireturn, 1) := by decide +kernel
theorem d_259_0 : xcode 259 0 = some (.aload_n 0, 1) := by decide +kernel
theorem d_259_1 : xcode 259 1 = some (.iconst 0, 1) := by decide +kernel
theorem d_259_2 : xcode 259 2 = some (.putfield 118, 3) := by decide +kernel
theorem d_259_5 : xcode 259 5 = some (.iload_n 1, 1) := by decide +kernel
theorem d_259_6 : xcode 259 6 = some (.ifCond .lt 12, 3) := by decide +kernel
theorem d_259_9 : xcode 259 9 = some (.iload_n 2, 1) := by decide +kernel
theorem d_259_10 : xcode 259 10 = some (.iconst 0, 1) := by decide +kernel
theorem d_259_11 : xcode 259 11 = some (.iconst 1, 1) := by decide +kernel
theorem d_259_12 : xcode 259 12 = some (.invokestatic 137, 3) := by decide +kernel
theorem d_259_15 : xcode 259 15 = some (.ifCond .ne 5, 3) := by decide +kernel
theorem d_259_18 : xcode 259 18 = some (.iconst (-1), 1) := by decide +kernel
theorem d_259_19 : xcode 259 19 = some (.ireturn, 1) := by decide +kernel
theorem d_259_20 : xcode 259 20 = some (.iload_n 1, 1) := by decide +kernel
theorem d_259_21 : xcode 259 21 = some (.istore_n 3, 1) := by decide +kernel
theorem d_259_22 : xcode 259 22 = some (.iconst 1, 1) := by decide +kernel
theorem d_259_23 : xcode 259 23 = some (.istore 4, 2) := by decide +kernel
theorem d_259_25 : xcode 259 25 = some (.iload 4, 2) := by decide +kernel
theorem d_259_27 : xcode 259 27 = some (.aload_n 0, 1) := by decide +kernel
theorem d_259_28 : xcode 259 28 = some (.getfield 96, 3) := by decide +kernel
theorem d_259_31 : xcode 259 31 = some (.if_icmp .ge 80, 3) := by decide +kernel
theorem d_259_34 : xcode 259 34 = some (.aload_n 0, 1) := by decide +kernel
theorem d_259_35 : xcode 259 35 = some (.aload_n 0, 1) := by decide +kernel
theorem d_259_36 : xcode 259 36 = some (.getfield 27, 3) := by decide +kernel
theorem d_259_39 : xcode 259 39 = some (.iload 4, 2) := by decide +kernel
theorem d_259_41 : xcode 259 41 = some (.iaload, 1) := by decide +kernel
theorem d_259_42 : xcode 259 42 = some (.invokevirtual 268, 3) := by decide +kernel
theorem d_259_45 : xcode 259 45 = some (.iconst 2, 1) := by decide +kernel
theorem d_259_46 : xcode 259 46 = some (.istore 5, 2) := by decide +kernel
theorem d_259_48 : xcode 259 48 = some (.iload 5, 2) := by decide +kernel
theorem d_259_50 : xcode 259 50 = some (.aload_n 0, 1) := by decide +kernel
theorem d_259_51 : xcode 259 51 = some (.getfield 27, 3) := by decide +kernel
theorem d_259_54 : xcode 259 54 = some (.iload 4, 2) := by decide +kernel
theorem d_259_56 : xcode 259 56 = some (.iaload, 1) := by decide +kernel
theorem d_259_57 : xcode 259 57 = some (.iconst 3, 1) := by decide +kernel
theorem d_259_58 : xcode 259 58 = some (.isub, 1) := by decide +kernel
theorem d_259_59 : xcode 259 59 = some (.if_icmp .gt 46, 3) := by decide +kernel
theorem d_259_62 : xcode 259 62 = some (.aload_n 0, 1) := by decide +kernel
theorem d_259_63 : xcode 259 63 = some (.getfield 42, 3) := by decide +kernel
theorem d_259_66 : xcode 259 66 = some (.iload 5, 2) := by decide +kernel
theorem d_259_68 : xcode 259 68 = some (.iaload, 1) := by decide +kernel
theorem d_259_69 : xcode 259 69 = some (.ifCond .eq 6, 3) := by decide +kernel
theorem d_259_72 : xcode 259 72 = some (.goto 27, 3) := by decide +kernel
theorem d_259_75 : xcode 259 75 = some (.iload_n 3, 1) := by decide +kernel
theorem d_259_76 : xcode 259 76 = some (.ifCond .ne 20, 3) := by decide +kernel
theorem d_259_79 : xcode 259 79 = some (.iload_n 2, 1) := by decide +kernel
theorem d_259_80 : xcode 259 80 = some (.ifCond .ne 13, 3) := by decide +kernel
theorem d_259_83 : xcode 259 83 = some (.aload_n 0, 1) := by decide +kernel
theorem d_259_84 : xcode 259 84 = some (.getfield 27, 3) := by decide +kernel
theorem d_259_87 : xcode 259 87 = some (.iload 4, 2) := by decide +kernel
theorem d_259_89 : xcode 259 89 = some (.iaload, 1) := by decide +kernel
theorem d_259_90 : xcode 259 90 = some (.goto 5, 3) := by decide +kernel
theorem d_259_93 : xcode 259 93 = some (.iload 5, 2) := by decide +kernel
theorem d_259_95 : xcode 259 95 = some (.ireturn, 1) := by decide +kernel
theorem d_259_96 : xcode 259 96 = some (.iinc 3 (-1), 3) := by decide +kernel
theorem d_259_99 : xcode 259 99 = some (.iinc 5 2, 3) := by decide +kernel
theorem d_259_102 : xcode 259 102 = some (.goto (-54), 3) := by decide +kernel
theorem d_259_105 : xcode 259 105 = some (.iinc 4 1, 3) := by decide +kernel
theorem d_259_108 : xcode 259 108 = some (.goto (-83), 3) := by decide +kernel
theorem d_259_111 : xcode 259 111 = some (.bipush (-2), 2) := by decide +kernel
theorem d_259_113 : xcode 259 113 = some (.ireturn, 1) := by decide +kernel
theorem d_260_0 : xcode 260 0 = some (.aload_n 0, 1) := by decide +kernel
theorem d_260_1 : xcode 260 1 = some (.iconst 0, 1) := by decide +kernel
theorem d_260_2 : xcode 260 2 = some (.putfield 118, 3) := by decide +kernel
theorem d_260_5 : xcode 260 5 = some (.iload_n 1, 1) := by decide +kernel
theorem d_260_6 : xcode 260 6 = some (.ifCond .ge 5, 3) := by decide +kernel
theorem d_260_9 : xcode 260 9 = some (.iconst (-1), 1) := by decide +kernel
theorem d_260_10 : xcode 260 10 = some (.ireturn, 1) := by decide +kernel
theorem d_260_11 : xcode 260 11 = some (.aload_n 0, 1) := by decide +kernel
theorem d_260_12 : xcode 260 12 = some (.iload_n 1, 1) := by decide +kernel
theorem d_260_13 : xcode 260 13 = some (.iconst 0, 1) := by decide +kernel
theorem d_260_14 : xcode 260 14 = some (.invokevirtual 277, 3) := by decide +kernel
theorem d_260_17 : xcode 260 17 = some (.istore_n 2, 1) := by decide +kernel
theorem d_260_18 : xcode 260 18 = some (.iload_n 2, 1) := by decide +kernel
theorem d_260_19 : xcode 260 19 = some (.ifCond .ge 6, 3) := by decide +kernel
theorem d_260_22 : xcode 260 22 = some (.bipush (-2), 2) := by decide +kernel
theorem d_260_24 : xcode 260 24 = some (.ireturn, 1) := by decide +kernel
theorem d_260_25 : xcode 260 25 = some (.aload_n 0, 1) := by decide +kernel
theorem d_260_26 : xcode 260 26 = some (.iload_n 1, 1) := by decide +kernel
theorem d_260_27 : xcode 260 27 = some (.iconst 1, 1) := by decide +kernel
theorem d_260_28 : xcode 260 28 = some (.invokevirtual 277, 3) := by decide +kernel
theorem d_260_31 : xcode 260 31 = some (.istore_n 3, 1) := by decide +kernel
theorem d_260_32 : xcode 260 32 = some (.iconst 0, 1) := by decide +kernel
theorem d_260_33 : xcode 260 33 = some (.istore 4, 2) := by decide +kernel
theorem d_260_35 : xcode 260 35 = some (.iload 4, 2) := by decide +kernel
theorem d_260_37 : xcode 260 37 = some (.iload_n 2, 1) := by decide +kernel
theorem d_260_38 : xcode 260 38 = some (.if_icmp .ge 33, 3) := by decide +kernel
theorem d_260_41 : xcode 260 41 = some (.iload_n 3, 1) := by decide +kernel
theorem d_260_42 : xcode 260 42 = some (.iload 4, 2) := by decide +kernel
theorem d_260_44 : xcode 260 44 = some (.iload_n 2, 1) := by decide +kernel
theorem d_260_45 : xcode 260 45 = some (.iconst 1, 1) := by decide +kernel
theorem d_260_46 : xcode 260 46 = some (.isub, 1) := by decide +kernel
theorem d_260_47 : xcode 260 47 = some (.imul, 1) := by decide +kernel
theorem d_260_48 : xcode 260 48 = some (.iadd, 1) := by decide +kernel
theorem d_260_49 : xcode 260 49 = some (.iload_n 2, 1) := by decide +kernel
theorem d_260_50 : xcode 260 50 = some (.invokestatic 280, 3) := by decide +kernel
theorem d_260_53 : xcode 260 53 = some (.ifCond .eq 12, 3) := by decide +kernel
theorem d_260_56 : xcode 260 56 = some (.iload_n 3, 1) := by decide +kernel
theorem d_260_57 : xcode 260 57 = some (.iload 4, 2) := by decide +kernel
theorem d_260_59 : xcode 260 59 = some (.iload_n 2, 1) := by decide +kernel
theorem d_260_60 : xcode 260 60 = some (.iconst 1, 1) := by decide +kernel
theorem d_260_61 : xcode 260 61 = some (.isub, 1) := by decide +kernel
theorem d_260_62 : xcode 260 62 = some (.imul, 1) := by decide +kernel
theorem d_260_63 : xcode 260 63 = some (.iadd, 1) := by decide +kernel
theorem d_260_64 : xcode 260 64 = some (.ireturn, 1) := by decide +kernel
theorem d_260_65 : xcode 260 65 = some (.iinc 4 1, 3) := by decide +kernel
theorem d_260_68 : xcode 260 68 = some (.goto (-33), 3) := by decide +kernel
theorem d_260_71 : xcode 260 71 = some (.bipush (-3), 2) := by decide +kernel
theorem d_260_73 : xcode 260 73 = some (.ireturn, 1) := by decide +kernel
theorem d_261_0 : xcode 261 0 = some (.iload_n 1, 1) := by decide +kernel
theorem d_261_1 : xcode 261 1 = some (.i2l, 1) := by decide +kernel
theorem d_261_2 : xcode 261 2 = some (.iload_n 1, 1) := by decide +kernel
theorem d_261_3 : xcode 261 3 = some (.i2l, 1) := by decide +kernel
theorem d_261_4 : xcode 261 4 = some (.lmul, 1) := by decide +kernel
theorem d_261_5 : xcode 261 5 = some (.iload_n 1, 1) := by decide +kernel
theorem d_261_6 : xcode 261 6 = some (.i2l, 1) := by decide +kernel
theorem d_261_7 : xcode 261 7 = some (.lmul, 1) := by decide +kernel
theorem d_261_8 : xcode 261 8 = some (.lstore_n 2, 1) := by decide +kernel
theorem d_261_9 : xcode 261 9 = some (.iload_n 0, 1) := by decide +kernel
theorem d_261_10 : xcode 261 10 = some (.iload_n 1, 1) := by decide +kernel
theorem d_261_11 : xcode 261 11 = some (.irem, 1) := by decide +kernel
theorem d_261_12 : xcode 261 12 = some (.ifCond .ne 27, 3) := by decide +kernel
theorem d_261_15 : xcode 261 15 = some (.iload_n 0, 1) := by decide +kernel
theorem d_261_16 : xcode 261 16 = some (.iload_n 1, 1) := by decide +kernel
theorem d_261_17 : xcode 261 17 = some (.lload_n 2, 1) := by decide +kernel
theorem d_261_18 : xcode 261 18 = some (.iload_n 1, 1) := by decide +kernel
theorem d_261_19 : xcode 261 19 = some (.i2l, 1) := by decide +kernel
theorem d_261_20 : xcode 261 20 = some (.lmul, 1) := by decide +kernel
theorem d_261_21 : xcode 261 21 = some (.invokestatic 264, 3) := by decide +kernel
theorem d_261_24 : xcode 261 24 = some (.lload_n 2, 1) := by decide +kernel
theorem d_261_25 : xcode 261 25 = some (.lrem, 1) := by decide +kernel
theorem d_261_26 : xcode 261 26 = some (.lconst 0, 1) := by decide +kernel
theorem d_261_27 : xcode 261 27 = some (.lcmp, 1) := by decide +kernel
theorem d_261_28 : xcode 261 28 = some (.ifCond .ne 7, 3) := by decide +kernel
theorem d_261_31 : xcode 261 31 = some (.iconst 1, 1) := by decide +kernel
theorem d_261_32 : xcode 261 32 = some (.goto 29, 3) := by decide +kernel
theorem d_261_35 : xcode 261 35 = some (.iconst 0, 1) := by decide +kernel
theorem d_261_36 : xcode 261 36 = some (.goto 25, 3) := by decide +kernel
theorem d_261_39 : xcode 261 39 = some (.iload_n 0, 1) := by decide +kernel
theorem d_261_40 : xcode 261 40 = some (.iload_n 1, 1) := by decide +kernel
theorem d_261_41 : xcode 261 41 = some (.lload_n 2, 1) := by decide +kernel
theorem d_261_42 : xcode 261 42 = some (.invokestatic 264, 3) := by decide +kernel
theorem d_261_45 : xcode 261 45 = some (.iload_n 1, 1) := by decide +kernel
theorem d_261_46 : xcode 261 46 = some (.i2l, 1) := by decide +kernel
theorem d_261_47 : xcode 261 47 = some (.iload_n 1, 1) := by decide +kernel
theorem d_261_48 : xcode 261 48 = some (.i2l, 1) := by decide +kernel
theorem d_261_49 : xcode 261 49 = some (.lmul, 1) := by decide +kernel
theorem d_261_50 : xcode 261 50 = some (.lrem, 1) := by decide +kernel
theorem d_261_51 : xcode 261 51 = some (.lconst 0, 1) := by decide +kernel
theorem d_261_52 : xcode 261 52 = some (.lcmp, 1) := by decide +kernel
theorem d_261_53 : xcode 261 53 = some (.ifCond .ne 7, 3) := by decide +kernel
theorem d_261_56 : xcode 261 56 = some (.iconst 1, 1) := by decide +kernel
theorem d_261_57 : xcode 261 57 = some (.goto 4, 3) := by decide +kernel
theorem d_261_60 : xcode 261 60 = some (.iconst 0, 1) := by decide +kernel
theorem d_261_61 : xcode 261 61 = some (.ireturn, 1) := by decide +kernel
theorem d_262_0 : xcode 262 0 = some (.aload_n 0, 1) := by decide +kernel
theorem d_262_1 : xcode 262 1 = some (.iconst 0, 1) := by decide +kernel
theorem d_262_2 : xcode 262 2 = some (.putfield 118, 3) := by decide +kernel
theorem d_262_5 : xcode 262 5 = some (.iload_n 1, 1) := by decide +kernel
theorem d_262_6 : xcode 262 6 = some (.iconst 2, 1) := by decide +kernel
theorem d_262_7 : xcode 262 7 = some (.ldc_w 284, 3) := by decide +kernel
theorem d_262_10 : xcode 262 10 = some (.invokestatic 137, 3) := by decide +kernel
theorem d_262_13 : xcode 262 13 = some (.ifCond .eq 18, 3) := by decide +kernel
theorem d_262_16 : xcode 262 16 = some (.iload_n 1, 1) := by decide +kernel
theorem d_262_17 : xcode 262 17 = some (.iconst 2, 1) := by decide +kernel
theorem d_262_18 : xcode 262 18 = some (.irem, 1) := by decide +kernel
theorem d_262_19 : xcode 262 19 = some (.iconst 1, 1) := by decide +kernel
theorem d_262_20 : xcode 262 20 = some (.if_icmp .eq 11, 3) := by decide +kernel
theorem d_262_23 : xcode 262 23 = some (.aload_n 0, 1) := by decide +kernel
theorem d_262_24 : xcode 262 24 = some (.iload_n 2, 1) := by decide +kernel
theorem d_262_25 : xcode 262 25 = some (.invokevirtual 185, 3) := by decide +kernel
theorem d_262_28 : xcode 262 28 = some (.ifCond .ne 5, 3) := by decide +kernel
theorem d_262_31 : xcode 262 31 = some (.iconst (-1), 1) := by decide +kernel
theorem d_262_32 : xcode 262 32 = some (.ireturn, 1) := by decide +kernel
theorem d_262_33 : xcode 262 33 = some (.iload_n 1, 1) := by decide +kernel
theorem d_262_34 : xcode 262 34 = some (.iload_n 2, 1) := by decide +kernel
theorem d_262_35 : xcode 262 35 = some (.iconst 1, 1) := by decide +kernel
theorem d_262_36 : xcode 262 36 = some (.isub, 1) := by decide +kernel
theorem d_262_37 : xcode 262 37 = some (.irem, 1) := by decide +kernel
theorem d_262_38 : xcode 262 38 = some (.ifCond .ne 8, 3) := by decide +kernel
theorem d_262_41 : xcode 262 41 = some (.bipush (-3), 2) := by decide +kernel
theorem d_262_43 : xcode 262 43 = some (.goto 13, 3) := by decide +kernel
theorem d_262_46 : xcode 262 46 = some (.iload_n 1, 1) := by decide +kernel
theorem d_262_47 : xcode 262 47 = some (.iload_n 2, 1) := by decide +kernel
theorem d_262_48 : xcode 262 48 = some (.iload_n 2, 1) := by decide +kernel
theorem d_262_49 : xcode 262 49 = some (.iload_n 2, 1) := by decide +kernel
theorem d_262_50 : xcode 262 50 = some (.imul, 1) := by decide +kernel
theorem d_262_51 : xcode 262 51 = some (.i2l, 1) := by decide +kernel
theorem d_262_52 : xcode 262 52 = some (.invokestatic 264, 3) := by decide +kernel
theorem d_262_55 : xcode 262 55 = some (.l2i, 1) := by decide +kernel
theorem d_262_56 : xcode 262 56 = some (.ireturn, 1) := by decide +kernel
theorem d_263_0 : xcode 263 0 = some (.aload_n 0, 1) := by decide +kernel
theorem d_263_1 : xcode 263 1 = some (.iconst 0, 1) := by decide +kernel
theorem d_263_2 : xcode 263 2 = some (.putfield 118, 3) := by decide +kernel
theorem d_263_5 : xcode 263 5 = some (.aload_n 0, 1) := by decide +kernel
theorem d_263_6 : xcode 263 6 = some (.iload_n 1, 1) := by decide +kernel
theorem d_263_7 : xcode 263 7 = some (.invokevirtual 185, 3) := by decide +kernel
theorem d_263_10 : xcode 263 10 = some (.ifCond .eq 8, 3) := by decide +kernel
theorem d_263_13 : xcode 263 13 = some (.iload_n 1, 1) := by decide +kernel
theorem d_263_14 : xcode 263 14 = some (.iconst 5, 1) := by decide +kernel
theorem d_263_15 : xcode 263 15 = some (.if_icmp .ge 5, 3) := by decide +kernel
theorem d_263_18 : xcode 263 18 = some (.iconst (-1), 1) := by decide +kernel
theorem d_263_19 : xcode 263 19 = some (.ireturn, 1) := by decide +kernel
theorem d_263_20 : xcode 263 20 = some (.iload_n 1, 1) := by decide +kernel
theorem d_263_21 : xcode 263 21 = some (.i2l, 1) := by decide +kernel
theorem d_263_22 : xcode 263 22 = some (.iload_n 1, 1) := by decide +kernel
theorem d_263_23 : xcode 263 23 = some (.i2l, 1) := by decide +kernel
theorem d_263_24 : xcode 263 24 = some (.lmul, 1) := by decide +kernel
theorem d_263_25 : xcode 263 25 = some (.iload_n 1, 1) := by decide +kernel
theorem d_263_26 : xcode 263 26 = some (.i2l, 1) := by decide +kernel
theorem d_263_27 : xcode 263 27 = some (.lmul, 1) := by decide +kernel
theorem d_263_28 : xcode 263 28 = some (.lstore_n 2, 1) := by decide +kernel
theorem d_263_29 : xcode 263 29 = some (.lconst 0, 1) := by decide +kernel
theorem d_263_30 : xcode 263 30 = some (.lstore 4, 2) := by decide +kernel
theorem d_263_32 : xcode 263 32 = some (.iconst 1, 1) := by decide +kernel
theorem d_263_33 : xcode 263 33 = some (.istore 6, 2) := by decide +kernel
theorem d_263_35 : xcode 263 35 = some (.iload 6, 2) := by decide +kernel
theorem d_263_37 : xcode 263 37 = some (.iload_n 1, 1) := by decide +kernel
theorem d_263_38 : xcode 263 38 = some (.if_icmp .ge 32, 3) := by decide +kernel
theorem d_263_41 : xcode 263 41 = some (.lload 4, 2) := by decide +kernel
theorem d_263_43 : xcode 263 43 = some (.iload 6, 2) := by decide +kernel
theorem d_263_45 : xcode 263 45 = some (.i2l, 1) := by decide +kernel
theorem d_263_46 : xcode 263 46 = some (.iload_n 1, 1) := by decide +kernel
theorem d_263_47 : xcode 263 47 = some (.iload_n 1, 1) := by decide +kernel
theorem d_263_48 : xcode 263 48 = some (.imul, 1) := by decide +kernel
theorem d_263_49 : xcode 263 49 = some (.iload_n 1, 1) := by decide +kernel
theorem d_263_50 : xcode 263 50 = some (.iconst 1, 1) := by decide +kernel
theorem d_263_51 : xcode 263 51 = some (.isub, 1) := by decide +kernel
theorem d_263_52 : xcode 263 52 = some (.imul, 1) := by decide +kernel
theorem d_263_53 : xcode 263 53 = some (.iconst 1, 1) := by decide +kernel
theorem d_263_54 : xcode 263 54 = some (.isub, 1) := by decide +kernel
theorem d_263_55 : xcode 263 55 = some (.lload_n 2, 1) := by decide +kernel
theorem d_263_56 : xcode 263 56 = some (.invokestatic 208, 3) := by decide +kernel
theorem d_263_59 : xcode 263 59 = some (.ladd, 1) := by decide +kernel
theorem d_263_60 : xcode 263 60 = some (.lload_n 2, 1) := by decide +kernel
theorem d_263_61 : xcode 263 61 = some (.lrem, 1) := by decide +kernel
theorem d_263_62 : xcode 263 62 = some (.lstore 4, 2) := by decide +kernel
theorem d_263_64 : xcode 263 64 = some (.iinc 6 1, 3) := by decide +kernel
theorem d_263_67 : xcode 263 67 = some (.goto (-32), 3) := by decide +kernel
theorem d_263_70 : xcode 263 70 = some (.lload 4, 2) := by decide +kernel
theorem d_263_72 : xcode 263 72 = some (.iload_n 1, 1) := by decide +kernel
theorem d_263_73 : xcode 263 73 = some (.i2l, 1) := by decide +kernel
theorem d_263_74 : xcode 263 74 = some (.iload_n 1, 1) := by decide +kernel
theorem d_263_75 : xcode 263 75 = some (.i2l, 1) := by decide +kernel
theorem d_263_76 : xcode 263 76 = some (.lmul, 1) := by decide +kernel
theorem d_263_77 : xcode 263 77 = some (.ldiv, 1) := by decide +kernel
theorem d_263_78 : xcode 263 78 = some (.l2i, 1) := by decide +kernel
theorem d_263_79 : xcode 263 79 = some (.ireturn, 1) := by decide +kernel
theorem d_264_0 : xcode 264 0 = some (.aload_n 0, 1) := by decide +kernel
theorem d_264_1 : xcode 264 1 = some (.iconst 0, 1) := by decide +kernel
theorem d_264_2 : xcode 264 2 = some (.putfield 118, 3) := by decide +kernel
theorem d_264_5 : xcode 264 5 = some (.aload_n 0, 1) := by decide +kernel
theorem d_264_6 : xcode 264 6 = some (.iload_n 1, 1) := by decide +kernel
theorem d_264_7 : xcode 264 7 = some (.invokevirtual 185, 3) := by decide +kernel
theorem d_264_10 : xcode 264 10 = some (.ifCond .ne 5, 3) := by decide +kernel
theorem d_264_13 : xcode 264 13 = some (.iconst (-1), 1) := by decide +kernel
theorem d_264_14 : xcode 264 14 = some (.ireturn, 1) := by decide +kernel
theorem d_264_15 : xcode 264 15 = some (.lconst 1, 1) := by decide +kernel
theorem d_264_16 : xcode 264 16 = some (.lstore_n 2, 1) := by decide +kernel
theorem d_264_17 : xcode 264 17 = some (.iconst 2, 1) := by decide +kernel
theorem d_264_18 : xcode 264 18 = some (.istore 4, 2) := by decide +kernel
theorem d_264_20 : xcode 264 20 = some (.iload 4, 2) := by decide +kernel
theorem d_264_22 : xcode 264 22 = some (.iload_n 1, 1) := by decide +kernel
theorem d_264_23 : xcode 264 23 = some (.if_icmp .ge 20, 3) := by decide +kernel
theorem d_264_26 : xcode 264 26 = some (.lload_n 2, 1) := by decide +kernel
theorem d_264_27 : xcode 264 27 = some (.iload 4, 2) := by decide +kernel
theorem d_264_29 : xcode 264 29 = some (.i2l, 1) := by decide +kernel
theorem d_264_30 : xcode 264 30 = some (.lmul, 1) := by decide +kernel
theorem d_264_31 : xcode 264 31 = some (.iload_n 1, 1) := by decide +kernel
theorem d_264_32 : xcode 264 32 = some (.iload_n 1, 1) := by decide +kernel
theorem d_264_33 : xcode 264 33 = some (.imul, 1) := by decide +kernel
theorem d_264_34 : xcode 264 34 = some (.i2l, 1) := by decide +kernel
theorem d_264_35 : xcode 264 35 = some (.lrem, 1) := by decide +kernel
theorem d_264_36 : xcode 264 36 = some (.lstore_n 2, 1) := by decide +kernel
theorem d_264_37 : xcode 264 37 = some (.iinc 4 1, 3) := by decide +kernel
theorem d_264_40 : xcode 264 40 = some (.goto (-20), 3) := by decide +kernel
theorem d_264_43 : xcode 264 43 = some (.lload_n 2, 1) := by decide +kernel
theorem d_264_44 : xcode 264 44 = some (.lconst 1, 1) := by decide +kernel
theorem d_264_45 : xcode 264 45 = some (.ladd, 1) := by decide +kernel
theorem d_264_46 : xcode 264 46 = some (.iload_n 1, 1) := by decide +kernel
theorem d_264_47 : xcode 264 47 = some (.i2l, 1) := by decide +kernel
theorem d_264_48 : xcode 264 48 = some (.ldiv, 1) := by decide +kernel
theorem d_264_49 : xcode 264 49 = some (.iload_n 1, 1) := by decide +kernel
theorem d_264_50 : xcode 264 50 = some (.i2l, 1) := by decide +kernel
theorem d_264_51 : xcode 264 51 = some (.lrem, 1) := by decide +kernel
theorem d_264_52 : xcode 264 52 = some (.l2i, 1) := by decide +kernel
theorem d_264_53 : xcode 264 53 = some (.ireturn, 1) := by decide +kernel
theorem d_265_0 : xcode 265 0 = some (.aload_n 0, 1) := by decide +kernel
theorem d_265_1 : xcode 265 1 = some (.iconst 0, 1) := by decide +kernel
theorem d_265_2 : xcode 265 2 = some (.putfield 118, 3) := by decide +kernel
theorem d_265_5 : xcode 265 5 = some (.aload_n 0, 1) := by decide +kernel
theorem d_265_6 : xcode 265 6 = some (.iload_n 1, 1) := by decide +kernel
theorem d_265_7 : xcode 265 7 = some (.invokevirtual 185, 3) := by decide +kernel
theorem d_265_10 : xcode 265 10 = some (.ifCond .eq 16, 3) := by decide +kernel
theorem d_265_13 : xcode 265 13 = some (.iload_n 1, 1) := by decide +kernel
theorem d_265_14 : xcode 265 14 = some (.bipush 7, 2) := by decide +kernel
theorem d_265_16 : xcode 265 16 = some (.if_icmp .lt 10, 3) := by decide +kernel
theorem d_265_19 : xcode 265 19 = some (.iload_n 1, 1) := by decide +kernel
theorem d_265_20 : xcode 265 20 = some (.iconst 4, 1) := by decide +kernel
theorem d_265_21 : xcode 265 21 = some (.irem, 1) := by decide +kernel
theorem d_265_22 : xcode 265 22 = some (.iconst 3, 1) := by decide +kernel
theorem d_265_23 : xcode 265 23 = some (.if_icmp .eq 5, 3) := by decide +kernel
theorem d_265_26 : xcode 265 26 = some (.iconst (-1), 1) := by decide +kernel
theorem d_265_27 : xcode 265 27 = some (.ireturn, 1) := by decide +kernel
theorem d_265_28 : xcode 265 28 = some (.iconst 0, 1) := by decide +kernel
theorem d_265_29 : xcode 265 29 = some (.istore_n 2, 1) := by decide +kernel
theorem d_265_30 : xcode 265 30 = some (.iconst 1, 1) := by decide +kernel
theorem d_265_31 : xcode 265 31 = some (.istore_n 3, 1) := by decide +kernel
theorem d_265_32 : xcode 265 32 = some (.iload_n 3, 1) := by decide +kernel
theorem d_265_33 : xcode 265 33 = some (.iload_n 1, 1) := by decide +kernel
theorem d_265_34 : xcode 265 34 = some (.if_icmp .ge 19, 3) := by decide +kernel
theorem d_265_37 : xcode 265 37 = some (.iload_n 2, 1) := by decide +kernel
theorem d_265_38 : xcode 265 38 = some (.iload_n 3, 1) := by decide +kernel
theorem d_265_39 : xcode 265 39 = some (.iload_n 3, 1) := by decide +kernel
theorem d_265_40 : xcode 265 40 = some (.iload_n 1, 1) := by decide +kernel
theorem d_265_41 : xcode 265 41 = some (.invokestatic 285, 3) := by decide +kernel
theorem d_265_44 : xcode 265 44 = some (.imul, 1) := by decide +kernel
theorem d_265_45 : xcode 265 45 = some (.isub, 1) := by decide +kernel
theorem d_265_46 : xcode 265 46 = some (.istore_n 2, 1) := by decide +kernel
theorem d_265_47 : xcode 265 47 = some (.iinc 3 1, 3) := by decide +kernel
theorem d_265_50 : xcode 265 50 = some (.goto (-18), 3) := by decide +kernel
theorem d_265_53 : xcode 265 53 = some (.iload_n 2, 1) := by decide +kernel
theorem d_265_54 : xcode 265 54 = some (.iload_n 1, 1) := by decide +kernel
theorem d_265_55 : xcode 265 55 = some (.idiv, 1) := by decide +kernel
theorem d_265_56 : xcode 265 56 = some (.ireturn, 1) := by decide +kernel
theorem d_266_0 : xcode 266 0 = some (.iload_n 0, 1) := by decide +kernel
theorem d_266_1 : xcode 266 1 = some (.iload_n 1, 1) := by decide +kernel
theorem d_266_2 : xcode 266 2 = some (.irem, 1) := by decide +kernel
theorem d_266_3 : xcode 266 3 = some (.iload_n 1, 1) := by decide +kernel
theorem d_266_4 : xcode 266 4 = some (.iconst 1, 1) := by decide +kernel
theorem d_266_5 : xcode 266 5 = some (.isub, 1) := by decide +kernel
theorem d_266_6 : xcode 266 6 = some (.iconst 2, 1) := by decide +kernel
theorem d_266_7 : xcode 266 7 = some (.idiv, 1) := by decide +kernel
theorem d_266_8 : xcode 266 8 = some (.iload_n 1, 1) := by decide +kernel
theorem d_266_9 : xcode 266 9 = some (.invokestatic 174, 3) := by decide +kernel
theorem d_266_12 : xcode 266 12 = some (.istore_n 2, 1) := by decide +kernel
theorem d_266_13 : xcode 266 13 = some (.iload_n 2, 1) := by decide +kernel
theorem d_266_14 : xcode 266 14 = some (.iload_n 1, 1) := by decide +kernel
theorem d_266_15 : xcode 266 15 = some (.iconst 1, 1) := by decide +kernel
theorem d_266_16 : xcode 266 16 = some (.isub, 1) := by decide +kernel
theorem d_266_17 : xcode 266 17 = some (.if_icmp .ne 7, 3) := by decide +kernel
theorem d_266_20 : xcode 266 20 = some (.iconst (-1), 1) := by decide +kernel
theorem d_266_21 : xcode 266 21 = some (.goto 4, 3) := by decide +kernel
theorem d_266_24 : xcode 266 24 = some (.iload_n 2, 1) := by decide +kernel
theorem d_266_25 : xcode 266 25 = some (.ireturn, 1) := by decide +kernel
theorem d_267_0 : xcode 267 0 = some (.aload_n 0, 1) := by decide +kernel
theorem d_267_1 : xcode 267 1 = some (.iconst 0, 1) := by decide +kernel
theorem d_267_2 : xcode 267 2 = some (.putfield 118, 3) := by decide +kernel
theorem d_267_5 : xcode 267 5 = some (.aload_n 0, 1) := by decide +kernel
theorem d_267_6 : xcode 267 6 = some (.iload_n 1, 1) := by decide +kernel
theorem d_267_7 : xcode 267 7 = some (.invokevirtual 185, 3) := by decide +kernel
theorem d_267_10 : xcode 267 10 = some (.ifCond .eq 21, 3) := by decide +kernel
theorem d_267_13 : xcode 267 13 = some (.iload_n 2, 1) := by decide +kernel
theorem d_267_14 : xcode 267 14 = some (.iconst 1, 1) := by decide +kernel
theorem d_267_15 : xcode 267 15 = some (.iconst 4, 1) := by decide +kernel
theorem d_267_16 : xcode 267 16 = some (.invokestatic 137, 3) := by decide +kernel
theorem d_267_19 : xcode 267 19 = some (.ifCond .eq 12, 3) := by decide +kernel
theorem d_267_22 : xcode 267 22 = some (.iload_n 3, 1) := by decide +kernel
theorem d_267_23 : xcode 267 23 = some (.iconst 0, 1) := by decide +kernel
theorem d_267_24 : xcode 267 24 = some (.iconst 2, 1) := by decide +kernel
theorem d_267_25 : xcode 267 25 = some (.invokestatic 137, 3) := by decide +kernel
theorem d_267_28 : xcode 267 28 = some (.ifCond .ne 7, 3) := by decide +kernel
theorem d_267_31 : xcode 267 31 = some (.ldc2_w 166, 3) := by decide +kernel
theorem d_267_34 : xcode 267 34 = some (.lreturn, 1) := by decide +kernel
theorem d_267_35 : xcode 267 35 = some (.lconst 0, 1) := by decide +kernel
theorem d_267_36 : xcode 267 36 = some (.lstore 4, 2) := by decide +kernel
theorem d_267_38 : xcode 267 38 = some (.iconst 1, 1) := by decide +kernel
theorem d_267_39 : xcode 267 39 = some (.istore 6, 2) := by decide +kernel
theorem d_267_41 : xcode 267 41 = some (.iload 6, 2) := by decide +kernel
theorem d_267_43 : xcode 267 43 = some (.iload_n 1, 1) := by decide +kernel
theorem d_267_44 : xcode 267 44 = some (.if_icmp .ge 89, 3) := by decide +kernel
theorem d_267_47 : xcode 267 47 = some (.lconst 0, 1) := by decide +kernel
theorem d_267_48 : xcode 267 48 = some (.lstore 7, 2) := by decide +kernel
theorem d_267_50 : xcode 267 50 = some (.iconst 0, 1) := by decide +kernel
theorem d_267_51 : xcode 267 51 = some (.istore 9, 2) := by decide +kernel
theorem d_267_53 : xcode 267 53 = some (.iload 9, 2) := by decide +kernel
theorem d_267_55 : xcode 267 55 = some (.iload_n 2, 1) := by decide +kernel
theorem d_267_56 : xcode 267 56 = some (.if_icmp .gt 56, 3) := by decide +kernel
theorem d_267_59 : xcode 267 59 = some (.lload 7, 2) := by decide +kernel
theorem d_267_61 : xcode 267 61 = some (.aload_n 0, 1) := by decide +kernel
theorem d_267_62 : xcode 267 62 = some (.getfield 24, 3) := by decide +kernel
theorem d_267_65 : xcode 267 65 = some (.bipush 40, 2) := by decide +kernel
theorem d_267_67 : xcode 267 67 = some (.iload_n 2, 1) := by decide +kernel
theorem d_267_68 : xcode 267 68 = some (.imul, 1) := by decide +kernel
theorem d_267_69 : xcode 267 69 = some (.iload 9, 2) := by decide +kernel
theorem d_267_71 : xcode 267 71 = some (.iadd, 1) := by decide +kernel
theorem d_267_72 : xcode 267 72 = some (.laload, 1) := by decide +kernel
theorem d_267_73 : xcode 267 73 = some (.aload_n 0, 1) := by decide +kernel
theorem d_267_74 : xcode 267 74 = some (.getfield 54, 3) := by decide +kernel
theorem d_267_77 : xcode 267 77 = some (.iload_n 2, 1) := by decide +kernel
theorem d_267_78 : xcode 267 78 = some (.iload 9, 2) := by decide +kernel
theorem d_267_80 : xcode 267 80 = some (.isub, 1) := by decide +kernel
theorem d_267_81 : xcode 267 81 = some (.iaload, 1) := by decide +kernel
theorem d_267_82 : xcode 267 82 = some (.i2l, 1) := by decide +kernel
theorem d_267_83 : xcode 267 83 = some (.lmul, 1) := by decide +kernel
theorem d_267_84 : xcode 267 84 = some (.iload 6, 2) := by decide +kernel
theorem d_267_86 : xcode 267 86 = some (.i2l, 1) := by decide +kernel
theorem d_267_87 : xcode 267 87 = some (.iload 9, 2) := by decide +kernel
theorem d_267_89 : xcode 267 89 = some (.invokestatic 287, 3) := by decide +kernel
theorem d_267_92 : xcode 267 92 = some (.lmul, 1) := by decide +kernel
theorem d_267_93 : xcode 267 93 = some (.iload_n 1, 1) := by decide +kernel
theorem d_267_94 : xcode 267 94 = some (.i2l, 1) := by decide +kernel
theorem d_267_95 : xcode 267 95 = some (.iload_n 2, 1) := by decide +kernel
theorem d_267_96 : xcode 267 96 = some (.iload 9, 2) := by decide +kernel
theorem d_267_98 : xcode 267 98 = some (.isub, 1) := by decide +kernel
theorem d_267_99 : xcode 267 99 = some (.invokestatic 287, 3) := by decide +kernel
theorem d_267_102 : xcode 267 102 = some (.lmul, 1) := by decide +kernel
theorem d_267_103 : xcode 267 103 = some (.ladd, 1) := by decide +kernel
theorem d_267_104 : xcode 267 104 = some (.lstore 7, 2) := by decide +kernel
theorem d_267_106 : xcode 267 106 = some (.iinc 9 1, 3) := by decide +kernel
theorem d_267_109 : xcode 267 109 = some (.goto (-56), 3) := by decide +kernel
theorem d_267_112 : xcode 267 112 = some (.lload 4, 2) := by decide +kernel
theorem d_267_114 : xcode 267 114 = some (.iload 6, 2) := by decide +kernel
theorem d_267_116 : xcode 267 116 = some (.iload_n 1, 1) := by decide +kernel
theorem d_267_117 : xcode 267 117 = some (.invokestatic 285, 3) := by decide +kernel
theorem d_267_120 : xcode 267 120 = some (.i2l, 1) := by decide +kernel
theorem d_267_121 : xcode 267 121 = some (.lload 7, 2) := by decide +kernel
theorem d_267_123 : xcode 267 123 = some (.lmul, 1) := by decide +kernel
theorem d_267_124 : xcode 267 124 = some (.ladd, 1) := by decide +kernel
theorem d_267_125 : xcode 267 125 = some (.lstore 4, 2) := by decide +kernel
theorem d_267_127 : xcode 267 127 = some (.iinc 6 1, 3) := by decide +kernel
theorem d_267_130 : xcode 267 130 = some (.goto (-89), 3) := by decide +kernel
theorem d_267_133 : xcode 267 133 = some (.ldc2_w 291, 3) := by decide +kernel
theorem d_267_136 : xcode 267 136 = some (.iload_n 1, 1) := by decide +kernel
theorem d_267_137 : xcode 267 137 = some (.i2l, 1) := by decide +kernel
theorem d_267_138 : xcode 267 138 = some (.lmul, 1) := by decide +kernel
theorem d_267_139 : xcode 267 139 = some (.lstore 6, 2) := by decide +kernel
theorem d_267_141 : xcode 267 141 = some (.lload 4, 2) := by decide +kernel
theorem d_267_143 : xcode 267 143 = some (.lload 6, 2) := by decide +kernel
theorem d_267_145 : xcode 267 145 = some (.invokestatic 131, 3) := by decide +kernel
theorem d_267_148 : xcode 267 148 = some (.lstore 8, 2) := by decide +kernel
theorem d_267_150 : xcode 267 150 = some (.aload_n 0, 1) := by decide +kernel
theorem d_267_151 : xcode 267 151 = some (.aload_n 0, 1) := by decide +kernel
theorem d_267_152 : xcode 267 152 = some (.getfield 81, 3) := by decide +kernel
theorem d_267_155 : xcode 267 155 = some (.iconst 0, 1) := by decide +kernel
theorem d_267_156 : xcode 267 156 = some (.lload 8, 2) := by decide +kernel
theorem d_267_158 : xcode 267 158 = some (.lload 4, 2) := by decide +kernel
theorem d_267_160 : xcode 267 160 = some (.lload 8, 2) := by decide +kernel
theorem d_267_162 : xcode 267 162 = some (.lload 6, 2) := by decide +kernel
theorem d_267_164 : xcode 267 164 = some (.lmul, 1) := by decide +kernel
theorem d_267_165 : xcode 267 165 = some (.lsub, 1) := by decide +kernel
theorem d_267_166 : xcode 267 166 = some (.lload 6, 2) := by decide +kernel
theorem d_267_168 : xcode 267 168 = some (.invokevirtual 134, 3) := by decide +kernel
theorem d_267_171 : xcode 267 171 = some (.aload_n 0, 1) := by decide +kernel
theorem d_267_172 : xcode 267 172 = some (.getfield 81, 3) := by decide +kernel
theorem d_267_175 : xcode 267 175 = some (.iload_n 3, 1) := by decide +kernel
theorem d_267_176 : xcode 267 176 = some (.laload, 1) := by decide +kernel
theorem d_267_177 : xcode 267 177 = some (.lreturn, 1) := by decide +kernel
theorem d_268_0 : xcode 268 0 = some (.lconst 1, 1) := by decide +kernel
theorem d_268_1 : xcode 268 1 = some (.lstore_n 3, 1) := by decide +kernel
theorem d_268_2 : xcode 268 2 = some (.iconst 0, 1) := by decide +kernel
theorem d_268_3 : xcode 268 3 = some (.istore 5, 2) := by decide +kernel
theorem d_268_5 : xcode 268 5 = some (.iload 5, 2) := by decide +kernel
theorem d_268_7 : xcode 268 7 = some (.iload_n 2, 1) := by decide +kernel
theorem d_268_8 : xcode 268 8 = some (.if_icmp .ge 13, 3) := by decide +kernel
theorem d_268_11 : xcode 268 11 = some (.lload_n 3, 1) := by decide +kernel
theorem d_268_12 : xcode 268 12 = some (.lload_n 0, 1) := by decide +kernel
theorem d_268_13 : xcode 268 13 = some (.lmul, 1) := by decide +kernel
theorem d_268_14 : xcode 268 14 = some (.lstore_n 3, 1) := by decide +kernel
theorem d_268_15 : xcode 268 15 = some (.iinc 5 1, 3) := by decide +kernel
theorem d_268_18 : xcode 268 18 = some (.goto (-13), 3) := by decide +kernel
theorem d_268_21 : xcode 268 21 = some (.lload_n 3, 1) := by decide +kernel
theorem d_268_22 : xcode 268 22 = some (.lreturn, 1) := by decide +kernel
theorem d_269_0 : xcode 269 0 = some (.aload_n 0, 1) := by decide +kernel
theorem d_269_1 : xcode 269 1 = some (.iconst 0, 1) := by decide +kernel
theorem d_269_2 : xcode 269 2 = some (.putfield 118, 3) := by decide +kernel
theorem d_269_5 : xcode 269 5 = some (.iload_n 1, 1) := by decide +kernel
theorem d_269_6 : xcode 269 6 = some (.iconst 2, 1) := by decide +kernel
theorem d_269_7 : xcode 269 7 = some (.bipush 38, 2) := by decide +kernel
theorem d_269_9 : xcode 269 9 = some (.invokestatic 137, 3) := by decide +kernel
theorem d_269_12 : xcode 269 12 = some (.ifCond .eq 29, 3) := by decide +kernel
theorem d_269_15 : xcode 269 15 = some (.iload_n 1, 1) := by decide +kernel
theorem d_269_16 : xcode 269 16 = some (.iconst 2, 1) := by decide +kernel
theorem d_269_17 : xcode 269 17 = some (.irem, 1) := by decide +kernel
theorem d_269_18 : xcode 269 18 = some (.iconst 1, 1) := by decide +kernel
theorem d_269_19 : xcode 269 19 = some (.if_icmp .eq 22, 3) := by decide +kernel
theorem d_269_22 : xcode 269 22 = some (.aload_n 0, 1) := by decide +kernel
theorem d_269_23 : xcode 269 23 = some (.iload_n 3, 1) := by decide +kernel
theorem d_269_24 : xcode 269 24 = some (.invokevirtual 185, 3) := by decide +kernel
theorem d_269_27 : xcode 269 27 = some (.ifCond .eq 14, 3) := by decide +kernel
theorem d_269_30 : xcode 269 30 = some (.iload_n 2, 1) := by decide +kernel
theorem d_269_31 : xcode 269 31 = some (.iconst 1, 1) := by decide +kernel
theorem d_269_32 : xcode 269 32 = some (.iload_n 3, 1) := by decide +kernel
theorem d_269_33 : xcode 269 33 = some (.iconst 1, 1) := by decide +kernel
theorem d_269_34 : xcode 269 34 = some (.isub, 1) := by decide +kernel
theorem d_269_35 : xcode 269 35 = some (.invokestatic 137, 3) := by decide +kernel
theorem d_269_38 : xcode 269 38 = some (.ifCond .ne 5, 3) := by decide +kernel
theorem d_269_41 : xcode 269 41 = some (.iconst (-1), 1) := by decide +kernel
theorem d_269_42 : xcode 269 42 = some (.ireturn, 1) := by decide +kernel
theorem d_269_43 : xcode 269 43 = some (.lconst 0, 1) := by decide +kernel
theorem d_269_44 : xcode 269 44 = some (.lstore 4, 2) := by decide +kernel
theorem d_269_46 : xcode 269 46 = some (.iconst 1, 1) := by decide +kernel
theorem d_269_47 : xcode 269 47 = some (.istore 6, 2) := by decide +kernel
theorem d_269_49 : xcode 269 49 = some (.iload 6, 2) := by decide +kernel
theorem d_269_51 : xcode 269 51 = some (.iload_n 3, 1) := by decide +kernel
theorem d_269_52 : xcode 269 52 = some (.if_icmp .ge 31, 3) := by decide +kernel
theorem d_269_55 : xcode 269 55 = some (.lload 4, 2) := by decide +kernel
theorem d_269_57 : xcode 269 57 = some (.iload 6, 2) := by decide +kernel
theorem d_269_59 : xcode 269 59 = some (.iload_n 1, 1) := by decide +kernel
theorem d_269_60 : xcode 269 60 = some (.iconst 1, 1) := by decide +kernel
theorem d_269_61 : xcode 269 61 = some (.isub, 1) := by decide +kernel
theorem d_269_62 : xcode 269 62 = some (.iload_n 3, 1) := by decide +kernel
theorem d_269_63 : xcode 269 63 = some (.invokestatic 174, 3) := by decide +kernel
theorem d_269_66 : xcode 269 66 = some (.iload 6, 2) := by decide +kernel
theorem d_269_68 : xcode 269 68 = some (.iload_n 2, 1) := by decide +kernel
theorem d_269_69 : xcode 269 69 = some (.imul, 1) := by decide +kernel
theorem d_269_70 : xcode 269 70 = some (.iload_n 3, 1) := by decide +kernel
theorem d_269_71 : xcode 269 71 = some (.idiv, 1) := by decide +kernel
theorem d_269_72 : xcode 269 72 = some (.imul, 1) := by decide +kernel
theorem d_269_73 : xcode 269 73 = some (.i2l, 1) := by decide +kernel
theorem d_269_74 : xcode 269 74 = some (.ladd, 1) := by decide +kernel
theorem d_269_75 : xcode 269 75 = some (.lstore 4, 2) := by decide +kernel
theorem d_269_77 : xcode 269 77 = some (.iinc 6 1, 3) := by decide +kernel
theorem d_269_80 : xcode 269 80 = some (.goto (-31), 3) := by decide +kernel
theorem d_269_83 : xcode 269 83 = some (.lload 4, 2) := by decide +kernel
theorem d_269_85 : xcode 269 85 = some (.iload_n 3, 1) := by decide +kernel
theorem d_269_86 : xcode 269 86 = some (.invokestatic 170, 3) := by decide +kernel
theorem d_269_89 : xcode 269 89 = some (.i2l, 1) := by decide +kernel
theorem d_269_90 : xcode 269 90 = some (.iload_n 1, 1) := by decide +kernel
theorem d_269_91 : xcode 269 91 = some (.i2l, 1) := by decide +kernel
theorem d_269_92 : xcode 269 92 = some (.lmul, 1) := by decide +kernel
theorem d_269_93 : xcode 269 93 = some (.iload_n 3, 1) := by decide +kernel
theorem d_269_94 : xcode 269 94 = some (.i2l, 1) := by decide +kernel
theorem d_269_95 : xcode 269 95 = some (.lrem, 1) := by decide +kernel
theorem d_269_96 : xcode 269 96 = some (.iload_n 2, 1) := by decide +kernel
theorem d_269_97 : xcode 269 97 = some (.iload_n 1, 1) := by decide +kernel
theorem d_269_98 : xcode 269 98 = some (.iconst 1, 1) := by decide +kernel
theorem d_269_99 : xcode 269 99 = some (.isub, 1) := by decide +kernel
theorem d_269_100 : xcode 269 100 = some (.iload_n 3, 1) := by decide +kernel
theorem d_269_101 : xcode 269 101 = some (.invokestatic 174, 3) := by decide +kernel
theorem d_269_104 : xcode 269 104 = some (.i2l, 1) := by decide +kernel
theorem d_269_105 : xcode 269 105 = some (.lmul, 1) := by decide +kernel
theorem d_269_106 : xcode 269 106 = some (.iload_n 3, 1) := by decide +kernel
theorem d_269_107 : xcode 269 107 = some (.invokestatic 170, 3) := by decide +kernel
theorem d_269_110 : xcode 269 110 = some (.ireturn, 1) := by decide +kernel
theorem d_270_0 : xcode 270 0 = some (.aload_n 0, 1) := by decide +kernel
theorem d_270_1 : xcode 270 1 = some (.iconst 0, 1) := by decide +kernel
theorem d_270_2 : xcode 270 2 = some (.putfield 118, 3) := by decide +kernel
theorem d_270_5 : xcode 270 5 = some (.iload_n 1, 1) := by decide +kernel
theorem d_270_6 : xcode 270 6 = some (.iconst 3, 1) := by decide +kernel
theorem d_270_7 : xcode 270 7 = some (.sipush 199, 3) := by decide +kernel
theorem d_270_10 : xcode 270 10 = some (.invokestatic 137, 3) := by decide +kernel
theorem d_270_13 : xcode 270 13 = some (.ifCond .ne 5, 3) := by decide +kernel
theorem d_270_16 : xcode 270 16 = some (.iconst (-1), 1) := by decide +kernel
theorem d_270_17 : xcode 270 17 = some (.ireturn, 1) := by decide +kernel
theorem d_270_18 : xcode 270 18 = some (.iconst 0, 1) := by decide +kernel
theorem d_270_19 : xcode 270 19 = some (.istore_n 2, 1) := by decide +kernel
theorem d_270_20 : xcode 270 20 = some (.iconst 1, 1) := by decide +kernel
theorem d_270_21 : xcode 270 21 = some (.istore_n 3, 1) := by decide +kernel
theorem d_270_22 : xcode 270 22 = some (.iload_n 3, 1) := by decide +kernel
theorem d_270_23 : xcode 270 23 = some (.aload_n 0, 1) := by decide +kernel
theorem d_270_24 : xcode 270 24 = some (.getfield 96, 3) := by decide +kernel
theorem d_270_27 : xcode 270 27 = some (.if_icmp .ge 40, 3) := by decide +kernel
theorem d_270_30 : xcode 270 30 = some (.iload_n 2, 1) := by decide +kernel
theorem d_270_31 : xcode 270 31 = some (.aload_n 0, 1) := by decide +kernel
theorem d_270_32 : xcode 270 32 = some (.getfield 27, 3) := by decide +kernel
theorem d_270_35 : xcode 270 35 = some (.iload_n 3, 1) := by decide +kernel
theorem d_270_36 : xcode 270 36 = some (.iaload, 1) := by decide +kernel
theorem d_270_37 : xcode 270 37 = some (.iload_n 1, 1) := by decide +kernel
theorem d_270_38 : xcode 270 38 = some (.if_icmp .gt 20, 3) := by decide +kernel
theorem d_270_41 : xcode 270 41 = some (.aload_n 0, 1) := by decide +kernel
theorem d_270_42 : xcode 270 42 = some (.aload_n 0, 1) := by decide +kernel
theorem d_270_43 : xcode 270 43 = some (.getfield 27, 3) := by decide +kernel
theorem d_270_46 : xcode 270 46 = some (.iload_n 3, 1) := by decide +kernel
theorem d_270_47 : xcode 270 47 = some (.iaload, 1) := by decide +kernel
theorem d_270_48 : xcode 270 48 = some (.invokevirtual 274, 3) := by decide +kernel
theorem d_270_51 : xcode 270 51 = some (.ifCond .ne 7, 3) := by decide +kernel
theorem d_270_54 : xcode 270 54 = some (.iconst 1, 1) := by decide +kernel
theorem d_270_55 : xcode 270 55 = some (.goto 4, 3) := by decide +kernel
theorem d_270_58 : xcode 270 58 = some (.iconst 0, 1) := by decide +kernel
theorem d_270_59 : xcode 270 59 = some (.iadd, 1) := by decide +kernel
theorem d_270_60 : xcode 270 60 = some (.istore_n 2, 1) := by decide +kernel
theorem d_270_61 : xcode 270 61 = some (.iinc 3 1, 3) := by decide +kernel
theorem d_270_64 : xcode 270 64 = some (.goto (-42), 3) := by decide +kernel
theorem d_270_67 : xcode 270 67 = some (.iload_n 2, 1) := by decide +kernel
theorem d_270_68 : xcode 270 68 = some (.ireturn, 1) := by decide +kernel
theorem d_271_0 : xcode 271 0 = some (.aload_n 0, 1) := by decide +kernel
theorem d_271_1 : xcode 271 1 = some (.iconst 0, 1) := by decide +kernel
theorem d_271_2 : xcode 271 2 = some (.putfield 118, 3) := by decide +kernel
theorem d_271_5 : xcode 271 5 = some (.iload_n 1, 1) := by decide +kernel
theorem d_271_6 : xcode 271 6 = some (.iconst 0, 1) := by decide +kernel
theorem d_271_7 : xcode 271 7 = some (.bipush 24, 2) := by decide +kernel
theorem d_271_9 : xcode 271 9 = some (.invokestatic 137, 3) := by decide +kernel
theorem d_271_12 : xcode 271 12 = some (.ifCond .eq 23, 3) := by decide +kernel
theorem d_271_15 : xcode 271 15 = some (.iload_n 2, 1) := by decide +kernel
theorem d_271_16 : xcode 271 16 = some (.iconst 0, 1) := by decide +kernel
theorem d_271_17 : xcode 271 17 = some (.iload_n 1, 1) := by decide +kernel
theorem d_271_18 : xcode 271 18 = some (.iconst 1, 1) := by decide +kernel
theorem d_271_19 : xcode 271 19 = some (.iadd, 1) := by decide +kernel
theorem d_271_20 : xcode 271 20 = some (.invokestatic 137, 3) := by decide +kernel
theorem d_271_23 : xcode 271 23 = some (.ifCond .eq 12, 3) := by decide +kernel
theorem d_271_26 : xcode 271 26 = some (.iload_n 3, 1) := by decide +kernel
theorem d_271_27 : xcode 271 27 = some (.iconst 0, 1) := by decide +kernel
theorem d_271_28 : xcode 271 28 = some (.iconst 1, 1) := by decide +kernel
theorem d_271_29 : xcode 271 29 = some (.invokestatic 137, 3) := by decide +kernel
theorem d_271_32 : xcode 271 32 = some (.ifCond .ne 7, 3) := by decide +kernel
theorem d_271_35 : xcode 271 35 = some (.ldc2_w 166, 3) := by decide +kernel
theorem d_271_38 : xcode 271 38 = some (.lreturn, 1) := by decide +kernel
theorem d_271_39 : xcode 271 39 = some (.iload_n 1, 1) := by decide +kernel
theorem d_271_40 : xcode 271 40 = some (.aload_n 0, 1) := by decide +kernel
theorem d_271_41 : xcode 271 41 = some (.getfield 20, 3) := by decide +kernel
theorem d_271_44 : xcode 271 44 = some (.if_icmp .le 7, 3) := by decide +kernel
theorem d_271_47 : xcode 271 47 = some (.ldc2_w 297, 3) := by decide +kernel
theorem d_271_50 : xcode 271 50 = some (.lreturn, 1) := by decide +kernel
theorem d_271_51 : xcode 271 51 = some (.aload_n 0, 1) := by decide +kernel
theorem d_271_52 : xcode 271 52 = some (.iload_n 1, 1) := by decide +kernel
theorem d_271_53 : xcode 271 53 = some (.invokevirtual 299, 3) := by decide +kernel
theorem d_271_56 : xcode 271 56 = some (.iload_n 3, 1) := by decide +kernel
theorem d_271_57 : xcode 271 57 = some (.ifCond .ne 12, 3) := by decide +kernel
theorem d_271_60 : xcode 271 60 = some (.aload_n 0, 1) := by decide +kernel
theorem d_271_61 : xcode 271 61 = some (.getfield 57, 3) := by decide +kernel
theorem d_271_64 : xcode 271 64 = some (.iload_n 2, 1) := by decide +kernel
theorem d_271_65 : xcode 271 65 = some (.laload, 1) := by decide +kernel
theorem d_271_66 : xcode 271 66 = some (.goto 9, 3) := by decide +kernel
theorem d_271_69 : xcode 271 69 = some (.aload_n 0, 1) := by decide +kernel
theorem d_271_70 : xcode 271 70 = some (.getfield 60, 3) := by decide +kernel
theorem d_271_73 : xcode 271 73 = some (.iload_n 2, 1) := by decide +kernel
theorem d_271_74 : xcode 271 74 = some (.laload, 1) := by decide +kernel
theorem d_271_75 : xcode 271 75 = some (.lreturn, 1) := by decide +kernel
theorem d_272_0 : xcode 272 0 = some (.aload_n 0, 1) := by decide +kernel
theorem d_272_1 : xcode 272 1 = some (.iconst 0, 1) := by decide +kernel
theorem d_272_2 : xcode 272 2 = some (.lconst 0, 1) := by decide +kernel
theorem d_272_3 : xcode 272 3 = some (.lconst 1, 1) := by decide +kernel
theorem d_272_4 : xcode 272 4 = some (.invokevirtual 293, 3) := by decide +kernel
theorem d_272_7 : xcode 272 7 = some (.iconst 1, 1) := by decide +kernel
theorem d_272_8 : xcode 272 8 = some (.istore_n 2, 1) := by decide +kernel
theorem d_272_9 : xcode 272 9 = some (.iload_n 2, 1) := by decide +kernel
theorem d_272_10 : xcode 272 10 = some (.iload_n 1, 1) := by decide +kernel
theorem d_272_11 : xcode 272 11 = some (.iconst 1, 1) := by decide +kernel
theorem d_272_12 : xcode 272 12 = some (.iadd, 1) := by decide +kernel
theorem d_272_13 : xcode 272 13 = some (.if_icmp .gt 150, 3) := by decide +kernel
theorem d_272_16 : xcode 272 16 = some (.iload_n 1, 1) := by decide +kernel
theorem d_272_17 : xcode 272 17 = some (.iconst 1, 1) := by decide +kernel
theorem d_272_18 : xcode 272 18 = some (.iadd, 1) := by decide +kernel
theorem d_272_19 : xcode 272 19 = some (.iload_n 2, 1) := by decide +kernel
theorem d_272_20 : xcode 272 20 = some (.isub, 1) := by decide +kernel
theorem d_272_21 : xcode 272 21 = some (.istore_n 3, 1) := by decide +kernel
theorem d_272_22 : xcode 272 22 = some (.aload_n 0, 1) := by decide +kernel
theorem d_272_23 : xcode 272 23 = some (.getfield 13, 3) := by decide +kernel
theorem d_272_26 : xcode 272 26 = some (.iconst 3, 1) := by decide +kernel
theorem d_272_27 : xcode 272 27 = some (.iload_n 3, 1) := by decide +kernel
theorem d_272_28 : xcode 272 28 = some (.imul, 1) := by decide +kernel
theorem d_272_29 : xcode 272 29 = some (.laload, 1) := by decide +kernel
theorem d_272_30 : xcode 272 30 = some (.aload_n 0, 1) := by decide +kernel
theorem d_272_31 : xcode 272 31 = some (.getfield 13, 3) := by decide +kernel
theorem d_272_34 : xcode 272 34 = some (.iconst 3, 1) := by decide +kernel
theorem d_272_35 : xcode 272 35 = some (.iload_n 3, 1) := by decide +kernel
theorem d_272_36 : xcode 272 36 = some (.imul, 1) := by decide +kernel
theorem d_272_37 : xcode 272 37 = some (.iconst 2, 1) := by decide +kernel
theorem d_272_38 : xcode 272 38 = some (.iadd, 1) := by decide +kernel
theorem d_272_39 : xcode 272 39 = some (.laload, 1) := by decide +kernel
theorem d_272_40 : xcode 272 40 = some (.lmul, 1) := by decide +kernel
theorem d_272_41 : xcode 272 41 = some (.aload_n 0, 1) := by decide +kernel
theorem d_272_42 : xcode 272 42 = some (.getfield 13, 3) := by decide +kernel
theorem d_272_45 : xcode 272 45 = some (.iconst 3, 1) := by decide +kernel
theorem d_272_46 : xcode 272 46 = some (.iload_n 3, 1) := by decide +kernel
theorem d_272_47 : xcode 272 47 = some (.imul, 1) := by decide +kernel
theorem d_272_48 : xcode 272 48 = some (.iconst 1, 1) := by decide +kernel
theorem d_272_49 : xcode 272 49 = some (.iadd, 1) := by decide +kernel
theorem d_272_50 : xcode 272 50 = some (.laload, 1) := by decide +kernel
theorem d_272_51 : xcode 272 51 = some (.ladd, 1) := by decide +kernel
theorem d_272_52 : xcode 272 52 = some (.lstore 4, 2) := by decide +kernel
theorem d_272_54 : xcode 272 54 = some (.aload_n 0, 1) := by decide +kernel
theorem d_272_55 : xcode 272 55 = some (.getfield 13, 3) := by decide +kernel
theorem d_272_58 : xcode 272 58 = some (.iconst 3, 1) := by decide +kernel
theorem d_272_59 : xcode 272 59 = some (.iload_n 3, 1) := by decide +kernel
theorem d_272_60 : xcode 272 60 = some (.imul, 1) := by decide +kernel
theorem d_272_61 : xcode 272 61 = some (.iconst 2, 1) := by decide +kernel
theorem d_272_62 : xcode 272 62 = some (.iadd, 1) := by decide +kernel
theorem d_272_63 : xcode 272 63 = some (.laload, 1) := by decide +kernel
theorem d_272_64 : xcode 272 64 = some (.lstore 6, 2) := by decide +kernel
theorem d_272_66 : xcode 272 66 = some (.iload_n 3, 1) := by decide +kernel
theorem d_272_67 : xcode 272 67 = some (.iconst 1, 1) := by decide +kernel
theorem d_272_68 : xcode 272 68 = some (.if_icmp .ne 10, 3) := by decide +kernel
theorem d_272_71 : xcode 272 71 = some (.lload 4, 2) := by decide +kernel
theorem d_272_73 : xcode 272 73 = some (.lload 6, 2) := by decide +kernel
theorem d_272_75 : xcode 272 75 = some (.ladd, 1) := by decide +kernel
theorem d_272_76 : xcode 272 76 = some (.lstore 4, 2) := by decide +kernel
theorem d_272_78 : xcode 272 78 = some (.aload_n 0, 1) := by decide +kernel
theorem d_272_79 : xcode 272 79 = some (.getfield 24, 3) := by decide +kernel
theorem d_272_82 : xcode 272 82 = some (.bipush 40, 2) := by decide +kernel
theorem d_272_84 : xcode 272 84 = some (.iload_n 1, 1) := by decide +kernel
theorem d_272_85 : xcode 272 85 = some (.iconst 1, 1) := by decide +kernel
theorem d_272_86 : xcode 272 86 = some (.iadd, 1) := by decide +kernel
theorem d_272_87 : xcode 272 87 = some (.imul, 1) := by decide +kernel
theorem d_272_88 : xcode 272 88 = some (.iload_n 2, 1) := by decide +kernel
theorem d_272_89 : xcode 272 89 = some (.iadd, 1) := by decide +kernel
theorem d_272_90 : xcode 272 90 = some (.laload, 1) := by decide +kernel
theorem d_272_91 : xcode 272 91 = some (.iload_n 1, 1) := by decide +kernel
theorem d_272_92 : xcode 272 92 = some (.iconst 1, 1) := by decide +kernel
theorem d_272_93 : xcode 272 93 = some (.iadd, 1) := by decide +kernel
theorem d_272_94 : xcode 272 94 = some (.i2l, 1) := by decide +kernel
theorem d_272_95 : xcode 272 95 = some (.invokestatic 121, 3) := by decide +kernel
theorem d_272_98 : xcode 272 98 = some (.lstore 8, 2) := by decide +kernel
theorem d_272_100 : xcode 272 100 = some (.aload_n 0, 1) := by decide +kernel
theorem d_272_101 : xcode 272 101 = some (.getfield 24, 3) := by decide +kernel
theorem d_272_104 : xcode 272 104 = some (.bipush 40, 2) := by decide +kernel
theorem d_272_106 : xcode 272 106 = some (.iload_n 1, 1) := by decide +kernel
theorem d_272_107 : xcode 272 107 = some (.iconst 1, 1) := by decide +kernel
theorem d_272_108 : xcode 272 108 = some (.iadd, 1) := by decide +kernel
theorem d_272_109 : xcode 272 109 = some (.imul, 1) := by decide +kernel
theorem d_272_110 : xcode 272 110 = some (.iload_n 2, 1) := by decide +kernel
theorem d_272_111 : xcode 272 111 = some (.iadd, 1) := by decide +kernel
theorem d_272_112 : xcode 272 112 = some (.laload, 1) := by decide +kernel
theorem d_272_113 : xcode 272 113 = some (.lload 8, 2) := by decide +kernel
theorem d_272_115 : xcode 272 115 = some (.ldiv, 1) := by decide +kernel
theorem d_272_116 : xcode 272 116 = some (.lstore 10, 2) := by decide +kernel
theorem d_272_118 : xcode 272 118 = some (.iload_n 1, 1) := by decide +kernel
theorem d_272_119 : xcode 272 119 = some (.iconst 1, 1) := by decide +kernel
theorem d_272_120 : xcode 272 120 = some (.iadd, 1) := by decide +kernel
theorem d_272_121 : xcode 272 121 = some (.i2l, 1) := by decide +kernel
theorem d_272_122 : xcode 272 122 = some (.lload 8, 2) := by decide +kernel
theorem d_272_124 : xcode 272 124 = some (.ldiv, 1) := by decide +kernel
theorem d_272_125 : xcode 272 125 = some (.lstore 12, 2) := by decide +kernel
theorem d_272_127 : xcode 272 127 = some (.lload 10, 2) := by decide +kernel
theorem d_272_129 : xcode 272 129 = some (.lload 6, 2) := by decide +kernel
theorem d_272_131 : xcode 272 131 = some (.invokestatic 121, 3) := by decide +kernel
theorem d_272_134 : xcode 272 134 = some (.lstore 14, 2) := by decide +kernel
theorem d_272_136 : xcode 272 136 = some (.aload_n 0, 1) := by decide +kernel
theorem d_272_137 : xcode 272 137 = some (.iload_n 2, 1) := by decide +kernel
theorem d_272_138 : xcode 272 138 = some (.lload 4, 2) := by decide +kernel
theorem d_272_140 : xcode 272 140 = some (.lload 10, 2) := by decide +kernel
theorem d_272_142 : xcode 272 142 = some (.lload 14, 2) := by decide +kernel
theorem d_272_144 : xcode 272 144 = some (.ldiv, 1) := by decide +kernel
theorem d_272_145 : xcode 272 145 = some (.lmul, 1) := by decide +kernel
theorem d_272_146 : xcode 272 146 = some (.lload 6, 2) := by decide +kernel
theorem d_272_148 : xcode 272 148 = some (.lload 14, 2) := by decide +kernel
theorem d_272_150 : xcode 272 150 = some (.ldiv, 1) := by decide +kernel
theorem d_272_151 : xcode 272 151 = some (.lload 12, 2) := by decide +kernel
theorem d_272_153 : xcode 272 153 = some (.lmul, 1) := by decide +kernel
theorem d_272_154 : xcode 272 154 = some (.invokevirtual 293, 3) := by decide +kernel
theorem d_272_157 : xcode 272 157 = some (.iinc 2 1, 3) := by decide +kernel
theorem d_272_160 : xcode 272 160 = some (.goto (-151), 3) := by decide +kernel
theorem d_272_163 : xcode 272 163 = some (.return_, 1) := by decide +kernel
theorem d_273_0 : xcode 273 0 = some (.lload_n 2, 1) := by decide +kernel
theorem d_273_1 : xcode 273 1 = some (.lload 4, 2) := by decide +kernel
theorem d_273_3 : xcode 273 3 = some (.invokestatic 121, 3) := by decide +kernel
theorem d_273_6 : xcode 273 6 = some (.lstore 6, 2) := by decide +kernel
theorem d_273_8 : xcode 273 8 = some (.aload_n 0, 1) := by decide +kernel
theorem d_273_9 : xcode 273 9 = some (.getfield 57, 3) := by decide +kernel
theorem d_273_12 : xcode 273 12 = some (.iload_n 1, 1) := by decide +kernel
theorem d_273_13 : xcode 273 13 = some (.lload_n 2, 1) := by decide +kernel
theorem d_273_14 : xcode 273 14 = some (.lload 6, 2) := by decide +kernel
theorem d_273_16 : xcode 273 16 = some (.ldiv, 1) := by decide +kernel
theorem d_273_17 : xcode 273 17 = some (.lastore, 1) := by decide +kernel
theorem d_273_18 : xcode 273 18 = some (.aload_n 0, 1) := by decide +kernel
theorem d_273_19 : xcode 273 19 = some (.getfield 60, 3) := by decide +kernel
theorem d_273_22 : xcode 273 22 = some (.iload_n 1, 1) := by decide +kernel
theorem d_273_23 : xcode 273 23 = some (.lload 4, 2) := by decide +kernel
theorem d_273_25 : xcode 273 25 = some (.lload 6, 2) := by decide +kernel
theorem d_273_27 : xcode 273 27 = some (.ldiv, 1) := by decide +kernel
theorem d_273_28 : xcode 273 28 = some (.lastore, 1) := by decide +kernel
theorem d_273_29 : xcode 273 29 = some (.return_, 1) := by decide +kernel
theorem d_274_0 : xcode 274 0 = some (.aload_n 0, 1) := by decide +kernel
theorem d_274_1 : xcode 274 1 = some (.iconst 0, 1) := by decide +kernel
theorem d_274_2 : xcode 274 2 = some (.putfield 118, 3) := by decide +kernel
theorem d_274_5 : xcode 274 5 = some (.iload_n 1, 1) := by decide +kernel
theorem d_274_6 : xcode 274 6 = some (.iconst 0, 1) := by decide +kernel
theorem d_274_7 : xcode 274 7 = some (.bipush 24, 2) := by decide +kernel
theorem d_274_9 : xcode 274 9 = some (.invokestatic 137, 3) := by decide +kernel
theorem d_274_12 : xcode 274 12 = some (.ifCond .eq 14, 3) := by decide +kernel
theorem d_274_15 : xcode 274 15 = some (.iload_n 2, 1) := by decide +kernel
theorem d_274_16 : xcode 274 16 = some (.iconst 0, 1) := by decide +kernel
theorem d_274_17 : xcode 274 17 = some (.ldc_w 310, 3) := by decide +kernel
theorem d_274_20 : xcode 274 20 = some (.invokestatic 137, 3) := by decide +kernel
theorem d_274_23 : xcode 274 23 = some (.ifCond .ne 5, 3) := by decide +kernel
theorem d_274_26 : xcode 274 26 = some (.iconst (-1), 1) := by decide +kernel
theorem d_274_27 : xcode 274 27 = some (.ireturn, 1) := by decide +kernel
theorem d_274_28 : xcode 274 28 = some (.iload_n 1, 1) := by decide +kernel
theorem d_274_29 : xcode 274 29 = some (.aload_n 0, 1) := by decide +kernel
theorem d_274_30 : xcode 274 30 = some (.getfield 20, 3) := by decide +kernel
theorem d_274_33 : xcode 274 33 = some (.if_icmp .le 6, 3) := by decide +kernel
theorem d_274_36 : xcode 274 36 = some (.bipush (-2), 2) := by decide +kernel
theorem d_274_38 : xcode 274 38 = some (.ireturn, 1) := by decide +kernel
theorem d_274_39 : xcode 274 39 = some (.aload_n 0, 1) := by decide +kernel
theorem d_274_40 : xcode 274 40 = some (.iload_n 1, 1) := by decide +kernel
theorem d_274_41 : xcode 274 41 = some (.iload_n 2, 1) := by decide +kernel
theorem d_274_42 : xcode 274 42 = some (.invokevirtual 311, 3) := by decide +kernel
theorem d_274_45 : xcode 274 45 = some (.l2i, 1) := by decide +kernel
theorem d_274_46 : xcode 274 46 = some (.ireturn, 1) := by decide +kernel
theorem d_275_0 : xcode 275 0 = some (.aload_n 0, 1) := by decide +kernel
theorem d_275_1 : xcode 275 1 = some (.iload_n 1, 1) := by decide +kernel
theorem d_275_2 : xcode 275 2 = some (.invokevirtual 299, 3) := by decide +kernel
theorem d_275_5 : xcode 275 5 = some (.lconst 0, 1) := by decide +kernel
theorem d_275_6 : xcode 275 6 = some (.lstore_n 3, 1) := by decide +kernel
theorem d_275_7 : xcode 275 7 = some (.iload_n 1, 1) := by decide +kernel
theorem d_275_8 : xcode 275 8 = some (.iconst 1, 1) := by decide +kernel
theorem d_275_9 : xcode 275 9 = some (.iadd, 1) := by decide +kernel
theorem d_275_10 : xcode 275 10 = some (.istore 5, 2) := by decide +kernel
theorem d_275_12 : xcode 275 12 = some (.iload 5, 2) := by decide +kernel
theorem d_275_14 : xcode 275 14 = some (.ifCond .lt 40, 3) := by decide +kernel
theorem d_275_17 : xcode 275 17 = some (.lload_n 3, 1) := by decide +kernel
theorem d_275_18 : xcode 275 18 = some (.iload_n 2, 1) := by decide +kernel
theorem d_275_19 : xcode 275 19 = some (.i2l, 1) := by decide +kernel
theorem d_275_20 : xcode 275 20 = some (.lmul, 1) := by decide +kernel
theorem d_275_21 : xcode 275 21 = some (.aload_n 0, 1) := by decide +kernel
theorem d_275_22 : xcode 275 22 = some (.getfield 57, 3) := by decide +kernel
theorem d_275_25 : xcode 275 25 = some (.iload 5, 2) := by decide +kernel
theorem d_275_27 : xcode 275 27 = some (.laload, 1) := by decide +kernel
theorem d_275_28 : xcode 275 28 = some (.invokestatic 304, 3) := by decide +kernel
theorem d_275_31 : xcode 275 31 = some (.aload_n 0, 1) := by decide +kernel
theorem d_275_32 : xcode 275 32 = some (.getfield 60, 3) := by decide +kernel
theorem d_275_35 : xcode 275 35 = some (.iload 5, 2) := by decide +kernel
theorem d_275_37 : xcode 275 37 = some (.laload, 1) := by decide +kernel
theorem d_275_38 : xcode 275 38 = some (.invokestatic 315, 3) := by decide +kernel
theorem d_275_41 : xcode 275 41 = some (.lmul, 1) := by decide +kernel
theorem d_275_42 : xcode 275 42 = some (.ladd, 1) := by decide +kernel
theorem d_275_43 : xcode 275 43 = some (.ldc2_w 302, 3) := by decide +kernel
theorem d_275_46 : xcode 275 46 = some (.lrem, 1) := by decide +kernel
theorem d_275_47 : xcode 275 47 = some (.lstore_n 3, 1) := by decide +kernel
theorem d_275_48 : xcode 275 48 = some (.iinc 5 (-1), 3) := by decide +kernel
theorem d_275_51 : xcode 275 51 = some (.goto (-39), 3) := by decide +kernel
theorem d_275_54 : xcode 275 54 = some (.lload_n 3, 1) := by decide +kernel
theorem d_275_55 : xcode 275 55 = some (.lreturn, 1) := by decide +kernel
theorem d_276_0 : xcode 276 0 = some (.lload_n 0, 1) := by decide +kernel
theorem d_276_1 : xcode 276 1 = some (.ldc2_w 302, 3) := by decide +kernel
theorem d_276_4 : xcode 276 4 = some (.lrem, 1) := by decide +kernel
theorem d_276_5 : xcode 276 5 = some (.lstore_n 2, 1) := by decide +kernel
theorem d_276_6 : xcode 276 6 = some (.lload_n 2, 1) := by decide +kernel
theorem d_276_7 : xcode 276 7 = some (.lconst 0, 1) := by decide +kernel
theorem d_276_8 : xcode 276 8 = some (.lcmp, 1) := by decide +kernel
theorem d_276_9 : xcode 276 9 = some (.ifCond .ge 11, 3) := by decide +kernel
theorem d_276_12 : xcode 276 12 = some (.lload_n 2, 1) := by decide +kernel
theorem d_276_13 : xcode 276 13 = some (.ldc2_w 302, 3) := by decide +kernel
theorem d_276_16 : xcode 276 16 = some (.ladd, 1) := by decide +kernel
theorem d_276_17 : xcode 276 17 = some (.goto 4, 3) := by decide +kernel
theorem d_276_20 : xcode 276 20 = some (.lload_n 2, 1) := by decide +kernel
theorem d_276_21 : xcode 276 21 = some (.lreturn, 1) := by decide +kernel
theorem d_277_0 : xcode 277 0 = some (.lconst 1, 1) := by decide +kernel
theorem d_277_1 : xcode 277 1 = some (.lstore_n 2, 1) := by decide +kernel
theorem d_277_2 : xcode 277 2 = some (.lload_n 0, 1) := by decide +kernel
theorem d_277_3 : xcode 277 3 = some (.invokestatic 304, 3) := by decide +kernel
theorem d_277_6 : xcode 277 6 = some (.lstore 4, 2) := by decide +kernel
theorem d_277_8 : xcode 277 8 = some (.ldc2_w 308, 3) := by decide +kernel
theorem d_277_11 : xcode 277 11 = some (.lstore 6, 2) := by decide +kernel
theorem d_277_13 : xcode 277 13 = some (.lload 6, 2) := by decide +kernel
theorem d_277_15 : xcode 277 15 = some (.lconst 0, 1) := by decide +kernel
theorem d_277_16 : xcode 277 16 = some (.lcmp, 1) := by decide +kernel
theorem d_277_17 : xcode 277 17 = some (.ifCond .le 45, 3) := by decide +kernel
theorem d_277_20 : xcode 277 20 = some (.lload 6, 2) := by decide +kernel
theorem d_277_22 : xcode 277 22 = some (.ldc2_w 216, 3) := by decide +kernel
theorem d_277_25 : xcode 277 25 = some (.lrem, 1) := by decide +kernel
theorem d_277_26 : xcode 277 26 = some (.lconst 1, 1) := by decide +kernel
theorem d_277_27 : xcode 277 27 = some (.lcmp, 1) := by decide +kernel
theorem d_277_28 : xcode 277 28 = some (.ifCond .ne 12, 3) := by decide +kernel
theorem d_277_31 : xcode 277 31 = some (.lload_n 2, 1) := by decide +kernel
theorem d_277_32 : xcode 277 32 = some (.lload 4, 2) := by decide +kernel
theorem d_277_34 : xcode 277 34 = some (.lmul, 1) := by decide +kernel
theorem d_277_35 : xcode 277 35 = some (.ldc2_w 302, 3) := by decide +kernel
theorem d_277_38 : xcode 277 38 = some (.lrem, 1) := by decide +kernel
theorem d_277_39 : xcode 277 39 = some (.lstore_n 2, 1) := by decide +kernel
theorem d_277_40 : xcode 277 40 = some (.lload 4, 2) := by decide +kernel
theorem d_277_42 : xcode 277 42 = some (.lload 4, 2) := by decide +kernel
theorem d_277_44 : xcode 277 44 = some (.lmul, 1) := by decide +kernel
theorem d_277_45 : xcode 277 45 = some (.ldc2_w 302, 3) := by decide +kernel
theorem d_277_48 : xcode 277 48 = some (.lrem, 1) := by decide +kernel
theorem d_277_49 : xcode 277 49 = some (.lstore 4, 2) := by decide +kernel
theorem d_277_51 : xcode 277 51 = some (.lload 6, 2) := by decide +kernel
theorem d_277_53 : xcode 277 53 = some (.ldc2_w 216, 3) := by decide +kernel
theorem d_277_56 : xcode 277 56 = some (.ldiv, 1) := by decide +kernel
theorem d_277_57 : xcode 277 57 = some (.lstore 6, 2) := by decide +kernel
theorem d_277_59 : xcode 277 59 = some (.goto (-46), 3) := by decide +kernel
theorem d_277_62 : xcode 277 62 = some (.lload_n 2, 1) := by decide +kernel
theorem d_277_63 : xcode 277 63 = some (.lreturn, 1) := by decide +kernel
theorem d_278_0 : xcode 278 0 = some (.aload_n 0, 1) := by decide +kernel
theorem d_278_1 : xcode 278 1 = some (.iconst 0, 1) := by decide +kernel
theorem d_278_2 : xcode 278 2 = some (.putfield 118, 3) := by decide +kernel
theorem d_278_5 : xcode 278 5 = some (.iload_n 1, 1) := by decide +kernel
theorem d_278_6 : xcode 278 6 = some (.iconst 0, 1) := by decide +kernel
theorem d_278_7 : xcode 278 7 = some (.bipush 24, 2) := by decide +kernel
theorem d_278_9 : xcode 278 9 = some (.invokestatic 137, 3) := by decide +kernel
theorem d_278_12 : xcode 278 12 = some (.ifCond .eq 37, 3) := by decide +kernel
theorem d_278_15 : xcode 278 15 = some (.iload_n 2, 1) := by decide +kernel
theorem d_278_16 : xcode 278 16 = some (.iconst 0, 1) := by decide +kernel
theorem d_278_17 : xcode 278 17 = some (.sipush 1000, 3) := by decide +kernel
theorem d_278_20 : xcode 278 20 = some (.invokestatic 137, 3) := by decide +kernel
theorem d_278_23 : xcode 278 23 = some (.ifCond .eq 26, 3) := by decide +kernel
theorem d_278_26 : xcode 278 26 = some (.iload_n 3, 1) := by decide +kernel
theorem d_278_27 : xcode 278 27 = some (.iconst 1, 1) := by decide +kernel
theorem d_278_28 : xcode 278 28 = some (.sipush 1000, 3) := by decide +kernel
theorem d_278_31 : xcode 278 31 = some (.invokestatic 137, 3) := by decide +kernel
theorem d_278_34 : xcode 278 34 = some (.ifCond .eq 15, 3) := by decide +kernel
theorem d_278_37 : xcode 278 37 = some (.iload 4, 2) := by decide +kernel
theorem d_278_39 : xcode 278 39 = some (.iconst 0, 1) := by decide +kernel
theorem d_278_40 : xcode 278 40 = some (.ldc_w 310, 3) := by decide +kernel
theorem d_278_43 : xcode 278 43 = some (.invokestatic 137, 3) := by decide +kernel
theorem d_278_46 : xcode 278 46 = some (.ifCond .ne 5, 3) := by decide +kernel
theorem d_278_49 : xcode 278 49 = some (.iconst (-1), 1) := by decide +kernel
theorem d_278_50 : xcode 278 50 = some (.ireturn, 1) := by decide +kernel
theorem d_278_51 : xcode 278 51 = some (.iload_n 1, 1) := by decide +kernel
theorem d_278_52 : xcode 278 52 = some (.aload_n 0, 1) := by decide +kernel
theorem d_278_53 : xcode 278 53 = some (.getfield 20, 3) := by decide +kernel
theorem d_278_56 : xcode 278 56 = some (.if_icmp .le 6, 3) := by decide +kernel
theorem d_278_59 : xcode 278 59 = some (.bipush (-2), 2) := by decide +kernel
theorem d_278_61 : xcode 278 61 = some (.ireturn, 1) := by decide +kernel
theorem d_278_62 : xcode 278 62 = some (.iload 4, 2) := by decide +kernel
theorem d_278_64 : xcode 278 64 = some (.ifCond .ne 5, 3) := by decide +kernel
theorem d_278_67 : xcode 278 67 = some (.iconst 0, 1) := by decide +kernel
theorem d_278_68 : xcode 278 68 = some (.ireturn, 1) := by decide +kernel
theorem d_278_69 : xcode 278 69 = some (.iload_n 2, 1) := by decide +kernel
theorem d_278_70 : xcode 278 70 = some (.i2l, 1) := by decide +kernel
theorem d_278_71 : xcode 278 71 = some (.iload_n 1, 1) := by decide +kernel
theorem d_278_72 : xcode 278 72 = some (.ldc2_w 302, 3) := by decide +kernel
theorem d_278_75 : xcode 278 75 = some (.invokestatic 208, 3) := by decide +kernel
theorem d_278_78 : xcode 278 78 = some (.iload 4, 2) := by decide +kernel
theorem d_278_80 : xcode 278 80 = some (.i2l, 1) := by decide +kernel
theorem d_278_81 : xcode 278 81 = some (.lmul, 1) := by decide +kernel
theorem d_278_82 : xcode 278 82 = some (.ldc2_w 302, 3) := by decide +kernel
theorem d_278_85 : xcode 278 85 = some (.lrem, 1) := by decide +kernel
theorem d_278_86 : xcode 278 86 = some (.lstore 5, 2) := by decide +kernel
theorem d_278_88 : xcode 278 88 = some (.iconst 1, 1) := by decide +kernel
theorem d_278_89 : xcode 278 89 = some (.istore 7, 2) := by decide +kernel
theorem d_278_91 : xcode 278 91 = some (.iload 7, 2) := by decide +kernel
theorem d_278_93 : xcode 278 93 = some (.iload_n 1, 1) := by decide +kernel
theorem d_278_94 : xcode 278 94 = some (.if_icmp .gt 73, 3) := by decide +kernel
theorem d_278_97 : xcode 278 97 = some (.lload 5, 2) := by decide +kernel
theorem d_278_99 : xcode 278 99 = some (.aload_n 0, 1) := by decide +kernel
theorem d_278_100 : xcode 278 100 = some (.getfield 24, 3) := by decide +kernel
theorem d_278_103 : xcode 278 103 = some (.bipush 40, 2) := by decide +kernel
theorem d_278_105 : xcode 278 105 = some (.iload_n 1, 1) := by decide +kernel
theorem d_278_106 : xcode 278 106 = some (.imul, 1) := by decide +kernel
theorem d_278_107 : xcode 278 107 = some (.iload 7, 2) := by decide +kernel
theorem d_278_109 : xcode 278 109 = some (.iadd, 1) := by decide +kernel
theorem d_278_110 : xcode 278 110 = some (.laload, 1) := by decide +kernel
theorem d_278_111 : xcode 278 111 = some (.iload_n 2, 1) := by decide +kernel
theorem d_278_112 : xcode 278 112 = some (.i2l, 1) := by decide +kernel
theorem d_278_113 : xcode 278 113 = some (.iload_n 1, 1) := by decide +kernel
theorem d_278_114 : xcode 278 114 = some (.iload 7, 2) := by decide +kernel
theorem d_278_116 : xcode 278 116 = some (.isub, 1) := by decide +kernel
theorem d_278_117 : xcode 278 117 = some (.ldc2_w 302, 3) := by decide +kernel
theorem d_278_120 : xcode 278 120 = some (.invokestatic 208, 3) := by decide +kernel
theorem d_278_123 : xcode 278 123 = some (.lmul, 1) := by decide +kernel
theorem d_278_124 : xcode 278 124 = some (.ldc2_w 302, 3) := by decide +kernel
theorem d_278_127 : xcode 278 127 = some (.lrem, 1) := by decide +kernel
theorem d_278_128 : xcode 278 128 = some (.iload_n 3, 1) := by decide +kernel
theorem d_278_129 : xcode 278 129 = some (.i2l, 1) := by decide +kernel
theorem d_278_130 : xcode 278 130 = some (.iload 7, 2) := by decide +kernel
theorem d_278_132 : xcode 278 132 = some (.ldc2_w 302, 3) := by decide +kernel
theorem d_278_135 : xcode 278 135 = some (.invokestatic 208, 3) := by decide +kernel
theorem d_278_138 : xcode 278 138 = some (.lmul, 1) := by decide +kernel
theorem d_278_139 : xcode 278 139 = some (.ldc2_w 302, 3) := by decide +kernel
theorem d_278_142 : xcode 278 142 = some (.lrem, 1) := by decide +kernel
theorem d_278_143 : xcode 278 143 = some (.aload_n 0, 1) := by decide +kernel
theorem d_278_144 : xcode 278 144 = some (.iload 7, 2) := by decide +kernel
theorem d_278_146 : xcode 278 146 = some (.iload 4, 2) := by decide +kernel
theorem d_278_148 : xcode 278 148 = some (.iconst 1, 1) := by decide +kernel
theorem d_278_149 : xcode 278 149 = some (.isub, 1) := by decide +kernel
theorem d_278_150 : xcode 278 150 = some (.invokevirtual 311, 3) := by decide +kernel
theorem d_278_153 : xcode 278 153 = some (.lmul, 1) := by decide +kernel
theorem d_278_154 : xcode 278 154 = some (.ladd, 1) := by decide +kernel
theorem d_278_155 : xcode 278 155 = some (.ldc2_w 302, 3) := by decide +kernel
theorem d_278_158 : xcode 278 158 = some (.lrem, 1) := by decide +kernel
theorem d_278_159 : xcode 278 159 = some (.lstore 5, 2) := by decide +kernel
theorem d_278_161 : xcode 278 161 = some (.iinc 7 1, 3) := by decide +kernel
theorem d_278_164 : xcode 278 164 = some (.goto (-73), 3) := by decide +kernel
theorem d_278_167 : xcode 278 167 = some (.lload 5, 2) := by decide +kernel
theorem d_278_169 : xcode 278 169 = some (.l2i, 1) := by decide +kernel
theorem d_278_170 : xcode 278 170 = some (.ireturn, 1) := by decide +kernel
theorem d_279_0 : xcode 279 0 = some (.aload_n 0, 1) := by decide +kernel
theorem d_279_1 : xcode 279 1 = some (.iconst 0, 1) := by decide +kernel
theorem d_279_2 : xcode 279 2 = some (.putfield 118, 3) := by decide +kernel
theorem d_279_5 : xcode 279 5 = some (.iload_n 1, 1) := by decide +kernel
theorem d_279_6 : xcode 279 6 = some (.iload_n 2, 1) := by decide +kernel
theorem d_279_7 : xcode 279 7 = some (.invokestatic 333, 3) := by decide +kernel
theorem d_279_10 : xcode 279 10 = some (.ifCond .ne 5, 3) := by decide +kernel
theorem d_279_13 : xcode 279 13 = some (.iconst (-1), 1) := by decide +kernel
theorem d_279_14 : xcode 279 14 = some (.ireturn, 1) := by decide +kernel
theorem d_279_15 : xcode 279 15 = some (.aload_n 0, 1) := by decide +kernel
theorem d_279_16 : xcode 279 16 = some (.iload_n 1, 1) := by decide +kernel
theorem d_279_17 : xcode 279 17 = some (.iload_n 2, 1) := by decide +kernel
theorem d_279_18 : xcode 279 18 = some (.invokevirtual 336, 3) := by decide +kernel
theorem d_279_21 : xcode 279 21 = some (.aload_n 0, 1) := by decide +kernel
theorem d_279_22 : xcode 279 22 = some (.invokevirtual 339, 3) := by decide +kernel
theorem d_279_25 : xcode 279 25 = some (.ireturn, 1) := by decide +kernel
theorem d_280_0 : xcode 280 0 = some (.iload_n 0, 1) := by decide +kernel
theorem d_280_1 : xcode 280 1 = some (.iconst 0, 1) := by decide +kernel
theorem d_280_2 : xcode 280 2 = some (.bipush 24, 2) := by decide +kernel
theorem d_280_4 : xcode 280 4 = some (.invokestatic 137, 3) := by decide +kernel
theorem d_280_7 : xcode 280 7 = some (.ifCond .eq 18, 3) := by decide +kernel
theorem d_280_10 : xcode 280 10 = some (.iload_n 1, 1) := by decide +kernel
theorem d_280_11 : xcode 280 11 = some (.iconst 0, 1) := by decide +kernel
theorem d_280_12 : xcode 280 12 = some (.ldc_w 310, 3) := by decide +kernel
theorem d_280_15 : xcode 280 15 = some (.invokestatic 137, 3) := by decide +kernel
theorem d_280_18 : xcode 280 18 = some (.ifCond .eq 7, 3) := by decide +kernel
theorem d_280_21 : xcode 280 21 = some (.iconst 1, 1) := by decide +kernel
theorem d_280_22 : xcode 280 22 = some (.goto 4, 3) := by decide +kernel
theorem d_280_25 : xcode 280 25 = some (.iconst 0, 1) := by decide +kernel
theorem d_280_26 : xcode 280 26 = some (.ireturn, 1) := by decide +kernel
theorem d_281_0 : xcode 281 0 = some (.iconst 0, 1) := by decide +kernel
theorem d_281_1 : xcode 281 1 = some (.istore_n 3, 1) := by decide +kernel
theorem d_281_2 : xcode 281 2 = some (.iload_n 3, 1) := by decide +kernel
theorem d_281_3 : xcode 281 3 = some (.bipush 32, 2) := by decide +kernel
theorem d_281_5 : xcode 281 5 = some (.if_icmp .ge 31, 3) := by decide +kernel
theorem d_281_8 : xcode 281 8 = some (.aload_n 0, 1) := by decide +kernel
theorem d_281_9 : xcode 281 9 = some (.getfield 63, 3) := by decide +kernel
theorem d_281_12 : xcode 281 12 = some (.iload_n 3, 1) := by decide +kernel
theorem d_281_13 : xcode 281 13 = some (.lconst 0, 1) := by decide +kernel
theorem d_281_14 : xcode 281 14 = some (.lastore, 1) := by decide +kernel
theorem d_281_15 : xcode 281 15 = some (.aload_n 0, 1) := by decide +kernel
theorem d_281_16 : xcode 281 16 = some (.getfield 66, 3) := by decide +kernel
theorem d_281_19 : xcode 281 19 = some (.iload_n 3, 1) := by decide +kernel
theorem d_281_20 : xcode 281 20 = some (.iload_n 3, 1) := by decide +kernel
theorem d_281_21 : xcode 281 21 = some (.ifCond .ne 7, 3) := by decide +kernel
theorem d_281_24 : xcode 281 24 = some (.lconst 1, 1) := by decide +kernel
theorem d_281_25 : xcode 281 25 = some (.goto 4, 3) := by decide +kernel
theorem d_281_28 : xcode 281 28 = some (.lconst 0, 1) := by decide +kernel
theorem d_281_29 : xcode 281 29 = some (.lastore, 1) := by decide +kernel
theorem d_281_30 : xcode 281 30 = some (.iinc 3 1, 3) := by decide +kernel
theorem d_281_33 : xcode 281 33 = some (.goto (-31), 3) := by decide +kernel
theorem d_281_36 : xcode 281 36 = some (.iload_n 1, 1) := by decide +kernel
theorem d_281_37 : xcode 281 37 = some (.ifCond .ne 28, 3) := by decide +kernel
theorem d_281_40 : xcode 281 40 = some (.aload_n 0, 1) := by decide +kernel
theorem d_281_41 : xcode 281 41 = some (.getfield 63, 3) := by decide +kernel
theorem d_281_44 : xcode 281 44 = some (.iconst 0, 1) := by decide +kernel
theorem d_281_45 : xcode 281 45 = some (.iload_n 2, 1) := by decide +kernel
theorem d_281_46 : xcode 281 46 = some (.i2l, 1) := by decide +kernel
theorem d_281_47 : xcode 281 47 = some (.ldc2_w 318, 3) := by decide +kernel
theorem d_281_50 : xcode 281 50 = some (.lrem, 1) := by decide +kernel
theorem d_281_51 : xcode 281 51 = some (.lastore, 1) := by decide +kernel
theorem d_281_52 : xcode 281 52 = some (.aload_n 0, 1) := by decide +kernel
theorem d_281_53 : xcode 281 53 = some (.getfield 63, 3) := by decide +kernel
theorem d_281_56 : xcode 281 56 = some (.iconst 1, 1) := by decide +kernel
theorem d_281_57 : xcode 281 57 = some (.iload_n 2, 1) := by decide +kernel
theorem d_281_58 : xcode 281 58 = some (.i2l, 1) := by decide +kernel
theorem d_281_59 : xcode 281 59 = some (.ldc2_w 318, 3) := by decide +kernel
theorem d_281_62 : xcode 281 62 = some (.ldiv, 1) := by decide +kernel
theorem d_281_63 : xcode 281 63 = some (.lastore, 1) := by decide +kernel
theorem d_281_64 : xcode 281 64 = some (.return_, 1) := by decide +kernel
theorem d_281_65 : xcode 281 65 = some (.aload_n 0, 1) := by decide +kernel
theorem d_281_66 : xcode 281 66 = some (.iload_n 1, 1) := by decide +kernel
theorem d_281_67 : xcode 281 67 = some (.invokevirtual 320, 3) := by decide +kernel
theorem d_281_70 : xcode 281 70 = some (.aload_n 0, 1) := by decide +kernel
theorem d_281_71 : xcode 281 71 = some (.iload_n 2, 1) := by decide +kernel
theorem d_281_72 : xcode 281 72 = some (.i2l, 1) := by decide +kernel
theorem d_281_73 : xcode 281 73 = some (.lconst 1, 1) := by decide +kernel
theorem d_281_74 : xcode 281 74 = some (.ladd, 1) := by decide +kernel
theorem d_281_75 : xcode 281 75 = some (.invokevirtual 323, 3) := by decide +kernel
theorem d_281_78 : xcode 281 78 = some (.iconst 1, 1) := by decide +kernel
theorem d_281_79 : xcode 281 79 = some (.istore_n 3, 1) := by decide +kernel
theorem d_281_80 : xcode 281 80 = some (.iload_n 3, 1) := by decide +kernel
theorem d_281_81 : xcode 281 81 = some (.iload_n 1, 1) := by decide +kernel
theorem d_281_82 : xcode 281 82 = some (.if_icmp .gt 61, 3) := by decide +kernel
theorem d_281_85 : xcode 281 85 = some (.iload_n 3, 1) := by decide +kernel
theorem d_281_86 : xcode 281 86 = some (.iload_n 2, 1) := by decide +kernel
theorem d_281_87 : xcode 281 87 = some (.if_icmp .gt 56, 3) := by decide +kernel
theorem d_281_90 : xcode 281 90 = some (.aload_n 0, 1) := by decide +kernel
theorem d_281_91 : xcode 281 91 = some (.iload_n 2, 1) := by decide +kernel
theorem d_281_92 : xcode 281 92 = some (.i2l, 1) := by decide +kernel
theorem d_281_93 : xcode 281 93 = some (.lconst 1, 1) := by decide +kernel
theorem d_281_94 : xcode 281 94 = some (.ladd, 1) := by decide +kernel
theorem d_281_95 : xcode 281 95 = some (.iload_n 3, 1) := by decide +kernel
theorem d_281_96 : xcode 281 96 = some (.i2l, 1) := by decide +kernel
theorem d_281_97 : xcode 281 97 = some (.lsub, 1) := by decide +kernel
theorem d_281_98 : xcode 281 98 = some (.invokevirtual 323, 3) := by decide +kernel
theorem d_281_101 : xcode 281 101 = some (.aload_n 0, 1) := by decide +kernel
theorem d_281_102 : xcode 281 102 = some (.iload_n 3, 1) := by decide +kernel
theorem d_281_103 : xcode 281 103 = some (.iconst 1, 1) := by decide +kernel
theorem d_281_104 : xcode 281 104 = some (.iadd, 1) := by decide +kernel
theorem d_281_105 : xcode 281 105 = some (.aload_n 0, 1) := by decide +kernel
theorem d_281_106 : xcode 281 106 = some (.getfield 69, 3) := by decide +kernel
theorem d_281_109 : xcode 281 109 = some (.iload_n 3, 1) := by decide +kernel
theorem d_281_110 : xcode 281 110 = some (.laload, 1) := by decide +kernel
theorem d_281_111 : xcode 281 111 = some (.ldc2_w 318, 3) := by decide +kernel
theorem d_281_114 : xcode 281 114 = some (.lrem, 1) := by decide +kernel
theorem d_281_115 : xcode 281 115 = some (.iconst 0, 1) := by decide +kernel
theorem d_281_116 : xcode 281 116 = some (.invokevirtual 327, 3) := by decide +kernel
theorem d_281_119 : xcode 281 119 = some (.aload_n 0, 1) := by decide +kernel
theorem d_281_120 : xcode 281 120 = some (.iload_n 3, 1) := by decide +kernel
theorem d_281_121 : xcode 281 121 = some (.iconst 1, 1) := by decide +kernel
theorem d_281_122 : xcode 281 122 = some (.iadd, 1) := by decide +kernel
theorem d_281_123 : xcode 281 123 = some (.aload_n 0, 1) := by decide +kernel
theorem d_281_124 : xcode 281 124 = some (.getfield 69, 3) := by decide +kernel
theorem d_281_127 : xcode 281 127 = some (.iload_n 3, 1) := by decide +kernel
theorem d_281_128 : xcode 281 128 = some (.laload, 1) := by decide +kernel
theorem d_281_129 : xcode 281 129 = some (.ldc2_w 318, 3) := by decide +kernel
theorem d_281_132 : xcode 281 132 = some (.ldiv, 1) := by decide +kernel
theorem d_281_133 : xcode 281 133 = some (.iconst 1, 1) := by decide +kernel
theorem d_281_134 : xcode 281 134 = some (.invokevirtual 327, 3) := by decide +kernel
theorem d_281_137 : xcode 281 137 = some (.iinc 3 1, 3) := by decide +kernel
theorem d_281_140 : xcode 281 140 = some (.goto (-60), 3) := by decide +kernel
theorem d_281_143 : xcode 281 143 = some (.return_, 1) := by decide +kernel
theorem d_282_0 : xcode 282 0 = some (.iconst 0, 1) := by decide +kernel
theorem d_282_1 : xcode 282 1 = some (.istore_n 2, 1) := by decide +kernel
theorem d_282_2 : xcode 282 2 = some (.iload_n 2, 1) := by decide +kernel
theorem d_282_3 : xcode 282 3 = some (.bipush 26, 2) := by decide +kernel
theorem d_282_5 : xcode 282 5 = some (.if_icmp .ge 24, 3) := by decide +kernel
theorem d_282_8 : xcode 282 8 = some (.aload_n 0, 1) := by decide +kernel
theorem d_282_9 : xcode 282 9 = some (.getfield 69, 3) := by decide +kernel
theorem d_282_12 : xcode 282 12 = some (.iload_n 2, 1) := by decide +kernel
theorem d_282_13 : xcode 282 13 = some (.iload_n 2, 1) := by decide +kernel
theorem d_282_14 : xcode 282 14 = some (.ifCond .ne 7, 3) := by decide +kernel
theorem d_282_17 : xcode 282 17 = some (.lconst 1, 1) := by decide +kernel
theorem d_282_18 : xcode 282 18 = some (.goto 4, 3) := by decide +kernel
theorem d_282_21 : xcode 282 21 = some (.lconst 0, 1) := by decide +kernel
theorem d_282_22 : xcode 282 22 = some (.lastore, 1) := by decide +kernel
theorem d_282_23 : xcode 282 23 = some (.iinc 2 1, 3) := by decide +kernel
theorem d_282_26 : xcode 282 26 = some (.goto (-24), 3) := by decide +kernel
theorem d_282_29 : xcode 282 29 = some (.iconst 1, 1) := by decide +kernel
theorem d_282_30 : xcode 282 30 = some (.istore_n 2, 1) := by decide +kernel
theorem d_282_31 : xcode 282 31 = some (.iload_n 2, 1) := by decide +kernel
theorem d_282_32 : xcode 282 32 = some (.iload_n 1, 1) := by decide +kernel
theorem d_282_33 : xcode 282 33 = some (.if_icmp .gt 52, 3) := by decide +kernel
theorem d_282_36 : xcode 282 36 = some (.iload_n 2, 1) := by decide +kernel
theorem d_282_37 : xcode 282 37 = some (.istore_n 3, 1) := by decide +kernel
theorem d_282_38 : xcode 282 38 = some (.iload_n 3, 1) := by decide +kernel
theorem d_282_39 : xcode 282 39 = some (.ifCond .le 33, 3) := by decide +kernel
theorem d_282_42 : xcode 282 42 = some (.aload_n 0, 1) := by decide +kernel
theorem d_282_43 : xcode 282 43 = some (.getfield 69, 3) := by decide +kernel
theorem d_282_46 : xcode 282 46 = some (.iload_n 3, 1) := by decide +kernel
theorem d_282_47 : xcode 282 47 = some (.iload_n 3, 1) := by decide +kernel
theorem d_282_48 : xcode 282 48 = some (.i2l, 1) := by decide +kernel
theorem d_282_49 : xcode 282 49 = some (.aload_n 0, 1) := by decide +kernel
theorem d_282_50 : xcode 282 50 = some (.getfield 69, 3) := by decide +kernel
theorem d_282_53 : xcode 282 53 = some (.iload_n 3, 1) := by decide +kernel
theorem d_282_54 : xcode 282 54 = some (.laload, 1) := by decide +kernel
theorem d_282_55 : xcode 282 55 = some (.lmul, 1) := by decide +kernel
theorem d_282_56 : xcode 282 56 = some (.aload_n 0, 1) := by decide +kernel
theorem d_282_57 : xcode 282 57 = some (.getfield 69, 3) := by decide +kernel
theorem d_282_60 : xcode 282 60 = some (.iload_n 3, 1) := by decide +kernel
theorem d_282_61 : xcode 282 61 = some (.iconst 1, 1) := by decide +kernel
theorem d_282_62 : xcode 282 62 = some (.isub, 1) := by decide +kernel
theorem d_282_63 : xcode 282 63 = some (.laload, 1) := by decide +kernel
theorem d_282_64 : xcode 282 64 = some (.ladd, 1) := by decide +kernel
theorem d_282_65 : xcode 282 65 = some (.lastore, 1) := by decide +kernel
theorem d_282_66 : xcode 282 66 = some (.iinc 3 (-1), 3) := by decide +kernel
theorem d_282_69 : xcode 282 69 = some (.goto (-31), 3) := by decide +kernel
theorem d_282_72 : xcode 282 72 = some (.aload_n 0, 1) := by decide +kernel
theorem d_282_73 : xcode 282 73 = some (.getfield 69, 3) := by decide +kernel
theorem d_282_76 : xcode 282 76 = some (.iconst 0, 1) := by decide +kernel
theorem d_282_77 : xcode 282 77 = some (.lconst 0, 1) := by decide +kernel
theorem d_282_78 : xcode 282 78 = some (.lastore, 1) := by decide +kernel
theorem d_282_79 : xcode 282 79 = some (.iinc 2 1, 3) := by decide +kernel
theorem d_282_82 : xcode 282 82 = some (.goto (-51), 3) := by decide +kernel
theorem d_282_85 : xcode 282 85 = some (.return_, 1) := by decide +kernel
theorem d_283_0 : xcode 283 0 = some (.lconst 0, 1) := by decide +kernel
theorem d_283_1 : xcode 283 1 = some (.lstore_n 3, 1) := by decide +kernel
theorem d_283_2 : xcode 283 2 = some (.iconst 0, 1) := by decide +kernel
theorem d_283_3 : xcode 283 3 = some (.istore 5, 2) := by decide +kernel
theorem d_283_5 : xcode 283 5 = some (.iload 5, 2) := by decide +kernel
theorem d_283_7 : xcode 283 7 = some (.bipush 32, 2) := by decide +kernel
theorem d_283_9 : xcode 283 9 = some (.if_icmp .ge 42, 3) := by decide +kernel
theorem d_283_12 : xcode 283 12 = some (.aload_n 0, 1) := by decide +kernel
theorem d_283_13 : xcode 283 13 = some (.getfield 66, 3) := by decide +kernel
theorem d_283_16 : xcode 283 16 = some (.iload 5, 2) := by decide +kernel
theorem d_283_18 : xcode 283 18 = some (.laload, 1) := by decide +kernel
theorem d_283_19 : xcode 283 19 = some (.lload_n 1, 1) := by decide +kernel
theorem d_283_20 : xcode 283 20 = some (.lmul, 1) := by decide +kernel
theorem d_283_21 : xcode 283 21 = some (.lload_n 3, 1) := by decide +kernel
theorem d_283_22 : xcode 283 22 = some (.ladd, 1) := by decide +kernel
theorem d_283_23 : xcode 283 23 = some (.lstore 6, 2) := by decide +kernel
theorem d_283_25 : xcode 283 25 = some (.aload_n 0, 1) := by decide +kernel
theorem d_283_26 : xcode 283 26 = some (.getfield 66, 3) := by decide +kernel
theorem d_283_29 : xcode 283 29 = some (.iload 5, 2) := by decide +kernel
theorem d_283_31 : xcode 283 31 = some (.lload 6, 2) := by decide +kernel
theorem d_283_33 : xcode 283 33 = some (.ldc2_w 318, 3) := by decide +kernel
theorem d_283_36 : xcode 283 36 = some (.lrem, 1) := by decide +kernel
theorem d_283_37 : xcode 283 37 = some (.lastore, 1) := by decide +kernel
theorem d_283_38 : xcode 283 38 = some (.lload 6, 2) := by decide +kernel
theorem d_283_40 : xcode 283 40 = some (.ldc2_w 318, 3) := by decide +kernel
theorem d_283_43 : xcode 283 43 = some (.ldiv, 1) := by decide +kernel
theorem d_283_44 : xcode 283 44 = some (.lstore_n 3, 1) := by decide +kernel
theorem d_283_45 : xcode 283 45 = some (.iinc 5 1, 3) := by decide +kernel
theorem d_283_48 : xcode 283 48 = some (.goto (-43), 3) := by decide +kernel
theorem d_283_51 : xcode 283 51 = some (.return_, 1) := by decide +kernel
theorem d_284_0 : xcode 284 0 = some (.lconst 0, 1) := by decide +kernel
theorem d_284_1 : xcode 284 1 = some (.lstore 5, 2) := by decide +kernel
theorem d_284_3 : xcode 284 3 = some (.lconst 0, 1) := by decide +kernel
theorem d_284_4 : xcode 284 4 = some (.lstore 7, 2) := by decide +kernel
theorem d_284_6 : xcode 284 6 = some (.bipush 31, 2) := by decide +kernel
theorem d_284_8 : xcode 284 8 = some (.istore 9, 2) := by decide +kernel
theorem d_284_10 : xcode 284 10 = some (.iload 9, 2) := by decide +kernel
theorem d_284_12 : xcode 284 12 = some (.ifCond .lt 44, 3) := by decide +kernel
theorem d_284_15 : xcode 284 15 = some (.lload 5, 2) := by decide +kernel
theorem d_284_17 : xcode 284 17 = some (.ldc2_w 318, 3) := by decide +kernel
theorem d_284_20 : xcode 284 20 = some (.lmul, 1) := by decide +kernel
theorem d_284_21 : xcode 284 21 = some (.aload_n 0, 1) := by decide +kernel
theorem d_284_22 : xcode 284 22 = some (.getfield 66, 3) := by decide +kernel
theorem d_284_25 : xcode 284 25 = some (.iload 9, 2) := by decide +kernel
theorem d_284_27 : xcode 284 27 = some (.laload, 1) := by decide +kernel
theorem d_284_28 : xcode 284 28 = some (.ladd, 1) := by decide +kernel
theorem d_284_29 : xcode 284 29 = some (.lstore 10, 2) := by decide +kernel
theorem d_284_31 : xcode 284 31 = some (.aload_n 0, 1) := by decide +kernel
theorem d_284_32 : xcode 284 32 = some (.getfield 72, 3) := by decide +kernel
theorem d_284_35 : xcode 284 35 = some (.iload 9, 2) := by decide +kernel
theorem d_284_37 : xcode 284 37 = some (.lload 10, 2) := by decide +kernel
theorem d_284_39 : xcode 284 39 = some (.iload_n 1, 1) := by decide +kernel
theorem d_284_40 : xcode 284 40 = some (.i2l, 1) := by decide +kernel
theorem d_284_41 : xcode 284 41 = some (.ldiv, 1) := by decide +kernel
theorem d_284_42 : xcode 284 42 = some (.lastore, 1) := by decide +kernel
theorem d_284_43 : xcode 284 43 = some (.lload 10, 2) := by decide +kernel
theorem d_284_45 : xcode 284 45 = some (.iload_n 1, 1) := by decide +kernel
theorem d_284_46 : xcode 284 46 = some (.i2l, 1) := by decide +kernel
theorem d_284_47 : xcode 284 47 = some (.lrem, 1) := by decide +kernel
theorem d_284_48 : xcode 284 48 = some (.lstore 5, 2) := by decide +kernel
theorem d_284_50 : xcode 284 50 = some (.iinc 9 (-1), 3) := by decide +kernel
theorem d_284_53 : xcode 284 53 = some (.goto (-43), 3) := by decide +kernel
theorem d_284_56 : xcode 284 56 = some (.iconst 0, 1) := by decide +kernel
theorem d_284_57 : xcode 284 57 = some (.istore 9, 2) := by decide +kernel
theorem d_284_59 : xcode 284 59 = some (.iload 9, 2) := by decide +kernel
theorem d_284_61 : xcode 284 61 = some (.iload 4, 2) := by decide +kernel
theorem d_284_63 : xcode 284 63 = some (.iadd, 1) := by decide +kernel
theorem d_284_64 : xcode 284 64 = some (.bipush 32, 2) := by decide +kernel
theorem d_284_66 : xcode 284 66 = some (.if_icmp .ge 58, 3) := by decide +kernel
theorem d_284_69 : xcode 284 69 = some (.aload_n 0, 1) := by decide +kernel
theorem d_284_70 : xcode 284 70 = some (.getfield 63, 3) := by decide +kernel
theorem d_284_73 : xcode 284 73 = some (.iload 9, 2) := by decide +kernel
theorem d_284_75 : xcode 284 75 = some (.iload 4, 2) := by decide +kernel
theorem d_284_77 : xcode 284 77 = some (.iadd, 1) := by decide +kernel
theorem d_284_78 : xcode 284 78 = some (.laload, 1) := by decide +kernel
theorem d_284_79 : xcode 284 79 = some (.aload_n 0, 1) := by decide +kernel
theorem d_284_80 : xcode 284 80 = some (.getfield 72, 3) := by decide +kernel
theorem d_284_83 : xcode 284 83 = some (.iload 9, 2) := by decide +kernel
theorem d_284_85 : xcode 284 85 = some (.laload, 1) := by decide +kernel
theorem d_284_86 : xcode 284 86 = some (.lload_n 2, 1) := by decide +kernel
theorem d_284_87 : xcode 284 87 = some (.lmul, 1) := by decide +kernel
theorem d_284_88 : xcode 284 88 = some (.ladd, 1) := by decide +kernel
theorem d_284_89 : xcode 284 89 = some (.lload 7, 2) := by decide +kernel
theorem d_284_91 : xcode 284 91 = some (.ladd, 1) := by decide +kernel
theorem d_284_92 : xcode 284 92 = some (.lstore 10, 2) := by decide +kernel
theorem d_284_94 : xcode 284 94 = some (.aload_n 0, 1) := by decide +kernel
theorem d_284_95 : xcode 284 95 = some (.getfield 63, 3) := by decide +kernel
theorem d_284_98 : xcode 284 98 = some (.iload 9, 2) := by decide +kernel
theorem d_284_100 : xcode 284 100 = some (.iload 4, 2) := by decide +kernel
theorem d_284_102 : xcode 284 102 = some (.iadd, 1) := by decide +kernel
theorem d_284_103 : xcode 284 103 = some (.lload 10, 2) := by decide +kernel
theorem d_284_105 : xcode 284 105 = some (.ldc2_w 318, 3) := by decide +kernel
theorem d_284_108 : xcode 284 108 = some (.lrem, 1) := by decide +kernel
theorem d_284_109 : xcode 284 109 = some (.lastore, 1) := by decide +kernel
theorem d_284_110 : xcode 284 110 = some (.lload 10, 2) := by decide +kernel
theorem d_284_112 : xcode 284 112 = some (.ldc2_w 318, 3) := by decide +kernel
theorem d_284_115 : xcode 284 115 = some (.ldiv, 1) := by decide +kernel
theorem d_284_116 : xcode 284 116 = some (.lstore 7, 2) := by decide +kernel
theorem d_284_118 : xcode 284 118 = some (.iinc 9 1, 3) := by decide +kernel
theorem d_284_121 : xcode 284 121 = some (.goto (-62), 3) := by decide +kernel
theorem d_284_124 : xcode 284 124 = some (.return_, 1) := by decide +kernel
theorem d_285_0 : xcode 285 0 = some (.bipush 31, 2) := by decide +kernel
theorem d_285_2 : xcode 285 2 = some (.istore_n 1, 1) := by decide +kernel
theorem d_285_3 : xcode 285 3 = some (.iload_n 1, 1) := by decide +kernel
theorem d_285_4 : xcode 285 4 = some (.ifCond .le 20, 3) := by decide +kernel
theorem d_285_7 : xcode 285 7 = some (.aload_n 0, 1) := by decide +kernel
theorem d_285_8 : xcode 285 8 = some (.getfield 63, 3) := by decide +kernel
theorem d_285_11 : xcode 285 11 = some (.iload_n 1, 1) := by decide +kernel
theorem d_285_12 : xcode 285 12 = some (.laload, 1) := by decide +kernel
theorem d_285_13 : xcode 285 13 = some (.lconst 0, 1) := by decide +kernel
theorem d_285_14 : xcode 285 14 = some (.lcmp, 1) := by decide +kernel
theorem d_285_15 : xcode 285 15 = some (.ifCond .ne 9, 3) := by decide +kernel
theorem d_285_18 : xcode 285 18 = some (.iinc 1 (-1), 3) := by decide +kernel
theorem d_285_21 : xcode 285 21 = some (.goto (-18), 3) := by decide +kernel
theorem d_285_24 : xcode 285 24 = some (.iconst 0, 1) := by decide +kernel
theorem d_285_25 : xcode 285 25 = some (.istore_n 2, 1) := by decide +kernel
theorem d_285_26 : xcode 285 26 = some (.aload_n 0, 1) := by decide +kernel
theorem d_285_27 : xcode 285 27 = some (.getfield 63, 3) := by decide +kernel
theorem d_285_30 : xcode 285 30 = some (.iload_n 1, 1) := by decide +kernel
theorem d_285_31 : xcode 285 31 = some (.laload, 1) := by decide +kernel
theorem d_285_32 : xcode 285 32 = some (.lstore_n 3, 1) := by decide +kernel
theorem d_285_33 : xcode 285 33 = some (.lload_n 3, 1) := by decide +kernel
theorem d_285_34 : xcode 285 34 = some (.lconst 0, 1) := by decide +kernel
theorem d_285_35 : xcode 285 35 = some (.lcmp, 1) := by decide +kernel
theorem d_285_36 : xcode 285 36 = some (.ifCond .le 15, 3) := by decide +kernel
theorem d_285_39 : xcode 285 39 = some (.iinc 2 1, 3) := by decide +kernel
theorem d_285_42 : xcode 285 42 = some (.lload_n 3, 1) := by decide +kernel
theorem d_285_43 : xcode 285 43 = some (.ldc2_w 331, 3) := by decide +kernel
theorem d_285_46 : xcode 285 46 = some (.ldiv, 1) := by decide +kernel
theorem d_285_47 : xcode 285 47 = some (.lstore_n 3, 1) := by decide +kernel
theorem d_285_48 : xcode 285 48 = some (.goto (-15), 3) := by decide +kernel
theorem d_285_51 : xcode 285 51 = some (.bipush 9, 2) := by decide +kernel
theorem d_285_53 : xcode 285 53 = some (.iload_n 1, 1) := by decide +kernel
theorem d_285_54 : xcode 285 54 = some (.imul, 1) := by decide +kernel
theorem d_285_55 : xcode 285 55 = some (.iload_n 2, 1) := by decide +kernel
theorem d_285_56 : xcode 285 56 = some (.ifCond .ne 7, 3) := by decide +kernel
theorem d_285_59 : xcode 285 59 = some (.iconst 1, 1) := by decide +kernel
theorem d_285_60 : xcode 285 60 = some (.goto 4, 3) := by decide +kernel
theorem d_285_63 : xcode 285 63 = some (.iload_n 2, 1) := by decide +kernel
theorem d_285_64 : xcode 285 64 = some (.iadd, 1) := by decide +kernel
theorem d_285_65 : xcode 285 65 = some (.ireturn, 1) := by decide +kernel
theorem d_286_0 : xcode 286 0 = some (.aload_n 0, 1) := by decide +kernel
theorem d_286_1 : xcode 286 1 = some (.iconst 0, 1) := by decide +kernel
theorem d_286_2 : xcode 286 2 = some (.putfield 118, 3) := by decide +kernel
theorem d_286_5 : xcode 286 5 = some (.iload_n 1, 1) := by decide +kernel
theorem d_286_6 : xcode 286 6 = some (.iload_n 2, 1) := by decide +kernel
theorem d_286_7 : xcode 286 7 = some (.invokestatic 333, 3) := by decide +kernel
theorem d_286_10 : xcode 286 10 = some (.ifCond .eq 7, 3) := by decide +kernel
theorem d_286_13 : xcode 286 13 = some (.iload_n 3, 1) := by decide +kernel
theorem d_286_14 : xcode 286 14 = some (.ifCond .ge 5, 3) := by decide +kernel
theorem d_286_17 : xcode 286 17 = some (.iconst (-1), 1) := by decide +kernel
theorem d_286_18 : xcode 286 18 = some (.ireturn, 1) := by decide +kernel
theorem d_286_19 : xcode 286 19 = some (.aload_n 0, 1) := by decide +kernel
theorem d_286_20 : xcode 286 20 = some (.iload_n 1, 1) := by decide +kernel
theorem d_286_21 : xcode 286 21 = some (.iload_n 2, 1) := by decide +kernel
theorem d_286_22 : xcode 286 22 = some (.invokevirtual 336, 3) := by decide +kernel
theorem d_286_25 : xcode 286 25 = some (.aload_n 0, 1) := by decide +kernel
theorem d_286_26 : xcode 286 26 = some (.invokevirtual 339, 3) := by decide +kernel
theorem d_286_29 : xcode 286 29 = some (.iconst 1, 1) := by decide +kernel
theorem d_286_30 : xcode 286 30 = some (.isub, 1) := by decide +kernel
theorem d_286_31 : xcode 286 31 = some (.iload_n 3, 1) := by decide +kernel
theorem d_286_32 : xcode 286 32 = some (.isub, 1) := by decide +kernel
theorem d_286_33 : xcode 286 33 = some (.istore 4, 2) := by decide +kernel
theorem d_286_35 : xcode 286 35 = some (.iload 4, 2) := by decide +kernel
theorem d_286_37 : xcode 286 37 = some (.ifCond .ge 6, 3) := by decide +kernel
theorem d_286_40 : xcode 286 40 = some (.bipush (-2), 2) := by decide +kernel
theorem d_286_42 : xcode 286 42 = some (.ireturn, 1) := by decide +kernel
theorem d_286_43 : xcode 286 43 = some (.aload_n 0, 1) := by decide +kernel
theorem d_286_44 : xcode 286 44 = some (.getfield 63, 3) := by decide +kernel
theorem d_286_47 : xcode 286 47 = some (.iload 4, 2) := by decide +kernel
theorem d_286_49 : xcode 286 49 = some (.bipush 9, 2) := by decide +kernel
theorem d_286_51 : xcode 286 51 = some (.idiv, 1) := by decide +kernel
theorem d_286_52 : xcode 286 52 = some (.laload, 1) := by decide +kernel
theorem d_286_53 : xcode 286 53 = some (.lstore 5, 2) := by decide +kernel
theorem d_286_55 : xcode 286 55 = some (.iconst 0, 1) := by decide +kernel
theorem d_286_56 : xcode 286 56 = some (.istore 7, 2) := by decide +kernel
theorem d_286_58 : xcode 286 58 = some (.iload 7, 2) := by decide +kernel
theorem d_286_60 : xcode 286 60 = some (.iload 4, 2) := by decide +kernel
theorem d_286_62 : xcode 286 62 = some (.bipush 9, 2) := by decide +kernel
theorem d_286_64 : xcode 286 64 = some (.irem, 1) := by decide +kernel
theorem d_286_65 : xcode 286 65 = some (.if_icmp .ge 17, 3) := by decide +kernel
theorem d_286_68 : xcode 286 68 = some (.lload 5, 2) := by decide +kernel
theorem d_286_70 : xcode 286 70 = some (.ldc2_w 331, 3) := by decide +kernel
theorem d_286_73 : xcode 286 73 = some (.ldiv, 1) := by decide +kernel
theorem d_286_74 : xcode 286 74 = some (.lstore 5, 2) := by decide +kernel
theorem d_286_76 : xcode 286 76 = some (.iinc 7 1, 3) := by decide +kernel
theorem d_286_79 : xcode 286 79 = some (.goto (-21), 3) := by decide +kernel
theorem d_286_82 : xcode 286 82 = some (.lload 5, 2) := by decide +kernel
theorem d_286_84 : xcode 286 84 = some (.ldc2_w 331, 3) := by decide +kernel
theorem d_286_87 : xcode 286 87 = some (.lrem, 1) := by decide +kernel
theorem d_286_88 : xcode 286 88 = some (.l2i, 1) := by decide +kernel
theorem d_286_89 : xcode 286 89 = some (.ireturn, 1) := by decide +kernel
theorem d_287_0 : xcode 287 0 = some (.aload_n 0, 1) := by decide +kernel
theorem d_287_1 : xcode 287 1 = some (.iconst 0, 1) := by decide +kernel
theorem d_287_2 : xcode 287 2 = some (.putfield 118, 3) := by decide +kernel
theorem d_287_5 : xcode 287 5 = some (.iload_n 1, 1) := by decide +kernel
theorem d_287_6 : xcode 287 6 = some (.iconst 1, 1) := by decide +kernel
theorem d_287_7 : xcode 287 7 = some (.bipush 15, 2) := by decide +kernel
theorem d_287_9 : xcode 287 9 = some (.invokestatic 137, 3) := by decide +kernel
theorem d_287_12 : xcode 287 12 = some (.ifCond .eq 31, 3) := by decide +kernel
theorem d_287_15 : xcode 287 15 = some (.iload_n 1, 1) := by decide +kernel
theorem d_287_16 : xcode 287 16 = some (.iconst 2, 1) := by decide +kernel
theorem d_287_17 : xcode 287 17 = some (.irem, 1) := by decide +kernel
theorem d_287_18 : xcode 287 18 = some (.ifCond .eq 25, 3) := by decide +kernel
theorem d_287_21 : xcode 287 21 = some (.iload_n 2, 1) := by decide +kernel
theorem d_287_22 : xcode 287 22 = some (.iconst 1, 1) := by decide +kernel
theorem d_287_23 : xcode 287 23 = some (.iload_n 1, 1) := by decide +kernel
theorem d_287_24 : xcode 287 24 = some (.iconst 1, 1) := by decide +kernel
theorem d_287_25 : xcode 287 25 = some (.iadd, 1) := by decide +kernel
theorem d_287_26 : xcode 287 26 = some (.iconst 2, 1) := by decide +kernel
theorem d_287_27 : xcode 287 27 = some (.idiv, 1) := by decide +kernel
theorem d_287_28 : xcode 287 28 = some (.invokestatic 137, 3) := by decide +kernel
theorem d_287_31 : xcode 287 31 = some (.ifCond .eq 12, 3) := by decide +kernel
theorem d_287_34 : xcode 287 34 = some (.iload_n 3, 1) := by decide +kernel
theorem d_287_35 : xcode 287 35 = some (.iconst 0, 1) := by decide +kernel
theorem d_287_36 : xcode 287 36 = some (.iconst 1, 1) := by decide +kernel
theorem d_287_37 : xcode 287 37 = some (.invokestatic 137, 3) := by decide +kernel
theorem d_287_40 : xcode 287 40 = some (.ifCond .ne 7, 3) := by decide +kernel
theorem d_287_43 : xcode 287 43 = some (.ldc2_w 166, 3) := by decide +kernel
theorem d_287_46 : xcode 287 46 = some (.lreturn, 1) := by decide +kernel
theorem d_287_47 : xcode 287 47 = some (.iload_n 1, 1) := by decide +kernel
theorem d_287_48 : xcode 287 48 = some (.aload_n 0, 1) := by decide +kernel
theorem d_287_49 : xcode 287 49 = some (.getfield 20, 3) := by decide +kernel
theorem d_287_52 : xcode 287 52 = some (.if_icmp .le 7, 3) := by decide +kernel
theorem d_287_55 : xcode 287 55 = some (.ldc2_w 297, 3) := by decide +kernel
theorem d_287_58 : xcode 287 58 = some (.lreturn, 1) := by decide +kernel
theorem d_287_59 : xcode 287 59 = some (.aload_n 0, 1) := by decide +kernel
theorem d_287_60 : xcode 287 60 = some (.iload_n 1, 1) := by decide +kernel
theorem d_287_61 : xcode 287 61 = some (.invokevirtual 346, 3) := by decide +kernel
theorem d_287_64 : xcode 287 64 = some (.ifCond .ne 7, 3) := by decide +kernel
theorem d_287_67 : xcode 287 67 = some (.ldc2_w 349, 3) := by decide +kernel
theorem d_287_70 : xcode 287 70 = some (.lreturn, 1) := by decide +kernel
theorem d_287_71 : xcode 287 71 = some (.iload_n 3, 1) := by decide +kernel
theorem d_287_72 : xcode 287 72 = some (.ifCond .ne 12, 3) := by decide +kernel
theorem d_287_75 : xcode 287 75 = some (.aload_n 0, 1) := by decide +kernel
theorem d_287_76 : xcode 287 76 = some (.getfield 75, 3) := by decide +kernel
theorem d_287_79 : xcode 287 79 = some (.iload_n 2, 1) := by decide +kernel
theorem d_287_80 : xcode 287 80 = some (.laload, 1) := by decide +kernel
theorem d_287_81 : xcode 287 81 = some (.goto 9, 3) := by decide +kernel
theorem d_287_84 : xcode 287 84 = some (.aload_n 0, 1) := by decide +kernel
theorem d_287_85 : xcode 287 85 = some (.getfield 78, 3) := by decide +kernel
theorem d_287_88 : xcode 287 88 = some (.iload_n 2, 1) := by decide +kernel
theorem d_287_89 : xcode 287 89 = some (.laload, 1) := by decide +kernel
theorem d_287_90 : xcode 287 90 = some (.lreturn, 1) := by decide +kernel
theorem d_288_0 : xcode 288 0 = some (.aload_n 0, 1) := by decide +kernel
theorem d_288_1 : xcode 288 1 = some (.iload_n 1, 1) := by decide +kernel
theorem d_288_2 : xcode 288 2 = some (.invokevirtual 299, 3) := by decide +kernel
theorem d_288_5 : xcode 288 5 = some (.iload_n 1, 1) := by decide +kernel
theorem d_288_6 : xcode 288 6 = some (.iconst 1, 1) := by decide +kernel
theorem d_288_7 : xcode 288 7 = some (.iadd, 1) := by decide +kernel
theorem d_288_8 : xcode 288 8 = some (.iconst 2, 1) := by decide +kernel
theorem d_288_9 : xcode 288 9 = some (.idiv, 1) := by decide +kernel
theorem d_288_10 : xcode 288 10 = some (.istore_n 2, 1) := by decide +kernel
theorem d_288_11 : xcode 288 11 = some (.iload_n 2, 1) := by decide +kernel
theorem d_288_12 : xcode 288 12 = some (.ifCond .le 140, 3) := by decide +kernel
theorem d_288_15 : xcode 288 15 = some (.lconst 1, 1) := by decide +kernel
theorem d_288_16 : xcode 288 16 = some (.iload_n 2, 1) := by decide +kernel
theorem d_288_17 : xcode 288 17 = some (.lshl, 1) := by decide +kernel
theorem d_288_18 : xcode 288 18 = some (.lstore_n 3, 1) := by decide +kernel
theorem d_288_19 : xcode 288 19 = some (.lload_n 3, 1) := by decide +kernel
theorem d_288_20 : xcode 288 20 = some (.aload_n 0, 1) := by decide +kernel
theorem d_288_21 : xcode 288 21 = some (.getfield 60, 3) := by decide +kernel
theorem d_288_24 : xcode 288 24 = some (.iconst 2, 1) := by decide +kernel
theorem d_288_25 : xcode 288 25 = some (.iload_n 2, 1) := by decide +kernel
theorem d_288_26 : xcode 288 26 = some (.imul, 1) := by decide +kernel
theorem d_288_27 : xcode 288 27 = some (.laload, 1) := by decide +kernel
theorem d_288_28 : xcode 288 28 = some (.invokestatic 121, 3) := by decide +kernel
theorem d_288_31 : xcode 288 31 = some (.lstore 5, 2) := by decide +kernel
theorem d_288_33 : xcode 288 33 = some (.aload_n 0, 1) := by decide +kernel
theorem d_288_34 : xcode 288 34 = some (.getfield 75, 3) := by decide +kernel
theorem d_288_37 : xcode 288 37 = some (.iload_n 2, 1) := by decide +kernel
theorem d_288_38 : xcode 288 38 = some (.aload_n 0, 1) := by decide +kernel
theorem d_288_39 : xcode 288 39 = some (.getfield 57, 3) := by decide +kernel
theorem d_288_42 : xcode 288 42 = some (.iconst 2, 1) := by decide +kernel
theorem d_288_43 : xcode 288 43 = some (.iload_n 2, 1) := by decide +kernel
theorem d_288_44 : xcode 288 44 = some (.imul, 1) := by decide +kernel
theorem d_288_45 : xcode 288 45 = some (.laload, 1) := by decide +kernel
theorem d_288_46 : xcode 288 46 = some (.lload_n 3, 1) := by decide +kernel
theorem d_288_47 : xcode 288 47 = some (.lload 5, 2) := by decide +kernel
theorem d_288_49 : xcode 288 49 = some (.ldiv, 1) := by decide +kernel
theorem d_288_50 : xcode 288 50 = some (.lmul, 1) := by decide +kernel
theorem d_288_51 : xcode 288 51 = some (.lastore, 1) := by decide +kernel
theorem d_288_52 : xcode 288 52 = some (.aload_n 0, 1) := by decide +kernel
theorem d_288_53 : xcode 288 53 = some (.getfield 78, 3) := by decide +kernel
theorem d_288_56 : xcode 288 56 = some (.iload_n 2, 1) := by decide +kernel
theorem d_288_57 : xcode 288 57 = some (.aload_n 0, 1) := by decide +kernel
theorem d_288_58 : xcode 288 58 = some (.getfield 60, 3) := by decide +kernel
theorem d_288_61 : xcode 288 61 = some (.iconst 2, 1) := by decide +kernel
theorem d_288_62 : xcode 288 62 = some (.iload_n 2, 1) := by decide +kernel
theorem d_288_63 : xcode 288 63 = some (.imul, 1) := by decide +kernel
theorem d_288_64 : xcode 288 64 = some (.laload, 1) := by decide +kernel
theorem d_288_65 : xcode 288 65 = some (.lload 5, 2) := by decide +kernel
theorem d_288_67 : xcode 288 67 = some (.ldiv, 1) := by decide +kernel
theorem d_288_68 : xcode 288 68 = some (.lastore, 1) := by decide +kernel
theorem d_288_69 : xcode 288 69 = some (.iconst 0, 1) := by decide +kernel
theorem d_288_70 : xcode 288 70 = some (.istore 7, 2) := by decide +kernel
theorem d_288_72 : xcode 288 72 = some (.iload 7, 2) := by decide +kernel
theorem d_288_74 : xcode 288 74 = some (.iload_n 2, 1) := by decide +kernel
theorem d_288_75 : xcode 288 75 = some (.if_icmp .gt 71, 3) := by decide +kernel
theorem d_288_78 : xcode 288 78 = some (.aload_n 0, 1) := by decide +kernel
theorem d_288_79 : xcode 288 79 = some (.getfield 24, 3) := by decide +kernel
theorem d_288_82 : xcode 288 82 = some (.bipush 40, 2) := by decide +kernel
theorem d_288_84 : xcode 288 84 = some (.iload_n 2, 1) := by decide +kernel
theorem d_288_85 : xcode 288 85 = some (.imul, 1) := by decide +kernel
theorem d_288_86 : xcode 288 86 = some (.iload 7, 2) := by decide +kernel
theorem d_288_88 : xcode 288 88 = some (.iadd, 1) := by decide +kernel
theorem d_288_89 : xcode 288 89 = some (.laload, 1) := by decide +kernel
theorem d_288_90 : xcode 288 90 = some (.lstore 8, 2) := by decide +kernel
theorem d_288_92 : xcode 288 92 = some (.aload_n 0, 1) := by decide +kernel
theorem d_288_93 : xcode 288 93 = some (.getfield 75, 3) := by decide +kernel
theorem d_288_96 : xcode 288 96 = some (.iload_n 2, 1) := by decide +kernel
theorem d_288_97 : xcode 288 97 = some (.laload, 1) := by decide +kernel
theorem d_288_98 : xcode 288 98 = some (.lload 8, 2) := by decide +kernel
theorem d_288_100 : xcode 288 100 = some (.lmul, 1) := by decide +kernel
theorem d_288_101 : xcode 288 101 = some (.lstore 10, 2) := by decide +kernel
theorem d_288_103 : xcode 288 103 = some (.aload_n 0, 1) := by decide +kernel
theorem d_288_104 : xcode 288 104 = some (.getfield 78, 3) := by decide +kernel
theorem d_288_107 : xcode 288 107 = some (.iload_n 2, 1) := by decide +kernel
theorem d_288_108 : xcode 288 108 = some (.laload, 1) := by decide +kernel
theorem d_288_109 : xcode 288 109 = some (.lload_n 3, 1) := by decide +kernel
theorem d_288_110 : xcode 288 110 = some (.lmul, 1) := by decide +kernel
theorem d_288_111 : xcode 288 111 = some (.lstore 12, 2) := by decide +kernel
theorem d_288_113 : xcode 288 113 = some (.lload 10, 2) := by decide +kernel
theorem d_288_115 : xcode 288 115 = some (.lload 12, 2) := by decide +kernel
theorem d_288_117 : xcode 288 117 = some (.invokestatic 121, 3) := by decide +kernel
theorem d_288_120 : xcode 288 120 = some (.lstore 14, 2) := by decide +kernel
theorem d_288_122 : xcode 288 122 = some (.aload_n 0, 1) := by decide +kernel
theorem d_288_123 : xcode 288 123 = some (.iload_n 2, 1) := by decide +kernel
theorem d_288_124 : xcode 288 124 = some (.iload 7, 2) := by decide +kernel
theorem d_288_126 : xcode 288 126 = some (.iadd, 1) := by decide +kernel
theorem d_288_127 : xcode 288 127 = some (.lload 10, 2) := by decide +kernel
theorem d_288_129 : xcode 288 129 = some (.lload 14, 2) := by decide +kernel
theorem d_288_131 : xcode 288 131 = some (.ldiv, 1) := by decide +kernel
theorem d_288_132 : xcode 288 132 = some (.lload 12, 2) := by decide +kernel
theorem d_288_134 : xcode 288 134 = some (.lload 14, 2) := by decide +kernel
theorem d_288_136 : xcode 288 136 = some (.ldiv, 1) := by decide +kernel
theorem d_288_137 : xcode 288 137 = some (.invokevirtual 343, 3) := by decide +kernel
theorem d_288_140 : xcode 288 140 = some (.iinc 7 1, 3) := by decide +kernel
theorem d_288_143 : xcode 288 143 = some (.goto (-71), 3) := by decide +kernel
theorem d_288_146 : xcode 288 146 = some (.iinc 2 (-1), 3) := by decide +kernel
theorem d_288_149 : xcode 288 149 = some (.goto (-138), 3) := by decide +kernel
theorem d_288_152 : xcode 288 152 = some (.iconst 0, 1) := by decide +kernel
theorem d_288_153 : xcode 288 153 = some (.istore_n 2, 1) := by decide +kernel
theorem d_288_154 : xcode 288 154 = some (.iload_n 2, 1) := by decide +kernel
theorem d_288_155 : xcode 288 155 = some (.iload_n 1, 1) := by decide +kernel
theorem d_288_156 : xcode 288 156 = some (.iconst 1, 1) := by decide +kernel
theorem d_288_157 : xcode 288 157 = some (.iadd, 1) := by decide +kernel
theorem d_288_158 : xcode 288 158 = some (.if_icmp .gt 22, 3) := by decide +kernel
theorem d_288_161 : xcode 288 161 = some (.aload_n 0, 1) := by decide +kernel
theorem d_288_162 : xcode 288 162 = some (.getfield 57, 3) := by decide +kernel
theorem d_288_165 : xcode 288 165 = some (.iload_n 2, 1) := by decide +kernel
theorem d_288_166 : xcode 288 166 = some (.laload, 1) := by decide +kernel
theorem d_288_167 : xcode 288 167 = some (.lconst 0, 1) := by decide +kernel
theorem d_288_168 : xcode 288 168 = some (.lcmp, 1) := by decide +kernel
theorem d_288_169 : xcode 288 169 = some (.ifCond .eq 5, 3) := by decide +kernel
theorem d_288_172 : xcode 288 172 = some (.iconst 0, 1) := by decide +kernel
theorem d_288_173 : xcode 288 173 = some (.ireturn, 1) := by decide +kernel
theorem d_288_174 : xcode 288 174 = some (.iinc 2 1, 3) := by decide +kernel
theorem d_288_177 : xcode 288 177 = some (.goto (-23), 3) := by decide +kernel
theorem d_288_180 : xcode 288 180 = some (.iconst 1, 1) := by decide +kernel
theorem d_288_181 : xcode 288 181 = some (.ireturn, 1) := by decide +kernel
theorem d_289_0 : xcode 289 0 = some (.aload_n 0, 1) := by decide +kernel
theorem d_289_1 : xcode 289 1 = some (.getfield 60, 3) := by decide +kernel
theorem d_289_4 : xcode 289 4 = some (.iload_n 1, 1) := by decide +kernel
theorem d_289_5 : xcode 289 5 = some (.laload, 1) := by decide +kernel
theorem d_289_6 : xcode 289 6 = some (.lload 4, 2) := by decide +kernel
theorem d_289_8 : xcode 289 8 = some (.invokestatic 121, 3) := by decide +kernel
theorem d_289_11 : xcode 289 11 = some (.lstore 6, 2) := by decide +kernel
theorem d_289_13 : xcode 289 13 = some (.aload_n 0, 1) := by decide +kernel
theorem d_289_14 : xcode 289 14 = some (.iload_n 1, 1) := by decide +kernel
theorem d_289_15 : xcode 289 15 = some (.aload_n 0, 1) := by decide +kernel
theorem d_289_16 : xcode 289 16 = some (.getfield 57, 3) := by decide +kernel
theorem d_289_19 : xcode 289 19 = some (.iload_n 1, 1) := by decide +kernel
theorem d_289_20 : xcode 289 20 = some (.laload, 1) := by decide +kernel
theorem d_289_21 : xcode 289 21 = some (.lload 4, 2) := by decide +kernel
theorem d_289_23 : xcode 289 23 = some (.lload 6, 2) := by decide +kernel
theorem d_289_25 : xcode 289 25 = some (.ldiv, 1) := by decide +kernel
theorem d_289_26 : xcode 289 26 = some (.lmul, 1) := by decide +kernel
theorem d_289_27 : xcode 289 27 = some (.lload_n 2, 1) := by decide +kernel
theorem d_289_28 : xcode 289 28 = some (.aload_n 0, 1) := by decide +kernel
theorem d_289_29 : xcode 289 29 = some (.getfield 60, 3) := by decide +kernel
theorem d_289_32 : xcode 289 32 = some (.iload_n 1, 1) := by decide +kernel
theorem d_289_33 : xcode 289 33 = some (.laload, 1) := by decide +kernel
theorem d_289_34 : xcode 289 34 = some (.lload 6, 2) := by decide +kernel
theorem d_289_36 : xcode 289 36 = some (.ldiv, 1) := by decide +kernel
theorem d_289_37 : xcode 289 37 = some (.lmul, 1) := by decide +kernel
theorem d_289_38 : xcode 289 38 = some (.lsub, 1) := by decide +kernel
theorem d_289_39 : xcode 289 39 = some (.aload_n 0, 1) := by decide +kernel
theorem d_289_40 : xcode 289 40 = some (.getfield 60, 3) := by decide +kernel
theorem d_289_43 : xcode 289 43 = some (.iload_n 1, 1) := by decide +kernel
theorem d_289_44 : xcode 289 44 = some (.laload, 1) := by decide +kernel
theorem d_289_45 : xcode 289 45 = some (.lload 6, 2) := by decide +kernel
theorem d_289_47 : xcode 289 47 = some (.ldiv, 1) := by decide +kernel
theorem d_289_48 : xcode 289 48 = some (.lload 4, 2) := by decide +kernel
theorem d_289_50 : xcode 289 50 = some (.lmul, 1) := by decide +kernel
theorem d_289_51 : xcode 289 51 = some (.invokevirtual 293, 3) := by decide +kernel
theorem d_289_54 : xcode 289 54 = some (.return_, 1) := by decide +kernel
theorem d_290_0 : xcode 290 0 = some (.aload_n 0, 1) := by decide +kernel
theorem d_290_1 : xcode 290 1 = some (.iconst 0, 1) := by decide +kernel
theorem d_290_2 : xcode 290 2 = some (.putfield 118, 3) := by decide +kernel
theorem d_290_5 : xcode 290 5 = some (.aload_n 0, 1) := by decide +kernel
theorem d_290_6 : xcode 290 6 = some (.iload_n 1, 1) := by decide +kernel
theorem d_290_7 : xcode 290 7 = some (.invokevirtual 145, 3) := by decide +kernel
theorem d_290_10 : xcode 290 10 = some (.ifCond .eq 31, 3) := by decide +kernel
theorem d_290_13 : xcode 290 13 = some (.iload_n 2, 1) := by decide +kernel
theorem d_290_14 : xcode 290 14 = some (.iconst 0, 1) := by decide +kernel
theorem d_290_15 : xcode 290 15 = some (.iload_n 1, 1) := by decide +kernel
theorem d_290_16 : xcode 290 16 = some (.invokestatic 137, 3) := by decide +kernel
theorem d_290_19 : xcode 290 19 = some (.ifCond .eq 22, 3) := by decide +kernel
theorem d_290_22 : xcode 290 22 = some (.iload_n 3, 1) := by decide +kernel
theorem d_290_23 : xcode 290 23 = some (.iconst 0, 1) := by decide +kernel
theorem d_290_24 : xcode 290 24 = some (.iconst 2, 1) := by decide +kernel
theorem d_290_25 : xcode 290 25 = some (.invokestatic 137, 3) := by decide +kernel
theorem d_290_28 : xcode 290 28 = some (.ifCond .eq 13, 3) := by decide +kernel
theorem d_290_31 : xcode 290 31 = some (.iload_n 1, 1) := by decide +kernel
theorem d_290_32 : xcode 290 32 = some (.iload_n 2, 1) := by decide +kernel
theorem d_290_33 : xcode 290 33 = some (.isub, 1) := by decide +kernel
theorem d_290_34 : xcode 290 34 = some (.aload_n 0, 1) := by decide +kernel
theorem d_290_35 : xcode 290 35 = some (.getfield 20, 3) := by decide +kernel
theorem d_290_38 : xcode 290 38 = some (.if_icmp .le 7, 3) := by decide +kernel
theorem d_290_41 : xcode 290 41 = some (.ldc2_w 166, 3) := by decide +kernel
theorem d_290_44 : xcode 290 44 = some (.lreturn, 1) := by decide +kernel
theorem d_290_45 : xcode 290 45 = some (.iconst 3, 1) := by decide +kernel
theorem d_290_46 : xcode 290 46 = some (.iload_n 1, 1) := by decide +kernel
theorem d_290_47 : xcode 290 47 = some (.iload_n 2, 1) := by decide +kernel
theorem d_290_48 : xcode 290 48 = some (.isub, 1) := by decide +kernel
theorem d_290_49 : xcode 290 49 = some (.imul, 1) := by decide +kernel
theorem d_290_50 : xcode 290 50 = some (.istore 4, 2) := by decide +kernel
theorem d_290_52 : xcode 290 52 = some (.aload_n 0, 1) := by decide +kernel
theorem d_290_53 : xcode 290 53 = some (.getfield 24, 3) := by decide +kernel
theorem d_290_56 : xcode 290 56 = some (.bipush 40, 2) := by decide +kernel
theorem d_290_58 : xcode 290 58 = some (.iload_n 1, 1) := by decide +kernel
theorem d_290_59 : xcode 290 59 = some (.imul, 1) := by decide +kernel
theorem d_290_60 : xcode 290 60 = some (.iload_n 2, 1) := by decide +kernel
theorem d_290_61 : xcode 290 61 = some (.iadd, 1) := by decide +kernel
theorem d_290_62 : xcode 290 62 = some (.laload, 1) := by decide +kernel
theorem d_290_63 : xcode 290 63 = some (.lstore 5, 2) := by decide +kernel
theorem d_290_65 : xcode 290 65 = some (.lload 5, 2) := by decide +kernel
theorem d_290_67 : xcode 290 67 = some (.aload_n 0, 1) := by decide +kernel
theorem d_290_68 : xcode 290 68 = some (.getfield 13, 3) := by decide +kernel
theorem d_290_71 : xcode 290 71 = some (.iload 4, 2) := by decide +kernel
theorem d_290_73 : xcode 290 73 = some (.iconst 1, 1) := by decide +kernel
theorem d_290_74 : xcode 290 74 = some (.iadd, 1) := by decide +kernel
theorem d_290_75 : xcode 290 75 = some (.laload, 1) := by decide +kernel
theorem d_290_76 : xcode 290 76 = some (.lmul, 1) := by decide +kernel
theorem d_290_77 : xcode 290 77 = some (.lstore 7, 2) := by decide +kernel
theorem d_290_79 : xcode 290 79 = some (.aload_n 0, 1) := by decide +kernel
theorem d_290_80 : xcode 290 80 = some (.aload_n 0, 1) := by decide +kernel
theorem d_290_81 : xcode 290 81 = some (.getfield 81, 3) := by decide +kernel
theorem d_290_84 : xcode 290 84 = some (.iconst 0, 1) := by decide +kernel
theorem d_290_85 : xcode 290 85 = some (.lload 5, 2) := by decide +kernel
theorem d_290_87 : xcode 290 87 = some (.aload_n 0, 1) := by decide +kernel
theorem d_290_88 : xcode 290 88 = some (.getfield 13, 3) := by decide +kernel
theorem d_290_91 : xcode 290 91 = some (.iload 4, 2) := by decide +kernel
theorem d_290_93 : xcode 290 93 = some (.laload, 1) := by decide +kernel
theorem d_290_94 : xcode 290 94 = some (.lmul, 1) := by decide +kernel
theorem d_290_95 : xcode 290 95 = some (.lload 7, 2) := by decide +kernel
theorem d_290_97 : xcode 290 97 = some (.aload_n 0, 1) := by decide +kernel
theorem d_290_98 : xcode 290 98 = some (.getfield 13, 3) := by decide +kernel
theorem d_290_101 : xcode 290 101 = some (.iload 4, 2) := by decide +kernel
theorem d_290_103 : xcode 290 103 = some (.iconst 2, 1) := by decide +kernel
theorem d_290_104 : xcode 290 104 = some (.iadd, 1) := by decide +kernel
theorem d_290_105 : xcode 290 105 = some (.laload, 1) := by decide +kernel
theorem d_290_106 : xcode 290 106 = some (.ldiv, 1) := by decide +kernel
theorem d_290_107 : xcode 290 107 = some (.ladd, 1) := by decide +kernel
theorem d_290_108 : xcode 290 108 = some (.lload 7, 2) := by decide +kernel
theorem d_290_110 : xcode 290 110 = some (.aload_n 0, 1) := by decide +kernel
theorem d_290_111 : xcode 290 111 = some (.getfield 13, 3) := by decide +kernel
theorem d_290_114 : xcode 290 114 = some (.iload 4, 2) := by decide +kernel
theorem d_290_116 : xcode 290 116 = some (.iconst 2, 1) := by decide +kernel
theorem d_290_117 : xcode 290 117 = some (.iadd, 1) := by decide +kernel
theorem d_290_118 : xcode 290 118 = some (.laload, 1) := by decide +kernel
theorem d_290_119 : xcode 290 119 = some (.lrem, 1) := by decide +kernel
theorem d_290_120 : xcode 290 120 = some (.aload_n 0, 1) := by decide +kernel
theorem d_290_121 : xcode 290 121 = some (.getfield 13, 3) := by decide +kernel
theorem d_290_124 : xcode 290 124 = some (.iload 4, 2) := by decide +kernel
theorem d_290_126 : xcode 290 126 = some (.iconst 2, 1) := by decide +kernel
theorem d_290_127 : xcode 290 127 = some (.iadd, 1) := by decide +kernel
theorem d_290_128 : xcode 290 128 = some (.laload, 1) := by decide +kernel
theorem d_290_129 : xcode 290 129 = some (.invokevirtual 134, 3) := by decide +kernel
theorem d_290_132 : xcode 290 132 = some (.aload_n 0, 1) := by decide +kernel
theorem d_290_133 : xcode 290 133 = some (.getfield 81, 3) := by decide +kernel
theorem d_290_136 : xcode 290 136 = some (.iload_n 3, 1) := by decide +kernel
theorem d_290_137 : xcode 290 137 = some (.laload, 1) := by decide +kernel
theorem d_290_138 : xcode 290 138 = some (.lreturn, 1) := by decide +kernel
theorem d_291_0 : xcode 291 0 = some (.aload_n 0, 1) := by decide +kernel
theorem d_291_1 : xcode 291 1 = some (.iconst 0, 1) := by decide +kernel
theorem d_291_2 : xcode 291 2 = some (.putfield 118, 3) := by decide +kernel
theorem d_291_5 : xcode 291 5 = some (.iload_n 1, 1) := by decide +kernel
theorem d_291_6 : xcode 291 6 = some (.iconst 0, 1) := by decide +kernel
theorem d_291_7 : xcode 291 7 = some (.bipush 10, 2) := by decide +kernel
theorem d_291_9 : xcode 291 9 = some (.invokestatic 137, 3) := by decide +kernel
theorem d_291_12 : xcode 291 12 = some (.ifCond .eq 42, 3) := by decide +kernel
theorem d_291_15 : xcode 291 15 = some (.iload_n 2, 1) := by decide +kernel
theorem d_291_16 : xcode 291 16 = some (.bipush (-9), 2) := by decide +kernel
theorem d_291_18 : xcode 291 18 = some (.bipush 9, 2) := by decide +kernel
theorem d_291_20 : xcode 291 20 = some (.invokestatic 137, 3) := by decide +kernel
theorem d_291_23 : xcode 291 23 = some (.ifCond .eq 31, 3) := by decide +kernel
theorem d_291_26 : xcode 291 26 = some (.iload_n 3, 1) := by decide +kernel
theorem d_291_27 : xcode 291 27 = some (.iconst 1, 1) := by decide +kernel
theorem d_291_28 : xcode 291 28 = some (.bipush 6, 2) := by decide +kernel
theorem d_291_30 : xcode 291 30 = some (.invokestatic 137, 3) := by decide +kernel
theorem d_291_33 : xcode 291 33 = some (.ifCond .eq 21, 3) := by decide +kernel
theorem d_291_36 : xcode 291 36 = some (.iload 4, 2) := by decide +kernel
theorem d_291_38 : xcode 291 38 = some (.iconst 0, 1) := by decide +kernel
theorem d_291_39 : xcode 291 39 = some (.iconst 2, 1) := by decide +kernel
theorem d_291_40 : xcode 291 40 = some (.invokestatic 137, 3) := by decide +kernel
theorem d_291_43 : xcode 291 43 = some (.ifCond .eq 11, 3) := by decide +kernel
theorem d_291_46 : xcode 291 46 = some (.iload_n 1, 1) := by decide +kernel
theorem d_291_47 : xcode 291 47 = some (.aload_n 0, 1) := by decide +kernel
theorem d_291_48 : xcode 291 48 = some (.getfield 20, 3) := by decide +kernel
theorem d_291_51 : xcode 291 51 = some (.if_icmp .le 7, 3) := by decide +kernel
theorem d_291_54 : xcode 291 54 = some (.ldc2_w 166, 3) := by decide +kernel
theorem d_291_57 : xcode 291 57 = some (.lreturn, 1) := by decide +kernel
theorem d_291_58 : xcode 291 58 = some (.lconst 0, 1) := by decide +kernel
theorem d_291_59 : xcode 291 59 = some (.lstore 5, 2) := by decide +kernel
theorem d_291_61 : xcode 291 61 = some (.iconst 0, 1) := by decide +kernel
theorem d_291_62 : xcode 291 62 = some (.istore 7, 2) := by decide +kernel
theorem d_291_64 : xcode 291 64 = some (.iload 7, 2) := by decide +kernel
theorem d_291_66 : xcode 291 66 = some (.iload_n 1, 1) := by decide +kernel
theorem d_291_67 : xcode 291 67 = some (.if_icmp .gt 94, 3) := by decide +kernel
theorem d_291_70 : xcode 291 70 = some (.iconst 3, 1) := by decide +kernel
theorem d_291_71 : xcode 291 71 = some (.iload_n 1, 1) := by decide +kernel
theorem d_291_72 : xcode 291 72 = some (.iload 7, 2) := by decide +kernel
theorem d_291_74 : xcode 291 74 = some (.isub, 1) := by decide +kernel
theorem d_291_75 : xcode 291 75 = some (.imul, 1) := by decide +kernel
theorem d_291_76 : xcode 291 76 = some (.istore 8, 2) := by decide +kernel
theorem d_291_78 : xcode 291 78 = some (.lload 5, 2) := by decide +kernel
theorem d_291_80 : xcode 291 80 = some (.aload_n 0, 1) := by decide +kernel
theorem d_291_81 : xcode 291 81 = some (.getfield 24, 3) := by decide +kernel
theorem d_291_84 : xcode 291 84 = some (.bipush 40, 2) := by decide +kernel
theorem d_291_86 : xcode 291 86 = some (.iload_n 1, 1) := by decide +kernel
theorem d_291_87 : xcode 291 87 = some (.imul, 1) := by decide +kernel
theorem d_291_88 : xcode 291 88 = some (.iload 7, 2) := by decide +kernel
theorem d_291_90 : xcode 291 90 = some (.iadd, 1) := by decide +kernel
theorem d_291_91 : xcode 291 91 = some (.laload, 1) := by decide +kernel
theorem d_291_92 : xcode 291 92 = some (.aload_n 0, 1) := by decide +kernel
theorem d_291_93 : xcode 291 93 = some (.getfield 13, 3) := by decide +kernel
theorem d_291_96 : xcode 291 96 = some (.iload 8, 2) := by decide +kernel
theorem d_291_98 : xcode 291 98 = some (.laload, 1) := by decide +kernel
theorem d_291_99 : xcode 291 99 = some (.aload_n 0, 1) := by decide +kernel
theorem d_291_100 : xcode 291 100 = some (.getfield 13, 3) := by decide +kernel
theorem d_291_103 : xcode 291 103 = some (.iload 8, 2) := by decide +kernel
theorem d_291_105 : xcode 291 105 = some (.iconst 2, 1) := by decide +kernel
theorem d_291_106 : xcode 291 106 = some (.iadd, 1) := by decide +kernel
theorem d_291_107 : xcode 291 107 = some (.laload, 1) := by decide +kernel
theorem d_291_108 : xcode 291 108 = some (.lmul, 1) := by decide +kernel
theorem d_291_109 : xcode 291 109 = some (.aload_n 0, 1) := by decide +kernel
theorem d_291_110 : xcode 291 110 = some (.getfield 13, 3) := by decide +kernel
theorem d_291_113 : xcode 291 113 = some (.iload 8, 2) := by decide +kernel
theorem d_291_115 : xcode 291 115 = some (.iconst 1, 1) := by decide +kernel
theorem d_291_116 : xcode 291 116 = some (.iadd, 1) := by decide +kernel
theorem d_291_117 : xcode 291 117 = some (.laload, 1) := by decide +kernel
theorem d_291_118 : xcode 291 118 = some (.ladd, 1) := by decide +kernel
theorem d_291_119 : xcode 291 119 = some (.lmul, 1) := by decide +kernel
theorem d_291_120 : xcode 291 120 = some (.ldc2_w 351, 3) := by decide +kernel
theorem d_291_123 : xcode 291 123 = some (.aload_n 0, 1) := by decide +kernel
theorem d_291_124 : xcode 291 124 = some (.getfield 13, 3) := by decide +kernel
theorem d_291_127 : xcode 291 127 = some (.iload 8, 2) := by decide +kernel
theorem d_291_129 : xcode 291 129 = some (.iconst 2, 1) := by decide +kernel
theorem d_291_130 : xcode 291 130 = some (.iadd, 1) := by decide +kernel
theorem d_291_131 : xcode 291 131 = some (.laload, 1) := by decide +kernel
theorem d_291_132 : xcode 291 132 = some (.ldiv, 1) := by decide +kernel
theorem d_291_133 : xcode 291 133 = some (.lmul, 1) := by decide +kernel
theorem d_291_134 : xcode 291 134 = some (.iload_n 2, 1) := by decide +kernel
theorem d_291_135 : xcode 291 135 = some (.i2l, 1) := by decide +kernel
theorem d_291_136 : xcode 291 136 = some (.iload 7, 2) := by decide +kernel
theorem d_291_138 : xcode 291 138 = some (.invokestatic 287, 3) := by decide +kernel
theorem d_291_141 : xcode 291 141 = some (.lmul, 1) := by decide +kernel
theorem d_291_142 : xcode 291 142 = some (.iload_n 3, 1) := by decide +kernel
theorem d_291_143 : xcode 291 143 = some (.i2l, 1) := by decide +kernel
theorem d_291_144 : xcode 291 144 = some (.iload_n 1, 1) := by decide +kernel
theorem d_291_145 : xcode 291 145 = some (.iload 7, 2) := by decide +kernel
theorem d_291_147 : xcode 291 147 = some (.isub, 1) := by decide +kernel
theorem d_291_148 : xcode 291 148 = some (.invokestatic 287, 3) := by decide +kernel
theorem d_291_151 : xcode 291 151 = some (.lmul, 1) := by decide +kernel
theorem d_291_152 : xcode 291 152 = some (.ladd, 1) := by decide +kernel
theorem d_291_153 : xcode 291 153 = some (.lstore 5, 2) := by decide +kernel
theorem d_291_155 : xcode 291 155 = some (.iinc 7 1, 3) := by decide +kernel
theorem d_291_158 : xcode 291 158 = some (.goto (-94), 3) := by decide +kernel
theorem d_291_161 : xcode 291 161 = some (.ldc2_w 351, 3) := by decide +kernel
theorem d_291_164 : xcode 291 164 = some (.iload_n 3, 1) := by decide +kernel
theorem d_291_165 : xcode 291 165 = some (.i2l, 1) := by decide +kernel
theorem d_291_166 : xcode 291 166 = some (.iload_n 1, 1) := by decide +kernel
theorem d_291_167 : xcode 291 167 = some (.invokestatic 287, 3) := by decide +kernel
theorem d_291_170 : xcode 291 170 = some (.lmul, 1) := by decide +kernel
theorem d_291_171 : xcode 291 171 = some (.lstore 7, 2) := by decide +kernel
theorem d_291_173 : xcode 291 173 = some (.lload 5, 2) := by decide +kernel
theorem d_291_175 : xcode 291 175 = some (.lload 7, 2) := by decide +kernel
theorem d_291_177 : xcode 291 177 = some (.invokestatic 131, 3) := by decide +kernel
theorem d_291_180 : xcode 291 180 = some (.lstore 9, 2) := by decide +kernel
theorem d_291_182 : xcode 291 182 = some (.aload_n 0, 1) := by decide +kernel
theorem d_291_183 : xcode 291 183 = some (.aload_n 0, 1) := by decide +kernel
theorem d_291_184 : xcode 291 184 = some (.getfield 81, 3) := by decide +kernel
theorem d_291_187 : xcode 291 187 = some (.iconst 0, 1) := by decide +kernel
theorem d_291_188 : xcode 291 188 = some (.lload 9, 2) := by decide +kernel
theorem d_291_190 : xcode 291 190 = some (.lload 5, 2) := by decide +kernel
theorem d_291_192 : xcode 291 192 = some (.lload 9, 2) := by decide +kernel
theorem d_291_194 : xcode 291 194 = some (.lload 7, 2) := by decide +kernel
theorem d_291_196 : xcode 291 196 = some (.lmul, 1) := by decide +kernel
theorem d_291_197 : xcode 291 197 = some (.lsub, 1) := by decide +kernel
theorem d_291_198 : xcode 291 198 = some (.lload 7, 2) := by decide +kernel
theorem d_291_200 : xcode 291 200 = some (.invokevirtual 134, 3) := by decide +kernel
theorem d_291_203 : xcode 291 203 = some (.aload_n 0, 1) := by decide +kernel
theorem d_291_204 : xcode 291 204 = some (.getfield 81, 3) := by decide +kernel
theorem d_291_207 : xcode 291 207 = some (.iload 4, 2) := by decide +kernel
theorem d_291_209 : xcode 291 209 = some (.laload, 1) := by decide +kernel
theorem d_291_210 : xcode 291 210 = some (.lreturn, 1) := by decide +kernel
theorem d_292_0 : xcode 292 0 = some (.aload_n 0, 1) := by decide +kernel
theorem d_292_1 : xcode 292 1 = some (.iconst 0, 1) := by decide +kernel
theorem d_292_2 : xcode 292 2 = some (.putfield 118, 3) := by decide +kernel
theorem d_292_5 : xcode 292 5 = some (.aload_n 0, 1) := by decide +kernel
theorem d_292_6 : xcode 292 6 = some (.iload_n 1, 1) := by decide +kernel
theorem d_292_7 : xcode 292 7 = some (.invokevirtual 145, 3) := by decide +kernel
theorem d_292_10 : xcode 292 10 = some (.ifCond .eq 22, 3) := by decide +kernel
theorem d_292_13 : xcode 292 13 = some (.aload_n 0, 1) := by decide +kernel
theorem d_292_14 : xcode 292 14 = some (.iload_n 3, 1) := by decide +kernel
theorem d_292_15 : xcode 292 15 = some (.invokevirtual 185, 3) := by decide +kernel
theorem d_292_18 : xcode 292 18 = some (.ifCond .eq 14, 3) := by decide +kernel
theorem d_292_21 : xcode 292 21 = some (.iload_n 2, 1) := by decide +kernel
theorem d_292_22 : xcode 292 22 = some (.iconst 0, 1) := by decide +kernel
theorem d_292_23 : xcode 292 23 = some (.iload_n 3, 1) := by decide +kernel
theorem d_292_24 : xcode 292 24 = some (.iconst 1, 1) := by decide +kernel
theorem d_292_25 : xcode 292 25 = some (.isub, 1) := by decide +kernel
theorem d_292_26 : xcode 292 26 = some (.invokestatic 137, 3) := by decide +kernel
theorem d_292_29 : xcode 292 29 = some (.ifCond .ne 5, 3) := by decide +kernel
theorem d_292_32 : xcode 292 32 = some (.iconst (-1), 1) := by decide +kernel
theorem d_292_33 : xcode 292 33 = some (.ireturn, 1) := by decide +kernel
theorem d_292_34 : xcode 292 34 = some (.aload_n 0, 1) := by decide +kernel
theorem d_292_35 : xcode 292 35 = some (.iload_n 1, 1) := by decide +kernel
theorem d_292_36 : xcode 292 36 = some (.iload_n 3, 1) := by decide +kernel
theorem d_292_37 : xcode 292 37 = some (.invokevirtual 353, 3) := by decide +kernel
theorem d_292_40 : xcode 292 40 = some (.istore 4, 2) := by decide +kernel
theorem d_292_42 : xcode 292 42 = some (.iload 4, 2) := by decide +kernel
theorem d_292_44 : xcode 292 44 = some (.ifCond .ge 8, 3) := by decide +kernel
theorem d_292_47 : xcode 292 47 = some (.iload 4, 2) := by decide +kernel
theorem d_292_49 : xcode 292 49 = some (.goto 10, 3) := by decide +kernel
theorem d_292_52 : xcode 292 52 = some (.aload_n 0, 1) := by decide +kernel
theorem d_292_53 : xcode 292 53 = some (.iload_n 1, 1) := by decide +kernel
theorem d_292_54 : xcode 292 54 = some (.iload_n 2, 1) := by decide +kernel
theorem d_292_55 : xcode 292 55 = some (.iload_n 3, 1) := by decide +kernel
theorem d_292_56 : xcode 292 56 = some (.invokevirtual 356, 3) := by decide +kernel
theorem d_292_59 : xcode 292 59 = some (.ireturn, 1) := by decide +kernel
theorem d_293_0 : xcode 293 0 = some (.iload_n 1, 1) := by decide +kernel
theorem d_293_1 : xcode 293 1 = some (.aload_n 0, 1) := by decide +kernel
theorem d_293_2 : xcode 293 2 = some (.getfield 20, 3) := by decide +kernel
theorem d_293_5 : xcode 293 5 = some (.if_icmp .le 6, 3) := by decide +kernel
theorem d_293_8 : xcode 293 8 = some (.bipush (-2), 2) := by decide +kernel
theorem d_293_10 : xcode 293 10 = some (.ireturn, 1) := by decide +kernel
theorem d_293_11 : xcode 293 11 = some (.iconst 0, 1) := by decide +kernel
theorem d_293_12 : xcode 293 12 = some (.istore_n 3, 1) := by decide +kernel
theorem d_293_13 : xcode 293 13 = some (.iload_n 3, 1) := by decide +kernel
theorem d_293_14 : xcode 293 14 = some (.iload_n 1, 1) := by decide +kernel
theorem d_293_15 : xcode 293 15 = some (.if_icmp .gt 61, 3) := by decide +kernel
theorem d_293_18 : xcode 293 18 = some (.aload_n 0, 1) := by decide +kernel
theorem d_293_19 : xcode 293 19 = some (.aload_n 0, 1) := by decide +kernel
theorem d_293_20 : xcode 293 20 = some (.getfield 13, 3) := by decide +kernel
theorem d_293_23 : xcode 293 23 = some (.iload_n 1, 1) := by decide +kernel
theorem d_293_24 : xcode 293 24 = some (.iload_n 3, 1) := by decide +kernel
theorem d_293_25 : xcode 293 25 = some (.isub, 1) := by decide +kernel
theorem d_293_26 : xcode 293 26 = some (.iload_n 2, 1) := by decide +kernel
theorem d_293_27 : xcode 293 27 = some (.invokevirtual 188, 3) := by decide +kernel
theorem d_293_30 : xcode 293 30 = some (.istore 4, 2) := by decide +kernel
theorem d_293_32 : xcode 293 32 = some (.iload 4, 2) := by decide +kernel
theorem d_293_34 : xcode 293 34 = some (.ifCond .ge 6, 3) := by decide +kernel
theorem d_293_37 : xcode 293 37 = some (.bipush (-3), 2) := by decide +kernel
theorem d_293_39 : xcode 293 39 = some (.ireturn, 1) := by decide +kernel
theorem d_293_40 : xcode 293 40 = some (.aload_n 0, 1) := by decide +kernel
theorem d_293_41 : xcode 293 41 = some (.getfield 84, 3) := by decide +kernel
theorem d_293_44 : xcode 293 44 = some (.iload_n 3, 1) := by decide +kernel
theorem d_293_45 : xcode 293 45 = some (.iload 4, 2) := by decide +kernel
theorem d_293_47 : xcode 293 47 = some (.i2l, 1) := by decide +kernel
theorem d_293_48 : xcode 293 48 = some (.aload_n 0, 1) := by decide +kernel
theorem d_293_49 : xcode 293 49 = some (.getfield 24, 3) := by decide +kernel
theorem d_293_52 : xcode 293 52 = some (.bipush 40, 2) := by decide +kernel
theorem d_293_54 : xcode 293 54 = some (.iload_n 1, 1) := by decide +kernel
theorem d_293_55 : xcode 293 55 = some (.imul, 1) := by decide +kernel
theorem d_293_56 : xcode 293 56 = some (.iload_n 3, 1) := by decide +kernel
theorem d_293_57 : xcode 293 57 = some (.iadd, 1) := by decide +kernel
theorem d_293_58 : xcode 293 58 = some (.laload, 1) := by decide +kernel
theorem d_293_59 : xcode 293 59 = some (.iload_n 2, 1) := by decide +kernel
theorem d_293_60 : xcode 293 60 = some (.invokestatic 170, 3) := by decide +kernel
theorem d_293_63 : xcode 293 63 = some (.i2l, 1) := by decide +kernel
theorem d_293_64 : xcode 293 64 = some (.lmul, 1) := by decide +kernel
theorem d_293_65 : xcode 293 65 = some (.iload_n 2, 1) := by decide +kernel
theorem d_293_66 : xcode 293 66 = some (.invokestatic 170, 3) := by decide +kernel
theorem d_293_69 : xcode 293 69 = some (.iastore, 1) := by decide +kernel
theorem d_293_70 : xcode 293 70 = some (.iinc 3 1, 3) := by decide +kernel
theorem d_293_73 : xcode 293 73 = some (.goto (-60), 3) := by decide +kernel
theorem d_293_76 : xcode 293 76 = some (.iconst 0, 1) := by decide +kernel
theorem d_293_77 : xcode 293 77 = some (.ireturn, 1) := by decide +kernel
theorem d_294_0 : xcode 294 0 = some (.iconst 0, 1) := by decide +kernel
theorem d_294_1 : xcode 294 1 = some (.istore 4, 2) := by decide +kernel
theorem d_294_3 : xcode 294 3 = some (.iload_n 1, 1) := by decide +kernel
theorem d_294_4 : xcode 294 4 = some (.istore 5, 2) := by decide +kernel
theorem d_294_6 : xcode 294 6 = some (.iload 5, 2) := by decide +kernel
theorem d_294_8 : xcode 294 8 = some (.ifCond .lt 25, 3) := by decide +kernel
theorem d_294_11 : xcode 294 11 = some (.iload 4, 2) := by decide +kernel
theorem d_294_13 : xcode 294 13 = some (.iload_n 2, 1) := by decide +kernel
theorem d_294_14 : xcode 294 14 = some (.imul, 1) := by decide +kernel
theorem d_294_15 : xcode 294 15 = some (.aload_n 0, 1) := by decide +kernel
theorem d_294_16 : xcode 294 16 = some (.getfield 84, 3) := by decide +kernel
theorem d_294_19 : xcode 294 19 = some (.iload 5, 2) := by decide +kernel
theorem d_294_21 : xcode 294 21 = some (.iaload, 1) := by decide +kernel
theorem d_294_22 : xcode 294 22 = some (.iadd, 1) := by decide +kernel
theorem d_294_23 : xcode 294 23 = some (.iload_n 3, 1) := by decide +kernel
theorem d_294_24 : xcode 294 24 = some (.irem, 1) := by decide +kernel
theorem d_294_25 : xcode 294 25 = some (.istore 4, 2) := by decide +kernel
theorem d_294_27 : xcode 294 27 = some (.iinc 5 (-1), 3) := by decide +kernel
theorem d_294_30 : xcode 294 30 = some (.goto (-24), 3) := by decide +kernel
theorem d_294_33 : xcode 294 33 = some (.iload 4, 2) := by decide +kernel
theorem d_294_35 : xcode 294 35 = some (.ireturn, 1) := by decide +kernel
theorem d_295_0 : xcode 295 0 = some (.aload_n 0, 1) := by decide +kernel
theorem d_295_1 : xcode 295 1 = some (.iconst 0, 1) := by decide +kernel
theorem d_295_2 : xcode 295 2 = some (.putfield 118, 3) := by decide +kernel
theorem d_295_5 : xcode 295 5 = some (.aload_n 0, 1) := by decide +kernel
theorem d_295_6 : xcode 295 6 = some (.iload_n 1, 1) := by decide +kernel
theorem d_295_7 : xcode 295 7 = some (.invokevirtual 145, 3) := by decide +kernel
theorem d_295_10 : xcode 295 10 = some (.ifCond .eq 11, 3) := by decide +kernel
theorem d_295_13 : xcode 295 13 = some (.aload_n 0, 1) := by decide +kernel
theorem d_295_14 : xcode 295 14 = some (.iload_n 2, 1) := by decide +kernel
theorem d_295_15 : xcode 295 15 = some (.invokevirtual 185, 3) := by decide +kernel
theorem d_295_18 : xcode 295 18 = some (.ifCond .ne 5, 3) := by decide +kernel
theorem d_295_21 : xcode 295 21 = some (.iconst (-1), 1) := by decide +kernel
theorem d_295_22 : xcode 295 22 = some (.ireturn, 1) := by decide +kernel
theorem d_295_23 : xcode 295 23 = some (.aload_n 0, 1) := by decide +kernel
theorem d_295_24 : xcode 295 24 = some (.iload_n 1, 1) := by decide +kernel
theorem d_295_25 : xcode 295 25 = some (.iload_n 2, 1) := by decide +kernel
theorem d_295_26 : xcode 295 26 = some (.invokevirtual 353, 3) := by decide +kernel
theorem d_295_29 : xcode 295 29 = some (.istore_n 3, 1) := by decide +kernel
theorem d_295_30 : xcode 295 30 = some (.iload_n 3, 1) := by decide +kernel
theorem d_295_31 : xcode 295 31 = some (.ifCond .ge 5, 3) := by decide +kernel
theorem d_295_34 : xcode 295 34 = some (.iload_n 3, 1) := by decide +kernel
theorem d_295_35 : xcode 295 35 = some (.ireturn, 1) := by decide +kernel
theorem d_295_36 : xcode 295 36 = some (.iconst 0, 1) := by decide +kernel
theorem d_295_37 : xcode 295 37 = some (.istore 4, 2) := by decide +kernel
theorem d_295_39 : xcode 295 39 = some (.iconst 0, 1) := by decide +kernel
theorem d_295_40 : xcode 295 40 = some (.istore 5, 2) := by decide +kernel
theorem d_295_42 : xcode 295 42 = some (.iload 5, 2) := by decide +kernel
theorem d_295_44 : xcode 295 44 = some (.iload_n 2, 1) := by decide +kernel
theorem d_295_45 : xcode 295 45 = some (.if_icmp .ge 30, 3) := by decide +kernel
theorem d_295_48 : xcode 295 48 = some (.iload 4, 2) := by decide +kernel
theorem d_295_50 : xcode 295 50 = some (.aload_n 0, 1) := by decide +kernel
theorem d_295_51 : xcode 295 51 = some (.iload_n 1, 1) := by decide +kernel
theorem d_295_52 : xcode 295 52 = some (.iload 5, 2) := by decide +kernel
theorem d_295_54 : xcode 295 54 = some (.iload_n 2, 1) := by decide +kernel
theorem d_295_55 : xcode 295 55 = some (.invokevirtual 356, 3) := by decide +kernel
theorem d_295_58 : xcode 295 58 = some (.ifCond .ne 7, 3) := by decide +kernel
theorem d_295_61 : xcode 295 61 = some (.iconst 1, 1) := by decide +kernel
theorem d_295_62 : xcode 295 62 = some (.goto 4, 3) := by decide +kernel
theorem d_295_65 : xcode 295 65 = some (.iconst 0, 1) := by decide +kernel
theorem d_295_66 : xcode 295 66 = some (.iadd, 1) := by decide +kernel
theorem d_295_67 : xcode 295 67 = some (.istore 4, 2) := by decide +kernel
theorem d_295_69 : xcode 295 69 = some (.iinc 5 1, 3) := by decide +kernel
theorem d_295_72 : xcode 295 72 = some (.goto (-30), 3) := by decide +kernel
theorem d_295_75 : xcode 295 75 = some (.iload 4, 2) := by decide +kernel
theorem d_295_77 : xcode 295 77 = some (.ireturn, 1) := by decide +kernel
theorem d_296_0 : xcode 296 0 = some (.aload_n 0, 1) := by decide +kernel
theorem d_296_1 : xcode 296 1 = some (.iconst 0, 1) := by decide +kernel
theorem d_296_2 : xcode 296 2 = some (.putfield 118, 3) := by decide +kernel
theorem d_296_5 : xcode 296 5 = some (.iload_n 1, 1) := by decide +kernel
theorem d_296_6 : xcode 296 6 = some (.iconst 0, 1) := by decide +kernel
theorem d_296_7 : xcode 296 7 = some (.bipush 37, 2) := by decide +kernel
theorem d_296_9 : xcode 296 9 = some (.invokestatic 137, 3) := by decide +kernel
theorem d_296_12 : xcode 296 12 = some (.ifCond .eq 22, 3) := by decide +kernel
theorem d_296_15 : xcode 296 15 = some (.iload_n 2, 1) := by decide +kernel
theorem d_296_16 : xcode 296 16 = some (.iconst 0, 1) := by decide +kernel
theorem d_296_17 : xcode 296 17 = some (.iconst 2, 1) := by decide +kernel
theorem d_296_18 : xcode 296 18 = some (.invokestatic 137, 3) := by decide +kernel
theorem d_296_21 : xcode 296 21 = some (.ifCond .eq 13, 3) := by decide +kernel
theorem d_296_24 : xcode 296 24 = some (.iload_n 1, 1) := by decide +kernel
theorem d_296_25 : xcode 296 25 = some (.iconst 1, 1) := by decide +kernel
theorem d_296_26 : xcode 296 26 = some (.iadd, 1) := by decide +kernel
theorem d_296_27 : xcode 296 27 = some (.aload_n 0, 1) := by decide +kernel
theorem d_296_28 : xcode 296 28 = some (.getfield 20, 3) := by decide +kernel
theorem d_296_31 : xcode 296 31 = some (.if_icmp .le 7, 3) := by decide +kernel
theorem d_296_34 : xcode 296 34 = some (.ldc2_w 166, 3) := by decide +kernel
theorem d_296_37 : xcode 296 37 = some (.lreturn, 1) := by decide +kernel
theorem d_296_38 : xcode 296 38 = some (.iconst 3, 1) := by decide +kernel
theorem d_296_39 : xcode 296 39 = some (.iload_n 1, 1) := by decide +kernel
theorem d_296_40 : xcode 296 40 = some (.iconst 1, 1) := by decide +kernel
theorem d_296_41 : xcode 296 41 = some (.iadd, 1) := by decide +kernel
theorem d_296_42 : xcode 296 42 = some (.imul, 1) := by decide +kernel
theorem d_296_43 : xcode 296 43 = some (.istore_n 3, 1) := by decide +kernel
theorem d_296_44 : xcode 296 44 = some (.iload_n 1, 1) := by decide +kernel
theorem d_296_45 : xcode 296 45 = some (.ifCond .ne 12, 3) := by decide +kernel
theorem d_296_48 : xcode 296 48 = some (.aload_n 0, 1) := by decide +kernel
theorem d_296_49 : xcode 296 49 = some (.getfield 13, 3) := by decide +kernel
theorem d_296_52 : xcode 296 52 = some (.iload_n 3, 1) := by decide +kernel
theorem d_296_53 : xcode 296 53 = some (.iload_n 2, 1) := by decide +kernel
theorem d_296_54 : xcode 296 54 = some (.iadd, 1) := by decide +kernel
theorem d_296_55 : xcode 296 55 = some (.laload, 1) := by decide +kernel
theorem d_296_56 : xcode 296 56 = some (.lreturn, 1) := by decide +kernel
theorem d_296_57 : xcode 296 57 = some (.aload_n 0, 1) := by decide +kernel
theorem d_296_58 : xcode 296 58 = some (.getfield 13, 3) := by decide +kernel
theorem d_296_61 : xcode 296 61 = some (.iload_n 3, 1) := by decide +kernel
theorem d_296_62 : xcode 296 62 = some (.laload, 1) := by decide +kernel
theorem d_296_63 : xcode 296 63 = some (.lneg, 1) := by decide +kernel
theorem d_296_64 : xcode 296 64 = some (.lstore 4, 2) := by decide +kernel
theorem d_296_66 : xcode 296 66 = some (.aload_n 0, 1) := by decide +kernel
theorem d_296_67 : xcode 296 67 = some (.getfield 13, 3) := by decide +kernel
theorem d_296_70 : xcode 296 70 = some (.iload_n 3, 1) := by decide +kernel
theorem d_296_71 : xcode 296 71 = some (.iconst 1, 1) := by decide +kernel
theorem d_296_72 : xcode 296 72 = some (.iadd, 1) := by decide +kernel
theorem d_296_73 : xcode 296 73 = some (.laload, 1) := by decide +kernel
theorem d_296_74 : xcode 296 74 = some (.lneg, 1) := by decide +kernel
theorem d_296_75 : xcode 296 75 = some (.lstore 6, 2) := by decide +kernel
theorem d_296_77 : xcode 296 77 = some (.aload_n 0, 1) := by decide +kernel
theorem d_296_78 : xcode 296 78 = some (.getfield 13, 3) := by decide +kernel
theorem d_296_81 : xcode 296 81 = some (.iload_n 3, 1) := by decide +kernel
theorem d_296_82 : xcode 296 82 = some (.iconst 2, 1) := by decide +kernel
theorem d_296_83 : xcode 296 83 = some (.iadd, 1) := by decide +kernel
theorem d_296_84 : xcode 296 84 = some (.laload, 1) := by decide +kernel
theorem d_296_85 : xcode 296 85 = some (.lstore 8, 2) := by decide +kernel
theorem d_296_87 : xcode 296 87 = some (.lload 6, 2) := by decide +kernel
theorem d_296_89 : xcode 296 89 = some (.lconst 0, 1) := by decide +kernel
theorem d_296_90 : xcode 296 90 = some (.lcmp, 1) := by decide +kernel
theorem d_296_91 : xcode 296 91 = some (.ifCond .ge 16, 3) := by decide +kernel
theorem d_296_94 : xcode 296 94 = some (.lload 6, 2) := by decide +kernel
theorem d_296_96 : xcode 296 96 = some (.lload 8, 2) := by decide +kernel
theorem d_296_98 : xcode 296 98 = some (.ladd, 1) := by decide +kernel
theorem d_296_99 : xcode 296 99 = some (.lstore 6, 2) := by decide +kernel
theorem d_296_101 : xcode 296 101 = some (.lload 4, 2) := by decide +kernel
theorem d_296_103 : xcode 296 103 = some (.lconst 1, 1) := by decide +kernel
theorem d_296_104 : xcode 296 104 = some (.lsub, 1) := by decide +kernel
theorem d_296_105 : xcode 296 105 = some (.lstore 4, 2) := by decide +kernel
theorem d_296_107 : xcode 296 107 = some (.lload 4, 2) := by decide +kernel
theorem d_296_109 : xcode 296 109 = some (.iload_n 1, 1) := by decide +kernel
theorem d_296_110 : xcode 296 110 = some (.iconst 1, 1) := by decide +kernel
theorem d_296_111 : xcode 296 111 = some (.iadd, 1) := by decide +kernel
theorem d_296_112 : xcode 296 112 = some (.i2l, 1) := by decide +kernel
theorem d_296_113 : xcode 296 113 = some (.invokestatic 131, 3) := by decide +kernel
theorem d_296_116 : xcode 296 116 = some (.lstore 10, 2) := by decide +kernel
theorem d_296_118 : xcode 296 118 = some (.aload_n 0, 1) := by decide +kernel
theorem d_296_119 : xcode 296 119 = some (.aload_n 0, 1) := by decide +kernel
theorem d_296_120 : xcode 296 120 = some (.getfield 81, 3) := by decide +kernel
theorem d_296_123 : xcode 296 123 = some (.iconst 0, 1) := by decide +kernel
theorem d_296_124 : xcode 296 124 = some (.lload 10, 2) := by decide +kernel
theorem d_296_126 : xcode 296 126 = some (.lload 4, 2) := by decide +kernel
theorem d_296_128 : xcode 296 128 = some (.lload 10, 2) := by decide +kernel
theorem d_296_130 : xcode 296 130 = some (.iload_n 1, 1) := by decide +kernel
theorem d_296_131 : xcode 296 131 = some (.iconst 1, 1) := by decide +kernel
theorem d_296_132 : xcode 296 132 = some (.iadd, 1) := by decide +kernel
theorem d_296_133 : xcode 296 133 = some (.i2l, 1) := by decide +kernel
theorem d_296_134 : xcode 296 134 = some (.lmul, 1) := by decide +kernel
theorem d_296_135 : xcode 296 135 = some (.lsub, 1) := by decide +kernel
theorem d_296_136 : xcode 296 136 = some (.lload 8, 2) := by decide +kernel
theorem d_296_138 : xcode 296 138 = some (.lmul, 1) := by decide +kernel
theorem d_296_139 : xcode 296 139 = some (.lload 6, 2) := by decide +kernel
theorem d_296_141 : xcode 296 141 = some (.ladd, 1) := by decide +kernel
theorem d_296_142 : xcode 296 142 = some (.lload 8, 2) := by decide +kernel
theorem d_296_144 : xcode 296 144 = some (.iload_n 1, 1) := by decide +kernel
theorem d_296_145 : xcode 296 145 = some (.iconst 1, 1) := by decide +kernel
theorem d_296_146 : xcode 296 146 = some (.iadd, 1) := by decide +kernel
theorem d_296_147 : xcode 296 147 = some (.i2l, 1) := by decide +kernel
theorem d_296_148 : xcode 296 148 = some (.lmul, 1) := by decide +kernel
theorem d_296_149 : xcode 296 149 = some (.invokevirtual 134, 3) := by decide +kernel
theorem d_296_152 : xcode 296 152 = some (.aload_n 0, 1) := by decide +kernel
theorem d_296_153 : xcode 296 153 = some (.getfield 81, 3) := by decide +kernel
theorem d_296_156 : xcode 296 156 = some (.iload_n 2, 1) := by decide +kernel
theorem d_296_157 : xcode 296 157 = some (.laload, 1) := by decide +kernel
theorem d_296_158 : xcode 296 158 = some (.lreturn, 1) := by decide +kernel
theorem d_297_0 : xcode 297 0 = some (.aload_n 0, 1) := by decide +kernel
theorem d_297_1 : xcode 297 1 = some (.iconst 0, 1) := by decide +kernel
theorem d_297_2 : xcode 297 2 = some (.putfield 118, 3) := by decide +kernel
theorem d_297_5 : xcode 297 5 = some (.iload_n 1, 1) := by decide +kernel
theorem d_297_6 : xcode 297 6 = some (.iconst 0, 1) := by decide +kernel
theorem d_297_7 : xcode 297 7 = some (.bipush 20, 2) := by decide +kernel
theorem d_297_9 : xcode 297 9 = some (.invokestatic 137, 3) := by decide +kernel
theorem d_297_12 : xcode 297 12 = some (.ifCond .eq 11, 3) := by decide +kernel
theorem d_297_15 : xcode 297 15 = some (.iload_n 1, 1) := by decide +kernel
theorem d_297_16 : xcode 297 16 = some (.aload_n 0, 1) := by decide +kernel
theorem d_297_17 : xcode 297 17 = some (.getfield 20, 3) := by decide +kernel
theorem d_297_20 : xcode 297 20 = some (.if_icmp .le 7, 3) := by decide +kernel
theorem d_297_23 : xcode 297 23 = some (.ldc2_w 166, 3) := by decide +kernel
theorem d_297_26 : xcode 297 26 = some (.lreturn, 1) := by decide +kernel
theorem d_297_27 : xcode 297 27 = some (.ldc2_w 216, 3) := by decide +kernel
theorem d_297_30 : xcode 297 30 = some (.lconst 1, 1) := by decide +kernel
theorem d_297_31 : xcode 297 31 = some (.lconst 1, 1) := by decide +kernel
theorem d_297_32 : xcode 297 32 = some (.iload_n 1, 1) := by decide +kernel
theorem d_297_33 : xcode 297 33 = some (.lshl, 1) := by decide +kernel
theorem d_297_34 : xcode 297 34 = some (.lsub, 1) := by decide +kernel
theorem d_297_35 : xcode 297 35 = some (.lmul, 1) := by decide +kernel
theorem d_297_36 : xcode 297 36 = some (.lstore_n 2, 1) := by decide +kernel
theorem d_297_37 : xcode 297 37 = some (.lload_n 2, 1) := by decide +kernel
theorem d_297_38 : xcode 297 38 = some (.aload_n 0, 1) := by decide +kernel
theorem d_297_39 : xcode 297 39 = some (.getfield 13, 3) := by decide +kernel
theorem d_297_42 : xcode 297 42 = some (.iconst 3, 1) := by decide +kernel
theorem d_297_43 : xcode 297 43 = some (.iload_n 1, 1) := by decide +kernel
theorem d_297_44 : xcode 297 44 = some (.imul, 1) := by decide +kernel
theorem d_297_45 : xcode 297 45 = some (.iconst 1, 1) := by decide +kernel
theorem d_297_46 : xcode 297 46 = some (.iadd, 1) := by decide +kernel
theorem d_297_47 : xcode 297 47 = some (.laload, 1) := by decide +kernel
theorem d_297_48 : xcode 297 48 = some (.lmul, 1) := by decide +kernel
theorem d_297_49 : xcode 297 49 = some (.lstore 4, 2) := by decide +kernel
theorem d_297_51 : xcode 297 51 = some (.lload 4, 2) := by decide +kernel
theorem d_297_53 : xcode 297 53 = some (.aload_n 0, 1) := by decide +kernel
theorem d_297_54 : xcode 297 54 = some (.getfield 13, 3) := by decide +kernel
theorem d_297_57 : xcode 297 57 = some (.iconst 3, 1) := by decide +kernel
theorem d_297_58 : xcode 297 58 = some (.iload_n 1, 1) := by decide +kernel
theorem d_297_59 : xcode 297 59 = some (.imul, 1) := by decide +kernel
theorem d_297_60 : xcode 297 60 = some (.iconst 2, 1) := by decide +kernel
theorem d_297_61 : xcode 297 61 = some (.iadd, 1) := by decide +kernel
theorem d_297_62 : xcode 297 62 = some (.laload, 1) := by decide +kernel
theorem d_297_63 : xcode 297 63 = some (.lrem, 1) := by decide +kernel
theorem d_297_64 : xcode 297 64 = some (.lconst 0, 1) := by decide +kernel
theorem d_297_65 : xcode 297 65 = some (.lcmp, 1) := by decide +kernel
theorem d_297_66 : xcode 297 66 = some (.ifCond .ne 30, 3) := by decide +kernel
theorem d_297_69 : xcode 297 69 = some (.lload_n 2, 1) := by decide +kernel
theorem d_297_70 : xcode 297 70 = some (.aload_n 0, 1) := by decide +kernel
theorem d_297_71 : xcode 297 71 = some (.getfield 13, 3) := by decide +kernel
theorem d_297_74 : xcode 297 74 = some (.iconst 3, 1) := by decide +kernel
theorem d_297_75 : xcode 297 75 = some (.iload_n 1, 1) := by decide +kernel
theorem d_297_76 : xcode 297 76 = some (.imul, 1) := by decide +kernel
theorem d_297_77 : xcode 297 77 = some (.laload, 1) := by decide +kernel
theorem d_297_78 : xcode 297 78 = some (.lmul, 1) := by decide +kernel
theorem d_297_79 : xcode 297 79 = some (.lload 4, 2) := by decide +kernel
theorem d_297_81 : xcode 297 81 = some (.aload_n 0, 1) := by decide +kernel
theorem d_297_82 : xcode 297 82 = some (.getfield 13, 3) := by decide +kernel
theorem d_297_85 : xcode 297 85 = some (.iconst 3, 1) := by decide +kernel
theorem d_297_86 : xcode 297 86 = some (.iload_n 1, 1) := by decide +kernel
theorem d_297_87 : xcode 297 87 = some (.imul, 1) := by decide +kernel
theorem d_297_88 : xcode 297 88 = some (.iconst 2, 1) := by decide +kernel
theorem d_297_89 : xcode 297 89 = some (.iadd, 1) := by decide +kernel
theorem d_297_90 : xcode 297 90 = some (.laload, 1) := by decide +kernel
theorem d_297_91 : xcode 297 91 = some (.ldiv, 1) := by decide +kernel
theorem d_297_92 : xcode 297 92 = some (.ladd, 1) := by decide +kernel
theorem d_297_93 : xcode 297 93 = some (.goto 6, 3) := by decide +kernel
theorem d_297_96 : xcode 297 96 = some (.ldc2_w 166, 3) := by decide +kernel
theorem d_297_99 : xcode 297 99 = some (.lreturn, 1) := by decide +kernel
theorem d_298_0 : xcode 298 0 = some (.aload_n 0, 1) := by decide +kernel
theorem d_298_1 : xcode 298 1 = some (.iconst 0, 1) := by decide +kernel
theorem d_298_2 : xcode 298 2 = some (.putfield 118, 3) := by decide +kernel
theorem d_298_5 : xcode 298 5 = some (.iload_n 1, 1) := by decide +kernel
theorem d_298_6 : xcode 298 6 = some (.iconst 0, 1) := by decide +kernel
theorem d_298_7 : xcode 298 7 = some (.bipush 30, 2) := by decide +kernel
theorem d_298_9 : xcode 298 9 = some (.invokestatic 137, 3) := by decide +kernel
theorem d_298_12 : xcode 298 12 = some (.ifCond .eq 13, 3) := by decide +kernel
theorem d_298_15 : xcode 298 15 = some (.iload_n 2, 1) := by decide +kernel
theorem d_298_16 : xcode 298 16 = some (.iconst 0, 1) := by decide +kernel
theorem d_298_17 : xcode 298 17 = some (.bipush 30, 2) := by decide +kernel
theorem d_298_19 : xcode 298 19 = some (.invokestatic 137, 3) := by decide +kernel
theorem d_298_22 : xcode 298 22 = some (.ifCond .ne 7, 3) := by decide +kernel
theorem d_298_25 : xcode 298 25 = some (.ldc2_w 166, 3) := by decide +kernel
theorem d_298_28 : xcode 298 28 = some (.lreturn, 1) := by decide +kernel
theorem d_298_29 : xcode 298 29 = some (.aload_n 0, 1) := by decide +kernel
theorem d_298_30 : xcode 298 30 = some (.iload_n 1, 1) := by decide +kernel
theorem d_298_31 : xcode 298 31 = some (.invokevirtual 365, 3) := by decide +kernel
theorem d_298_34 : xcode 298 34 = some (.aload_n 0, 1) := by decide +kernel
theorem d_298_35 : xcode 298 35 = some (.getfield 87, 3) := by decide +kernel
theorem d_298_38 : xcode 298 38 = some (.iload_n 2, 1) := by decide +kernel
theorem d_298_39 : xcode 298 39 = some (.laload, 1) := by decide +kernel
theorem d_298_40 : xcode 298 40 = some (.lreturn, 1) := by decide +kernel
theorem d_299_0 : xcode 299 0 = some (.iconst 0, 1) := by decide +kernel
theorem d_299_1 : xcode 299 1 = some (.istore_n 2, 1) := by decide +kernel
theorem d_299_2 : xcode 299 2 = some (.iload_n 2, 1) := by decide +kernel
theorem d_299_3 : xcode 299 3 = some (.bipush 32, 2) := by decide +kernel
theorem d_299_5 : xcode 299 5 = some (.if_icmp .ge 24, 3) := by decide +kernel
theorem d_299_8 : xcode 299 8 = some (.aload_n 0, 1) := by decide +kernel
theorem d_299_9 : xcode 299 9 = some (.getfield 87, 3) := by decide +kernel
theorem d_299_12 : xcode 299 12 = some (.iload_n 2, 1) := by decide +kernel
theorem d_299_13 : xcode 299 13 = some (.iload_n 2, 1) := by decide +kernel
theorem d_299_14 : xcode 299 14 = some (.ifCond .ne 7, 3) := by decide +kernel
theorem d_299_17 : xcode 299 17 = some (.lconst 1, 1) := by decide +kernel
theorem d_299_18 : xcode 299 18 = some (.goto 4, 3) := by decide +kernel
theorem d_299_21 : xcode 299 21 = some (.lconst 0, 1) := by decide +kernel
theorem d_299_22 : xcode 299 22 = some (.lastore, 1) := by decide +kernel
theorem d_299_23 : xcode 299 23 = some (.iinc 2 1, 3) := by decide +kernel
theorem d_299_26 : xcode 299 26 = some (.goto (-24), 3) := by decide +kernel
theorem d_299_29 : xcode 299 29 = some (.iconst 1, 1) := by decide +kernel
theorem d_299_30 : xcode 299 30 = some (.istore_n 2, 1) := by decide +kernel
theorem d_299_31 : xcode 299 31 = some (.iload_n 2, 1) := by decide +kernel
theorem d_299_32 : xcode 299 32 = some (.iload_n 1, 1) := by decide +kernel
theorem d_299_33 : xcode 299 33 = some (.if_icmp .gt 52, 3) := by decide +kernel
theorem d_299_36 : xcode 299 36 = some (.iload_n 2, 1) := by decide +kernel
theorem d_299_37 : xcode 299 37 = some (.istore_n 3, 1) := by decide +kernel
theorem d_299_38 : xcode 299 38 = some (.iload_n 3, 1) := by decide +kernel
theorem d_299_39 : xcode 299 39 = some (.ifCond .le 33, 3) := by decide +kernel
theorem d_299_42 : xcode 299 42 = some (.aload_n 0, 1) := by decide +kernel
theorem d_299_43 : xcode 299 43 = some (.getfield 87, 3) := by decide +kernel
theorem d_299_46 : xcode 299 46 = some (.iload_n 3, 1) := by decide +kernel
theorem d_299_47 : xcode 299 47 = some (.iload_n 3, 1) := by decide +kernel
theorem d_299_48 : xcode 299 48 = some (.aload_n 0, 1) := by decide +kernel
theorem d_299_49 : xcode 299 49 = some (.getfield 87, 3) := by decide +kernel
theorem d_299_52 : xcode 299 52 = some (.iload_n 3, 1) := by decide +kernel
theorem d_299_53 : xcode 299 53 = some (.laload, 1) := by decide +kernel
theorem d_299_54 : xcode 299 54 = some (.aload_n 0, 1) := by decide +kernel
theorem d_299_55 : xcode 299 55 = some (.getfield 87, 3) := by decide +kernel
theorem d_299_58 : xcode 299 58 = some (.iload_n 3, 1) := by decide +kernel
theorem d_299_59 : xcode 299 59 = some (.iconst 1, 1) := by decide +kernel
theorem d_299_60 : xcode 299 60 = some (.isub, 1) := by decide +kernel
theorem d_299_61 : xcode 299 61 = some (.laload, 1) := by decide +kernel
theorem d_299_62 : xcode 299 62 = some (.invokestatic 361, 3) := by decide +kernel
theorem d_299_65 : xcode 299 65 = some (.lastore, 1) := by decide +kernel
theorem d_299_66 : xcode 299 66 = some (.iinc 3 (-1), 3) := by decide +kernel
theorem d_299_69 : xcode 299 69 = some (.goto (-31), 3) := by decide +kernel
theorem d_299_72 : xcode 299 72 = some (.aload_n 0, 1) := by decide +kernel
theorem d_299_73 : xcode 299 73 = some (.getfield 87, 3) := by decide +kernel
theorem d_299_76 : xcode 299 76 = some (.iconst 0, 1) := by decide +kernel
theorem d_299_77 : xcode 299 77 = some (.lconst 0, 1) := by decide +kernel
theorem d_299_78 : xcode 299 78 = some (.lastore, 1) := by decide +kernel
theorem d_299_79 : xcode 299 79 = some (.iinc 2 1, 3) := by decide +kernel
theorem d_299_82 : xcode 299 82 = some (.goto (-51), 3) := by decide +kernel
theorem d_299_85 : xcode 299 85 = some (.return_, 1) := by decide +kernel
theorem d_300_0 : xcode 300 0 = some (.lload_n 1, 1) := by decide +kernel
theorem d_300_1 : xcode 300 1 = some (.ldc2_w 166, 3) := by decide +kernel
theorem d_300_4 : xcode 300 4 = some (.lcmp, 1) := by decide +kernel
theorem d_300_5 : xcode 300 5 = some (.ifCond .eq 11, 3) := by decide +kernel
theorem d_300_8 : xcode 300 8 = some (.lload_n 3, 1) := by decide +kernel
theorem d_300_9 : xcode 300 9 = some (.ldc2_w 166, 3) := by decide +kernel
theorem d_300_12 : xcode 300 12 = some (.lcmp, 1) := by decide +kernel
theorem d_300_13 : xcode 300 13 = some (.ifCond .ne 7, 3) := by decide +kernel
theorem d_300_16 : xcode 300 16 = some (.ldc2_w 166, 3) := by decide +kernel
theorem d_300_19 : xcode 300 19 = some (.lreturn, 1) := by decide +kernel
theorem d_300_20 : xcode 300 20 = some (.lload_n 1, 1) := by decide +kernel
theorem d_300_21 : xcode 300 21 = some (.ldc2_w 359, 3) := by decide +kernel
theorem d_300_24 : xcode 300 24 = some (.lload_n 3, 1) := by decide +kernel
theorem d_300_25 : xcode 300 25 = some (.lsub, 1) := by decide +kernel
theorem d_300_26 : xcode 300 26 = some (.lcmp, 1) := by decide +kernel
theorem d_300_27 : xcode 300 27 = some (.ifCond .le 7, 3) := by decide +kernel
theorem d_300_30 : xcode 300 30 = some (.ldc2_w 166, 3) := by decide +kernel
theorem d_300_33 : xcode 300 33 = some (.lreturn, 1) := by decide +kernel
theorem d_300_34 : xcode 300 34 = some (.lload_n 1, 1) := by decide +kernel
theorem d_300_35 : xcode 300 35 = some (.lload_n 3, 1) := by decide +kernel
theorem d_300_36 : xcode 300 36 = some (.ladd, 1) := by decide +kernel
theorem d_300_37 : xcode 300 37 = some (.lconst 0, 1) := by decide +kernel
theorem d_300_38 : xcode 300 38 = some (.lcmp, 1) := by decide +kernel
theorem d_300_39 : xcode 300 39 = some (.ifCond .ne 7, 3) := by decide +kernel
theorem d_300_42 : xcode 300 42 = some (.lconst 0, 1) := by decide +kernel
theorem d_300_43 : xcode 300 43 = some (.goto 28, 3) := by decide +kernel
theorem d_300_46 : xcode 300 46 = some (.lload_n 1, 1) := by decide +kernel
theorem d_300_47 : xcode 300 47 = some (.lload_n 3, 1) := by decide +kernel
theorem d_300_48 : xcode 300 48 = some (.ladd, 1) := by decide +kernel
theorem d_300_49 : xcode 300 49 = some (.ldc2_w 359, 3) := by decide +kernel
theorem d_300_52 : xcode 300 52 = some (.iload_n 0, 1) := by decide +kernel
theorem d_300_53 : xcode 300 53 = some (.i2l, 1) := by decide +kernel
theorem d_300_54 : xcode 300 54 = some (.ldiv, 1) := by decide +kernel
theorem d_300_55 : xcode 300 55 = some (.lcmp, 1) := by decide +kernel
theorem d_300_56 : xcode 300 56 = some (.ifCond .le 9, 3) := by decide +kernel
theorem d_300_59 : xcode 300 59 = some (.ldc2_w 166, 3) := by decide +kernel
theorem d_300_62 : xcode 300 62 = some (.goto 9, 3) := by decide +kernel
theorem d_300_65 : xcode 300 65 = some (.iload_n 0, 1) := by decide +kernel
theorem d_300_66 : xcode 300 66 = some (.i2l, 1) := by decide +kernel
theorem d_300_67 : xcode 300 67 = some (.lload_n 1, 1) := by decide +kernel
theorem d_300_68 : xcode 300 68 = some (.lload_n 3, 1) := by decide +kernel
theorem d_300_69 : xcode 300 69 = some (.ladd, 1) := by decide +kernel
theorem d_300_70 : xcode 300 70 = some (.lmul, 1) := by decide +kernel
theorem d_300_71 : xcode 300 71 = some (.lreturn, 1) := by decide +kernel
theorem d_301_0 : xcode 301 0 = some (.aload_n 0, 1) := by decide +kernel
theorem d_301_1 : xcode 301 1 = some (.iconst 0, 1) := by decide +kernel
theorem d_301_2 : xcode 301 2 = some (.putfield 118, 3) := by decide +kernel
theorem d_301_5 : xcode 301 5 = some (.iload_n 1, 1) := by decide +kernel
theorem d_301_6 : xcode 301 6 = some (.iconst 0, 1) := by decide +kernel
theorem d_301_7 : xcode 301 7 = some (.bipush 20, 2) := by decide +kernel
theorem d_301_9 : xcode 301 9 = some (.invokestatic 137, 3) := by decide +kernel
theorem d_301_12 : xcode 301 12 = some (.ifCond .eq 12, 3) := by decide +kernel
theorem d_301_15 : xcode 301 15 = some (.iload_n 2, 1) := by decide +kernel
theorem d_301_16 : xcode 301 16 = some (.iconst 0, 1) := by decide +kernel
theorem d_301_17 : xcode 301 17 = some (.iconst 2, 1) := by decide +kernel
theorem d_301_18 : xcode 301 18 = some (.invokestatic 137, 3) := by decide +kernel
theorem d_301_21 : xcode 301 21 = some (.ifCond .ne 7, 3) := by decide +kernel
theorem d_301_24 : xcode 301 24 = some (.ldc2_w 166, 3) := by decide +kernel
theorem d_301_27 : xcode 301 27 = some (.lreturn, 1) := by decide +kernel
theorem d_301_28 : xcode 301 28 = some (.aload_n 0, 1) := by decide +kernel
theorem d_301_29 : xcode 301 29 = some (.iload_n 1, 1) := by decide +kernel
theorem d_301_30 : xcode 301 30 = some (.invokevirtual 365, 3) := by decide +kernel
theorem d_301_33 : xcode 301 33 = some (.lconst 0, 1) := by decide +kernel
theorem d_301_34 : xcode 301 34 = some (.lstore_n 3, 1) := by decide +kernel
theorem d_301_35 : xcode 301 35 = some (.lconst 0, 1) := by decide +kernel
theorem d_301_36 : xcode 301 36 = some (.lstore 5, 2) := by decide +kernel
theorem d_301_38 : xcode 301 38 = some (.iconst 0, 1) := by decide +kernel
theorem d_301_39 : xcode 301 39 = some (.istore 7, 2) := by decide +kernel
theorem d_301_41 : xcode 301 41 = some (.iload 7, 2) := by decide +kernel
theorem d_301_43 : xcode 301 43 = some (.iload_n 1, 1) := by decide +kernel
theorem d_301_44 : xcode 301 44 = some (.if_icmp .gt 105, 3) := by decide +kernel
theorem d_301_47 : xcode 301 47 = some (.aload_n 0, 1) := by decide +kernel
theorem d_301_48 : xcode 301 48 = some (.getfield 87, 3) := by decide +kernel
theorem d_301_51 : xcode 301 51 = some (.iload 7, 2) := by decide +kernel
theorem d_301_53 : xcode 301 53 = some (.laload, 1) := by decide +kernel
theorem d_301_54 : xcode 301 54 = some (.ldc2_w 166, 3) := by decide +kernel
theorem d_301_57 : xcode 301 57 = some (.lcmp, 1) := by decide +kernel
theorem d_301_58 : xcode 301 58 = some (.ifCond .ne 7, 3) := by decide +kernel
theorem d_301_61 : xcode 301 61 = some (.ldc2_w 166, 3) := by decide +kernel
theorem d_301_64 : xcode 301 64 = some (.lreturn, 1) := by decide +kernel
theorem d_301_65 : xcode 301 65 = some (.aload_n 0, 1) := by decide +kernel
theorem d_301_66 : xcode 301 66 = some (.getfield 87, 3) := by decide +kernel
theorem d_301_69 : xcode 301 69 = some (.iload 7, 2) := by decide +kernel
theorem d_301_71 : xcode 301 71 = some (.laload, 1) := by decide +kernel
theorem d_301_72 : xcode 301 72 = some (.iload 7, 2) := by decide +kernel
theorem d_301_74 : xcode 301 74 = some (.iconst 1, 1) := by decide +kernel
theorem d_301_75 : xcode 301 75 = some (.iadd, 1) := by decide +kernel
theorem d_301_76 : xcode 301 76 = some (.i2l, 1) := by decide +kernel
theorem d_301_77 : xcode 301 77 = some (.ldiv, 1) := by decide +kernel
theorem d_301_78 : xcode 301 78 = some (.lstore 8, 2) := by decide +kernel
theorem d_301_80 : xcode 301 80 = some (.aload_n 0, 1) := by decide +kernel
theorem d_301_81 : xcode 301 81 = some (.getfield 87, 3) := by decide +kernel
theorem d_301_84 : xcode 301 84 = some (.iload 7, 2) := by decide +kernel
theorem d_301_86 : xcode 301 86 = some (.laload, 1) := by decide +kernel
theorem d_301_87 : xcode 301 87 = some (.iload 7, 2) := by decide +kernel
theorem d_301_89 : xcode 301 89 = some (.iconst 1, 1) := by decide +kernel
theorem d_301_90 : xcode 301 90 = some (.iadd, 1) := by decide +kernel
theorem d_301_91 : xcode 301 91 = some (.i2l, 1) := by decide +kernel
theorem d_301_92 : xcode 301 92 = some (.lrem, 1) := by decide +kernel
theorem d_301_93 : xcode 301 93 = some (.ldc2_w 368, 3) := by decide +kernel
theorem d_301_96 : xcode 301 96 = some (.iload 7, 2) := by decide +kernel
theorem d_301_98 : xcode 301 98 = some (.iconst 1, 1) := by decide +kernel
theorem d_301_99 : xcode 301 99 = some (.iadd, 1) := by decide +kernel
theorem d_301_100 : xcode 301 100 = some (.i2l, 1) := by decide +kernel
theorem d_301_101 : xcode 301 101 = some (.ldiv, 1) := by decide +kernel
theorem d_301_102 : xcode 301 102 = some (.lmul, 1) := by decide +kernel
theorem d_301_103 : xcode 301 103 = some (.lstore 10, 2) := by decide +kernel
theorem d_301_105 : xcode 301 105 = some (.lload_n 3, 1) := by decide +kernel
theorem d_301_106 : xcode 301 106 = some (.iload 7, 2) := by decide +kernel
theorem d_301_108 : xcode 301 108 = some (.iconst 2, 1) := by decide +kernel
theorem d_301_109 : xcode 301 109 = some (.irem, 1) := by decide +kernel
theorem d_301_110 : xcode 301 110 = some (.ifCond .ne 8, 3) := by decide +kernel
theorem d_301_113 : xcode 301 113 = some (.lload 8, 2) := by decide +kernel
theorem d_301_115 : xcode 301 115 = some (.goto 6, 3) := by decide +kernel
theorem d_301_118 : xcode 301 118 = some (.lload 8, 2) := by decide +kernel
theorem d_301_120 : xcode 301 120 = some (.lneg, 1) := by decide +kernel
theorem d_301_121 : xcode 301 121 = some (.ladd, 1) := by decide +kernel
theorem d_301_122 : xcode 301 122 = some (.lstore_n 3, 1) := by decide +kernel
theorem d_301_123 : xcode 301 123 = some (.lload 5, 2) := by decide +kernel
theorem d_301_125 : xcode 301 125 = some (.iload 7, 2) := by decide +kernel
theorem d_301_127 : xcode 301 127 = some (.iconst 2, 1) := by decide +kernel
theorem d_301_128 : xcode 301 128 = some (.irem, 1) := by decide +kernel
theorem d_301_129 : xcode 301 129 = some (.ifCond .ne 8, 3) := by decide +kernel
theorem d_301_132 : xcode 301 132 = some (.lload 10, 2) := by decide +kernel
theorem d_301_134 : xcode 301 134 = some (.goto 6, 3) := by decide +kernel
theorem d_301_137 : xcode 301 137 = some (.lload 10, 2) := by decide +kernel
theorem d_301_139 : xcode 301 139 = some (.lneg, 1) := by decide +kernel
theorem d_301_140 : xcode 301 140 = some (.ladd, 1) := by decide +kernel
theorem d_301_141 : xcode 301 141 = some (.lstore 5, 2) := by decide +kernel
theorem d_301_143 : xcode 301 143 = some (.iinc 7 1, 3) := by decide +kernel
theorem d_301_146 : xcode 301 146 = some (.goto (-105), 3) := by decide +kernel
theorem d_301_149 : xcode 301 149 = some (.lload 5, 2) := by decide +kernel
theorem d_301_151 : xcode 301 151 = some (.ldc2_w 368, 3) := by decide +kernel
theorem d_301_154 : xcode 301 154 = some (.invokestatic 131, 3) := by decide +kernel
theorem d_301_157 : xcode 301 157 = some (.lstore 7, 2) := by decide +kernel
theorem d_301_159 : xcode 301 159 = some (.aload_n 0, 1) := by decide +kernel
theorem d_301_160 : xcode 301 160 = some (.aload_n 0, 1) := by decide +kernel
theorem d_301_161 : xcode 301 161 = some (.getfield 81, 3) := by decide +kernel
theorem d_301_164 : xcode 301 164 = some (.iconst 0, 1) := by decide +kernel
theorem d_301_165 : xcode 301 165 = some (.lload_n 3, 1) := by decide +kernel
theorem d_301_166 : xcode 301 166 = some (.lload 7, 2) := by decide +kernel
theorem d_301_168 : xcode 301 168 = some (.ladd, 1) := by decide +kernel
theorem d_301_169 : xcode 301 169 = some (.lload 5, 2) := by decide +kernel
theorem d_301_171 : xcode 301 171 = some (.lload 7, 2) := by decide +kernel
theorem d_301_173 : xcode 301 173 = some (.ldc2_w 368, 3) := by decide +kernel
theorem d_301_176 : xcode 301 176 = some (.lmul, 1) := by decide +kernel
theorem d_301_177 : xcode 301 177 = some (.lsub, 1) := by decide +kernel
theorem d_301_178 : xcode 301 178 = some (.ldc2_w 368, 3) := by decide +kernel
theorem d_301_181 : xcode 301 181 = some (.invokevirtual 134, 3) := by decide +kernel
theorem d_301_184 : xcode 301 184 = some (.aload_n 0, 1) := by decide +kernel
theorem d_301_185 : xcode 301 185 = some (.getfield 81, 3) := by decide +kernel
theorem d_301_188 : xcode 301 188 = some (.iload_n 2, 1) := by decide +kernel
theorem d_301_189 : xcode 301 189 = some (.laload, 1) := by decide +kernel
theorem d_301_190 : xcode 301 190 = some (.lreturn, 1) := by decide +kernel
theorem d_302_0 : xcode 302 0 = some (.aload_n 0, 1) := by decide +kernel
theorem d_302_1 : xcode 302 1 = some (.iconst 0, 1) := by decide +kernel
theorem d_302_2 : xcode 302 2 = some (.putfield 118, 3) := by decide +kernel
theorem d_302_5 : xcode 302 5 = some (.iload_n 1, 1) := by decide +kernel
theorem d_302_6 : xcode 302 6 = some (.iconst 0, 1) := by decide +kernel
theorem d_302_7 : xcode 302 7 = some (.bipush 23, 2) := by decide +kernel
theorem d_302_9 : xcode 302 9 = some (.invokestatic 137, 3) := by decide +kernel
theorem d_302_12 : xcode 302 12 = some (.ifCond .ne 7, 3) := by decide +kernel
theorem d_302_15 : xcode 302 15 = some (.ldc2_w 166, 3) := by decide +kernel
theorem d_302_18 : xcode 302 18 = some (.lreturn, 1) := by decide +kernel
theorem d_302_19 : xcode 302 19 = some (.aload_n 0, 1) := by decide +kernel
theorem d_302_20 : xcode 302 20 = some (.getfield 93, 3) := by decide +kernel
theorem d_302_23 : xcode 302 23 = some (.iconst 0, 1) := by decide +kernel
theorem d_302_24 : xcode 302 24 = some (.lconst 1, 1) := by decide +kernel
theorem d_302_25 : xcode 302 25 = some (.lastore, 1) := by decide +kernel
theorem d_302_26 : xcode 302 26 = some (.iconst 1, 1) := by decide +kernel
theorem d_302_27 : xcode 302 27 = some (.istore_n 2, 1) := by decide +kernel
theorem d_302_28 : xcode 302 28 = some (.iload_n 2, 1) := by decide +kernel
theorem d_302_29 : xcode 302 29 = some (.iload_n 1, 1) := by decide +kernel
theorem d_302_30 : xcode 302 30 = some (.if_icmp .gt 77, 3) := by decide +kernel
theorem d_302_33 : xcode 302 33 = some (.aload_n 0, 1) := by decide +kernel
theorem d_302_34 : xcode 302 34 = some (.getfield 90, 3) := by decide +kernel
theorem d_302_37 : xcode 302 37 = some (.iconst 0, 1) := by decide +kernel
theorem d_302_38 : xcode 302 38 = some (.lconst 0, 1) := by decide +kernel
theorem d_302_39 : xcode 302 39 = some (.lastore, 1) := by decide +kernel
theorem d_302_40 : xcode 302 40 = some (.iconst 1, 1) := by decide +kernel
theorem d_302_41 : xcode 302 41 = some (.istore_n 3, 1) := by decide +kernel
theorem d_302_42 : xcode 302 42 = some (.iload_n 3, 1) := by decide +kernel
theorem d_302_43 : xcode 302 43 = some (.iload_n 2, 1) := by decide +kernel
theorem d_302_44 : xcode 302 44 = some (.if_icmp .gt 32, 3) := by decide +kernel
theorem d_302_47 : xcode 302 47 = some (.aload_n 0, 1) := by decide +kernel
theorem d_302_48 : xcode 302 48 = some (.getfield 90, 3) := by decide +kernel
theorem d_302_51 : xcode 302 51 = some (.iload_n 3, 1) := by decide +kernel
theorem d_302_52 : xcode 302 52 = some (.aload_n 0, 1) := by decide +kernel
theorem d_302_53 : xcode 302 53 = some (.getfield 90, 3) := by decide +kernel
theorem d_302_56 : xcode 302 56 = some (.iload_n 3, 1) := by decide +kernel
theorem d_302_57 : xcode 302 57 = some (.iconst 1, 1) := by decide +kernel
theorem d_302_58 : xcode 302 58 = some (.isub, 1) := by decide +kernel
theorem d_302_59 : xcode 302 59 = some (.laload, 1) := by decide +kernel
theorem d_302_60 : xcode 302 60 = some (.aload_n 0, 1) := by decide +kernel
theorem d_302_61 : xcode 302 61 = some (.getfield 93, 3) := by decide +kernel
theorem d_302_64 : xcode 302 64 = some (.iload_n 2, 1) := by decide +kernel
theorem d_302_65 : xcode 302 65 = some (.iload_n 3, 1) := by decide +kernel
theorem d_302_66 : xcode 302 66 = some (.isub, 1) := by decide +kernel
theorem d_302_67 : xcode 302 67 = some (.laload, 1) := by decide +kernel
theorem d_302_68 : xcode 302 68 = some (.ladd, 1) := by decide +kernel
theorem d_302_69 : xcode 302 69 = some (.lastore, 1) := by decide +kernel
theorem d_302_70 : xcode 302 70 = some (.iinc 3 1, 3) := by decide +kernel
theorem d_302_73 : xcode 302 73 = some (.goto (-31), 3) := by decide +kernel
theorem d_302_76 : xcode 302 76 = some (.iconst 0, 1) := by decide +kernel
theorem d_302_77 : xcode 302 77 = some (.istore_n 3, 1) := by decide +kernel
theorem d_302_78 : xcode 302 78 = some (.iload_n 3, 1) := by decide +kernel
theorem d_302_79 : xcode 302 79 = some (.iload_n 2, 1) := by decide +kernel
theorem d_302_80 : xcode 302 80 = some (.if_icmp .gt 21, 3) := by decide +kernel
theorem d_302_83 : xcode 302 83 = some (.aload_n 0, 1) := by decide +kernel
theorem d_302_84 : xcode 302 84 = some (.getfield 93, 3) := by decide +kernel
theorem d_302_87 : xcode 302 87 = some (.iload_n 3, 1) := by decide +kernel
theorem d_302_88 : xcode 302 88 = some (.aload_n 0, 1) := by decide +kernel
theorem d_302_89 : xcode 302 89 = some (.getfield 90, 3) := by decide +kernel
theorem d_302_92 : xcode 302 92 = some (.iload_n 3, 1) := by decide +kernel
theorem d_302_93 : xcode 302 93 = some (.laload, 1) := by decide +kernel
theorem d_302_94 : xcode 302 94 = some (.lastore, 1) := by decide +kernel
theorem d_302_95 : xcode 302 95 = some (.iinc 3 1, 3) := by decide +kernel
theorem d_302_98 : xcode 302 98 = some (.goto (-20), 3) := by decide +kernel
theorem d_302_101 : xcode 302 101 = some (.iinc 2 1, 3) := by decide +kernel
theorem d_302_104 : xcode 302 104 = some (.goto (-76), 3) := by decide +kernel
theorem d_302_107 : xcode 302 107 = some (.aload_n 0, 1) := by decide +kernel
theorem d_302_108 : xcode 302 108 = some (.getfield 93, 3) := by decide +kernel
theorem d_302_111 : xcode 302 111 = some (.iload_n 1, 1) := by decide +kernel
theorem d_302_112 : xcode 302 112 = some (.laload, 1) := by decide +kernel
theorem d_302_113 : xcode 302 113 = some (.lreturn, 1) := by decide +kernel
theorem d_303_0 : xcode 303 0 = some (.aload_n 0, 1) := by decide +kernel
theorem d_303_1 : xcode 303 1 = some (.iconst 0, 1) := by decide +kernel
theorem d_303_2 : xcode 303 2 = some (.putfield 118, 3) := by decide +kernel
theorem d_303_5 : xcode 303 5 = some (.iload_n 1, 1) := by decide +kernel
theorem d_303_6 : xcode 303 6 = some (.iconst 2, 1) := by decide +kernel
theorem d_303_7 : xcode 303 7 = some (.bipush 22, 2) := by decide +kernel
theorem d_303_9 : xcode 303 9 = some (.invokestatic 137, 3) := by decide +kernel
theorem d_303_12 : xcode 303 12 = some (.ifCond .eq 18, 3) := by decide +kernel
theorem d_303_15 : xcode 303 15 = some (.iload_n 1, 1) := by decide +kernel
theorem d_303_16 : xcode 303 16 = some (.iconst 2, 1) := by decide +kernel
theorem d_303_17 : xcode 303 17 = some (.irem, 1) := by decide +kernel
theorem d_303_18 : xcode 303 18 = some (.iconst 1, 1) := by decide +kernel
theorem d_303_19 : xcode 303 19 = some (.if_icmp .eq 11, 3) := by decide +kernel
theorem d_303_22 : xcode 303 22 = some (.iload_n 1, 1) := by decide +kernel
theorem d_303_23 : xcode 303 23 = some (.aload_n 0, 1) := by decide +kernel
theorem d_303_24 : xcode 303 24 = some (.getfield 20, 3) := by decide +kernel
theorem d_303_27 : xcode 303 27 = some (.if_icmp .le 7, 3) := by decide +kernel
theorem d_303_30 : xcode 303 30 = some (.ldc2_w 166, 3) := by decide +kernel
theorem d_303_33 : xcode 303 33 = some (.lreturn, 1) := by decide +kernel
theorem d_303_34 : xcode 303 34 = some (.lconst 1, 1) := by decide +kernel
theorem d_303_35 : xcode 303 35 = some (.iload_n 1, 1) := by decide +kernel
theorem d_303_36 : xcode 303 36 = some (.lshl, 1) := by decide +kernel
theorem d_303_37 : xcode 303 37 = some (.lconst 1, 1) := by decide +kernel
theorem d_303_38 : xcode 303 38 = some (.iload_n 1, 1) := by decide +kernel
theorem d_303_39 : xcode 303 39 = some (.lshl, 1) := by decide +kernel
theorem d_303_40 : xcode 303 40 = some (.lconst 1, 1) := by decide +kernel
theorem d_303_41 : xcode 303 41 = some (.lsub, 1) := by decide +kernel
theorem d_303_42 : xcode 303 42 = some (.lmul, 1) := by decide +kernel
theorem d_303_43 : xcode 303 43 = some (.lstore_n 2, 1) := by decide +kernel
theorem d_303_44 : xcode 303 44 = some (.aload_n 0, 1) := by decide +kernel
theorem d_303_45 : xcode 303 45 = some (.getfield 13, 3) := by decide +kernel
theorem d_303_48 : xcode 303 48 = some (.iconst 3, 1) := by decide +kernel
theorem d_303_49 : xcode 303 49 = some (.iload_n 1, 1) := by decide +kernel
theorem d_303_50 : xcode 303 50 = some (.imul, 1) := by decide +kernel
theorem d_303_51 : xcode 303 51 = some (.iconst 2, 1) := by decide +kernel
theorem d_303_52 : xcode 303 52 = some (.iadd, 1) := by decide +kernel
theorem d_303_53 : xcode 303 53 = some (.laload, 1) := by decide +kernel
theorem d_303_54 : xcode 303 54 = some (.iload_n 1, 1) := by decide +kernel
theorem d_303_55 : xcode 303 55 = some (.i2l, 1) := by decide +kernel
theorem d_303_56 : xcode 303 56 = some (.lmul, 1) := by decide +kernel
theorem d_303_57 : xcode 303 57 = some (.lstore 4, 2) := by decide +kernel
theorem d_303_59 : xcode 303 59 = some (.lload_n 2, 1) := by decide +kernel
theorem d_303_60 : xcode 303 60 = some (.lload 4, 2) := by decide +kernel
theorem d_303_62 : xcode 303 62 = some (.invokestatic 121, 3) := by decide +kernel
theorem d_303_65 : xcode 303 65 = some (.lstore 6, 2) := by decide +kernel
theorem d_303_67 : xcode 303 67 = some (.aload_n 0, 1) := by decide +kernel
theorem d_303_68 : xcode 303 68 = some (.getfield 13, 3) := by decide +kernel
theorem d_303_71 : xcode 303 71 = some (.iconst 3, 1) := by decide +kernel
theorem d_303_72 : xcode 303 72 = some (.iload_n 1, 1) := by decide +kernel
theorem d_303_73 : xcode 303 73 = some (.imul, 1) := by decide +kernel
theorem d_303_74 : xcode 303 74 = some (.laload, 1) := by decide +kernel
theorem d_303_75 : xcode 303 75 = some (.aload_n 0, 1) := by decide +kernel
theorem d_303_76 : xcode 303 76 = some (.getfield 13, 3) := by decide +kernel
theorem d_303_79 : xcode 303 79 = some (.iconst 3, 1) := by decide +kernel
theorem d_303_80 : xcode 303 80 = some (.iload_n 1, 1) := by decide +kernel
theorem d_303_81 : xcode 303 81 = some (.imul, 1) := by decide +kernel
theorem d_303_82 : xcode 303 82 = some (.iconst 2, 1) := by decide +kernel
theorem d_303_83 : xcode 303 83 = some (.iadd, 1) := by decide +kernel
theorem d_303_84 : xcode 303 84 = some (.laload, 1) := by decide +kernel
theorem d_303_85 : xcode 303 85 = some (.lmul, 1) := by decide +kernel
theorem d_303_86 : xcode 303 86 = some (.aload_n 0, 1) := by decide +kernel
theorem d_303_87 : xcode 303 87 = some (.getfield 13, 3) := by decide +kernel
theorem d_303_90 : xcode 303 90 = some (.iconst 3, 1) := by decide +kernel
theorem d_303_91 : xcode 303 91 = some (.iload_n 1, 1) := by decide +kernel
theorem d_303_92 : xcode 303 92 = some (.imul, 1) := by decide +kernel
theorem d_303_93 : xcode 303 93 = some (.iconst 1, 1) := by decide +kernel
theorem d_303_94 : xcode 303 94 = some (.iadd, 1) := by decide +kernel
theorem d_303_95 : xcode 303 95 = some (.laload, 1) := by decide +kernel
theorem d_303_96 : xcode 303 96 = some (.ladd, 1) := by decide +kernel
theorem d_303_97 : xcode 303 97 = some (.invokestatic 370, 3) := by decide +kernel
theorem d_303_100 : xcode 303 100 = some (.lstore 8, 2) := by decide +kernel
theorem d_303_102 : xcode 303 102 = some (.lload 8, 2) := by decide +kernel
theorem d_303_104 : xcode 303 104 = some (.lload 4, 2) := by decide +kernel
theorem d_303_106 : xcode 303 106 = some (.lload 6, 2) := by decide +kernel
theorem d_303_108 : xcode 303 108 = some (.ldiv, 1) := by decide +kernel
theorem d_303_109 : xcode 303 109 = some (.lrem, 1) := by decide +kernel
theorem d_303_110 : xcode 303 110 = some (.lconst 0, 1) := by decide +kernel
theorem d_303_111 : xcode 303 111 = some (.lcmp, 1) := by decide +kernel
theorem d_303_112 : xcode 303 112 = some (.ifCond .ne 19, 3) := by decide +kernel
theorem d_303_115 : xcode 303 115 = some (.lload_n 2, 1) := by decide +kernel
theorem d_303_116 : xcode 303 116 = some (.lload 6, 2) := by decide +kernel
theorem d_303_118 : xcode 303 118 = some (.ldiv, 1) := by decide +kernel
theorem d_303_119 : xcode 303 119 = some (.lload 8, 2) := by decide +kernel
theorem d_303_121 : xcode 303 121 = some (.lload 4, 2) := by decide +kernel
theorem d_303_123 : xcode 303 123 = some (.lload 6, 2) := by decide +kernel
theorem d_303_125 : xcode 303 125 = some (.ldiv, 1) := by decide +kernel
theorem d_303_126 : xcode 303 126 = some (.ldiv, 1) := by decide +kernel
theorem d_303_127 : xcode 303 127 = some (.lmul, 1) := by decide +kernel
theorem d_303_128 : xcode 303 128 = some (.goto 6, 3) := by decide +kernel
theorem d_303_131 : xcode 303 131 = some (.ldc2_w 166, 3) := by decide +kernel
theorem d_303_134 : xcode 303 134 = some (.lreturn, 1) := by decide +kernel
theorem d_304_0 : xcode 304 0 = some (.lload_n 0, 1) := by decide +kernel
theorem d_304_1 : xcode 304 1 = some (.lconst 0, 1) := by decide +kernel
theorem d_304_2 : xcode 304 2 = some (.lcmp, 1) := by decide +kernel
theorem d_304_3 : xcode 304 3 = some (.ifCond .ge 8, 3) := by decide +kernel
theorem d_304_6 : xcode 304 6 = some (.lload_n 0, 1) := by decide +kernel
theorem d_304_7 : xcode 304 7 = some (.lneg, 1) := by decide +kernel
theorem d_304_8 : xcode 304 8 = some (.goto 4, 3) := by decide +kernel
theorem d_304_11 : xcode 304 11 = some (.lload_n 0, 1) := by decide +kernel
theorem d_304_12 : xcode 304 12 = some (.lreturn, 1) := by decide +kernel
theorem d_305_0 : xcode 305 0 = some (.aload_n 0, 1) := by decide +kernel
theorem d_305_1 : xcode 305 1 = some (.iconst 0, 1) := by decide +kernel
theorem d_305_2 : xcode 305 2 = some (.putfield 118, 3) := by decide +kernel
theorem d_305_5 : xcode 305 5 = some (.iload_n 1, 1) := by decide +kernel
theorem d_305_6 : xcode 305 6 = some (.iconst 4, 1) := by decide +kernel
theorem d_305_7 : xcode 305 7 = some (.bipush 38, 2) := by decide +kernel
theorem d_305_9 : xcode 305 9 = some (.invokestatic 137, 3) := by decide +kernel
theorem d_305_12 : xcode 305 12 = some (.ifCond .eq 10, 3) := by decide +kernel
theorem d_305_15 : xcode 305 15 = some (.iload_n 1, 1) := by decide +kernel
theorem d_305_16 : xcode 305 16 = some (.iconst 2, 1) := by decide +kernel
theorem d_305_17 : xcode 305 17 = some (.irem, 1) := by decide +kernel
theorem d_305_18 : xcode 305 18 = some (.iconst 1, 1) := by decide +kernel
theorem d_305_19 : xcode 305 19 = some (.if_icmp .ne 5, 3) := by decide +kernel
theorem d_305_22 : xcode 305 22 = some (.iconst (-1), 1) := by decide +kernel
theorem d_305_23 : xcode 305 23 = some (.ireturn, 1) := by decide +kernel
theorem d_305_24 : xcode 305 24 = some (.iload_n 1, 1) := by decide +kernel
theorem d_305_25 : xcode 305 25 = some (.aload_n 0, 1) := by decide +kernel
theorem d_305_26 : xcode 305 26 = some (.getfield 20, 3) := by decide +kernel
theorem d_305_29 : xcode 305 29 = some (.if_icmp .le 6, 3) := by decide +kernel
theorem d_305_32 : xcode 305 32 = some (.bipush (-2), 2) := by decide +kernel
theorem d_305_34 : xcode 305 34 = some (.ireturn, 1) := by decide +kernel
theorem d_305_35 : xcode 305 35 = some (.aload_n 0, 1) := by decide +kernel
theorem d_305_36 : xcode 305 36 = some (.getfield 13, 3) := by decide +kernel
theorem d_305_39 : xcode 305 39 = some (.iconst 3, 1) := by decide +kernel
theorem d_305_40 : xcode 305 40 = some (.iload_n 1, 1) := by decide +kernel
theorem d_305_41 : xcode 305 41 = some (.imul, 1) := by decide +kernel
theorem d_305_42 : xcode 305 42 = some (.bipush 6, 2) := by decide +kernel
theorem d_305_44 : xcode 305 44 = some (.isub, 1) := by decide +kernel
theorem d_305_45 : xcode 305 45 = some (.laload, 1) := by decide +kernel
theorem d_305_46 : xcode 305 46 = some (.invokestatic 370, 3) := by decide +kernel
theorem d_305_49 : xcode 305 49 = some (.lstore_n 2, 1) := by decide +kernel
theorem d_305_50 : xcode 305 50 = some (.lload_n 2, 1) := by decide +kernel
theorem d_305_51 : xcode 305 51 = some (.lconst 0, 1) := by decide +kernel
theorem d_305_52 : xcode 305 52 = some (.lcmp, 1) := by decide +kernel
theorem d_305_53 : xcode 305 53 = some (.ifCond .ne 7, 3) := by decide +kernel
theorem d_305_56 : xcode 305 56 = some (.iconst 0, 1) := by decide +kernel
theorem d_305_57 : xcode 305 57 = some (.goto 17, 3) := by decide +kernel
theorem d_305_60 : xcode 305 60 = some (.aload_n 0, 1) := by decide +kernel
theorem d_305_61 : xcode 305 61 = some (.getfield 13, 3) := by decide +kernel
theorem d_305_64 : xcode 305 64 = some (.iconst 3, 1) := by decide +kernel
theorem d_305_65 : xcode 305 65 = some (.iload_n 1, 1) := by decide +kernel
theorem d_305_66 : xcode 305 66 = some (.imul, 1) := by decide +kernel
theorem d_305_67 : xcode 305 67 = some (.laload, 1) := by decide +kernel
theorem d_305_68 : xcode 305 68 = some (.invokestatic 370, 3) := by decide +kernel
theorem d_305_71 : xcode 305 71 = some (.lload_n 2, 1) := by decide +kernel
theorem d_305_72 : xcode 305 72 = some (.ldiv, 1) := by decide +kernel
theorem d_305_73 : xcode 305 73 = some (.l2i, 1) := by decide +kernel
theorem d_305_74 : xcode 305 74 = some (.ireturn, 1) := by decide +kernel
theorem d_306_0 : xcode 306 0 = some (.aload_n 0, 1) := by decide +kernel
theorem d_306_1 : xcode 306 1 = some (.iconst 0, 1) := by decide +kernel
theorem d_306_2 : xcode 306 2 = some (.putfield 118, 3) := by decide +kernel
theorem d_306_5 : xcode 306 5 = some (.iconst 0, 1) := by decide +kernel
theorem d_306_6 : xcode 306 6 = some (.istore_n 2, 1) := by decide +kernel
theorem d_306_7 : xcode 306 7 = some (.iload_n 1, 1) := by decide +kernel
theorem d_306_8 : xcode 306 8 = some (.tableswitch 110 0 3 #[32, 37, 71, 76], 32) := by decide +kernel
theorem d_306_40 : xcode 306 40 = some (.aload_n 0, 1) := by decide +kernel
theorem d_306_41 : xcode 306 41 = some (.getfield 20, 3) := by decide +kernel
theorem d_306_44 : xcode 306 44 = some (.ireturn, 1) := by decide +kernel
theorem d_306_45 : xcode 306 45 = some (.iconst 0, 1) := by decide +kernel
theorem d_306_46 : xcode 306 46 = some (.istore_n 3, 1) := by decide +kernel
theorem d_306_47 : xcode 306 47 = some (.iload_n 3, 1) := by decide +kernel
theorem d_306_48 : xcode 306 48 = some (.aload_n 0, 1) := by decide +kernel
theorem d_306_49 : xcode 306 49 = some (.getfield 20, 3) := by decide +kernel
theorem d_306_52 : xcode 306 52 = some (.if_icmp .gt 25, 3) := by decide +kernel
theorem d_306_55 : xcode 306 55 = some (.iload_n 2, 1) := by decide +kernel
theorem d_306_56 : xcode 306 56 = some (.aload_n 0, 1) := by decide +kernel
theorem d_306_57 : xcode 306 57 = some (.iload_n 3, 1) := by decide +kernel
theorem d_306_58 : xcode 306 58 = some (.invokevirtual 141, 3) := by decide +kernel
theorem d_306_61 : xcode 306 61 = some (.ifCond .eq 7, 3) := by decide +kernel
theorem d_306_64 : xcode 306 64 = some (.iconst 0, 1) := by decide +kernel
theorem d_306_65 : xcode 306 65 = some (.goto 4, 3) := by decide +kernel
theorem d_306_68 : xcode 306 68 = some (.iconst 1, 1) := by decide +kernel
theorem d_306_69 : xcode 306 69 = some (.iadd, 1) := by decide +kernel
theorem d_306_70 : xcode 306 70 = some (.istore_n 2, 1) := by decide +kernel
theorem d_306_71 : xcode 306 71 = some (.iinc 3 1, 3) := by decide +kernel
theorem d_306_74 : xcode 306 74 = some (.goto (-27), 3) := by decide +kernel
theorem d_306_77 : xcode 306 77 = some (.iload_n 2, 1) := by decide +kernel
theorem d_306_78 : xcode 306 78 = some (.ireturn, 1) := by decide +kernel
theorem d_306_79 : xcode 306 79 = some (.aload_n 0, 1) := by decide +kernel
theorem d_306_80 : xcode 306 80 = some (.getfield 178, 3) := by decide +kernel
theorem d_306_83 : xcode 306 83 = some (.ireturn, 1) := by decide +kernel
theorem d_306_84 : xcode 306 84 = some (.iconst 0, 1) := by decide +kernel
theorem d_306_85 : xcode 306 85 = some (.istore_n 3, 1) := by decide +kernel
theorem d_306_86 : xcode 306 86 = some (.iload_n 3, 1) := by decide +kernel
theorem d_306_87 : xcode 306 87 = some (.aload_n 0, 1) := by decide +kernel
theorem d_306_88 : xcode 306 88 = some (.getfield 178, 3) := by decide +kernel
theorem d_306_91 : xcode 306 91 = some (.if_icmp .ge 25, 3) := by decide +kernel
theorem d_306_94 : xcode 306 94 = some (.iload_n 2, 1) := by decide +kernel
theorem d_306_95 : xcode 306 95 = some (.aload_n 0, 1) := by decide +kernel
theorem d_306_96 : xcode 306 96 = some (.iload_n 3, 1) := by decide +kernel
theorem d_306_97 : xcode 306 97 = some (.invokevirtual 196, 3) := by decide +kernel
theorem d_306_100 : xcode 306 100 = some (.ifCond .eq 7, 3) := by decide +kernel
theorem d_306_103 : xcode 306 103 = some (.iconst 0, 1) := by decide +kernel
theorem d_306_104 : xcode 306 104 = some (.goto 4, 3) := by decide +kernel
theorem d_306_107 : xcode 306 107 = some (.iconst 1, 1) := by decide +kernel
theorem d_306_108 : xcode 306 108 = some (.iadd, 1) := by decide +kernel
theorem d_306_109 : xcode 306 109 = some (.istore_n 2, 1) := by decide +kernel
theorem d_306_110 : xcode 306 110 = some (.iinc 3 1, 3) := by decide +kernel
theorem d_306_113 : xcode 306 113 = some (.goto (-27), 3) := by decide +kernel
theorem d_306_116 : xcode 306 116 = some (.iload_n 2, 1) := by decide +kernel
theorem d_306_117 : xcode 306 117 = some (.ireturn, 1) := by decide +kernel
theorem d_306_118 : xcode 306 118 = some (.iconst (-1), 1) := by decide +kernel
theorem d_306_119 : xcode 306 119 = some (.ireturn, 1) := by decide +kernel
