/-! instructions by their places, laid by wip/whole/wp.py -/
theorem d_109_90 : xcode 109 90 = some (.aload_n 0, 1) := by decide +kernel
theorem d_109_91 : xcode 109 91 = some (.getfield 39, 3) := by decide +kernel
theorem d_109_94 : xcode 109 94 = some (.aload_n 0, 1) := by decide +kernel
theorem d_109_95 : xcode 109 95 = some (.getfield 42, 3) := by decide +kernel
theorem d_109_98 : xcode 109 98 = some (.invokevirtual 274, 3) := by decide +kernel
theorem d_109_101 : xcode 109 101 = some (.iload 5, 2) := by decide +kernel
theorem d_109_103 : xcode 109 103 = some (.ifCond .eq 6, 3) := by decide +kernel
theorem d_109_106 : xcode 109 106 = some (.iload 4, 2) := by decide +kernel
theorem d_109_108 : xcode 109 108 = some (.istore_n 3, 1) := by decide +kernel
theorem d_109_109 : xcode 109 109 = some (.iinc 4 1, 3) := by decide +kernel
theorem d_109_112 : xcode 109 112 = some (.goto (-80), 3) := by decide +kernel
theorem d_109_115 : xcode 109 115 = some (.iload_n 3, 1) := by decide +kernel
theorem d_109_116 : xcode 109 116 = some (.ireturn, 1) := by decide +kernel
theorem d_110_0 : xcode 110 0 = some (.iconst 0, 1) := by decide +kernel
theorem d_110_1 : xcode 110 1 = some (.istore_n 2, 1) := by decide +kernel
theorem d_110_2 : xcode 110 2 = some (.iload_n 2, 1) := by decide +kernel
theorem d_110_3 : xcode 110 3 = some (.aload_n 0, 1) := by decide +kernel
theorem d_110_4 : xcode 110 4 = some (.getfield 49, 3) := by decide +kernel
theorem d_110_7 : xcode 110 7 = some (.if_icmp .gt 23, 3) := by decide +kernel
theorem d_110_10 : xcode 110 10 = some (.aload_n 0, 1) := by decide +kernel
theorem d_110_11 : xcode 110 11 = some (.getfield 58, 3) := by decide +kernel
theorem d_110_14 : xcode 110 14 = some (.iload_n 2, 1) := by decide +kernel
theorem d_110_15 : xcode 110 15 = some (.iload_n 1, 1) := by decide +kernel
theorem d_110_16 : xcode 110 16 = some (.invokevirtual 142, 3) := by decide +kernel
theorem d_110_19 : xcode 110 19 = some (.ifCond .eq 5, 3) := by decide +kernel
theorem d_110_22 : xcode 110 22 = some (.iconst 0, 1) := by decide +kernel
theorem d_110_23 : xcode 110 23 = some (.ireturn, 1) := by decide +kernel
theorem d_110_24 : xcode 110 24 = some (.iinc 2 1, 3) := by decide +kernel
theorem d_110_27 : xcode 110 27 = some (.goto (-25), 3) := by decide +kernel
theorem d_110_30 : xcode 110 30 = some (.iconst 1, 1) := by decide +kernel
theorem d_110_31 : xcode 110 31 = some (.ireturn, 1) := by decide +kernel
theorem d_111_0 : xcode 111 0 = some (.aload_n 1, 1) := by decide +kernel
theorem d_111_1 : xcode 111 1 = some (.getfield 9, 3) := by decide +kernel
theorem d_111_4 : xcode 111 4 = some (.iconst 0, 1) := by decide +kernel
theorem d_111_5 : xcode 111 5 = some (.aload_n 0, 1) := by decide +kernel
theorem d_111_6 : xcode 111 6 = some (.getfield 9, 3) := by decide +kernel
theorem d_111_9 : xcode 111 9 = some (.iconst 0, 1) := by decide +kernel
theorem d_111_10 : xcode 111 10 = some (.bipush 39, 2) := by decide +kernel
theorem d_111_12 : xcode 111 12 = some (.invokestatic 62, 3) := by decide +kernel
theorem d_111_15 : xcode 111 15 = some (.aload_n 1, 1) := by decide +kernel
theorem d_111_16 : xcode 111 16 = some (.getfield 15, 3) := by decide +kernel
theorem d_111_19 : xcode 111 19 = some (.iconst 0, 1) := by decide +kernel
theorem d_111_20 : xcode 111 20 = some (.aload_n 0, 1) := by decide +kernel
theorem d_111_21 : xcode 111 21 = some (.getfield 15, 3) := by decide +kernel
theorem d_111_24 : xcode 111 24 = some (.iconst 0, 1) := by decide +kernel
theorem d_111_25 : xcode 111 25 = some (.bipush 39, 2) := by decide +kernel
theorem d_111_27 : xcode 111 27 = some (.invokestatic 62, 3) := by decide +kernel
theorem d_111_30 : xcode 111 30 = some (.aload_n 1, 1) := by decide +kernel
theorem d_111_31 : xcode 111 31 = some (.getfield 18, 3) := by decide +kernel
theorem d_111_34 : xcode 111 34 = some (.iconst 0, 1) := by decide +kernel
theorem d_111_35 : xcode 111 35 = some (.aload_n 0, 1) := by decide +kernel
theorem d_111_36 : xcode 111 36 = some (.getfield 18, 3) := by decide +kernel
theorem d_111_39 : xcode 111 39 = some (.iconst 0, 1) := by decide +kernel
theorem d_111_40 : xcode 111 40 = some (.bipush 39, 2) := by decide +kernel
theorem d_111_42 : xcode 111 42 = some (.invokestatic 62, 3) := by decide +kernel
theorem d_111_45 : xcode 111 45 = some (.return_, 1) := by decide +kernel
theorem d_112_0 : xcode 112 0 = some (.iload_n 1, 1) := by decide +kernel
theorem d_112_1 : xcode 112 1 = some (.ifCond .lt 21, 3) := by decide +kernel
theorem d_112_4 : xcode 112 4 = some (.iload_n 2, 1) := by decide +kernel
theorem d_112_5 : xcode 112 5 = some (.iconst 1, 1) := by decide +kernel
theorem d_112_6 : xcode 112 6 = some (.if_icmp .lt 16, 3) := by decide +kernel
theorem d_112_9 : xcode 112 9 = some (.iload_n 2, 1) := by decide +kernel
theorem d_112_10 : xcode 112 10 = some (.bipush 20, 2) := by decide +kernel
theorem d_112_12 : xcode 112 12 = some (.if_icmp .gt 10, 3) := by decide +kernel
theorem d_112_15 : xcode 112 15 = some (.iload_n 3, 1) := by decide +kernel
theorem d_112_16 : xcode 112 16 = some (.invokestatic 146, 3) := by decide +kernel
theorem d_112_19 : xcode 112 19 = some (.ifCond .ne 5, 3) := by decide +kernel
theorem d_112_22 : xcode 112 22 = some (.iconst (-1), 1) := by decide +kernel
theorem d_112_23 : xcode 112 23 = some (.ireturn, 1) := by decide +kernel
theorem d_112_24 : xcode 112 24 = some (.aload_n 0, 1) := by decide +kernel
theorem d_112_25 : xcode 112 25 = some (.getfield 49, 3) := by decide +kernel
theorem d_112_28 : xcode 112 28 = some (.ifCond .ge 6, 3) := by decide +kernel
theorem d_112_31 : xcode 112 31 = some (.bipush (-2), 2) := by decide +kernel
theorem d_112_33 : xcode 112 33 = some (.ireturn, 1) := by decide +kernel
theorem d_112_34 : xcode 112 34 = some (.aload_n 0, 1) := by decide +kernel
theorem d_112_35 : xcode 112 35 = some (.getfield 42, 3) := by decide +kernel
theorem d_112_38 : xcode 112 38 = some (.aload_n 0, 1) := by decide +kernel
theorem d_112_39 : xcode 112 39 = some (.getfield 39, 3) := by decide +kernel
theorem d_112_42 : xcode 112 42 = some (.invokevirtual 274, 3) := by decide +kernel
theorem d_112_45 : xcode 112 45 = some (.aload_n 0, 1) := by decide +kernel
theorem d_112_46 : xcode 112 46 = some (.iload_n 1, 1) := by decide +kernel
theorem d_112_47 : xcode 112 47 = some (.iload_n 2, 1) := by decide +kernel
theorem d_112_48 : xcode 112 48 = some (.invokevirtual 278, 3) := by decide +kernel
theorem d_112_51 : xcode 112 51 = some (.iconst 0, 1) := by decide +kernel
theorem d_112_52 : xcode 112 52 = some (.istore 4, 2) := by decide +kernel
theorem d_112_54 : xcode 112 54 = some (.iconst 0, 1) := by decide +kernel
theorem d_112_55 : xcode 112 55 = some (.istore 5, 2) := by decide +kernel
theorem d_112_57 : xcode 112 57 = some (.iload 5, 2) := by decide +kernel
theorem d_112_59 : xcode 112 59 = some (.aload_n 0, 1) := by decide +kernel
theorem d_112_60 : xcode 112 60 = some (.getfield 49, 3) := by decide +kernel
theorem d_112_63 : xcode 112 63 = some (.if_icmp .gt 34, 3) := by decide +kernel
theorem d_112_66 : xcode 112 66 = some (.aload_n 0, 1) := by decide +kernel
theorem d_112_67 : xcode 112 67 = some (.iload 5, 2) := by decide +kernel
theorem d_112_69 : xcode 112 69 = some (.invokevirtual 174, 3) := by decide +kernel
theorem d_112_72 : xcode 112 72 = some (.ifCond .ne 19, 3) := by decide +kernel
theorem d_112_75 : xcode 112 75 = some (.aload_n 0, 1) := by decide +kernel
theorem d_112_76 : xcode 112 76 = some (.getfield 58, 3) := by decide +kernel
theorem d_112_79 : xcode 112 79 = some (.iload 5, 2) := by decide +kernel
theorem d_112_81 : xcode 112 81 = some (.iload_n 3, 1) := by decide +kernel
theorem d_112_82 : xcode 112 82 = some (.invokevirtual 142, 3) := by decide +kernel
theorem d_112_85 : xcode 112 85 = some (.ifCond .eq 6, 3) := by decide +kernel
theorem d_112_88 : xcode 112 88 = some (.iinc 4 1, 3) := by decide +kernel
theorem d_112_91 : xcode 112 91 = some (.iinc 5 1, 3) := by decide +kernel
theorem d_112_94 : xcode 112 94 = some (.goto (-37), 3) := by decide +kernel
theorem d_112_97 : xcode 112 97 = some (.aload_n 0, 1) := by decide +kernel
theorem d_112_98 : xcode 112 98 = some (.getfield 39, 3) := by decide +kernel
theorem d_112_101 : xcode 112 101 = some (.aload_n 0, 1) := by decide +kernel
theorem d_112_102 : xcode 112 102 = some (.getfield 42, 3) := by decide +kernel
theorem d_112_105 : xcode 112 105 = some (.invokevirtual 274, 3) := by decide +kernel
theorem d_112_108 : xcode 112 108 = some (.iload 4, 2) := by decide +kernel
theorem d_112_110 : xcode 112 110 = some (.ireturn, 1) := by decide +kernel
theorem d_113_0 : xcode 113 0 = some (.iload_n 1, 1) := by decide +kernel
theorem d_113_1 : xcode 113 1 = some (.i2l, 1) := by decide +kernel
theorem d_113_2 : xcode 113 2 = some (.lstore_n 3, 1) := by decide +kernel
theorem d_113_3 : xcode 113 3 = some (.iconst 0, 1) := by decide +kernel
theorem d_113_4 : xcode 113 4 = some (.istore 5, 2) := by decide +kernel
theorem d_113_6 : xcode 113 6 = some (.iload 5, 2) := by decide +kernel
theorem d_113_8 : xcode 113 8 = some (.iload_n 2, 1) := by decide +kernel
theorem d_113_9 : xcode 113 9 = some (.if_icmp .ge 93, 3) := by decide +kernel
theorem d_113_12 : xcode 113 12 = some (.lload_n 3, 1) := by decide +kernel
theorem d_113_13 : xcode 113 13 = some (.invokestatic 447, 3) := by decide +kernel
theorem d_113_16 : xcode 113 16 = some (.lstore_n 3, 1) := by decide +kernel
theorem d_113_17 : xcode 113 17 = some (.lload_n 3, 1) := by decide +kernel
theorem d_113_18 : xcode 113 18 = some (.bipush 16, 2) := by decide +kernel
theorem d_113_20 : xcode 113 20 = some (.lshr, 1) := by decide +kernel
theorem d_113_21 : xcode 113 21 = some (.aload_n 0, 1) := by decide +kernel
theorem d_113_22 : xcode 113 22 = some (.getfield 49, 3) := by decide +kernel
theorem d_113_25 : xcode 113 25 = some (.i2l, 1) := by decide +kernel
theorem d_113_26 : xcode 113 26 = some (.lconst 1, 1) := by decide +kernel
theorem d_113_27 : xcode 113 27 = some (.ladd, 1) := by decide +kernel
theorem d_113_28 : xcode 113 28 = some (.lrem, 1) := by decide +kernel
theorem d_113_29 : xcode 113 29 = some (.l2i, 1) := by decide +kernel
theorem d_113_30 : xcode 113 30 = some (.istore 6, 2) := by decide +kernel
theorem d_113_32 : xcode 113 32 = some (.lload_n 3, 1) := by decide +kernel
theorem d_113_33 : xcode 113 33 = some (.invokestatic 447, 3) := by decide +kernel
theorem d_113_36 : xcode 113 36 = some (.lstore_n 3, 1) := by decide +kernel
theorem d_113_37 : xcode 113 37 = some (.lload_n 3, 1) := by decide +kernel
theorem d_113_38 : xcode 113 38 = some (.bipush 16, 2) := by decide +kernel
theorem d_113_40 : xcode 113 40 = some (.lshr, 1) := by decide +kernel
theorem d_113_41 : xcode 113 41 = some (.ldc2_w 450, 3) := by decide +kernel
theorem d_113_44 : xcode 113 44 = some (.lrem, 1) := by decide +kernel
theorem d_113_45 : xcode 113 45 = some (.lconst 1, 1) := by decide +kernel
theorem d_113_46 : xcode 113 46 = some (.ladd, 1) := by decide +kernel
theorem d_113_47 : xcode 113 47 = some (.lstore 7, 2) := by decide +kernel
theorem d_113_49 : xcode 113 49 = some (.lload_n 3, 1) := by decide +kernel
theorem d_113_50 : xcode 113 50 = some (.invokestatic 447, 3) := by decide +kernel
theorem d_113_53 : xcode 113 53 = some (.lstore_n 3, 1) := by decide +kernel
theorem d_113_54 : xcode 113 54 = some (.lload_n 3, 1) := by decide +kernel
theorem d_113_55 : xcode 113 55 = some (.bipush 16, 2) := by decide +kernel
theorem d_113_57 : xcode 113 57 = some (.lshr, 1) := by decide +kernel
theorem d_113_58 : xcode 113 58 = some (.ldc2_w 389, 3) := by decide +kernel
theorem d_113_61 : xcode 113 61 = some (.lrem, 1) := by decide +kernel
theorem d_113_62 : xcode 113 62 = some (.lconst 1, 1) := by decide +kernel
theorem d_113_63 : xcode 113 63 = some (.lcmp, 1) := by decide +kernel
theorem d_113_64 : xcode 113 64 = some (.ifCond .ne 7, 3) := by decide +kernel
theorem d_113_67 : xcode 113 67 = some (.iconst 1, 1) := by decide +kernel
theorem d_113_68 : xcode 113 68 = some (.goto 4, 3) := by decide +kernel
theorem d_113_71 : xcode 113 71 = some (.iconst 0, 1) := by decide +kernel
theorem d_113_72 : xcode 113 72 = some (.istore 9, 2) := by decide +kernel
theorem d_113_74 : xcode 113 74 = some (.aload_n 0, 1) := by decide +kernel
theorem d_113_75 : xcode 113 75 = some (.getfield 39, 3) := by decide +kernel
theorem d_113_78 : xcode 113 78 = some (.iload 6, 2) := by decide +kernel
theorem d_113_80 : xcode 113 80 = some (.iload 9, 2) := by decide +kernel
theorem d_113_82 : xcode 113 82 = some (.ifCond .eq 9, 3) := by decide +kernel
theorem d_113_85 : xcode 113 85 = some (.lload 7, 2) := by decide +kernel
theorem d_113_87 : xcode 113 87 = some (.lneg, 1) := by decide +kernel
theorem d_113_88 : xcode 113 88 = some (.goto 5, 3) := by decide +kernel
theorem d_113_91 : xcode 113 91 = some (.lload 7, 2) := by decide +kernel
theorem d_113_93 : xcode 113 93 = some (.invokevirtual 134, 3) := by decide +kernel
theorem d_113_96 : xcode 113 96 = some (.iinc 5 1, 3) := by decide +kernel
theorem d_113_99 : xcode 113 99 = some (.goto (-93), 3) := by decide +kernel
theorem d_113_102 : xcode 113 102 = some (.return_, 1) := by decide +kernel
theorem d_114_0 : xcode 114 0 = some (.lload_n 0, 1) := by decide +kernel
theorem d_114_1 : xcode 114 1 = some (.ldc2_w 452, 3) := by decide +kernel
theorem d_114_4 : xcode 114 4 = some (.lmul, 1) := by decide +kernel
theorem d_114_5 : xcode 114 5 = some (.ldc2_w 454, 3) := by decide +kernel
theorem d_114_8 : xcode 114 8 = some (.ladd, 1) := by decide +kernel
theorem d_114_9 : xcode 114 9 = some (.ldc2_w 456, 3) := by decide +kernel
theorem d_114_12 : xcode 114 12 = some (.land, 1) := by decide +kernel
theorem d_114_13 : xcode 114 13 = some (.lreturn, 1) := by decide +kernel
theorem d_115_0 : xcode 115 0 = some (.iload_n 1, 1) := by decide +kernel
theorem d_115_1 : xcode 115 1 = some (.iconst 1, 1) := by decide +kernel
theorem d_115_2 : xcode 115 2 = some (.if_icmp .lt 18, 3) := by decide +kernel
theorem d_115_5 : xcode 115 5 = some (.aload_n 0, 1) := by decide +kernel
theorem d_115_6 : xcode 115 6 = some (.iload_n 1, 1) := by decide +kernel
theorem d_115_7 : xcode 115 7 = some (.invokevirtual 163, 3) := by decide +kernel
theorem d_115_10 : xcode 115 10 = some (.ifCond .eq 10, 3) := by decide +kernel
theorem d_115_13 : xcode 115 13 = some (.iload_n 2, 1) := by decide +kernel
theorem d_115_14 : xcode 115 14 = some (.invokestatic 153, 3) := by decide +kernel
theorem d_115_17 : xcode 115 17 = some (.ifCond .ne 7, 3) := by decide +kernel
theorem d_115_20 : xcode 115 20 = some (.ldc2_w 166, 3) := by decide +kernel
theorem d_115_23 : xcode 115 23 = some (.lreturn, 1) := by decide +kernel
theorem d_115_24 : xcode 115 24 = some (.aload_n 0, 1) := by decide +kernel
theorem d_115_25 : xcode 115 25 = some (.getfield 58, 3) := by decide +kernel
theorem d_115_28 : xcode 115 28 = some (.iload_n 1, 1) := by decide +kernel
theorem d_115_29 : xcode 115 29 = some (.iload_n 1, 1) := by decide +kernel
theorem d_115_30 : xcode 115 30 = some (.invokevirtual 281, 3) := by decide +kernel
theorem d_115_33 : xcode 115 33 = some (.aload_n 0, 1) := by decide +kernel
theorem d_115_34 : xcode 115 34 = some (.getfield 21, 3) := by decide +kernel
theorem d_115_37 : xcode 115 37 = some (.aload_n 0, 1) := by decide +kernel
theorem d_115_38 : xcode 115 38 = some (.getfield 95, 3) := by decide +kernel
theorem d_115_41 : xcode 115 41 = some (.invokevirtual 214, 3) := by decide +kernel
theorem d_115_44 : xcode 115 44 = some (.aload_n 0, 1) := by decide +kernel
theorem d_115_45 : xcode 115 45 = some (.getfield 95, 3) := by decide +kernel
theorem d_115_48 : xcode 115 48 = some (.iload_n 2, 1) := by decide +kernel
theorem d_115_49 : xcode 115 49 = some (.invokevirtual 171, 3) := by decide +kernel
theorem d_115_52 : xcode 115 52 = some (.lreturn, 1) := by decide +kernel
theorem d_116_0 : xcode 116 0 = some (.iload_n 0, 1) := by decide +kernel
theorem d_116_1 : xcode 116 1 = some (.ifCond .lt 12, 3) := by decide +kernel
theorem d_116_4 : xcode 116 4 = some (.iload_n 0, 1) := by decide +kernel
theorem d_116_5 : xcode 116 5 = some (.iconst 2, 1) := by decide +kernel
theorem d_116_6 : xcode 116 6 = some (.if_icmp .gt 7, 3) := by decide +kernel
theorem d_116_9 : xcode 116 9 = some (.iconst 1, 1) := by decide +kernel
theorem d_116_10 : xcode 116 10 = some (.goto 4, 3) := by decide +kernel
theorem d_116_13 : xcode 116 13 = some (.iconst 0, 1) := by decide +kernel
theorem d_116_14 : xcode 116 14 = some (.ireturn, 1) := by decide +kernel
theorem d_117_0 : xcode 117 0 = some (.iload_n 1, 1) := by decide +kernel
theorem d_117_1 : xcode 117 1 = some (.ifCond .ne 8, 3) := by decide +kernel
theorem d_117_4 : xcode 117 4 = some (.aload_n 0, 1) := by decide +kernel
theorem d_117_5 : xcode 117 5 = some (.getfield 25, 3) := by decide +kernel
theorem d_117_8 : xcode 117 8 = some (.lreturn, 1) := by decide +kernel
theorem d_117_9 : xcode 117 9 = some (.iload_n 1, 1) := by decide +kernel
theorem d_117_10 : xcode 117 10 = some (.iconst 1, 1) := by decide +kernel
theorem d_117_11 : xcode 117 11 = some (.if_icmp .ne 10, 3) := by decide +kernel
theorem d_117_14 : xcode 117 14 = some (.aload_n 0, 1) := by decide +kernel
theorem d_117_15 : xcode 117 15 = some (.getfield 28, 3) := by decide +kernel
theorem d_117_18 : xcode 117 18 = some (.goto 7, 3) := by decide +kernel
theorem d_117_21 : xcode 117 21 = some (.aload_n 0, 1) := by decide +kernel
theorem d_117_22 : xcode 117 22 = some (.getfield 7, 3) := by decide +kernel
theorem d_117_25 : xcode 117 25 = some (.lreturn, 1) := by decide +kernel
theorem d_118_0 : xcode 118 0 = some (.iload_n 1, 1) := by decide +kernel
theorem d_118_1 : xcode 118 1 = some (.ifCond .lt 28, 3) := by decide +kernel
theorem d_118_4 : xcode 118 4 = some (.iload_n 2, 1) := by decide +kernel
theorem d_118_5 : xcode 118 5 = some (.ifCond .lt 24, 3) := by decide +kernel
theorem d_118_8 : xcode 118 8 = some (.iload_n 1, 1) := by decide +kernel
theorem d_118_9 : xcode 118 9 = some (.bipush 38, 2) := by decide +kernel
theorem d_118_11 : xcode 118 11 = some (.if_icmp .gt 18, 3) := by decide +kernel
theorem d_118_14 : xcode 118 14 = some (.iload_n 2, 1) := by decide +kernel
theorem d_118_15 : xcode 118 15 = some (.bipush 38, 2) := by decide +kernel
theorem d_118_17 : xcode 118 17 = some (.iload_n 1, 1) := by decide +kernel
theorem d_118_18 : xcode 118 18 = some (.isub, 1) := by decide +kernel
theorem d_118_19 : xcode 118 19 = some (.if_icmp .gt 10, 3) := by decide +kernel
theorem d_118_22 : xcode 118 22 = some (.iload_n 3, 1) := by decide +kernel
theorem d_118_23 : xcode 118 23 = some (.invokestatic 153, 3) := by decide +kernel
theorem d_118_26 : xcode 118 26 = some (.ifCond .ne 7, 3) := by decide +kernel
theorem d_118_29 : xcode 118 29 = some (.ldc2_w 166, 3) := by decide +kernel
theorem d_118_32 : xcode 118 32 = some (.lreturn, 1) := by decide +kernel
theorem d_118_33 : xcode 118 33 = some (.aload_n 0, 1) := by decide +kernel
theorem d_118_34 : xcode 118 34 = some (.getfield 28, 3) := by decide +kernel
theorem d_118_37 : xcode 118 37 = some (.iload_n 1, 1) := by decide +kernel
theorem d_118_38 : xcode 118 38 = some (.iload_n 2, 1) := by decide +kernel
theorem d_118_39 : xcode 118 39 = some (.iadd, 1) := by decide +kernel
theorem d_118_40 : xcode 118 40 = some (.invokevirtual 106, 3) := by decide +kernel
theorem d_118_43 : xcode 118 43 = some (.iconst 0, 1) := by decide +kernel
theorem d_118_44 : xcode 118 44 = some (.istore 4, 2) := by decide +kernel
theorem d_118_46 : xcode 118 46 = some (.iload 4, 2) := by decide +kernel
theorem d_118_48 : xcode 118 48 = some (.iload_n 1, 1) := by decide +kernel
theorem d_118_49 : xcode 118 49 = some (.if_icmp .ge 16, 3) := by decide +kernel
theorem d_118_52 : xcode 118 52 = some (.aload_n 0, 1) := by decide +kernel
theorem d_118_53 : xcode 118 53 = some (.getfield 28, 3) := by decide +kernel
theorem d_118_56 : xcode 118 56 = some (.invokevirtual 117, 3) := by decide +kernel
theorem d_118_59 : xcode 118 59 = some (.iinc 4 1, 3) := by decide +kernel
theorem d_118_62 : xcode 118 62 = some (.goto (-16), 3) := by decide +kernel
theorem d_118_65 : xcode 118 65 = some (.aload_n 0, 1) := by decide +kernel
theorem d_118_66 : xcode 118 66 = some (.getfield 28, 3) := by decide +kernel
theorem d_118_69 : xcode 118 69 = some (.iload_n 2, 1) := by decide +kernel
theorem d_118_70 : xcode 118 70 = some (.aload_n 0, 1) := by decide +kernel
theorem d_118_71 : xcode 118 71 = some (.getfield 95, 3) := by decide +kernel
theorem d_118_74 : xcode 118 74 = some (.invokevirtual 284, 3) := by decide +kernel
theorem d_118_77 : xcode 118 77 = some (.aload_n 0, 1) := by decide +kernel
theorem d_118_78 : xcode 118 78 = some (.getfield 95, 3) := by decide +kernel
theorem d_118_81 : xcode 118 81 = some (.iload_n 3, 1) := by decide +kernel
theorem d_118_82 : xcode 118 82 = some (.invokevirtual 171, 3) := by decide +kernel
theorem d_118_85 : xcode 118 85 = some (.lreturn, 1) := by decide +kernel
theorem d_119_0 : xcode 119 0 = some (.iload_n 1, 1) := by decide +kernel
theorem d_119_1 : xcode 119 1 = some (.iconst 1, 1) := by decide +kernel
theorem d_119_2 : xcode 119 2 = some (.if_icmp .ge 5, 3) := by decide +kernel
theorem d_119_5 : xcode 119 5 = some (.iconst (-1), 1) := by decide +kernel
theorem d_119_6 : xcode 119 6 = some (.ireturn, 1) := by decide +kernel
theorem d_119_7 : xcode 119 7 = some (.iconst 2, 1) := by decide +kernel
theorem d_119_8 : xcode 119 8 = some (.istore_n 2, 1) := by decide +kernel
theorem d_119_9 : xcode 119 9 = some (.iload_n 2, 1) := by decide +kernel
theorem d_119_10 : xcode 119 10 = some (.bipush 38, 2) := by decide +kernel
theorem d_119_12 : xcode 119 12 = some (.if_icmp .gt 25, 3) := by decide +kernel
theorem d_119_15 : xcode 119 15 = some (.aload_n 0, 1) := by decide +kernel
theorem d_119_16 : xcode 119 16 = some (.getfield 35, 3) := by decide +kernel
theorem d_119_19 : xcode 119 19 = some (.iload_n 2, 1) := by decide +kernel
theorem d_119_20 : xcode 119 20 = some (.invokevirtual 204, 3) := by decide +kernel
theorem d_119_23 : xcode 119 23 = some (.iload_n 1, 1) := by decide +kernel
theorem d_119_24 : xcode 119 24 = some (.i2l, 1) := by decide +kernel
theorem d_119_25 : xcode 119 25 = some (.lcmp, 1) := by decide +kernel
theorem d_119_26 : xcode 119 26 = some (.ifCond .ne 5, 3) := by decide +kernel
theorem d_119_29 : xcode 119 29 = some (.iload_n 2, 1) := by decide +kernel
theorem d_119_30 : xcode 119 30 = some (.ireturn, 1) := by decide +kernel
theorem d_119_31 : xcode 119 31 = some (.iinc 2 2, 3) := by decide +kernel
theorem d_119_34 : xcode 119 34 = some (.goto (-25), 3) := by decide +kernel
theorem d_119_37 : xcode 119 37 = some (.bipush (-2), 2) := by decide +kernel
theorem d_119_39 : xcode 119 39 = some (.ireturn, 1) := by decide +kernel
theorem d_120_0 : xcode 120 0 = some (.iload_n 1, 1) := by decide +kernel
theorem d_120_1 : xcode 120 1 = some (.invokestatic 222, 3) := by decide +kernel
theorem d_120_4 : xcode 120 4 = some (.ifCond .ne 5, 3) := by decide +kernel
theorem d_120_7 : xcode 120 7 = some (.iconst (-1), 1) := by decide +kernel
theorem d_120_8 : xcode 120 8 = some (.ireturn, 1) := by decide +kernel
theorem d_120_9 : xcode 120 9 = some (.aload_n 0, 1) := by decide +kernel
theorem d_120_10 : xcode 120 10 = some (.getfield 81, 3) := by decide +kernel
theorem d_120_13 : xcode 120 13 = some (.iload_n 1, 1) := by decide +kernel
theorem d_120_14 : xcode 120 14 = some (.invokevirtual 287, 3) := by decide +kernel
theorem d_120_17 : xcode 120 17 = some (.aload_n 0, 1) := by decide +kernel
theorem d_120_18 : xcode 120 18 = some (.getfield 81, 3) := by decide +kernel
theorem d_120_21 : xcode 120 21 = some (.iload_n 1, 1) := by decide +kernel
theorem d_120_22 : xcode 120 22 = some (.invokevirtual 290, 3) := by decide +kernel
theorem d_120_25 : xcode 120 25 = some (.ireturn, 1) := by decide +kernel
theorem d_121_0 : xcode 121 0 = some (.aload_n 0, 1) := by decide +kernel
theorem d_121_1 : xcode 121 1 = some (.getfield 18, 3) := by decide +kernel
theorem d_121_4 : xcode 121 4 = some (.ifCond .le 51, 3) := by decide +kernel
theorem d_121_7 : xcode 121 7 = some (.aload_n 0, 1) := by decide +kernel
theorem d_121_8 : xcode 121 8 = some (.getfield 18, 3) := by decide +kernel
theorem d_121_11 : xcode 121 11 = some (.getstatic 29, 3) := by decide +kernel
theorem d_121_14 : xcode 121 14 = some (.arraylength, 1) := by decide +kernel
theorem d_121_15 : xcode 121 15 = some (.if_icmp .ge 40, 3) := by decide +kernel
theorem d_121_18 : xcode 121 18 = some (.getstatic 29, 3) := by decide +kernel
theorem d_121_21 : xcode 121 21 = some (.aload_n 0, 1) := by decide +kernel
theorem d_121_22 : xcode 121 22 = some (.getfield 18, 3) := by decide +kernel
theorem d_121_25 : xcode 121 25 = some (.iaload, 1) := by decide +kernel
theorem d_121_26 : xcode 121 26 = some (.iload_n 1, 1) := by decide +kernel
theorem d_121_27 : xcode 121 27 = some (.if_icmp .gt 28, 3) := by decide +kernel
theorem d_121_30 : xcode 121 30 = some (.aload_n 0, 1) := by decide +kernel
theorem d_121_31 : xcode 121 31 = some (.getstatic 29, 3) := by decide +kernel
theorem d_121_34 : xcode 121 34 = some (.aload_n 0, 1) := by decide +kernel
theorem d_121_35 : xcode 121 35 = some (.getfield 18, 3) := by decide +kernel
theorem d_121_38 : xcode 121 38 = some (.iaload, 1) := by decide +kernel
theorem d_121_39 : xcode 121 39 = some (.invokevirtual 32, 3) := by decide +kernel
theorem d_121_42 : xcode 121 42 = some (.aload_n 0, 1) := by decide +kernel
theorem d_121_43 : xcode 121 43 = some (.dup, 1) := by decide +kernel
theorem d_121_44 : xcode 121 44 = some (.getfield 18, 3) := by decide +kernel
theorem d_121_47 : xcode 121 47 = some (.iconst 1, 1) := by decide +kernel
theorem d_121_48 : xcode 121 48 = some (.iadd, 1) := by decide +kernel
theorem d_121_49 : xcode 121 49 = some (.putfield 18, 3) := by decide +kernel
theorem d_121_52 : xcode 121 52 = some (.goto (-52), 3) := by decide +kernel
theorem d_121_55 : xcode 121 55 = some (.return_, 1) := by decide +kernel
theorem d_122_0 : xcode 122 0 = some (.aload_n 0, 1) := by decide +kernel
theorem d_122_1 : xcode 122 1 = some (.getfield 22, 3) := by decide +kernel
theorem d_122_4 : xcode 122 4 = some (.iload_n 1, 1) := by decide +kernel
theorem d_122_5 : xcode 122 5 = some (.iconst 2, 1) := by decide +kernel
theorem d_122_6 : xcode 122 6 = some (.invokevirtual 36, 3) := by decide +kernel
theorem d_122_9 : xcode 122 9 = some (.iconst 2, 1) := by decide +kernel
theorem d_122_10 : xcode 122 10 = some (.istore_n 2, 1) := by decide +kernel
theorem d_122_11 : xcode 122 11 = some (.iload_n 2, 1) := by decide +kernel
theorem d_122_12 : xcode 122 12 = some (.iload_n 1, 1) := by decide +kernel
theorem d_122_13 : xcode 122 13 = some (.iconst 3, 1) := by decide +kernel
theorem d_122_14 : xcode 122 14 = some (.isub, 1) := by decide +kernel
theorem d_122_15 : xcode 122 15 = some (.if_icmp .gt 61, 3) := by decide +kernel
theorem d_122_18 : xcode 122 18 = some (.aload_n 0, 1) := by decide +kernel
theorem d_122_19 : xcode 122 19 = some (.getfield 26, 3) := by decide +kernel
theorem d_122_22 : xcode 122 22 = some (.bipush 100, 2) := by decide +kernel
theorem d_122_24 : xcode 122 24 = some (.if_icmp .ge 52, 3) := by decide +kernel
theorem d_122_27 : xcode 122 27 = some (.aload_n 0, 1) := by decide +kernel
theorem d_122_28 : xcode 122 28 = some (.getfield 22, 3) := by decide +kernel
theorem d_122_31 : xcode 122 31 = some (.iload_n 2, 1) := by decide +kernel
theorem d_122_32 : xcode 122 32 = some (.invokevirtual 42, 3) := by decide +kernel
theorem d_122_35 : xcode 122 35 = some (.lconst 0, 1) := by decide +kernel
theorem d_122_36 : xcode 122 36 = some (.lcmp, 1) := by decide +kernel
theorem d_122_37 : xcode 122 37 = some (.ifCond .ne 33, 3) := by decide +kernel
theorem d_122_40 : xcode 122 40 = some (.aload_n 0, 1) := by decide +kernel
theorem d_122_41 : xcode 122 41 = some (.getfield 11, 3) := by decide +kernel
theorem d_122_44 : xcode 122 44 = some (.aload_n 0, 1) := by decide +kernel
theorem d_122_45 : xcode 122 45 = some (.getfield 26, 3) := by decide +kernel
theorem d_122_48 : xcode 122 48 = some (.iload_n 1, 1) := by decide +kernel
theorem d_122_49 : xcode 122 49 = some (.iastore, 1) := by decide +kernel
theorem d_122_50 : xcode 122 50 = some (.aload_n 0, 1) := by decide +kernel
theorem d_122_51 : xcode 122 51 = some (.getfield 15, 3) := by decide +kernel
theorem d_122_54 : xcode 122 54 = some (.aload_n 0, 1) := by decide +kernel
theorem d_122_55 : xcode 122 55 = some (.getfield 26, 3) := by decide +kernel
theorem d_122_58 : xcode 122 58 = some (.iload_n 2, 1) := by decide +kernel
theorem d_122_59 : xcode 122 59 = some (.iastore, 1) := by decide +kernel
theorem d_122_60 : xcode 122 60 = some (.aload_n 0, 1) := by decide +kernel
theorem d_122_61 : xcode 122 61 = some (.dup, 1) := by decide +kernel
theorem d_122_62 : xcode 122 62 = some (.getfield 26, 3) := by decide +kernel
theorem d_122_65 : xcode 122 65 = some (.iconst 1, 1) := by decide +kernel
theorem d_122_66 : xcode 122 66 = some (.iadd, 1) := by decide +kernel
theorem d_122_67 : xcode 122 67 = some (.putfield 26, 3) := by decide +kernel
theorem d_122_70 : xcode 122 70 = some (.iinc 2 2, 3) := by decide +kernel
theorem d_122_73 : xcode 122 73 = some (.goto (-62), 3) := by decide +kernel
theorem d_122_76 : xcode 122 76 = some (.return_, 1) := by decide +kernel
theorem d_123_0 : xcode 123 0 = some (.iload_n 1, 1) := by decide +kernel
theorem d_123_1 : xcode 123 1 = some (.iconst 3, 1) := by decide +kernel
theorem d_123_2 : xcode 123 2 = some (.if_icmp .lt 26, 3) := by decide +kernel
theorem d_123_5 : xcode 123 5 = some (.iload_n 1, 1) := by decide +kernel
theorem d_123_6 : xcode 123 6 = some (.sipush 199, 3) := by decide +kernel
theorem d_123_9 : xcode 123 9 = some (.if_icmp .gt 19, 3) := by decide +kernel
theorem d_123_12 : xcode 123 12 = some (.iload_n 1, 1) := by decide +kernel
theorem d_123_13 : xcode 123 13 = some (.aload_n 0, 1) := by decide +kernel
theorem d_123_14 : xcode 123 14 = some (.getfield 18, 3) := by decide +kernel
theorem d_123_17 : xcode 123 17 = some (.if_icmp .ne 12, 3) := by decide +kernel
theorem d_123_20 : xcode 123 20 = some (.iload_n 2, 1) := by decide +kernel
theorem d_123_21 : xcode 123 21 = some (.aload_n 0, 1) := by decide +kernel
theorem d_123_22 : xcode 123 22 = some (.getfield 22, 3) := by decide +kernel
theorem d_123_25 : xcode 123 25 = some (.if_icmp .ne 4, 3) := by decide +kernel
theorem d_123_28 : xcode 123 28 = some (.return_, 1) := by decide +kernel
theorem d_123_29 : xcode 123 29 = some (.aload_n 0, 1) := by decide +kernel
theorem d_123_30 : xcode 123 30 = some (.iload_n 1, 1) := by decide +kernel
theorem d_123_31 : xcode 123 31 = some (.putfield 18, 3) := by decide +kernel
theorem d_123_34 : xcode 123 34 = some (.aload_n 0, 1) := by decide +kernel
theorem d_123_35 : xcode 123 35 = some (.iload_n 2, 1) := by decide +kernel
theorem d_123_36 : xcode 123 36 = some (.putfield 22, 3) := by decide +kernel
theorem d_123_39 : xcode 123 39 = some (.iload_n 2, 1) := by decide +kernel
theorem d_123_40 : xcode 123 40 = some (.ifCond .ne 11, 3) := by decide +kernel
theorem d_123_43 : xcode 123 43 = some (.aload_n 0, 1) := by decide +kernel
theorem d_123_44 : xcode 123 44 = some (.iload_n 1, 1) := by decide +kernel
theorem d_123_45 : xcode 123 45 = some (.invokevirtual 25, 3) := by decide +kernel
theorem d_123_48 : xcode 123 48 = some (.goto 21, 3) := by decide +kernel
theorem d_123_51 : xcode 123 51 = some (.iload_n 2, 1) := by decide +kernel
theorem d_123_52 : xcode 123 52 = some (.iconst 1, 1) := by decide +kernel
theorem d_123_53 : xcode 123 53 = some (.if_icmp .ne 11, 3) := by decide +kernel
theorem d_123_56 : xcode 123 56 = some (.aload_n 0, 1) := by decide +kernel
theorem d_123_57 : xcode 123 57 = some (.iload_n 1, 1) := by decide +kernel
theorem d_123_58 : xcode 123 58 = some (.invokevirtual 29, 3) := by decide +kernel
theorem d_123_61 : xcode 123 61 = some (.goto 8, 3) := by decide +kernel
theorem d_123_64 : xcode 123 64 = some (.aload_n 0, 1) := by decide +kernel
theorem d_123_65 : xcode 123 65 = some (.iload_n 1, 1) := by decide +kernel
theorem d_123_66 : xcode 123 66 = some (.invokevirtual 32, 3) := by decide +kernel
theorem d_123_69 : xcode 123 69 = some (.return_, 1) := by decide +kernel
theorem d_124_0 : xcode 124 0 = some (.aload_n 0, 1) := by decide +kernel
theorem d_124_1 : xcode 124 1 = some (.getfield 15, 3) := by decide +kernel
theorem d_124_4 : xcode 124 4 = some (.lconst 0, 1) := by decide +kernel
theorem d_124_5 : xcode 124 5 = some (.invokestatic 35, 3) := by decide +kernel
theorem d_124_8 : xcode 124 8 = some (.aload_n 0, 1) := by decide +kernel
theorem d_124_9 : xcode 124 9 = some (.getfield 15, 3) := by decide +kernel
theorem d_124_12 : xcode 124 12 = some (.iconst 0, 1) := by decide +kernel
theorem d_124_13 : xcode 124 13 = some (.lconst 1, 1) := by decide +kernel
theorem d_124_14 : xcode 124 14 = some (.lastore, 1) := by decide +kernel
theorem d_124_15 : xcode 124 15 = some (.aload_n 0, 1) := by decide +kernel
theorem d_124_16 : xcode 124 16 = some (.getfield 15, 3) := by decide +kernel
theorem d_124_19 : xcode 124 19 = some (.iconst 1, 1) := by decide +kernel
theorem d_124_20 : xcode 124 20 = some (.lconst 1, 1) := by decide +kernel
theorem d_124_21 : xcode 124 21 = some (.lastore, 1) := by decide +kernel
theorem d_124_22 : xcode 124 22 = some (.aload_n 0, 1) := by decide +kernel
theorem d_124_23 : xcode 124 23 = some (.getfield 9, 3) := by decide +kernel
theorem d_124_26 : xcode 124 26 = some (.iconst 0, 1) := by decide +kernel
theorem d_124_27 : xcode 124 27 = some (.lconst 1, 1) := by decide +kernel
theorem d_124_28 : xcode 124 28 = some (.lastore, 1) := by decide +kernel
theorem d_124_29 : xcode 124 29 = some (.iconst 1, 1) := by decide +kernel
theorem d_124_30 : xcode 124 30 = some (.istore_n 2, 1) := by decide +kernel
theorem d_124_31 : xcode 124 31 = some (.iload_n 2, 1) := by decide +kernel
theorem d_124_32 : xcode 124 32 = some (.iload_n 1, 1) := by decide +kernel
theorem d_124_33 : xcode 124 33 = some (.iconst 2, 1) := by decide +kernel
theorem d_124_34 : xcode 124 34 = some (.isub, 1) := by decide +kernel
theorem d_124_35 : xcode 124 35 = some (.if_icmp .gt 120, 3) := by decide +kernel
theorem d_124_38 : xcode 124 38 = some (.iload_n 2, 1) := by decide +kernel
theorem d_124_39 : xcode 124 39 = some (.iconst 1, 1) := by decide +kernel
theorem d_124_40 : xcode 124 40 = some (.iadd, 1) := by decide +kernel
theorem d_124_41 : xcode 124 41 = some (.aload_n 0, 1) := by decide +kernel
theorem d_124_42 : xcode 124 42 = some (.getfield 15, 3) := by decide +kernel
theorem d_124_45 : xcode 124 45 = some (.arraylength, 1) := by decide +kernel
theorem d_124_46 : xcode 124 46 = some (.if_icmp .ge 109, 3) := by decide +kernel
theorem d_124_49 : xcode 124 49 = some (.iload_n 2, 1) := by decide +kernel
theorem d_124_50 : xcode 124 50 = some (.iconst 1, 1) := by decide +kernel
theorem d_124_51 : xcode 124 51 = some (.iadd, 1) := by decide +kernel
theorem d_124_52 : xcode 124 52 = some (.istore_n 3, 1) := by decide +kernel
theorem d_124_53 : xcode 124 53 = some (.iload_n 3, 1) := by decide +kernel
theorem d_124_54 : xcode 124 54 = some (.iconst 1, 1) := by decide +kernel
theorem d_124_55 : xcode 124 55 = some (.if_icmp .lt 33, 3) := by decide +kernel
theorem d_124_58 : xcode 124 58 = some (.aload_n 0, 1) := by decide +kernel
theorem d_124_59 : xcode 124 59 = some (.getfield 15, 3) := by decide +kernel
theorem d_124_62 : xcode 124 62 = some (.iload_n 3, 1) := by decide +kernel
theorem d_124_63 : xcode 124 63 = some (.aload_n 0, 1) := by decide +kernel
theorem d_124_64 : xcode 124 64 = some (.getfield 15, 3) := by decide +kernel
theorem d_124_67 : xcode 124 67 = some (.iload_n 3, 1) := by decide +kernel
theorem d_124_68 : xcode 124 68 = some (.laload, 1) := by decide +kernel
theorem d_124_69 : xcode 124 69 = some (.aload_n 0, 1) := by decide +kernel
theorem d_124_70 : xcode 124 70 = some (.getfield 15, 3) := by decide +kernel
theorem d_124_73 : xcode 124 73 = some (.iload_n 3, 1) := by decide +kernel
theorem d_124_74 : xcode 124 74 = some (.iconst 1, 1) := by decide +kernel
theorem d_124_75 : xcode 124 75 = some (.isub, 1) := by decide +kernel
theorem d_124_76 : xcode 124 76 = some (.laload, 1) := by decide +kernel
theorem d_124_77 : xcode 124 77 = some (.ladd, 1) := by decide +kernel
theorem d_124_78 : xcode 124 78 = some (.iload_n 1, 1) := by decide +kernel
theorem d_124_79 : xcode 124 79 = some (.i2l, 1) := by decide +kernel
theorem d_124_80 : xcode 124 80 = some (.lrem, 1) := by decide +kernel
theorem d_124_81 : xcode 124 81 = some (.lastore, 1) := by decide +kernel
theorem d_124_82 : xcode 124 82 = some (.iinc 3 (-1), 3) := by decide +kernel
theorem d_124_85 : xcode 124 85 = some (.goto (-32), 3) := by decide +kernel
theorem d_124_88 : xcode 124 88 = some (.lconst 0, 1) := by decide +kernel
theorem d_124_89 : xcode 124 89 = some (.lstore_n 3, 1) := by decide +kernel
theorem d_124_90 : xcode 124 90 = some (.iconst 0, 1) := by decide +kernel
theorem d_124_91 : xcode 124 91 = some (.istore 5, 2) := by decide +kernel
theorem d_124_93 : xcode 124 93 = some (.iload 5, 2) := by decide +kernel
theorem d_124_95 : xcode 124 95 = some (.iload_n 2, 1) := by decide +kernel
theorem d_124_96 : xcode 124 96 = some (.if_icmp .ge 27, 3) := by decide +kernel
theorem d_124_99 : xcode 124 99 = some (.lload_n 3, 1) := by decide +kernel
theorem d_124_100 : xcode 124 100 = some (.aload_n 0, 1) := by decide +kernel
theorem d_124_101 : xcode 124 101 = some (.getfield 15, 3) := by decide +kernel
theorem d_124_104 : xcode 124 104 = some (.iload 5, 2) := by decide +kernel
theorem d_124_106 : xcode 124 106 = some (.laload, 1) := by decide +kernel
theorem d_124_107 : xcode 124 107 = some (.aload_n 0, 1) := by decide +kernel
theorem d_124_108 : xcode 124 108 = some (.getfield 9, 3) := by decide +kernel
theorem d_124_111 : xcode 124 111 = some (.iload 5, 2) := by decide +kernel
theorem d_124_113 : xcode 124 113 = some (.laload, 1) := by decide +kernel
theorem d_124_114 : xcode 124 114 = some (.lmul, 1) := by decide +kernel
theorem d_124_115 : xcode 124 115 = some (.ladd, 1) := by decide +kernel
theorem d_124_116 : xcode 124 116 = some (.lstore_n 3, 1) := by decide +kernel
theorem d_124_117 : xcode 124 117 = some (.iinc 5 1, 3) := by decide +kernel
theorem d_124_120 : xcode 124 120 = some (.goto (-27), 3) := by decide +kernel
theorem d_124_123 : xcode 124 123 = some (.aload_n 0, 1) := by decide +kernel
theorem d_124_124 : xcode 124 124 = some (.getfield 9, 3) := by decide +kernel
theorem d_124_127 : xcode 124 127 = some (.iload_n 2, 1) := by decide +kernel
theorem d_124_128 : xcode 124 128 = some (.iload_n 1, 1) := by decide +kernel
theorem d_124_129 : xcode 124 129 = some (.i2l, 1) := by decide +kernel
theorem d_124_130 : xcode 124 130 = some (.lload_n 3, 1) := by decide +kernel
theorem d_124_131 : xcode 124 131 = some (.iload_n 1, 1) := by decide +kernel
theorem d_124_132 : xcode 124 132 = some (.i2l, 1) := by decide +kernel
theorem d_124_133 : xcode 124 133 = some (.lrem, 1) := by decide +kernel
theorem d_124_134 : xcode 124 134 = some (.lsub, 1) := by decide +kernel
theorem d_124_135 : xcode 124 135 = some (.iload_n 2, 1) := by decide +kernel
theorem d_124_136 : xcode 124 136 = some (.iconst 1, 1) := by decide +kernel
theorem d_124_137 : xcode 124 137 = some (.iadd, 1) := by decide +kernel
theorem d_124_138 : xcode 124 138 = some (.i2l, 1) := by decide +kernel
theorem d_124_139 : xcode 124 139 = some (.iload_n 1, 1) := by decide +kernel
theorem d_124_140 : xcode 124 140 = some (.i2l, 1) := by decide +kernel
theorem d_124_141 : xcode 124 141 = some (.invokestatic 41, 3) := by decide +kernel
theorem d_124_144 : xcode 124 144 = some (.lmul, 1) := by decide +kernel
theorem d_124_145 : xcode 124 145 = some (.iload_n 1, 1) := by decide +kernel
theorem d_124_146 : xcode 124 146 = some (.i2l, 1) := by decide +kernel
theorem d_124_147 : xcode 124 147 = some (.lrem, 1) := by decide +kernel
theorem d_124_148 : xcode 124 148 = some (.lastore, 1) := by decide +kernel
theorem d_124_149 : xcode 124 149 = some (.iinc 2 1, 3) := by decide +kernel
theorem d_124_152 : xcode 124 152 = some (.goto (-121), 3) := by decide +kernel
theorem d_124_155 : xcode 124 155 = some (.return_, 1) := by decide +kernel
theorem d_125_0 : xcode 125 0 = some (.iconst 0, 1) := by decide +kernel
theorem d_125_1 : xcode 125 1 = some (.istore_n 2, 1) := by decide +kernel
theorem d_125_2 : xcode 125 2 = some (.iload_n 2, 1) := by decide +kernel
theorem d_125_3 : xcode 125 3 = some (.iload_n 1, 1) := by decide +kernel
theorem d_125_4 : xcode 125 4 = some (.iconst 2, 1) := by decide +kernel
theorem d_125_5 : xcode 125 5 = some (.isub, 1) := by decide +kernel
theorem d_125_6 : xcode 125 6 = some (.if_icmp .gt 33, 3) := by decide +kernel
theorem d_125_9 : xcode 125 9 = some (.iload_n 2, 1) := by decide +kernel
theorem d_125_10 : xcode 125 10 = some (.aload_n 0, 1) := by decide +kernel
theorem d_125_11 : xcode 125 11 = some (.getfield 15, 3) := by decide +kernel
theorem d_125_14 : xcode 125 14 = some (.arraylength, 1) := by decide +kernel
theorem d_125_15 : xcode 125 15 = some (.if_icmp .ge 24, 3) := by decide +kernel
theorem d_125_18 : xcode 125 18 = some (.aload_n 0, 1) := by decide +kernel
theorem d_125_19 : xcode 125 19 = some (.getfield 15, 3) := by decide +kernel
theorem d_125_22 : xcode 125 22 = some (.iload_n 2, 1) := by decide +kernel
theorem d_125_23 : xcode 125 23 = some (.iload_n 2, 1) := by decide +kernel
theorem d_125_24 : xcode 125 24 = some (.iconst 1, 1) := by decide +kernel
theorem d_125_25 : xcode 125 25 = some (.iadd, 1) := by decide +kernel
theorem d_125_26 : xcode 125 26 = some (.i2l, 1) := by decide +kernel
theorem d_125_27 : xcode 125 27 = some (.iload_n 1, 1) := by decide +kernel
theorem d_125_28 : xcode 125 28 = some (.i2l, 1) := by decide +kernel
theorem d_125_29 : xcode 125 29 = some (.invokestatic 41, 3) := by decide +kernel
theorem d_125_32 : xcode 125 32 = some (.lastore, 1) := by decide +kernel
theorem d_125_33 : xcode 125 33 = some (.iinc 2 1, 3) := by decide +kernel
theorem d_125_36 : xcode 125 36 = some (.goto (-34), 3) := by decide +kernel
theorem d_125_39 : xcode 125 39 = some (.iconst 0, 1) := by decide +kernel
theorem d_125_40 : xcode 125 40 = some (.istore_n 2, 1) := by decide +kernel
theorem d_125_41 : xcode 125 41 = some (.iload_n 2, 1) := by decide +kernel
theorem d_125_42 : xcode 125 42 = some (.iload_n 1, 1) := by decide +kernel
theorem d_125_43 : xcode 125 43 = some (.iconst 2, 1) := by decide +kernel
theorem d_125_44 : xcode 125 44 = some (.isub, 1) := by decide +kernel
theorem d_125_45 : xcode 125 45 = some (.if_icmp .gt 90, 3) := by decide +kernel
theorem d_125_48 : xcode 125 48 = some (.iload_n 2, 1) := by decide +kernel
theorem d_125_49 : xcode 125 49 = some (.aload_n 0, 1) := by decide +kernel
theorem d_125_50 : xcode 125 50 = some (.getfield 9, 3) := by decide +kernel
theorem d_125_53 : xcode 125 53 = some (.arraylength, 1) := by decide +kernel
theorem d_125_54 : xcode 125 54 = some (.if_icmp .ge 81, 3) := by decide +kernel
theorem d_125_57 : xcode 125 57 = some (.aload_n 0, 1) := by decide +kernel
theorem d_125_58 : xcode 125 58 = some (.getfield 9, 3) := by decide +kernel
theorem d_125_61 : xcode 125 61 = some (.iload_n 2, 1) := by decide +kernel
theorem d_125_62 : xcode 125 62 = some (.aload_n 0, 1) := by decide +kernel
theorem d_125_63 : xcode 125 63 = some (.getfield 15, 3) := by decide +kernel
theorem d_125_66 : xcode 125 66 = some (.iconst 0, 1) := by decide +kernel
theorem d_125_67 : xcode 125 67 = some (.laload, 1) := by decide +kernel
theorem d_125_68 : xcode 125 68 = some (.lastore, 1) := by decide +kernel
theorem d_125_69 : xcode 125 69 = some (.iconst 0, 1) := by decide +kernel
theorem d_125_70 : xcode 125 70 = some (.istore_n 3, 1) := by decide +kernel
theorem d_125_71 : xcode 125 71 = some (.iload_n 3, 1) := by decide +kernel
theorem d_125_72 : xcode 125 72 = some (.iload_n 1, 1) := by decide +kernel
theorem d_125_73 : xcode 125 73 = some (.iconst 2, 1) := by decide +kernel
theorem d_125_74 : xcode 125 74 = some (.isub, 1) := by decide +kernel
theorem d_125_75 : xcode 125 75 = some (.iload_n 2, 1) := by decide +kernel
theorem d_125_76 : xcode 125 76 = some (.isub, 1) := by decide +kernel
theorem d_125_77 : xcode 125 77 = some (.if_icmp .ge 52, 3) := by decide +kernel
theorem d_125_80 : xcode 125 80 = some (.iload_n 3, 1) := by decide +kernel
theorem d_125_81 : xcode 125 81 = some (.iconst 1, 1) := by decide +kernel
theorem d_125_82 : xcode 125 82 = some (.iadd, 1) := by decide +kernel
theorem d_125_83 : xcode 125 83 = some (.aload_n 0, 1) := by decide +kernel
theorem d_125_84 : xcode 125 84 = some (.getfield 15, 3) := by decide +kernel
theorem d_125_87 : xcode 125 87 = some (.arraylength, 1) := by decide +kernel
theorem d_125_88 : xcode 125 88 = some (.if_icmp .ge 41, 3) := by decide +kernel
theorem d_125_91 : xcode 125 91 = some (.aload_n 0, 1) := by decide +kernel
theorem d_125_92 : xcode 125 92 = some (.getfield 15, 3) := by decide +kernel
theorem d_125_95 : xcode 125 95 = some (.iload_n 3, 1) := by decide +kernel
theorem d_125_96 : xcode 125 96 = some (.iload_n 3, 1) := by decide +kernel
theorem d_125_97 : xcode 125 97 = some (.iconst 1, 1) := by decide +kernel
theorem d_125_98 : xcode 125 98 = some (.iadd, 1) := by decide +kernel
theorem d_125_99 : xcode 125 99 = some (.i2l, 1) := by decide +kernel
theorem d_125_100 : xcode 125 100 = some (.aload_n 0, 1) := by decide +kernel
theorem d_125_101 : xcode 125 101 = some (.getfield 15, 3) := by decide +kernel
theorem d_125_104 : xcode 125 104 = some (.iload_n 3, 1) := by decide +kernel
theorem d_125_105 : xcode 125 105 = some (.laload, 1) := by decide +kernel
theorem d_125_106 : xcode 125 106 = some (.iload_n 1, 1) := by decide +kernel
theorem d_125_107 : xcode 125 107 = some (.i2l, 1) := by decide +kernel
theorem d_125_108 : xcode 125 108 = some (.ladd, 1) := by decide +kernel
theorem d_125_109 : xcode 125 109 = some (.aload_n 0, 1) := by decide +kernel
theorem d_125_110 : xcode 125 110 = some (.getfield 15, 3) := by decide +kernel
theorem d_125_113 : xcode 125 113 = some (.iload_n 3, 1) := by decide +kernel
theorem d_125_114 : xcode 125 114 = some (.iconst 1, 1) := by decide +kernel
theorem d_125_115 : xcode 125 115 = some (.iadd, 1) := by decide +kernel
theorem d_125_116 : xcode 125 116 = some (.laload, 1) := by decide +kernel
theorem d_125_117 : xcode 125 117 = some (.lsub, 1) := by decide +kernel
theorem d_125_118 : xcode 125 118 = some (.lmul, 1) := by decide +kernel
theorem d_125_119 : xcode 125 119 = some (.iload_n 1, 1) := by decide +kernel
theorem d_125_120 : xcode 125 120 = some (.i2l, 1) := by decide +kernel
theorem d_125_121 : xcode 125 121 = some (.lrem, 1) := by decide +kernel
theorem d_125_122 : xcode 125 122 = some (.lastore, 1) := by decide +kernel
theorem d_125_123 : xcode 125 123 = some (.iinc 3 1, 3) := by decide +kernel
theorem d_125_126 : xcode 125 126 = some (.goto (-55), 3) := by decide +kernel
theorem d_125_129 : xcode 125 129 = some (.iinc 2 1, 3) := by decide +kernel
theorem d_125_132 : xcode 125 132 = some (.goto (-91), 3) := by decide +kernel
theorem d_125_135 : xcode 125 135 = some (.aload_n 0, 1) := by decide +kernel
theorem d_125_136 : xcode 125 136 = some (.getfield 9, 3) := by decide +kernel
theorem d_125_139 : xcode 125 139 = some (.iconst 1, 1) := by decide +kernel
theorem d_125_140 : xcode 125 140 = some (.aload_n 0, 1) := by decide +kernel
theorem d_125_141 : xcode 125 141 = some (.getfield 9, 3) := by decide +kernel
theorem d_125_144 : xcode 125 144 = some (.iconst 1, 1) := by decide +kernel
theorem d_125_145 : xcode 125 145 = some (.laload, 1) := by decide +kernel
theorem d_125_146 : xcode 125 146 = some (.iload_n 1, 1) := by decide +kernel
theorem d_125_147 : xcode 125 147 = some (.i2l, 1) := by decide +kernel
theorem d_125_148 : xcode 125 148 = some (.ladd, 1) := by decide +kernel
theorem d_125_149 : xcode 125 149 = some (.lconst 1, 1) := by decide +kernel
theorem d_125_150 : xcode 125 150 = some (.lsub, 1) := by decide +kernel
theorem d_125_151 : xcode 125 151 = some (.iload_n 1, 1) := by decide +kernel
theorem d_125_152 : xcode 125 152 = some (.i2l, 1) := by decide +kernel
theorem d_125_153 : xcode 125 153 = some (.lrem, 1) := by decide +kernel
theorem d_125_154 : xcode 125 154 = some (.lastore, 1) := by decide +kernel
theorem d_125_155 : xcode 125 155 = some (.return_, 1) := by decide +kernel
theorem d_126_0 : xcode 126 0 = some (.iload_n 1, 1) := by decide +kernel
theorem d_126_1 : xcode 126 1 = some (.i2l, 1) := by decide +kernel
theorem d_126_2 : xcode 126 2 = some (.iload_n 1, 1) := by decide +kernel
theorem d_126_3 : xcode 126 3 = some (.i2l, 1) := by decide +kernel
theorem d_126_4 : xcode 126 4 = some (.lmul, 1) := by decide +kernel
theorem d_126_5 : xcode 126 5 = some (.lstore_n 2, 1) := by decide +kernel
theorem d_126_6 : xcode 126 6 = some (.aload_n 0, 1) := by decide +kernel
theorem d_126_7 : xcode 126 7 = some (.getfield 9, 3) := by decide +kernel
theorem d_126_10 : xcode 126 10 = some (.lconst 0, 1) := by decide +kernel
theorem d_126_11 : xcode 126 11 = some (.invokestatic 35, 3) := by decide +kernel
theorem d_126_14 : xcode 126 14 = some (.aload_n 0, 1) := by decide +kernel
theorem d_126_15 : xcode 126 15 = some (.getfield 15, 3) := by decide +kernel
theorem d_126_18 : xcode 126 18 = some (.lconst 1, 1) := by decide +kernel
theorem d_126_19 : xcode 126 19 = some (.invokestatic 35, 3) := by decide +kernel
theorem d_126_22 : xcode 126 22 = some (.aload_n 0, 1) := by decide +kernel
theorem d_126_23 : xcode 126 23 = some (.getfield 9, 3) := by decide +kernel
theorem d_126_26 : xcode 126 26 = some (.iconst 0, 1) := by decide +kernel
theorem d_126_27 : xcode 126 27 = some (.lconst 1, 1) := by decide +kernel
theorem d_126_28 : xcode 126 28 = some (.lastore, 1) := by decide +kernel
theorem d_126_29 : xcode 126 29 = some (.aload_n 0, 1) := by decide +kernel
theorem d_126_30 : xcode 126 30 = some (.getfield 9, 3) := by decide +kernel
theorem d_126_33 : xcode 126 33 = some (.iconst 1, 1) := by decide +kernel
theorem d_126_34 : xcode 126 34 = some (.iload_n 1, 1) := by decide +kernel
theorem d_126_35 : xcode 126 35 = some (.i2l, 1) := by decide +kernel
theorem d_126_36 : xcode 126 36 = some (.ldc2_w 47, 3) := by decide +kernel
theorem d_126_39 : xcode 126 39 = some (.iload_n 1, 1) := by decide +kernel
theorem d_126_40 : xcode 126 40 = some (.i2l, 1) := by decide +kernel
theorem d_126_41 : xcode 126 41 = some (.invokestatic 41, 3) := by decide +kernel
theorem d_126_44 : xcode 126 44 = some (.lsub, 1) := by decide +kernel
theorem d_126_45 : xcode 126 45 = some (.iload_n 1, 1) := by decide +kernel
theorem d_126_46 : xcode 126 46 = some (.i2l, 1) := by decide +kernel
theorem d_126_47 : xcode 126 47 = some (.lrem, 1) := by decide +kernel
theorem d_126_48 : xcode 126 48 = some (.lastore, 1) := by decide +kernel
theorem d_126_49 : xcode 126 49 = some (.iconst 2, 1) := by decide +kernel
theorem d_126_50 : xcode 126 50 = some (.istore 4, 2) := by decide +kernel
theorem d_126_52 : xcode 126 52 = some (.iload 4, 2) := by decide +kernel
theorem d_126_54 : xcode 126 54 = some (.iload_n 1, 1) := by decide +kernel
theorem d_126_55 : xcode 126 55 = some (.iconst 3, 1) := by decide +kernel
theorem d_126_56 : xcode 126 56 = some (.isub, 1) := by decide +kernel
theorem d_126_57 : xcode 126 57 = some (.if_icmp .gt 96, 3) := by decide +kernel
theorem d_126_60 : xcode 126 60 = some (.iload 4, 2) := by decide +kernel
theorem d_126_62 : xcode 126 62 = some (.aload_n 0, 1) := by decide +kernel
theorem d_126_63 : xcode 126 63 = some (.getfield 9, 3) := by decide +kernel
theorem d_126_66 : xcode 126 66 = some (.arraylength, 1) := by decide +kernel
theorem d_126_67 : xcode 126 67 = some (.if_icmp .ge 86, 3) := by decide +kernel
theorem d_126_70 : xcode 126 70 = some (.lconst 0, 1) := by decide +kernel
theorem d_126_71 : xcode 126 71 = some (.lstore 5, 2) := by decide +kernel
theorem d_126_73 : xcode 126 73 = some (.iconst 1, 1) := by decide +kernel
theorem d_126_74 : xcode 126 74 = some (.istore 7, 2) := by decide +kernel
theorem d_126_76 : xcode 126 76 = some (.iload 7, 2) := by decide +kernel
theorem d_126_78 : xcode 126 78 = some (.iload_n 1, 1) := by decide +kernel
theorem d_126_79 : xcode 126 79 = some (.if_icmp .ge 54, 3) := by decide +kernel
theorem d_126_82 : xcode 126 82 = some (.iload 7, 2) := by decide +kernel
theorem d_126_84 : xcode 126 84 = some (.aload_n 0, 1) := by decide +kernel
theorem d_126_85 : xcode 126 85 = some (.getfield 15, 3) := by decide +kernel
theorem d_126_88 : xcode 126 88 = some (.arraylength, 1) := by decide +kernel
theorem d_126_89 : xcode 126 89 = some (.if_icmp .ge 44, 3) := by decide +kernel
theorem d_126_92 : xcode 126 92 = some (.aload_n 0, 1) := by decide +kernel
theorem d_126_93 : xcode 126 93 = some (.getfield 15, 3) := by decide +kernel
theorem d_126_96 : xcode 126 96 = some (.iload 7, 2) := by decide +kernel
theorem d_126_98 : xcode 126 98 = some (.aload_n 0, 1) := by decide +kernel
theorem d_126_99 : xcode 126 99 = some (.getfield 15, 3) := by decide +kernel
theorem d_126_102 : xcode 126 102 = some (.iload 7, 2) := by decide +kernel
theorem d_126_104 : xcode 126 104 = some (.laload, 1) := by decide +kernel
theorem d_126_105 : xcode 126 105 = some (.iload 7, 2) := by decide +kernel
theorem d_126_107 : xcode 126 107 = some (.iload 7, 2) := by decide +kernel
theorem d_126_109 : xcode 126 109 = some (.imul, 1) := by decide +kernel
theorem d_126_110 : xcode 126 110 = some (.i2l, 1) := by decide +kernel
theorem d_126_111 : xcode 126 111 = some (.lmul, 1) := by decide +kernel
theorem d_126_112 : xcode 126 112 = some (.lload_n 2, 1) := by decide +kernel
theorem d_126_113 : xcode 126 113 = some (.lrem, 1) := by decide +kernel
theorem d_126_114 : xcode 126 114 = some (.lastore, 1) := by decide +kernel
theorem d_126_115 : xcode 126 115 = some (.lload 5, 2) := by decide +kernel
theorem d_126_117 : xcode 126 117 = some (.aload_n 0, 1) := by decide +kernel
theorem d_126_118 : xcode 126 118 = some (.getfield 15, 3) := by decide +kernel
theorem d_126_121 : xcode 126 121 = some (.iload 7, 2) := by decide +kernel
theorem d_126_123 : xcode 126 123 = some (.laload, 1) := by decide +kernel
theorem d_126_124 : xcode 126 124 = some (.ladd, 1) := by decide +kernel
theorem d_126_125 : xcode 126 125 = some (.lstore 5, 2) := by decide +kernel
theorem d_126_127 : xcode 126 127 = some (.iinc 7 1, 3) := by decide +kernel
theorem d_126_130 : xcode 126 130 = some (.goto (-54), 3) := by decide +kernel
theorem d_126_133 : xcode 126 133 = some (.aload_n 0, 1) := by decide +kernel
theorem d_126_134 : xcode 126 134 = some (.getfield 9, 3) := by decide +kernel
theorem d_126_137 : xcode 126 137 = some (.iload 4, 2) := by decide +kernel
theorem d_126_139 : xcode 126 139 = some (.lload 5, 2) := by decide +kernel
theorem d_126_141 : xcode 126 141 = some (.lload_n 2, 1) := by decide +kernel
theorem d_126_142 : xcode 126 142 = some (.lrem, 1) := by decide +kernel
theorem d_126_143 : xcode 126 143 = some (.iload_n 1, 1) := by decide +kernel
theorem d_126_144 : xcode 126 144 = some (.i2l, 1) := by decide +kernel
theorem d_126_145 : xcode 126 145 = some (.ldiv, 1) := by decide +kernel
theorem d_126_146 : xcode 126 146 = some (.lastore, 1) := by decide +kernel
theorem d_126_147 : xcode 126 147 = some (.iinc 4 2, 3) := by decide +kernel
theorem d_126_150 : xcode 126 150 = some (.goto (-98), 3) := by decide +kernel
theorem d_126_153 : xcode 126 153 = some (.return_, 1) := by decide +kernel
theorem d_127_0 : xcode 127 0 = some (.iload_n 1, 1) := by decide +kernel
theorem d_127_1 : xcode 127 1 = some (.ifCond .lt 21, 3) := by decide +kernel
theorem d_127_4 : xcode 127 4 = some (.iload_n 1, 1) := by decide +kernel
theorem d_127_5 : xcode 127 5 = some (.aload_n 0, 1) := by decide +kernel
theorem d_127_6 : xcode 127 6 = some (.getfield 9, 3) := by decide +kernel
theorem d_127_9 : xcode 127 9 = some (.arraylength, 1) := by decide +kernel
theorem d_127_10 : xcode 127 10 = some (.if_icmp .ge 12, 3) := by decide +kernel
theorem d_127_13 : xcode 127 13 = some (.aload_n 0, 1) := by decide +kernel
theorem d_127_14 : xcode 127 14 = some (.getfield 9, 3) := by decide +kernel
theorem d_127_17 : xcode 127 17 = some (.iload_n 1, 1) := by decide +kernel
theorem d_127_18 : xcode 127 18 = some (.laload, 1) := by decide +kernel
theorem d_127_19 : xcode 127 19 = some (.goto 4, 3) := by decide +kernel
theorem d_127_22 : xcode 127 22 = some (.lconst 0, 1) := by decide +kernel
theorem d_127_23 : xcode 127 23 = some (.lreturn, 1) := by decide +kernel
theorem d_128_0 : xcode 128 0 = some (.iconst 0, 1) := by decide +kernel
theorem d_128_1 : xcode 128 1 = some (.istore_n 2, 1) := by decide +kernel
theorem d_128_2 : xcode 128 2 = some (.iconst 0, 1) := by decide +kernel
theorem d_128_3 : xcode 128 3 = some (.istore_n 3, 1) := by decide +kernel
theorem d_128_4 : xcode 128 4 = some (.iload_n 3, 1) := by decide +kernel
theorem d_128_5 : xcode 128 5 = some (.aload_n 0, 1) := by decide +kernel
theorem d_128_6 : xcode 128 6 = some (.getfield 26, 3) := by decide +kernel
theorem d_128_9 : xcode 128 9 = some (.if_icmp .ge 28, 3) := by decide +kernel
theorem d_128_12 : xcode 128 12 = some (.iload_n 3, 1) := by decide +kernel
theorem d_128_13 : xcode 128 13 = some (.bipush 100, 2) := by decide +kernel
theorem d_128_15 : xcode 128 15 = some (.if_icmp .ge 22, 3) := by decide +kernel
theorem d_128_18 : xcode 128 18 = some (.aload_n 0, 1) := by decide +kernel
theorem d_128_19 : xcode 128 19 = some (.getfield 11, 3) := by decide +kernel
theorem d_128_22 : xcode 128 22 = some (.iload_n 3, 1) := by decide +kernel
theorem d_128_23 : xcode 128 23 = some (.iaload, 1) := by decide +kernel
theorem d_128_24 : xcode 128 24 = some (.iload_n 1, 1) := by decide +kernel
theorem d_128_25 : xcode 128 25 = some (.if_icmp .ne 6, 3) := by decide +kernel
theorem d_128_28 : xcode 128 28 = some (.iinc 2 1, 3) := by decide +kernel
theorem d_128_31 : xcode 128 31 = some (.iinc 3 1, 3) := by decide +kernel
theorem d_128_34 : xcode 128 34 = some (.goto (-30), 3) := by decide +kernel
theorem d_128_37 : xcode 128 37 = some (.iload_n 2, 1) := by decide +kernel
theorem d_128_38 : xcode 128 38 = some (.ireturn, 1) := by decide +kernel
theorem d_129_0 : xcode 129 0 = some (.iload_n 1, 1) := by decide +kernel
theorem d_129_1 : xcode 129 1 = some (.ifCond .lt 12, 3) := by decide +kernel
theorem d_129_4 : xcode 129 4 = some (.iload_n 2, 1) := by decide +kernel
theorem d_129_5 : xcode 129 5 = some (.ifCond .lt 8, 3) := by decide +kernel
theorem d_129_8 : xcode 129 8 = some (.iload_n 2, 1) := by decide +kernel
theorem d_129_9 : xcode 129 9 = some (.iconst 1, 1) := by decide +kernel
theorem d_129_10 : xcode 129 10 = some (.if_icmp .le 5, 3) := by decide +kernel
theorem d_129_13 : xcode 129 13 = some (.iconst (-1), 1) := by decide +kernel
theorem d_129_14 : xcode 129 14 = some (.ireturn, 1) := by decide +kernel
theorem d_129_15 : xcode 129 15 = some (.aload_n 0, 1) := by decide +kernel
theorem d_129_16 : xcode 129 16 = some (.getfield 81, 3) := by decide +kernel
theorem d_129_19 : xcode 129 19 = some (.sipush 199, 3) := by decide +kernel
theorem d_129_22 : xcode 129 22 = some (.invokevirtual 287, 3) := by decide +kernel
theorem d_129_25 : xcode 129 25 = some (.iload_n 1, 1) := by decide +kernel
theorem d_129_26 : xcode 129 26 = some (.aload_n 0, 1) := by decide +kernel
theorem d_129_27 : xcode 129 27 = some (.getfield 81, 3) := by decide +kernel
theorem d_129_30 : xcode 129 30 = some (.invokevirtual 293, 3) := by decide +kernel
theorem d_129_33 : xcode 129 33 = some (.if_icmp .lt 6, 3) := by decide +kernel
theorem d_129_36 : xcode 129 36 = some (.bipush (-2), 2) := by decide +kernel
theorem d_129_38 : xcode 129 38 = some (.ireturn, 1) := by decide +kernel
theorem d_129_39 : xcode 129 39 = some (.iload_n 2, 1) := by decide +kernel
theorem d_129_40 : xcode 129 40 = some (.ifCond .ne 14, 3) := by decide +kernel
theorem d_129_43 : xcode 129 43 = some (.aload_n 0, 1) := by decide +kernel
theorem d_129_44 : xcode 129 44 = some (.getfield 81, 3) := by decide +kernel
theorem d_129_47 : xcode 129 47 = some (.iload_n 1, 1) := by decide +kernel
theorem d_129_48 : xcode 129 48 = some (.invokevirtual 294, 3) := by decide +kernel
theorem d_129_51 : xcode 129 51 = some (.goto 11, 3) := by decide +kernel
theorem d_129_54 : xcode 129 54 = some (.aload_n 0, 1) := by decide +kernel
theorem d_129_55 : xcode 129 55 = some (.getfield 81, 3) := by decide +kernel
theorem d_129_58 : xcode 129 58 = some (.iload_n 1, 1) := by decide +kernel
theorem d_129_59 : xcode 129 59 = some (.invokevirtual 295, 3) := by decide +kernel
theorem d_129_62 : xcode 129 62 = some (.ireturn, 1) := by decide +kernel
theorem d_130_0 : xcode 130 0 = some (.aload_n 0, 1) := by decide +kernel
theorem d_130_1 : xcode 130 1 = some (.getfield 26, 3) := by decide +kernel
theorem d_130_4 : xcode 130 4 = some (.ireturn, 1) := by decide +kernel
theorem d_131_0 : xcode 131 0 = some (.iload_n 1, 1) := by decide +kernel
theorem d_131_1 : xcode 131 1 = some (.ifCond .lt 26, 3) := by decide +kernel
theorem d_131_4 : xcode 131 4 = some (.iload_n 1, 1) := by decide +kernel
theorem d_131_5 : xcode 131 5 = some (.aload_n 0, 1) := by decide +kernel
theorem d_131_6 : xcode 131 6 = some (.getfield 26, 3) := by decide +kernel
theorem d_131_9 : xcode 131 9 = some (.if_icmp .ge 18, 3) := by decide +kernel
theorem d_131_12 : xcode 131 12 = some (.iload_n 1, 1) := by decide +kernel
theorem d_131_13 : xcode 131 13 = some (.bipush 100, 2) := by decide +kernel
theorem d_131_15 : xcode 131 15 = some (.if_icmp .ge 12, 3) := by decide +kernel
theorem d_131_18 : xcode 131 18 = some (.aload_n 0, 1) := by decide +kernel
theorem d_131_19 : xcode 131 19 = some (.getfield 11, 3) := by decide +kernel
theorem d_131_22 : xcode 131 22 = some (.iload_n 1, 1) := by decide +kernel
theorem d_131_23 : xcode 131 23 = some (.iaload, 1) := by decide +kernel
theorem d_131_24 : xcode 131 24 = some (.goto 4, 3) := by decide +kernel
theorem d_131_27 : xcode 131 27 = some (.iconst (-1), 1) := by decide +kernel
theorem d_131_28 : xcode 131 28 = some (.ireturn, 1) := by decide +kernel
theorem d_132_0 : xcode 132 0 = some (.iload_n 1, 1) := by decide +kernel
theorem d_132_1 : xcode 132 1 = some (.ifCond .lt 26, 3) := by decide +kernel
theorem d_132_4 : xcode 132 4 = some (.iload_n 1, 1) := by decide +kernel
theorem d_132_5 : xcode 132 5 = some (.aload_n 0, 1) := by decide +kernel
theorem d_132_6 : xcode 132 6 = some (.getfield 26, 3) := by decide +kernel
theorem d_132_9 : xcode 132 9 = some (.if_icmp .ge 18, 3) := by decide +kernel
theorem d_132_12 : xcode 132 12 = some (.iload_n 1, 1) := by decide +kernel
theorem d_132_13 : xcode 132 13 = some (.bipush 100, 2) := by decide +kernel
theorem d_132_15 : xcode 132 15 = some (.if_icmp .ge 12, 3) := by decide +kernel
theorem d_132_18 : xcode 132 18 = some (.aload_n 0, 1) := by decide +kernel
theorem d_132_19 : xcode 132 19 = some (.getfield 15, 3) := by decide +kernel
theorem d_132_22 : xcode 132 22 = some (.iload_n 1, 1) := by decide +kernel
theorem d_132_23 : xcode 132 23 = some (.iaload, 1) := by decide +kernel
theorem d_132_24 : xcode 132 24 = some (.goto 4, 3) := by decide +kernel
theorem d_132_27 : xcode 132 27 = some (.iconst (-1), 1) := by decide +kernel
theorem d_132_28 : xcode 132 28 = some (.ireturn, 1) := by decide +kernel
theorem d_133_0 : xcode 133 0 = some (.iload_n 1, 1) := by decide +kernel
theorem d_133_1 : xcode 133 1 = some (.ifCond .ge 5, 3) := by decide +kernel
theorem d_133_4 : xcode 133 4 = some (.iconst (-1), 1) := by decide +kernel
theorem d_133_5 : xcode 133 5 = some (.ireturn, 1) := by decide +kernel
theorem d_133_6 : xcode 133 6 = some (.aload_n 0, 1) := by decide +kernel
theorem d_133_7 : xcode 133 7 = some (.getfield 81, 3) := by decide +kernel
theorem d_133_10 : xcode 133 10 = some (.sipush 199, 3) := by decide +kernel
theorem d_133_13 : xcode 133 13 = some (.invokevirtual 287, 3) := by decide +kernel
theorem d_133_16 : xcode 133 16 = some (.iload_n 1, 1) := by decide +kernel
theorem d_133_17 : xcode 133 17 = some (.aload_n 0, 1) := by decide +kernel
theorem d_133_18 : xcode 133 18 = some (.getfield 81, 3) := by decide +kernel
theorem d_133_21 : xcode 133 21 = some (.invokevirtual 293, 3) := by decide +kernel
theorem d_133_24 : xcode 133 24 = some (.if_icmp .lt 6, 3) := by decide +kernel
theorem d_133_27 : xcode 133 27 = some (.bipush (-2), 2) := by decide +kernel
theorem d_133_29 : xcode 133 29 = some (.ireturn, 1) := by decide +kernel
theorem d_133_30 : xcode 133 30 = some (.aload_n 0, 1) := by decide +kernel
theorem d_133_31 : xcode 133 31 = some (.getfield 81, 3) := by decide +kernel
theorem d_133_34 : xcode 133 34 = some (.iload_n 1, 1) := by decide +kernel
theorem d_133_35 : xcode 133 35 = some (.invokevirtual 294, 3) := by decide +kernel
theorem d_133_38 : xcode 133 38 = some (.aload_n 0, 1) := by decide +kernel
theorem d_133_39 : xcode 133 39 = some (.getfield 81, 3) := by decide +kernel
theorem d_133_42 : xcode 133 42 = some (.iload_n 1, 1) := by decide +kernel
theorem d_133_43 : xcode 133 43 = some (.invokevirtual 295, 3) := by decide +kernel
theorem d_133_46 : xcode 133 46 = some (.invokestatic 298, 3) := by decide +kernel
theorem d_133_49 : xcode 133 49 = some (.ireturn, 1) := by decide +kernel
theorem d_134_0 : xcode 134 0 = some (.iload_n 0, 1) := by decide +kernel
theorem d_134_1 : xcode 134 1 = some (.iconst 3, 1) := by decide +kernel
theorem d_134_2 : xcode 134 2 = some (.if_icmp .ge 6, 3) := by decide +kernel
theorem d_134_5 : xcode 134 5 = some (.bipush (-3), 2) := by decide +kernel
theorem d_134_7 : xcode 134 7 = some (.ireturn, 1) := by decide +kernel
theorem d_134_8 : xcode 134 8 = some (.iload_n 0, 1) := by decide +kernel
theorem d_134_9 : xcode 134 9 = some (.i2l, 1) := by decide +kernel
theorem d_134_10 : xcode 134 10 = some (.iload_n 0, 1) := by decide +kernel
theorem d_134_11 : xcode 134 11 = some (.i2l, 1) := by decide +kernel
theorem d_134_12 : xcode 134 12 = some (.lmul, 1) := by decide +kernel
theorem d_134_13 : xcode 134 13 = some (.lstore_n 2, 1) := by decide +kernel
theorem d_134_14 : xcode 134 14 = some (.iload_n 1, 1) := by decide +kernel
theorem d_134_15 : xcode 134 15 = some (.iload_n 0, 1) := by decide +kernel
theorem d_134_16 : xcode 134 16 = some (.invokestatic 458, 3) := by decide +kernel
theorem d_134_19 : xcode 134 19 = some (.lstore 4, 2) := by decide +kernel
theorem d_134_21 : xcode 134 21 = some (.iload_n 1, 1) := by decide +kernel
theorem d_134_22 : xcode 134 22 = some (.iload_n 0, 1) := by decide +kernel
theorem d_134_23 : xcode 134 23 = some (.iadd, 1) := by decide +kernel
theorem d_134_24 : xcode 134 24 = some (.iconst 1, 1) := by decide +kernel
theorem d_134_25 : xcode 134 25 = some (.isub, 1) := by decide +kernel
theorem d_134_26 : xcode 134 26 = some (.iload_n 0, 1) := by decide +kernel
theorem d_134_27 : xcode 134 27 = some (.invokestatic 458, 3) := by decide +kernel
theorem d_134_30 : xcode 134 30 = some (.lload 4, 2) := by decide +kernel
theorem d_134_32 : xcode 134 32 = some (.lsub, 1) := by decide +kernel
theorem d_134_33 : xcode 134 33 = some (.lstore 6, 2) := by decide +kernel
theorem d_134_35 : xcode 134 35 = some (.iconst 0, 1) := by decide +kernel
theorem d_134_36 : xcode 134 36 = some (.istore 8, 2) := by decide +kernel
theorem d_134_38 : xcode 134 38 = some (.iload 8, 2) := by decide +kernel
theorem d_134_40 : xcode 134 40 = some (.iload_n 0, 1) := by decide +kernel
theorem d_134_41 : xcode 134 41 = some (.if_icmp .ge 36, 3) := by decide +kernel
theorem d_134_44 : xcode 134 44 = some (.lload 4, 2) := by decide +kernel
theorem d_134_46 : xcode 134 46 = some (.iload 8, 2) := by decide +kernel
theorem d_134_48 : xcode 134 48 = some (.i2l, 1) := by decide +kernel
theorem d_134_49 : xcode 134 49 = some (.lload 6, 2) := by decide +kernel
theorem d_134_51 : xcode 134 51 = some (.lmul, 1) := by decide +kernel
theorem d_134_52 : xcode 134 52 = some (.ladd, 1) := by decide +kernel
theorem d_134_53 : xcode 134 53 = some (.lload_n 2, 1) := by decide +kernel
theorem d_134_54 : xcode 134 54 = some (.invokestatic 306, 3) := by decide +kernel
theorem d_134_57 : xcode 134 57 = some (.lconst 0, 1) := by decide +kernel
theorem d_134_58 : xcode 134 58 = some (.lcmp, 1) := by decide +kernel
theorem d_134_59 : xcode 134 59 = some (.ifCond .ne 12, 3) := by decide +kernel
theorem d_134_62 : xcode 134 62 = some (.iload_n 1, 1) := by decide +kernel
theorem d_134_63 : xcode 134 63 = some (.iload 8, 2) := by decide +kernel
theorem d_134_65 : xcode 134 65 = some (.iload_n 0, 1) := by decide +kernel
theorem d_134_66 : xcode 134 66 = some (.iconst 1, 1) := by decide +kernel
theorem d_134_67 : xcode 134 67 = some (.isub, 1) := by decide +kernel
theorem d_134_68 : xcode 134 68 = some (.imul, 1) := by decide +kernel
theorem d_134_69 : xcode 134 69 = some (.iadd, 1) := by decide +kernel
theorem d_134_70 : xcode 134 70 = some (.ireturn, 1) := by decide +kernel
theorem d_134_71 : xcode 134 71 = some (.iinc 8 1, 3) := by decide +kernel
theorem d_134_74 : xcode 134 74 = some (.goto (-36), 3) := by decide +kernel
theorem d_134_77 : xcode 134 77 = some (.bipush (-3), 2) := by decide +kernel
theorem d_134_79 : xcode 134 79 = some (.ireturn, 1) := by decide +kernel
theorem d_135_0 : xcode 135 0 = some (.iload_n 1, 1) := by decide +kernel
theorem d_135_1 : xcode 135 1 = some (.iconst 3, 1) := by decide +kernel
theorem d_135_2 : xcode 135 2 = some (.if_icmp .ge 5, 3) := by decide +kernel
theorem d_135_5 : xcode 135 5 = some (.lconst 0, 1) := by decide +kernel
theorem d_135_6 : xcode 135 6 = some (.lreturn, 1) := by decide +kernel
theorem d_135_7 : xcode 135 7 = some (.iload_n 1, 1) := by decide +kernel
theorem d_135_8 : xcode 135 8 = some (.i2l, 1) := by decide +kernel
theorem d_135_9 : xcode 135 9 = some (.iload_n 1, 1) := by decide +kernel
theorem d_135_10 : xcode 135 10 = some (.i2l, 1) := by decide +kernel
theorem d_135_11 : xcode 135 11 = some (.lmul, 1) := by decide +kernel
theorem d_135_12 : xcode 135 12 = some (.lstore_n 2, 1) := by decide +kernel
theorem d_135_13 : xcode 135 13 = some (.iload_n 0, 1) := by decide +kernel
theorem d_135_14 : xcode 135 14 = some (.iload_n 1, 1) := by decide +kernel
theorem d_135_15 : xcode 135 15 = some (.lload_n 2, 1) := by decide +kernel
theorem d_135_16 : xcode 135 16 = some (.iload_n 1, 1) := by decide +kernel
theorem d_135_17 : xcode 135 17 = some (.i2l, 1) := by decide +kernel
theorem d_135_18 : xcode 135 18 = some (.lmul, 1) := by decide +kernel
theorem d_135_19 : xcode 135 19 = some (.invokestatic 437, 3) := by decide +kernel
theorem d_135_22 : xcode 135 22 = some (.iload_n 1, 1) := by decide +kernel
theorem d_135_23 : xcode 135 23 = some (.i2l, 1) := by decide +kernel
theorem d_135_24 : xcode 135 24 = some (.ldiv, 1) := by decide +kernel
theorem d_135_25 : xcode 135 25 = some (.lstore 4, 2) := by decide +kernel
theorem d_135_27 : xcode 135 27 = some (.lload 4, 2) := by decide +kernel
theorem d_135_29 : xcode 135 29 = some (.iload_n 0, 1) := by decide +kernel
theorem d_135_30 : xcode 135 30 = some (.i2l, 1) := by decide +kernel
theorem d_135_31 : xcode 135 31 = some (.lload_n 2, 1) := by decide +kernel
theorem d_135_32 : xcode 135 32 = some (.invokestatic 316, 3) := by decide +kernel
theorem d_135_35 : xcode 135 35 = some (.lmul, 1) := by decide +kernel
theorem d_135_36 : xcode 135 36 = some (.lload_n 2, 1) := by decide +kernel
theorem d_135_37 : xcode 135 37 = some (.lrem, 1) := by decide +kernel
theorem d_135_38 : xcode 135 38 = some (.lreturn, 1) := by decide +kernel
theorem d_136_0 : xcode 136 0 = some (.iload_n 1, 1) := by decide +kernel
theorem d_136_1 : xcode 136 1 = some (.iconst 2, 1) := by decide +kernel
theorem d_136_2 : xcode 136 2 = some (.if_icmp .lt 23, 3) := by decide +kernel
theorem d_136_5 : xcode 136 5 = some (.iload_n 1, 1) := by decide +kernel
theorem d_136_6 : xcode 136 6 = some (.ldc_w 301, 3) := by decide +kernel
theorem d_136_9 : xcode 136 9 = some (.if_icmp .gt 16, 3) := by decide +kernel
theorem d_136_12 : xcode 136 12 = some (.iload_n 1, 1) := by decide +kernel
theorem d_136_13 : xcode 136 13 = some (.iconst 2, 1) := by decide +kernel
theorem d_136_14 : xcode 136 14 = some (.irem, 1) := by decide +kernel
theorem d_136_15 : xcode 136 15 = some (.ifCond .ne 10, 3) := by decide +kernel
theorem d_136_18 : xcode 136 18 = some (.iload_n 2, 1) := by decide +kernel
theorem d_136_19 : xcode 136 19 = some (.invokestatic 222, 3) := by decide +kernel
theorem d_136_22 : xcode 136 22 = some (.ifCond .ne 5, 3) := by decide +kernel
theorem d_136_25 : xcode 136 25 = some (.iconst (-1), 1) := by decide +kernel
theorem d_136_26 : xcode 136 26 = some (.ireturn, 1) := by decide +kernel
theorem d_136_27 : xcode 136 27 = some (.iload_n 1, 1) := by decide +kernel
theorem d_136_28 : xcode 136 28 = some (.iload_n 2, 1) := by decide +kernel
theorem d_136_29 : xcode 136 29 = some (.iconst 1, 1) := by decide +kernel
theorem d_136_30 : xcode 136 30 = some (.isub, 1) := by decide +kernel
theorem d_136_31 : xcode 136 31 = some (.irem, 1) := by decide +kernel
theorem d_136_32 : xcode 136 32 = some (.ifCond .ne 8, 3) := by decide +kernel
theorem d_136_35 : xcode 136 35 = some (.bipush (-3), 2) := by decide +kernel
theorem d_136_37 : xcode 136 37 = some (.goto 9, 3) := by decide +kernel
theorem d_136_40 : xcode 136 40 = some (.iload_n 1, 1) := by decide +kernel
theorem d_136_41 : xcode 136 41 = some (.iload_n 2, 1) := by decide +kernel
theorem d_136_42 : xcode 136 42 = some (.invokestatic 232, 3) := by decide +kernel
theorem d_136_45 : xcode 136 45 = some (.l2i, 1) := by decide +kernel
theorem d_136_46 : xcode 136 46 = some (.ireturn, 1) := by decide +kernel
theorem d_137_0 : xcode 137 0 = some (.iload_n 1, 1) := by decide +kernel
theorem d_137_1 : xcode 137 1 = some (.invokestatic 120, 3) := by decide +kernel
theorem d_137_4 : xcode 137 4 = some (.ifCond .eq 29, 3) := by decide +kernel
theorem d_137_7 : xcode 137 7 = some (.iload_n 1, 1) := by decide +kernel
theorem d_137_8 : xcode 137 8 = some (.invokestatic 190, 3) := by decide +kernel
theorem d_137_11 : xcode 137 11 = some (.ifCond .eq 22, 3) := by decide +kernel
theorem d_137_14 : xcode 137 14 = some (.iload_n 3, 1) := by decide +kernel
theorem d_137_15 : xcode 137 15 = some (.invokestatic 222, 3) := by decide +kernel
theorem d_137_18 : xcode 137 18 = some (.ifCond .eq 15, 3) := by decide +kernel
theorem d_137_21 : xcode 137 21 = some (.iload_n 2, 1) := by decide +kernel
theorem d_137_22 : xcode 137 22 = some (.iconst 1, 1) := by decide +kernel
theorem d_137_23 : xcode 137 23 = some (.if_icmp .lt 10, 3) := by decide +kernel
theorem d_137_26 : xcode 137 26 = some (.iload_n 2, 1) := by decide +kernel
theorem d_137_27 : xcode 137 27 = some (.iload_n 3, 1) := by decide +kernel
theorem d_137_28 : xcode 137 28 = some (.iconst 1, 1) := by decide +kernel
theorem d_137_29 : xcode 137 29 = some (.isub, 1) := by decide +kernel
theorem d_137_30 : xcode 137 30 = some (.if_icmp .le 5, 3) := by decide +kernel
theorem d_137_33 : xcode 137 33 = some (.iconst (-1), 1) := by decide +kernel
theorem d_137_34 : xcode 137 34 = some (.ireturn, 1) := by decide +kernel
theorem d_137_35 : xcode 137 35 = some (.lconst 0, 1) := by decide +kernel
theorem d_137_36 : xcode 137 36 = some (.lstore 4, 2) := by decide +kernel
theorem d_137_38 : xcode 137 38 = some (.iconst 1, 1) := by decide +kernel
theorem d_137_39 : xcode 137 39 = some (.istore 6, 2) := by decide +kernel
theorem d_137_41 : xcode 137 41 = some (.iload 6, 2) := by decide +kernel
theorem d_137_43 : xcode 137 43 = some (.iload_n 3, 1) := by decide +kernel
theorem d_137_44 : xcode 137 44 = some (.if_icmp .ge 33, 3) := by decide +kernel
theorem d_137_47 : xcode 137 47 = some (.lload 4, 2) := by decide +kernel
theorem d_137_49 : xcode 137 49 = some (.iload 6, 2) := by decide +kernel
theorem d_137_51 : xcode 137 51 = some (.i2l, 1) := by decide +kernel
theorem d_137_52 : xcode 137 52 = some (.iload_n 1, 1) := by decide +kernel
theorem d_137_53 : xcode 137 53 = some (.iconst 1, 1) := by decide +kernel
theorem d_137_54 : xcode 137 54 = some (.isub, 1) := by decide +kernel
theorem d_137_55 : xcode 137 55 = some (.iload_n 3, 1) := by decide +kernel
theorem d_137_56 : xcode 137 56 = some (.i2l, 1) := by decide +kernel
theorem d_137_57 : xcode 137 57 = some (.invokestatic 302, 3) := by decide +kernel
theorem d_137_60 : xcode 137 60 = some (.iload 6, 2) := by decide +kernel
theorem d_137_62 : xcode 137 62 = some (.iload_n 2, 1) := by decide +kernel
theorem d_137_63 : xcode 137 63 = some (.imul, 1) := by decide +kernel
theorem d_137_64 : xcode 137 64 = some (.iload_n 3, 1) := by decide +kernel
theorem d_137_65 : xcode 137 65 = some (.idiv, 1) := by decide +kernel
theorem d_137_66 : xcode 137 66 = some (.i2l, 1) := by decide +kernel
theorem d_137_67 : xcode 137 67 = some (.lmul, 1) := by decide +kernel
theorem d_137_68 : xcode 137 68 = some (.ladd, 1) := by decide +kernel
theorem d_137_69 : xcode 137 69 = some (.lstore 4, 2) := by decide +kernel
theorem d_137_71 : xcode 137 71 = some (.iinc 6 1, 3) := by decide +kernel
theorem d_137_74 : xcode 137 74 = some (.goto (-33), 3) := by decide +kernel
theorem d_137_77 : xcode 137 77 = some (.iload_n 1, 1) := by decide +kernel
theorem d_137_78 : xcode 137 78 = some (.i2l, 1) := by decide +kernel
theorem d_137_79 : xcode 137 79 = some (.iload_n 2, 1) := by decide +kernel
theorem d_137_80 : xcode 137 80 = some (.i2l, 1) := by decide +kernel
theorem d_137_81 : xcode 137 81 = some (.iload_n 1, 1) := by decide +kernel
theorem d_137_82 : xcode 137 82 = some (.iconst 1, 1) := by decide +kernel
theorem d_137_83 : xcode 137 83 = some (.isub, 1) := by decide +kernel
theorem d_137_84 : xcode 137 84 = some (.iload_n 3, 1) := by decide +kernel
theorem d_137_85 : xcode 137 85 = some (.i2l, 1) := by decide +kernel
theorem d_137_86 : xcode 137 86 = some (.invokestatic 302, 3) := by decide +kernel
theorem d_137_89 : xcode 137 89 = some (.lmul, 1) := by decide +kernel
theorem d_137_90 : xcode 137 90 = some (.lstore 6, 2) := by decide +kernel
theorem d_137_92 : xcode 137 92 = some (.lload 4, 2) := by decide +kernel
theorem d_137_94 : xcode 137 94 = some (.iload_n 3, 1) := by decide +kernel
theorem d_137_95 : xcode 137 95 = some (.i2l, 1) := by decide +kernel
theorem d_137_96 : xcode 137 96 = some (.lrem, 1) := by decide +kernel
theorem d_137_97 : xcode 137 97 = some (.lload 6, 2) := by decide +kernel
theorem d_137_99 : xcode 137 99 = some (.lmul, 1) := by decide +kernel
theorem d_137_100 : xcode 137 100 = some (.iload_n 3, 1) := by decide +kernel
theorem d_137_101 : xcode 137 101 = some (.i2l, 1) := by decide +kernel
theorem d_137_102 : xcode 137 102 = some (.invokestatic 306, 3) := by decide +kernel
theorem d_137_105 : xcode 137 105 = some (.l2i, 1) := by decide +kernel
theorem d_137_106 : xcode 137 106 = some (.ireturn, 1) := by decide +kernel
theorem d_138_0 : xcode 138 0 = some (.iload_n 1, 1) := by decide +kernel
theorem d_138_1 : xcode 138 1 = some (.invokestatic 222, 3) := by decide +kernel
theorem d_138_4 : xcode 138 4 = some (.ifCond .eq 21, 3) := by decide +kernel
theorem d_138_7 : xcode 138 7 = some (.iload_n 2, 1) := by decide +kernel
theorem d_138_8 : xcode 138 8 = some (.invokestatic 124, 3) := by decide +kernel
theorem d_138_11 : xcode 138 11 = some (.ifCond .eq 14, 3) := by decide +kernel
theorem d_138_14 : xcode 138 14 = some (.iload_n 3, 1) := by decide +kernel
theorem d_138_15 : xcode 138 15 = some (.ifCond .lt 10, 3) := by decide +kernel
theorem d_138_18 : xcode 138 18 = some (.iload_n 3, 1) := by decide +kernel
theorem d_138_19 : xcode 138 19 = some (.iload_n 1, 1) := by decide +kernel
theorem d_138_20 : xcode 138 20 = some (.iconst 2, 1) := by decide +kernel
theorem d_138_21 : xcode 138 21 = some (.isub, 1) := by decide +kernel
theorem d_138_22 : xcode 138 22 = some (.if_icmp .le 5, 3) := by decide +kernel
theorem d_138_25 : xcode 138 25 = some (.iconst (-1), 1) := by decide +kernel
theorem d_138_26 : xcode 138 26 = some (.ireturn, 1) := by decide +kernel
theorem d_138_27 : xcode 138 27 = some (.aload_n 0, 1) := by decide +kernel
theorem d_138_28 : xcode 138 28 = some (.getfield 72, 3) := by decide +kernel
theorem d_138_31 : xcode 138 31 = some (.iload_n 1, 1) := by decide +kernel
theorem d_138_32 : xcode 138 32 = some (.iload_n 2, 1) := by decide +kernel
theorem d_138_33 : xcode 138 33 = some (.invokevirtual 310, 3) := by decide +kernel
theorem d_138_36 : xcode 138 36 = some (.aload_n 0, 1) := by decide +kernel
theorem d_138_37 : xcode 138 37 = some (.getfield 72, 3) := by decide +kernel
theorem d_138_40 : xcode 138 40 = some (.iload_n 3, 1) := by decide +kernel
theorem d_138_41 : xcode 138 41 = some (.invokevirtual 313, 3) := by decide +kernel
theorem d_138_44 : xcode 138 44 = some (.l2i, 1) := by decide +kernel
theorem d_138_45 : xcode 138 45 = some (.ireturn, 1) := by decide +kernel
theorem d_139_0 : xcode 139 0 = some (.iload_n 1, 1) := by decide +kernel
theorem d_139_1 : xcode 139 1 = some (.invokestatic 222, 3) := by decide +kernel
theorem d_139_4 : xcode 139 4 = some (.ifCond .eq 10, 3) := by decide +kernel
theorem d_139_7 : xcode 139 7 = some (.iload_n 2, 1) := by decide +kernel
theorem d_139_8 : xcode 139 8 = some (.invokestatic 124, 3) := by decide +kernel
theorem d_139_11 : xcode 139 11 = some (.ifCond .ne 5, 3) := by decide +kernel
theorem d_139_14 : xcode 139 14 = some (.iconst (-1), 1) := by decide +kernel
theorem d_139_15 : xcode 139 15 = some (.ireturn, 1) := by decide +kernel
theorem d_139_16 : xcode 139 16 = some (.aload_n 0, 1) := by decide +kernel
theorem d_139_17 : xcode 139 17 = some (.getfield 72, 3) := by decide +kernel
theorem d_139_20 : xcode 139 20 = some (.iload_n 1, 1) := by decide +kernel
theorem d_139_21 : xcode 139 21 = some (.iload_n 2, 1) := by decide +kernel
theorem d_139_22 : xcode 139 22 = some (.invokevirtual 310, 3) := by decide +kernel
theorem d_139_25 : xcode 139 25 = some (.iconst 0, 1) := by decide +kernel
theorem d_139_26 : xcode 139 26 = some (.istore_n 3, 1) := by decide +kernel
theorem d_139_27 : xcode 139 27 = some (.iconst 2, 1) := by decide +kernel
theorem d_139_28 : xcode 139 28 = some (.istore 4, 2) := by decide +kernel
theorem d_139_30 : xcode 139 30 = some (.iload 4, 2) := by decide +kernel
theorem d_139_32 : xcode 139 32 = some (.iload_n 1, 1) := by decide +kernel
theorem d_139_33 : xcode 139 33 = some (.iconst 3, 1) := by decide +kernel
theorem d_139_34 : xcode 139 34 = some (.isub, 1) := by decide +kernel
theorem d_139_35 : xcode 139 35 = some (.if_icmp .gt 26, 3) := by decide +kernel
theorem d_139_38 : xcode 139 38 = some (.aload_n 0, 1) := by decide +kernel
theorem d_139_39 : xcode 139 39 = some (.getfield 72, 3) := by decide +kernel
theorem d_139_42 : xcode 139 42 = some (.iload 4, 2) := by decide +kernel
theorem d_139_44 : xcode 139 44 = some (.invokevirtual 313, 3) := by decide +kernel
theorem d_139_47 : xcode 139 47 = some (.lconst 0, 1) := by decide +kernel
theorem d_139_48 : xcode 139 48 = some (.lcmp, 1) := by decide +kernel
theorem d_139_49 : xcode 139 49 = some (.ifCond .ne 6, 3) := by decide +kernel
theorem d_139_52 : xcode 139 52 = some (.iinc 3 1, 3) := by decide +kernel
theorem d_139_55 : xcode 139 55 = some (.iinc 4 2, 3) := by decide +kernel
theorem d_139_58 : xcode 139 58 = some (.goto (-28), 3) := by decide +kernel
theorem d_139_61 : xcode 139 61 = some (.iload_n 3, 1) := by decide +kernel
theorem d_139_62 : xcode 139 62 = some (.ireturn, 1) := by decide +kernel
theorem d_140_0 : xcode 140 0 = some (.iload_n 1, 1) := by decide +kernel
theorem d_140_1 : xcode 140 1 = some (.invokestatic 222, 3) := by decide +kernel
theorem d_140_4 : xcode 140 4 = some (.ifCond .eq 8, 3) := by decide +kernel
theorem d_140_7 : xcode 140 7 = some (.iload_n 1, 1) := by decide +kernel
theorem d_140_8 : xcode 140 8 = some (.iconst 5, 1) := by decide +kernel
theorem d_140_9 : xcode 140 9 = some (.if_icmp .ge 5, 3) := by decide +kernel
theorem d_140_12 : xcode 140 12 = some (.iconst (-1), 1) := by decide +kernel
theorem d_140_13 : xcode 140 13 = some (.ireturn, 1) := by decide +kernel
theorem d_140_14 : xcode 140 14 = some (.iload_n 1, 1) := by decide +kernel
theorem d_140_15 : xcode 140 15 = some (.i2l, 1) := by decide +kernel
theorem d_140_16 : xcode 140 16 = some (.iload_n 1, 1) := by decide +kernel
theorem d_140_17 : xcode 140 17 = some (.i2l, 1) := by decide +kernel
theorem d_140_18 : xcode 140 18 = some (.lmul, 1) := by decide +kernel
theorem d_140_19 : xcode 140 19 = some (.lstore_n 2, 1) := by decide +kernel
theorem d_140_20 : xcode 140 20 = some (.lload_n 2, 1) := by decide +kernel
theorem d_140_21 : xcode 140 21 = some (.iload_n 1, 1) := by decide +kernel
theorem d_140_22 : xcode 140 22 = some (.i2l, 1) := by decide +kernel
theorem d_140_23 : xcode 140 23 = some (.lmul, 1) := by decide +kernel
theorem d_140_24 : xcode 140 24 = some (.lstore 4, 2) := by decide +kernel
theorem d_140_26 : xcode 140 26 = some (.lconst 0, 1) := by decide +kernel
theorem d_140_27 : xcode 140 27 = some (.lstore 6, 2) := by decide +kernel
theorem d_140_29 : xcode 140 29 = some (.iconst 1, 1) := by decide +kernel
theorem d_140_30 : xcode 140 30 = some (.istore 8, 2) := by decide +kernel
theorem d_140_32 : xcode 140 32 = some (.iload 8, 2) := by decide +kernel
theorem d_140_34 : xcode 140 34 = some (.iload_n 1, 1) := by decide +kernel
theorem d_140_35 : xcode 140 35 = some (.if_icmp .ge 22, 3) := by decide +kernel
theorem d_140_38 : xcode 140 38 = some (.lload 6, 2) := by decide +kernel
theorem d_140_40 : xcode 140 40 = some (.iload 8, 2) := by decide +kernel
theorem d_140_42 : xcode 140 42 = some (.i2l, 1) := by decide +kernel
theorem d_140_43 : xcode 140 43 = some (.lload 4, 2) := by decide +kernel
theorem d_140_45 : xcode 140 45 = some (.invokestatic 316, 3) := by decide +kernel
theorem d_140_48 : xcode 140 48 = some (.ladd, 1) := by decide +kernel
theorem d_140_49 : xcode 140 49 = some (.lstore 6, 2) := by decide +kernel
theorem d_140_51 : xcode 140 51 = some (.iinc 8 1, 3) := by decide +kernel
theorem d_140_54 : xcode 140 54 = some (.goto (-22), 3) := by decide +kernel
theorem d_140_57 : xcode 140 57 = some (.lload 6, 2) := by decide +kernel
theorem d_140_59 : xcode 140 59 = some (.lload 4, 2) := by decide +kernel
theorem d_140_61 : xcode 140 61 = some (.lrem, 1) := by decide +kernel
theorem d_140_62 : xcode 140 62 = some (.lload_n 2, 1) := by decide +kernel
theorem d_140_63 : xcode 140 63 = some (.ldiv, 1) := by decide +kernel
theorem d_140_64 : xcode 140 64 = some (.l2i, 1) := by decide +kernel
theorem d_140_65 : xcode 140 65 = some (.ireturn, 1) := by decide +kernel
theorem d_141_0 : xcode 141 0 = some (.iload_n 1, 1) := by decide +kernel
theorem d_141_1 : xcode 141 1 = some (.invokestatic 222, 3) := by decide +kernel
theorem d_141_4 : xcode 141 4 = some (.ifCond .ne 5, 3) := by decide +kernel
theorem d_141_7 : xcode 141 7 = some (.iconst (-1), 1) := by decide +kernel
theorem d_141_8 : xcode 141 8 = some (.ireturn, 1) := by decide +kernel
theorem d_141_9 : xcode 141 9 = some (.iload_n 1, 1) := by decide +kernel
theorem d_141_10 : xcode 141 10 = some (.i2l, 1) := by decide +kernel
theorem d_141_11 : xcode 141 11 = some (.iload_n 1, 1) := by decide +kernel
theorem d_141_12 : xcode 141 12 = some (.i2l, 1) := by decide +kernel
theorem d_141_13 : xcode 141 13 = some (.lmul, 1) := by decide +kernel
theorem d_141_14 : xcode 141 14 = some (.lstore_n 2, 1) := by decide +kernel
theorem d_141_15 : xcode 141 15 = some (.lconst 1, 1) := by decide +kernel
theorem d_141_16 : xcode 141 16 = some (.lstore 4, 2) := by decide +kernel
theorem d_141_18 : xcode 141 18 = some (.iconst 2, 1) := by decide +kernel
theorem d_141_19 : xcode 141 19 = some (.istore 6, 2) := by decide +kernel
theorem d_141_21 : xcode 141 21 = some (.iload 6, 2) := by decide +kernel
theorem d_141_23 : xcode 141 23 = some (.iload_n 1, 1) := by decide +kernel
theorem d_141_24 : xcode 141 24 = some (.if_icmp .ge 19, 3) := by decide +kernel
theorem d_141_27 : xcode 141 27 = some (.lload 4, 2) := by decide +kernel
theorem d_141_29 : xcode 141 29 = some (.iload 6, 2) := by decide +kernel
theorem d_141_31 : xcode 141 31 = some (.i2l, 1) := by decide +kernel
theorem d_141_32 : xcode 141 32 = some (.lmul, 1) := by decide +kernel
theorem d_141_33 : xcode 141 33 = some (.lload_n 2, 1) := by decide +kernel
theorem d_141_34 : xcode 141 34 = some (.lrem, 1) := by decide +kernel
theorem d_141_35 : xcode 141 35 = some (.lstore 4, 2) := by decide +kernel
theorem d_141_37 : xcode 141 37 = some (.iinc 6 1, 3) := by decide +kernel
theorem d_141_40 : xcode 141 40 = some (.goto (-19), 3) := by decide +kernel
theorem d_141_43 : xcode 141 43 = some (.lload 4, 2) := by decide +kernel
theorem d_141_45 : xcode 141 45 = some (.lconst 1, 1) := by decide +kernel
theorem d_141_46 : xcode 141 46 = some (.ladd, 1) := by decide +kernel
theorem d_141_47 : xcode 141 47 = some (.iload_n 1, 1) := by decide +kernel
theorem d_141_48 : xcode 141 48 = some (.i2l, 1) := by decide +kernel
theorem d_141_49 : xcode 141 49 = some (.ldiv, 1) := by decide +kernel
theorem d_141_50 : xcode 141 50 = some (.iload_n 1, 1) := by decide +kernel
theorem d_141_51 : xcode 141 51 = some (.i2l, 1) := by decide +kernel
theorem d_141_52 : xcode 141 52 = some (.lrem, 1) := by decide +kernel
theorem d_141_53 : xcode 141 53 = some (.l2i, 1) := by decide +kernel
theorem d_141_54 : xcode 141 54 = some (.ireturn, 1) := by decide +kernel
theorem d_142_0 : xcode 142 0 = some (.iload_n 1, 1) := by decide +kernel
theorem d_142_1 : xcode 142 1 = some (.invokestatic 222, 3) := by decide +kernel
theorem d_142_4 : xcode 142 4 = some (.ifCond .eq 16, 3) := by decide +kernel
theorem d_142_7 : xcode 142 7 = some (.iload_n 1, 1) := by decide +kernel
theorem d_142_8 : xcode 142 8 = some (.bipush 7, 2) := by decide +kernel
theorem d_142_10 : xcode 142 10 = some (.if_icmp .lt 10, 3) := by decide +kernel
theorem d_142_13 : xcode 142 13 = some (.iload_n 1, 1) := by decide +kernel
theorem d_142_14 : xcode 142 14 = some (.iconst 4, 1) := by decide +kernel
theorem d_142_15 : xcode 142 15 = some (.irem, 1) := by decide +kernel
theorem d_142_16 : xcode 142 16 = some (.iconst 3, 1) := by decide +kernel
theorem d_142_17 : xcode 142 17 = some (.if_icmp .eq 5, 3) := by decide +kernel
theorem d_142_20 : xcode 142 20 = some (.iconst (-1), 1) := by decide +kernel
theorem d_142_21 : xcode 142 21 = some (.ireturn, 1) := by decide +kernel
theorem d_142_22 : xcode 142 22 = some (.iconst 0, 1) := by decide +kernel
theorem d_142_23 : xcode 142 23 = some (.istore_n 2, 1) := by decide +kernel
theorem d_142_24 : xcode 142 24 = some (.iconst 1, 1) := by decide +kernel
theorem d_142_25 : xcode 142 25 = some (.istore_n 3, 1) := by decide +kernel
theorem d_142_26 : xcode 142 26 = some (.iload_n 3, 1) := by decide +kernel
theorem d_142_27 : xcode 142 27 = some (.iload_n 1, 1) := by decide +kernel
theorem d_142_28 : xcode 142 28 = some (.if_icmp .ge 19, 3) := by decide +kernel
theorem d_142_31 : xcode 142 31 = some (.iload_n 2, 1) := by decide +kernel
theorem d_142_32 : xcode 142 32 = some (.iload_n 3, 1) := by decide +kernel
theorem d_142_33 : xcode 142 33 = some (.iload_n 1, 1) := by decide +kernel
theorem d_142_34 : xcode 142 34 = some (.invokestatic 319, 3) := by decide +kernel
theorem d_142_37 : xcode 142 37 = some (.iload_n 3, 1) := by decide +kernel
theorem d_142_38 : xcode 142 38 = some (.imul, 1) := by decide +kernel
theorem d_142_39 : xcode 142 39 = some (.isub, 1) := by decide +kernel
theorem d_142_40 : xcode 142 40 = some (.istore_n 2, 1) := by decide +kernel
theorem d_142_41 : xcode 142 41 = some (.iinc 3 1, 3) := by decide +kernel
theorem d_142_44 : xcode 142 44 = some (.goto (-18), 3) := by decide +kernel
theorem d_142_47 : xcode 142 47 = some (.iload_n 2, 1) := by decide +kernel
theorem d_142_48 : xcode 142 48 = some (.iload_n 1, 1) := by decide +kernel
theorem d_142_49 : xcode 142 49 = some (.idiv, 1) := by decide +kernel
theorem d_142_50 : xcode 142 50 = some (.ireturn, 1) := by decide +kernel
theorem d_143_0 : xcode 143 0 = some (.iload_n 0, 1) := by decide +kernel
theorem d_143_1 : xcode 143 1 = some (.i2l, 1) := by decide +kernel
theorem d_143_2 : xcode 143 2 = some (.iload_n 1, 1) := by decide +kernel
theorem d_143_3 : xcode 143 3 = some (.iconst 1, 1) := by decide +kernel
theorem d_143_4 : xcode 143 4 = some (.isub, 1) := by decide +kernel
theorem d_143_5 : xcode 143 5 = some (.iconst 2, 1) := by decide +kernel
theorem d_143_6 : xcode 143 6 = some (.idiv, 1) := by decide +kernel
theorem d_143_7 : xcode 143 7 = some (.iload_n 1, 1) := by decide +kernel
theorem d_143_8 : xcode 143 8 = some (.i2l, 1) := by decide +kernel
theorem d_143_9 : xcode 143 9 = some (.invokestatic 13, 3) := by decide +kernel
theorem d_143_12 : xcode 143 12 = some (.lstore_n 2, 1) := by decide +kernel
theorem d_143_13 : xcode 143 13 = some (.lload_n 2, 1) := by decide +kernel
theorem d_143_14 : xcode 143 14 = some (.lconst 1, 1) := by decide +kernel
theorem d_143_15 : xcode 143 15 = some (.lcmp, 1) := by decide +kernel
theorem d_143_16 : xcode 143 16 = some (.ifCond .le 7, 3) := by decide +kernel
theorem d_143_19 : xcode 143 19 = some (.iconst (-1), 1) := by decide +kernel
theorem d_143_20 : xcode 143 20 = some (.goto 5, 3) := by decide +kernel
theorem d_143_23 : xcode 143 23 = some (.lload_n 2, 1) := by decide +kernel
theorem d_143_24 : xcode 143 24 = some (.l2i, 1) := by decide +kernel
theorem d_143_25 : xcode 143 25 = some (.ireturn, 1) := by decide +kernel
theorem d_144_0 : xcode 144 0 = some (.iload_n 1, 1) := by decide +kernel
theorem d_144_1 : xcode 144 1 = some (.invokestatic 222, 3) := by decide +kernel
theorem d_144_4 : xcode 144 4 = some (.ifCond .eq 20, 3) := by decide +kernel
theorem d_144_7 : xcode 144 7 = some (.iload_n 2, 1) := by decide +kernel
theorem d_144_8 : xcode 144 8 = some (.iconst 1, 1) := by decide +kernel
theorem d_144_9 : xcode 144 9 = some (.if_icmp .lt 15, 3) := by decide +kernel
theorem d_144_12 : xcode 144 12 = some (.iload_n 2, 1) := by decide +kernel
theorem d_144_13 : xcode 144 13 = some (.iconst 4, 1) := by decide +kernel
theorem d_144_14 : xcode 144 14 = some (.if_icmp .gt 10, 3) := by decide +kernel
theorem d_144_17 : xcode 144 17 = some (.iload_n 3, 1) := by decide +kernel
theorem d_144_18 : xcode 144 18 = some (.invokestatic 153, 3) := by decide +kernel
theorem d_144_21 : xcode 144 21 = some (.ifCond .ne 7, 3) := by decide +kernel
theorem d_144_24 : xcode 144 24 = some (.ldc2_w 166, 3) := by decide +kernel
theorem d_144_27 : xcode 144 27 = some (.lreturn, 1) := by decide +kernel
theorem d_144_28 : xcode 144 28 = some (.lconst 0, 1) := by decide +kernel
theorem d_144_29 : xcode 144 29 = some (.lstore 4, 2) := by decide +kernel
theorem d_144_31 : xcode 144 31 = some (.iconst 1, 1) := by decide +kernel
theorem d_144_32 : xcode 144 32 = some (.istore 6, 2) := by decide +kernel
theorem d_144_34 : xcode 144 34 = some (.iload 6, 2) := by decide +kernel
theorem d_144_36 : xcode 144 36 = some (.iload_n 1, 1) := by decide +kernel
theorem d_144_37 : xcode 144 37 = some (.if_icmp .gt 39, 3) := by decide +kernel
theorem d_144_40 : xcode 144 40 = some (.lload 4, 2) := by decide +kernel
theorem d_144_42 : xcode 144 42 = some (.iload 6, 2) := by decide +kernel
theorem d_144_44 : xcode 144 44 = some (.iload_n 1, 1) := by decide +kernel
theorem d_144_45 : xcode 144 45 = some (.invokestatic 319, 3) := by decide +kernel
theorem d_144_48 : xcode 144 48 = some (.i2l, 1) := by decide +kernel
theorem d_144_49 : xcode 144 49 = some (.aload_n 0, 1) := by decide +kernel
theorem d_144_50 : xcode 144 50 = some (.aload_n 0, 1) := by decide +kernel
theorem d_144_51 : xcode 144 51 = some (.getfield 35, 3) := by decide +kernel
theorem d_144_54 : xcode 144 54 = some (.iload_n 2, 1) := by decide +kernel
theorem d_144_55 : xcode 144 55 = some (.iload 6, 2) := by decide +kernel
theorem d_144_57 : xcode 144 57 = some (.i2l, 1) := by decide +kernel
theorem d_144_58 : xcode 144 58 = some (.iload_n 1, 1) := by decide +kernel
theorem d_144_59 : xcode 144 59 = some (.i2l, 1) := by decide +kernel
theorem d_144_60 : xcode 144 60 = some (.ldc2_w 321, 3) := by decide +kernel
theorem d_144_63 : xcode 144 63 = some (.invokevirtual 323, 3) := by decide +kernel
theorem d_144_66 : xcode 144 66 = some (.lmul, 1) := by decide +kernel
theorem d_144_67 : xcode 144 67 = some (.ladd, 1) := by decide +kernel
theorem d_144_68 : xcode 144 68 = some (.lstore 4, 2) := by decide +kernel
theorem d_144_70 : xcode 144 70 = some (.iinc 6 1, 3) := by decide +kernel
theorem d_144_73 : xcode 144 73 = some (.goto (-39), 3) := by decide +kernel
theorem d_144_76 : xcode 144 76 = some (.aload_n 0, 1) := by decide +kernel
theorem d_144_77 : xcode 144 77 = some (.getfield 95, 3) := by decide +kernel
theorem d_144_80 : xcode 144 80 = some (.lconst 0, 1) := by decide +kernel
theorem d_144_81 : xcode 144 81 = some (.lload 4, 2) := by decide +kernel
theorem d_144_83 : xcode 144 83 = some (.ldc2_w 321, 3) := by decide +kernel
theorem d_144_86 : xcode 144 86 = some (.iload_n 1, 1) := by decide +kernel
theorem d_144_87 : xcode 144 87 = some (.i2l, 1) := by decide +kernel
theorem d_144_88 : xcode 144 88 = some (.lmul, 1) := by decide +kernel
theorem d_144_89 : xcode 144 89 = some (.invokevirtual 327, 3) := by decide +kernel
theorem d_144_92 : xcode 144 92 = some (.aload_n 0, 1) := by decide +kernel
theorem d_144_93 : xcode 144 93 = some (.getfield 95, 3) := by decide +kernel
theorem d_144_96 : xcode 144 96 = some (.iload_n 3, 1) := by decide +kernel
theorem d_144_97 : xcode 144 97 = some (.invokevirtual 171, 3) := by decide +kernel
theorem d_144_100 : xcode 144 100 = some (.lreturn, 1) := by decide +kernel
theorem d_145_0 : xcode 145 0 = some (.lconst 0, 1) := by decide +kernel
theorem d_145_1 : xcode 145 1 = some (.lstore 9, 2) := by decide +kernel
theorem d_145_3 : xcode 145 3 = some (.lconst 1, 1) := by decide +kernel
theorem d_145_4 : xcode 145 4 = some (.lstore 11, 2) := by decide +kernel
theorem d_145_6 : xcode 145 6 = some (.iload_n 2, 1) := by decide +kernel
theorem d_145_7 : xcode 145 7 = some (.istore 13, 2) := by decide +kernel
theorem d_145_9 : xcode 145 9 = some (.iload 13, 2) := by decide +kernel
theorem d_145_11 : xcode 145 11 = some (.ifCond .lt 47, 3) := by decide +kernel
theorem d_145_14 : xcode 145 14 = some (.lload 9, 2) := by decide +kernel
theorem d_145_16 : xcode 145 16 = some (.lload_n 3, 1) := by decide +kernel
theorem d_145_17 : xcode 145 17 = some (.lmul, 1) := by decide +kernel
theorem d_145_18 : xcode 145 18 = some (.aload_n 0, 1) := by decide +kernel
theorem d_145_19 : xcode 145 19 = some (.getfield 14, 3) := by decide +kernel
theorem d_145_22 : xcode 145 22 = some (.iload_n 2, 1) := by decide +kernel
theorem d_145_23 : xcode 145 23 = some (.iload 13, 2) := by decide +kernel
theorem d_145_25 : xcode 145 25 = some (.invokevirtual 336, 3) := by decide +kernel
theorem d_145_28 : xcode 145 28 = some (.aload_n 1, 1) := by decide +kernel
theorem d_145_29 : xcode 145 29 = some (.iload_n 2, 1) := by decide +kernel
theorem d_145_30 : xcode 145 30 = some (.iload 13, 2) := by decide +kernel
theorem d_145_32 : xcode 145 32 = some (.isub, 1) := by decide +kernel
theorem d_145_33 : xcode 145 33 = some (.lload 7, 2) := by decide +kernel
theorem d_145_35 : xcode 145 35 = some (.invokevirtual 461, 3) := by decide +kernel
theorem d_145_38 : xcode 145 38 = some (.lmul, 1) := by decide +kernel
theorem d_145_39 : xcode 145 39 = some (.lload 11, 2) := by decide +kernel
theorem d_145_41 : xcode 145 41 = some (.lmul, 1) := by decide +kernel
theorem d_145_42 : xcode 145 42 = some (.ladd, 1) := by decide +kernel
theorem d_145_43 : xcode 145 43 = some (.lstore 9, 2) := by decide +kernel
theorem d_145_45 : xcode 145 45 = some (.lload 11, 2) := by decide +kernel
theorem d_145_47 : xcode 145 47 = some (.lload 5, 2) := by decide +kernel
theorem d_145_49 : xcode 145 49 = some (.lmul, 1) := by decide +kernel
theorem d_145_50 : xcode 145 50 = some (.lstore 11, 2) := by decide +kernel
theorem d_145_52 : xcode 145 52 = some (.iinc 13 (-1), 3) := by decide +kernel
theorem d_145_55 : xcode 145 55 = some (.goto (-46), 3) := by decide +kernel
theorem d_145_58 : xcode 145 58 = some (.lload 9, 2) := by decide +kernel
theorem d_145_60 : xcode 145 60 = some (.lreturn, 1) := by decide +kernel
theorem d_146_0 : xcode 146 0 = some (.aload_n 0, 1) := by decide +kernel
theorem d_146_1 : xcode 146 1 = some (.iload_n 1, 1) := by decide +kernel
theorem d_146_2 : xcode 146 2 = some (.invokevirtual 55, 3) := by decide +kernel
theorem d_146_5 : xcode 146 5 = some (.lstore 4, 2) := by decide +kernel
theorem d_146_7 : xcode 146 7 = some (.lload 4, 2) := by decide +kernel
theorem d_146_9 : xcode 146 9 = some (.lconst 0, 1) := by decide +kernel
theorem d_146_10 : xcode 146 10 = some (.lcmp, 1) := by decide +kernel
theorem d_146_11 : xcode 146 11 = some (.ifCond .le 24, 3) := by decide +kernel
theorem d_146_14 : xcode 146 14 = some (.aload_n 0, 1) := by decide +kernel
theorem d_146_15 : xcode 146 15 = some (.iload_n 1, 1) := by decide +kernel
theorem d_146_16 : xcode 146 16 = some (.invokevirtual 38, 3) := by decide +kernel
theorem d_146_19 : xcode 146 19 = some (.lload_n 2, 1) := by decide +kernel
theorem d_146_20 : xcode 146 20 = some (.lmul, 1) := by decide +kernel
theorem d_146_21 : xcode 146 21 = some (.aload_n 0, 1) := by decide +kernel
theorem d_146_22 : xcode 146 22 = some (.iload_n 1, 1) := by decide +kernel
theorem d_146_23 : xcode 146 23 = some (.invokevirtual 42, 3) := by decide +kernel
theorem d_146_26 : xcode 146 26 = some (.lload_n 2, 1) := by decide +kernel
theorem d_146_27 : xcode 146 27 = some (.lload 4, 2) := by decide +kernel
theorem d_146_29 : xcode 146 29 = some (.ldiv, 1) := by decide +kernel
theorem d_146_30 : xcode 146 30 = some (.lmul, 1) := by decide +kernel
theorem d_146_31 : xcode 146 31 = some (.ladd, 1) := by decide +kernel
theorem d_146_32 : xcode 146 32 = some (.goto 4, 3) := by decide +kernel
theorem d_146_35 : xcode 146 35 = some (.lconst 0, 1) := by decide +kernel
theorem d_146_36 : xcode 146 36 = some (.lreturn, 1) := by decide +kernel
theorem d_147_0 : xcode 147 0 = some (.iload_n 1, 1) := by decide +kernel
theorem d_147_1 : xcode 147 1 = some (.iconst 3, 1) := by decide +kernel
theorem d_147_2 : xcode 147 2 = some (.if_icmp .lt 10, 3) := by decide +kernel
theorem d_147_5 : xcode 147 5 = some (.iload_n 1, 1) := by decide +kernel
theorem d_147_6 : xcode 147 6 = some (.sipush 199, 3) := by decide +kernel
theorem d_147_9 : xcode 147 9 = some (.if_icmp .le 5, 3) := by decide +kernel
theorem d_147_12 : xcode 147 12 = some (.iconst (-1), 1) := by decide +kernel
theorem d_147_13 : xcode 147 13 = some (.ireturn, 1) := by decide +kernel
theorem d_147_14 : xcode 147 14 = some (.aload_n 0, 1) := by decide +kernel
theorem d_147_15 : xcode 147 15 = some (.getfield 81, 3) := by decide +kernel
theorem d_147_18 : xcode 147 18 = some (.iload_n 1, 1) := by decide +kernel
theorem d_147_19 : xcode 147 19 = some (.invokevirtual 287, 3) := by decide +kernel
theorem d_147_22 : xcode 147 22 = some (.iconst 0, 1) := by decide +kernel
theorem d_147_23 : xcode 147 23 = some (.istore_n 2, 1) := by decide +kernel
theorem d_147_24 : xcode 147 24 = some (.getstatic 184, 3) := by decide +kernel
theorem d_147_27 : xcode 147 27 = some (.astore_n 3, 1) := by decide +kernel
theorem d_147_28 : xcode 147 28 = some (.aload_n 3, 1) := by decide +kernel
theorem d_147_29 : xcode 147 29 = some (.arraylength, 1) := by decide +kernel
theorem d_147_30 : xcode 147 30 = some (.istore 4, 2) := by decide +kernel
theorem d_147_32 : xcode 147 32 = some (.iconst 0, 1) := by decide +kernel
theorem d_147_33 : xcode 147 33 = some (.istore 5, 2) := by decide +kernel
theorem d_147_35 : xcode 147 35 = some (.iload 5, 2) := by decide +kernel
theorem d_147_37 : xcode 147 37 = some (.iload 4, 2) := by decide +kernel
theorem d_147_39 : xcode 147 39 = some (.if_icmp .ge 42, 3) := by decide +kernel
theorem d_147_42 : xcode 147 42 = some (.aload_n 3, 1) := by decide +kernel
theorem d_147_43 : xcode 147 43 = some (.iload 5, 2) := by decide +kernel
theorem d_147_45 : xcode 147 45 = some (.iaload, 1) := by decide +kernel
theorem d_147_46 : xcode 147 46 = some (.istore 6, 2) := by decide +kernel
theorem d_147_48 : xcode 147 48 = some (.iload 6, 2) := by decide +kernel
theorem d_147_50 : xcode 147 50 = some (.iconst 3, 1) := by decide +kernel
theorem d_147_51 : xcode 147 51 = some (.if_icmp .lt 24, 3) := by decide +kernel
theorem d_147_54 : xcode 147 54 = some (.iload 6, 2) := by decide +kernel
theorem d_147_56 : xcode 147 56 = some (.iload_n 1, 1) := by decide +kernel
theorem d_147_57 : xcode 147 57 = some (.if_icmp .gt 18, 3) := by decide +kernel
theorem d_147_60 : xcode 147 60 = some (.aload_n 0, 1) := by decide +kernel
theorem d_147_61 : xcode 147 61 = some (.getfield 81, 3) := by decide +kernel
theorem d_147_64 : xcode 147 64 = some (.iload 6, 2) := by decide +kernel
theorem d_147_66 : xcode 147 66 = some (.invokevirtual 290, 3) := by decide +kernel
theorem d_147_69 : xcode 147 69 = some (.ifCond .ne 6, 3) := by decide +kernel
theorem d_147_72 : xcode 147 72 = some (.iinc 2 1, 3) := by decide +kernel
theorem d_147_75 : xcode 147 75 = some (.iinc 5 1, 3) := by decide +kernel
theorem d_147_78 : xcode 147 78 = some (.goto (-43), 3) := by decide +kernel
theorem d_147_81 : xcode 147 81 = some (.iload_n 2, 1) := by decide +kernel
theorem d_147_82 : xcode 147 82 = some (.ireturn, 1) := by decide +kernel
theorem d_148_0 : xcode 148 0 = some (.iload_n 1, 1) := by decide +kernel
theorem d_148_1 : xcode 148 1 = some (.ifCond .lt 29, 3) := by decide +kernel
theorem d_148_4 : xcode 148 4 = some (.iload_n 1, 1) := by decide +kernel
theorem d_148_5 : xcode 148 5 = some (.bipush 24, 2) := by decide +kernel
theorem d_148_7 : xcode 148 7 = some (.if_icmp .gt 23, 3) := by decide +kernel
theorem d_148_10 : xcode 148 10 = some (.iload_n 2, 1) := by decide +kernel
theorem d_148_11 : xcode 148 11 = some (.ifCond .lt 19, 3) := by decide +kernel
theorem d_148_14 : xcode 148 14 = some (.iload_n 2, 1) := by decide +kernel
theorem d_148_15 : xcode 148 15 = some (.iload_n 1, 1) := by decide +kernel
theorem d_148_16 : xcode 148 16 = some (.iconst 1, 1) := by decide +kernel
theorem d_148_17 : xcode 148 17 = some (.iadd, 1) := by decide +kernel
theorem d_148_18 : xcode 148 18 = some (.if_icmp .gt 12, 3) := by decide +kernel
theorem d_148_21 : xcode 148 21 = some (.iload_n 3, 1) := by decide +kernel
theorem d_148_22 : xcode 148 22 = some (.ifCond .lt 8, 3) := by decide +kernel
theorem d_148_25 : xcode 148 25 = some (.iload_n 3, 1) := by decide +kernel
theorem d_148_26 : xcode 148 26 = some (.iconst 1, 1) := by decide +kernel
theorem d_148_27 : xcode 148 27 = some (.if_icmp .le 7, 3) := by decide +kernel
theorem d_148_30 : xcode 148 30 = some (.ldc2_w 166, 3) := by decide +kernel
theorem d_148_33 : xcode 148 33 = some (.lreturn, 1) := by decide +kernel
theorem d_148_34 : xcode 148 34 = some (.iload_n 1, 1) := by decide +kernel
theorem d_148_35 : xcode 148 35 = some (.aload_n 0, 1) := by decide +kernel
theorem d_148_36 : xcode 148 36 = some (.getfield 49, 3) := by decide +kernel
theorem d_148_39 : xcode 148 39 = some (.if_icmp .le 7, 3) := by decide +kernel
theorem d_148_42 : xcode 148 42 = some (.ldc2_w 331, 3) := by decide +kernel
theorem d_148_45 : xcode 148 45 = some (.lreturn, 1) := by decide +kernel
theorem d_148_46 : xcode 148 46 = some (.aload_n 0, 1) := by decide +kernel
theorem d_148_47 : xcode 148 47 = some (.getfield 95, 3) := by decide +kernel
theorem d_148_50 : xcode 148 50 = some (.lconst 0, 1) := by decide +kernel
theorem d_148_51 : xcode 148 51 = some (.lconst 0, 1) := by decide +kernel
theorem d_148_52 : xcode 148 52 = some (.lconst 1, 1) := by decide +kernel
theorem d_148_53 : xcode 148 53 = some (.invokevirtual 327, 3) := by decide +kernel
theorem d_148_56 : xcode 148 56 = some (.iload_n 2, 1) := by decide +kernel
theorem d_148_57 : xcode 148 57 = some (.ifCond .le 70, 3) := by decide +kernel
theorem d_148_60 : xcode 148 60 = some (.iload_n 1, 1) := by decide +kernel
theorem d_148_61 : xcode 148 61 = some (.iconst 1, 1) := by decide +kernel
theorem d_148_62 : xcode 148 62 = some (.iadd, 1) := by decide +kernel
theorem d_148_63 : xcode 148 63 = some (.iload_n 2, 1) := by decide +kernel
theorem d_148_64 : xcode 148 64 = some (.isub, 1) := by decide +kernel
theorem d_148_65 : xcode 148 65 = some (.istore 4, 2) := by decide +kernel
theorem d_148_67 : xcode 148 67 = some (.aload_n 0, 1) := by decide +kernel
theorem d_148_68 : xcode 148 68 = some (.getfield 39, 3) := by decide +kernel
theorem d_148_71 : xcode 148 71 = some (.iload 4, 2) := by decide +kernel
theorem d_148_73 : xcode 148 73 = some (.aload_n 0, 1) := by decide +kernel
theorem d_148_74 : xcode 148 74 = some (.getfield 95, 3) := by decide +kernel
theorem d_148_77 : xcode 148 77 = some (.invokevirtual 168, 3) := by decide +kernel
theorem d_148_80 : xcode 148 80 = some (.aload_n 0, 1) := by decide +kernel
theorem d_148_81 : xcode 148 81 = some (.getfield 95, 3) := by decide +kernel
theorem d_148_84 : xcode 148 84 = some (.dup, 1) := by decide +kernel
theorem d_148_85 : xcode 148 85 = some (.getfield 218, 3) := by decide +kernel
theorem d_148_88 : xcode 148 88 = some (.iload 4, 2) := by decide +kernel
theorem d_148_90 : xcode 148 90 = some (.invokestatic 333, 3) := by decide +kernel
theorem d_148_93 : xcode 148 93 = some (.i2l, 1) := by decide +kernel
theorem d_148_94 : xcode 148 94 = some (.ladd, 1) := by decide +kernel
theorem d_148_95 : xcode 148 95 = some (.putfield 218, 3) := by decide +kernel
theorem d_148_98 : xcode 148 98 = some (.aload_n 0, 1) := by decide +kernel
theorem d_148_99 : xcode 148 99 = some (.getfield 95, 3) := by decide +kernel
theorem d_148_102 : xcode 148 102 = some (.aload_n 0, 1) := by decide +kernel
theorem d_148_103 : xcode 148 103 = some (.getfield 14, 3) := by decide +kernel
theorem d_148_106 : xcode 148 106 = some (.iload_n 1, 1) := by decide +kernel
theorem d_148_107 : xcode 148 107 = some (.iconst 1, 1) := by decide +kernel
theorem d_148_108 : xcode 148 108 = some (.iadd, 1) := by decide +kernel
theorem d_148_109 : xcode 148 109 = some (.iload_n 2, 1) := by decide +kernel
theorem d_148_110 : xcode 148 110 = some (.invokevirtual 336, 3) := by decide +kernel
theorem d_148_113 : xcode 148 113 = some (.invokevirtual 339, 3) := by decide +kernel
theorem d_148_116 : xcode 148 116 = some (.aload_n 0, 1) := by decide +kernel
theorem d_148_117 : xcode 148 117 = some (.getfield 95, 3) := by decide +kernel
theorem d_148_120 : xcode 148 120 = some (.iload_n 1, 1) := by decide +kernel
theorem d_148_121 : xcode 148 121 = some (.iconst 1, 1) := by decide +kernel
theorem d_148_122 : xcode 148 122 = some (.iadd, 1) := by decide +kernel
theorem d_148_123 : xcode 148 123 = some (.i2l, 1) := by decide +kernel
theorem d_148_124 : xcode 148 124 = some (.invokevirtual 342, 3) := by decide +kernel
theorem d_148_127 : xcode 148 127 = some (.iload_n 3, 1) := by decide +kernel
theorem d_148_128 : xcode 148 128 = some (.ifCond .ne 13, 3) := by decide +kernel
theorem d_148_131 : xcode 148 131 = some (.aload_n 0, 1) := by decide +kernel
theorem d_148_132 : xcode 148 132 = some (.getfield 95, 3) := by decide +kernel
theorem d_148_135 : xcode 148 135 = some (.invokevirtual 345, 3) := by decide +kernel
theorem d_148_138 : xcode 148 138 = some (.goto 10, 3) := by decide +kernel
theorem d_148_141 : xcode 148 141 = some (.aload_n 0, 1) := by decide +kernel
theorem d_148_142 : xcode 148 142 = some (.getfield 95, 3) := by decide +kernel
theorem d_148_145 : xcode 148 145 = some (.getfield 349, 3) := by decide +kernel
theorem d_148_148 : xcode 148 148 = some (.lreturn, 1) := by decide +kernel
theorem d_149_0 : xcode 149 0 = some (.iload_n 0, 1) := by decide +kernel
theorem d_149_1 : xcode 149 1 = some (.iconst 1, 1) := by decide +kernel
theorem d_149_2 : xcode 149 2 = some (.if_icmp .ne 7, 3) := by decide +kernel
theorem d_149_5 : xcode 149 5 = some (.iconst 1, 1) := by decide +kernel
theorem d_149_6 : xcode 149 6 = some (.goto 4, 3) := by decide +kernel
theorem d_149_9 : xcode 149 9 = some (.iconst 0, 1) := by decide +kernel
theorem d_149_10 : xcode 149 10 = some (.ireturn, 1) := by decide +kernel
theorem d_150_0 : xcode 150 0 = some (.aload_n 0, 1) := by decide +kernel
theorem d_150_1 : xcode 150 1 = some (.getfield 25, 3) := by decide +kernel
theorem d_150_4 : xcode 150 4 = some (.aload_n 0, 1) := by decide +kernel
theorem d_150_5 : xcode 150 5 = some (.getfield 7, 3) := by decide +kernel
theorem d_150_8 : xcode 150 8 = some (.lmul, 1) := by decide +kernel
theorem d_150_9 : xcode 150 9 = some (.aload_n 0, 1) := by decide +kernel
theorem d_150_10 : xcode 150 10 = some (.getfield 28, 3) := by decide +kernel
theorem d_150_13 : xcode 150 13 = some (.ladd, 1) := by decide +kernel
theorem d_150_14 : xcode 150 14 = some (.lreturn, 1) := by decide +kernel
theorem d_151_0 : xcode 151 0 = some (.iload_n 1, 1) := by decide +kernel
theorem d_151_1 : xcode 151 1 = some (.iload_n 2, 1) := by decide +kernel
theorem d_151_2 : xcode 151 2 = some (.invokestatic 352, 3) := by decide +kernel
theorem d_151_5 : xcode 151 5 = some (.ifCond .ne 5, 3) := by decide +kernel
theorem d_151_8 : xcode 151 8 = some (.iconst (-1), 1) := by decide +kernel
theorem d_151_9 : xcode 151 9 = some (.ireturn, 1) := by decide +kernel
theorem d_151_10 : xcode 151 10 = some (.iload_n 1, 1) := by decide +kernel
theorem d_151_11 : xcode 151 11 = some (.aload_n 0, 1) := by decide +kernel
theorem d_151_12 : xcode 151 12 = some (.getfield 49, 3) := by decide +kernel
theorem d_151_15 : xcode 151 15 = some (.if_icmp .le 6, 3) := by decide +kernel
theorem d_151_18 : xcode 151 18 = some (.bipush (-2), 2) := by decide +kernel
theorem d_151_20 : xcode 151 20 = some (.ireturn, 1) := by decide +kernel
theorem d_151_21 : xcode 151 21 = some (.aload_n 0, 1) := by decide +kernel
theorem d_151_22 : xcode 151 22 = some (.iload_n 1, 1) := by decide +kernel
theorem d_151_23 : xcode 151 23 = some (.invokevirtual 355, 3) := by decide +kernel
theorem d_151_26 : xcode 151 26 = some (.aload_n 0, 1) := by decide +kernel
theorem d_151_27 : xcode 151 27 = some (.iload_n 1, 1) := by decide +kernel
theorem d_151_28 : xcode 151 28 = some (.iload_n 2, 1) := by decide +kernel
theorem d_151_29 : xcode 151 29 = some (.i2l, 1) := by decide +kernel
theorem d_151_30 : xcode 151 30 = some (.invokevirtual 358, 3) := by decide +kernel
theorem d_151_33 : xcode 151 33 = some (.l2i, 1) := by decide +kernel
theorem d_151_34 : xcode 151 34 = some (.ireturn, 1) := by decide +kernel
theorem d_152_0 : xcode 152 0 = some (.iload_n 0, 1) := by decide +kernel
theorem d_152_1 : xcode 152 1 = some (.ifCond .lt 24, 3) := by decide +kernel
theorem d_152_4 : xcode 152 4 = some (.iload_n 0, 1) := by decide +kernel
theorem d_152_5 : xcode 152 5 = some (.bipush 24, 2) := by decide +kernel
theorem d_152_7 : xcode 152 7 = some (.if_icmp .gt 18, 3) := by decide +kernel
theorem d_152_10 : xcode 152 10 = some (.iload_n 1, 1) := by decide +kernel
theorem d_152_11 : xcode 152 11 = some (.ifCond .lt 14, 3) := by decide +kernel
theorem d_152_14 : xcode 152 14 = some (.iload_n 1, 1) := by decide +kernel
theorem d_152_15 : xcode 152 15 = some (.ldc_w 417, 3) := by decide +kernel
theorem d_152_18 : xcode 152 18 = some (.if_icmp .gt 7, 3) := by decide +kernel
theorem d_152_21 : xcode 152 21 = some (.iconst 1, 1) := by decide +kernel
theorem d_152_22 : xcode 152 22 = some (.goto 4, 3) := by decide +kernel
theorem d_152_25 : xcode 152 25 = some (.iconst 0, 1) := by decide +kernel
theorem d_152_26 : xcode 152 26 = some (.ireturn, 1) := by decide +kernel
theorem d_153_0 : xcode 153 0 = some (.iconst 0, 1) := by decide +kernel
theorem d_153_1 : xcode 153 1 = some (.istore_n 2, 1) := by decide +kernel
theorem d_153_2 : xcode 153 2 = some (.iload_n 2, 1) := by decide +kernel
theorem d_153_3 : xcode 153 3 = some (.iload_n 1, 1) := by decide +kernel
theorem d_153_4 : xcode 153 4 = some (.if_icmp .gt 41, 3) := by decide +kernel
theorem d_153_7 : xcode 153 7 = some (.iload_n 2, 1) := by decide +kernel
theorem d_153_8 : xcode 153 8 = some (.aload_n 0, 1) := by decide +kernel
theorem d_153_9 : xcode 153 9 = some (.getfield 99, 3) := by decide +kernel
theorem d_153_12 : xcode 153 12 = some (.arraylength, 1) := by decide +kernel
theorem d_153_13 : xcode 153 13 = some (.if_icmp .ge 32, 3) := by decide +kernel
theorem d_153_16 : xcode 153 16 = some (.aload_n 0, 1) := by decide +kernel
theorem d_153_17 : xcode 153 17 = some (.getfield 99, 3) := by decide +kernel
theorem d_153_20 : xcode 153 20 = some (.iload_n 2, 1) := by decide +kernel
theorem d_153_21 : xcode 153 21 = some (.aload_n 0, 1) := by decide +kernel
theorem d_153_22 : xcode 153 22 = some (.getfield 39, 3) := by decide +kernel
theorem d_153_25 : xcode 153 25 = some (.iload_n 2, 1) := by decide +kernel
theorem d_153_26 : xcode 153 26 = some (.ldc2_w 369, 3) := by decide +kernel
theorem d_153_29 : xcode 153 29 = some (.invokevirtual 444, 3) := by decide +kernel
theorem d_153_32 : xcode 153 32 = some (.iload_n 2, 1) := by decide +kernel
theorem d_153_33 : xcode 153 33 = some (.invokestatic 333, 3) := by decide +kernel
theorem d_153_36 : xcode 153 36 = some (.i2l, 1) := by decide +kernel
theorem d_153_37 : xcode 153 37 = some (.ladd, 1) := by decide +kernel
theorem d_153_38 : xcode 153 38 = some (.lastore, 1) := by decide +kernel
theorem d_153_39 : xcode 153 39 = some (.iinc 2 1, 3) := by decide +kernel
theorem d_153_42 : xcode 153 42 = some (.goto (-40), 3) := by decide +kernel
theorem d_153_45 : xcode 153 45 = some (.return_, 1) := by decide +kernel
theorem d_154_0 : xcode 154 0 = some (.iload_n 1, 1) := by decide +kernel
theorem d_154_1 : xcode 154 1 = some (.ifCond .lt 12, 3) := by decide +kernel
theorem d_154_4 : xcode 154 4 = some (.iload_n 1, 1) := by decide +kernel
theorem d_154_5 : xcode 154 5 = some (.aload_n 0, 1) := by decide +kernel
theorem d_154_6 : xcode 154 6 = some (.getfield 99, 3) := by decide +kernel
theorem d_154_9 : xcode 154 9 = some (.arraylength, 1) := by decide +kernel
theorem d_154_10 : xcode 154 10 = some (.if_icmp .lt 5, 3) := by decide +kernel
theorem d_154_13 : xcode 154 13 = some (.lconst 0, 1) := by decide +kernel
theorem d_154_14 : xcode 154 14 = some (.lreturn, 1) := by decide +kernel
theorem d_154_15 : xcode 154 15 = some (.lconst 0, 1) := by decide +kernel
theorem d_154_16 : xcode 154 16 = some (.lstore 4, 2) := by decide +kernel
theorem d_154_18 : xcode 154 18 = some (.iload_n 1, 1) := by decide +kernel
theorem d_154_19 : xcode 154 19 = some (.iconst 1, 1) := by decide +kernel
theorem d_154_20 : xcode 154 20 = some (.iadd, 1) := by decide +kernel
theorem d_154_21 : xcode 154 21 = some (.istore 6, 2) := by decide +kernel
theorem d_154_23 : xcode 154 23 = some (.iload 6, 2) := by decide +kernel
theorem d_154_25 : xcode 154 25 = some (.iconst 1, 1) := by decide +kernel
theorem d_154_26 : xcode 154 26 = some (.if_icmp .lt 52, 3) := by decide +kernel
theorem d_154_29 : xcode 154 29 = some (.aload_n 0, 1) := by decide +kernel
theorem d_154_30 : xcode 154 30 = some (.getfield 14, 3) := by decide +kernel
theorem d_154_33 : xcode 154 33 = some (.iload_n 1, 1) := by decide +kernel
theorem d_154_34 : xcode 154 34 = some (.iconst 1, 1) := by decide +kernel
theorem d_154_35 : xcode 154 35 = some (.iadd, 1) := by decide +kernel
theorem d_154_36 : xcode 154 36 = some (.iload 6, 2) := by decide +kernel
theorem d_154_38 : xcode 154 38 = some (.invokevirtual 336, 3) := by decide +kernel
theorem d_154_41 : xcode 154 41 = some (.aload_n 0, 1) := by decide +kernel
theorem d_154_42 : xcode 154 42 = some (.getfield 99, 3) := by decide +kernel
theorem d_154_45 : xcode 154 45 = some (.iload_n 1, 1) := by decide +kernel
theorem d_154_46 : xcode 154 46 = some (.iconst 1, 1) := by decide +kernel
theorem d_154_47 : xcode 154 47 = some (.iadd, 1) := by decide +kernel
theorem d_154_48 : xcode 154 48 = some (.iload 6, 2) := by decide +kernel
theorem d_154_50 : xcode 154 50 = some (.isub, 1) := by decide +kernel
theorem d_154_51 : xcode 154 51 = some (.laload, 1) := by decide +kernel
theorem d_154_52 : xcode 154 52 = some (.lmul, 1) := by decide +kernel
theorem d_154_53 : xcode 154 53 = some (.ldc2_w 369, 3) := by decide +kernel
theorem d_154_56 : xcode 154 56 = some (.lrem, 1) := by decide +kernel
theorem d_154_57 : xcode 154 57 = some (.lstore 7, 2) := by decide +kernel
theorem d_154_59 : xcode 154 59 = some (.lload 4, 2) := by decide +kernel
theorem d_154_61 : xcode 154 61 = some (.lload_n 2, 1) := by decide +kernel
theorem d_154_62 : xcode 154 62 = some (.lmul, 1) := by decide +kernel
theorem d_154_63 : xcode 154 63 = some (.lload 7, 2) := by decide +kernel
theorem d_154_65 : xcode 154 65 = some (.ladd, 1) := by decide +kernel
theorem d_154_66 : xcode 154 66 = some (.ldc2_w 369, 3) := by decide +kernel
theorem d_154_69 : xcode 154 69 = some (.lrem, 1) := by decide +kernel
theorem d_154_70 : xcode 154 70 = some (.lstore 4, 2) := by decide +kernel
theorem d_154_72 : xcode 154 72 = some (.iinc 6 (-1), 3) := by decide +kernel
theorem d_154_75 : xcode 154 75 = some (.goto (-52), 3) := by decide +kernel
theorem d_154_78 : xcode 154 78 = some (.lload 4, 2) := by decide +kernel
theorem d_154_80 : xcode 154 80 = some (.lload_n 2, 1) := by decide +kernel
theorem d_154_81 : xcode 154 81 = some (.lmul, 1) := by decide +kernel
theorem d_154_82 : xcode 154 82 = some (.ldc2_w 369, 3) := by decide +kernel
theorem d_154_85 : xcode 154 85 = some (.lrem, 1) := by decide +kernel
theorem d_154_86 : xcode 154 86 = some (.iload_n 1, 1) := by decide +kernel
theorem d_154_87 : xcode 154 87 = some (.iconst 1, 1) := by decide +kernel
theorem d_154_88 : xcode 154 88 = some (.iadd, 1) := by decide +kernel
theorem d_154_89 : xcode 154 89 = some (.i2l, 1) := by decide +kernel
theorem d_154_90 : xcode 154 90 = some (.ldc2_w 369, 3) := by decide +kernel
theorem d_154_93 : xcode 154 93 = some (.invokestatic 316, 3) := by decide +kernel
theorem d_154_96 : xcode 154 96 = some (.lmul, 1) := by decide +kernel
theorem d_154_97 : xcode 154 97 = some (.ldc2_w 369, 3) := by decide +kernel
theorem d_154_100 : xcode 154 100 = some (.lrem, 1) := by decide +kernel
theorem d_154_101 : xcode 154 101 = some (.lreturn, 1) := by decide +kernel
theorem d_155_0 : xcode 155 0 = some (.iload_n 1, 1) := by decide +kernel
theorem d_155_1 : xcode 155 1 = some (.iload_n 2, 1) := by decide +kernel
theorem d_155_2 : xcode 155 2 = some (.invokestatic 352, 3) := by decide +kernel
theorem d_155_5 : xcode 155 5 = some (.ifCond .ne 5, 3) := by decide +kernel
theorem d_155_8 : xcode 155 8 = some (.iconst (-1), 1) := by decide +kernel
theorem d_155_9 : xcode 155 9 = some (.ireturn, 1) := by decide +kernel
theorem d_155_10 : xcode 155 10 = some (.aload_n 0, 1) := by decide +kernel
theorem d_155_11 : xcode 155 11 = some (.iload_n 1, 1) := by decide +kernel
theorem d_155_12 : xcode 155 12 = some (.iload_n 2, 1) := by decide +kernel
theorem d_155_13 : xcode 155 13 = some (.invokevirtual 362, 3) := by decide +kernel
theorem d_155_16 : xcode 155 16 = some (.aload_n 0, 1) := by decide +kernel
theorem d_155_17 : xcode 155 17 = some (.getfield 88, 3) := by decide +kernel
theorem d_155_20 : xcode 155 20 = some (.invokevirtual 365, 3) := by decide +kernel
theorem d_155_23 : xcode 155 23 = some (.ireturn, 1) := by decide +kernel
theorem d_156_0 : xcode 156 0 = some (.aload_n 0, 1) := by decide +kernel
theorem d_156_1 : xcode 156 1 = some (.getfield 88, 3) := by decide +kernel
theorem d_156_4 : xcode 156 4 = some (.invokevirtual 464, 3) := by decide +kernel
theorem d_156_7 : xcode 156 7 = some (.iload_n 1, 1) := by decide +kernel
theorem d_156_8 : xcode 156 8 = some (.iconst 1, 1) := by decide +kernel
theorem d_156_9 : xcode 156 9 = some (.iadd, 1) := by decide +kernel
theorem d_156_10 : xcode 156 10 = some (.istore_n 3, 1) := by decide +kernel
theorem d_156_11 : xcode 156 11 = some (.iload_n 3, 1) := by decide +kernel
theorem d_156_12 : xcode 156 12 = some (.iconst 1, 1) := by decide +kernel
theorem d_156_13 : xcode 156 13 = some (.if_icmp .lt 64, 3) := by decide +kernel
theorem d_156_16 : xcode 156 16 = some (.iload_n 1, 1) := by decide +kernel
theorem d_156_17 : xcode 156 17 = some (.iconst 1, 1) := by decide +kernel
theorem d_156_18 : xcode 156 18 = some (.iadd, 1) := by decide +kernel
theorem d_156_19 : xcode 156 19 = some (.iload_n 3, 1) := by decide +kernel
theorem d_156_20 : xcode 156 20 = some (.isub, 1) := by decide +kernel
theorem d_156_21 : xcode 156 21 = some (.istore 4, 2) := by decide +kernel
theorem d_156_23 : xcode 156 23 = some (.aload_n 0, 1) := by decide +kernel
theorem d_156_24 : xcode 156 24 = some (.getfield 35, 3) := by decide +kernel
theorem d_156_27 : xcode 156 27 = some (.iload 4, 2) := by decide +kernel
theorem d_156_29 : xcode 156 29 = some (.ldc2_w 467, 3) := by decide +kernel
theorem d_156_32 : xcode 156 32 = some (.invokevirtual 461, 3) := by decide +kernel
theorem d_156_35 : xcode 156 35 = some (.iload 4, 2) := by decide +kernel
theorem d_156_37 : xcode 156 37 = some (.invokestatic 333, 3) := by decide +kernel
theorem d_156_40 : xcode 156 40 = some (.i2l, 1) := by decide +kernel
theorem d_156_41 : xcode 156 41 = some (.ldc2_w 467, 3) := by decide +kernel
theorem d_156_44 : xcode 156 44 = some (.lmul, 1) := by decide +kernel
theorem d_156_45 : xcode 156 45 = some (.ladd, 1) := by decide +kernel
theorem d_156_46 : xcode 156 46 = some (.lstore 5, 2) := by decide +kernel
theorem d_156_48 : xcode 156 48 = some (.aload_n 0, 1) := by decide +kernel
theorem d_156_49 : xcode 156 49 = some (.getfield 88, 3) := by decide +kernel
theorem d_156_52 : xcode 156 52 = some (.iload_n 2, 1) := by decide +kernel
theorem d_156_53 : xcode 156 53 = some (.i2l, 1) := by decide +kernel
theorem d_156_54 : xcode 156 54 = some (.aload_n 0, 1) := by decide +kernel
theorem d_156_55 : xcode 156 55 = some (.getfield 14, 3) := by decide +kernel
theorem d_156_58 : xcode 156 58 = some (.iload_n 1, 1) := by decide +kernel
theorem d_156_59 : xcode 156 59 = some (.iconst 1, 1) := by decide +kernel
theorem d_156_60 : xcode 156 60 = some (.iadd, 1) := by decide +kernel
theorem d_156_61 : xcode 156 61 = some (.iload_n 3, 1) := by decide +kernel
theorem d_156_62 : xcode 156 62 = some (.invokevirtual 336, 3) := by decide +kernel
theorem d_156_65 : xcode 156 65 = some (.lload 5, 2) := by decide +kernel
theorem d_156_67 : xcode 156 67 = some (.lmul, 1) := by decide +kernel
theorem d_156_68 : xcode 156 68 = some (.invokevirtual 469, 3) := by decide +kernel
theorem d_156_71 : xcode 156 71 = some (.iinc 3 (-1), 3) := by decide +kernel
theorem d_156_74 : xcode 156 74 = some (.goto (-63), 3) := by decide +kernel
theorem d_156_77 : xcode 156 77 = some (.aload_n 0, 1) := by decide +kernel
theorem d_156_78 : xcode 156 78 = some (.getfield 88, 3) := by decide +kernel
theorem d_156_81 : xcode 156 81 = some (.iload_n 2, 1) := by decide +kernel
theorem d_156_82 : xcode 156 82 = some (.i2l, 1) := by decide +kernel
theorem d_156_83 : xcode 156 83 = some (.lconst 0, 1) := by decide +kernel
theorem d_156_84 : xcode 156 84 = some (.invokevirtual 469, 3) := by decide +kernel
theorem d_156_87 : xcode 156 87 = some (.aload_n 0, 1) := by decide +kernel
theorem d_156_88 : xcode 156 88 = some (.getfield 88, 3) := by decide +kernel
theorem d_156_91 : xcode 156 91 = some (.ldc2_w 467, 3) := by decide +kernel
theorem d_156_94 : xcode 156 94 = some (.invokevirtual 473, 3) := by decide +kernel
theorem d_156_97 : xcode 156 97 = some (.aload_n 0, 1) := by decide +kernel
theorem d_156_98 : xcode 156 98 = some (.getfield 88, 3) := by decide +kernel
theorem d_156_101 : xcode 156 101 = some (.iload_n 1, 1) := by decide +kernel
theorem d_156_102 : xcode 156 102 = some (.iconst 1, 1) := by decide +kernel
theorem d_156_103 : xcode 156 103 = some (.iadd, 1) := by decide +kernel
theorem d_156_104 : xcode 156 104 = some (.i2l, 1) := by decide +kernel
theorem d_156_105 : xcode 156 105 = some (.invokevirtual 473, 3) := by decide +kernel
theorem d_156_108 : xcode 156 108 = some (.aload_n 0, 1) := by decide +kernel
theorem d_156_109 : xcode 156 109 = some (.getfield 88, 3) := by decide +kernel
theorem d_156_112 : xcode 156 112 = some (.invokevirtual 474, 3) := by decide +kernel
theorem d_156_115 : xcode 156 115 = some (.return_, 1) := by decide +kernel
theorem d_157_0 : xcode 157 0 = some (.aload_n 0, 1) := by decide +kernel
theorem d_157_1 : xcode 157 1 = some (.getfield 9, 3) := by decide +kernel
theorem d_157_4 : xcode 157 4 = some (.lconst 0, 1) := by decide +kernel
theorem d_157_5 : xcode 157 5 = some (.invokestatic 17, 3) := by decide +kernel
theorem d_157_8 : xcode 157 8 = some (.return_, 1) := by decide +kernel
theorem d_158_0 : xcode 158 0 = some (.lload_n 3, 1) := by decide +kernel
theorem d_158_1 : xcode 158 1 = some (.lstore 5, 2) := by decide +kernel
theorem d_158_3 : xcode 158 3 = some (.iconst 0, 1) := by decide +kernel
theorem d_158_4 : xcode 158 4 = some (.istore 7, 2) := by decide +kernel
theorem d_158_6 : xcode 158 6 = some (.iload 7, 2) := by decide +kernel
theorem d_158_8 : xcode 158 8 = some (.bipush 28, 2) := by decide +kernel
theorem d_158_10 : xcode 158 10 = some (.if_icmp .ge 48, 3) := by decide +kernel
theorem d_158_13 : xcode 158 13 = some (.aload_n 0, 1) := by decide +kernel
theorem d_158_14 : xcode 158 14 = some (.getfield 9, 3) := by decide +kernel
theorem d_158_17 : xcode 158 17 = some (.iload 7, 2) := by decide +kernel
theorem d_158_19 : xcode 158 19 = some (.laload, 1) := by decide +kernel
theorem d_158_20 : xcode 158 20 = some (.lload_n 1, 1) := by decide +kernel
theorem d_158_21 : xcode 158 21 = some (.lmul, 1) := by decide +kernel
theorem d_158_22 : xcode 158 22 = some (.lload 5, 2) := by decide +kernel
theorem d_158_24 : xcode 158 24 = some (.ladd, 1) := by decide +kernel
theorem d_158_25 : xcode 158 25 = some (.lstore 8, 2) := by decide +kernel
theorem d_158_27 : xcode 158 27 = some (.aload_n 0, 1) := by decide +kernel
theorem d_158_28 : xcode 158 28 = some (.getfield 9, 3) := by decide +kernel
theorem d_158_31 : xcode 158 31 = some (.iload 7, 2) := by decide +kernel
theorem d_158_33 : xcode 158 33 = some (.lload 8, 2) := by decide +kernel
theorem d_158_35 : xcode 158 35 = some (.ldc2_w 23, 3) := by decide +kernel
theorem d_158_38 : xcode 158 38 = some (.invokestatic 25, 3) := by decide +kernel
theorem d_158_41 : xcode 158 41 = some (.lastore, 1) := by decide +kernel
theorem d_158_42 : xcode 158 42 = some (.lload 8, 2) := by decide +kernel
theorem d_158_44 : xcode 158 44 = some (.ldc2_w 23, 3) := by decide +kernel
theorem d_158_47 : xcode 158 47 = some (.invokestatic 31, 3) := by decide +kernel
theorem d_158_50 : xcode 158 50 = some (.lstore 5, 2) := by decide +kernel
theorem d_158_52 : xcode 158 52 = some (.iinc 7 1, 3) := by decide +kernel
theorem d_158_55 : xcode 158 55 = some (.goto (-49), 3) := by decide +kernel
theorem d_158_58 : xcode 158 58 = some (.return_, 1) := by decide +kernel
theorem d_159_0 : xcode 159 0 = some (.lload_n 1, 1) := by decide +kernel
theorem d_159_1 : xcode 159 1 = some (.lconst 0, 1) := by decide +kernel
theorem d_159_2 : xcode 159 2 = some (.lcmp, 1) := by decide +kernel
theorem d_159_3 : xcode 159 3 = some (.ifCond .gt 4, 3) := by decide +kernel
theorem d_159_6 : xcode 159 6 = some (.return_, 1) := by decide +kernel
theorem d_159_7 : xcode 159 7 = some (.lconst 0, 1) := by decide +kernel
theorem d_159_8 : xcode 159 8 = some (.lstore_n 3, 1) := by decide +kernel
theorem d_159_9 : xcode 159 9 = some (.bipush 27, 2) := by decide +kernel
theorem d_159_11 : xcode 159 11 = some (.istore 5, 2) := by decide +kernel
theorem d_159_13 : xcode 159 13 = some (.iload 5, 2) := by decide +kernel
theorem d_159_15 : xcode 159 15 = some (.ifCond .lt 40, 3) := by decide +kernel
theorem d_159_18 : xcode 159 18 = some (.lload_n 3, 1) := by decide +kernel
theorem d_159_19 : xcode 159 19 = some (.ldc2_w 23, 3) := by decide +kernel
theorem d_159_22 : xcode 159 22 = some (.lmul, 1) := by decide +kernel
theorem d_159_23 : xcode 159 23 = some (.aload_n 0, 1) := by decide +kernel
theorem d_159_24 : xcode 159 24 = some (.getfield 9, 3) := by decide +kernel
theorem d_159_27 : xcode 159 27 = some (.iload 5, 2) := by decide +kernel
theorem d_159_29 : xcode 159 29 = some (.laload, 1) := by decide +kernel
theorem d_159_30 : xcode 159 30 = some (.ladd, 1) := by decide +kernel
theorem d_159_31 : xcode 159 31 = some (.lstore 6, 2) := by decide +kernel
theorem d_159_33 : xcode 159 33 = some (.aload_n 0, 1) := by decide +kernel
theorem d_159_34 : xcode 159 34 = some (.getfield 9, 3) := by decide +kernel
theorem d_159_37 : xcode 159 37 = some (.iload 5, 2) := by decide +kernel
theorem d_159_39 : xcode 159 39 = some (.lload 6, 2) := by decide +kernel
theorem d_159_41 : xcode 159 41 = some (.lload_n 1, 1) := by decide +kernel
theorem d_159_42 : xcode 159 42 = some (.ldiv, 1) := by decide +kernel
theorem d_159_43 : xcode 159 43 = some (.lastore, 1) := by decide +kernel
theorem d_159_44 : xcode 159 44 = some (.lload 6, 2) := by decide +kernel
theorem d_159_46 : xcode 159 46 = some (.lload_n 1, 1) := by decide +kernel
theorem d_159_47 : xcode 159 47 = some (.lrem, 1) := by decide +kernel
theorem d_159_48 : xcode 159 48 = some (.lstore_n 3, 1) := by decide +kernel
theorem d_159_49 : xcode 159 49 = some (.iinc 5 (-1), 3) := by decide +kernel
theorem d_159_52 : xcode 159 52 = some (.goto (-39), 3) := by decide +kernel
theorem d_159_55 : xcode 159 55 = some (.return_, 1) := by decide +kernel
theorem d_160_0 : xcode 160 0 = some (.aload_n 0, 1) := by decide +kernel
theorem d_160_1 : xcode 160 1 = some (.sipush 252, 3) := by decide +kernel
theorem d_160_4 : xcode 160 4 = some (.putfield 13, 3) := by decide +kernel
theorem d_160_7 : xcode 160 7 = some (.aload_n 0, 1) := by decide +kernel
theorem d_160_8 : xcode 160 8 = some (.getfield 13, 3) := by decide +kernel
theorem d_160_11 : xcode 160 11 = some (.iconst 1, 1) := by decide +kernel
theorem d_160_12 : xcode 160 12 = some (.if_icmp .le 29, 3) := by decide +kernel
theorem d_160_15 : xcode 160 15 = some (.aload_n 0, 1) := by decide +kernel
theorem d_160_16 : xcode 160 16 = some (.aload_n 0, 1) := by decide +kernel
theorem d_160_17 : xcode 160 17 = some (.getfield 13, 3) := by decide +kernel
theorem d_160_20 : xcode 160 20 = some (.iconst 1, 1) := by decide +kernel
theorem d_160_21 : xcode 160 21 = some (.isub, 1) := by decide +kernel
theorem d_160_22 : xcode 160 22 = some (.invokevirtual 34, 3) := by decide +kernel
theorem d_160_25 : xcode 160 25 = some (.ifCond .ne 16, 3) := by decide +kernel
theorem d_160_28 : xcode 160 28 = some (.aload_n 0, 1) := by decide +kernel
theorem d_160_29 : xcode 160 29 = some (.dup, 1) := by decide +kernel
theorem d_160_30 : xcode 160 30 = some (.getfield 13, 3) := by decide +kernel
theorem d_160_33 : xcode 160 33 = some (.iconst 1, 1) := by decide +kernel
theorem d_160_34 : xcode 160 34 = some (.isub, 1) := by decide +kernel
theorem d_160_35 : xcode 160 35 = some (.putfield 13, 3) := by decide +kernel
theorem d_160_38 : xcode 160 38 = some (.goto (-31), 3) := by decide +kernel
theorem d_160_41 : xcode 160 41 = some (.return_, 1) := by decide +kernel
theorem d_161_0 : xcode 161 0 = some (.iload_n 1, 1) := by decide +kernel
theorem d_161_1 : xcode 161 1 = some (.ifCond .lt 10, 3) := by decide +kernel
theorem d_161_4 : xcode 161 4 = some (.iload_n 1, 1) := by decide +kernel
theorem d_161_5 : xcode 161 5 = some (.sipush 252, 3) := by decide +kernel
theorem d_161_8 : xcode 161 8 = some (.if_icmp .lt 5, 3) := by decide +kernel
theorem d_161_11 : xcode 161 11 = some (.iconst 0, 1) := by decide +kernel
theorem d_161_12 : xcode 161 12 = some (.ireturn, 1) := by decide +kernel
theorem d_161_13 : xcode 161 13 = some (.aload_n 0, 1) := by decide +kernel
theorem d_161_14 : xcode 161 14 = some (.getfield 9, 3) := by decide +kernel
theorem d_161_17 : xcode 161 17 = some (.iload_n 1, 1) := by decide +kernel
theorem d_161_18 : xcode 161 18 = some (.bipush 9, 2) := by decide +kernel
theorem d_161_20 : xcode 161 20 = some (.idiv, 1) := by decide +kernel
theorem d_161_21 : xcode 161 21 = some (.laload, 1) := by decide +kernel
theorem d_161_22 : xcode 161 22 = some (.lstore_n 2, 1) := by decide +kernel
theorem d_161_23 : xcode 161 23 = some (.iconst 0, 1) := by decide +kernel
theorem d_161_24 : xcode 161 24 = some (.istore 4, 2) := by decide +kernel
theorem d_161_26 : xcode 161 26 = some (.iload 4, 2) := by decide +kernel
theorem d_161_28 : xcode 161 28 = some (.iload_n 1, 1) := by decide +kernel
theorem d_161_29 : xcode 161 29 = some (.bipush 9, 2) := by decide +kernel
theorem d_161_31 : xcode 161 31 = some (.irem, 1) := by decide +kernel
theorem d_161_32 : xcode 161 32 = some (.if_icmp .ge 15, 3) := by decide +kernel
theorem d_161_35 : xcode 161 35 = some (.lload_n 2, 1) := by decide +kernel
theorem d_161_36 : xcode 161 36 = some (.ldc2_w 38, 3) := by decide +kernel
theorem d_161_39 : xcode 161 39 = some (.ldiv, 1) := by decide +kernel
theorem d_161_40 : xcode 161 40 = some (.lstore_n 2, 1) := by decide +kernel
theorem d_161_41 : xcode 161 41 = some (.iinc 4 1, 3) := by decide +kernel
theorem d_161_44 : xcode 161 44 = some (.goto (-18), 3) := by decide +kernel
theorem d_161_47 : xcode 161 47 = some (.lload_n 2, 1) := by decide +kernel
theorem d_161_48 : xcode 161 48 = some (.ldc2_w 38, 3) := by decide +kernel
theorem d_161_51 : xcode 161 51 = some (.lrem, 1) := by decide +kernel
theorem d_161_52 : xcode 161 52 = some (.l2i, 1) := by decide +kernel
theorem d_161_53 : xcode 161 53 = some (.ireturn, 1) := by decide +kernel
theorem d_162_0 : xcode 162 0 = some (.aload_n 0, 1) := by decide +kernel
theorem d_162_1 : xcode 162 1 = some (.getfield 13, 3) := by decide +kernel
theorem d_162_4 : xcode 162 4 = some (.ireturn, 1) := by decide +kernel
theorem d_163_0 : xcode 163 0 = some (.iload_n 1, 1) := by decide +kernel
theorem d_163_1 : xcode 163 1 = some (.iload_n 2, 1) := by decide +kernel
theorem d_163_2 : xcode 163 2 = some (.invokestatic 352, 3) := by decide +kernel
theorem d_163_5 : xcode 163 5 = some (.ifCond .eq 7, 3) := by decide +kernel
theorem d_163_8 : xcode 163 8 = some (.iload_n 3, 1) := by decide +kernel
theorem d_163_9 : xcode 163 9 = some (.ifCond .ge 5, 3) := by decide +kernel
theorem d_163_12 : xcode 163 12 = some (.iconst (-1), 1) := by decide +kernel
theorem d_163_13 : xcode 163 13 = some (.ireturn, 1) := by decide +kernel
theorem d_163_14 : xcode 163 14 = some (.aload_n 0, 1) := by decide +kernel
theorem d_163_15 : xcode 163 15 = some (.iload_n 1, 1) := by decide +kernel
theorem d_163_16 : xcode 163 16 = some (.iload_n 2, 1) := by decide +kernel
theorem d_163_17 : xcode 163 17 = some (.invokevirtual 362, 3) := by decide +kernel
theorem d_163_20 : xcode 163 20 = some (.iload_n 3, 1) := by decide +kernel
theorem d_163_21 : xcode 163 21 = some (.aload_n 0, 1) := by decide +kernel
theorem d_163_22 : xcode 163 22 = some (.getfield 88, 3) := by decide +kernel
theorem d_163_25 : xcode 163 25 = some (.invokevirtual 365, 3) := by decide +kernel
theorem d_163_28 : xcode 163 28 = some (.if_icmp .lt 8, 3) := by decide +kernel
theorem d_163_31 : xcode 163 31 = some (.bipush (-2), 2) := by decide +kernel
theorem d_163_33 : xcode 163 33 = some (.goto 11, 3) := by decide +kernel
theorem d_163_36 : xcode 163 36 = some (.aload_n 0, 1) := by decide +kernel
theorem d_163_37 : xcode 163 37 = some (.getfield 88, 3) := by decide +kernel
theorem d_163_40 : xcode 163 40 = some (.iload_n 3, 1) := by decide +kernel
theorem d_163_41 : xcode 163 41 = some (.invokevirtual 366, 3) := by decide +kernel
theorem d_163_44 : xcode 163 44 = some (.ireturn, 1) := by decide +kernel
theorem d_164_0 : xcode 164 0 = some (.aload_n 0, 1) := by decide +kernel
theorem d_164_1 : xcode 164 1 = some (.aload_n 0, 1) := by decide +kernel
theorem d_164_2 : xcode 164 2 = some (.getfield 13, 3) := by decide +kernel
theorem d_164_5 : xcode 164 5 = some (.iconst 1, 1) := by decide +kernel
theorem d_164_6 : xcode 164 6 = some (.isub, 1) := by decide +kernel
theorem d_164_7 : xcode 164 7 = some (.iload_n 1, 1) := by decide +kernel
theorem d_164_8 : xcode 164 8 = some (.isub, 1) := by decide +kernel
theorem d_164_9 : xcode 164 9 = some (.invokevirtual 34, 3) := by decide +kernel
theorem d_164_12 : xcode 164 12 = some (.ireturn, 1) := by decide +kernel
theorem d_165_0 : xcode 165 0 = some (.iload_n 1, 1) := by decide +kernel
theorem d_165_1 : xcode 165 1 = some (.iload 4, 2) := by decide +kernel
theorem d_165_3 : xcode 165 3 = some (.invokestatic 352, 3) := by decide +kernel
theorem d_165_6 : xcode 165 6 = some (.ifCond .eq 26, 3) := by decide +kernel
theorem d_165_9 : xcode 165 9 = some (.iload_n 2, 1) := by decide +kernel
theorem d_165_10 : xcode 165 10 = some (.ifCond .lt 22, 3) := by decide +kernel
theorem d_165_13 : xcode 165 13 = some (.iload_n 2, 1) := by decide +kernel
theorem d_165_14 : xcode 165 14 = some (.sipush 1000, 3) := by decide +kernel
theorem d_165_17 : xcode 165 17 = some (.if_icmp .gt 15, 3) := by decide +kernel
theorem d_165_20 : xcode 165 20 = some (.iload_n 3, 1) := by decide +kernel
theorem d_165_21 : xcode 165 21 = some (.iconst 1, 1) := by decide +kernel
theorem d_165_22 : xcode 165 22 = some (.if_icmp .lt 10, 3) := by decide +kernel
theorem d_165_25 : xcode 165 25 = some (.iload_n 3, 1) := by decide +kernel
theorem d_165_26 : xcode 165 26 = some (.sipush 1000, 3) := by decide +kernel
theorem d_165_29 : xcode 165 29 = some (.if_icmp .le 5, 3) := by decide +kernel
theorem d_165_32 : xcode 165 32 = some (.iconst (-1), 1) := by decide +kernel
theorem d_165_33 : xcode 165 33 = some (.ireturn, 1) := by decide +kernel
theorem d_165_34 : xcode 165 34 = some (.iload_n 1, 1) := by decide +kernel
theorem d_165_35 : xcode 165 35 = some (.aload_n 0, 1) := by decide +kernel
theorem d_165_36 : xcode 165 36 = some (.getfield 49, 3) := by decide +kernel
theorem d_165_39 : xcode 165 39 = some (.if_icmp .le 6, 3) := by decide +kernel
theorem d_165_42 : xcode 165 42 = some (.bipush (-2), 2) := by decide +kernel
theorem d_165_44 : xcode 165 44 = some (.ireturn, 1) := by decide +kernel
theorem d_165_45 : xcode 165 45 = some (.iload 4, 2) := by decide +kernel
theorem d_165_47 : xcode 165 47 = some (.ifCond .ne 5, 3) := by decide +kernel
theorem d_165_50 : xcode 165 50 = some (.iconst 0, 1) := by decide +kernel
theorem d_165_51 : xcode 165 51 = some (.ireturn, 1) := by decide +kernel
theorem d_165_52 : xcode 165 52 = some (.aload_n 0, 1) := by decide +kernel
theorem d_165_53 : xcode 165 53 = some (.iload_n 1, 1) := by decide +kernel
theorem d_165_54 : xcode 165 54 = some (.invokevirtual 355, 3) := by decide +kernel
theorem d_165_57 : xcode 165 57 = some (.iload_n 2, 1) := by decide +kernel
theorem d_165_58 : xcode 165 58 = some (.i2l, 1) := by decide +kernel
theorem d_165_59 : xcode 165 59 = some (.iload_n 1, 1) := by decide +kernel
theorem d_165_60 : xcode 165 60 = some (.ldc2_w 369, 3) := by decide +kernel
theorem d_165_63 : xcode 165 63 = some (.invokestatic 302, 3) := by decide +kernel
theorem d_165_66 : xcode 165 66 = some (.iload 4, 2) := by decide +kernel
theorem d_165_68 : xcode 165 68 = some (.i2l, 1) := by decide +kernel
theorem d_165_69 : xcode 165 69 = some (.lmul, 1) := by decide +kernel
theorem d_165_70 : xcode 165 70 = some (.ldc2_w 369, 3) := by decide +kernel
theorem d_165_73 : xcode 165 73 = some (.lrem, 1) := by decide +kernel
theorem d_165_74 : xcode 165 74 = some (.lstore 5, 2) := by decide +kernel
theorem d_165_76 : xcode 165 76 = some (.iconst 1, 1) := by decide +kernel
theorem d_165_77 : xcode 165 77 = some (.istore 7, 2) := by decide +kernel
theorem d_165_79 : xcode 165 79 = some (.iload 7, 2) := by decide +kernel
theorem d_165_81 : xcode 165 81 = some (.iload_n 1, 1) := by decide +kernel
theorem d_165_82 : xcode 165 82 = some (.if_icmp .gt 80, 3) := by decide +kernel
theorem d_165_85 : xcode 165 85 = some (.aload_n 0, 1) := by decide +kernel
theorem d_165_86 : xcode 165 86 = some (.getfield 14, 3) := by decide +kernel
theorem d_165_89 : xcode 165 89 = some (.iload_n 1, 1) := by decide +kernel
theorem d_165_90 : xcode 165 90 = some (.iload 7, 2) := by decide +kernel
theorem d_165_92 : xcode 165 92 = some (.invokevirtual 336, 3) := by decide +kernel
theorem d_165_95 : xcode 165 95 = some (.iload_n 2, 1) := by decide +kernel
theorem d_165_96 : xcode 165 96 = some (.i2l, 1) := by decide +kernel
theorem d_165_97 : xcode 165 97 = some (.iload_n 1, 1) := by decide +kernel
theorem d_165_98 : xcode 165 98 = some (.iload 7, 2) := by decide +kernel
theorem d_165_100 : xcode 165 100 = some (.isub, 1) := by decide +kernel
theorem d_165_101 : xcode 165 101 = some (.ldc2_w 369, 3) := by decide +kernel
theorem d_165_104 : xcode 165 104 = some (.invokestatic 302, 3) := by decide +kernel
theorem d_165_107 : xcode 165 107 = some (.lmul, 1) := by decide +kernel
theorem d_165_108 : xcode 165 108 = some (.ldc2_w 369, 3) := by decide +kernel
theorem d_165_111 : xcode 165 111 = some (.lrem, 1) := by decide +kernel
theorem d_165_112 : xcode 165 112 = some (.lstore 8, 2) := by decide +kernel
theorem d_165_114 : xcode 165 114 = some (.lload 8, 2) := by decide +kernel
theorem d_165_116 : xcode 165 116 = some (.iload_n 3, 1) := by decide +kernel
theorem d_165_117 : xcode 165 117 = some (.i2l, 1) := by decide +kernel
theorem d_165_118 : xcode 165 118 = some (.iload 7, 2) := by decide +kernel
theorem d_165_120 : xcode 165 120 = some (.ldc2_w 369, 3) := by decide +kernel
theorem d_165_123 : xcode 165 123 = some (.invokestatic 302, 3) := by decide +kernel
theorem d_165_126 : xcode 165 126 = some (.lmul, 1) := by decide +kernel
theorem d_165_127 : xcode 165 127 = some (.ldc2_w 369, 3) := by decide +kernel
theorem d_165_130 : xcode 165 130 = some (.lrem, 1) := by decide +kernel
theorem d_165_131 : xcode 165 131 = some (.lstore 8, 2) := by decide +kernel
theorem d_165_133 : xcode 165 133 = some (.lload 5, 2) := by decide +kernel
theorem d_165_135 : xcode 165 135 = some (.lload 8, 2) := by decide +kernel
theorem d_165_137 : xcode 165 137 = some (.aload_n 0, 1) := by decide +kernel
theorem d_165_138 : xcode 165 138 = some (.iload 7, 2) := by decide +kernel
theorem d_165_140 : xcode 165 140 = some (.iload 4, 2) := by decide +kernel
theorem d_165_142 : xcode 165 142 = some (.iconst 1, 1) := by decide +kernel
theorem d_165_143 : xcode 165 143 = some (.isub, 1) := by decide +kernel
theorem d_165_144 : xcode 165 144 = some (.i2l, 1) := by decide +kernel
theorem d_165_145 : xcode 165 145 = some (.invokevirtual 358, 3) := by decide +kernel
theorem d_165_148 : xcode 165 148 = some (.lmul, 1) := by decide +kernel
theorem d_165_149 : xcode 165 149 = some (.ladd, 1) := by decide +kernel
theorem d_165_150 : xcode 165 150 = some (.ldc2_w 369, 3) := by decide +kernel
theorem d_165_153 : xcode 165 153 = some (.lrem, 1) := by decide +kernel
theorem d_165_154 : xcode 165 154 = some (.lstore 5, 2) := by decide +kernel
theorem d_165_156 : xcode 165 156 = some (.iinc 7 1, 3) := by decide +kernel
theorem d_165_159 : xcode 165 159 = some (.goto (-80), 3) := by decide +kernel
theorem d_165_162 : xcode 165 162 = some (.lload 5, 2) := by decide +kernel
theorem d_165_164 : xcode 165 164 = some (.l2i, 1) := by decide +kernel
theorem d_165_165 : xcode 165 165 = some (.ireturn, 1) := by decide +kernel
theorem d_166_0 : xcode 166 0 = some (.iload_n 1, 1) := by decide +kernel
theorem d_166_1 : xcode 166 1 = some (.iconst 1, 1) := by decide +kernel
theorem d_166_2 : xcode 166 2 = some (.if_icmp .lt 24, 3) := by decide +kernel
theorem d_166_5 : xcode 166 5 = some (.iload_n 1, 1) := by decide +kernel
theorem d_166_6 : xcode 166 6 = some (.bipush 15, 2) := by decide +kernel
theorem d_166_8 : xcode 166 8 = some (.if_icmp .gt 18, 3) := by decide +kernel
theorem d_166_11 : xcode 166 11 = some (.iload_n 1, 1) := by decide +kernel
theorem d_166_12 : xcode 166 12 = some (.iconst 2, 1) := by decide +kernel
theorem d_166_13 : xcode 166 13 = some (.irem, 1) := by decide +kernel
theorem d_166_14 : xcode 166 14 = some (.ifCond .eq 12, 3) := by decide +kernel
theorem d_166_17 : xcode 166 17 = some (.iload_n 3, 1) := by decide +kernel
theorem d_166_18 : xcode 166 18 = some (.ifCond .lt 8, 3) := by decide +kernel
theorem d_166_21 : xcode 166 21 = some (.iload_n 3, 1) := by decide +kernel
theorem d_166_22 : xcode 166 22 = some (.iconst 1, 1) := by decide +kernel
theorem d_166_23 : xcode 166 23 = some (.if_icmp .le 7, 3) := by decide +kernel
theorem d_166_26 : xcode 166 26 = some (.ldc2_w 166, 3) := by decide +kernel
theorem d_166_29 : xcode 166 29 = some (.lreturn, 1) := by decide +kernel
theorem d_166_30 : xcode 166 30 = some (.iload_n 2, 1) := by decide +kernel
theorem d_166_31 : xcode 166 31 = some (.iconst 1, 1) := by decide +kernel
theorem d_166_32 : xcode 166 32 = some (.if_icmp .lt 12, 3) := by decide +kernel
theorem d_166_35 : xcode 166 35 = some (.iload_n 2, 1) := by decide +kernel
theorem d_166_36 : xcode 166 36 = some (.iload_n 1, 1) := by decide +kernel
theorem d_166_37 : xcode 166 37 = some (.iconst 1, 1) := by decide +kernel
theorem d_166_38 : xcode 166 38 = some (.iadd, 1) := by decide +kernel
theorem d_166_39 : xcode 166 39 = some (.iconst 2, 1) := by decide +kernel
theorem d_166_40 : xcode 166 40 = some (.idiv, 1) := by decide +kernel
theorem d_166_41 : xcode 166 41 = some (.if_icmp .le 7, 3) := by decide +kernel
theorem d_166_44 : xcode 166 44 = some (.ldc2_w 166, 3) := by decide +kernel
theorem d_166_47 : xcode 166 47 = some (.lreturn, 1) := by decide +kernel
theorem d_166_48 : xcode 166 48 = some (.iload_n 1, 1) := by decide +kernel
theorem d_166_49 : xcode 166 49 = some (.aload_n 0, 1) := by decide +kernel
theorem d_166_50 : xcode 166 50 = some (.getfield 49, 3) := by decide +kernel
theorem d_166_53 : xcode 166 53 = some (.if_icmp .le 7, 3) := by decide +kernel
theorem d_166_56 : xcode 166 56 = some (.ldc2_w 331, 3) := by decide +kernel
theorem d_166_59 : xcode 166 59 = some (.lreturn, 1) := by decide +kernel
theorem d_166_60 : xcode 166 60 = some (.aload_n 0, 1) := by decide +kernel
theorem d_166_61 : xcode 166 61 = some (.iload_n 1, 1) := by decide +kernel
theorem d_166_62 : xcode 166 62 = some (.invokevirtual 371, 3) := by decide +kernel
theorem d_166_65 : xcode 166 65 = some (.ifCond .ne 7, 3) := by decide +kernel
theorem d_166_68 : xcode 166 68 = some (.ldc2_w 374, 3) := by decide +kernel
theorem d_166_71 : xcode 166 71 = some (.lreturn, 1) := by decide +kernel
theorem d_166_72 : xcode 166 72 = some (.aload_n 0, 1) := by decide +kernel
theorem d_166_73 : xcode 166 73 = some (.getfield 95, 3) := by decide +kernel
theorem d_166_76 : xcode 166 76 = some (.lconst 0, 1) := by decide +kernel
theorem d_166_77 : xcode 166 77 = some (.aload_n 0, 1) := by decide +kernel
theorem d_166_78 : xcode 166 78 = some (.getfield 103, 3) := by decide +kernel
theorem d_166_81 : xcode 166 81 = some (.iload_n 2, 1) := by decide +kernel
theorem d_166_82 : xcode 166 82 = some (.laload, 1) := by decide +kernel
theorem d_166_83 : xcode 166 83 = some (.iload_n 2, 1) := by decide +kernel
theorem d_166_84 : xcode 166 84 = some (.lshl, 1) := by decide +kernel
theorem d_166_85 : xcode 166 85 = some (.ldc2_w 376, 3) := by decide +kernel
theorem d_166_88 : xcode 166 88 = some (.iload_n 1, 1) := by decide +kernel
theorem d_166_89 : xcode 166 89 = some (.iconst 1, 1) := by decide +kernel
theorem d_166_90 : xcode 166 90 = some (.iadd, 1) := by decide +kernel
theorem d_166_91 : xcode 166 91 = some (.i2l, 1) := by decide +kernel
theorem d_166_92 : xcode 166 92 = some (.lmul, 1) := by decide +kernel
theorem d_166_93 : xcode 166 93 = some (.invokevirtual 327, 3) := by decide +kernel
theorem d_166_96 : xcode 166 96 = some (.iload_n 3, 1) := by decide +kernel
theorem d_166_97 : xcode 166 97 = some (.ifCond .ne 13, 3) := by decide +kernel
theorem d_166_100 : xcode 166 100 = some (.aload_n 0, 1) := by decide +kernel
theorem d_166_101 : xcode 166 101 = some (.getfield 95, 3) := by decide +kernel
theorem d_166_104 : xcode 166 104 = some (.invokevirtual 345, 3) := by decide +kernel
theorem d_166_107 : xcode 166 107 = some (.goto 10, 3) := by decide +kernel
theorem d_166_110 : xcode 166 110 = some (.aload_n 0, 1) := by decide +kernel
theorem d_166_111 : xcode 166 111 = some (.getfield 95, 3) := by decide +kernel
theorem d_166_114 : xcode 166 114 = some (.getfield 349, 3) := by decide +kernel
theorem d_166_117 : xcode 166 117 = some (.lreturn, 1) := by decide +kernel
theorem d_167_0 : xcode 167 0 = some (.iload_n 1, 1) := by decide +kernel
theorem d_167_1 : xcode 167 1 = some (.iconst 1, 1) := by decide +kernel
theorem d_167_2 : xcode 167 2 = some (.if_icmp .lt 14, 3) := by decide +kernel
theorem d_167_5 : xcode 167 5 = some (.iload_n 1, 1) := by decide +kernel
theorem d_167_6 : xcode 167 6 = some (.iconst 1, 1) := by decide +kernel
theorem d_167_7 : xcode 167 7 = some (.iadd, 1) := by decide +kernel
theorem d_167_8 : xcode 167 8 = some (.aload_n 0, 1) := by decide +kernel
theorem d_167_9 : xcode 167 9 = some (.getfield 99, 3) := by decide +kernel
theorem d_167_12 : xcode 167 12 = some (.arraylength, 1) := by decide +kernel
theorem d_167_13 : xcode 167 13 = some (.if_icmp .lt 5, 3) := by decide +kernel
theorem d_167_16 : xcode 167 16 = some (.iconst 0, 1) := by decide +kernel
theorem d_167_17 : xcode 167 17 = some (.ireturn, 1) := by decide +kernel
theorem d_167_18 : xcode 167 18 = some (.iconst 1, 1) := by decide +kernel
theorem d_167_19 : xcode 167 19 = some (.istore_n 2, 1) := by decide +kernel
theorem d_167_20 : xcode 167 20 = some (.iload_n 2, 1) := by decide +kernel
theorem d_167_21 : xcode 167 21 = some (.iload_n 1, 1) := by decide +kernel
theorem d_167_22 : xcode 167 22 = some (.iconst 1, 1) := by decide +kernel
theorem d_167_23 : xcode 167 23 = some (.iadd, 1) := by decide +kernel
theorem d_167_24 : xcode 167 24 = some (.if_icmp .gt 58, 3) := by decide +kernel
theorem d_167_27 : xcode 167 27 = some (.iload_n 1, 1) := by decide +kernel
theorem d_167_28 : xcode 167 28 = some (.iconst 1, 1) := by decide +kernel
theorem d_167_29 : xcode 167 29 = some (.iadd, 1) := by decide +kernel
theorem d_167_30 : xcode 167 30 = some (.iload_n 2, 1) := by decide +kernel
theorem d_167_31 : xcode 167 31 = some (.isub, 1) := by decide +kernel
theorem d_167_32 : xcode 167 32 = some (.istore_n 3, 1) := by decide +kernel
theorem d_167_33 : xcode 167 33 = some (.aload_n 0, 1) := by decide +kernel
theorem d_167_34 : xcode 167 34 = some (.getfield 39, 3) := by decide +kernel
theorem d_167_37 : xcode 167 37 = some (.iload_n 3, 1) := by decide +kernel
theorem d_167_38 : xcode 167 38 = some (.ldc2_w 376, 3) := by decide +kernel
theorem d_167_41 : xcode 167 41 = some (.invokevirtual 461, 3) := by decide +kernel
theorem d_167_44 : xcode 167 44 = some (.iload_n 3, 1) := by decide +kernel
theorem d_167_45 : xcode 167 45 = some (.invokestatic 333, 3) := by decide +kernel
theorem d_167_48 : xcode 167 48 = some (.i2l, 1) := by decide +kernel
theorem d_167_49 : xcode 167 49 = some (.ldc2_w 376, 3) := by decide +kernel
theorem d_167_52 : xcode 167 52 = some (.lmul, 1) := by decide +kernel
theorem d_167_53 : xcode 167 53 = some (.ladd, 1) := by decide +kernel
theorem d_167_54 : xcode 167 54 = some (.lstore 4, 2) := by decide +kernel
theorem d_167_56 : xcode 167 56 = some (.aload_n 0, 1) := by decide +kernel
theorem d_167_57 : xcode 167 57 = some (.getfield 99, 3) := by decide +kernel
theorem d_167_60 : xcode 167 60 = some (.iload_n 2, 1) := by decide +kernel
theorem d_167_61 : xcode 167 61 = some (.aload_n 0, 1) := by decide +kernel
theorem d_167_62 : xcode 167 62 = some (.getfield 14, 3) := by decide +kernel
theorem d_167_65 : xcode 167 65 = some (.iload_n 1, 1) := by decide +kernel
theorem d_167_66 : xcode 167 66 = some (.iconst 1, 1) := by decide +kernel
theorem d_167_67 : xcode 167 67 = some (.iadd, 1) := by decide +kernel
theorem d_167_68 : xcode 167 68 = some (.iload_n 2, 1) := by decide +kernel
theorem d_167_69 : xcode 167 69 = some (.invokevirtual 336, 3) := by decide +kernel
theorem d_167_72 : xcode 167 72 = some (.lload 4, 2) := by decide +kernel
theorem d_167_74 : xcode 167 74 = some (.lmul, 1) := by decide +kernel
theorem d_167_75 : xcode 167 75 = some (.lastore, 1) := by decide +kernel
theorem d_167_76 : xcode 167 76 = some (.iinc 2 1, 3) := by decide +kernel
theorem d_167_79 : xcode 167 79 = some (.goto (-59), 3) := by decide +kernel
theorem d_167_82 : xcode 167 82 = some (.iload_n 1, 1) := by decide +kernel
theorem d_167_83 : xcode 167 83 = some (.iconst 1, 1) := by decide +kernel
theorem d_167_84 : xcode 167 84 = some (.iadd, 1) := by decide +kernel
theorem d_167_85 : xcode 167 85 = some (.iconst 2, 1) := by decide +kernel
theorem d_167_86 : xcode 167 86 = some (.idiv, 1) := by decide +kernel
theorem d_167_87 : xcode 167 87 = some (.istore_n 2, 1) := by decide +kernel
theorem d_167_88 : xcode 167 88 = some (.iload_n 2, 1) := by decide +kernel
theorem d_167_89 : xcode 167 89 = some (.iconst 1, 1) := by decide +kernel
theorem d_167_90 : xcode 167 90 = some (.if_icmp .lt 81, 3) := by decide +kernel
theorem d_167_93 : xcode 167 93 = some (.aload_n 0, 1) := by decide +kernel
theorem d_167_94 : xcode 167 94 = some (.getfield 99, 3) := by decide +kernel
theorem d_167_97 : xcode 167 97 = some (.iconst 2, 1) := by decide +kernel
theorem d_167_98 : xcode 167 98 = some (.iload_n 2, 1) := by decide +kernel
theorem d_167_99 : xcode 167 99 = some (.imul, 1) := by decide +kernel
theorem d_167_100 : xcode 167 100 = some (.laload, 1) := by decide +kernel
theorem d_167_101 : xcode 167 101 = some (.lstore_n 3, 1) := by decide +kernel
theorem d_167_102 : xcode 167 102 = some (.aload_n 0, 1) := by decide +kernel
theorem d_167_103 : xcode 167 103 = some (.getfield 103, 3) := by decide +kernel
theorem d_167_106 : xcode 167 106 = some (.iload_n 2, 1) := by decide +kernel
theorem d_167_107 : xcode 167 107 = some (.lload_n 3, 1) := by decide +kernel
theorem d_167_108 : xcode 167 108 = some (.lastore, 1) := by decide +kernel
theorem d_167_109 : xcode 167 109 = some (.iconst 0, 1) := by decide +kernel
theorem d_167_110 : xcode 167 110 = some (.istore 5, 2) := by decide +kernel
theorem d_167_112 : xcode 167 112 = some (.iload 5, 2) := by decide +kernel
theorem d_167_114 : xcode 167 114 = some (.iload_n 2, 1) := by decide +kernel
theorem d_167_115 : xcode 167 115 = some (.if_icmp .gt 33, 3) := by decide +kernel
theorem d_167_118 : xcode 167 118 = some (.aload_n 0, 1) := by decide +kernel
theorem d_167_119 : xcode 167 119 = some (.getfield 99, 3) := by decide +kernel
theorem d_167_122 : xcode 167 122 = some (.iload_n 2, 1) := by decide +kernel
theorem d_167_123 : xcode 167 123 = some (.iload 5, 2) := by decide +kernel
theorem d_167_125 : xcode 167 125 = some (.iadd, 1) := by decide +kernel
theorem d_167_126 : xcode 167 126 = some (.dup2, 1) := by decide +kernel
theorem d_167_127 : xcode 167 127 = some (.laload, 1) := by decide +kernel
theorem d_167_128 : xcode 167 128 = some (.lload_n 3, 1) := by decide +kernel
theorem d_167_129 : xcode 167 129 = some (.aload_n 0, 1) := by decide +kernel
theorem d_167_130 : xcode 167 130 = some (.getfield 14, 3) := by decide +kernel
theorem d_167_133 : xcode 167 133 = some (.iload_n 2, 1) := by decide +kernel
theorem d_167_134 : xcode 167 134 = some (.iload 5, 2) := by decide +kernel
theorem d_167_136 : xcode 167 136 = some (.invokevirtual 336, 3) := by decide +kernel
theorem d_167_139 : xcode 167 139 = some (.lmul, 1) := by decide +kernel
theorem d_167_140 : xcode 167 140 = some (.lsub, 1) := by decide +kernel
theorem d_167_141 : xcode 167 141 = some (.lastore, 1) := by decide +kernel
theorem d_167_142 : xcode 167 142 = some (.iinc 5 1, 3) := by decide +kernel
theorem d_167_145 : xcode 167 145 = some (.goto (-33), 3) := by decide +kernel
theorem d_167_148 : xcode 167 148 = some (.aload_n 0, 1) := by decide +kernel
theorem d_167_149 : xcode 167 149 = some (.getfield 99, 3) := by decide +kernel
theorem d_167_152 : xcode 167 152 = some (.iconst 2, 1) := by decide +kernel
theorem d_167_153 : xcode 167 153 = some (.iload_n 2, 1) := by decide +kernel
theorem d_167_154 : xcode 167 154 = some (.imul, 1) := by decide +kernel
theorem d_167_155 : xcode 167 155 = some (.iconst 1, 1) := by decide +kernel
theorem d_167_156 : xcode 167 156 = some (.isub, 1) := by decide +kernel
theorem d_167_157 : xcode 167 157 = some (.laload, 1) := by decide +kernel
theorem d_167_158 : xcode 167 158 = some (.lconst 0, 1) := by decide +kernel
theorem d_167_159 : xcode 167 159 = some (.lcmp, 1) := by decide +kernel
theorem d_167_160 : xcode 167 160 = some (.ifCond .eq 5, 3) := by decide +kernel
theorem d_167_163 : xcode 167 163 = some (.iconst 0, 1) := by decide +kernel
theorem d_167_164 : xcode 167 164 = some (.ireturn, 1) := by decide +kernel
theorem d_167_165 : xcode 167 165 = some (.iinc 2 (-1), 3) := by decide +kernel
theorem d_167_168 : xcode 167 168 = some (.goto (-80), 3) := by decide +kernel
theorem d_167_171 : xcode 167 171 = some (.iconst 1, 1) := by decide +kernel
theorem d_167_172 : xcode 167 172 = some (.ireturn, 1) := by decide +kernel
theorem d_168_0 : xcode 168 0 = some (.iload_n 1, 1) := by decide +kernel
theorem d_168_1 : xcode 168 1 = some (.invokestatic 120, 3) := by decide +kernel
theorem d_168_4 : xcode 168 4 = some (.ifCond .eq 29, 3) := by decide +kernel
theorem d_168_7 : xcode 168 7 = some (.iload_n 2, 1) := by decide +kernel
theorem d_168_8 : xcode 168 8 = some (.ifCond .lt 25, 3) := by decide +kernel
theorem d_168_11 : xcode 168 11 = some (.iload_n 2, 1) := by decide +kernel
theorem d_168_12 : xcode 168 12 = some (.iload_n 1, 1) := by decide +kernel
theorem d_168_13 : xcode 168 13 = some (.if_icmp .gt 20, 3) := by decide +kernel
theorem d_168_16 : xcode 168 16 = some (.iload_n 3, 1) := by decide +kernel
theorem d_168_17 : xcode 168 17 = some (.invokestatic 153, 3) := by decide +kernel
theorem d_168_20 : xcode 168 20 = some (.ifCond .eq 13, 3) := by decide +kernel
theorem d_168_23 : xcode 168 23 = some (.iload_n 1, 1) := by decide +kernel
theorem d_168_24 : xcode 168 24 = some (.iload_n 2, 1) := by decide +kernel
theorem d_168_25 : xcode 168 25 = some (.isub, 1) := by decide +kernel
theorem d_168_26 : xcode 168 26 = some (.aload_n 0, 1) := by decide +kernel
theorem d_168_27 : xcode 168 27 = some (.getfield 49, 3) := by decide +kernel
theorem d_168_30 : xcode 168 30 = some (.if_icmp .le 7, 3) := by decide +kernel
theorem d_168_33 : xcode 168 33 = some (.ldc2_w 166, 3) := by decide +kernel
theorem d_168_36 : xcode 168 36 = some (.lreturn, 1) := by decide +kernel
theorem d_168_37 : xcode 168 37 = some (.aload_n 0, 1) := by decide +kernel
theorem d_168_38 : xcode 168 38 = some (.getfield 39, 3) := by decide +kernel
theorem d_168_41 : xcode 168 41 = some (.iload_n 1, 1) := by decide +kernel
theorem d_168_42 : xcode 168 42 = some (.iload_n 2, 1) := by decide +kernel
theorem d_168_43 : xcode 168 43 = some (.isub, 1) := by decide +kernel
theorem d_168_44 : xcode 168 44 = some (.aload_n 0, 1) := by decide +kernel
theorem d_168_45 : xcode 168 45 = some (.getfield 95, 3) := by decide +kernel
theorem d_168_48 : xcode 168 48 = some (.invokevirtual 168, 3) := by decide +kernel
theorem d_168_51 : xcode 168 51 = some (.aload_n 0, 1) := by decide +kernel
theorem d_168_52 : xcode 168 52 = some (.getfield 95, 3) := by decide +kernel
theorem d_168_55 : xcode 168 55 = some (.aload_n 0, 1) := by decide +kernel
theorem d_168_56 : xcode 168 56 = some (.getfield 14, 3) := by decide +kernel
theorem d_168_59 : xcode 168 59 = some (.iload_n 1, 1) := by decide +kernel
theorem d_168_60 : xcode 168 60 = some (.iload_n 2, 1) := by decide +kernel
theorem d_168_61 : xcode 168 61 = some (.invokevirtual 336, 3) := by decide +kernel
theorem d_168_64 : xcode 168 64 = some (.invokevirtual 339, 3) := by decide +kernel
theorem d_168_67 : xcode 168 67 = some (.aload_n 0, 1) := by decide +kernel
theorem d_168_68 : xcode 168 68 = some (.getfield 95, 3) := by decide +kernel
theorem d_168_71 : xcode 168 71 = some (.iload_n 3, 1) := by decide +kernel
theorem d_168_72 : xcode 168 72 = some (.invokevirtual 171, 3) := by decide +kernel
theorem d_168_75 : xcode 168 75 = some (.lreturn, 1) := by decide +kernel
theorem d_169_0 : xcode 169 0 = some (.iload_n 1, 1) := by decide +kernel
theorem d_169_1 : xcode 169 1 = some (.ifCond .lt 48, 3) := by decide +kernel
theorem d_169_4 : xcode 169 4 = some (.iload_n 1, 1) := by decide +kernel
theorem d_169_5 : xcode 169 5 = some (.bipush 10, 2) := by decide +kernel
theorem d_169_7 : xcode 169 7 = some (.if_icmp .gt 42, 3) := by decide +kernel
theorem d_169_10 : xcode 169 10 = some (.iload_n 2, 1) := by decide +kernel
theorem d_169_11 : xcode 169 11 = some (.bipush (-9), 2) := by decide +kernel
theorem d_169_13 : xcode 169 13 = some (.if_icmp .lt 36, 3) := by decide +kernel
theorem d_169_16 : xcode 169 16 = some (.iload_n 2, 1) := by decide +kernel
theorem d_169_17 : xcode 169 17 = some (.bipush 9, 2) := by decide +kernel
theorem d_169_19 : xcode 169 19 = some (.if_icmp .gt 30, 3) := by decide +kernel
theorem d_169_22 : xcode 169 22 = some (.iload_n 3, 1) := by decide +kernel
theorem d_169_23 : xcode 169 23 = some (.iconst 1, 1) := by decide +kernel
theorem d_169_24 : xcode 169 24 = some (.if_icmp .lt 25, 3) := by decide +kernel
theorem d_169_27 : xcode 169 27 = some (.iload_n 3, 1) := by decide +kernel
theorem d_169_28 : xcode 169 28 = some (.bipush 6, 2) := by decide +kernel
theorem d_169_30 : xcode 169 30 = some (.if_icmp .gt 19, 3) := by decide +kernel
theorem d_169_33 : xcode 169 33 = some (.iload 4, 2) := by decide +kernel
theorem d_169_35 : xcode 169 35 = some (.invokestatic 153, 3) := by decide +kernel
theorem d_169_38 : xcode 169 38 = some (.ifCond .eq 11, 3) := by decide +kernel
theorem d_169_41 : xcode 169 41 = some (.iload_n 1, 1) := by decide +kernel
theorem d_169_42 : xcode 169 42 = some (.aload_n 0, 1) := by decide +kernel
theorem d_169_43 : xcode 169 43 = some (.getfield 49, 3) := by decide +kernel
theorem d_169_46 : xcode 169 46 = some (.if_icmp .le 7, 3) := by decide +kernel
theorem d_169_49 : xcode 169 49 = some (.ldc2_w 166, 3) := by decide +kernel
theorem d_169_52 : xcode 169 52 = some (.lreturn, 1) := by decide +kernel
theorem d_169_53 : xcode 169 53 = some (.ldc2_w 378, 3) := by decide +kernel
theorem d_169_56 : xcode 169 56 = some (.lstore 5, 2) := by decide +kernel
theorem d_169_58 : xcode 169 58 = some (.iconst 0, 1) := by decide +kernel
theorem d_169_59 : xcode 169 59 = some (.istore 7, 2) := by decide +kernel
theorem d_169_61 : xcode 169 61 = some (.iload 7, 2) := by decide +kernel
theorem d_169_63 : xcode 169 63 = some (.iload_n 1, 1) := by decide +kernel
theorem d_169_64 : xcode 169 64 = some (.if_icmp .ge 16, 3) := by decide +kernel
theorem d_169_67 : xcode 169 67 = some (.lload 5, 2) := by decide +kernel
theorem d_169_69 : xcode 169 69 = some (.iload_n 3, 1) := by decide +kernel
theorem d_169_70 : xcode 169 70 = some (.i2l, 1) := by decide +kernel
theorem d_169_71 : xcode 169 71 = some (.lmul, 1) := by decide +kernel
theorem d_169_72 : xcode 169 72 = some (.lstore 5, 2) := by decide +kernel
theorem d_169_74 : xcode 169 74 = some (.iinc 7 1, 3) := by decide +kernel
theorem d_169_77 : xcode 169 77 = some (.goto (-16), 3) := by decide +kernel
theorem d_169_80 : xcode 169 80 = some (.aload_n 0, 1) := by decide +kernel
theorem d_169_81 : xcode 169 81 = some (.getfield 95, 3) := by decide +kernel
theorem d_169_84 : xcode 169 84 = some (.lconst 0, 1) := by decide +kernel
theorem d_169_85 : xcode 169 85 = some (.aload_n 0, 1) := by decide +kernel
theorem d_169_86 : xcode 169 86 = some (.aload_n 0, 1) := by decide +kernel
theorem d_169_87 : xcode 169 87 = some (.getfield 39, 3) := by decide +kernel
theorem d_169_90 : xcode 169 90 = some (.iload_n 1, 1) := by decide +kernel
theorem d_169_91 : xcode 169 91 = some (.iload_n 2, 1) := by decide +kernel
theorem d_169_92 : xcode 169 92 = some (.i2l, 1) := by decide +kernel
theorem d_169_93 : xcode 169 93 = some (.iload_n 3, 1) := by decide +kernel
theorem d_169_94 : xcode 169 94 = some (.i2l, 1) := by decide +kernel
theorem d_169_95 : xcode 169 95 = some (.ldc2_w 378, 3) := by decide +kernel
theorem d_169_98 : xcode 169 98 = some (.invokevirtual 323, 3) := by decide +kernel
theorem d_169_101 : xcode 169 101 = some (.lload 5, 2) := by decide +kernel
theorem d_169_103 : xcode 169 103 = some (.invokevirtual 327, 3) := by decide +kernel
theorem d_169_106 : xcode 169 106 = some (.aload_n 0, 1) := by decide +kernel
theorem d_169_107 : xcode 169 107 = some (.getfield 95, 3) := by decide +kernel
theorem d_169_110 : xcode 169 110 = some (.iload 4, 2) := by decide +kernel
theorem d_169_112 : xcode 169 112 = some (.invokevirtual 171, 3) := by decide +kernel
theorem d_169_115 : xcode 169 115 = some (.lreturn, 1) := by decide +kernel
theorem d_170_0 : xcode 170 0 = some (.iload_n 1, 1) := by decide +kernel
theorem d_170_1 : xcode 170 1 = some (.invokestatic 120, 3) := by decide +kernel
theorem d_170_4 : xcode 170 4 = some (.ifCond .eq 21, 3) := by decide +kernel
theorem d_170_7 : xcode 170 7 = some (.iload_n 3, 1) := by decide +kernel
theorem d_170_8 : xcode 170 8 = some (.invokestatic 222, 3) := by decide +kernel
theorem d_170_11 : xcode 170 11 = some (.ifCond .eq 14, 3) := by decide +kernel
theorem d_170_14 : xcode 170 14 = some (.iload_n 2, 1) := by decide +kernel
theorem d_170_15 : xcode 170 15 = some (.ifCond .lt 10, 3) := by decide +kernel
theorem d_170_18 : xcode 170 18 = some (.iload_n 2, 1) := by decide +kernel
theorem d_170_19 : xcode 170 19 = some (.iload_n 3, 1) := by decide +kernel
theorem d_170_20 : xcode 170 20 = some (.iconst 1, 1) := by decide +kernel
theorem d_170_21 : xcode 170 21 = some (.isub, 1) := by decide +kernel
theorem d_170_22 : xcode 170 22 = some (.if_icmp .le 5, 3) := by decide +kernel
theorem d_170_25 : xcode 170 25 = some (.iconst (-1), 1) := by decide +kernel
theorem d_170_26 : xcode 170 26 = some (.ireturn, 1) := by decide +kernel
theorem d_170_27 : xcode 170 27 = some (.iload_n 1, 1) := by decide +kernel
theorem d_170_28 : xcode 170 28 = some (.aload_n 0, 1) := by decide +kernel
theorem d_170_29 : xcode 170 29 = some (.getfield 49, 3) := by decide +kernel
theorem d_170_32 : xcode 170 32 = some (.if_icmp .le 6, 3) := by decide +kernel
theorem d_170_35 : xcode 170 35 = some (.bipush (-2), 2) := by decide +kernel
theorem d_170_37 : xcode 170 37 = some (.ireturn, 1) := by decide +kernel
theorem d_170_38 : xcode 170 38 = some (.aload_n 0, 1) := by decide +kernel
theorem d_170_39 : xcode 170 39 = some (.iload_n 1, 1) := by decide +kernel
theorem d_170_40 : xcode 170 40 = some (.iload_n 3, 1) := by decide +kernel
theorem d_170_41 : xcode 170 41 = some (.invokevirtual 380, 3) := by decide +kernel
theorem d_170_44 : xcode 170 44 = some (.ifCond .eq 15, 3) := by decide +kernel
theorem d_170_47 : xcode 170 47 = some (.aload_n 0, 1) := by decide +kernel
theorem d_170_48 : xcode 170 48 = some (.iload_n 1, 1) := by decide +kernel
theorem d_170_49 : xcode 170 49 = some (.iload_n 2, 1) := by decide +kernel
theorem d_170_50 : xcode 170 50 = some (.i2l, 1) := by decide +kernel
theorem d_170_51 : xcode 170 51 = some (.iload_n 3, 1) := by decide +kernel
theorem d_170_52 : xcode 170 52 = some (.invokevirtual 383, 3) := by decide +kernel
theorem d_170_55 : xcode 170 55 = some (.l2i, 1) := by decide +kernel
theorem d_170_56 : xcode 170 56 = some (.goto 5, 3) := by decide +kernel
theorem d_170_59 : xcode 170 59 = some (.bipush (-3), 2) := by decide +kernel
theorem d_170_61 : xcode 170 61 = some (.ireturn, 1) := by decide +kernel
theorem d_171_0 : xcode 171 0 = some (.iload_n 2, 1) := by decide +kernel
theorem d_171_1 : xcode 171 1 = some (.iconst 3, 1) := by decide +kernel
theorem d_171_2 : xcode 171 2 = some (.if_icmp .ge 5, 3) := by decide +kernel
theorem d_171_5 : xcode 171 5 = some (.iconst 0, 1) := by decide +kernel
theorem d_171_6 : xcode 171 6 = some (.ireturn, 1) := by decide +kernel
theorem d_171_7 : xcode 171 7 = some (.iconst 0, 1) := by decide +kernel
theorem d_171_8 : xcode 171 8 = some (.istore_n 3, 1) := by decide +kernel
theorem d_171_9 : xcode 171 9 = some (.iload_n 3, 1) := by decide +kernel
theorem d_171_10 : xcode 171 10 = some (.iload_n 1, 1) := by decide +kernel
theorem d_171_11 : xcode 171 11 = some (.if_icmp .gt 68, 3) := by decide +kernel
theorem d_171_14 : xcode 171 14 = some (.iload_n 3, 1) := by decide +kernel
theorem d_171_15 : xcode 171 15 = some (.aload_n 0, 1) := by decide +kernel
theorem d_171_16 : xcode 171 16 = some (.getfield 99, 3) := by decide +kernel
theorem d_171_19 : xcode 171 19 = some (.arraylength, 1) := by decide +kernel
theorem d_171_20 : xcode 171 20 = some (.if_icmp .ge 59, 3) := by decide +kernel
theorem d_171_23 : xcode 171 23 = some (.aload_n 0, 1) := by decide +kernel
theorem d_171_24 : xcode 171 24 = some (.getfield 39, 3) := by decide +kernel
theorem d_171_27 : xcode 171 27 = some (.iload_n 3, 1) := by decide +kernel
theorem d_171_28 : xcode 171 28 = some (.invokevirtual 204, 3) := by decide +kernel
theorem d_171_31 : xcode 171 31 = some (.iload_n 2, 1) := by decide +kernel
theorem d_171_32 : xcode 171 32 = some (.i2l, 1) := by decide +kernel
theorem d_171_33 : xcode 171 33 = some (.lrem, 1) := by decide +kernel
theorem d_171_34 : xcode 171 34 = some (.lconst 0, 1) := by decide +kernel
theorem d_171_35 : xcode 171 35 = some (.lcmp, 1) := by decide +kernel
theorem d_171_36 : xcode 171 36 = some (.ifCond .ne 5, 3) := by decide +kernel
theorem d_171_39 : xcode 171 39 = some (.iconst 0, 1) := by decide +kernel
theorem d_171_40 : xcode 171 40 = some (.ireturn, 1) := by decide +kernel
theorem d_171_41 : xcode 171 41 = some (.aload_n 0, 1) := by decide +kernel
theorem d_171_42 : xcode 171 42 = some (.getfield 99, 3) := by decide +kernel
theorem d_171_45 : xcode 171 45 = some (.iload_n 3, 1) := by decide +kernel
theorem d_171_46 : xcode 171 46 = some (.aload_n 0, 1) := by decide +kernel
theorem d_171_47 : xcode 171 47 = some (.getfield 14, 3) := by decide +kernel
theorem d_171_50 : xcode 171 50 = some (.iload_n 1, 1) := by decide +kernel
theorem d_171_51 : xcode 171 51 = some (.iload_n 3, 1) := by decide +kernel
theorem d_171_52 : xcode 171 52 = some (.invokevirtual 336, 3) := by decide +kernel
theorem d_171_55 : xcode 171 55 = some (.iload_n 2, 1) := by decide +kernel
theorem d_171_56 : xcode 171 56 = some (.i2l, 1) := by decide +kernel
theorem d_171_57 : xcode 171 57 = some (.lrem, 1) := by decide +kernel
theorem d_171_58 : xcode 171 58 = some (.aload_n 0, 1) := by decide +kernel
theorem d_171_59 : xcode 171 59 = some (.getfield 39, 3) := by decide +kernel
theorem d_171_62 : xcode 171 62 = some (.iload_n 3, 1) := by decide +kernel
theorem d_171_63 : xcode 171 63 = some (.iload_n 2, 1) := by decide +kernel
theorem d_171_64 : xcode 171 64 = some (.i2l, 1) := by decide +kernel
theorem d_171_65 : xcode 171 65 = some (.invokevirtual 444, 3) := by decide +kernel
theorem d_171_68 : xcode 171 68 = some (.lmul, 1) := by decide +kernel
theorem d_171_69 : xcode 171 69 = some (.iload_n 2, 1) := by decide +kernel
theorem d_171_70 : xcode 171 70 = some (.i2l, 1) := by decide +kernel
theorem d_171_71 : xcode 171 71 = some (.lrem, 1) := by decide +kernel
theorem d_171_72 : xcode 171 72 = some (.lastore, 1) := by decide +kernel
theorem d_171_73 : xcode 171 73 = some (.iinc 3 1, 3) := by decide +kernel
theorem d_171_76 : xcode 171 76 = some (.goto (-67), 3) := by decide +kernel
theorem d_171_79 : xcode 171 79 = some (.iconst 1, 1) := by decide +kernel
theorem d_171_80 : xcode 171 80 = some (.ireturn, 1) := by decide +kernel
theorem d_172_0 : xcode 172 0 = some (.iload 4, 2) := by decide +kernel
theorem d_172_2 : xcode 172 2 = some (.iconst 3, 1) := by decide +kernel
theorem d_172_3 : xcode 172 3 = some (.if_icmp .ge 5, 3) := by decide +kernel
theorem d_172_6 : xcode 172 6 = some (.lconst 0, 1) := by decide +kernel
theorem d_172_7 : xcode 172 7 = some (.lreturn, 1) := by decide +kernel
theorem d_172_8 : xcode 172 8 = some (.lconst 0, 1) := by decide +kernel
theorem d_172_9 : xcode 172 9 = some (.lstore 5, 2) := by decide +kernel
theorem d_172_11 : xcode 172 11 = some (.iconst 0, 1) := by decide +kernel
theorem d_172_12 : xcode 172 12 = some (.istore 7, 2) := by decide +kernel
theorem d_172_14 : xcode 172 14 = some (.iload 7, 2) := by decide +kernel
theorem d_172_16 : xcode 172 16 = some (.iload_n 1, 1) := by decide +kernel
theorem d_172_17 : xcode 172 17 = some (.if_icmp .gt 37, 3) := by decide +kernel
theorem d_172_20 : xcode 172 20 = some (.iload 7, 2) := by decide +kernel
theorem d_172_22 : xcode 172 22 = some (.aload_n 0, 1) := by decide +kernel
theorem d_172_23 : xcode 172 23 = some (.getfield 99, 3) := by decide +kernel
theorem d_172_26 : xcode 172 26 = some (.arraylength, 1) := by decide +kernel
theorem d_172_27 : xcode 172 27 = some (.if_icmp .ge 27, 3) := by decide +kernel
theorem d_172_30 : xcode 172 30 = some (.lload 5, 2) := by decide +kernel
theorem d_172_32 : xcode 172 32 = some (.lload_n 2, 1) := by decide +kernel
theorem d_172_33 : xcode 172 33 = some (.lmul, 1) := by decide +kernel
theorem d_172_34 : xcode 172 34 = some (.aload_n 0, 1) := by decide +kernel
theorem d_172_35 : xcode 172 35 = some (.getfield 99, 3) := by decide +kernel
theorem d_172_38 : xcode 172 38 = some (.iload 7, 2) := by decide +kernel
theorem d_172_40 : xcode 172 40 = some (.laload, 1) := by decide +kernel
theorem d_172_41 : xcode 172 41 = some (.ladd, 1) := by decide +kernel
theorem d_172_42 : xcode 172 42 = some (.iload 4, 2) := by decide +kernel
theorem d_172_44 : xcode 172 44 = some (.i2l, 1) := by decide +kernel
theorem d_172_45 : xcode 172 45 = some (.lrem, 1) := by decide +kernel
theorem d_172_46 : xcode 172 46 = some (.lstore 5, 2) := by decide +kernel
theorem d_172_48 : xcode 172 48 = some (.iinc 7 1, 3) := by decide +kernel
theorem d_172_51 : xcode 172 51 = some (.goto (-37), 3) := by decide +kernel
theorem d_172_54 : xcode 172 54 = some (.lload 5, 2) := by decide +kernel
theorem d_172_56 : xcode 172 56 = some (.lreturn, 1) := by decide +kernel
theorem d_173_0 : xcode 173 0 = some (.iload_n 1, 1) := by decide +kernel
theorem d_173_1 : xcode 173 1 = some (.invokestatic 120, 3) := by decide +kernel
theorem d_173_4 : xcode 173 4 = some (.ifCond .eq 10, 3) := by decide +kernel
theorem d_173_7 : xcode 173 7 = some (.iload_n 2, 1) := by decide +kernel
theorem d_173_8 : xcode 173 8 = some (.invokestatic 222, 3) := by decide +kernel
theorem d_173_11 : xcode 173 11 = some (.ifCond .ne 5, 3) := by decide +kernel
theorem d_173_14 : xcode 173 14 = some (.iconst (-1), 1) := by decide +kernel
theorem d_173_15 : xcode 173 15 = some (.ireturn, 1) := by decide +kernel
theorem d_173_16 : xcode 173 16 = some (.iload_n 1, 1) := by decide +kernel
theorem d_173_17 : xcode 173 17 = some (.aload_n 0, 1) := by decide +kernel
theorem d_173_18 : xcode 173 18 = some (.getfield 49, 3) := by decide +kernel
theorem d_173_21 : xcode 173 21 = some (.if_icmp .le 6, 3) := by decide +kernel
theorem d_173_24 : xcode 173 24 = some (.bipush (-2), 2) := by decide +kernel
theorem d_173_26 : xcode 173 26 = some (.ireturn, 1) := by decide +kernel
theorem d_173_27 : xcode 173 27 = some (.aload_n 0, 1) := by decide +kernel
theorem d_173_28 : xcode 173 28 = some (.iload_n 1, 1) := by decide +kernel
theorem d_173_29 : xcode 173 29 = some (.iload_n 2, 1) := by decide +kernel
theorem d_173_30 : xcode 173 30 = some (.invokevirtual 380, 3) := by decide +kernel
theorem d_173_33 : xcode 173 33 = some (.ifCond .ne 6, 3) := by decide +kernel
theorem d_173_36 : xcode 173 36 = some (.bipush (-3), 2) := by decide +kernel
theorem d_173_38 : xcode 173 38 = some (.ireturn, 1) := by decide +kernel
theorem d_173_39 : xcode 173 39 = some (.iconst 0, 1) := by decide +kernel
theorem d_173_40 : xcode 173 40 = some (.istore_n 3, 1) := by decide +kernel
theorem d_173_41 : xcode 173 41 = some (.iconst 0, 1) := by decide +kernel
theorem d_173_42 : xcode 173 42 = some (.istore 4, 2) := by decide +kernel
theorem d_173_44 : xcode 173 44 = some (.iload 4, 2) := by decide +kernel
theorem d_173_46 : xcode 173 46 = some (.iload_n 2, 1) := by decide +kernel
theorem d_173_47 : xcode 173 47 = some (.if_icmp .ge 26, 3) := by decide +kernel
theorem d_173_50 : xcode 173 50 = some (.aload_n 0, 1) := by decide +kernel
theorem d_173_51 : xcode 173 51 = some (.iload_n 1, 1) := by decide +kernel
theorem d_173_52 : xcode 173 52 = some (.iload 4, 2) := by decide +kernel
theorem d_173_54 : xcode 173 54 = some (.i2l, 1) := by decide +kernel
theorem d_173_55 : xcode 173 55 = some (.iload_n 2, 1) := by decide +kernel
theorem d_173_56 : xcode 173 56 = some (.invokevirtual 383, 3) := by decide +kernel
theorem d_173_59 : xcode 173 59 = some (.lconst 0, 1) := by decide +kernel
theorem d_173_60 : xcode 173 60 = some (.lcmp, 1) := by decide +kernel
theorem d_173_61 : xcode 173 61 = some (.ifCond .ne 6, 3) := by decide +kernel
theorem d_173_64 : xcode 173 64 = some (.iinc 3 1, 3) := by decide +kernel
theorem d_173_67 : xcode 173 67 = some (.iinc 4 1, 3) := by decide +kernel
theorem d_173_70 : xcode 173 70 = some (.goto (-26), 3) := by decide +kernel
theorem d_173_73 : xcode 173 73 = some (.iload_n 3, 1) := by decide +kernel
theorem d_173_74 : xcode 173 74 = some (.ireturn, 1) := by decide +kernel
theorem d_174_0 : xcode 174 0 = some (.iload_n 1, 1) := by decide +kernel
theorem d_174_1 : xcode 174 1 = some (.ifCond .lt 26, 3) := by decide +kernel
theorem d_174_4 : xcode 174 4 = some (.iload_n 1, 1) := by decide +kernel
theorem d_174_5 : xcode 174 5 = some (.bipush 38, 2) := by decide +kernel
theorem d_174_7 : xcode 174 7 = some (.if_icmp .ge 20, 3) := by decide +kernel
theorem d_174_10 : xcode 174 10 = some (.iload_n 2, 1) := by decide +kernel
theorem d_174_11 : xcode 174 11 = some (.invokestatic 153, 3) := by decide +kernel
theorem d_174_14 : xcode 174 14 = some (.ifCond .eq 13, 3) := by decide +kernel
theorem d_174_17 : xcode 174 17 = some (.iload_n 1, 1) := by decide +kernel
theorem d_174_18 : xcode 174 18 = some (.iconst 1, 1) := by decide +kernel
theorem d_174_19 : xcode 174 19 = some (.iadd, 1) := by decide +kernel
theorem d_174_20 : xcode 174 20 = some (.aload_n 0, 1) := by decide +kernel
theorem d_174_21 : xcode 174 21 = some (.getfield 49, 3) := by decide +kernel
theorem d_174_24 : xcode 174 24 = some (.if_icmp .le 7, 3) := by decide +kernel
theorem d_174_27 : xcode 174 27 = some (.ldc2_w 166, 3) := by decide +kernel
theorem d_174_30 : xcode 174 30 = some (.lreturn, 1) := by decide +kernel
theorem d_174_31 : xcode 174 31 = some (.aload_n 0, 1) := by decide +kernel
theorem d_174_32 : xcode 174 32 = some (.getfield 39, 3) := by decide +kernel
theorem d_174_35 : xcode 174 35 = some (.iload_n 1, 1) := by decide +kernel
theorem d_174_36 : xcode 174 36 = some (.iconst 1, 1) := by decide +kernel
theorem d_174_37 : xcode 174 37 = some (.iadd, 1) := by decide +kernel
theorem d_174_38 : xcode 174 38 = some (.aload_n 0, 1) := by decide +kernel
theorem d_174_39 : xcode 174 39 = some (.getfield 95, 3) := by decide +kernel
theorem d_174_42 : xcode 174 42 = some (.invokevirtual 168, 3) := by decide +kernel
theorem d_174_45 : xcode 174 45 = some (.iload_n 1, 1) := by decide +kernel
theorem d_174_46 : xcode 174 46 = some (.ifCond .le 24, 3) := by decide +kernel
theorem d_174_49 : xcode 174 49 = some (.aload_n 0, 1) := by decide +kernel
theorem d_174_50 : xcode 174 50 = some (.getfield 95, 3) := by decide +kernel
theorem d_174_53 : xcode 174 53 = some (.ldc2_w 387, 3) := by decide +kernel
theorem d_174_56 : xcode 174 56 = some (.invokevirtual 339, 3) := by decide +kernel
theorem d_174_59 : xcode 174 59 = some (.aload_n 0, 1) := by decide +kernel
theorem d_174_60 : xcode 174 60 = some (.getfield 95, 3) := by decide +kernel
theorem d_174_63 : xcode 174 63 = some (.iload_n 1, 1) := by decide +kernel
theorem d_174_64 : xcode 174 64 = some (.iconst 1, 1) := by decide +kernel
theorem d_174_65 : xcode 174 65 = some (.iadd, 1) := by decide +kernel
theorem d_174_66 : xcode 174 66 = some (.i2l, 1) := by decide +kernel
theorem d_174_67 : xcode 174 67 = some (.invokevirtual 342, 3) := by decide +kernel
theorem d_174_70 : xcode 174 70 = some (.aload_n 0, 1) := by decide +kernel
theorem d_174_71 : xcode 174 71 = some (.getfield 95, 3) := by decide +kernel
theorem d_174_74 : xcode 174 74 = some (.iload_n 2, 1) := by decide +kernel
theorem d_174_75 : xcode 174 75 = some (.invokevirtual 171, 3) := by decide +kernel
theorem d_174_78 : xcode 174 78 = some (.lreturn, 1) := by decide +kernel
theorem d_175_0 : xcode 175 0 = some (.iload_n 1, 1) := by decide +kernel
theorem d_175_1 : xcode 175 1 = some (.ifCond .lt 17, 3) := by decide +kernel
theorem d_175_4 : xcode 175 4 = some (.iload_n 1, 1) := by decide +kernel
theorem d_175_5 : xcode 175 5 = some (.bipush 20, 2) := by decide +kernel
theorem d_175_7 : xcode 175 7 = some (.if_icmp .gt 11, 3) := by decide +kernel
theorem d_175_10 : xcode 175 10 = some (.iload_n 1, 1) := by decide +kernel
theorem d_175_11 : xcode 175 11 = some (.aload_n 0, 1) := by decide +kernel
theorem d_175_12 : xcode 175 12 = some (.getfield 49, 3) := by decide +kernel
theorem d_175_15 : xcode 175 15 = some (.if_icmp .le 7, 3) := by decide +kernel
theorem d_175_18 : xcode 175 18 = some (.ldc2_w 166, 3) := by decide +kernel
theorem d_175_21 : xcode 175 21 = some (.lreturn, 1) := by decide +kernel
theorem d_175_22 : xcode 175 22 = some (.aload_n 0, 1) := by decide +kernel
theorem d_175_23 : xcode 175 23 = some (.getfield 39, 3) := by decide +kernel
theorem d_175_26 : xcode 175 26 = some (.iload_n 1, 1) := by decide +kernel
theorem d_175_27 : xcode 175 27 = some (.aload_n 0, 1) := by decide +kernel
theorem d_175_28 : xcode 175 28 = some (.getfield 95, 3) := by decide +kernel
theorem d_175_31 : xcode 175 31 = some (.invokevirtual 168, 3) := by decide +kernel
theorem d_175_34 : xcode 175 34 = some (.aload_n 0, 1) := by decide +kernel
theorem d_175_35 : xcode 175 35 = some (.getfield 95, 3) := by decide +kernel
theorem d_175_38 : xcode 175 38 = some (.ldc2_w 389, 3) := by decide +kernel
theorem d_175_41 : xcode 175 41 = some (.lconst 1, 1) := by decide +kernel
theorem d_175_42 : xcode 175 42 = some (.lconst 1, 1) := by decide +kernel
theorem d_175_43 : xcode 175 43 = some (.iload_n 1, 1) := by decide +kernel
theorem d_175_44 : xcode 175 44 = some (.lshl, 1) := by decide +kernel
theorem d_175_45 : xcode 175 45 = some (.lsub, 1) := by decide +kernel
theorem d_175_46 : xcode 175 46 = some (.lmul, 1) := by decide +kernel
theorem d_175_47 : xcode 175 47 = some (.invokevirtual 339, 3) := by decide +kernel
theorem d_175_50 : xcode 175 50 = some (.aload_n 0, 1) := by decide +kernel
theorem d_175_51 : xcode 175 51 = some (.getfield 95, 3) := by decide +kernel
theorem d_175_54 : xcode 175 54 = some (.getfield 391, 3) := by decide +kernel
theorem d_175_57 : xcode 175 57 = some (.lconst 0, 1) := by decide +kernel
theorem d_175_58 : xcode 175 58 = some (.lcmp, 1) := by decide +kernel
theorem d_175_59 : xcode 175 59 = some (.ifCond .ne 13, 3) := by decide +kernel
theorem d_175_62 : xcode 175 62 = some (.aload_n 0, 1) := by decide +kernel
theorem d_175_63 : xcode 175 63 = some (.getfield 95, 3) := by decide +kernel
theorem d_175_66 : xcode 175 66 = some (.getfield 218, 3) := by decide +kernel
theorem d_175_69 : xcode 175 69 = some (.goto 6, 3) := by decide +kernel
theorem d_175_72 : xcode 175 72 = some (.ldc2_w 166, 3) := by decide +kernel
theorem d_175_75 : xcode 175 75 = some (.lreturn, 1) := by decide +kernel
theorem d_176_0 : xcode 176 0 = some (.iload_n 1, 1) := by decide +kernel
theorem d_176_1 : xcode 176 1 = some (.ifCond .lt 19, 3) := by decide +kernel
theorem d_176_4 : xcode 176 4 = some (.iload_n 1, 1) := by decide +kernel
theorem d_176_5 : xcode 176 5 = some (.bipush 30, 2) := by decide +kernel
theorem d_176_7 : xcode 176 7 = some (.if_icmp .gt 13, 3) := by decide +kernel
theorem d_176_10 : xcode 176 10 = some (.iload_n 2, 1) := by decide +kernel
theorem d_176_11 : xcode 176 11 = some (.ifCond .lt 9, 3) := by decide +kernel
theorem d_176_14 : xcode 176 14 = some (.iload_n 2, 1) := by decide +kernel
theorem d_176_15 : xcode 176 15 = some (.bipush 30, 2) := by decide +kernel
theorem d_176_17 : xcode 176 17 = some (.if_icmp .le 7, 3) := by decide +kernel
theorem d_176_20 : xcode 176 20 = some (.ldc2_w 166, 3) := by decide +kernel
theorem d_176_23 : xcode 176 23 = some (.lreturn, 1) := by decide +kernel
theorem d_176_24 : xcode 176 24 = some (.aload_n 0, 1) := by decide +kernel
theorem d_176_25 : xcode 176 25 = some (.iload_n 1, 1) := by decide +kernel
theorem d_176_26 : xcode 176 26 = some (.invokevirtual 394, 3) := by decide +kernel
theorem d_176_29 : xcode 176 29 = some (.aload_n 0, 1) := by decide +kernel
theorem d_176_30 : xcode 176 30 = some (.getfield 99, 3) := by decide +kernel
theorem d_176_33 : xcode 176 33 = some (.iload_n 2, 1) := by decide +kernel
theorem d_176_34 : xcode 176 34 = some (.laload, 1) := by decide +kernel
theorem d_176_35 : xcode 176 35 = some (.lconst 0, 1) := by decide +kernel
theorem d_176_36 : xcode 176 36 = some (.lcmp, 1) := by decide +kernel
theorem d_176_37 : xcode 176 37 = some (.ifCond .ge 9, 3) := by decide +kernel
theorem d_176_40 : xcode 176 40 = some (.ldc2_w 166, 3) := by decide +kernel
theorem d_176_43 : xcode 176 43 = some (.goto 9, 3) := by decide +kernel
theorem d_176_46 : xcode 176 46 = some (.aload_n 0, 1) := by decide +kernel
theorem d_176_47 : xcode 176 47 = some (.getfield 99, 3) := by decide +kernel
theorem d_176_50 : xcode 176 50 = some (.iload_n 2, 1) := by decide +kernel
theorem d_176_51 : xcode 176 51 = some (.laload, 1) := by decide +kernel
theorem d_176_52 : xcode 176 52 = some (.lreturn, 1) := by decide +kernel
theorem d_177_0 : xcode 177 0 = some (.aload_n 0, 1) := by decide +kernel
theorem d_177_1 : xcode 177 1 = some (.getfield 99, 3) := by decide +kernel
theorem d_177_4 : xcode 177 4 = some (.lconst 0, 1) := by decide +kernel
theorem d_177_5 : xcode 177 5 = some (.invokestatic 477, 3) := by decide +kernel
theorem d_177_8 : xcode 177 8 = some (.aload_n 0, 1) := by decide +kernel
theorem d_177_9 : xcode 177 9 = some (.getfield 99, 3) := by decide +kernel
theorem d_177_12 : xcode 177 12 = some (.iconst 0, 1) := by decide +kernel
theorem d_177_13 : xcode 177 13 = some (.lconst 1, 1) := by decide +kernel
theorem d_177_14 : xcode 177 14 = some (.lastore, 1) := by decide +kernel
theorem d_177_15 : xcode 177 15 = some (.iconst 1, 1) := by decide +kernel
theorem d_177_16 : xcode 177 16 = some (.istore_n 2, 1) := by decide +kernel
theorem d_177_17 : xcode 177 17 = some (.iload_n 2, 1) := by decide +kernel
theorem d_177_18 : xcode 177 18 = some (.iload_n 1, 1) := by decide +kernel
theorem d_177_19 : xcode 177 19 = some (.if_icmp .gt 58, 3) := by decide +kernel
theorem d_177_22 : xcode 177 22 = some (.iload_n 2, 1) := by decide +kernel
theorem d_177_23 : xcode 177 23 = some (.bipush 30, 2) := by decide +kernel
theorem d_177_25 : xcode 177 25 = some (.invokestatic 482, 3) := by decide +kernel
theorem d_177_28 : xcode 177 28 = some (.istore_n 3, 1) := by decide +kernel
theorem d_177_29 : xcode 177 29 = some (.iload_n 3, 1) := by decide +kernel
theorem d_177_30 : xcode 177 30 = some (.iconst 1, 1) := by decide +kernel
theorem d_177_31 : xcode 177 31 = some (.if_icmp .lt 33, 3) := by decide +kernel
theorem d_177_34 : xcode 177 34 = some (.aload_n 0, 1) := by decide +kernel
theorem d_177_35 : xcode 177 35 = some (.getfield 99, 3) := by decide +kernel
theorem d_177_38 : xcode 177 38 = some (.iload_n 3, 1) := by decide +kernel
theorem d_177_39 : xcode 177 39 = some (.iload_n 3, 1) := by decide +kernel
theorem d_177_40 : xcode 177 40 = some (.aload_n 0, 1) := by decide +kernel
theorem d_177_41 : xcode 177 41 = some (.getfield 99, 3) := by decide +kernel
theorem d_177_44 : xcode 177 44 = some (.iload_n 3, 1) := by decide +kernel
theorem d_177_45 : xcode 177 45 = some (.laload, 1) := by decide +kernel
theorem d_177_46 : xcode 177 46 = some (.aload_n 0, 1) := by decide +kernel
theorem d_177_47 : xcode 177 47 = some (.getfield 99, 3) := by decide +kernel
theorem d_177_50 : xcode 177 50 = some (.iload_n 3, 1) := by decide +kernel
theorem d_177_51 : xcode 177 51 = some (.iconst 1, 1) := by decide +kernel
theorem d_177_52 : xcode 177 52 = some (.isub, 1) := by decide +kernel
theorem d_177_53 : xcode 177 53 = some (.laload, 1) := by decide +kernel
theorem d_177_54 : xcode 177 54 = some (.invokestatic 485, 3) := by decide +kernel
theorem d_177_57 : xcode 177 57 = some (.lastore, 1) := by decide +kernel
theorem d_177_58 : xcode 177 58 = some (.iinc 3 (-1), 3) := by decide +kernel
theorem d_177_61 : xcode 177 61 = some (.goto (-32), 3) := by decide +kernel
theorem d_177_64 : xcode 177 64 = some (.aload_n 0, 1) := by decide +kernel
theorem d_177_65 : xcode 177 65 = some (.getfield 99, 3) := by decide +kernel
theorem d_177_68 : xcode 177 68 = some (.iconst 0, 1) := by decide +kernel
theorem d_177_69 : xcode 177 69 = some (.lconst 0, 1) := by decide +kernel
theorem d_177_70 : xcode 177 70 = some (.lastore, 1) := by decide +kernel
theorem d_177_71 : xcode 177 71 = some (.iinc 2 1, 3) := by decide +kernel
theorem d_177_74 : xcode 177 74 = some (.goto (-57), 3) := by decide +kernel
theorem d_177_77 : xcode 177 77 = some (.return_, 1) := by decide +kernel
theorem d_178_0 : xcode 178 0 = some (.iload_n 0, 1) := by decide +kernel
theorem d_178_1 : xcode 178 1 = some (.iconst 1, 1) := by decide +kernel
theorem d_178_2 : xcode 178 2 = some (.if_icmp .lt 38, 3) := by decide +kernel
theorem d_178_5 : xcode 178 5 = some (.lload_n 1, 1) := by decide +kernel
theorem d_178_6 : xcode 178 6 = some (.lconst 0, 1) := by decide +kernel
theorem d_178_7 : xcode 178 7 = some (.lcmp, 1) := by decide +kernel
theorem d_178_8 : xcode 178 8 = some (.ifCond .lt 32, 3) := by decide +kernel
theorem d_178_11 : xcode 178 11 = some (.lload_n 3, 1) := by decide +kernel
theorem d_178_12 : xcode 178 12 = some (.lconst 0, 1) := by decide +kernel
theorem d_178_13 : xcode 178 13 = some (.lcmp, 1) := by decide +kernel
theorem d_178_14 : xcode 178 14 = some (.ifCond .lt 26, 3) := by decide +kernel
theorem d_178_17 : xcode 178 17 = some (.lload_n 1, 1) := by decide +kernel
theorem d_178_18 : xcode 178 18 = some (.ldc2_w 489, 3) := by decide +kernel
theorem d_178_21 : xcode 178 21 = some (.lload_n 3, 1) := by decide +kernel
theorem d_178_22 : xcode 178 22 = some (.lsub, 1) := by decide +kernel
theorem d_178_23 : xcode 178 23 = some (.lcmp, 1) := by decide +kernel
theorem d_178_24 : xcode 178 24 = some (.ifCond .gt 16, 3) := by decide +kernel
theorem d_178_27 : xcode 178 27 = some (.lload_n 1, 1) := by decide +kernel
theorem d_178_28 : xcode 178 28 = some (.lload_n 3, 1) := by decide +kernel
theorem d_178_29 : xcode 178 29 = some (.ladd, 1) := by decide +kernel
theorem d_178_30 : xcode 178 30 = some (.ldc2_w 489, 3) := by decide +kernel
theorem d_178_33 : xcode 178 33 = some (.iload_n 0, 1) := by decide +kernel
theorem d_178_34 : xcode 178 34 = some (.i2l, 1) := by decide +kernel
theorem d_178_35 : xcode 178 35 = some (.ldiv, 1) := by decide +kernel
theorem d_178_36 : xcode 178 36 = some (.lcmp, 1) := by decide +kernel
theorem d_178_37 : xcode 178 37 = some (.ifCond .le 7, 3) := by decide +kernel
theorem d_178_40 : xcode 178 40 = some (.ldc2_w 387, 3) := by decide +kernel
theorem d_178_43 : xcode 178 43 = some (.lreturn, 1) := by decide +kernel
theorem d_178_44 : xcode 178 44 = some (.iload_n 0, 1) := by decide +kernel
theorem d_178_45 : xcode 178 45 = some (.i2l, 1) := by decide +kernel
theorem d_178_46 : xcode 178 46 = some (.lload_n 1, 1) := by decide +kernel
theorem d_178_47 : xcode 178 47 = some (.lload_n 3, 1) := by decide +kernel
theorem d_178_48 : xcode 178 48 = some (.ladd, 1) := by decide +kernel
theorem d_178_49 : xcode 178 49 = some (.lmul, 1) := by decide +kernel
theorem d_178_50 : xcode 178 50 = some (.lreturn, 1) := by decide +kernel
theorem d_179_0 : xcode 179 0 = some (.iload_n 1, 1) := by decide +kernel
theorem d_179_1 : xcode 179 1 = some (.ifCond .lt 16, 3) := by decide +kernel
theorem d_179_4 : xcode 179 4 = some (.iload_n 1, 1) := by decide +kernel
theorem d_179_5 : xcode 179 5 = some (.bipush 20, 2) := by decide +kernel
theorem d_179_7 : xcode 179 7 = some (.if_icmp .gt 10, 3) := by decide +kernel
theorem d_179_10 : xcode 179 10 = some (.iload_n 2, 1) := by decide +kernel
theorem d_179_11 : xcode 179 11 = some (.invokestatic 153, 3) := by decide +kernel
theorem d_179_14 : xcode 179 14 = some (.ifCond .ne 7, 3) := by decide +kernel
theorem d_179_17 : xcode 179 17 = some (.ldc2_w 166, 3) := by decide +kernel
theorem d_179_20 : xcode 179 20 = some (.lreturn, 1) := by decide +kernel
theorem d_179_21 : xcode 179 21 = some (.aload_n 0, 1) := by decide +kernel
theorem d_179_22 : xcode 179 22 = some (.iload_n 1, 1) := by decide +kernel
theorem d_179_23 : xcode 179 23 = some (.invokevirtual 394, 3) := by decide +kernel
theorem d_179_26 : xcode 179 26 = some (.aload_n 0, 1) := by decide +kernel
theorem d_179_27 : xcode 179 27 = some (.getfield 21, 3) := by decide +kernel
theorem d_179_30 : xcode 179 30 = some (.ldc2_w 397, 3) := by decide +kernel
theorem d_179_33 : xcode 179 33 = some (.invokevirtual 195, 3) := by decide +kernel
theorem d_179_36 : xcode 179 36 = some (.iconst 0, 1) := by decide +kernel
theorem d_179_37 : xcode 179 37 = some (.istore_n 3, 1) := by decide +kernel
theorem d_179_38 : xcode 179 38 = some (.iload_n 3, 1) := by decide +kernel
theorem d_179_39 : xcode 179 39 = some (.iload_n 1, 1) := by decide +kernel
theorem d_179_40 : xcode 179 40 = some (.if_icmp .gt 72, 3) := by decide +kernel
theorem d_179_43 : xcode 179 43 = some (.aload_n 0, 1) := by decide +kernel
theorem d_179_44 : xcode 179 44 = some (.getfield 99, 3) := by decide +kernel
theorem d_179_47 : xcode 179 47 = some (.iload_n 3, 1) := by decide +kernel
theorem d_179_48 : xcode 179 48 = some (.laload, 1) := by decide +kernel
theorem d_179_49 : xcode 179 49 = some (.lconst 0, 1) := by decide +kernel
theorem d_179_50 : xcode 179 50 = some (.lcmp, 1) := by decide +kernel
theorem d_179_51 : xcode 179 51 = some (.ifCond .ge 7, 3) := by decide +kernel
theorem d_179_54 : xcode 179 54 = some (.ldc2_w 166, 3) := by decide +kernel
theorem d_179_57 : xcode 179 57 = some (.lreturn, 1) := by decide +kernel
theorem d_179_58 : xcode 179 58 = some (.iload_n 3, 1) := by decide +kernel
theorem d_179_59 : xcode 179 59 = some (.iconst 1, 1) := by decide +kernel
theorem d_179_60 : xcode 179 60 = some (.iadd, 1) := by decide +kernel
theorem d_179_61 : xcode 179 61 = some (.istore 4, 2) := by decide +kernel
theorem d_179_63 : xcode 179 63 = some (.aload_n 0, 1) := by decide +kernel
theorem d_179_64 : xcode 179 64 = some (.getfield 21, 3) := by decide +kernel
theorem d_179_67 : xcode 179 67 = some (.iload_n 3, 1) := by decide +kernel
theorem d_179_68 : xcode 179 68 = some (.iconst 2, 1) := by decide +kernel
theorem d_179_69 : xcode 179 69 = some (.irem, 1) := by decide +kernel
theorem d_179_70 : xcode 179 70 = some (.ifCond .ne 7, 3) := by decide +kernel
theorem d_179_73 : xcode 179 73 = some (.lconst 1, 1) := by decide +kernel
theorem d_179_74 : xcode 179 74 = some (.goto 6, 3) := by decide +kernel
theorem d_179_77 : xcode 179 77 = some (.ldc2_w 387, 3) := by decide +kernel
theorem d_179_80 : xcode 179 80 = some (.aload_n 0, 1) := by decide +kernel
theorem d_179_81 : xcode 179 81 = some (.getfield 99, 3) := by decide +kernel
theorem d_179_84 : xcode 179 84 = some (.iload_n 3, 1) := by decide +kernel
theorem d_179_85 : xcode 179 85 = some (.laload, 1) := by decide +kernel
theorem d_179_86 : xcode 179 86 = some (.iload 4, 2) := by decide +kernel
theorem d_179_88 : xcode 179 88 = some (.i2l, 1) := by decide +kernel
theorem d_179_89 : xcode 179 89 = some (.ldiv, 1) := by decide +kernel
theorem d_179_90 : xcode 179 90 = some (.aload_n 0, 1) := by decide +kernel
theorem d_179_91 : xcode 179 91 = some (.getfield 99, 3) := by decide +kernel
theorem d_179_94 : xcode 179 94 = some (.iload_n 3, 1) := by decide +kernel
theorem d_179_95 : xcode 179 95 = some (.laload, 1) := by decide +kernel
theorem d_179_96 : xcode 179 96 = some (.iload 4, 2) := by decide +kernel
theorem d_179_98 : xcode 179 98 = some (.i2l, 1) := by decide +kernel
theorem d_179_99 : xcode 179 99 = some (.lrem, 1) := by decide +kernel
theorem d_179_100 : xcode 179 100 = some (.iload 4, 2) := by decide +kernel
theorem d_179_102 : xcode 179 102 = some (.i2l, 1) := by decide +kernel
theorem d_179_103 : xcode 179 103 = some (.invokevirtual 207, 3) := by decide +kernel
theorem d_179_106 : xcode 179 106 = some (.iinc 3 1, 3) := by decide +kernel
theorem d_179_109 : xcode 179 109 = some (.goto (-71), 3) := by decide +kernel
theorem d_179_112 : xcode 179 112 = some (.aload_n 0, 1) := by decide +kernel
theorem d_179_113 : xcode 179 113 = some (.getfield 21, 3) := by decide +kernel
theorem d_179_116 : xcode 179 116 = some (.aload_n 0, 1) := by decide +kernel
theorem d_179_117 : xcode 179 117 = some (.getfield 95, 3) := by decide +kernel
theorem d_179_120 : xcode 179 120 = some (.invokevirtual 214, 3) := by decide +kernel
theorem d_179_123 : xcode 179 123 = some (.aload_n 0, 1) := by decide +kernel
theorem d_179_124 : xcode 179 124 = some (.getfield 95, 3) := by decide +kernel
theorem d_179_127 : xcode 179 127 = some (.iload_n 2, 1) := by decide +kernel
theorem d_179_128 : xcode 179 128 = some (.invokevirtual 171, 3) := by decide +kernel
theorem d_179_131 : xcode 179 131 = some (.lreturn, 1) := by decide +kernel
theorem d_180_0 : xcode 180 0 = some (.iload_n 1, 1) := by decide +kernel
theorem d_180_1 : xcode 180 1 = some (.ifCond .lt 9, 3) := by decide +kernel
theorem d_180_4 : xcode 180 4 = some (.iload_n 1, 1) := by decide +kernel
theorem d_180_5 : xcode 180 5 = some (.bipush 23, 2) := by decide +kernel
theorem d_180_7 : xcode 180 7 = some (.if_icmp .le 7, 3) := by decide +kernel
theorem d_180_10 : xcode 180 10 = some (.ldc2_w 166, 3) := by decide +kernel
theorem d_180_13 : xcode 180 13 = some (.lreturn, 1) := by decide +kernel
theorem d_180_14 : xcode 180 14 = some (.aload_n 0, 1) := by decide +kernel
theorem d_180_15 : xcode 180 15 = some (.getfield 99, 3) := by decide +kernel
theorem d_180_18 : xcode 180 18 = some (.iconst 0, 1) := by decide +kernel
theorem d_180_19 : xcode 180 19 = some (.lconst 1, 1) := by decide +kernel
theorem d_180_20 : xcode 180 20 = some (.lastore, 1) := by decide +kernel
theorem d_180_21 : xcode 180 21 = some (.iconst 1, 1) := by decide +kernel
theorem d_180_22 : xcode 180 22 = some (.istore_n 2, 1) := by decide +kernel
theorem d_180_23 : xcode 180 23 = some (.iload_n 2, 1) := by decide +kernel
theorem d_180_24 : xcode 180 24 = some (.iload_n 1, 1) := by decide +kernel
theorem d_180_25 : xcode 180 25 = some (.if_icmp .gt 66, 3) := by decide +kernel
theorem d_180_28 : xcode 180 28 = some (.aload_n 0, 1) := by decide +kernel
theorem d_180_29 : xcode 180 29 = some (.getfield 99, 3) := by decide +kernel
theorem d_180_32 : xcode 180 32 = some (.iconst 0, 1) := by decide +kernel
theorem d_180_33 : xcode 180 33 = some (.aload_n 0, 1) := by decide +kernel
theorem d_180_34 : xcode 180 34 = some (.getfield 103, 3) := by decide +kernel
theorem d_180_37 : xcode 180 37 = some (.iconst 0, 1) := by decide +kernel
theorem d_180_38 : xcode 180 38 = some (.iload_n 2, 1) := by decide +kernel
theorem d_180_39 : xcode 180 39 = some (.invokestatic 399, 3) := by decide +kernel
theorem d_180_42 : xcode 180 42 = some (.aload_n 0, 1) := by decide +kernel
theorem d_180_43 : xcode 180 43 = some (.getfield 99, 3) := by decide +kernel
theorem d_180_46 : xcode 180 46 = some (.iconst 0, 1) := by decide +kernel
theorem d_180_47 : xcode 180 47 = some (.lconst 0, 1) := by decide +kernel
theorem d_180_48 : xcode 180 48 = some (.lastore, 1) := by decide +kernel
theorem d_180_49 : xcode 180 49 = some (.iconst 1, 1) := by decide +kernel
theorem d_180_50 : xcode 180 50 = some (.istore_n 3, 1) := by decide +kernel
theorem d_180_51 : xcode 180 51 = some (.iload_n 3, 1) := by decide +kernel
theorem d_180_52 : xcode 180 52 = some (.iload_n 2, 1) := by decide +kernel
theorem d_180_53 : xcode 180 53 = some (.if_icmp .gt 32, 3) := by decide +kernel
theorem d_180_56 : xcode 180 56 = some (.aload_n 0, 1) := by decide +kernel
theorem d_180_57 : xcode 180 57 = some (.getfield 99, 3) := by decide +kernel
theorem d_180_60 : xcode 180 60 = some (.iload_n 3, 1) := by decide +kernel
theorem d_180_61 : xcode 180 61 = some (.aload_n 0, 1) := by decide +kernel
theorem d_180_62 : xcode 180 62 = some (.getfield 99, 3) := by decide +kernel
theorem d_180_65 : xcode 180 65 = some (.iload_n 3, 1) := by decide +kernel
theorem d_180_66 : xcode 180 66 = some (.iconst 1, 1) := by decide +kernel
theorem d_180_67 : xcode 180 67 = some (.isub, 1) := by decide +kernel
theorem d_180_68 : xcode 180 68 = some (.laload, 1) := by decide +kernel
theorem d_180_69 : xcode 180 69 = some (.aload_n 0, 1) := by decide +kernel
theorem d_180_70 : xcode 180 70 = some (.getfield 103, 3) := by decide +kernel
theorem d_180_73 : xcode 180 73 = some (.iload_n 2, 1) := by decide +kernel
theorem d_180_74 : xcode 180 74 = some (.iload_n 3, 1) := by decide +kernel
theorem d_180_75 : xcode 180 75 = some (.isub, 1) := by decide +kernel
theorem d_180_76 : xcode 180 76 = some (.laload, 1) := by decide +kernel
theorem d_180_77 : xcode 180 77 = some (.ladd, 1) := by decide +kernel
theorem d_180_78 : xcode 180 78 = some (.lastore, 1) := by decide +kernel
theorem d_180_79 : xcode 180 79 = some (.iinc 3 1, 3) := by decide +kernel
theorem d_180_82 : xcode 180 82 = some (.goto (-31), 3) := by decide +kernel
theorem d_180_85 : xcode 180 85 = some (.iinc 2 1, 3) := by decide +kernel
theorem d_180_88 : xcode 180 88 = some (.goto (-65), 3) := by decide +kernel
theorem d_180_91 : xcode 180 91 = some (.aload_n 0, 1) := by decide +kernel
theorem d_180_92 : xcode 180 92 = some (.getfield 99, 3) := by decide +kernel
theorem d_180_95 : xcode 180 95 = some (.iload_n 1, 1) := by decide +kernel
theorem d_180_96 : xcode 180 96 = some (.laload, 1) := by decide +kernel
theorem d_180_97 : xcode 180 97 = some (.lreturn, 1) := by decide +kernel
theorem d_181_0 : xcode 181 0 = some (.iload_n 1, 1) := by decide +kernel
theorem d_181_1 : xcode 181 1 = some (.bipush 22, 2) := by decide +kernel
theorem d_181_3 : xcode 181 3 = some (.if_icmp .gt 18, 3) := by decide +kernel
theorem d_181_6 : xcode 181 6 = some (.iload_n 1, 1) := by decide +kernel
theorem d_181_7 : xcode 181 7 = some (.invokestatic 190, 3) := by decide +kernel
theorem d_181_10 : xcode 181 10 = some (.ifCond .eq 11, 3) := by decide +kernel
theorem d_181_13 : xcode 181 13 = some (.iload_n 1, 1) := by decide +kernel
theorem d_181_14 : xcode 181 14 = some (.aload_n 0, 1) := by decide +kernel
theorem d_181_15 : xcode 181 15 = some (.getfield 49, 3) := by decide +kernel
theorem d_181_18 : xcode 181 18 = some (.if_icmp .le 7, 3) := by decide +kernel
theorem d_181_21 : xcode 181 21 = some (.ldc2_w 166, 3) := by decide +kernel
theorem d_181_24 : xcode 181 24 = some (.lreturn, 1) := by decide +kernel
theorem d_181_25 : xcode 181 25 = some (.lconst 1, 1) := by decide +kernel
theorem d_181_26 : xcode 181 26 = some (.iload_n 1, 1) := by decide +kernel
theorem d_181_27 : xcode 181 27 = some (.lshl, 1) := by decide +kernel
theorem d_181_28 : xcode 181 28 = some (.lstore_n 2, 1) := by decide +kernel
theorem d_181_29 : xcode 181 29 = some (.aload_n 0, 1) := by decide +kernel
theorem d_181_30 : xcode 181 30 = some (.getfield 39, 3) := by decide +kernel
theorem d_181_33 : xcode 181 33 = some (.iload_n 1, 1) := by decide +kernel
theorem d_181_34 : xcode 181 34 = some (.aload_n 0, 1) := by decide +kernel
theorem d_181_35 : xcode 181 35 = some (.getfield 95, 3) := by decide +kernel
theorem d_181_38 : xcode 181 38 = some (.invokevirtual 168, 3) := by decide +kernel
theorem d_181_41 : xcode 181 41 = some (.aload_n 0, 1) := by decide +kernel
theorem d_181_42 : xcode 181 42 = some (.getfield 95, 3) := by decide +kernel
theorem d_181_45 : xcode 181 45 = some (.aload_n 0, 1) := by decide +kernel
theorem d_181_46 : xcode 181 46 = some (.getfield 39, 3) := by decide +kernel
theorem d_181_49 : xcode 181 49 = some (.iload_n 1, 1) := by decide +kernel
theorem d_181_50 : xcode 181 50 = some (.invokevirtual 255, 3) := by decide +kernel
theorem d_181_53 : xcode 181 53 = some (.i2l, 1) := by decide +kernel
theorem d_181_54 : xcode 181 54 = some (.lload_n 2, 1) := by decide +kernel
theorem d_181_55 : xcode 181 55 = some (.lmul, 1) := by decide +kernel
theorem d_181_56 : xcode 181 56 = some (.lload_n 2, 1) := by decide +kernel
theorem d_181_57 : xcode 181 57 = some (.lconst 1, 1) := by decide +kernel
theorem d_181_58 : xcode 181 58 = some (.lsub, 1) := by decide +kernel
theorem d_181_59 : xcode 181 59 = some (.lmul, 1) := by decide +kernel
theorem d_181_60 : xcode 181 60 = some (.invokevirtual 339, 3) := by decide +kernel
theorem d_181_63 : xcode 181 63 = some (.aload_n 0, 1) := by decide +kernel
theorem d_181_64 : xcode 181 64 = some (.getfield 95, 3) := by decide +kernel
theorem d_181_67 : xcode 181 67 = some (.iload_n 1, 1) := by decide +kernel
theorem d_181_68 : xcode 181 68 = some (.i2l, 1) := by decide +kernel
theorem d_181_69 : xcode 181 69 = some (.invokevirtual 342, 3) := by decide +kernel
theorem d_181_72 : xcode 181 72 = some (.aload_n 0, 1) := by decide +kernel
theorem d_181_73 : xcode 181 73 = some (.getfield 95, 3) := by decide +kernel
theorem d_181_76 : xcode 181 76 = some (.getfield 391, 3) := by decide +kernel
theorem d_181_79 : xcode 181 79 = some (.lconst 0, 1) := by decide +kernel
theorem d_181_80 : xcode 181 80 = some (.lcmp, 1) := by decide +kernel
theorem d_181_81 : xcode 181 81 = some (.ifCond .ne 13, 3) := by decide +kernel
theorem d_181_84 : xcode 181 84 = some (.aload_n 0, 1) := by decide +kernel
theorem d_181_85 : xcode 181 85 = some (.getfield 95, 3) := by decide +kernel
theorem d_181_88 : xcode 181 88 = some (.getfield 218, 3) := by decide +kernel
theorem d_181_91 : xcode 181 91 = some (.goto 6, 3) := by decide +kernel
theorem d_181_94 : xcode 181 94 = some (.ldc2_w 166, 3) := by decide +kernel
theorem d_181_97 : xcode 181 97 = some (.lreturn, 1) := by decide +kernel
theorem d_182_0 : xcode 182 0 = some (.iload_n 1, 1) := by decide +kernel
theorem d_182_1 : xcode 182 1 = some (.iconst 4, 1) := by decide +kernel
theorem d_182_2 : xcode 182 2 = some (.if_icmp .lt 15, 3) := by decide +kernel
theorem d_182_5 : xcode 182 5 = some (.iload_n 1, 1) := by decide +kernel
theorem d_182_6 : xcode 182 6 = some (.bipush 38, 2) := by decide +kernel
theorem d_182_8 : xcode 182 8 = some (.if_icmp .gt 9, 3) := by decide +kernel
theorem d_182_11 : xcode 182 11 = some (.iload_n 1, 1) := by decide +kernel
theorem d_182_12 : xcode 182 12 = some (.iconst 2, 1) := by decide +kernel
theorem d_182_13 : xcode 182 13 = some (.irem, 1) := by decide +kernel
theorem d_182_14 : xcode 182 14 = some (.ifCond .eq 5, 3) := by decide +kernel
theorem d_182_17 : xcode 182 17 = some (.iconst (-1), 1) := by decide +kernel
theorem d_182_18 : xcode 182 18 = some (.ireturn, 1) := by decide +kernel
theorem d_182_19 : xcode 182 19 = some (.iload_n 1, 1) := by decide +kernel
theorem d_182_20 : xcode 182 20 = some (.aload_n 0, 1) := by decide +kernel
theorem d_182_21 : xcode 182 21 = some (.getfield 49, 3) := by decide +kernel
theorem d_182_24 : xcode 182 24 = some (.if_icmp .le 6, 3) := by decide +kernel
theorem d_182_27 : xcode 182 27 = some (.bipush (-2), 2) := by decide +kernel
theorem d_182_29 : xcode 182 29 = some (.ireturn, 1) := by decide +kernel
theorem d_182_30 : xcode 182 30 = some (.aload_n 0, 1) := by decide +kernel
theorem d_182_31 : xcode 182 31 = some (.getfield 39, 3) := by decide +kernel
theorem d_182_34 : xcode 182 34 = some (.iload_n 1, 1) := by decide +kernel
theorem d_182_35 : xcode 182 35 = some (.iconst 2, 1) := by decide +kernel
theorem d_182_36 : xcode 182 36 = some (.isub, 1) := by decide +kernel
theorem d_182_37 : xcode 182 37 = some (.invokevirtual 198, 3) := by decide +kernel
theorem d_182_40 : xcode 182 40 = some (.invokestatic 405, 3) := by decide +kernel
theorem d_182_43 : xcode 182 43 = some (.lstore_n 2, 1) := by decide +kernel
theorem d_182_44 : xcode 182 44 = some (.lload_n 2, 1) := by decide +kernel
theorem d_182_45 : xcode 182 45 = some (.lconst 0, 1) := by decide +kernel
theorem d_182_46 : xcode 182 46 = some (.lcmp, 1) := by decide +kernel
theorem d_182_47 : xcode 182 47 = some (.ifCond .ne 7, 3) := by decide +kernel
theorem d_182_50 : xcode 182 50 = some (.iconst 0, 1) := by decide +kernel
theorem d_182_51 : xcode 182 51 = some (.goto 17, 3) := by decide +kernel
theorem d_182_54 : xcode 182 54 = some (.aload_n 0, 1) := by decide +kernel
theorem d_182_55 : xcode 182 55 = some (.getfield 39, 3) := by decide +kernel
theorem d_182_58 : xcode 182 58 = some (.iload_n 1, 1) := by decide +kernel
theorem d_182_59 : xcode 182 59 = some (.invokevirtual 198, 3) := by decide +kernel
theorem d_182_62 : xcode 182 62 = some (.invokestatic 405, 3) := by decide +kernel
theorem d_182_65 : xcode 182 65 = some (.lload_n 2, 1) := by decide +kernel
theorem d_182_66 : xcode 182 66 = some (.ldiv, 1) := by decide +kernel
theorem d_182_67 : xcode 182 67 = some (.l2i, 1) := by decide +kernel
theorem d_182_68 : xcode 182 68 = some (.ireturn, 1) := by decide +kernel
theorem d_183_0 : xcode 183 0 = some (.lload_n 0, 1) := by decide +kernel
theorem d_183_1 : xcode 183 1 = some (.lconst 0, 1) := by decide +kernel
theorem d_183_2 : xcode 183 2 = some (.lcmp, 1) := by decide +kernel
theorem d_183_3 : xcode 183 3 = some (.ifCond .ge 8, 3) := by decide +kernel
theorem d_183_6 : xcode 183 6 = some (.lload_n 0, 1) := by decide +kernel
theorem d_183_7 : xcode 183 7 = some (.lneg, 1) := by decide +kernel
theorem d_183_8 : xcode 183 8 = some (.goto 4, 3) := by decide +kernel
theorem d_183_11 : xcode 183 11 = some (.lload_n 0, 1) := by decide +kernel
theorem d_183_12 : xcode 183 12 = some (.lreturn, 1) := by decide +kernel
theorem d_184_0 : xcode 184 0 = some (.iload_n 1, 1) := by decide +kernel
theorem d_184_1 : xcode 184 1 = some (.tableswitch 54 0 3 #[31, 36, 41, 49], 31) := by decide +kernel
theorem d_184_32 : xcode 184 32 = some (.aload_n 0, 1) := by decide +kernel
theorem d_184_33 : xcode 184 33 = some (.getfield 49, 3) := by decide +kernel
theorem d_184_36 : xcode 184 36 = some (.ireturn, 1) := by decide +kernel
theorem d_184_37 : xcode 184 37 = some (.aload_n 0, 1) := by decide +kernel
theorem d_184_38 : xcode 184 38 = some (.invokevirtual 411, 3) := by decide +kernel
theorem d_184_41 : xcode 184 41 = some (.ireturn, 1) := by decide +kernel
theorem d_184_42 : xcode 184 42 = some (.aload_n 0, 1) := by decide +kernel
theorem d_184_43 : xcode 184 43 = some (.getfield 65, 3) := by decide +kernel
theorem d_184_46 : xcode 184 46 = some (.invokevirtual 238, 3) := by decide +kernel
theorem d_184_49 : xcode 184 49 = some (.ireturn, 1) := by decide +kernel
theorem d_184_50 : xcode 184 50 = some (.aload_n 0, 1) := by decide +kernel
theorem d_184_51 : xcode 184 51 = some (.invokevirtual 414, 3) := by decide +kernel
theorem d_184_54 : xcode 184 54 = some (.ireturn, 1) := by decide +kernel
theorem d_184_55 : xcode 184 55 = some (.iconst (-1), 1) := by decide +kernel
theorem d_184_56 : xcode 184 56 = some (.ireturn, 1) := by decide +kernel
theorem d_185_0 : xcode 185 0 = some (.iconst 0, 1) := by decide +kernel
theorem d_185_1 : xcode 185 1 = some (.istore_n 1, 1) := by decide +kernel
theorem d_185_2 : xcode 185 2 = some (.iconst 0, 1) := by decide +kernel
theorem d_185_3 : xcode 185 3 = some (.istore_n 2, 1) := by decide +kernel
theorem d_185_4 : xcode 185 4 = some (.iload_n 2, 1) := by decide +kernel
theorem d_185_5 : xcode 185 5 = some (.aload_n 0, 1) := by decide +kernel
theorem d_185_6 : xcode 185 6 = some (.getfield 49, 3) := by decide +kernel
theorem d_185_9 : xcode 185 9 = some (.if_icmp .gt 20, 3) := by decide +kernel
theorem d_185_12 : xcode 185 12 = some (.aload_n 0, 1) := by decide +kernel
theorem d_185_13 : xcode 185 13 = some (.iload_n 2, 1) := by decide +kernel
theorem d_185_14 : xcode 185 14 = some (.invokevirtual 174, 3) := by decide +kernel
theorem d_185_17 : xcode 185 17 = some (.ifCond .ne 6, 3) := by decide +kernel
theorem d_185_20 : xcode 185 20 = some (.iinc 1 1, 3) := by decide +kernel
theorem d_185_23 : xcode 185 23 = some (.iinc 2 1, 3) := by decide +kernel
theorem d_185_26 : xcode 185 26 = some (.goto (-22), 3) := by decide +kernel
theorem d_185_29 : xcode 185 29 = some (.iload_n 1, 1) := by decide +kernel
theorem d_185_30 : xcode 185 30 = some (.ireturn, 1) := by decide +kernel
theorem d_186_0 : xcode 186 0 = some (.iconst 0, 1) := by decide +kernel
theorem d_186_1 : xcode 186 1 = some (.istore_n 1, 1) := by decide +kernel
theorem d_186_2 : xcode 186 2 = some (.iconst 0, 1) := by decide +kernel
theorem d_186_3 : xcode 186 3 = some (.istore_n 2, 1) := by decide +kernel
theorem d_186_4 : xcode 186 4 = some (.iload_n 2, 1) := by decide +kernel
theorem d_186_5 : xcode 186 5 = some (.aload_n 0, 1) := by decide +kernel
theorem d_186_6 : xcode 186 6 = some (.getfield 65, 3) := by decide +kernel
theorem d_186_9 : xcode 186 9 = some (.invokevirtual 238, 3) := by decide +kernel
theorem d_186_12 : xcode 186 12 = some (.if_icmp .ge 20, 3) := by decide +kernel
theorem d_186_15 : xcode 186 15 = some (.aload_n 0, 1) := by decide +kernel
theorem d_186_16 : xcode 186 16 = some (.iload_n 2, 1) := by decide +kernel
theorem d_186_17 : xcode 186 17 = some (.invokevirtual 252, 3) := by decide +kernel
theorem d_186_20 : xcode 186 20 = some (.ifCond .ne 6, 3) := by decide +kernel
theorem d_186_23 : xcode 186 23 = some (.iinc 1 1, 3) := by decide +kernel
theorem d_186_26 : xcode 186 26 = some (.iinc 2 1, 3) := by decide +kernel
theorem d_186_29 : xcode 186 29 = some (.goto (-25), 3) := by decide +kernel
theorem d_186_32 : xcode 186 32 = some (.iload_n 1, 1) := by decide +kernel
theorem d_186_33 : xcode 186 33 = some (.ireturn, 1) := by decide +kernel
theorem d_187_0 : xcode 187 0 = some (.iload_n 2, 1) := by decide +kernel
theorem d_187_1 : xcode 187 1 = some (.invokestatic 153, 3) := by decide +kernel
theorem d_187_4 : xcode 187 4 = some (.ifCond .ne 13, 3) := by decide +kernel
theorem d_187_17 : xcode 187 17 = some (.aload_n 0, 1) := by decide +kernel
theorem d_187_18 : xcode 187 18 = some (.iload_n 1, 1) := by decide +kernel
theorem d_187_19 : xcode 187 19 = some (.invokevirtual 163, 3) := by decide +kernel
theorem d_187_22 : xcode 187 22 = some (.ifCond .ne 7, 3) := by decide +kernel
theorem d_187_25 : xcode 187 25 = some (.ldc2_w 166, 3) := by decide +kernel
theorem d_187_28 : xcode 187 28 = some (.lreturn, 1) := by decide +kernel
theorem d_187_29 : xcode 187 29 = some (.aload_n 0, 1) := by decide +kernel
theorem d_187_30 : xcode 187 30 = some (.getfield 39, 3) := by decide +kernel
theorem d_187_33 : xcode 187 33 = some (.iload_n 1, 1) := by decide +kernel
theorem d_187_34 : xcode 187 34 = some (.aload_n 0, 1) := by decide +kernel
theorem d_187_35 : xcode 187 35 = some (.getfield 95, 3) := by decide +kernel
theorem d_187_38 : xcode 187 38 = some (.invokevirtual 168, 3) := by decide +kernel
theorem d_187_41 : xcode 187 41 = some (.aload_n 0, 1) := by decide +kernel
theorem d_187_42 : xcode 187 42 = some (.getfield 95, 3) := by decide +kernel
theorem d_187_45 : xcode 187 45 = some (.iload_n 2, 1) := by decide +kernel
theorem d_187_46 : xcode 187 46 = some (.invokevirtual 171, 3) := by decide +kernel
theorem d_187_49 : xcode 187 49 = some (.lreturn, 1) := by decide +kernel
theorem d_188_0 : xcode 188 0 = some (.aload_n 0, 1) := by decide +kernel
theorem d_188_1 : xcode 188 1 = some (.invokespecial 1, 3) := by decide +kernel
theorem d_188_4 : xcode 188 4 = some (.aload_n 0, 1) := by decide +kernel
theorem d_188_5 : xcode 188 5 = some (.bipush 117, 2) := by decide +kernel
theorem d_188_7 : xcode 188 7 = some (.newarray .long, 2) := by decide +kernel
theorem d_188_9 : xcode 188 9 = some (.putfield 7, 3) := by decide +kernel
