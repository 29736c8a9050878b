/-! printed by wip/whole/tools/seg.py: Ar_rangeCheck, Ar_fill2, Ar_fill4, Na_setProduct, Na_divideBy, Na_takeMultiple, Na_guessMultiple -/

theorem d_Ar_rangeCheck_0 : decode prog_30_method_30_code 0 = .ok (.iload_n 1, 1) := by decide +kernel
theorem d_Ar_rangeCheck_1 : decode prog_30_method_30_code 1 = .ok (.iload_n 2, 1) := by decide +kernel
theorem d_Ar_rangeCheck_2 : decode prog_30_method_30_code 2 = .ok (.if_icmp .le 44, 3) := by decide +kernel
theorem d_Ar_rangeCheck_5 : decode prog_30_method_30_code 5 = .ok (.new 43, 3) := by decide +kernel
theorem d_Ar_rangeCheck_8 : decode prog_30_method_30_code 8 = .ok (.dup, 1) := by decide +kernel
theorem d_Ar_rangeCheck_9 : decode prog_30_method_30_code 9 = .ok (.new 45, 3) := by decide +kernel
theorem d_Ar_rangeCheck_12 : decode prog_30_method_30_code 12 = .ok (.dup, 1) := by decide +kernel
theorem d_Ar_rangeCheck_13 : decode prog_30_method_30_code 13 = .ok (.invokespecial 47, 3) := by decide +kernel
theorem d_Ar_rangeCheck_16 : decode prog_30_method_30_code 16 = .ok (.ldc 48, 2) := by decide +kernel
theorem d_Ar_rangeCheck_18 : decode prog_30_method_30_code 18 = .ok (.invokevirtual 50, 3) := by decide +kernel
theorem d_Ar_rangeCheck_21 : decode prog_30_method_30_code 21 = .ok (.iload_n 1, 1) := by decide +kernel
theorem d_Ar_rangeCheck_22 : decode prog_30_method_30_code 22 = .ok (.invokevirtual 54, 3) := by decide +kernel
theorem d_Ar_rangeCheck_25 : decode prog_30_method_30_code 25 = .ok (.ldc 57, 2) := by decide +kernel
theorem d_Ar_rangeCheck_27 : decode prog_30_method_30_code 27 = .ok (.invokevirtual 50, 3) := by decide +kernel
theorem d_Ar_rangeCheck_30 : decode prog_30_method_30_code 30 = .ok (.iload_n 2, 1) := by decide +kernel
theorem d_Ar_rangeCheck_31 : decode prog_30_method_30_code 31 = .ok (.invokevirtual 54, 3) := by decide +kernel
theorem d_Ar_rangeCheck_34 : decode prog_30_method_30_code 34 = .ok (.ldc 59, 2) := by decide +kernel
theorem d_Ar_rangeCheck_36 : decode prog_30_method_30_code 36 = .ok (.invokevirtual 50, 3) := by decide +kernel
theorem d_Ar_rangeCheck_39 : decode prog_30_method_30_code 39 = .ok (.invokevirtual 61, 3) := by decide +kernel
theorem d_Ar_rangeCheck_42 : decode prog_30_method_30_code 42 = .ok (.invokespecial 65, 3) := by decide +kernel
theorem d_Ar_rangeCheck_45 : decode prog_30_method_30_code 45 = .ok (.athrow, 1) := by decide +kernel
theorem d_Ar_rangeCheck_46 : decode prog_30_method_30_code 46 = .ok (.iload_n 1, 1) := by decide +kernel
theorem d_Ar_rangeCheck_47 : decode prog_30_method_30_code 47 = .ok (.ifCond .ge 12, 3) := by decide +kernel
theorem d_Ar_rangeCheck_50 : decode prog_30_method_30_code 50 = .ok (.new 68, 3) := by decide +kernel
theorem d_Ar_rangeCheck_53 : decode prog_30_method_30_code 53 = .ok (.dup, 1) := by decide +kernel
theorem d_Ar_rangeCheck_54 : decode prog_30_method_30_code 54 = .ok (.iload_n 1, 1) := by decide +kernel
theorem d_Ar_rangeCheck_55 : decode prog_30_method_30_code 55 = .ok (.invokespecial 70, 3) := by decide +kernel
theorem d_Ar_rangeCheck_58 : decode prog_30_method_30_code 58 = .ok (.athrow, 1) := by decide +kernel
theorem d_Ar_rangeCheck_59 : decode prog_30_method_30_code 59 = .ok (.iload_n 2, 1) := by decide +kernel
theorem d_Ar_rangeCheck_60 : decode prog_30_method_30_code 60 = .ok (.iload_n 0, 1) := by decide +kernel
theorem d_Ar_rangeCheck_61 : decode prog_30_method_30_code 61 = .ok (.if_icmp .le 12, 3) := by decide +kernel
theorem d_Ar_rangeCheck_64 : decode prog_30_method_30_code 64 = .ok (.new 68, 3) := by decide +kernel
theorem d_Ar_rangeCheck_67 : decode prog_30_method_30_code 67 = .ok (.dup, 1) := by decide +kernel
theorem d_Ar_rangeCheck_68 : decode prog_30_method_30_code 68 = .ok (.iload_n 2, 1) := by decide +kernel
theorem d_Ar_rangeCheck_69 : decode prog_30_method_30_code 69 = .ok (.invokespecial 70, 3) := by decide +kernel
theorem d_Ar_rangeCheck_72 : decode prog_30_method_30_code 72 = .ok (.athrow, 1) := by decide +kernel
theorem d_Ar_rangeCheck_73 : decode prog_30_method_30_code 73 = .ok (.return_, 1) := by decide +kernel
theorem d_Ar_fill2_0 : decode prog_30_method_103_code 0 = .ok (.iconst 0, 1) := by decide +kernel
theorem d_Ar_fill2_1 : decode prog_30_method_103_code 1 = .ok (.istore_n 2, 1) := by decide +kernel
theorem d_Ar_fill2_2 : decode prog_30_method_103_code 2 = .ok (.aload_n 0, 1) := by decide +kernel
theorem d_Ar_fill2_3 : decode prog_30_method_103_code 3 = .ok (.arraylength, 1) := by decide +kernel
theorem d_Ar_fill2_4 : decode prog_30_method_103_code 4 = .ok (.istore_n 3, 1) := by decide +kernel
theorem d_Ar_fill2_5 : decode prog_30_method_103_code 5 = .ok (.iload_n 2, 1) := by decide +kernel
theorem d_Ar_fill2_6 : decode prog_30_method_103_code 6 = .ok (.iload_n 3, 1) := by decide +kernel
theorem d_Ar_fill2_7 : decode prog_30_method_103_code 7 = .ok (.if_icmp .ge 13, 3) := by decide +kernel
theorem d_Ar_fill2_10 : decode prog_30_method_103_code 10 = .ok (.aload_n 0, 1) := by decide +kernel
theorem d_Ar_fill2_11 : decode prog_30_method_103_code 11 = .ok (.iload_n 2, 1) := by decide +kernel
theorem d_Ar_fill2_12 : decode prog_30_method_103_code 12 = .ok (.iload_n 1, 1) := by decide +kernel
theorem d_Ar_fill2_13 : decode prog_30_method_103_code 13 = .ok (.iastore, 1) := by decide +kernel
theorem d_Ar_fill2_14 : decode prog_30_method_103_code 14 = .ok (.iinc 2 1, 3) := by decide +kernel
theorem d_Ar_fill2_17 : decode prog_30_method_103_code 17 = .ok (.goto (-12), 3) := by decide +kernel
theorem d_Ar_fill2_20 : decode prog_30_method_103_code 20 = .ok (.return_, 1) := by decide +kernel
theorem d_Ar_fill4_0 : decode prog_30_method_104_code 0 = .ok (.aload_n 0, 1) := by decide +kernel
theorem d_Ar_fill4_1 : decode prog_30_method_104_code 1 = .ok (.arraylength, 1) := by decide +kernel
theorem d_Ar_fill4_2 : decode prog_30_method_104_code 2 = .ok (.iload_n 1, 1) := by decide +kernel
theorem d_Ar_fill4_3 : decode prog_30_method_104_code 3 = .ok (.iload_n 2, 1) := by decide +kernel
theorem d_Ar_fill4_4 : decode prog_30_method_104_code 4 = .ok (.invokestatic 13, 3) := by decide +kernel
theorem d_Ar_fill4_7 : decode prog_30_method_104_code 7 = .ok (.iload_n 1, 1) := by decide +kernel
theorem d_Ar_fill4_8 : decode prog_30_method_104_code 8 = .ok (.istore 4, 2) := by decide +kernel
theorem d_Ar_fill4_10 : decode prog_30_method_104_code 10 = .ok (.iload 4, 2) := by decide +kernel
theorem d_Ar_fill4_12 : decode prog_30_method_104_code 12 = .ok (.iload_n 2, 1) := by decide +kernel
theorem d_Ar_fill4_13 : decode prog_30_method_104_code 13 = .ok (.if_icmp .ge 14, 3) := by decide +kernel
theorem d_Ar_fill4_16 : decode prog_30_method_104_code 16 = .ok (.aload_n 0, 1) := by decide +kernel
theorem d_Ar_fill4_17 : decode prog_30_method_104_code 17 = .ok (.iload 4, 2) := by decide +kernel
theorem d_Ar_fill4_19 : decode prog_30_method_104_code 19 = .ok (.iload_n 3, 1) := by decide +kernel
theorem d_Ar_fill4_20 : decode prog_30_method_104_code 20 = .ok (.iastore, 1) := by decide +kernel
theorem d_Ar_fill4_21 : decode prog_30_method_104_code 21 = .ok (.iinc 4 1, 3) := by decide +kernel
theorem d_Ar_fill4_24 : decode prog_30_method_104_code 24 = .ok (.goto (-14), 3) := by decide +kernel
theorem d_Ar_fill4_27 : decode prog_30_method_104_code 27 = .ok (.return_, 1) := by decide +kernel
theorem d_Na_setProduct_0 : decode prog_6_method_12_code 0 = .ok (.aload_n 1, 1) := by decide +kernel
theorem d_Na_setProduct_1 : decode prog_6_method_12_code 1 = .ok (.getfield 15, 3) := by decide +kernel
theorem d_Na_setProduct_4 : decode prog_6_method_12_code 4 = .ok (.aload_n 2, 1) := by decide +kernel
theorem d_Na_setProduct_5 : decode prog_6_method_12_code 5 = .ok (.getfield 15, 3) := by decide +kernel
theorem d_Na_setProduct_8 : decode prog_6_method_12_code 8 = .ok (.iadd, 1) := by decide +kernel
theorem d_Na_setProduct_9 : decode prog_6_method_12_code 9 = .ok (.bipush 32, 2) := by decide +kernel
theorem d_Na_setProduct_11 : decode prog_6_method_12_code 11 = .ok (.invokestatic 40, 3) := by decide +kernel
theorem d_Na_setProduct_14 : decode prog_6_method_12_code 14 = .ok (.istore_n 3, 1) := by decide +kernel
theorem d_Na_setProduct_15 : decode prog_6_method_12_code 15 = .ok (.aload_n 0, 1) := by decide +kernel
theorem d_Na_setProduct_16 : decode prog_6_method_12_code 16 = .ok (.getfield 9, 3) := by decide +kernel
theorem d_Na_setProduct_19 : decode prog_6_method_12_code 19 = .ok (.iconst 0, 1) := by decide +kernel
theorem d_Na_setProduct_20 : decode prog_6_method_12_code 20 = .ok (.iload_n 3, 1) := by decide +kernel
theorem d_Na_setProduct_21 : decode prog_6_method_12_code 21 = .ok (.iconst 0, 1) := by decide +kernel
theorem d_Na_setProduct_22 : decode prog_6_method_12_code 22 = .ok (.invokestatic 43, 3) := by decide +kernel
theorem d_Na_setProduct_25 : decode prog_6_method_12_code 25 = .ok (.iconst 0, 1) := by decide +kernel
theorem d_Na_setProduct_26 : decode prog_6_method_12_code 26 = .ok (.istore 4, 2) := by decide +kernel
theorem d_Na_setProduct_28 : decode prog_6_method_12_code 28 = .ok (.iload 4, 2) := by decide +kernel
theorem d_Na_setProduct_30 : decode prog_6_method_12_code 30 = .ok (.aload_n 1, 1) := by decide +kernel
theorem d_Na_setProduct_31 : decode prog_6_method_12_code 31 = .ok (.getfield 15, 3) := by decide +kernel
theorem d_Na_setProduct_34 : decode prog_6_method_12_code 34 = .ok (.if_icmp .ge 127, 3) := by decide +kernel
theorem d_Na_setProduct_37 : decode prog_6_method_12_code 37 = .ok (.aload_n 1, 1) := by decide +kernel
theorem d_Na_setProduct_38 : decode prog_6_method_12_code 38 = .ok (.getfield 9, 3) := by decide +kernel
theorem d_Na_setProduct_41 : decode prog_6_method_12_code 41 = .ok (.iload 4, 2) := by decide +kernel
theorem d_Na_setProduct_43 : decode prog_6_method_12_code 43 = .ok (.iaload, 1) := by decide +kernel
theorem d_Na_setProduct_44 : decode prog_6_method_12_code 44 = .ok (.i2l, 1) := by decide +kernel
theorem d_Na_setProduct_45 : decode prog_6_method_12_code 45 = .ok (.lstore 5, 2) := by decide +kernel
theorem d_Na_setProduct_47 : decode prog_6_method_12_code 47 = .ok (.lconst 0, 1) := by decide +kernel
theorem d_Na_setProduct_48 : decode prog_6_method_12_code 48 = .ok (.lstore 7, 2) := by decide +kernel
theorem d_Na_setProduct_50 : decode prog_6_method_12_code 50 = .ok (.iconst 0, 1) := by decide +kernel
theorem d_Na_setProduct_51 : decode prog_6_method_12_code 51 = .ok (.istore 9, 2) := by decide +kernel
theorem d_Na_setProduct_53 : decode prog_6_method_12_code 53 = .ok (.iload 9, 2) := by decide +kernel
theorem d_Na_setProduct_55 : decode prog_6_method_12_code 55 = .ok (.aload_n 2, 1) := by decide +kernel
theorem d_Na_setProduct_56 : decode prog_6_method_12_code 56 = .ok (.getfield 15, 3) := by decide +kernel
theorem d_Na_setProduct_59 : decode prog_6_method_12_code 59 = .ok (.if_icmp .ge 70, 3) := by decide +kernel
theorem d_Na_setProduct_62 : decode prog_6_method_12_code 62 = .ok (.iload 4, 2) := by decide +kernel
theorem d_Na_setProduct_64 : decode prog_6_method_12_code 64 = .ok (.iload 9, 2) := by decide +kernel
theorem d_Na_setProduct_66 : decode prog_6_method_12_code 66 = .ok (.iadd, 1) := by decide +kernel
theorem d_Na_setProduct_67 : decode prog_6_method_12_code 67 = .ok (.iload_n 3, 1) := by decide +kernel
theorem d_Na_setProduct_68 : decode prog_6_method_12_code 68 = .ok (.if_icmp .ge 61, 3) := by decide +kernel
theorem d_Na_setProduct_71 : decode prog_6_method_12_code 71 = .ok (.lload 7, 2) := by decide +kernel
theorem d_Na_setProduct_73 : decode prog_6_method_12_code 73 = .ok (.aload_n 0, 1) := by decide +kernel
theorem d_Na_setProduct_74 : decode prog_6_method_12_code 74 = .ok (.getfield 9, 3) := by decide +kernel
theorem d_Na_setProduct_77 : decode prog_6_method_12_code 77 = .ok (.iload 4, 2) := by decide +kernel
theorem d_Na_setProduct_79 : decode prog_6_method_12_code 79 = .ok (.iload 9, 2) := by decide +kernel
theorem d_Na_setProduct_81 : decode prog_6_method_12_code 81 = .ok (.iadd, 1) := by decide +kernel
theorem d_Na_setProduct_82 : decode prog_6_method_12_code 82 = .ok (.iaload, 1) := by decide +kernel
theorem d_Na_setProduct_83 : decode prog_6_method_12_code 83 = .ok (.i2l, 1) := by decide +kernel
theorem d_Na_setProduct_84 : decode prog_6_method_12_code 84 = .ok (.lload 5, 2) := by decide +kernel
theorem d_Na_setProduct_86 : decode prog_6_method_12_code 86 = .ok (.aload_n 2, 1) := by decide +kernel
theorem d_Na_setProduct_87 : decode prog_6_method_12_code 87 = .ok (.getfield 9, 3) := by decide +kernel
theorem d_Na_setProduct_90 : decode prog_6_method_12_code 90 = .ok (.iload 9, 2) := by decide +kernel
theorem d_Na_setProduct_92 : decode prog_6_method_12_code 92 = .ok (.iaload, 1) := by decide +kernel
theorem d_Na_setProduct_93 : decode prog_6_method_12_code 93 = .ok (.i2l, 1) := by decide +kernel
theorem d_Na_setProduct_94 : decode prog_6_method_12_code 94 = .ok (.lmul, 1) := by decide +kernel
theorem d_Na_setProduct_95 : decode prog_6_method_12_code 95 = .ok (.ladd, 1) := by decide +kernel
theorem d_Na_setProduct_96 : decode prog_6_method_12_code 96 = .ok (.ladd, 1) := by decide +kernel
theorem d_Na_setProduct_97 : decode prog_6_method_12_code 97 = .ok (.lstore 7, 2) := by decide +kernel
theorem d_Na_setProduct_99 : decode prog_6_method_12_code 99 = .ok (.aload_n 0, 1) := by decide +kernel
theorem d_Na_setProduct_100 : decode prog_6_method_12_code 100 = .ok (.getfield 9, 3) := by decide +kernel
theorem d_Na_setProduct_103 : decode prog_6_method_12_code 103 = .ok (.iload 4, 2) := by decide +kernel
theorem d_Na_setProduct_105 : decode prog_6_method_12_code 105 = .ok (.iload 9, 2) := by decide +kernel
theorem d_Na_setProduct_107 : decode prog_6_method_12_code 107 = .ok (.iadd, 1) := by decide +kernel
theorem d_Na_setProduct_108 : decode prog_6_method_12_code 108 = .ok (.lload 7, 2) := by decide +kernel
theorem d_Na_setProduct_110 : decode prog_6_method_12_code 110 = .ok (.ldc2_w 19, 3) := by decide +kernel
theorem d_Na_setProduct_113 : decode prog_6_method_12_code 113 = .ok (.land, 1) := by decide +kernel
theorem d_Na_setProduct_114 : decode prog_6_method_12_code 114 = .ok (.l2i, 1) := by decide +kernel
theorem d_Na_setProduct_115 : decode prog_6_method_12_code 115 = .ok (.iastore, 1) := by decide +kernel
theorem d_Na_setProduct_116 : decode prog_6_method_12_code 116 = .ok (.lload 7, 2) := by decide +kernel
theorem d_Na_setProduct_118 : decode prog_6_method_12_code 118 = .ok (.bipush 31, 2) := by decide +kernel
theorem d_Na_setProduct_120 : decode prog_6_method_12_code 120 = .ok (.lshr, 1) := by decide +kernel
theorem d_Na_setProduct_121 : decode prog_6_method_12_code 121 = .ok (.lstore 7, 2) := by decide +kernel
theorem d_Na_setProduct_123 : decode prog_6_method_12_code 123 = .ok (.iinc 9 1, 3) := by decide +kernel
theorem d_Na_setProduct_126 : decode prog_6_method_12_code 126 = .ok (.goto (-73), 3) := by decide +kernel
theorem d_Na_setProduct_129 : decode prog_6_method_12_code 129 = .ok (.iload 4, 2) := by decide +kernel
theorem d_Na_setProduct_131 : decode prog_6_method_12_code 131 = .ok (.aload_n 2, 1) := by decide +kernel
theorem d_Na_setProduct_132 : decode prog_6_method_12_code 132 = .ok (.getfield 15, 3) := by decide +kernel
theorem d_Na_setProduct_135 : decode prog_6_method_12_code 135 = .ok (.iadd, 1) := by decide +kernel
theorem d_Na_setProduct_136 : decode prog_6_method_12_code 136 = .ok (.iload_n 3, 1) := by decide +kernel
theorem d_Na_setProduct_137 : decode prog_6_method_12_code 137 = .ok (.if_icmp .ge 18, 3) := by decide +kernel
theorem d_Na_setProduct_140 : decode prog_6_method_12_code 140 = .ok (.aload_n 0, 1) := by decide +kernel
theorem d_Na_setProduct_141 : decode prog_6_method_12_code 141 = .ok (.getfield 9, 3) := by decide +kernel
theorem d_Na_setProduct_144 : decode prog_6_method_12_code 144 = .ok (.iload 4, 2) := by decide +kernel
theorem d_Na_setProduct_146 : decode prog_6_method_12_code 146 = .ok (.aload_n 2, 1) := by decide +kernel
theorem d_Na_setProduct_147 : decode prog_6_method_12_code 147 = .ok (.getfield 15, 3) := by decide +kernel
theorem d_Na_setProduct_150 : decode prog_6_method_12_code 150 = .ok (.iadd, 1) := by decide +kernel
theorem d_Na_setProduct_151 : decode prog_6_method_12_code 151 = .ok (.lload 7, 2) := by decide +kernel
theorem d_Na_setProduct_153 : decode prog_6_method_12_code 153 = .ok (.l2i, 1) := by decide +kernel
theorem d_Na_setProduct_154 : decode prog_6_method_12_code 154 = .ok (.iastore, 1) := by decide +kernel
theorem d_Na_setProduct_155 : decode prog_6_method_12_code 155 = .ok (.iinc 4 1, 3) := by decide +kernel
theorem d_Na_setProduct_158 : decode prog_6_method_12_code 158 = .ok (.goto (-130), 3) := by decide +kernel
theorem d_Na_setProduct_161 : decode prog_6_method_12_code 161 = .ok (.aload_n 0, 1) := by decide +kernel
theorem d_Na_setProduct_162 : decode prog_6_method_12_code 162 = .ok (.iload_n 3, 1) := by decide +kernel
theorem d_Na_setProduct_163 : decode prog_6_method_12_code 163 = .ok (.putfield 15, 3) := by decide +kernel
theorem d_Na_setProduct_166 : decode prog_6_method_12_code 166 = .ok (.aload_n 0, 1) := by decide +kernel
theorem d_Na_setProduct_167 : decode prog_6_method_12_code 167 = .ok (.invokevirtual 37, 3) := by decide +kernel
theorem d_Na_setProduct_170 : decode prog_6_method_12_code 170 = .ok (.return_, 1) := by decide +kernel
theorem d_Na_divideBy_0 : decode prog_6_method_14_code 0 = .ok (.aload_n 2, 1) := by decide +kernel
theorem d_Na_divideBy_1 : decode prog_6_method_14_code 1 = .ok (.iconst 0, 1) := by decide +kernel
theorem d_Na_divideBy_2 : decode prog_6_method_14_code 2 = .ok (.putfield 15, 3) := by decide +kernel
theorem d_Na_divideBy_5 : decode prog_6_method_14_code 5 = .ok (.aload_n 1, 1) := by decide +kernel
theorem d_Na_divideBy_6 : decode prog_6_method_14_code 6 = .ok (.getfield 15, 3) := by decide +kernel
theorem d_Na_divideBy_9 : decode prog_6_method_14_code 9 = .ok (.ifCond .eq 11, 3) := by decide +kernel
theorem d_Na_divideBy_12 : decode prog_6_method_14_code 12 = .ok (.aload_n 0, 1) := by decide +kernel
theorem d_Na_divideBy_13 : decode prog_6_method_14_code 13 = .ok (.aload_n 1, 1) := by decide +kernel
theorem d_Na_divideBy_14 : decode prog_6_method_14_code 14 = .ok (.invokevirtual 49, 3) := by decide +kernel
theorem d_Na_divideBy_17 : decode prog_6_method_14_code 17 = .ok (.ifCond .ge 4, 3) := by decide +kernel
theorem d_Na_divideBy_20 : decode prog_6_method_14_code 20 = .ok (.return_, 1) := by decide +kernel
theorem d_Na_divideBy_21 : decode prog_6_method_14_code 21 = .ok (.aload_n 1, 1) := by decide +kernel
theorem d_Na_divideBy_22 : decode prog_6_method_14_code 22 = .ok (.getfield 15, 3) := by decide +kernel
theorem d_Na_divideBy_25 : decode prog_6_method_14_code 25 = .ok (.iconst 1, 1) := by decide +kernel
theorem d_Na_divideBy_26 : decode prog_6_method_14_code 26 = .ok (.if_icmp .ne 24, 3) := by decide +kernel
theorem d_Na_divideBy_29 : decode prog_6_method_14_code 29 = .ok (.aload_n 2, 1) := by decide +kernel
theorem d_Na_divideBy_30 : decode prog_6_method_14_code 30 = .ok (.aload_n 0, 1) := by decide +kernel
theorem d_Na_divideBy_31 : decode prog_6_method_14_code 31 = .ok (.invokevirtual 53, 3) := by decide +kernel
theorem d_Na_divideBy_34 : decode prog_6_method_14_code 34 = .ok (.aload_n 0, 1) := by decide +kernel
theorem d_Na_divideBy_35 : decode prog_6_method_14_code 35 = .ok (.aload_n 2, 1) := by decide +kernel
theorem d_Na_divideBy_36 : decode prog_6_method_14_code 36 = .ok (.aload_n 1, 1) := by decide +kernel
theorem d_Na_divideBy_37 : decode prog_6_method_14_code 37 = .ok (.getfield 9, 3) := by decide +kernel
theorem d_Na_divideBy_40 : decode prog_6_method_14_code 40 = .ok (.iconst 0, 1) := by decide +kernel
theorem d_Na_divideBy_41 : decode prog_6_method_14_code 41 = .ok (.iaload, 1) := by decide +kernel
theorem d_Na_divideBy_42 : decode prog_6_method_14_code 42 = .ok (.invokevirtual 57, 3) := by decide +kernel
theorem d_Na_divideBy_45 : decode prog_6_method_14_code 45 = .ok (.i2l, 1) := by decide +kernel
theorem d_Na_divideBy_46 : decode prog_6_method_14_code 46 = .ok (.invokevirtual 61, 3) := by decide +kernel
theorem d_Na_divideBy_49 : decode prog_6_method_14_code 49 = .ok (.return_, 1) := by decide +kernel
theorem d_Na_divideBy_50 : decode prog_6_method_14_code 50 = .ok (.aload_n 1, 1) := by decide +kernel
theorem d_Na_divideBy_51 : decode prog_6_method_14_code 51 = .ok (.invokevirtual 64, 3) := by decide +kernel
theorem d_Na_divideBy_54 : decode prog_6_method_14_code 54 = .ok (.istore 4, 2) := by decide +kernel
theorem d_Na_divideBy_56 : decode prog_6_method_14_code 56 = .ok (.aload_n 3, 1) := by decide +kernel
theorem d_Na_divideBy_57 : decode prog_6_method_14_code 57 = .ok (.aload_n 1, 1) := by decide +kernel
theorem d_Na_divideBy_58 : decode prog_6_method_14_code 58 = .ok (.invokevirtual 53, 3) := by decide +kernel
theorem d_Na_divideBy_61 : decode prog_6_method_14_code 61 = .ok (.aload_n 3, 1) := by decide +kernel
theorem d_Na_divideBy_62 : decode prog_6_method_14_code 62 = .ok (.iload 4, 2) := by decide +kernel
theorem d_Na_divideBy_64 : decode prog_6_method_14_code 64 = .ok (.invokevirtual 68, 3) := by decide +kernel
theorem d_Na_divideBy_67 : decode prog_6_method_14_code 67 = .ok (.aload_n 0, 1) := by decide +kernel
theorem d_Na_divideBy_68 : decode prog_6_method_14_code 68 = .ok (.iload 4, 2) := by decide +kernel
theorem d_Na_divideBy_70 : decode prog_6_method_14_code 70 = .ok (.invokevirtual 68, 3) := by decide +kernel
theorem d_Na_divideBy_73 : decode prog_6_method_14_code 73 = .ok (.aload_n 0, 1) := by decide +kernel
theorem d_Na_divideBy_74 : decode prog_6_method_14_code 74 = .ok (.getfield 15, 3) := by decide +kernel
theorem d_Na_divideBy_77 : decode prog_6_method_14_code 77 = .ok (.aload_n 3, 1) := by decide +kernel
theorem d_Na_divideBy_78 : decode prog_6_method_14_code 78 = .ok (.getfield 15, 3) := by decide +kernel
theorem d_Na_divideBy_81 : decode prog_6_method_14_code 81 = .ok (.isub, 1) := by decide +kernel
theorem d_Na_divideBy_82 : decode prog_6_method_14_code 82 = .ok (.istore 5, 2) := by decide +kernel
theorem d_Na_divideBy_84 : decode prog_6_method_14_code 84 = .ok (.iload 5, 2) := by decide +kernel
theorem d_Na_divideBy_86 : decode prog_6_method_14_code 86 = .ok (.ifCond .lt 12, 3) := by decide +kernel
theorem d_Na_divideBy_89 : decode prog_6_method_14_code 89 = .ok (.aload_n 0, 1) := by decide +kernel
theorem d_Na_divideBy_90 : decode prog_6_method_14_code 90 = .ok (.getfield 15, 3) := by decide +kernel
theorem d_Na_divideBy_93 : decode prog_6_method_14_code 93 = .ok (.bipush 32, 2) := by decide +kernel
theorem d_Na_divideBy_95 : decode prog_6_method_14_code 95 = .ok (.if_icmp .lt 4, 3) := by decide +kernel
theorem d_Na_divideBy_98 : decode prog_6_method_14_code 98 = .ok (.return_, 1) := by decide +kernel
theorem d_Na_divideBy_99 : decode prog_6_method_14_code 99 = .ok (.aload_n 0, 1) := by decide +kernel
theorem d_Na_divideBy_100 : decode prog_6_method_14_code 100 = .ok (.getfield 9, 3) := by decide +kernel
theorem d_Na_divideBy_103 : decode prog_6_method_14_code 103 = .ok (.aload_n 0, 1) := by decide +kernel
theorem d_Na_divideBy_104 : decode prog_6_method_14_code 104 = .ok (.getfield 15, 3) := by decide +kernel
theorem d_Na_divideBy_107 : decode prog_6_method_14_code 107 = .ok (.iconst 0, 1) := by decide +kernel
theorem d_Na_divideBy_108 : decode prog_6_method_14_code 108 = .ok (.iastore, 1) := by decide +kernel
theorem d_Na_divideBy_109 : decode prog_6_method_14_code 109 = .ok (.iload 5, 2) := by decide +kernel
theorem d_Na_divideBy_111 : decode prog_6_method_14_code 111 = .ok (.istore 6, 2) := by decide +kernel
theorem d_Na_divideBy_113 : decode prog_6_method_14_code 113 = .ok (.iload 6, 2) := by decide +kernel
theorem d_Na_divideBy_115 : decode prog_6_method_14_code 115 = .ok (.ifCond .lt 24, 3) := by decide +kernel
theorem d_Na_divideBy_118 : decode prog_6_method_14_code 118 = .ok (.aload_n 2, 1) := by decide +kernel
theorem d_Na_divideBy_119 : decode prog_6_method_14_code 119 = .ok (.getfield 9, 3) := by decide +kernel
theorem d_Na_divideBy_122 : decode prog_6_method_14_code 122 = .ok (.iload 6, 2) := by decide +kernel
theorem d_Na_divideBy_124 : decode prog_6_method_14_code 124 = .ok (.aload_n 0, 1) := by decide +kernel
theorem d_Na_divideBy_125 : decode prog_6_method_14_code 125 = .ok (.aload_n 3, 1) := by decide +kernel
theorem d_Na_divideBy_126 : decode prog_6_method_14_code 126 = .ok (.iload 6, 2) := by decide +kernel
theorem d_Na_divideBy_128 : decode prog_6_method_14_code 128 = .ok (.invokevirtual 72, 3) := by decide +kernel
theorem d_Na_divideBy_131 : decode prog_6_method_14_code 131 = .ok (.l2i, 1) := by decide +kernel
theorem d_Na_divideBy_132 : decode prog_6_method_14_code 132 = .ok (.iastore, 1) := by decide +kernel
theorem d_Na_divideBy_133 : decode prog_6_method_14_code 133 = .ok (.iinc 6 (-1), 3) := by decide +kernel
theorem d_Na_divideBy_136 : decode prog_6_method_14_code 136 = .ok (.goto (-23), 3) := by decide +kernel
theorem d_Na_divideBy_139 : decode prog_6_method_14_code 139 = .ok (.aload_n 2, 1) := by decide +kernel
theorem d_Na_divideBy_140 : decode prog_6_method_14_code 140 = .ok (.iload 5, 2) := by decide +kernel
theorem d_Na_divideBy_142 : decode prog_6_method_14_code 142 = .ok (.iconst 1, 1) := by decide +kernel
theorem d_Na_divideBy_143 : decode prog_6_method_14_code 143 = .ok (.iadd, 1) := by decide +kernel
theorem d_Na_divideBy_144 : decode prog_6_method_14_code 144 = .ok (.putfield 15, 3) := by decide +kernel
theorem d_Na_divideBy_147 : decode prog_6_method_14_code 147 = .ok (.aload_n 2, 1) := by decide +kernel
theorem d_Na_divideBy_148 : decode prog_6_method_14_code 148 = .ok (.invokevirtual 37, 3) := by decide +kernel
theorem d_Na_divideBy_151 : decode prog_6_method_14_code 151 = .ok (.aload_n 0, 1) := by decide +kernel
theorem d_Na_divideBy_152 : decode prog_6_method_14_code 152 = .ok (.aload_n 3, 1) := by decide +kernel
theorem d_Na_divideBy_153 : decode prog_6_method_14_code 153 = .ok (.getfield 15, 3) := by decide +kernel
theorem d_Na_divideBy_156 : decode prog_6_method_14_code 156 = .ok (.putfield 15, 3) := by decide +kernel
theorem d_Na_divideBy_159 : decode prog_6_method_14_code 159 = .ok (.aload_n 0, 1) := by decide +kernel
theorem d_Na_divideBy_160 : decode prog_6_method_14_code 160 = .ok (.invokevirtual 37, 3) := by decide +kernel
theorem d_Na_divideBy_163 : decode prog_6_method_14_code 163 = .ok (.aload_n 0, 1) := by decide +kernel
theorem d_Na_divideBy_164 : decode prog_6_method_14_code 164 = .ok (.iload 4, 2) := by decide +kernel
theorem d_Na_divideBy_166 : decode prog_6_method_14_code 166 = .ok (.invokevirtual 76, 3) := by decide +kernel
theorem d_Na_divideBy_169 : decode prog_6_method_14_code 169 = .ok (.return_, 1) := by decide +kernel
theorem d_Na_takeMultiple_0 : decode prog_6_method_15_code 0 = .ok (.iload_n 2, 1) := by decide +kernel
theorem d_Na_takeMultiple_1 : decode prog_6_method_15_code 1 = .ok (.aload_n 1, 1) := by decide +kernel
theorem d_Na_takeMultiple_2 : decode prog_6_method_15_code 2 = .ok (.getfield 15, 3) := by decide +kernel
theorem d_Na_takeMultiple_5 : decode prog_6_method_15_code 5 = .ok (.iadd, 1) := by decide +kernel
theorem d_Na_takeMultiple_6 : decode prog_6_method_15_code 6 = .ok (.istore_n 3, 1) := by decide +kernel
theorem d_Na_takeMultiple_7 : decode prog_6_method_15_code 7 = .ok (.iload_n 2, 1) := by decide +kernel
theorem d_Na_takeMultiple_8 : decode prog_6_method_15_code 8 = .ok (.ifCond .lt 31, 3) := by decide +kernel
theorem d_Na_takeMultiple_11 : decode prog_6_method_15_code 11 = .ok (.aload_n 1, 1) := by decide +kernel
theorem d_Na_takeMultiple_12 : decode prog_6_method_15_code 12 = .ok (.getfield 15, 3) := by decide +kernel
theorem d_Na_takeMultiple_15 : decode prog_6_method_15_code 15 = .ok (.iconst 2, 1) := by decide +kernel
theorem d_Na_takeMultiple_16 : decode prog_6_method_15_code 16 = .ok (.if_icmp .lt 23, 3) := by decide +kernel
theorem d_Na_takeMultiple_19 : decode prog_6_method_15_code 19 = .ok (.iload_n 3, 1) := by decide +kernel
theorem d_Na_takeMultiple_20 : decode prog_6_method_15_code 20 = .ok (.bipush 32, 2) := by decide +kernel
theorem d_Na_takeMultiple_22 : decode prog_6_method_15_code 22 = .ok (.if_icmp .ge 17, 3) := by decide +kernel
theorem d_Na_takeMultiple_25 : decode prog_6_method_15_code 25 = .ok (.aload_n 1, 1) := by decide +kernel
theorem d_Na_takeMultiple_26 : decode prog_6_method_15_code 26 = .ok (.getfield 9, 3) := by decide +kernel
theorem d_Na_takeMultiple_29 : decode prog_6_method_15_code 29 = .ok (.aload_n 1, 1) := by decide +kernel
theorem d_Na_takeMultiple_30 : decode prog_6_method_15_code 30 = .ok (.getfield 15, 3) := by decide +kernel
theorem d_Na_takeMultiple_33 : decode prog_6_method_15_code 33 = .ok (.iconst 1, 1) := by decide +kernel
theorem d_Na_takeMultiple_34 : decode prog_6_method_15_code 34 = .ok (.isub, 1) := by decide +kernel
theorem d_Na_takeMultiple_35 : decode prog_6_method_15_code 35 = .ok (.iaload, 1) := by decide +kernel
theorem d_Na_takeMultiple_36 : decode prog_6_method_15_code 36 = .ok (.ifCond .ne 5, 3) := by decide +kernel
theorem d_Na_takeMultiple_39 : decode prog_6_method_15_code 39 = .ok (.lconst 0, 1) := by decide +kernel
theorem d_Na_takeMultiple_40 : decode prog_6_method_15_code 40 = .ok (.lreturn, 1) := by decide +kernel
theorem d_Na_takeMultiple_41 : decode prog_6_method_15_code 41 = .ok (.aload_n 0, 1) := by decide +kernel
theorem d_Na_takeMultiple_42 : decode prog_6_method_15_code 42 = .ok (.aload_n 1, 1) := by decide +kernel
theorem d_Na_takeMultiple_43 : decode prog_6_method_15_code 43 = .ok (.iload_n 3, 1) := by decide +kernel
theorem d_Na_takeMultiple_44 : decode prog_6_method_15_code 44 = .ok (.invokevirtual 79, 3) := by decide +kernel
theorem d_Na_takeMultiple_47 : decode prog_6_method_15_code 47 = .ok (.lstore 4, 2) := by decide +kernel
theorem d_Na_takeMultiple_49 : decode prog_6_method_15_code 49 = .ok (.lconst 0, 1) := by decide +kernel
theorem d_Na_takeMultiple_50 : decode prog_6_method_15_code 50 = .ok (.lstore 6, 2) := by decide +kernel
theorem d_Na_takeMultiple_52 : decode prog_6_method_15_code 52 = .ok (.iconst 0, 1) := by decide +kernel
theorem d_Na_takeMultiple_53 : decode prog_6_method_15_code 53 = .ok (.istore 8, 2) := by decide +kernel
theorem d_Na_takeMultiple_55 : decode prog_6_method_15_code 55 = .ok (.iload 8, 2) := by decide +kernel
theorem d_Na_takeMultiple_57 : decode prog_6_method_15_code 57 = .ok (.aload_n 1, 1) := by decide +kernel
theorem d_Na_takeMultiple_58 : decode prog_6_method_15_code 58 = .ok (.getfield 15, 3) := by decide +kernel
theorem d_Na_takeMultiple_61 : decode prog_6_method_15_code 61 = .ok (.if_icmp .ge 81, 3) := by decide +kernel
theorem d_Na_takeMultiple_64 : decode prog_6_method_15_code 64 = .ok (.lload 6, 2) := by decide +kernel
theorem d_Na_takeMultiple_66 : decode prog_6_method_15_code 66 = .ok (.lload 4, 2) := by decide +kernel
theorem d_Na_takeMultiple_68 : decode prog_6_method_15_code 68 = .ok (.aload_n 1, 1) := by decide +kernel
theorem d_Na_takeMultiple_69 : decode prog_6_method_15_code 69 = .ok (.getfield 9, 3) := by decide +kernel
theorem d_Na_takeMultiple_72 : decode prog_6_method_15_code 72 = .ok (.iload 8, 2) := by decide +kernel
theorem d_Na_takeMultiple_74 : decode prog_6_method_15_code 74 = .ok (.iaload, 1) := by decide +kernel
theorem d_Na_takeMultiple_75 : decode prog_6_method_15_code 75 = .ok (.i2l, 1) := by decide +kernel
theorem d_Na_takeMultiple_76 : decode prog_6_method_15_code 76 = .ok (.lmul, 1) := by decide +kernel
theorem d_Na_takeMultiple_77 : decode prog_6_method_15_code 77 = .ok (.ladd, 1) := by decide +kernel
theorem d_Na_takeMultiple_78 : decode prog_6_method_15_code 78 = .ok (.lstore 6, 2) := by decide +kernel
theorem d_Na_takeMultiple_80 : decode prog_6_method_15_code 80 = .ok (.aload_n 0, 1) := by decide +kernel
theorem d_Na_takeMultiple_81 : decode prog_6_method_15_code 81 = .ok (.getfield 9, 3) := by decide +kernel
theorem d_Na_takeMultiple_84 : decode prog_6_method_15_code 84 = .ok (.iload_n 2, 1) := by decide +kernel
theorem d_Na_takeMultiple_85 : decode prog_6_method_15_code 85 = .ok (.iload 8, 2) := by decide +kernel
theorem d_Na_takeMultiple_87 : decode prog_6_method_15_code 87 = .ok (.iadd, 1) := by decide +kernel
theorem d_Na_takeMultiple_88 : decode prog_6_method_15_code 88 = .ok (.iaload, 1) := by decide +kernel
theorem d_Na_takeMultiple_89 : decode prog_6_method_15_code 89 = .ok (.i2l, 1) := by decide +kernel
theorem d_Na_takeMultiple_90 : decode prog_6_method_15_code 90 = .ok (.lload 6, 2) := by decide +kernel
theorem d_Na_takeMultiple_92 : decode prog_6_method_15_code 92 = .ok (.ldc2_w 19, 3) := by decide +kernel
theorem d_Na_takeMultiple_95 : decode prog_6_method_15_code 95 = .ok (.land, 1) := by decide +kernel
theorem d_Na_takeMultiple_96 : decode prog_6_method_15_code 96 = .ok (.lsub, 1) := by decide +kernel
theorem d_Na_takeMultiple_97 : decode prog_6_method_15_code 97 = .ok (.lstore 9, 2) := by decide +kernel
theorem d_Na_takeMultiple_99 : decode prog_6_method_15_code 99 = .ok (.aload_n 0, 1) := by decide +kernel
theorem d_Na_takeMultiple_100 : decode prog_6_method_15_code 100 = .ok (.getfield 9, 3) := by decide +kernel
theorem d_Na_takeMultiple_103 : decode prog_6_method_15_code 103 = .ok (.iload_n 2, 1) := by decide +kernel
theorem d_Na_takeMultiple_104 : decode prog_6_method_15_code 104 = .ok (.iload 8, 2) := by decide +kernel
theorem d_Na_takeMultiple_106 : decode prog_6_method_15_code 106 = .ok (.iadd, 1) := by decide +kernel
theorem d_Na_takeMultiple_107 : decode prog_6_method_15_code 107 = .ok (.lload 9, 2) := by decide +kernel
theorem d_Na_takeMultiple_109 : decode prog_6_method_15_code 109 = .ok (.ldc2_w 19, 3) := by decide +kernel
theorem d_Na_takeMultiple_112 : decode prog_6_method_15_code 112 = .ok (.land, 1) := by decide +kernel
theorem d_Na_takeMultiple_113 : decode prog_6_method_15_code 113 = .ok (.l2i, 1) := by decide +kernel
theorem d_Na_takeMultiple_114 : decode prog_6_method_15_code 114 = .ok (.iastore, 1) := by decide +kernel
theorem d_Na_takeMultiple_115 : decode prog_6_method_15_code 115 = .ok (.lload 6, 2) := by decide +kernel
theorem d_Na_takeMultiple_117 : decode prog_6_method_15_code 117 = .ok (.bipush 31, 2) := by decide +kernel
theorem d_Na_takeMultiple_119 : decode prog_6_method_15_code 119 = .ok (.lshr, 1) := by decide +kernel
theorem d_Na_takeMultiple_120 : decode prog_6_method_15_code 120 = .ok (.lload 9, 2) := by decide +kernel
theorem d_Na_takeMultiple_122 : decode prog_6_method_15_code 122 = .ok (.lconst 0, 1) := by decide +kernel
theorem d_Na_takeMultiple_123 : decode prog_6_method_15_code 123 = .ok (.lcmp, 1) := by decide +kernel
theorem d_Na_takeMultiple_124 : decode prog_6_method_15_code 124 = .ok (.ifCond .ge 7, 3) := by decide +kernel
theorem d_Na_takeMultiple_127 : decode prog_6_method_15_code 127 = .ok (.iconst 1, 1) := by decide +kernel
theorem d_Na_takeMultiple_128 : decode prog_6_method_15_code 128 = .ok (.goto 4, 3) := by decide +kernel
theorem d_Na_takeMultiple_131 : decode prog_6_method_15_code 131 = .ok (.iconst 0, 1) := by decide +kernel
theorem d_Na_takeMultiple_132 : decode prog_6_method_15_code 132 = .ok (.i2l, 1) := by decide +kernel
theorem d_Na_takeMultiple_133 : decode prog_6_method_15_code 133 = .ok (.ladd, 1) := by decide +kernel
theorem d_Na_takeMultiple_134 : decode prog_6_method_15_code 134 = .ok (.lstore 6, 2) := by decide +kernel
theorem d_Na_takeMultiple_136 : decode prog_6_method_15_code 136 = .ok (.iinc 8 1, 3) := by decide +kernel
theorem d_Na_takeMultiple_139 : decode prog_6_method_15_code 139 = .ok (.goto (-84), 3) := by decide +kernel
theorem d_Na_takeMultiple_142 : decode prog_6_method_15_code 142 = .ok (.aload_n 0, 1) := by decide +kernel
theorem d_Na_takeMultiple_143 : decode prog_6_method_15_code 143 = .ok (.getfield 9, 3) := by decide +kernel
theorem d_Na_takeMultiple_146 : decode prog_6_method_15_code 146 = .ok (.iload_n 3, 1) := by decide +kernel
theorem d_Na_takeMultiple_147 : decode prog_6_method_15_code 147 = .ok (.iaload, 1) := by decide +kernel
theorem d_Na_takeMultiple_148 : decode prog_6_method_15_code 148 = .ok (.i2l, 1) := by decide +kernel
theorem d_Na_takeMultiple_149 : decode prog_6_method_15_code 149 = .ok (.lload 6, 2) := by decide +kernel
theorem d_Na_takeMultiple_151 : decode prog_6_method_15_code 151 = .ok (.lsub, 1) := by decide +kernel
theorem d_Na_takeMultiple_152 : decode prog_6_method_15_code 152 = .ok (.lstore 8, 2) := by decide +kernel
theorem d_Na_takeMultiple_154 : decode prog_6_method_15_code 154 = .ok (.lload 8, 2) := by decide +kernel
theorem d_Na_takeMultiple_156 : decode prog_6_method_15_code 156 = .ok (.lconst 0, 1) := by decide +kernel
theorem d_Na_takeMultiple_157 : decode prog_6_method_15_code 157 = .ok (.lcmp, 1) := by decide +kernel
theorem d_Na_takeMultiple_158 : decode prog_6_method_15_code 158 = .ok (.ifCond .ge 84, 3) := by decide +kernel
theorem d_Na_takeMultiple_161 : decode prog_6_method_15_code 161 = .ok (.lload 4, 2) := by decide +kernel
theorem d_Na_takeMultiple_163 : decode prog_6_method_15_code 163 = .ok (.lconst 1, 1) := by decide +kernel
theorem d_Na_takeMultiple_164 : decode prog_6_method_15_code 164 = .ok (.lsub, 1) := by decide +kernel
theorem d_Na_takeMultiple_165 : decode prog_6_method_15_code 165 = .ok (.lstore 4, 2) := by decide +kernel
theorem d_Na_takeMultiple_167 : decode prog_6_method_15_code 167 = .ok (.lconst 0, 1) := by decide +kernel
theorem d_Na_takeMultiple_168 : decode prog_6_method_15_code 168 = .ok (.lstore 6, 2) := by decide +kernel
theorem d_Na_takeMultiple_170 : decode prog_6_method_15_code 170 = .ok (.iconst 0, 1) := by decide +kernel
theorem d_Na_takeMultiple_171 : decode prog_6_method_15_code 171 = .ok (.istore 10, 2) := by decide +kernel
theorem d_Na_takeMultiple_173 : decode prog_6_method_15_code 173 = .ok (.iload 10, 2) := by decide +kernel
theorem d_Na_takeMultiple_175 : decode prog_6_method_15_code 175 = .ok (.aload_n 1, 1) := by decide +kernel
theorem d_Na_takeMultiple_176 : decode prog_6_method_15_code 176 = .ok (.getfield 15, 3) := by decide +kernel
theorem d_Na_takeMultiple_179 : decode prog_6_method_15_code 179 = .ok (.if_icmp .ge 56, 3) := by decide +kernel
theorem d_Na_takeMultiple_182 : decode prog_6_method_15_code 182 = .ok (.lload 6, 2) := by decide +kernel
theorem d_Na_takeMultiple_184 : decode prog_6_method_15_code 184 = .ok (.aload_n 0, 1) := by decide +kernel
theorem d_Na_takeMultiple_185 : decode prog_6_method_15_code 185 = .ok (.getfield 9, 3) := by decide +kernel
theorem d_Na_takeMultiple_188 : decode prog_6_method_15_code 188 = .ok (.iload_n 2, 1) := by decide +kernel
theorem d_Na_takeMultiple_189 : decode prog_6_method_15_code 189 = .ok (.iload 10, 2) := by decide +kernel
theorem d_Na_takeMultiple_191 : decode prog_6_method_15_code 191 = .ok (.iadd, 1) := by decide +kernel
theorem d_Na_takeMultiple_192 : decode prog_6_method_15_code 192 = .ok (.iaload, 1) := by decide +kernel
theorem d_Na_takeMultiple_193 : decode prog_6_method_15_code 193 = .ok (.i2l, 1) := by decide +kernel
theorem d_Na_takeMultiple_194 : decode prog_6_method_15_code 194 = .ok (.aload_n 1, 1) := by decide +kernel
theorem d_Na_takeMultiple_195 : decode prog_6_method_15_code 195 = .ok (.getfield 9, 3) := by decide +kernel
theorem d_Na_takeMultiple_198 : decode prog_6_method_15_code 198 = .ok (.iload 10, 2) := by decide +kernel
theorem d_Na_takeMultiple_200 : decode prog_6_method_15_code 200 = .ok (.iaload, 1) := by decide +kernel
theorem d_Na_takeMultiple_201 : decode prog_6_method_15_code 201 = .ok (.i2l, 1) := by decide +kernel
theorem d_Na_takeMultiple_202 : decode prog_6_method_15_code 202 = .ok (.ladd, 1) := by decide +kernel
theorem d_Na_takeMultiple_203 : decode prog_6_method_15_code 203 = .ok (.ladd, 1) := by decide +kernel
theorem d_Na_takeMultiple_204 : decode prog_6_method_15_code 204 = .ok (.lstore 6, 2) := by decide +kernel
theorem d_Na_takeMultiple_206 : decode prog_6_method_15_code 206 = .ok (.aload_n 0, 1) := by decide +kernel
theorem d_Na_takeMultiple_207 : decode prog_6_method_15_code 207 = .ok (.getfield 9, 3) := by decide +kernel
theorem d_Na_takeMultiple_210 : decode prog_6_method_15_code 210 = .ok (.iload_n 2, 1) := by decide +kernel
theorem d_Na_takeMultiple_211 : decode prog_6_method_15_code 211 = .ok (.iload 10, 2) := by decide +kernel
theorem d_Na_takeMultiple_213 : decode prog_6_method_15_code 213 = .ok (.iadd, 1) := by decide +kernel
theorem d_Na_takeMultiple_214 : decode prog_6_method_15_code 214 = .ok (.lload 6, 2) := by decide +kernel
theorem d_Na_takeMultiple_216 : decode prog_6_method_15_code 216 = .ok (.ldc2_w 19, 3) := by decide +kernel
theorem d_Na_takeMultiple_219 : decode prog_6_method_15_code 219 = .ok (.land, 1) := by decide +kernel
theorem d_Na_takeMultiple_220 : decode prog_6_method_15_code 220 = .ok (.l2i, 1) := by decide +kernel
theorem d_Na_takeMultiple_221 : decode prog_6_method_15_code 221 = .ok (.iastore, 1) := by decide +kernel
theorem d_Na_takeMultiple_222 : decode prog_6_method_15_code 222 = .ok (.lload 6, 2) := by decide +kernel
theorem d_Na_takeMultiple_224 : decode prog_6_method_15_code 224 = .ok (.bipush 31, 2) := by decide +kernel
theorem d_Na_takeMultiple_226 : decode prog_6_method_15_code 226 = .ok (.lshr, 1) := by decide +kernel
theorem d_Na_takeMultiple_227 : decode prog_6_method_15_code 227 = .ok (.lstore 6, 2) := by decide +kernel
theorem d_Na_takeMultiple_229 : decode prog_6_method_15_code 229 = .ok (.iinc 10 1, 3) := by decide +kernel
theorem d_Na_takeMultiple_232 : decode prog_6_method_15_code 232 = .ok (.goto (-59), 3) := by decide +kernel
theorem d_Na_takeMultiple_235 : decode prog_6_method_15_code 235 = .ok (.lload 8, 2) := by decide +kernel
theorem d_Na_takeMultiple_237 : decode prog_6_method_15_code 237 = .ok (.lload 6, 2) := by decide +kernel
theorem d_Na_takeMultiple_239 : decode prog_6_method_15_code 239 = .ok (.ladd, 1) := by decide +kernel
theorem d_Na_takeMultiple_240 : decode prog_6_method_15_code 240 = .ok (.lstore 8, 2) := by decide +kernel
theorem d_Na_takeMultiple_242 : decode prog_6_method_15_code 242 = .ok (.aload_n 0, 1) := by decide +kernel
theorem d_Na_takeMultiple_243 : decode prog_6_method_15_code 243 = .ok (.getfield 9, 3) := by decide +kernel
theorem d_Na_takeMultiple_246 : decode prog_6_method_15_code 246 = .ok (.iload_n 3, 1) := by decide +kernel
theorem d_Na_takeMultiple_247 : decode prog_6_method_15_code 247 = .ok (.lload 8, 2) := by decide +kernel
theorem d_Na_takeMultiple_249 : decode prog_6_method_15_code 249 = .ok (.ldc2_w 19, 3) := by decide +kernel
theorem d_Na_takeMultiple_252 : decode prog_6_method_15_code 252 = .ok (.land, 1) := by decide +kernel
theorem d_Na_takeMultiple_253 : decode prog_6_method_15_code 253 = .ok (.l2i, 1) := by decide +kernel
theorem d_Na_takeMultiple_254 : decode prog_6_method_15_code 254 = .ok (.iastore, 1) := by decide +kernel
theorem d_Na_takeMultiple_255 : decode prog_6_method_15_code 255 = .ok (.lload 4, 2) := by decide +kernel
theorem d_Na_takeMultiple_257 : decode prog_6_method_15_code 257 = .ok (.lreturn, 1) := by decide +kernel
theorem d_Na_guessMultiple_0 : decode prog_6_method_16_code 0 = .ok (.aload_n 1, 1) := by decide +kernel
theorem d_Na_guessMultiple_1 : decode prog_6_method_16_code 1 = .ok (.getfield 15, 3) := by decide +kernel
theorem d_Na_guessMultiple_4 : decode prog_6_method_16_code 4 = .ok (.iconst 2, 1) := by decide +kernel
theorem d_Na_guessMultiple_5 : decode prog_6_method_16_code 5 = .ok (.if_icmp .lt 28, 3) := by decide +kernel
theorem d_Na_guessMultiple_8 : decode prog_6_method_16_code 8 = .ok (.iload_n 2, 1) := by decide +kernel
theorem d_Na_guessMultiple_9 : decode prog_6_method_16_code 9 = .ok (.iconst 2, 1) := by decide +kernel
theorem d_Na_guessMultiple_10 : decode prog_6_method_16_code 10 = .ok (.if_icmp .lt 23, 3) := by decide +kernel
theorem d_Na_guessMultiple_13 : decode prog_6_method_16_code 13 = .ok (.iload_n 2, 1) := by decide +kernel
theorem d_Na_guessMultiple_14 : decode prog_6_method_16_code 14 = .ok (.bipush 32, 2) := by decide +kernel
theorem d_Na_guessMultiple_16 : decode prog_6_method_16_code 16 = .ok (.if_icmp .ge 17, 3) := by decide +kernel
theorem d_Na_guessMultiple_19 : decode prog_6_method_16_code 19 = .ok (.aload_n 1, 1) := by decide +kernel
theorem d_Na_guessMultiple_20 : decode prog_6_method_16_code 20 = .ok (.getfield 9, 3) := by decide +kernel
theorem d_Na_guessMultiple_23 : decode prog_6_method_16_code 23 = .ok (.aload_n 1, 1) := by decide +kernel
theorem d_Na_guessMultiple_24 : decode prog_6_method_16_code 24 = .ok (.getfield 15, 3) := by decide +kernel
theorem d_Na_guessMultiple_27 : decode prog_6_method_16_code 27 = .ok (.iconst 1, 1) := by decide +kernel
theorem d_Na_guessMultiple_28 : decode prog_6_method_16_code 28 = .ok (.isub, 1) := by decide +kernel
theorem d_Na_guessMultiple_29 : decode prog_6_method_16_code 29 = .ok (.iaload, 1) := by decide +kernel
theorem d_Na_guessMultiple_30 : decode prog_6_method_16_code 30 = .ok (.ifCond .ne 5, 3) := by decide +kernel
theorem d_Na_guessMultiple_33 : decode prog_6_method_16_code 33 = .ok (.lconst 0, 1) := by decide +kernel
theorem d_Na_guessMultiple_34 : decode prog_6_method_16_code 34 = .ok (.lreturn, 1) := by decide +kernel
theorem d_Na_guessMultiple_35 : decode prog_6_method_16_code 35 = .ok (.aload_n 1, 1) := by decide +kernel
theorem d_Na_guessMultiple_36 : decode prog_6_method_16_code 36 = .ok (.getfield 9, 3) := by decide +kernel
theorem d_Na_guessMultiple_39 : decode prog_6_method_16_code 39 = .ok (.aload_n 1, 1) := by decide +kernel
theorem d_Na_guessMultiple_40 : decode prog_6_method_16_code 40 = .ok (.getfield 15, 3) := by decide +kernel
theorem d_Na_guessMultiple_43 : decode prog_6_method_16_code 43 = .ok (.iconst 1, 1) := by decide +kernel
theorem d_Na_guessMultiple_44 : decode prog_6_method_16_code 44 = .ok (.isub, 1) := by decide +kernel
theorem d_Na_guessMultiple_45 : decode prog_6_method_16_code 45 = .ok (.iaload, 1) := by decide +kernel
theorem d_Na_guessMultiple_46 : decode prog_6_method_16_code 46 = .ok (.i2l, 1) := by decide +kernel
theorem d_Na_guessMultiple_47 : decode prog_6_method_16_code 47 = .ok (.lstore_n 3, 1) := by decide +kernel
theorem d_Na_guessMultiple_48 : decode prog_6_method_16_code 48 = .ok (.aload_n 1, 1) := by decide +kernel
theorem d_Na_guessMultiple_49 : decode prog_6_method_16_code 49 = .ok (.getfield 9, 3) := by decide +kernel
theorem d_Na_guessMultiple_52 : decode prog_6_method_16_code 52 = .ok (.aload_n 1, 1) := by decide +kernel
theorem d_Na_guessMultiple_53 : decode prog_6_method_16_code 53 = .ok (.getfield 15, 3) := by decide +kernel
theorem d_Na_guessMultiple_56 : decode prog_6_method_16_code 56 = .ok (.iconst 2, 1) := by decide +kernel
theorem d_Na_guessMultiple_57 : decode prog_6_method_16_code 57 = .ok (.isub, 1) := by decide +kernel
theorem d_Na_guessMultiple_58 : decode prog_6_method_16_code 58 = .ok (.iaload, 1) := by decide +kernel
theorem d_Na_guessMultiple_59 : decode prog_6_method_16_code 59 = .ok (.i2l, 1) := by decide +kernel
theorem d_Na_guessMultiple_60 : decode prog_6_method_16_code 60 = .ok (.lstore 5, 2) := by decide +kernel
theorem d_Na_guessMultiple_62 : decode prog_6_method_16_code 62 = .ok (.aload_n 0, 1) := by decide +kernel
theorem d_Na_guessMultiple_63 : decode prog_6_method_16_code 63 = .ok (.getfield 9, 3) := by decide +kernel
theorem d_Na_guessMultiple_66 : decode prog_6_method_16_code 66 = .ok (.iload_n 2, 1) := by decide +kernel
theorem d_Na_guessMultiple_67 : decode prog_6_method_16_code 67 = .ok (.iaload, 1) := by decide +kernel
theorem d_Na_guessMultiple_68 : decode prog_6_method_16_code 68 = .ok (.i2l, 1) := by decide +kernel
theorem d_Na_guessMultiple_69 : decode prog_6_method_16_code 69 = .ok (.bipush 31, 2) := by decide +kernel
theorem d_Na_guessMultiple_71 : decode prog_6_method_16_code 71 = .ok (.lshl, 1) := by decide +kernel
theorem d_Na_guessMultiple_72 : decode prog_6_method_16_code 72 = .ok (.aload_n 0, 1) := by decide +kernel
theorem d_Na_guessMultiple_73 : decode prog_6_method_16_code 73 = .ok (.getfield 9, 3) := by decide +kernel
theorem d_Na_guessMultiple_76 : decode prog_6_method_16_code 76 = .ok (.iload_n 2, 1) := by decide +kernel
theorem d_Na_guessMultiple_77 : decode prog_6_method_16_code 77 = .ok (.iconst 1, 1) := by decide +kernel
theorem d_Na_guessMultiple_78 : decode prog_6_method_16_code 78 = .ok (.isub, 1) := by decide +kernel
theorem d_Na_guessMultiple_79 : decode prog_6_method_16_code 79 = .ok (.iaload, 1) := by decide +kernel
theorem d_Na_guessMultiple_80 : decode prog_6_method_16_code 80 = .ok (.i2l, 1) := by decide +kernel
theorem d_Na_guessMultiple_81 : decode prog_6_method_16_code 81 = .ok (.lor, 1) := by decide +kernel
theorem d_Na_guessMultiple_82 : decode prog_6_method_16_code 82 = .ok (.lstore 7, 2) := by decide +kernel
theorem d_Na_guessMultiple_84 : decode prog_6_method_16_code 84 = .ok (.lload 7, 2) := by decide +kernel
theorem d_Na_guessMultiple_86 : decode prog_6_method_16_code 86 = .ok (.lload_n 3, 1) := by decide +kernel
theorem d_Na_guessMultiple_87 : decode prog_6_method_16_code 87 = .ok (.ldiv, 1) := by decide +kernel
theorem d_Na_guessMultiple_88 : decode prog_6_method_16_code 88 = .ok (.lstore 9, 2) := by decide +kernel
theorem d_Na_guessMultiple_90 : decode prog_6_method_16_code 90 = .ok (.lload 7, 2) := by decide +kernel
theorem d_Na_guessMultiple_92 : decode prog_6_method_16_code 92 = .ok (.lload_n 3, 1) := by decide +kernel
theorem d_Na_guessMultiple_93 : decode prog_6_method_16_code 93 = .ok (.lrem, 1) := by decide +kernel
theorem d_Na_guessMultiple_94 : decode prog_6_method_16_code 94 = .ok (.lstore 11, 2) := by decide +kernel
theorem d_Na_guessMultiple_96 : decode prog_6_method_16_code 96 = .ok (.iconst 0, 1) := by decide +kernel
theorem d_Na_guessMultiple_97 : decode prog_6_method_16_code 97 = .ok (.istore 13, 2) := by decide +kernel
theorem d_Na_guessMultiple_99 : decode prog_6_method_16_code 99 = .ok (.iload 13, 2) := by decide +kernel
theorem d_Na_guessMultiple_101 : decode prog_6_method_16_code 101 = .ok (.iconst 3, 1) := by decide +kernel
theorem d_Na_guessMultiple_102 : decode prog_6_method_16_code 102 = .ok (.if_icmp .ge 66, 3) := by decide +kernel
theorem d_Na_guessMultiple_105 : decode prog_6_method_16_code 105 = .ok (.lload 11, 2) := by decide +kernel
theorem d_Na_guessMultiple_107 : decode prog_6_method_16_code 107 = .ok (.ldc2_w 19, 3) := by decide +kernel
theorem d_Na_guessMultiple_110 : decode prog_6_method_16_code 110 = .ok (.lcmp, 1) := by decide +kernel
theorem d_Na_guessMultiple_111 : decode prog_6_method_16_code 111 = .ok (.ifCond .gt 57, 3) := by decide +kernel
theorem d_Na_guessMultiple_114 : decode prog_6_method_16_code 114 = .ok (.lload 9, 2) := by decide +kernel
theorem d_Na_guessMultiple_116 : decode prog_6_method_16_code 116 = .ok (.ldc2_w 19, 3) := by decide +kernel
theorem d_Na_guessMultiple_119 : decode prog_6_method_16_code 119 = .ok (.lcmp, 1) := by decide +kernel
theorem d_Na_guessMultiple_120 : decode prog_6_method_16_code 120 = .ok (.ifCond .gt 30, 3) := by decide +kernel
theorem d_Na_guessMultiple_123 : decode prog_6_method_16_code 123 = .ok (.lload 9, 2) := by decide +kernel
theorem d_Na_guessMultiple_125 : decode prog_6_method_16_code 125 = .ok (.lload 5, 2) := by decide +kernel
theorem d_Na_guessMultiple_127 : decode prog_6_method_16_code 127 = .ok (.lmul, 1) := by decide +kernel
theorem d_Na_guessMultiple_128 : decode prog_6_method_16_code 128 = .ok (.lload 11, 2) := by decide +kernel
theorem d_Na_guessMultiple_130 : decode prog_6_method_16_code 130 = .ok (.bipush 31, 2) := by decide +kernel
theorem d_Na_guessMultiple_132 : decode prog_6_method_16_code 132 = .ok (.lshl, 1) := by decide +kernel
theorem d_Na_guessMultiple_133 : decode prog_6_method_16_code 133 = .ok (.aload_n 0, 1) := by decide +kernel
theorem d_Na_guessMultiple_134 : decode prog_6_method_16_code 134 = .ok (.getfield 9, 3) := by decide +kernel
theorem d_Na_guessMultiple_137 : decode prog_6_method_16_code 137 = .ok (.iload_n 2, 1) := by decide +kernel
theorem d_Na_guessMultiple_138 : decode prog_6_method_16_code 138 = .ok (.iconst 2, 1) := by decide +kernel
theorem d_Na_guessMultiple_139 : decode prog_6_method_16_code 139 = .ok (.isub, 1) := by decide +kernel
theorem d_Na_guessMultiple_140 : decode prog_6_method_16_code 140 = .ok (.iaload, 1) := by decide +kernel
theorem d_Na_guessMultiple_141 : decode prog_6_method_16_code 141 = .ok (.i2l, 1) := by decide +kernel
theorem d_Na_guessMultiple_142 : decode prog_6_method_16_code 142 = .ok (.lor, 1) := by decide +kernel
theorem d_Na_guessMultiple_143 : decode prog_6_method_16_code 143 = .ok (.lcmp, 1) := by decide +kernel
theorem d_Na_guessMultiple_144 : decode prog_6_method_16_code 144 = .ok (.ifCond .gt 6, 3) := by decide +kernel
theorem d_Na_guessMultiple_147 : decode prog_6_method_16_code 147 = .ok (.goto 21, 3) := by decide +kernel
theorem d_Na_guessMultiple_150 : decode prog_6_method_16_code 150 = .ok (.lload 9, 2) := by decide +kernel
theorem d_Na_guessMultiple_152 : decode prog_6_method_16_code 152 = .ok (.lconst 1, 1) := by decide +kernel
theorem d_Na_guessMultiple_153 : decode prog_6_method_16_code 153 = .ok (.lsub, 1) := by decide +kernel
theorem d_Na_guessMultiple_154 : decode prog_6_method_16_code 154 = .ok (.lstore 9, 2) := by decide +kernel
theorem d_Na_guessMultiple_156 : decode prog_6_method_16_code 156 = .ok (.lload 11, 2) := by decide +kernel
theorem d_Na_guessMultiple_158 : decode prog_6_method_16_code 158 = .ok (.lload_n 3, 1) := by decide +kernel
theorem d_Na_guessMultiple_159 : decode prog_6_method_16_code 159 = .ok (.ladd, 1) := by decide +kernel
theorem d_Na_guessMultiple_160 : decode prog_6_method_16_code 160 = .ok (.lstore 11, 2) := by decide +kernel
theorem d_Na_guessMultiple_162 : decode prog_6_method_16_code 162 = .ok (.iinc 13 1, 3) := by decide +kernel
theorem d_Na_guessMultiple_165 : decode prog_6_method_16_code 165 = .ok (.goto (-66), 3) := by decide +kernel
theorem d_Na_guessMultiple_168 : decode prog_6_method_16_code 168 = .ok (.lload 9, 2) := by decide +kernel
theorem d_Na_guessMultiple_170 : decode prog_6_method_16_code 170 = .ok (.lreturn, 1) := by decide +kernel
section SEG
variable {g : GG} {Q : Option VV → EE → DD → Prop} {D : DD}
theorem s_Ar_rangeCheck_0 {x0 : Int} {x1 : Int} {x2 : Int}  (h : ((x1 ≤ x2 → ((0 ≤ x1 → ((x2 ≤ x0 → Q none zE D) ∧ (¬ x2 ≤ x0 → False))) ∧ (¬ 0 ≤ x1 → False))) ∧ (¬ x1 ≤ x2 → False))) : Sg g M_Ar_rangeCheck Q 0 [vI x0, vI x1, vI x2] [] D := by
  unfold Sg
  refine q_iload_n d_Ar_rangeCheck_0 rfl ?_
  refine q_iload_n d_Ar_rangeCheck_1 rfl ?_
  refine q_icmp_le (tgt := 46) d_Ar_rangeCheck_2 (by decide) (fun c1 => ?_) (fun c1 => ?_)
  · have h := h.1 (c1)
    refine q_iload_n d_Ar_rangeCheck_46 rfl ?_
    refine q_if_ge (tgt := 59) d_Ar_rangeCheck_47 (by decide) (fun c2 => ?_) (fun c2 => ?_)
    · have h := h.1 (c2)
      refine q_iload_n d_Ar_rangeCheck_59 rfl ?_
      refine q_iload_n d_Ar_rangeCheck_60 rfl ?_
      refine q_icmp_le (tgt := 73) d_Ar_rangeCheck_61 (by decide) (fun c3 => ?_) (fun c3 => ?_)
      · have h := h.1 (c3)
        exact q_vret d_Ar_rangeCheck_73 rfl ⟨Nat.le_refl _, Nat.le_refl _⟩ h
      · have h := h.2 (c3)
        exact h.elim
    · have h := h.2 (c2)
      exact h.elim
  · have h := h.2 (c1)
    exact h.elim
theorem s_Ar_fill2_0 {n0 : Nat} {a0 : Nat} {x1 : Int} (k_a0 : zk a0 = (1, n0, 0)) (h : (n0 ≤ 2147483647) ∧ Sg g M_Ar_fill2 Q 5 [vR a0, vI x1, vI 0, vI (n0 : Int)] [] D) : Sg g M_Ar_fill2 Q 0 [vR a0, vI x1, vU, vU] [] D := by
  unfold Sg
  obtain ⟨o1, h⟩ := h
  refine q_iconst d_Ar_fill2_0 (by decide) ?_
  refine q_istore_n d_Ar_fill2_1 (by decide) (L' := [vR a0, vI x1, vI 0, vU]) rfl ?_
  refine q_aload_n d_Ar_fill2_2 rfl ?_
  refine p_alen d_Ar_fill2_3 k_a0 o1 ?_
  refine q_istore_n d_Ar_fill2_4 (by decide) (L' := [vR a0, vI x1, vI 0, vI (n0 : Int)]) rfl ?_
  exact h
theorem s_Ar_fill2_5 {n0 : Nat} {a0 : Nat} {x1 : Int} {x2 : Int} {x3 : Int} (k_a0 : zk a0 = (1, n0, 0)) (h : ((x3 ≤ x2 → Q none zE D) ∧ (¬ x3 ≤ x2 → ((0 ≤ x2 ∧ x2 < n0)) ∧ (∀ D3, D3 = zw D a0 x2 x1 → (R32 (x2 + 1)) ∧ Sg g M_Ar_fill2 Q 5 [vR a0, vI x1, vI (x2 + 1), vI x3] [] D3)))) : Sg g M_Ar_fill2 Q 5 [vR a0, vI x1, vI x2, vI x3] [] D := by
  unfold Sg
  refine q_iload_n d_Ar_fill2_5 rfl ?_
  refine q_iload_n d_Ar_fill2_6 rfl ?_
  refine q_icmp_ge (tgt := 20) d_Ar_fill2_7 (by decide) (fun c1 => ?_) (fun c1 => ?_)
  · have h := h.1 (c1)
    exact q_vret d_Ar_fill2_20 rfl ⟨Nat.le_refl _, Nat.le_refl _⟩ h
  · have h := h.2 (c1)
    obtain ⟨o2, h⟩ := h
    refine q_aload_n d_Ar_fill2_10 rfl ?_
    refine q_iload_n d_Ar_fill2_11 rfl ?_
    refine q_iload_n d_Ar_fill2_12 rfl ?_
    refine p_iast d_Ar_fill2_13 k_a0 o2 (fun D3 e4 => ?_)
    have h := h D3 e4
    obtain ⟨o5, h⟩ := h
    refine q_iinc d_Ar_fill2_14 rfl (by decide) o5 (L' := [vR a0, vI x1, vI (x2 + 1), vI x3]) rfl ?_
    refine q_goto (tgt := 5) d_Ar_fill2_17 (by decide) ?_
    exact h
theorem s_Ar_fill4_0 {n0 : Nat} {a0 : Nat} {x1 : Int} {x2 : Int} {x3 : Int} (k_a0 : zk a0 = (1, n0, 0)) (h : (n0 ≤ 2147483647) ∧ CV g M_Ar_rangeCheck [vI (n0 : Int), vI x1, vI x2] D (fun D' => Sg g M_Ar_fill4 Q 7 [vR a0, vI x1, vI x2, vI x3, vU] [] D')) : Sg g M_Ar_fill4 Q 0 [vR a0, vI x1, vI x2, vI x3, vU] [] D := by
  unfold Sg
  obtain ⟨o1, h⟩ := h
  refine q_aload_n d_Ar_fill4_0 rfl ?_
  refine p_alen d_Ar_fill4_1 k_a0 o1 ?_
  refine q_iload_n d_Ar_fill4_2 rfl ?_
  refine q_iload_n d_Ar_fill4_3 rfl ?_
  refine p_callS (as := [vI (n0 : Int), vI x1, vI x2]) (st := []) mc_Ar_rangeCheck ms_Ar_rangeCheck l_Ar_13 d_Ar_fill4_4 rfl rfl rfl (CV.to ?_)
  exact h
theorem s_Ar_fill4_7 {n0 : Nat} {a0 : Nat} {x1 : Int} {x2 : Int} {x3 : Int} {z4 : VV} (k_a0 : zk a0 = (1, n0, 0)) (h : Sg g M_Ar_fill4 Q 10 [vR a0, vI x1, vI x2, vI x3, vI x1] [] D) : Sg g M_Ar_fill4 Q 7 [vR a0, vI x1, vI x2, vI x3, z4] [] D := by
  unfold Sg
  refine q_mask [false, false, false, false, true] (L' := [vR a0, vI x1, vI x2, vI x3, vU]) rfl ?_
  refine q_iload_n d_Ar_fill4_7 rfl ?_
  refine q_istore d_Ar_fill4_8 (by decide) (L' := [vR a0, vI x1, vI x2, vI x3, vI x1]) rfl ?_
  exact h
theorem s_Ar_fill4_10 {n0 : Nat} {a0 : Nat} {z1 : VV} {x2 : Int} {x3 : Int} {x4 : Int} (k_a0 : zk a0 = (1, n0, 0)) (h : ((x2 ≤ x4 → Q none zE D) ∧ (¬ x2 ≤ x4 → ((0 ≤ x4 ∧ x4 < n0)) ∧ (∀ D3, D3 = zw D a0 x4 x3 → (R32 (x4 + 1)) ∧ Sg g M_Ar_fill4 Q 10 [vR a0, vU, vI x2, vI x3, vI (x4 + 1)] [] D3)))) : Sg g M_Ar_fill4 Q 10 [vR a0, z1, vI x2, vI x3, vI x4] [] D := by
  unfold Sg
  refine q_mask [false, true, false, false, false] (L' := [vR a0, vU, vI x2, vI x3, vI x4]) rfl ?_
  refine q_iload d_Ar_fill4_10 rfl ?_
  refine q_iload_n d_Ar_fill4_12 rfl ?_
  refine q_icmp_ge (tgt := 27) d_Ar_fill4_13 (by decide) (fun c1 => ?_) (fun c1 => ?_)
  · have h := h.1 (c1)
    exact q_vret d_Ar_fill4_27 rfl ⟨Nat.le_refl _, Nat.le_refl _⟩ h
  · have h := h.2 (c1)
    obtain ⟨o2, h⟩ := h
    refine q_aload_n d_Ar_fill4_16 rfl ?_
    refine q_iload d_Ar_fill4_17 rfl ?_
    refine q_iload_n d_Ar_fill4_19 rfl ?_
    refine p_iast d_Ar_fill4_20 k_a0 o2 (fun D3 e4 => ?_)
    have h := h D3 e4
    obtain ⟨o5, h⟩ := h
    refine q_iinc d_Ar_fill4_21 rfl (by decide) o5 (L' := [vR a0, vU, vI x2, vI x3, vI (x4 + 1)]) rfl ?_
    refine q_goto (tgt := 10) d_Ar_fill4_24 (by decide) ?_
    exact h
theorem s_Na_setProduct_0 {a0 : Nat} {a1 : Nat} {a2 : Nat} (k_a0 : zk a0 = (0, 3, 0)) (k_a1 : zk a1 = (0, 3, 0)) (k_a2 : zk a2 = (0, 3, 0)) (h : (R32 ((D a1 1) + (D a2 1))) ∧ CV g M_Ar_fill4 [vR (a0 + 1), vI 0, vI (min ((D a1 1) + (D a2 1)) 32), vI 0] D (fun D' => Sg g M_Na_setProduct Q 25 [vR a0, vR a1, vR a2, vI (min ((D a1 1) + (D a2 1)) 32), vU, vU, vU, vU, vU, vU] [] D')) : Sg g M_Na_setProduct Q 0 [vR a0, vR a1, vR a2, vU, vU, vU, vU, vU, vU, vU] [] D := by
  unfold Sg
  obtain ⟨o1, h⟩ := h
  refine q_aload_n d_Na_setProduct_0 rfl ?_
  refine p_getI (k := 1) zc_Na l_Na_15 fi_Na_size d_Na_setProduct_1 k_a1 ?_
  refine q_aload_n d_Na_setProduct_4 rfl ?_
  refine p_getI (k := 1) zc_Na l_Na_15 fi_Na_size d_Na_setProduct_5 k_a2 ?_
  refine q_iadd d_Na_setProduct_8 o1 ?_
  refine q_bipush d_Na_setProduct_9 kb_32 ?_
  refine p_min l_Na_40 d_Na_setProduct_11 rfl ?_
  refine q_istore_n d_Na_setProduct_14 (by decide) (L' := [vR a0, vR a1, vR a2, vI (min ((D a1 1) + (D a2 1)) 32), vU, vU, vU, vU, vU, vU]) rfl ?_
  refine q_aload_n d_Na_setProduct_15 rfl ?_
  refine p_getR (k := 0) (b := (a0 + 1)) zc_Na l_Na_9 fr_Na_digits d_Na_setProduct_16 k_a0 rfl ?_
  refine q_iconst d_Na_setProduct_19 (by decide) ?_
  refine q_iload_n d_Na_setProduct_20 rfl ?_
  refine q_iconst d_Na_setProduct_21 (by decide) ?_
  refine p_callS (as := [vR (a0 + 1), vI 0, vI (min ((D a1 1) + (D a2 1)) 32), vI 0]) (st := []) mc_Ar_fill4 ms_Ar_fill4 l_Na_43 d_Na_setProduct_22 rfl rfl rfl (CV.to ?_)
  exact h
theorem s_Na_setProduct_25 {a0 : Nat} {a1 : Nat} {a2 : Nat} {x3 : Int} {z4 : VV} {z5 : VV} {z6 : VV} {z7 : VV} {z8 : VV} {z9 : VV} (k_a0 : zk a0 = (0, 3, 0)) (k_a1 : zk a1 = (0, 3, 0)) (k_a2 : zk a2 = (0, 3, 0)) (h : Sg g M_Na_setProduct Q 28 [vR a0, vR a1, vR a2, vI x3, vI 0, vU, vU, vU, vU, vU] [] D) : Sg g M_Na_setProduct Q 25 [vR a0, vR a1, vR a2, vI x3, z4, z5, z6, z7, z8, z9] [] D := by
  unfold Sg
  refine q_mask [false, false, false, false, true, true, true, true, true, true] (L' := [vR a0, vR a1, vR a2, vI x3, vU, vU, vU, vU, vU, vU]) rfl ?_
  refine q_iconst d_Na_setProduct_25 (by decide) ?_
  refine q_istore d_Na_setProduct_26 (by decide) (L' := [vR a0, vR a1, vR a2, vI x3, vI 0, vU, vU, vU, vU, vU]) rfl ?_
  exact h
theorem s_Na_setProduct_28 {a0 : Nat} {a1 : Nat} {a2 : Nat} {x3 : Int} {x4 : Int} {z5 : VV} {z6 : VV} {z7 : VV} {z8 : VV} {z9 : VV} (k_a0 : zk a0 = (0, 3, 0)) (k_a1 : zk a1 = (0, 3, 0)) (k_a2 : zk a2 = (0, 3, 0)) (h : (((D a1 1) ≤ x4 → (∀ D2, D2 = zw D a0 1 x3 → CV g M_Na_trim [vR a0] D2 (fun D' => Sg g M_Na_setProduct Q 170 [vR a0, vR a1, vR a2, vI x3, vI x4, vU, vU, vU, vU, vU] [] D'))) ∧ (¬ (D a1 1) ≤ x4 → ((0 ≤ x4 ∧ x4 < 32)) ∧ Sg g M_Na_setProduct Q 53 [vR a0, vR a1, vR a2, vI x3, vI x4, vL (D (a1 + 1) x4), vU, vL 0, vU, vI 0] [] D))) : Sg g M_Na_setProduct Q 28 [vR a0, vR a1, vR a2, vI x3, vI x4, z5, z6, z7, z8, z9] [] D := by
  unfold Sg
  refine q_mask [false, false, false, false, false, true, true, true, true, true] (L' := [vR a0, vR a1, vR a2, vI x3, vI x4, vU, vU, vU, vU, vU]) rfl ?_
  refine q_iload d_Na_setProduct_28 rfl ?_
  refine q_aload_n d_Na_setProduct_30 rfl ?_
  refine p_getI (k := 1) zc_Na l_Na_15 fi_Na_size d_Na_setProduct_31 k_a1 ?_
  refine q_icmp_ge (tgt := 161) d_Na_setProduct_34 (by decide) (fun c1 => ?_) (fun c1 => ?_)
  · have h := h.1 (c1)
    refine q_aload_n d_Na_setProduct_161 rfl ?_
    refine q_iload_n d_Na_setProduct_162 rfl ?_
    refine p_putI (k := 1) zc_Na l_Na_15 fp_Na_size (Or.inl rfl) d_Na_setProduct_163 k_a0 (fun D2 e3 => ?_)
    have h := h D2 e3
    refine q_aload_n d_Na_setProduct_166 rfl ?_
    refine p_callV (as := []) (st := []) (a := a0) mc_Na_trim mv_Na_trim l_Na_37 zc_Na rfl d_Na_setProduct_167 rfl rfl rfl k_a0 (CV.to ?_)
    exact h
  · have h := h.2 (c1)
    obtain ⟨o5, h⟩ := h
    refine q_aload_n d_Na_setProduct_37 rfl ?_
    refine p_getR (k := 0) (b := (a1 + 1)) zc_Na l_Na_9 fr_Na_digits d_Na_setProduct_38 k_a1 rfl ?_
    refine q_iload d_Na_setProduct_41 rfl ?_
    refine p_iald d_Na_setProduct_43 (zs_Na_digits k_a1) o5 ?_
    refine q_i2l d_Na_setProduct_44 ?_
    refine q_lstore d_Na_setProduct_45 (by decide) (L' := [vR a0, vR a1, vR a2, vI x3, vI x4, vL (D (a1 + 1) x4), vU, vU, vU, vU]) rfl ?_
    refine q_lconst (x := 0) d_Na_setProduct_47 ⟨rfl, by decide⟩ ?_
    refine q_lstore d_Na_setProduct_48 (by decide) (L' := [vR a0, vR a1, vR a2, vI x3, vI x4, vL (D (a1 + 1) x4), vU, vL 0, vU, vU]) rfl ?_
    refine q_iconst d_Na_setProduct_50 (by decide) ?_
    refine q_istore d_Na_setProduct_51 (by decide) (L' := [vR a0, vR a1, vR a2, vI x3, vI x4, vL (D (a1 + 1) x4), vU, vL 0, vU, vI 0]) rfl ?_
    exact h
theorem s_Na_setProduct_170 {z0 : VV} {z1 : VV} {z2 : VV} {z3 : VV} {z4 : VV} {z5 : VV} {z6 : VV} {z7 : VV} {z8 : VV} {z9 : VV}  (h : Q none zE D) : Sg g M_Na_setProduct Q 170 [z0, z1, z2, z3, z4, z5, z6, z7, z8, z9] [] D := by
  unfold Sg
  refine q_mask [true, true, true, true, true, true, true, true, true, true] (L' := [vU, vU, vU, vU, vU, vU, vU, vU, vU, vU]) rfl ?_
  exact q_vret d_Na_setProduct_170 rfl ⟨Nat.le_refl _, Nat.le_refl _⟩ h
theorem s_Na_setProduct_53 {a0 : Nat} {a1 : Nat} {a2 : Nat} {x3 : Int} {x4 : Int} {x5 : Int} {x7 : Int} {x9 : Int} (k_a0 : zk a0 = (0, 3, 0)) (k_a1 : zk a1 = (0, 3, 0)) (k_a2 : zk a2 = (0, 3, 0)) (h : (((D a2 1) ≤ x9 → Sg g M_Na_setProduct Q 129 [vR a0, vR a1, vR a2, vI x3, vI x4, vL x5, vU, vL x7, vU, vI x9] [] D) ∧ (¬ (D a2 1) ≤ x9 → (R32 (x4 + x9)) ∧ ((x3 ≤ (x4 + x9) → Sg g M_Na_setProduct Q 129 [vR a0, vR a1, vR a2, vI x3, vI x4, vL x5, vU, vL x7, vU, vI x9] [] D) ∧ (¬ x3 ≤ (x4 + x9) → (R32 (x4 + x9) ∧ (0 ≤ x4 + x9 ∧ x4 + x9 < 32) ∧ (0 ≤ x9 ∧ x9 < 32) ∧ R64 (x5 * (D (a2 + 1) x9)) ∧ R64 ((D (a0 + 1) (x4 + x9)) + (x5 * (D (a2 + 1) x9))) ∧ R64 (x7 + ((D (a0 + 1) (x4 + x9)) + (x5 * (D (a2 + 1) x9)))) ∧ R32 (x4 + x9) ∧ R32 ((x7 + ((D (a0 + 1) (x4 + x9)) + (x5 * (D (a2 + 1) x9)))) % 2 ^ 31) ∧ (0 ≤ x4 + x9 ∧ x4 + x9 < 32)) ∧ (∀ D13, D13 = zw D (a0 + 1) (x4 + x9) ((x7 + ((D (a0 + 1) (x4 + x9)) + (x5 * (D (a2 + 1) x9)))) % 2 ^ 31) → (R32 (x9 + 1)) ∧ Sg g M_Na_setProduct Q 53 [vR a0, vR a1, vR a2, vI x3, vI x4, vL x5, vU, vL ((x7 + ((D (a0 + 1) (x4 + x9)) + (x5 * (D (a2 + 1) x9)))) / 2 ^ 31), vU, vI (x9 + 1)] [] D13)))))) : Sg g M_Na_setProduct Q 53 [vR a0, vR a1, vR a2, vI x3, vI x4, vL x5, vU, vL x7, vU, vI x9] [] D := by
  unfold Sg
  refine q_iload d_Na_setProduct_53 rfl ?_
  refine q_aload_n d_Na_setProduct_55 rfl ?_
  refine p_getI (k := 1) zc_Na l_Na_15 fi_Na_size d_Na_setProduct_56 k_a2 ?_
  refine q_icmp_ge (tgt := 129) d_Na_setProduct_59 (by decide) (fun c1 => ?_) (fun c1 => ?_)
  · have h := h.1 (c1)
    exact h
  · have h := h.2 (c1)
    obtain ⟨o2, h⟩ := h
    refine q_iload d_Na_setProduct_62 rfl ?_
    refine q_iload d_Na_setProduct_64 rfl ?_
    refine q_iadd d_Na_setProduct_66 o2 ?_
    refine q_iload_n d_Na_setProduct_67 rfl ?_
    refine q_icmp_ge (tgt := 129) d_Na_setProduct_68 (by decide) (fun c3 => ?_) (fun c3 => ?_)
    · have h := h.1 (c3)
      exact h
    · have h := h.2 (c3)
      obtain ⟨⟨o4, o5, o6, o7, o8, o9, o10, o11, o12⟩, h⟩ := h
      refine q_lload d_Na_setProduct_71 rfl ?_
      refine q_aload_n d_Na_setProduct_73 rfl ?_
      refine p_getR (k := 0) (b := (a0 + 1)) zc_Na l_Na_9 fr_Na_digits d_Na_setProduct_74 k_a0 rfl ?_
      refine q_iload d_Na_setProduct_77 rfl ?_
      refine q_iload d_Na_setProduct_79 rfl ?_
      refine q_iadd d_Na_setProduct_81 o4 ?_
      refine p_iald d_Na_setProduct_82 (zs_Na_digits k_a0) o5 ?_
      refine q_i2l d_Na_setProduct_83 ?_
      refine q_lload d_Na_setProduct_84 rfl ?_
      refine q_aload_n d_Na_setProduct_86 rfl ?_
      refine p_getR (k := 0) (b := (a2 + 1)) zc_Na l_Na_9 fr_Na_digits d_Na_setProduct_87 k_a2 rfl ?_
      refine q_iload d_Na_setProduct_90 rfl ?_
      refine p_iald d_Na_setProduct_92 (zs_Na_digits k_a2) o6 ?_
      refine q_i2l d_Na_setProduct_93 ?_
      refine q_lmul d_Na_setProduct_94 o7 ?_
      refine q_ladd d_Na_setProduct_95 o8 ?_
      refine q_ladd d_Na_setProduct_96 o9 ?_
      refine q_lstore d_Na_setProduct_97 (by decide) (L' := [vR a0, vR a1, vR a2, vI x3, vI x4, vL x5, vU, vL (x7 + ((D (a0 + 1) (x4 + x9)) + (x5 * (D (a2 + 1) x9)))), vU, vI x9]) rfl ?_
      refine q_aload_n d_Na_setProduct_99 rfl ?_
      refine p_getR (k := 0) (b := (a0 + 1)) zc_Na l_Na_9 fr_Na_digits d_Na_setProduct_100 k_a0 rfl ?_
      refine q_iload d_Na_setProduct_103 rfl ?_
      refine q_iload d_Na_setProduct_105 rfl ?_
      refine q_iadd d_Na_setProduct_107 o10 ?_
      refine q_lload d_Na_setProduct_108 rfl ?_
      refine q_ldc2 (x := 2147483647) l_Na_19 d_Na_setProduct_110 (by decide) ?_
      refine q_land 31 d_Na_setProduct_113 ⟨by decide +kernel, by decide⟩ ?_
      refine q_l2i d_Na_setProduct_114 o11 ?_
      refine p_iast d_Na_setProduct_115 (zs_Na_digits k_a0) o12 (fun D13 e14 => ?_)
      have h := h D13 e14
      obtain ⟨o15, h⟩ := h
      refine q_lload d_Na_setProduct_116 rfl ?_
      refine q_bipush d_Na_setProduct_118 kb_31 ?_
      refine q_lshr d_Na_setProduct_120 (by decide) ?_
      refine q_lstore d_Na_setProduct_121 (by decide) (L' := [vR a0, vR a1, vR a2, vI x3, vI x4, vL x5, vU, vL ((x7 + ((D (a0 + 1) (x4 + x9)) + (x5 * (D (a2 + 1) x9)))) / 2 ^ 31), vU, vI x9]) rfl ?_
      refine q_iinc d_Na_setProduct_123 rfl (by decide) o15 (L' := [vR a0, vR a1, vR a2, vI x3, vI x4, vL x5, vU, vL ((x7 + ((D (a0 + 1) (x4 + x9)) + (x5 * (D (a2 + 1) x9)))) / 2 ^ 31), vU, vI (x9 + 1)]) rfl ?_
      refine q_goto (tgt := 53) d_Na_setProduct_126 (by decide) ?_
      exact h
theorem s_Na_setProduct_129 {a0 : Nat} {a1 : Nat} {a2 : Nat} {x3 : Int} {x4 : Int} {z5 : VV} {z6 : VV} {x7 : Int} {z9 : VV} (k_a0 : zk a0 = (0, 3, 0)) (k_a1 : zk a1 = (0, 3, 0)) (k_a2 : zk a2 = (0, 3, 0)) (h : (R32 (x4 + (D a2 1))) ∧ ((x3 ≤ (x4 + (D a2 1)) → Sg g M_Na_setProduct Q 155 [vR a0, vR a1, vR a2, vI x3, vI x4, vU, vU, vL x7, vU, vU] [] D) ∧ (¬ x3 ≤ (x4 + (D a2 1)) → (R32 (x4 + (D a2 1)) ∧ R32 x7 ∧ (0 ≤ x4 + (D a2 1) ∧ x4 + (D a2 1) < 32)) ∧ (∀ D6, D6 = zw D (a0 + 1) (x4 + (D a2 1)) x7 → Sg g M_Na_setProduct Q 155 [vR a0, vR a1, vR a2, vI x3, vI x4, vU, vU, vL x7, vU, vU] [] D6)))) : Sg g M_Na_setProduct Q 129 [vR a0, vR a1, vR a2, vI x3, vI x4, z5, z6, vL x7, vU, z9] [] D := by
  unfold Sg
  refine q_mask [false, false, false, false, false, true, true, false, false, true] (L' := [vR a0, vR a1, vR a2, vI x3, vI x4, vU, vU, vL x7, vU, vU]) rfl ?_
  obtain ⟨o1, h⟩ := h
  refine q_iload d_Na_setProduct_129 rfl ?_
  refine q_aload_n d_Na_setProduct_131 rfl ?_
  refine p_getI (k := 1) zc_Na l_Na_15 fi_Na_size d_Na_setProduct_132 k_a2 ?_
  refine q_iadd d_Na_setProduct_135 o1 ?_
  refine q_iload_n d_Na_setProduct_136 rfl ?_
  refine q_icmp_ge (tgt := 155) d_Na_setProduct_137 (by decide) (fun c2 => ?_) (fun c2 => ?_)
  · have h := h.1 (c2)
    exact h
  · have h := h.2 (c2)
    obtain ⟨⟨o3, o4, o5⟩, h⟩ := h
    refine q_aload_n d_Na_setProduct_140 rfl ?_
    refine p_getR (k := 0) (b := (a0 + 1)) zc_Na l_Na_9 fr_Na_digits d_Na_setProduct_141 k_a0 rfl ?_
    refine q_iload d_Na_setProduct_144 rfl ?_
    refine q_aload_n d_Na_setProduct_146 rfl ?_
    refine p_getI (k := 1) zc_Na l_Na_15 fi_Na_size d_Na_setProduct_147 k_a2 ?_
    refine q_iadd d_Na_setProduct_150 o3 ?_
    refine q_lload d_Na_setProduct_151 rfl ?_
    refine q_l2i d_Na_setProduct_153 o4 ?_
    refine p_iast d_Na_setProduct_154 (zs_Na_digits k_a0) o5 (fun D6 e7 => ?_)
    have h := h D6 e7
    exact h
theorem s_Na_setProduct_155 {a0 : Nat} {a1 : Nat} {a2 : Nat} {x3 : Int} {x4 : Int} {z5 : VV} {z6 : VV} {z7 : VV} {z8 : VV} {z9 : VV} (k_a0 : zk a0 = (0, 3, 0)) (k_a1 : zk a1 = (0, 3, 0)) (k_a2 : zk a2 = (0, 3, 0)) (h : (R32 (x4 + 1)) ∧ Sg g M_Na_setProduct Q 28 [vR a0, vR a1, vR a2, vI x3, vI (x4 + 1), vU, vU, vU, vU, vU] [] D) : Sg g M_Na_setProduct Q 155 [vR a0, vR a1, vR a2, vI x3, vI x4, z5, z6, z7, z8, z9] [] D := by
  unfold Sg
  refine q_mask [false, false, false, false, false, true, true, true, true, true] (L' := [vR a0, vR a1, vR a2, vI x3, vI x4, vU, vU, vU, vU, vU]) rfl ?_
  obtain ⟨o1, h⟩ := h
  refine q_iinc d_Na_setProduct_155 rfl (by decide) o1 (L' := [vR a0, vR a1, vR a2, vI x3, vI (x4 + 1), vU, vU, vU, vU, vU]) rfl ?_
  refine q_goto (tgt := 28) d_Na_setProduct_158 (by decide) ?_
  exact h
theorem s_Na_divideBy_0 {a0 : Nat} {a1 : Nat} {a2 : Nat} {a3 : Nat} (k_a0 : zk a0 = (0, 3, 0)) (k_a1 : zk a1 = (0, 3, 0)) (k_a2 : zk a2 = (0, 3, 0)) (k_a3 : zk a3 = (0, 3, 0)) (h : (∀ D1, D1 = zw D a2 1 0 → (((D1 a1 1) = 0 → Q none zE D1) ∧ (¬ (D1 a1 1) = 0 → CI g M_Na_order [vR a0, vR a1] D1 (fun v4 D' => Sg g M_Na_divideBy Q 17 [vR a0, vR a1, vR a2, vR a3, vU, vU, vU] [vI v4] D'))))) : Sg g M_Na_divideBy Q 0 [vR a0, vR a1, vR a2, vR a3, vU, vU, vU] [] D := by
  unfold Sg
  refine q_aload_n d_Na_divideBy_0 rfl ?_
  refine q_iconst d_Na_divideBy_1 (by decide) ?_
  refine p_putI (k := 1) zc_Na l_Na_15 fp_Na_size (Or.inl rfl) d_Na_divideBy_2 k_a2 (fun D1 e2 => ?_)
  have h := h D1 e2
  refine q_aload_n d_Na_divideBy_5 rfl ?_
  refine p_getI (k := 1) zc_Na l_Na_15 fi_Na_size d_Na_divideBy_6 k_a1 ?_
  refine q_if_eq (tgt := 20) d_Na_divideBy_9 (by decide) (fun c3 => ?_) (fun c3 => ?_)
  · have h := h.1 (c3)
    exact q_vret d_Na_divideBy_20 rfl ⟨Nat.le_refl _, Nat.le_refl _⟩ h
  · have h := h.2 (c3)
    refine q_aload_n d_Na_divideBy_12 rfl ?_
    refine q_aload_n d_Na_divideBy_13 rfl ?_
    refine p_callV (as := [vR a1]) (st := []) (a := a0) mc_Na_order mv_Na_order l_Na_49 zc_Na rfl d_Na_divideBy_14 rfl rfl rfl k_a0 (CI.to ?_)
    exact h
theorem s_Na_divideBy_17 {a0 : Nat} {a1 : Nat} {a2 : Nat} {a3 : Nat} {z4 : VV} {z5 : VV} {z6 : VV} {y0 : Int} (k_a0 : zk a0 = (0, 3, 0)) (k_a1 : zk a1 = (0, 3, 0)) (k_a2 : zk a2 = (0, 3, 0)) (k_a3 : zk a3 = (0, 3, 0)) (h : ((0 ≤ y0 → ((¬ (D a1 1) = 1 → CI g M_Na_freeBits [vR a1] D (fun v3 D' => Sg g M_Na_divideBy Q 54 [vR a0, vR a1, vR a2, vR a3, vU, vU, vU] [vI v3] D')) ∧ ((D a1 1) = 1 → CV g M_Na_copyFrom [vR a2, vR a0] D (fun D' => Sg g M_Na_divideBy Q 34 [vR a0, vR a1, vR a2, vR a3, vU, vU, vU] [] D')))) ∧ (¬ 0 ≤ y0 → Q none zE D))) : Sg g M_Na_divideBy Q 17 [vR a0, vR a1, vR a2, vR a3, z4, z5, z6] [vI y0] D := by
  unfold Sg
  refine q_mask [false, false, false, false, true, true, true] (L' := [vR a0, vR a1, vR a2, vR a3, vU, vU, vU]) rfl ?_
  refine q_if_ge (tgt := 21) d_Na_divideBy_17 (by decide) (fun c1 => ?_) (fun c1 => ?_)
  · have h := h.1 (c1)
    refine q_aload_n d_Na_divideBy_21 rfl ?_
    refine p_getI (k := 1) zc_Na l_Na_15 fi_Na_size d_Na_divideBy_22 k_a1 ?_
    refine q_iconst d_Na_divideBy_25 (by decide) ?_
    refine q_icmp_ne (tgt := 50) d_Na_divideBy_26 (by decide) (fun c2 => ?_) (fun c2 => ?_)
    · have h := h.1 (c2)
      refine q_aload_n d_Na_divideBy_50 rfl ?_
      refine p_callV (as := []) (st := []) (a := a1) mc_Na_freeBits mv_Na_freeBits l_Na_64 zc_Na rfl d_Na_divideBy_51 rfl rfl rfl k_a1 (CI.to ?_)
      exact h
    · have h := h.2 (c2)
      refine q_aload_n d_Na_divideBy_29 rfl ?_
      refine q_aload_n d_Na_divideBy_30 rfl ?_
      refine p_callV (as := [vR a0]) (st := []) (a := a2) mc_Na_copyFrom mv_Na_copyFrom l_Na_53 zc_Na rfl d_Na_divideBy_31 rfl rfl rfl k_a2 (CV.to ?_)
      exact h
  · have h := h.2 (c1)
    exact q_vret d_Na_divideBy_20 rfl ⟨Nat.le_refl _, Nat.le_refl _⟩ h
theorem s_Na_divideBy_54 {a0 : Nat} {a1 : Nat} {a2 : Nat} {a3 : Nat} {z4 : VV} {z5 : VV} {z6 : VV} {y0 : Int} (k_a0 : zk a0 = (0, 3, 0)) (k_a1 : zk a1 = (0, 3, 0)) (k_a2 : zk a2 = (0, 3, 0)) (k_a3 : zk a3 = (0, 3, 0)) (h : CV g M_Na_copyFrom [vR a3, vR a1] D (fun D' => Sg g M_Na_divideBy Q 61 [vR a0, vR a1, vR a2, vR a3, vI y0, vU, vU] [] D')) : Sg g M_Na_divideBy Q 54 [vR a0, vR a1, vR a2, vR a3, z4, z5, z6] [vI y0] D := by
  unfold Sg
  refine q_mask [false, false, false, false, true, true, true] (L' := [vR a0, vR a1, vR a2, vR a3, vU, vU, vU]) rfl ?_
  refine q_istore d_Na_divideBy_54 (by decide) (L' := [vR a0, vR a1, vR a2, vR a3, vI y0, vU, vU]) rfl ?_
  refine q_aload_n d_Na_divideBy_56 rfl ?_
  refine q_aload_n d_Na_divideBy_57 rfl ?_
  refine p_callV (as := [vR a1]) (st := []) (a := a3) mc_Na_copyFrom mv_Na_copyFrom l_Na_53 zc_Na rfl d_Na_divideBy_58 rfl rfl rfl k_a3 (CV.to ?_)
  exact h
theorem s_Na_divideBy_34 {a0 : Nat} {a1 : Nat} {a2 : Nat} {z3 : VV} {z4 : VV} {z5 : VV} {z6 : VV} (k_a0 : zk a0 = (0, 3, 0)) (k_a1 : zk a1 = (0, 3, 0)) (k_a2 : zk a2 = (0, 3, 0)) (h : CI g M_Na_divideSmall [vR a2, vI (D (a1 + 1) 0)] D (fun v1 D' => Sg g M_Na_divideBy Q 45 [vR a0, vR a1, vR a2, vU, vU, vU, vU] [vI v1, vR a0] D')) : Sg g M_Na_divideBy Q 34 [vR a0, vR a1, vR a2, z3, z4, z5, z6] [] D := by
  unfold Sg
  refine q_mask [false, false, false, true, true, true, true] (L' := [vR a0, vR a1, vR a2, vU, vU, vU, vU]) rfl ?_
  refine q_aload_n d_Na_divideBy_34 rfl ?_
  refine q_aload_n d_Na_divideBy_35 rfl ?_
  refine q_aload_n d_Na_divideBy_36 rfl ?_
  refine p_getR (k := 0) (b := (a1 + 1)) zc_Na l_Na_9 fr_Na_digits d_Na_divideBy_37 k_a1 rfl ?_
  refine q_iconst d_Na_divideBy_40 (by decide) ?_
  refine p_iald d_Na_divideBy_41 (zs_Na_digits k_a1) (by decide) ?_
  refine p_callV (as := [vI (D (a1 + 1) 0)]) (st := [vR a0]) (a := a2) mc_Na_divideSmall mv_Na_divideSmall l_Na_57 zc_Na rfl d_Na_divideBy_42 rfl rfl rfl k_a2 (CI.to ?_)
  exact h
theorem s_Na_divideBy_61 {a0 : Nat} {z1 : VV} {a2 : Nat} {a3 : Nat} {x4 : Int} {z5 : VV} {z6 : VV} (k_a0 : zk a0 = (0, 3, 0)) (k_a2 : zk a2 = (0, 3, 0)) (k_a3 : zk a3 = (0, 3, 0)) (h : CV g M_Na_shiftUp [vR a3, vI x4] D (fun D' => Sg g M_Na_divideBy Q 67 [vR a0, vU, vR a2, vR a3, vI x4, vU, vU] [] D')) : Sg g M_Na_divideBy Q 61 [vR a0, z1, vR a2, vR a3, vI x4, z5, z6] [] D := by
  unfold Sg
  refine q_mask [false, true, false, false, false, true, true] (L' := [vR a0, vU, vR a2, vR a3, vI x4, vU, vU]) rfl ?_
  refine q_aload_n d_Na_divideBy_61 rfl ?_
  refine q_iload d_Na_divideBy_62 rfl ?_
  refine p_callV (as := [vI x4]) (st := []) (a := a3) mc_Na_shiftUp mv_Na_shiftUp l_Na_68 zc_Na rfl d_Na_divideBy_64 rfl rfl rfl k_a3 (CV.to ?_)
  exact h
theorem s_Na_divideBy_45 {z0 : VV} {z1 : VV} {z2 : VV} {z3 : VV} {z4 : VV} {z5 : VV} {z6 : VV} {y0 : Int} {a0 : Nat} (k_a0 : zk a0 = (0, 3, 0)) (h : CV g M_Na_setSmall [vR a0, vL y0] D (fun D' => Sg g M_Na_divideBy Q 49 [vU, vU, vU, vU, vU, vU, vU] [] D')) : Sg g M_Na_divideBy Q 45 [z0, z1, z2, z3, z4, z5, z6] [vI y0, vR a0] D := by
  unfold Sg
  refine q_mask [true, true, true, true, true, true, true] (L' := [vU, vU, vU, vU, vU, vU, vU]) rfl ?_
  refine q_i2l d_Na_divideBy_45 ?_
  refine p_callV (as := [vL y0]) (st := []) (a := a0) mc_Na_setSmall mv_Na_setSmall l_Na_61 zc_Na rfl d_Na_divideBy_46 rfl rfl rfl k_a0 (CV.to ?_)
  exact h
theorem s_Na_divideBy_67 {a0 : Nat} {z1 : VV} {a2 : Nat} {a3 : Nat} {x4 : Int} {z5 : VV} {z6 : VV} (k_a0 : zk a0 = (0, 3, 0)) (k_a2 : zk a2 = (0, 3, 0)) (k_a3 : zk a3 = (0, 3, 0)) (h : CV g M_Na_shiftUp [vR a0, vI x4] D (fun D' => Sg g M_Na_divideBy Q 73 [vR a0, vU, vR a2, vR a3, vI x4, vU, vU] [] D')) : Sg g M_Na_divideBy Q 67 [vR a0, z1, vR a2, vR a3, vI x4, z5, z6] [] D := by
  unfold Sg
  refine q_mask [false, true, false, false, false, true, true] (L' := [vR a0, vU, vR a2, vR a3, vI x4, vU, vU]) rfl ?_
  refine q_aload_n d_Na_divideBy_67 rfl ?_
  refine q_iload d_Na_divideBy_68 rfl ?_
  refine p_callV (as := [vI x4]) (st := []) (a := a0) mc_Na_shiftUp mv_Na_shiftUp l_Na_68 zc_Na rfl d_Na_divideBy_70 rfl rfl rfl k_a0 (CV.to ?_)
  exact h
theorem s_Na_divideBy_49 {z0 : VV} {z1 : VV} {z2 : VV} {z3 : VV} {z4 : VV} {z5 : VV} {z6 : VV}  (h : Q none zE D) : Sg g M_Na_divideBy Q 49 [z0, z1, z2, z3, z4, z5, z6] [] D := by
  unfold Sg
  refine q_mask [true, true, true, true, true, true, true] (L' := [vU, vU, vU, vU, vU, vU, vU]) rfl ?_
  exact q_vret d_Na_divideBy_49 rfl ⟨Nat.le_refl _, Nat.le_refl _⟩ h
theorem s_Na_divideBy_73 {a0 : Nat} {z1 : VV} {a2 : Nat} {a3 : Nat} {x4 : Int} {z5 : VV} {z6 : VV} (k_a0 : zk a0 = (0, 3, 0)) (k_a2 : zk a2 = (0, 3, 0)) (k_a3 : zk a3 = (0, 3, 0)) (h : (R32 ((D a0 1) - (D a3 1))) ∧ ((((D a0 1) - (D a3 1)) < 0 → Q none zE D) ∧ (¬ ((D a0 1) - (D a3 1)) < 0 → (((D a0 1) < 32 → ((0 ≤ D a0 1 ∧ D a0 1 < 32)) ∧ (∀ D5, D5 = zw D (a0 + 1) (D a0 1) 0 → Sg g M_Na_divideBy Q 113 [vR a0, vU, vR a2, vR a3, vI x4, vI ((D a0 1) - (D a3 1)), vI ((D a0 1) - (D a3 1))] [] D5)) ∧ (¬ (D a0 1) < 32 → Q none zE D))))) : Sg g M_Na_divideBy Q 73 [vR a0, z1, vR a2, vR a3, vI x4, z5, z6] [] D := by
  unfold Sg
  refine q_mask [false, true, false, false, false, true, true] (L' := [vR a0, vU, vR a2, vR a3, vI x4, vU, vU]) rfl ?_
  obtain ⟨o1, h⟩ := h
  refine q_aload_n d_Na_divideBy_73 rfl ?_
  refine p_getI (k := 1) zc_Na l_Na_15 fi_Na_size d_Na_divideBy_74 k_a0 ?_
  refine q_aload_n d_Na_divideBy_77 rfl ?_
  refine p_getI (k := 1) zc_Na l_Na_15 fi_Na_size d_Na_divideBy_78 k_a3 ?_
  refine q_isub d_Na_divideBy_81 o1 ?_
  refine q_istore d_Na_divideBy_82 (by decide) (L' := [vR a0, vU, vR a2, vR a3, vI x4, vI ((D a0 1) - (D a3 1)), vU]) rfl ?_
  refine q_iload d_Na_divideBy_84 rfl ?_
  refine q_if_lt (tgt := 98) d_Na_divideBy_86 (by decide) (fun c2 => ?_) (fun c2 => ?_)
  · have h := h.1 (c2)
    exact q_vret d_Na_divideBy_98 rfl ⟨Nat.le_refl _, Nat.le_refl _⟩ h
  · have h := h.2 (c2)
    refine q_aload_n d_Na_divideBy_89 rfl ?_
    refine p_getI (k := 1) zc_Na l_Na_15 fi_Na_size d_Na_divideBy_90 k_a0 ?_
    refine q_bipush d_Na_divideBy_93 kb_32 ?_
    refine q_icmp_lt (tgt := 99) d_Na_divideBy_95 (by decide) (fun c3 => ?_) (fun c3 => ?_)
    · have h := h.1 (c3)
      obtain ⟨o4, h⟩ := h
      refine q_aload_n d_Na_divideBy_99 rfl ?_
      refine p_getR (k := 0) (b := (a0 + 1)) zc_Na l_Na_9 fr_Na_digits d_Na_divideBy_100 k_a0 rfl ?_
      refine q_aload_n d_Na_divideBy_103 rfl ?_
      refine p_getI (k := 1) zc_Na l_Na_15 fi_Na_size d_Na_divideBy_104 k_a0 ?_
      refine q_iconst d_Na_divideBy_107 (by decide) ?_
      refine p_iast d_Na_divideBy_108 (zs_Na_digits k_a0) o4 (fun D5 e6 => ?_)
      have h := h D5 e6
      refine q_iload d_Na_divideBy_109 rfl ?_
      refine q_istore d_Na_divideBy_111 (by decide) (L' := [vR a0, vU, vR a2, vR a3, vI x4, vI ((D a0 1) - (D a3 1)), vI ((D a0 1) - (D a3 1))]) rfl ?_
      exact h
    · have h := h.2 (c3)
      exact q_vret d_Na_divideBy_98 rfl ⟨Nat.le_refl _, Nat.le_refl _⟩ h
theorem s_Na_divideBy_113 {a0 : Nat} {z1 : VV} {a2 : Nat} {a3 : Nat} {x4 : Int} {x5 : Int} {x6 : Int} (k_a0 : zk a0 = (0, 3, 0)) (k_a2 : zk a2 = (0, 3, 0)) (k_a3 : zk a3 = (0, 3, 0)) (h : ((x6 < 0 → (R32 (x5 + 1)) ∧ (∀ D3, D3 = zw D a2 1 (x5 + 1) → CV g M_Na_trim [vR a2] D3 (fun D' => Sg g M_Na_divideBy Q 151 [vR a0, vU, vR a2, vR a3, vI x4, vI x5, vI x6] [] D'))) ∧ (¬ x6 < 0 → CL g M_Na_takeMultiple [vR a0, vR a3, vI x6] D (fun v6 D' => Sg g M_Na_divideBy Q 131 [vR a0, vU, vR a2, vR a3, vI x4, vI x5, vI x6] [vL v6, vI x6, vR (a2 + 1)] D')))) : Sg g M_Na_divideBy Q 113 [vR a0, z1, vR a2, vR a3, vI x4, vI x5, vI x6] [] D := by
  unfold Sg
  refine q_mask [false, true, false, false, false, false, false] (L' := [vR a0, vU, vR a2, vR a3, vI x4, vI x5, vI x6]) rfl ?_
  refine q_iload d_Na_divideBy_113 rfl ?_
  refine q_if_lt (tgt := 139) d_Na_divideBy_115 (by decide) (fun c1 => ?_) (fun c1 => ?_)
  · have h := h.1 (c1)
    obtain ⟨o2, h⟩ := h
    refine q_aload_n d_Na_divideBy_139 rfl ?_
    refine q_iload d_Na_divideBy_140 rfl ?_
    refine q_iconst d_Na_divideBy_142 (by decide) ?_
    refine q_iadd d_Na_divideBy_143 o2 ?_
    refine p_putI (k := 1) zc_Na l_Na_15 fp_Na_size (Or.inl rfl) d_Na_divideBy_144 k_a2 (fun D3 e4 => ?_)
    have h := h D3 e4
    refine q_aload_n d_Na_divideBy_147 rfl ?_
    refine p_callV (as := []) (st := []) (a := a2) mc_Na_trim mv_Na_trim l_Na_37 zc_Na rfl d_Na_divideBy_148 rfl rfl rfl k_a2 (CV.to ?_)
    exact h
  · have h := h.2 (c1)
    refine q_aload_n d_Na_divideBy_118 rfl ?_
    refine p_getR (k := 0) (b := (a2 + 1)) zc_Na l_Na_9 fr_Na_digits d_Na_divideBy_119 k_a2 rfl ?_
    refine q_iload d_Na_divideBy_122 rfl ?_
    refine q_aload_n d_Na_divideBy_124 rfl ?_
    refine q_aload_n d_Na_divideBy_125 rfl ?_
    refine q_iload d_Na_divideBy_126 rfl ?_
    refine p_callV (as := [vR a3, vI x6]) (st := [vI x6, vR (a2 + 1)]) (a := a0) mc_Na_takeMultiple mv_Na_takeMultiple l_Na_72 zc_Na rfl d_Na_divideBy_128 rfl rfl rfl k_a0 (CL.to ?_)
    exact h
theorem s_Na_divideBy_151 {a0 : Nat} {z1 : VV} {z2 : VV} {a3 : Nat} {x4 : Int} {z5 : VV} {z6 : VV} (k_a0 : zk a0 = (0, 3, 0)) (k_a3 : zk a3 = (0, 3, 0)) (h : (∀ D1, D1 = zw D a0 1 (D a3 1) → CV g M_Na_trim [vR a0] D1 (fun D' => Sg g M_Na_divideBy Q 163 [vR a0, vU, vU, vR a3, vI x4, vU, vU] [] D'))) : Sg g M_Na_divideBy Q 151 [vR a0, z1, z2, vR a3, vI x4, z5, z6] [] D := by
  unfold Sg
  refine q_mask [false, true, true, false, false, true, true] (L' := [vR a0, vU, vU, vR a3, vI x4, vU, vU]) rfl ?_
  refine q_aload_n d_Na_divideBy_151 rfl ?_
  refine q_aload_n d_Na_divideBy_152 rfl ?_
  refine p_getI (k := 1) zc_Na l_Na_15 fi_Na_size d_Na_divideBy_153 k_a3 ?_
  refine p_putI (k := 1) zc_Na l_Na_15 fp_Na_size (Or.inl rfl) d_Na_divideBy_156 k_a0 (fun D1 e2 => ?_)
  have h := h D1 e2
  refine q_aload_n d_Na_divideBy_159 rfl ?_
  refine p_callV (as := []) (st := []) (a := a0) mc_Na_trim mv_Na_trim l_Na_37 zc_Na rfl d_Na_divideBy_160 rfl rfl rfl k_a0 (CV.to ?_)
  exact h
theorem s_Na_divideBy_131 {a0 : Nat} {z1 : VV} {a2 : Nat} {a3 : Nat} {x4 : Int} {x5 : Int} {x6 : Int} {y0 : Int} {y1 : Int} (k_a0 : zk a0 = (0, 3, 0)) (k_a2 : zk a2 = (0, 3, 0)) (k_a3 : zk a3 = (0, 3, 0)) (h : (R32 y0 ∧ (0 ≤ y1 ∧ y1 < 32)) ∧ (∀ D3, D3 = zw D (a2 + 1) y1 y0 → (R32 (x6 + (-1))) ∧ Sg g M_Na_divideBy Q 113 [vR a0, vU, vR a2, vR a3, vI x4, vI x5, vI (x6 + (-1))] [] D3)) : Sg g M_Na_divideBy Q 131 [vR a0, z1, vR a2, vR a3, vI x4, vI x5, vI x6] [vL y0, vI y1, vR (a2 + 1)] D := by
  unfold Sg
  refine q_mask [false, true, false, false, false, false, false] (L' := [vR a0, vU, vR a2, vR a3, vI x4, vI x5, vI x6]) rfl ?_
  obtain ⟨⟨o1, o2⟩, h⟩ := h
  refine q_l2i d_Na_divideBy_131 o1 ?_
  refine p_iast d_Na_divideBy_132 (zs_Na_digits k_a2) o2 (fun D3 e4 => ?_)
  have h := h D3 e4
  obtain ⟨o5, h⟩ := h
  refine q_iinc d_Na_divideBy_133 rfl (by decide) o5 (L' := [vR a0, vU, vR a2, vR a3, vI x4, vI x5, vI (x6 + (-1))]) rfl ?_
  refine q_goto (tgt := 113) d_Na_divideBy_136 (by decide) ?_
  exact h
theorem s_Na_divideBy_163 {a0 : Nat} {z1 : VV} {z2 : VV} {z3 : VV} {x4 : Int} {z5 : VV} {z6 : VV} (k_a0 : zk a0 = (0, 3, 0)) (h : CV g M_Na_shiftDown [vR a0, vI x4] D (fun D' => Sg g M_Na_divideBy Q 169 [vR a0, vU, vU, vU, vI x4, vU, vU] [] D')) : Sg g M_Na_divideBy Q 163 [vR a0, z1, z2, z3, vI x4, z5, z6] [] D := by
  unfold Sg
  refine q_mask [false, true, true, true, false, true, true] (L' := [vR a0, vU, vU, vU, vI x4, vU, vU]) rfl ?_
  refine q_aload_n d_Na_divideBy_163 rfl ?_
  refine q_iload d_Na_divideBy_164 rfl ?_
  refine p_callV (as := [vI x4]) (st := []) (a := a0) mc_Na_shiftDown mv_Na_shiftDown l_Na_76 zc_Na rfl d_Na_divideBy_166 rfl rfl rfl k_a0 (CV.to ?_)
  exact h
theorem s_Na_divideBy_169 {z0 : VV} {z1 : VV} {z2 : VV} {z3 : VV} {z4 : VV} {z5 : VV} {z6 : VV}  (h : Q none zE D) : Sg g M_Na_divideBy Q 169 [z0, z1, z2, z3, z4, z5, z6] [] D := by
  unfold Sg
  refine q_mask [true, true, true, true, true, true, true] (L' := [vU, vU, vU, vU, vU, vU, vU]) rfl ?_
  exact q_vret d_Na_divideBy_169 rfl ⟨Nat.le_refl _, Nat.le_refl _⟩ h
theorem s_Na_takeMultiple_0 {a0 : Nat} {a1 : Nat} {x2 : Int} (k_a0 : zk a0 = (0, 3, 0)) (k_a1 : zk a1 = (0, 3, 0)) (h : (R32 (x2 + (D a1 1))) ∧ ((x2 < 0 → Q (some (vL 0)) zE D) ∧ (¬ x2 < 0 → (((D a1 1) < 2 → Q (some (vL 0)) zE D) ∧ (¬ (D a1 1) < 2 → ((32 ≤ (x2 + (D a1 1)) → Q (some (vL 0)) zE D) ∧ (¬ 32 ≤ (x2 + (D a1 1)) → (R32 ((D a1 1) - 1) ∧ (0 ≤ (D a1 1) - 1 ∧ (D a1 1) - 1 < 32)) ∧ ((¬ (D (a1 + 1) ((D a1 1) - 1)) = 0 → CL g M_Na_guessMultiple [vR a0, vR a1, vI (x2 + (D a1 1))] D (fun v8 D' => Sg g M_Na_takeMultiple Q 47 [vR a0, vR a1, vI x2, vI (x2 + (D a1 1)), vU, vU, vU, vU, vU, vU, vU] [vL v8] D')) ∧ ((D (a1 + 1) ((D a1 1) - 1)) = 0 → Q (some (vL 0)) zE D))))))))) : Sg g M_Na_takeMultiple Q 0 [vR a0, vR a1, vI x2, vU, vU, vU, vU, vU, vU, vU, vU] [] D := by
  unfold Sg
  obtain ⟨o1, h⟩ := h
  refine q_iload_n d_Na_takeMultiple_0 rfl ?_
  refine q_aload_n d_Na_takeMultiple_1 rfl ?_
  refine p_getI (k := 1) zc_Na l_Na_15 fi_Na_size d_Na_takeMultiple_2 k_a1 ?_
  refine q_iadd d_Na_takeMultiple_5 o1 ?_
  refine q_istore_n d_Na_takeMultiple_6 (by decide) (L' := [vR a0, vR a1, vI x2, vI (x2 + (D a1 1)), vU, vU, vU, vU, vU, vU, vU]) rfl ?_
  refine q_iload_n d_Na_takeMultiple_7 rfl ?_
  refine q_if_lt (tgt := 39) d_Na_takeMultiple_8 (by decide) (fun c2 => ?_) (fun c2 => ?_)
  · have h := h.1 (c2)
    refine q_lconst (x := 0) d_Na_takeMultiple_39 ⟨rfl, by decide⟩ ?_
    exact q_lret d_Na_takeMultiple_40 rfl ⟨Nat.le_refl _, Nat.le_refl _⟩ h
  · have h := h.2 (c2)
    refine q_aload_n d_Na_takeMultiple_11 rfl ?_
    refine p_getI (k := 1) zc_Na l_Na_15 fi_Na_size d_Na_takeMultiple_12 k_a1 ?_
    refine q_iconst d_Na_takeMultiple_15 (by decide) ?_
    refine q_icmp_lt (tgt := 39) d_Na_takeMultiple_16 (by decide) (fun c3 => ?_) (fun c3 => ?_)
    · have h := h.1 (c3)
      refine q_lconst (x := 0) d_Na_takeMultiple_39 ⟨rfl, by decide⟩ ?_
      exact q_lret d_Na_takeMultiple_40 rfl ⟨Nat.le_refl _, Nat.le_refl _⟩ h
    · have h := h.2 (c3)
      refine q_iload_n d_Na_takeMultiple_19 rfl ?_
      refine q_bipush d_Na_takeMultiple_20 kb_32 ?_
      refine q_icmp_ge (tgt := 39) d_Na_takeMultiple_22 (by decide) (fun c4 => ?_) (fun c4 => ?_)
      · have h := h.1 (c4)
        refine q_lconst (x := 0) d_Na_takeMultiple_39 ⟨rfl, by decide⟩ ?_
        exact q_lret d_Na_takeMultiple_40 rfl ⟨Nat.le_refl _, Nat.le_refl _⟩ h
      · have h := h.2 (c4)
        obtain ⟨⟨o5, o6⟩, h⟩ := h
        refine q_aload_n d_Na_takeMultiple_25 rfl ?_
        refine p_getR (k := 0) (b := (a1 + 1)) zc_Na l_Na_9 fr_Na_digits d_Na_takeMultiple_26 k_a1 rfl ?_
        refine q_aload_n d_Na_takeMultiple_29 rfl ?_
        refine p_getI (k := 1) zc_Na l_Na_15 fi_Na_size d_Na_takeMultiple_30 k_a1 ?_
        refine q_iconst d_Na_takeMultiple_33 (by decide) ?_
        refine q_isub d_Na_takeMultiple_34 o5 ?_
        refine p_iald d_Na_takeMultiple_35 (zs_Na_digits k_a1) o6 ?_
        refine q_if_ne (tgt := 41) d_Na_takeMultiple_36 (by decide) (fun c7 => ?_) (fun c7 => ?_)
        · have h := h.1 (c7)
          refine q_aload_n d_Na_takeMultiple_41 rfl ?_
          refine q_aload_n d_Na_takeMultiple_42 rfl ?_
          refine q_iload_n d_Na_takeMultiple_43 rfl ?_
          refine p_callV (as := [vR a1, vI (x2 + (D a1 1))]) (st := []) (a := a0) mc_Na_guessMultiple mv_Na_guessMultiple l_Na_79 zc_Na rfl d_Na_takeMultiple_44 rfl rfl rfl k_a0 (CL.to ?_)
          exact h
        · have h := h.2 (c7)
          refine q_lconst (x := 0) d_Na_takeMultiple_39 ⟨rfl, by decide⟩ ?_
          exact q_lret d_Na_takeMultiple_40 rfl ⟨Nat.le_refl _, Nat.le_refl _⟩ h
theorem s_Na_takeMultiple_47 {a0 : Nat} {a1 : Nat} {x2 : Int} {x3 : Int} {z4 : VV} {z5 : VV} {z6 : VV} {z7 : VV} {z8 : VV} {z9 : VV} {z10 : VV} {y0 : Int} (k_a0 : zk a0 = (0, 3, 0)) (k_a1 : zk a1 = (0, 3, 0)) (h : Sg g M_Na_takeMultiple Q 55 [vR a0, vR a1, vI x2, vI x3, vL y0, vU, vL 0, vU, vI 0, vU, vU] [] D) : Sg g M_Na_takeMultiple Q 47 [vR a0, vR a1, vI x2, vI x3, z4, z5, z6, z7, z8, z9, z10] [vL y0] D := by
  unfold Sg
  refine q_mask [false, false, false, false, true, true, true, true, true, true, true] (L' := [vR a0, vR a1, vI x2, vI x3, vU, vU, vU, vU, vU, vU, vU]) rfl ?_
  refine q_lstore d_Na_takeMultiple_47 (by decide) (L' := [vR a0, vR a1, vI x2, vI x3, vL y0, vU, vU, vU, vU, vU, vU]) rfl ?_
  refine q_lconst (x := 0) d_Na_takeMultiple_49 ⟨rfl, by decide⟩ ?_
  refine q_lstore d_Na_takeMultiple_50 (by decide) (L' := [vR a0, vR a1, vI x2, vI x3, vL y0, vU, vL 0, vU, vU, vU, vU]) rfl ?_
  refine q_iconst d_Na_takeMultiple_52 (by decide) ?_
  refine q_istore d_Na_takeMultiple_53 (by decide) (L' := [vR a0, vR a1, vI x2, vI x3, vL y0, vU, vL 0, vU, vI 0, vU, vU]) rfl ?_
  exact h
theorem s_Na_takeMultiple_55 {a0 : Nat} {a1 : Nat} {x2 : Int} {x3 : Int} {x4 : Int} {x6 : Int} {x8 : Int} {z9 : VV} {z10 : VV} (k_a0 : zk a0 = (0, 3, 0)) (k_a1 : zk a1 = (0, 3, 0)) (h : (((D a1 1) ≤ x8 → ((0 ≤ x3 ∧ x3 < 32) ∧ R64 ((D (a0 + 1) x3) - x6)) ∧ ((0 ≤ ((D (a0 + 1) x3) - x6) → Sg g M_Na_takeMultiple Q 242 [vR a0, vR a1, vI x2, vI x3, vL x4, vU, vL x6, vU, vL ((D (a0 + 1) x3) - x6), vU, vU] [] D) ∧ (¬ 0 ≤ ((D (a0 + 1) x3) - x6) → (R64 (x4 - 1)) ∧ Sg g M_Na_takeMultiple Q 173 [vR a0, vR a1, vI x2, vI x3, vL (x4 - 1), vU, vL 0, vU, vL ((D (a0 + 1) x3) - x6), vU, vI 0] [] D))) ∧ (¬ (D a1 1) ≤ x8 → ((0 ≤ x8 ∧ x8 < 32) ∧ R64 (x4 * (D (a1 + 1) x8)) ∧ R64 (x6 + (x4 * (D (a1 + 1) x8))) ∧ R32 (x2 + x8) ∧ (0 ≤ x2 + x8 ∧ x2 + x8 < 32) ∧ R64 ((D (a0 + 1) (x2 + x8)) - ((x6 + (x4 * (D (a1 + 1) x8))) % 2 ^ 31)) ∧ R32 (x2 + x8) ∧ R32 (((D (a0 + 1) (x2 + x8)) - ((x6 + (x4 * (D (a1 + 1) x8))) % 2 ^ 31)) % 2 ^ 31) ∧ (0 ≤ x2 + x8 ∧ x2 + x8 < 32)) ∧ (∀ D15, D15 = zw D (a0 + 1) (x2 + x8) (((D (a0 + 1) (x2 + x8)) - ((x6 + (x4 * (D (a1 + 1) x8))) % 2 ^ 31)) % 2 ^ 31) → ((0 ≤ ((D (a0 + 1) (x2 + x8)) - ((x6 + (x4 * (D (a1 + 1) x8))) % 2 ^ 31)) → Sg g M_Na_takeMultiple Q 132 [vR a0, vR a1, vI x2, vI x3, vL x4, vU, vL (x6 + (x4 * (D (a1 + 1) x8))), vU, vI x8, vL ((D (a0 + 1) (x2 + x8)) - ((x6 + (x4 * (D (a1 + 1) x8))) % 2 ^ 31)), vU] [vI 0, vL ((x6 + (x4 * (D (a1 + 1) x8))) / 2 ^ 31)] D15) ∧ (¬ 0 ≤ ((D (a0 + 1) (x2 + x8)) - ((x6 + (x4 * (D (a1 + 1) x8))) % 2 ^ 31)) → Sg g M_Na_takeMultiple Q 132 [vR a0, vR a1, vI x2, vI x3, vL x4, vU, vL (x6 + (x4 * (D (a1 + 1) x8))), vU, vI x8, vL ((D (a0 + 1) (x2 + x8)) - ((x6 + (x4 * (D (a1 + 1) x8))) % 2 ^ 31)), vU] [vI 1, vL ((x6 + (x4 * (D (a1 + 1) x8))) / 2 ^ 31)] D15)))))) : Sg g M_Na_takeMultiple Q 55 [vR a0, vR a1, vI x2, vI x3, vL x4, vU, vL x6, vU, vI x8, z9, z10] [] D := by
  unfold Sg
  refine q_mask [false, false, false, false, false, false, false, false, false, true, true] (L' := [vR a0, vR a1, vI x2, vI x3, vL x4, vU, vL x6, vU, vI x8, vU, vU]) rfl ?_
  refine q_iload d_Na_takeMultiple_55 rfl ?_
  refine q_aload_n d_Na_takeMultiple_57 rfl ?_
  refine p_getI (k := 1) zc_Na l_Na_15 fi_Na_size d_Na_takeMultiple_58 k_a1 ?_
  refine q_icmp_ge (tgt := 142) d_Na_takeMultiple_61 (by decide) (fun c1 => ?_) (fun c1 => ?_)
  · have h := h.1 (c1)
    obtain ⟨⟨o2, o3⟩, h⟩ := h
    refine q_aload_n d_Na_takeMultiple_142 rfl ?_
    refine p_getR (k := 0) (b := (a0 + 1)) zc_Na l_Na_9 fr_Na_digits d_Na_takeMultiple_143 k_a0 rfl ?_
    refine q_iload_n d_Na_takeMultiple_146 rfl ?_
    refine p_iald d_Na_takeMultiple_147 (zs_Na_digits k_a0) o2 ?_
    refine q_i2l d_Na_takeMultiple_148 ?_
    refine q_lload d_Na_takeMultiple_149 rfl ?_
    refine q_lsub d_Na_takeMultiple_151 o3 ?_
    refine q_lstore d_Na_takeMultiple_152 (by decide) (L' := [vR a0, vR a1, vI x2, vI x3, vL x4, vU, vL x6, vU, vL ((D (a0 + 1) x3) - x6), vU, vU]) rfl ?_
    refine q_lload d_Na_takeMultiple_154 rfl ?_
    refine q_lconst (x := 0) d_Na_takeMultiple_156 ⟨rfl, by decide⟩ ?_
    refine q_lcmp d_Na_takeMultiple_157 ?_
    refine q_if_ge (tgt := 242) d_Na_takeMultiple_158 (by decide) (fun c4 => ?_) (fun c4 => ?_)
    · have h := h.1 (zcmp_ge.mp c4)
      exact h
    · have h := h.2 ((not_congr zcmp_ge).mp c4)
      obtain ⟨o5, h⟩ := h
      refine q_lload d_Na_takeMultiple_161 rfl ?_
      refine q_lconst (x := 1) d_Na_takeMultiple_163 ⟨rfl, by decide⟩ ?_
      refine q_lsub d_Na_takeMultiple_164 o5 ?_
      refine q_lstore d_Na_takeMultiple_165 (by decide) (L' := [vR a0, vR a1, vI x2, vI x3, vL (x4 - 1), vU, vL x6, vU, vL ((D (a0 + 1) x3) - x6), vU, vU]) rfl ?_
      refine q_lconst (x := 0) d_Na_takeMultiple_167 ⟨rfl, by decide⟩ ?_
      refine q_lstore d_Na_takeMultiple_168 (by decide) (L' := [vR a0, vR a1, vI x2, vI x3, vL (x4 - 1), vU, vL 0, vU, vL ((D (a0 + 1) x3) - x6), vU, vU]) rfl ?_
      refine q_iconst d_Na_takeMultiple_170 (by decide) ?_
      refine q_istore d_Na_takeMultiple_171 (by decide) (L' := [vR a0, vR a1, vI x2, vI x3, vL (x4 - 1), vU, vL 0, vU, vL ((D (a0 + 1) x3) - x6), vU, vI 0]) rfl ?_
      exact h
  · have h := h.2 (c1)
    obtain ⟨⟨o6, o7, o8, o9, o10, o11, o12, o13, o14⟩, h⟩ := h
    refine q_lload d_Na_takeMultiple_64 rfl ?_
    refine q_lload d_Na_takeMultiple_66 rfl ?_
    refine q_aload_n d_Na_takeMultiple_68 rfl ?_
    refine p_getR (k := 0) (b := (a1 + 1)) zc_Na l_Na_9 fr_Na_digits d_Na_takeMultiple_69 k_a1 rfl ?_
    refine q_iload d_Na_takeMultiple_72 rfl ?_
    refine p_iald d_Na_takeMultiple_74 (zs_Na_digits k_a1) o6 ?_
    refine q_i2l d_Na_takeMultiple_75 ?_
    refine q_lmul d_Na_takeMultiple_76 o7 ?_
    refine q_ladd d_Na_takeMultiple_77 o8 ?_
    refine q_lstore d_Na_takeMultiple_78 (by decide) (L' := [vR a0, vR a1, vI x2, vI x3, vL x4, vU, vL (x6 + (x4 * (D (a1 + 1) x8))), vU, vI x8, vU, vU]) rfl ?_
    refine q_aload_n d_Na_takeMultiple_80 rfl ?_
    refine p_getR (k := 0) (b := (a0 + 1)) zc_Na l_Na_9 fr_Na_digits d_Na_takeMultiple_81 k_a0 rfl ?_
    refine q_iload_n d_Na_takeMultiple_84 rfl ?_
    refine q_iload d_Na_takeMultiple_85 rfl ?_
    refine q_iadd d_Na_takeMultiple_87 o9 ?_
    refine p_iald d_Na_takeMultiple_88 (zs_Na_digits k_a0) o10 ?_
    refine q_i2l d_Na_takeMultiple_89 ?_
    refine q_lload d_Na_takeMultiple_90 rfl ?_
    refine q_ldc2 (x := 2147483647) l_Na_19 d_Na_takeMultiple_92 (by decide) ?_
    refine q_land 31 d_Na_takeMultiple_95 ⟨by decide +kernel, by decide⟩ ?_
    refine q_lsub d_Na_takeMultiple_96 o11 ?_
    refine q_lstore d_Na_takeMultiple_97 (by decide) (L' := [vR a0, vR a1, vI x2, vI x3, vL x4, vU, vL (x6 + (x4 * (D (a1 + 1) x8))), vU, vI x8, vL ((D (a0 + 1) (x2 + x8)) - ((x6 + (x4 * (D (a1 + 1) x8))) % 2 ^ 31)), vU]) rfl ?_
    refine q_aload_n d_Na_takeMultiple_99 rfl ?_
    refine p_getR (k := 0) (b := (a0 + 1)) zc_Na l_Na_9 fr_Na_digits d_Na_takeMultiple_100 k_a0 rfl ?_
    refine q_iload_n d_Na_takeMultiple_103 rfl ?_
    refine q_iload d_Na_takeMultiple_104 rfl ?_
    refine q_iadd d_Na_takeMultiple_106 o12 ?_
    refine q_lload d_Na_takeMultiple_107 rfl ?_
    refine q_ldc2 (x := 2147483647) l_Na_19 d_Na_takeMultiple_109 (by decide) ?_
    refine q_land 31 d_Na_takeMultiple_112 ⟨by decide +kernel, by decide⟩ ?_
    refine q_l2i d_Na_takeMultiple_113 o13 ?_
    refine p_iast d_Na_takeMultiple_114 (zs_Na_digits k_a0) o14 (fun D15 e16 => ?_)
    have h := h D15 e16
    refine q_lload d_Na_takeMultiple_115 rfl ?_
    refine q_bipush d_Na_takeMultiple_117 kb_31 ?_
    refine q_lshr d_Na_takeMultiple_119 (by decide) ?_
    refine q_lload d_Na_takeMultiple_120 rfl ?_
    refine q_lconst (x := 0) d_Na_takeMultiple_122 ⟨rfl, by decide⟩ ?_
    refine q_lcmp d_Na_takeMultiple_123 ?_
    refine q_if_ge (tgt := 131) d_Na_takeMultiple_124 (by decide) (fun c17 => ?_) (fun c17 => ?_)
    · have h := h.1 (zcmp_ge.mp c17)
      refine q_iconst d_Na_takeMultiple_131 (by decide) ?_
      exact h
    · have h := h.2 ((not_congr zcmp_ge).mp c17)
      refine q_iconst d_Na_takeMultiple_127 (by decide) ?_
      refine q_goto (tgt := 132) d_Na_takeMultiple_128 (by decide) ?_
      exact h
theorem s_Na_takeMultiple_242 {a0 : Nat} {z1 : VV} {z2 : VV} {x3 : Int} {x4 : Int} {z6 : VV} {z7 : VV} {x8 : Int} {z10 : VV} (k_a0 : zk a0 = (0, 3, 0)) (h : (R32 (x8 % 2 ^ 31) ∧ (0 ≤ x3 ∧ x3 < 32)) ∧ (∀ D3, D3 = zw D (a0 + 1) x3 (x8 % 2 ^ 31) → Q (some (vL x4)) zE D3)) : Sg g M_Na_takeMultiple Q 242 [vR a0, z1, z2, vI x3, vL x4, vU, z6, z7, vL x8, vU, z10] [] D := by
  unfold Sg
  refine q_mask [false, true, true, false, false, false, true, true, false, false, true] (L' := [vR a0, vU, vU, vI x3, vL x4, vU, vU, vU, vL x8, vU, vU]) rfl ?_
  obtain ⟨⟨o1, o2⟩, h⟩ := h
  refine q_aload_n d_Na_takeMultiple_242 rfl ?_
  refine p_getR (k := 0) (b := (a0 + 1)) zc_Na l_Na_9 fr_Na_digits d_Na_takeMultiple_243 k_a0 rfl ?_
  refine q_iload_n d_Na_takeMultiple_246 rfl ?_
  refine q_lload d_Na_takeMultiple_247 rfl ?_
  refine q_ldc2 (x := 2147483647) l_Na_19 d_Na_takeMultiple_249 (by decide) ?_
  refine q_land 31 d_Na_takeMultiple_252 ⟨by decide +kernel, by decide⟩ ?_
  refine q_l2i d_Na_takeMultiple_253 o1 ?_
  refine p_iast d_Na_takeMultiple_254 (zs_Na_digits k_a0) o2 (fun D3 e4 => ?_)
  have h := h D3 e4
  refine q_lload d_Na_takeMultiple_255 rfl ?_
  exact q_lret d_Na_takeMultiple_257 rfl ⟨Nat.le_refl _, Nat.le_refl _⟩ h
theorem s_Na_takeMultiple_173 {a0 : Nat} {a1 : Nat} {x2 : Int} {x3 : Int} {x4 : Int} {x6 : Int} {x8 : Int} {x10 : Int} (k_a0 : zk a0 = (0, 3, 0)) (k_a1 : zk a1 = (0, 3, 0)) (h : (((D a1 1) ≤ x10 → (R64 (x8 + x6)) ∧ Sg g M_Na_takeMultiple Q 242 [vR a0, vR a1, vI x2, vI x3, vL x4, vU, vL x6, vU, vL (x8 + x6), vU, vI x10] [] D) ∧ (¬ (D a1 1) ≤ x10 → (R32 (x2 + x10) ∧ (0 ≤ x2 + x10 ∧ x2 + x10 < 32) ∧ (0 ≤ x10 ∧ x10 < 32) ∧ R64 ((D (a0 + 1) (x2 + x10)) + (D (a1 + 1) x10)) ∧ R64 (x6 + ((D (a0 + 1) (x2 + x10)) + (D (a1 + 1) x10))) ∧ R32 (x2 + x10) ∧ R32 ((x6 + ((D (a0 + 1) (x2 + x10)) + (D (a1 + 1) x10))) % 2 ^ 31) ∧ (0 ≤ x2 + x10 ∧ x2 + x10 < 32)) ∧ (∀ D11, D11 = zw D (a0 + 1) (x2 + x10) ((x6 + ((D (a0 + 1) (x2 + x10)) + (D (a1 + 1) x10))) % 2 ^ 31) → (R32 (x10 + 1)) ∧ Sg g M_Na_takeMultiple Q 173 [vR a0, vR a1, vI x2, vI x3, vL x4, vU, vL ((x6 + ((D (a0 + 1) (x2 + x10)) + (D (a1 + 1) x10))) / 2 ^ 31), vU, vL x8, vU, vI (x10 + 1)] [] D11)))) : Sg g M_Na_takeMultiple Q 173 [vR a0, vR a1, vI x2, vI x3, vL x4, vU, vL x6, vU, vL x8, vU, vI x10] [] D := by
  unfold Sg
  refine q_iload d_Na_takeMultiple_173 rfl ?_
  refine q_aload_n d_Na_takeMultiple_175 rfl ?_
  refine p_getI (k := 1) zc_Na l_Na_15 fi_Na_size d_Na_takeMultiple_176 k_a1 ?_
  refine q_icmp_ge (tgt := 235) d_Na_takeMultiple_179 (by decide) (fun c1 => ?_) (fun c1 => ?_)
  · have h := h.1 (c1)
    obtain ⟨o2, h⟩ := h
    refine q_lload d_Na_takeMultiple_235 rfl ?_
    refine q_lload d_Na_takeMultiple_237 rfl ?_
    refine q_ladd d_Na_takeMultiple_239 o2 ?_
    refine q_lstore d_Na_takeMultiple_240 (by decide) (L' := [vR a0, vR a1, vI x2, vI x3, vL x4, vU, vL x6, vU, vL (x8 + x6), vU, vI x10]) rfl ?_
    exact h
  · have h := h.2 (c1)
    obtain ⟨⟨o3, o4, o5, o6, o7, o8, o9, o10⟩, h⟩ := h
    refine q_lload d_Na_takeMultiple_182 rfl ?_
    refine q_aload_n d_Na_takeMultiple_184 rfl ?_
    refine p_getR (k := 0) (b := (a0 + 1)) zc_Na l_Na_9 fr_Na_digits d_Na_takeMultiple_185 k_a0 rfl ?_
    refine q_iload_n d_Na_takeMultiple_188 rfl ?_
    refine q_iload d_Na_takeMultiple_189 rfl ?_
    refine q_iadd d_Na_takeMultiple_191 o3 ?_
    refine p_iald d_Na_takeMultiple_192 (zs_Na_digits k_a0) o4 ?_
    refine q_i2l d_Na_takeMultiple_193 ?_
    refine q_aload_n d_Na_takeMultiple_194 rfl ?_
    refine p_getR (k := 0) (b := (a1 + 1)) zc_Na l_Na_9 fr_Na_digits d_Na_takeMultiple_195 k_a1 rfl ?_
    refine q_iload d_Na_takeMultiple_198 rfl ?_
    refine p_iald d_Na_takeMultiple_200 (zs_Na_digits k_a1) o5 ?_
    refine q_i2l d_Na_takeMultiple_201 ?_
    refine q_ladd d_Na_takeMultiple_202 o6 ?_
    refine q_ladd d_Na_takeMultiple_203 o7 ?_
    refine q_lstore d_Na_takeMultiple_204 (by decide) (L' := [vR a0, vR a1, vI x2, vI x3, vL x4, vU, vL (x6 + ((D (a0 + 1) (x2 + x10)) + (D (a1 + 1) x10))), vU, vL x8, vU, vI x10]) rfl ?_
    refine q_aload_n d_Na_takeMultiple_206 rfl ?_
    refine p_getR (k := 0) (b := (a0 + 1)) zc_Na l_Na_9 fr_Na_digits d_Na_takeMultiple_207 k_a0 rfl ?_
    refine q_iload_n d_Na_takeMultiple_210 rfl ?_
    refine q_iload d_Na_takeMultiple_211 rfl ?_
    refine q_iadd d_Na_takeMultiple_213 o8 ?_
    refine q_lload d_Na_takeMultiple_214 rfl ?_
    refine q_ldc2 (x := 2147483647) l_Na_19 d_Na_takeMultiple_216 (by decide) ?_
    refine q_land 31 d_Na_takeMultiple_219 ⟨by decide +kernel, by decide⟩ ?_
    refine q_l2i d_Na_takeMultiple_220 o9 ?_
    refine p_iast d_Na_takeMultiple_221 (zs_Na_digits k_a0) o10 (fun D11 e12 => ?_)
    have h := h D11 e12
    obtain ⟨o13, h⟩ := h
    refine q_lload d_Na_takeMultiple_222 rfl ?_
    refine q_bipush d_Na_takeMultiple_224 kb_31 ?_
    refine q_lshr d_Na_takeMultiple_226 (by decide) ?_
    refine q_lstore d_Na_takeMultiple_227 (by decide) (L' := [vR a0, vR a1, vI x2, vI x3, vL x4, vU, vL ((x6 + ((D (a0 + 1) (x2 + x10)) + (D (a1 + 1) x10))) / 2 ^ 31), vU, vL x8, vU, vI x10]) rfl ?_
    refine q_iinc d_Na_takeMultiple_229 rfl (by decide) o13 (L' := [vR a0, vR a1, vI x2, vI x3, vL x4, vU, vL ((x6 + ((D (a0 + 1) (x2 + x10)) + (D (a1 + 1) x10))) / 2 ^ 31), vU, vL x8, vU, vI (x10 + 1)]) rfl ?_
    refine q_goto (tgt := 173) d_Na_takeMultiple_232 (by decide) ?_
    exact h
theorem s_Na_takeMultiple_132 {a0 : Nat} {a1 : Nat} {x2 : Int} {x3 : Int} {x4 : Int} {z6 : VV} {z7 : VV} {x8 : Int} {z9 : VV} {z10 : VV} {y0 : Int} {y1 : Int} (k_a0 : zk a0 = (0, 3, 0)) (k_a1 : zk a1 = (0, 3, 0)) (h : (R64 (y1 + y0) ∧ R32 (x8 + 1)) ∧ Sg g M_Na_takeMultiple Q 55 [vR a0, vR a1, vI x2, vI x3, vL x4, vU, vL (y1 + y0), vU, vI (x8 + 1), vU, vU] [] D) : Sg g M_Na_takeMultiple Q 132 [vR a0, vR a1, vI x2, vI x3, vL x4, vU, z6, z7, vI x8, z9, z10] [vI y0, vL y1] D := by
  unfold Sg
  refine q_mask [false, false, false, false, false, false, true, true, false, true, true] (L' := [vR a0, vR a1, vI x2, vI x3, vL x4, vU, vU, vU, vI x8, vU, vU]) rfl ?_
  obtain ⟨⟨o1, o2⟩, h⟩ := h
  refine q_i2l d_Na_takeMultiple_132 ?_
  refine q_ladd d_Na_takeMultiple_133 o1 ?_
  refine q_lstore d_Na_takeMultiple_134 (by decide) (L' := [vR a0, vR a1, vI x2, vI x3, vL x4, vU, vL (y1 + y0), vU, vI x8, vU, vU]) rfl ?_
  refine q_iinc d_Na_takeMultiple_136 rfl (by decide) o2 (L' := [vR a0, vR a1, vI x2, vI x3, vL x4, vU, vL (y1 + y0), vU, vI (x8 + 1), vU, vU]) rfl ?_
  refine q_goto (tgt := 55) d_Na_takeMultiple_139 (by decide) ?_
  exact h
theorem s_Na_guessMultiple_0 {a0 : Nat} {a1 : Nat} {x2 : Int} (k_a0 : zk a0 = (0, 3, 0)) (k_a1 : zk a1 = (0, 3, 0)) (h : (((D a1 1) < 2 → Q (some (vL 0)) zE D) ∧ (¬ (D a1 1) < 2 → ((x2 < 2 → Q (some (vL 0)) zE D) ∧ (¬ x2 < 2 → ((32 ≤ x2 → Q (some (vL 0)) zE D) ∧ (¬ 32 ≤ x2 → (R32 ((D a1 1) - 1) ∧ (0 ≤ (D a1 1) - 1 ∧ (D a1 1) - 1 < 32)) ∧ ((¬ (D (a1 + 1) ((D a1 1) - 1)) = 0 → (R32 ((D a1 1) - 1) ∧ (0 ≤ (D a1 1) - 1 ∧ (D a1 1) - 1 < 32) ∧ R32 ((D a1 1) - 2) ∧ (0 ≤ (D a1 1) - 2 ∧ (D a1 1) - 2 < 32) ∧ (0 ≤ x2 ∧ x2 < 32) ∧ R64 ((D (a0 + 1) x2) * 2 ^ 31) ∧ R32 (x2 - 1) ∧ (0 ≤ x2 - 1 ∧ x2 - 1 < 32) ∧ (zdis ((D (a0 + 1) x2) * 2 ^ 31) (D (a0 + 1) (x2 - 1)) ∧ R64 (((D (a0 + 1) x2) * 2 ^ 31) + (D (a0 + 1) (x2 - 1)))) ∧ (0 ≤ ((D (a0 + 1) x2) * 2 ^ 31) + (D (a0 + 1) (x2 - 1)) ∧ 0 < D (a1 + 1) ((D a1 1) - 1)) ∧ (0 ≤ ((D (a0 + 1) x2) * 2 ^ 31) + (D (a0 + 1) (x2 - 1)) ∧ 0 < D (a1 + 1) ((D a1 1) - 1))) ∧ Sg g M_Na_guessMultiple Q 99 [vR a0, vR a1, vI x2, vL (D (a1 + 1) ((D a1 1) - 1)), vU, vL (D (a1 + 1) ((D a1 1) - 2)), vU, vL (((D (a0 + 1) x2) * 2 ^ 31) + (D (a0 + 1) (x2 - 1))), vU, vL ((((D (a0 + 1) x2) * 2 ^ 31) + (D (a0 + 1) (x2 - 1))) / (D (a1 + 1) ((D a1 1) - 1))), vU, vL ((((D (a0 + 1) x2) * 2 ^ 31) + (D (a0 + 1) (x2 - 1))) % (D (a1 + 1) ((D a1 1) - 1))), vU, vI 0] [] D) ∧ ((D (a1 + 1) ((D a1 1) - 1)) = 0 → Q (some (vL 0)) zE D))))))))) : Sg g M_Na_guessMultiple Q 0 [vR a0, vR a1, vI x2, vU, vU, vU, vU, vU, vU, vU, vU, vU, vU, vU] [] D := by
  unfold Sg
  refine q_aload_n d_Na_guessMultiple_0 rfl ?_
  refine p_getI (k := 1) zc_Na l_Na_15 fi_Na_size d_Na_guessMultiple_1 k_a1 ?_
  refine q_iconst d_Na_guessMultiple_4 (by decide) ?_
  refine q_icmp_lt (tgt := 33) d_Na_guessMultiple_5 (by decide) (fun c1 => ?_) (fun c1 => ?_)
  · have h := h.1 (c1)
    refine q_lconst (x := 0) d_Na_guessMultiple_33 ⟨rfl, by decide⟩ ?_
    exact q_lret d_Na_guessMultiple_34 rfl ⟨Nat.le_refl _, Nat.le_refl _⟩ h
  · have h := h.2 (c1)
    refine q_iload_n d_Na_guessMultiple_8 rfl ?_
    refine q_iconst d_Na_guessMultiple_9 (by decide) ?_
    refine q_icmp_lt (tgt := 33) d_Na_guessMultiple_10 (by decide) (fun c2 => ?_) (fun c2 => ?_)
    · have h := h.1 (c2)
      refine q_lconst (x := 0) d_Na_guessMultiple_33 ⟨rfl, by decide⟩ ?_
      exact q_lret d_Na_guessMultiple_34 rfl ⟨Nat.le_refl _, Nat.le_refl _⟩ h
    · have h := h.2 (c2)
      refine q_iload_n d_Na_guessMultiple_13 rfl ?_
      refine q_bipush d_Na_guessMultiple_14 kb_32 ?_
      refine q_icmp_ge (tgt := 33) d_Na_guessMultiple_16 (by decide) (fun c3 => ?_) (fun c3 => ?_)
      · have h := h.1 (c3)
        refine q_lconst (x := 0) d_Na_guessMultiple_33 ⟨rfl, by decide⟩ ?_
        exact q_lret d_Na_guessMultiple_34 rfl ⟨Nat.le_refl _, Nat.le_refl _⟩ h
      · have h := h.2 (c3)
        obtain ⟨⟨o4, o5⟩, h⟩ := h
        refine q_aload_n d_Na_guessMultiple_19 rfl ?_
        refine p_getR (k := 0) (b := (a1 + 1)) zc_Na l_Na_9 fr_Na_digits d_Na_guessMultiple_20 k_a1 rfl ?_
        refine q_aload_n d_Na_guessMultiple_23 rfl ?_
        refine p_getI (k := 1) zc_Na l_Na_15 fi_Na_size d_Na_guessMultiple_24 k_a1 ?_
        refine q_iconst d_Na_guessMultiple_27 (by decide) ?_
        refine q_isub d_Na_guessMultiple_28 o4 ?_
        refine p_iald d_Na_guessMultiple_29 (zs_Na_digits k_a1) o5 ?_
        refine q_if_ne (tgt := 35) d_Na_guessMultiple_30 (by decide) (fun c6 => ?_) (fun c6 => ?_)
        · have h := h.1 (c6)
          obtain ⟨⟨o7, o8, o9, o10, o11, o12, o13, o14, o15, o16, o17⟩, h⟩ := h
          refine q_aload_n d_Na_guessMultiple_35 rfl ?_
          refine p_getR (k := 0) (b := (a1 + 1)) zc_Na l_Na_9 fr_Na_digits d_Na_guessMultiple_36 k_a1 rfl ?_
          refine q_aload_n d_Na_guessMultiple_39 rfl ?_
          refine p_getI (k := 1) zc_Na l_Na_15 fi_Na_size d_Na_guessMultiple_40 k_a1 ?_
          refine q_iconst d_Na_guessMultiple_43 (by decide) ?_
          refine q_isub d_Na_guessMultiple_44 o7 ?_
          refine p_iald d_Na_guessMultiple_45 (zs_Na_digits k_a1) o8 ?_
          refine q_i2l d_Na_guessMultiple_46 ?_
          refine q_lstore_n d_Na_guessMultiple_47 (by decide) (L' := [vR a0, vR a1, vI x2, vL (D (a1 + 1) ((D a1 1) - 1)), vU, vU, vU, vU, vU, vU, vU, vU, vU, vU]) rfl ?_
          refine q_aload_n d_Na_guessMultiple_48 rfl ?_
          refine p_getR (k := 0) (b := (a1 + 1)) zc_Na l_Na_9 fr_Na_digits d_Na_guessMultiple_49 k_a1 rfl ?_
          refine q_aload_n d_Na_guessMultiple_52 rfl ?_
          refine p_getI (k := 1) zc_Na l_Na_15 fi_Na_size d_Na_guessMultiple_53 k_a1 ?_
          refine q_iconst d_Na_guessMultiple_56 (by decide) ?_
          refine q_isub d_Na_guessMultiple_57 o9 ?_
          refine p_iald d_Na_guessMultiple_58 (zs_Na_digits k_a1) o10 ?_
          refine q_i2l d_Na_guessMultiple_59 ?_
          refine q_lstore d_Na_guessMultiple_60 (by decide) (L' := [vR a0, vR a1, vI x2, vL (D (a1 + 1) ((D a1 1) - 1)), vU, vL (D (a1 + 1) ((D a1 1) - 2)), vU, vU, vU, vU, vU, vU, vU, vU]) rfl ?_
          refine q_aload_n d_Na_guessMultiple_62 rfl ?_
          refine p_getR (k := 0) (b := (a0 + 1)) zc_Na l_Na_9 fr_Na_digits d_Na_guessMultiple_63 k_a0 rfl ?_
          refine q_iload_n d_Na_guessMultiple_66 rfl ?_
          refine p_iald d_Na_guessMultiple_67 (zs_Na_digits k_a0) o11 ?_
          refine q_i2l d_Na_guessMultiple_68 ?_
          refine q_bipush d_Na_guessMultiple_69 kb_31 ?_
          refine q_lshl d_Na_guessMultiple_71 ⟨by decide, o12⟩ ?_
          refine q_aload_n d_Na_guessMultiple_72 rfl ?_
          refine p_getR (k := 0) (b := (a0 + 1)) zc_Na l_Na_9 fr_Na_digits d_Na_guessMultiple_73 k_a0 rfl ?_
          refine q_iload_n d_Na_guessMultiple_76 rfl ?_
          refine q_iconst d_Na_guessMultiple_77 (by decide) ?_
          refine q_isub d_Na_guessMultiple_78 o13 ?_
          refine p_iald d_Na_guessMultiple_79 (zs_Na_digits k_a0) o14 ?_
          refine q_i2l d_Na_guessMultiple_80 ?_
          refine q_lor d_Na_guessMultiple_81 o15 ?_
          refine q_lstore d_Na_guessMultiple_82 (by decide) (L' := [vR a0, vR a1, vI x2, vL (D (a1 + 1) ((D a1 1) - 1)), vU, vL (D (a1 + 1) ((D a1 1) - 2)), vU, vL (((D (a0 + 1) x2) * 2 ^ 31) + (D (a0 + 1) (x2 - 1))), vU, vU, vU, vU, vU, vU]) rfl ?_
          refine q_lload d_Na_guessMultiple_84 rfl ?_
          refine q_lload_n d_Na_guessMultiple_86 rfl ?_
          refine q_ldiv d_Na_guessMultiple_87 o16 ?_
          refine q_lstore d_Na_guessMultiple_88 (by decide) (L' := [vR a0, vR a1, vI x2, vL (D (a1 + 1) ((D a1 1) - 1)), vU, vL (D (a1 + 1) ((D a1 1) - 2)), vU, vL (((D (a0 + 1) x2) * 2 ^ 31) + (D (a0 + 1) (x2 - 1))), vU, vL ((((D (a0 + 1) x2) * 2 ^ 31) + (D (a0 + 1) (x2 - 1))) / (D (a1 + 1) ((D a1 1) - 1))), vU, vU, vU, vU]) rfl ?_
          refine q_lload d_Na_guessMultiple_90 rfl ?_
          refine q_lload_n d_Na_guessMultiple_92 rfl ?_
          refine q_lrem d_Na_guessMultiple_93 o17 ?_
          refine q_lstore d_Na_guessMultiple_94 (by decide) (L' := [vR a0, vR a1, vI x2, vL (D (a1 + 1) ((D a1 1) - 1)), vU, vL (D (a1 + 1) ((D a1 1) - 2)), vU, vL (((D (a0 + 1) x2) * 2 ^ 31) + (D (a0 + 1) (x2 - 1))), vU, vL ((((D (a0 + 1) x2) * 2 ^ 31) + (D (a0 + 1) (x2 - 1))) / (D (a1 + 1) ((D a1 1) - 1))), vU, vL ((((D (a0 + 1) x2) * 2 ^ 31) + (D (a0 + 1) (x2 - 1))) % (D (a1 + 1) ((D a1 1) - 1))), vU, vU]) rfl ?_
          refine q_iconst d_Na_guessMultiple_96 (by decide) ?_
          refine q_istore d_Na_guessMultiple_97 (by decide) (L' := [vR a0, vR a1, vI x2, vL (D (a1 + 1) ((D a1 1) - 1)), vU, vL (D (a1 + 1) ((D a1 1) - 2)), vU, vL (((D (a0 + 1) x2) * 2 ^ 31) + (D (a0 + 1) (x2 - 1))), vU, vL ((((D (a0 + 1) x2) * 2 ^ 31) + (D (a0 + 1) (x2 - 1))) / (D (a1 + 1) ((D a1 1) - 1))), vU, vL ((((D (a0 + 1) x2) * 2 ^ 31) + (D (a0 + 1) (x2 - 1))) % (D (a1 + 1) ((D a1 1) - 1))), vU, vI 0]) rfl ?_
          exact h
        · have h := h.2 (c6)
          refine q_lconst (x := 0) d_Na_guessMultiple_33 ⟨rfl, by decide⟩ ?_
          exact q_lret d_Na_guessMultiple_34 rfl ⟨Nat.le_refl _, Nat.le_refl _⟩ h
theorem s_Na_guessMultiple_99 {a0 : Nat} {z1 : VV} {x2 : Int} {x3 : Int} {x5 : Int} {z7 : VV} {z8 : VV} {x9 : Int} {x11 : Int} {x13 : Int} (k_a0 : zk a0 = (0, 3, 0)) (h : ((3 ≤ x13 → Q (some (vL x9)) zE D) ∧ (¬ 3 ≤ x13 → ((2147483647 < x11 → Q (some (vL x9)) zE D) ∧ (¬ 2147483647 < x11 → ((2147483647 < x9 → Sg g M_Na_guessMultiple Q 150 [vR a0, vU, vI x2, vL x3, vU, vL x5, vU, vU, vU, vL x9, vU, vL x11, vU, vI x13] [] D) ∧ (¬ 2147483647 < x9 → (R64 (x9 * x5) ∧ R64 (x11 * 2 ^ 31) ∧ R32 (x2 - 2) ∧ (0 ≤ x2 - 2 ∧ x2 - 2 < 32) ∧ (zdis (x11 * 2 ^ 31) (D (a0 + 1) (x2 - 2)) ∧ R64 ((x11 * 2 ^ 31) + (D (a0 + 1) (x2 - 2))))) ∧ ((((x11 * 2 ^ 31) + (D (a0 + 1) (x2 - 2))) < (x9 * x5) → Sg g M_Na_guessMultiple Q 150 [vR a0, vU, vI x2, vL x3, vU, vL x5, vU, vU, vU, vL x9, vU, vL x11, vU, vI x13] [] D) ∧ (¬ ((x11 * 2 ^ 31) + (D (a0 + 1) (x2 - 2))) < (x9 * x5) → Q (some (vL x9)) zE D))))))))) : Sg g M_Na_guessMultiple Q 99 [vR a0, z1, vI x2, vL x3, vU, vL x5, vU, z7, z8, vL x9, vU, vL x11, vU, vI x13] [] D := by
  unfold Sg
  refine q_mask [false, true, false, false, false, false, false, true, true, false, false, false, false, false] (L' := [vR a0, vU, vI x2, vL x3, vU, vL x5, vU, vU, vU, vL x9, vU, vL x11, vU, vI x13]) rfl ?_
  refine q_iload d_Na_guessMultiple_99 rfl ?_
  refine q_iconst d_Na_guessMultiple_101 (by decide) ?_
  refine q_icmp_ge (tgt := 168) d_Na_guessMultiple_102 (by decide) (fun c1 => ?_) (fun c1 => ?_)
  · have h := h.1 (c1)
    refine q_lload d_Na_guessMultiple_168 rfl ?_
    exact q_lret d_Na_guessMultiple_170 rfl ⟨Nat.le_refl _, Nat.le_refl _⟩ h
  · have h := h.2 (c1)
    refine q_lload d_Na_guessMultiple_105 rfl ?_
    refine q_ldc2 (x := 2147483647) l_Na_19 d_Na_guessMultiple_107 (by decide) ?_
    refine q_lcmp d_Na_guessMultiple_110 ?_
    refine q_if_gt (tgt := 168) d_Na_guessMultiple_111 (by decide) (fun c2 => ?_) (fun c2 => ?_)
    · have h := h.1 (zcmp_gt.mp c2)
      refine q_lload d_Na_guessMultiple_168 rfl ?_
      exact q_lret d_Na_guessMultiple_170 rfl ⟨Nat.le_refl _, Nat.le_refl _⟩ h
    · have h := h.2 ((not_congr zcmp_gt).mp c2)
      refine q_lload d_Na_guessMultiple_114 rfl ?_
      refine q_ldc2 (x := 2147483647) l_Na_19 d_Na_guessMultiple_116 (by decide) ?_
      refine q_lcmp d_Na_guessMultiple_119 ?_
      refine q_if_gt (tgt := 150) d_Na_guessMultiple_120 (by decide) (fun c3 => ?_) (fun c3 => ?_)
      · have h := h.1 (zcmp_gt.mp c3)
        exact h
      · have h := h.2 ((not_congr zcmp_gt).mp c3)
        obtain ⟨⟨o4, o5, o6, o7, o8⟩, h⟩ := h
        refine q_lload d_Na_guessMultiple_123 rfl ?_
        refine q_lload d_Na_guessMultiple_125 rfl ?_
        refine q_lmul d_Na_guessMultiple_127 o4 ?_
        refine q_lload d_Na_guessMultiple_128 rfl ?_
        refine q_bipush d_Na_guessMultiple_130 kb_31 ?_
        refine q_lshl d_Na_guessMultiple_132 ⟨by decide, o5⟩ ?_
        refine q_aload_n d_Na_guessMultiple_133 rfl ?_
        refine p_getR (k := 0) (b := (a0 + 1)) zc_Na l_Na_9 fr_Na_digits d_Na_guessMultiple_134 k_a0 rfl ?_
        refine q_iload_n d_Na_guessMultiple_137 rfl ?_
        refine q_iconst d_Na_guessMultiple_138 (by decide) ?_
        refine q_isub d_Na_guessMultiple_139 o6 ?_
        refine p_iald d_Na_guessMultiple_140 (zs_Na_digits k_a0) o7 ?_
        refine q_i2l d_Na_guessMultiple_141 ?_
        refine q_lor d_Na_guessMultiple_142 o8 ?_
        refine q_lcmp d_Na_guessMultiple_143 ?_
        refine q_if_gt (tgt := 150) d_Na_guessMultiple_144 (by decide) (fun c9 => ?_) (fun c9 => ?_)
        · have h := h.1 (zcmp_gt.mp c9)
          exact h
        · have h := h.2 ((not_congr zcmp_gt).mp c9)
          refine q_goto (tgt := 168) d_Na_guessMultiple_147 (by decide) ?_
          refine q_lload d_Na_guessMultiple_168 rfl ?_
          exact q_lret d_Na_guessMultiple_170 rfl ⟨Nat.le_refl _, Nat.le_refl _⟩ h
theorem s_Na_guessMultiple_150 {a0 : Nat} {z1 : VV} {x2 : Int} {x3 : Int} {x5 : Int} {z7 : VV} {z8 : VV} {x9 : Int} {x11 : Int} {x13 : Int} (k_a0 : zk a0 = (0, 3, 0)) (h : (R64 (x9 - 1) ∧ R64 (x11 + x3) ∧ R32 (x13 + 1)) ∧ Sg g M_Na_guessMultiple Q 99 [vR a0, vU, vI x2, vL x3, vU, vL x5, vU, vU, vU, vL (x9 - 1), vU, vL (x11 + x3), vU, vI (x13 + 1)] [] D) : Sg g M_Na_guessMultiple Q 150 [vR a0, z1, vI x2, vL x3, vU, vL x5, vU, z7, z8, vL x9, vU, vL x11, vU, vI x13] [] D := by
  unfold Sg
  refine q_mask [false, true, false, false, false, false, false, true, true, false, false, false, false, false] (L' := [vR a0, vU, vI x2, vL x3, vU, vL x5, vU, vU, vU, vL x9, vU, vL x11, vU, vI x13]) rfl ?_
  obtain ⟨⟨o1, o2, o3⟩, h⟩ := h
  refine q_lload d_Na_guessMultiple_150 rfl ?_
  refine q_lconst (x := 1) d_Na_guessMultiple_152 ⟨rfl, by decide⟩ ?_
  refine q_lsub d_Na_guessMultiple_153 o1 ?_
  refine q_lstore d_Na_guessMultiple_154 (by decide) (L' := [vR a0, vU, vI x2, vL x3, vU, vL x5, vU, vU, vU, vL (x9 - 1), vU, vL x11, vU, vI x13]) rfl ?_
  refine q_lload d_Na_guessMultiple_156 rfl ?_
  refine q_lload_n d_Na_guessMultiple_158 rfl ?_
  refine q_ladd d_Na_guessMultiple_159 o2 ?_
  refine q_lstore d_Na_guessMultiple_160 (by decide) (L' := [vR a0, vU, vI x2, vL x3, vU, vL x5, vU, vU, vU, vL (x9 - 1), vU, vL (x11 + x3), vU, vI x13]) rfl ?_
  refine q_iinc d_Na_guessMultiple_162 rfl (by decide) o3 (L' := [vR a0, vU, vI x2, vL x3, vU, vL x5, vU, vU, vU, vL (x9 - 1), vU, vL (x11 + x3), vU, vI (x13 + 1)]) rfl ?_
  refine q_goto (tgt := 99) d_Na_guessMultiple_165 (by decide) ?_
  exact h
end SEG
