/-! printed by wip/whole/tools/dec.py: constructors, split, step -/
theorem d_Ke_init_0 : decode prog_1_method_1_code 0 = .ok (.aload_n 0, 1) := by decide +kernel
theorem d_Ke_init_1 : decode prog_1_method_1_code 1 = .ok (.invokespecial 3, 3) := by decide +kernel
theorem d_Ke_init_4 : decode prog_1_method_1_code 4 = .ok (.aload_n 0, 1) := by decide +kernel
theorem d_Ke_init_5 : decode prog_1_method_1_code 5 = .ok (.new 9, 3) := by decide +kernel
theorem d_Ke_init_8 : decode prog_1_method_1_code 8 = .ok (.dup, 1) := by decide +kernel
theorem d_Ke_init_9 : decode prog_1_method_1_code 9 = .ok (.invokespecial 11, 3) := by decide +kernel
theorem d_Ke_init_12 : decode prog_1_method_1_code 12 = .ok (.putfield 12, 3) := by decide +kernel
theorem d_Ke_init_15 : decode prog_1_method_1_code 15 = .ok (.aload_n 0, 1) := by decide +kernel
theorem d_Ke_init_16 : decode prog_1_method_1_code 16 = .ok (.new 16, 3) := by decide +kernel
theorem d_Ke_init_19 : decode prog_1_method_1_code 19 = .ok (.dup, 1) := by decide +kernel
theorem d_Ke_init_20 : decode prog_1_method_1_code 20 = .ok (.invokespecial 18, 3) := by decide +kernel
theorem d_Ke_init_23 : decode prog_1_method_1_code 23 = .ok (.putfield 19, 3) := by decide +kernel
theorem d_Ke_init_26 : decode prog_1_method_1_code 26 = .ok (.aload_n 0, 1) := by decide +kernel
theorem d_Ke_init_27 : decode prog_1_method_1_code 27 = .ok (.new 23, 3) := by decide +kernel
theorem d_Ke_init_30 : decode prog_1_method_1_code 30 = .ok (.dup, 1) := by decide +kernel
theorem d_Ke_init_31 : decode prog_1_method_1_code 31 = .ok (.invokespecial 25, 3) := by decide +kernel
theorem d_Ke_init_34 : decode prog_1_method_1_code 34 = .ok (.putfield 26, 3) := by decide +kernel
theorem d_Ke_init_37 : decode prog_1_method_1_code 37 = .ok (.aload_n 0, 1) := by decide +kernel
theorem d_Ke_init_38 : decode prog_1_method_1_code 38 = .ok (.new 23, 3) := by decide +kernel
theorem d_Ke_init_41 : decode prog_1_method_1_code 41 = .ok (.dup, 1) := by decide +kernel
theorem d_Ke_init_42 : decode prog_1_method_1_code 42 = .ok (.invokespecial 25, 3) := by decide +kernel
theorem d_Ke_init_45 : decode prog_1_method_1_code 45 = .ok (.putfield 30, 3) := by decide +kernel
theorem d_Ke_init_48 : decode prog_1_method_1_code 48 = .ok (.aload_n 0, 1) := by decide +kernel
theorem d_Ke_init_49 : decode prog_1_method_1_code 49 = .ok (.new 33, 3) := by decide +kernel
theorem d_Ke_init_52 : decode prog_1_method_1_code 52 = .ok (.dup, 1) := by decide +kernel
theorem d_Ke_init_53 : decode prog_1_method_1_code 53 = .ok (.invokespecial 35, 3) := by decide +kernel
theorem d_Ke_init_56 : decode prog_1_method_1_code 56 = .ok (.putfield 36, 3) := by decide +kernel
theorem d_Ke_init_59 : decode prog_1_method_1_code 59 = .ok (.aload_n 0, 1) := by decide +kernel
theorem d_Ke_init_60 : decode prog_1_method_1_code 60 = .ok (.new 40, 3) := by decide +kernel
theorem d_Ke_init_63 : decode prog_1_method_1_code 63 = .ok (.dup, 1) := by decide +kernel
theorem d_Ke_init_64 : decode prog_1_method_1_code 64 = .ok (.invokespecial 42, 3) := by decide +kernel
theorem d_Ke_init_67 : decode prog_1_method_1_code 67 = .ok (.putfield 43, 3) := by decide +kernel
theorem d_Ke_init_70 : decode prog_1_method_1_code 70 = .ok (.aload_n 0, 1) := by decide +kernel
theorem d_Ke_init_71 : decode prog_1_method_1_code 71 = .ok (.new 47, 3) := by decide +kernel
theorem d_Ke_init_74 : decode prog_1_method_1_code 74 = .ok (.dup, 1) := by decide +kernel
theorem d_Ke_init_75 : decode prog_1_method_1_code 75 = .ok (.invokespecial 49, 3) := by decide +kernel
theorem d_Ke_init_78 : decode prog_1_method_1_code 78 = .ok (.putfield 50, 3) := by decide +kernel
theorem d_Ke_init_81 : decode prog_1_method_1_code 81 = .ok (.aload_n 0, 1) := by decide +kernel
theorem d_Ke_init_82 : decode prog_1_method_1_code 82 = .ok (.new 54, 3) := by decide +kernel
theorem d_Ke_init_85 : decode prog_1_method_1_code 85 = .ok (.dup, 1) := by decide +kernel
theorem d_Ke_init_86 : decode prog_1_method_1_code 86 = .ok (.invokespecial 56, 3) := by decide +kernel
theorem d_Ke_init_89 : decode prog_1_method_1_code 89 = .ok (.putfield 57, 3) := by decide +kernel
theorem d_Ke_init_92 : decode prog_1_method_1_code 92 = .ok (.aload_n 0, 1) := by decide +kernel
theorem d_Ke_init_93 : decode prog_1_method_1_code 93 = .ok (.new 61, 3) := by decide +kernel
theorem d_Ke_init_96 : decode prog_1_method_1_code 96 = .ok (.dup, 1) := by decide +kernel
theorem d_Ke_init_97 : decode prog_1_method_1_code 97 = .ok (.invokespecial 63, 3) := by decide +kernel
theorem d_Ke_init_100 : decode prog_1_method_1_code 100 = .ok (.putfield 64, 3) := by decide +kernel
theorem d_Ke_init_103 : decode prog_1_method_1_code 103 = .ok (.return_, 1) := by decide +kernel
theorem d_Mo_init_0 : decode prog_13_method_1_code 0 = .ok (.aload_n 0, 1) := by decide +kernel
theorem d_Mo_init_1 : decode prog_13_method_1_code 1 = .ok (.invokespecial 1, 3) := by decide +kernel
theorem d_Mo_init_4 : decode prog_13_method_1_code 4 = .ok (.aload_n 0, 1) := by decide +kernel
theorem d_Mo_init_5 : decode prog_13_method_1_code 5 = .ok (.sipush 26000, 3) := by decide +kernel
theorem d_Mo_init_8 : decode prog_13_method_1_code 8 = .ok (.newarray .int, 2) := by decide +kernel
theorem d_Mo_init_10 : decode prog_13_method_1_code 10 = .ok (.putfield 7, 3) := by decide +kernel
theorem d_Mo_init_13 : decode prog_13_method_1_code 13 = .ok (.aload_n 0, 1) := by decide +kernel
theorem d_Mo_init_14 : decode prog_13_method_1_code 14 = .ok (.sipush 260, 3) := by decide +kernel
theorem d_Mo_init_17 : decode prog_13_method_1_code 17 = .ok (.newarray .int, 2) := by decide +kernel
theorem d_Mo_init_19 : decode prog_13_method_1_code 19 = .ok (.putfield 13, 3) := by decide +kernel
theorem d_Mo_init_22 : decode prog_13_method_1_code 22 = .ok (.aload_n 0, 1) := by decide +kernel
theorem d_Mo_init_23 : decode prog_13_method_1_code 23 = .ok (.bipush 12, 2) := by decide +kernel
theorem d_Mo_init_25 : decode prog_13_method_1_code 25 = .ok (.newarray .int, 2) := by decide +kernel
theorem d_Mo_init_27 : decode prog_13_method_1_code 27 = .ok (.putfield 16, 3) := by decide +kernel
theorem d_Mo_init_30 : decode prog_13_method_1_code 30 = .ok (.aload_n 0, 1) := by decide +kernel
theorem d_Mo_init_31 : decode prog_13_method_1_code 31 = .ok (.bipush 12, 2) := by decide +kernel
theorem d_Mo_init_33 : decode prog_13_method_1_code 33 = .ok (.newarray .int, 2) := by decide +kernel
theorem d_Mo_init_35 : decode prog_13_method_1_code 35 = .ok (.putfield 19, 3) := by decide +kernel
theorem d_Mo_init_38 : decode prog_13_method_1_code 38 = .ok (.aload_n 0, 1) := by decide +kernel
theorem d_Mo_init_39 : decode prog_13_method_1_code 39 = .ok (.bipush 12, 2) := by decide +kernel
theorem d_Mo_init_41 : decode prog_13_method_1_code 41 = .ok (.newarray .int, 2) := by decide +kernel
theorem d_Mo_init_43 : decode prog_13_method_1_code 43 = .ok (.putfield 22, 3) := by decide +kernel
theorem d_Mo_init_46 : decode prog_13_method_1_code 46 = .ok (.aload_n 0, 1) := by decide +kernel
theorem d_Mo_init_47 : decode prog_13_method_1_code 47 = .ok (.bipush 8, 2) := by decide +kernel
theorem d_Mo_init_49 : decode prog_13_method_1_code 49 = .ok (.newarray .int, 2) := by decide +kernel
theorem d_Mo_init_51 : decode prog_13_method_1_code 51 = .ok (.putfield 25, 3) := by decide +kernel
theorem d_Mo_init_54 : decode prog_13_method_1_code 54 = .ok (.aload_n 0, 1) := by decide +kernel
theorem d_Mo_init_55 : decode prog_13_method_1_code 55 = .ok (.bipush 8, 2) := by decide +kernel
theorem d_Mo_init_57 : decode prog_13_method_1_code 57 = .ok (.newarray .int, 2) := by decide +kernel
theorem d_Mo_init_59 : decode prog_13_method_1_code 59 = .ok (.putfield 28, 3) := by decide +kernel
theorem d_Mo_init_62 : decode prog_13_method_1_code 62 = .ok (.aload_n 0, 1) := by decide +kernel
theorem d_Mo_init_63 : decode prog_13_method_1_code 63 = .ok (.sipush 200, 3) := by decide +kernel
theorem d_Mo_init_66 : decode prog_13_method_1_code 66 = .ok (.newarray .boolean, 2) := by decide +kernel
theorem d_Mo_init_68 : decode prog_13_method_1_code 68 = .ok (.putfield 31, 3) := by decide +kernel
theorem d_Mo_init_71 : decode prog_13_method_1_code 71 = .ok (.aload_n 0, 1) := by decide +kernel
theorem d_Mo_init_72 : decode prog_13_method_1_code 72 = .ok (.sipush 200, 3) := by decide +kernel
theorem d_Mo_init_75 : decode prog_13_method_1_code 75 = .ok (.newarray .long, 2) := by decide +kernel
theorem d_Mo_init_77 : decode prog_13_method_1_code 77 = .ok (.putfield 35, 3) := by decide +kernel
theorem d_Mo_init_80 : decode prog_13_method_1_code 80 = .ok (.aload_n 0, 1) := by decide +kernel
theorem d_Mo_init_81 : decode prog_13_method_1_code 81 = .ok (.sipush 200, 3) := by decide +kernel
theorem d_Mo_init_84 : decode prog_13_method_1_code 84 = .ok (.newarray .long, 2) := by decide +kernel
theorem d_Mo_init_86 : decode prog_13_method_1_code 86 = .ok (.putfield 39, 3) := by decide +kernel
theorem d_Mo_init_89 : decode prog_13_method_1_code 89 = .ok (.aload_n 0, 1) := by decide +kernel
theorem d_Mo_init_90 : decode prog_13_method_1_code 90 = .ok (.bipush 12, 2) := by decide +kernel
theorem d_Mo_init_92 : decode prog_13_method_1_code 92 = .ok (.newarray .boolean, 2) := by decide +kernel
theorem d_Mo_init_94 : decode prog_13_method_1_code 94 = .ok (.putfield 42, 3) := by decide +kernel
theorem d_Mo_init_97 : decode prog_13_method_1_code 97 = .ok (.aload_n 0, 1) := by decide +kernel
theorem d_Mo_init_98 : decode prog_13_method_1_code 98 = .ok (.bipush 12, 2) := by decide +kernel
theorem d_Mo_init_100 : decode prog_13_method_1_code 100 = .ok (.newarray .long, 2) := by decide +kernel
theorem d_Mo_init_102 : decode prog_13_method_1_code 102 = .ok (.putfield 45, 3) := by decide +kernel
theorem d_Mo_init_105 : decode prog_13_method_1_code 105 = .ok (.aload_n 0, 1) := by decide +kernel
theorem d_Mo_init_106 : decode prog_13_method_1_code 106 = .ok (.bipush 12, 2) := by decide +kernel
theorem d_Mo_init_108 : decode prog_13_method_1_code 108 = .ok (.newarray .long, 2) := by decide +kernel
theorem d_Mo_init_110 : decode prog_13_method_1_code 110 = .ok (.putfield 48, 3) := by decide +kernel
theorem d_Mo_init_113 : decode prog_13_method_1_code 113 = .ok (.aload_n 0, 1) := by decide +kernel
theorem d_Mo_init_114 : decode prog_13_method_1_code 114 = .ok (.bipush 12, 2) := by decide +kernel
theorem d_Mo_init_116 : decode prog_13_method_1_code 116 = .ok (.newarray .long, 2) := by decide +kernel
theorem d_Mo_init_118 : decode prog_13_method_1_code 118 = .ok (.putfield 51, 3) := by decide +kernel
theorem d_Mo_init_121 : decode prog_13_method_1_code 121 = .ok (.aload_n 0, 1) := by decide +kernel
theorem d_Mo_init_122 : decode prog_13_method_1_code 122 = .ok (.bipush 24, 2) := by decide +kernel
theorem d_Mo_init_124 : decode prog_13_method_1_code 124 = .ok (.newarray .int, 2) := by decide +kernel
theorem d_Mo_init_126 : decode prog_13_method_1_code 126 = .ok (.putfield 54, 3) := by decide +kernel
theorem d_Mo_init_129 : decode prog_13_method_1_code 129 = .ok (.aload_n 0, 1) := by decide +kernel
theorem d_Mo_init_130 : decode prog_13_method_1_code 130 = .ok (.bipush 24, 2) := by decide +kernel
theorem d_Mo_init_132 : decode prog_13_method_1_code 132 = .ok (.newarray .int, 2) := by decide +kernel
theorem d_Mo_init_134 : decode prog_13_method_1_code 134 = .ok (.putfield 57, 3) := by decide +kernel
theorem d_Mo_init_137 : decode prog_13_method_1_code 137 = .ok (.aload_n 0, 1) := by decide +kernel
theorem d_Mo_init_138 : decode prog_13_method_1_code 138 = .ok (.bipush 24, 2) := by decide +kernel
theorem d_Mo_init_140 : decode prog_13_method_1_code 140 = .ok (.newarray .long, 2) := by decide +kernel
theorem d_Mo_init_142 : decode prog_13_method_1_code 142 = .ok (.putfield 60, 3) := by decide +kernel
theorem d_Mo_init_145 : decode prog_13_method_1_code 145 = .ok (.aload_n 0, 1) := by decide +kernel
theorem d_Mo_init_146 : decode prog_13_method_1_code 146 = .ok (.bipush 24, 2) := by decide +kernel
theorem d_Mo_init_148 : decode prog_13_method_1_code 148 = .ok (.newarray .long, 2) := by decide +kernel
theorem d_Mo_init_150 : decode prog_13_method_1_code 150 = .ok (.putfield 63, 3) := by decide +kernel
theorem d_Mo_init_153 : decode prog_13_method_1_code 153 = .ok (.aload_n 0, 1) := by decide +kernel
theorem d_Mo_init_154 : decode prog_13_method_1_code 154 = .ok (.sipush 200, 3) := by decide +kernel
theorem d_Mo_init_157 : decode prog_13_method_1_code 157 = .ok (.newarray .int, 2) := by decide +kernel
theorem d_Mo_init_159 : decode prog_13_method_1_code 159 = .ok (.putfield 66, 3) := by decide +kernel
theorem d_Mo_init_162 : decode prog_13_method_1_code 162 = .ok (.aload_n 0, 1) := by decide +kernel
theorem d_Mo_init_163 : decode prog_13_method_1_code 163 = .ok (.bipush 24, 2) := by decide +kernel
theorem d_Mo_init_165 : decode prog_13_method_1_code 165 = .ok (.newarray .int, 2) := by decide +kernel
theorem d_Mo_init_167 : decode prog_13_method_1_code 167 = .ok (.putfield 69, 3) := by decide +kernel
theorem d_Mo_init_170 : decode prog_13_method_1_code 170 = .ok (.aload_n 0, 1) := by decide +kernel
theorem d_Mo_init_171 : decode prog_13_method_1_code 171 = .ok (.bipush 24, 2) := by decide +kernel
theorem d_Mo_init_173 : decode prog_13_method_1_code 173 = .ok (.newarray .int, 2) := by decide +kernel
theorem d_Mo_init_175 : decode prog_13_method_1_code 175 = .ok (.putfield 72, 3) := by decide +kernel
theorem d_Mo_init_178 : decode prog_13_method_1_code 178 = .ok (.aload_n 0, 1) := by decide +kernel
theorem d_Mo_init_179 : decode prog_13_method_1_code 179 = .ok (.sipush 200, 3) := by decide +kernel
theorem d_Mo_init_182 : decode prog_13_method_1_code 182 = .ok (.newarray .int, 2) := by decide +kernel
theorem d_Mo_init_184 : decode prog_13_method_1_code 184 = .ok (.putfield 75, 3) := by decide +kernel
theorem d_Mo_init_187 : decode prog_13_method_1_code 187 = .ok (.aload_n 0, 1) := by decide +kernel
theorem d_Mo_init_188 : decode prog_13_method_1_code 188 = .ok (.bipush 12, 2) := by decide +kernel
theorem d_Mo_init_190 : decode prog_13_method_1_code 190 = .ok (.newarray .int, 2) := by decide +kernel
theorem d_Mo_init_192 : decode prog_13_method_1_code 192 = .ok (.putfield 78, 3) := by decide +kernel
theorem d_Mo_init_195 : decode prog_13_method_1_code 195 = .ok (.aload_n 0, 1) := by decide +kernel
theorem d_Mo_init_196 : decode prog_13_method_1_code 196 = .ok (.bipush 12, 2) := by decide +kernel
theorem d_Mo_init_198 : decode prog_13_method_1_code 198 = .ok (.newarray .int, 2) := by decide +kernel
theorem d_Mo_init_200 : decode prog_13_method_1_code 200 = .ok (.putfield 81, 3) := by decide +kernel
theorem d_Mo_init_203 : decode prog_13_method_1_code 203 = .ok (.aload_n 0, 1) := by decide +kernel
theorem d_Mo_init_204 : decode prog_13_method_1_code 204 = .ok (.sipush 2000, 3) := by decide +kernel
theorem d_Mo_init_207 : decode prog_13_method_1_code 207 = .ok (.newarray .int, 2) := by decide +kernel
theorem d_Mo_init_209 : decode prog_13_method_1_code 209 = .ok (.putfield 84, 3) := by decide +kernel
theorem d_Mo_init_212 : decode prog_13_method_1_code 212 = .ok (.aload_n 0, 1) := by decide +kernel
theorem d_Mo_init_213 : decode prog_13_method_1_code 213 = .ok (.iconst 0, 1) := by decide +kernel
theorem d_Mo_init_214 : decode prog_13_method_1_code 214 = .ok (.putfield 87, 3) := by decide +kernel
theorem d_Mo_init_217 : decode prog_13_method_1_code 217 = .ok (.return_, 1) := by decide +kernel
theorem d_Fo_init_0 : decode prog_2_method_1_code 0 = .ok (.aload_n 0, 1) := by decide +kernel
theorem d_Fo_init_1 : decode prog_2_method_1_code 1 = .ok (.invokespecial 3, 3) := by decide +kernel
theorem d_Fo_init_4 : decode prog_2_method_1_code 4 = .ok (.aload_n 0, 1) := by decide +kernel
theorem d_Fo_init_5 : decode prog_2_method_1_code 5 = .ok (.bipush 12, 2) := by decide +kernel
theorem d_Fo_init_7 : decode prog_2_method_1_code 7 = .ok (.anewarray 9, 3) := by decide +kernel
theorem d_Fo_init_10 : decode prog_2_method_1_code 10 = .ok (.putfield 11, 3) := by decide +kernel
theorem d_Fo_init_13 : decode prog_2_method_1_code 13 = .ok (.aload_n 0, 1) := by decide +kernel
theorem d_Fo_init_14 : decode prog_2_method_1_code 14 = .ok (.new 9, 3) := by decide +kernel
theorem d_Fo_init_17 : decode prog_2_method_1_code 17 = .ok (.dup, 1) := by decide +kernel
theorem d_Fo_init_18 : decode prog_2_method_1_code 18 = .ok (.invokespecial 17, 3) := by decide +kernel
theorem d_Fo_init_21 : decode prog_2_method_1_code 21 = .ok (.putfield 18, 3) := by decide +kernel
theorem d_Fo_init_24 : decode prog_2_method_1_code 24 = .ok (.aload_n 0, 1) := by decide +kernel
theorem d_Fo_init_25 : decode prog_2_method_1_code 25 = .ok (.new 9, 3) := by decide +kernel
theorem d_Fo_init_28 : decode prog_2_method_1_code 28 = .ok (.dup, 1) := by decide +kernel
theorem d_Fo_init_29 : decode prog_2_method_1_code 29 = .ok (.invokespecial 17, 3) := by decide +kernel
theorem d_Fo_init_32 : decode prog_2_method_1_code 32 = .ok (.putfield 22, 3) := by decide +kernel
theorem d_Fo_init_35 : decode prog_2_method_1_code 35 = .ok (.aload_n 0, 1) := by decide +kernel
theorem d_Fo_init_36 : decode prog_2_method_1_code 36 = .ok (.new 9, 3) := by decide +kernel
theorem d_Fo_init_39 : decode prog_2_method_1_code 39 = .ok (.dup, 1) := by decide +kernel
theorem d_Fo_init_40 : decode prog_2_method_1_code 40 = .ok (.invokespecial 17, 3) := by decide +kernel
theorem d_Fo_init_43 : decode prog_2_method_1_code 43 = .ok (.putfield 25, 3) := by decide +kernel
theorem d_Fo_init_46 : decode prog_2_method_1_code 46 = .ok (.aload_n 0, 1) := by decide +kernel
theorem d_Fo_init_47 : decode prog_2_method_1_code 47 = .ok (.new 9, 3) := by decide +kernel
theorem d_Fo_init_50 : decode prog_2_method_1_code 50 = .ok (.dup, 1) := by decide +kernel
theorem d_Fo_init_51 : decode prog_2_method_1_code 51 = .ok (.invokespecial 17, 3) := by decide +kernel
theorem d_Fo_init_54 : decode prog_2_method_1_code 54 = .ok (.putfield 28, 3) := by decide +kernel
theorem d_Fo_init_57 : decode prog_2_method_1_code 57 = .ok (.aload_n 0, 1) := by decide +kernel
theorem d_Fo_init_58 : decode prog_2_method_1_code 58 = .ok (.new 9, 3) := by decide +kernel
theorem d_Fo_init_61 : decode prog_2_method_1_code 61 = .ok (.dup, 1) := by decide +kernel
theorem d_Fo_init_62 : decode prog_2_method_1_code 62 = .ok (.invokespecial 17, 3) := by decide +kernel
theorem d_Fo_init_65 : decode prog_2_method_1_code 65 = .ok (.putfield 31, 3) := by decide +kernel
theorem d_Fo_init_68 : decode prog_2_method_1_code 68 = .ok (.aload_n 0, 1) := by decide +kernel
theorem d_Fo_init_69 : decode prog_2_method_1_code 69 = .ok (.new 9, 3) := by decide +kernel
theorem d_Fo_init_72 : decode prog_2_method_1_code 72 = .ok (.dup, 1) := by decide +kernel
theorem d_Fo_init_73 : decode prog_2_method_1_code 73 = .ok (.invokespecial 17, 3) := by decide +kernel
theorem d_Fo_init_76 : decode prog_2_method_1_code 76 = .ok (.putfield 34, 3) := by decide +kernel
theorem d_Fo_init_79 : decode prog_2_method_1_code 79 = .ok (.aload_n 0, 1) := by decide +kernel
theorem d_Fo_init_80 : decode prog_2_method_1_code 80 = .ok (.new 37, 3) := by decide +kernel
theorem d_Fo_init_83 : decode prog_2_method_1_code 83 = .ok (.dup, 1) := by decide +kernel
theorem d_Fo_init_84 : decode prog_2_method_1_code 84 = .ok (.invokespecial 39, 3) := by decide +kernel
theorem d_Fo_init_87 : decode prog_2_method_1_code 87 = .ok (.putfield 40, 3) := by decide +kernel
theorem d_Fo_init_90 : decode prog_2_method_1_code 90 = .ok (.iconst 0, 1) := by decide +kernel
theorem d_Fo_init_91 : decode prog_2_method_1_code 91 = .ok (.istore_n 1, 1) := by decide +kernel
theorem d_Fo_init_92 : decode prog_2_method_1_code 92 = .ok (.iload_n 1, 1) := by decide +kernel
theorem d_Fo_init_93 : decode prog_2_method_1_code 93 = .ok (.bipush 12, 2) := by decide +kernel
theorem d_Fo_init_95 : decode prog_2_method_1_code 95 = .ok (.if_icmp .ge 22, 3) := by decide +kernel
theorem d_Fo_init_98 : decode prog_2_method_1_code 98 = .ok (.aload_n 0, 1) := by decide +kernel
theorem d_Fo_init_99 : decode prog_2_method_1_code 99 = .ok (.getfield 11, 3) := by decide +kernel
theorem d_Fo_init_102 : decode prog_2_method_1_code 102 = .ok (.iload_n 1, 1) := by decide +kernel
theorem d_Fo_init_103 : decode prog_2_method_1_code 103 = .ok (.new 9, 3) := by decide +kernel
theorem d_Fo_init_106 : decode prog_2_method_1_code 106 = .ok (.dup, 1) := by decide +kernel
theorem d_Fo_init_107 : decode prog_2_method_1_code 107 = .ok (.invokespecial 17, 3) := by decide +kernel
theorem d_Fo_init_110 : decode prog_2_method_1_code 110 = .ok (.aastore, 1) := by decide +kernel
theorem d_Fo_init_111 : decode prog_2_method_1_code 111 = .ok (.iinc 1 1, 3) := by decide +kernel
theorem d_Fo_init_114 : decode prog_2_method_1_code 114 = .ok (.goto (-22), 3) := by decide +kernel
theorem d_Fo_init_117 : decode prog_2_method_1_code 117 = .ok (.return_, 1) := by decide +kernel
theorem d_Fr_init_0 : decode prog_3_method_1_code 0 = .ok (.aload_n 0, 1) := by decide +kernel
theorem d_Fr_init_1 : decode prog_3_method_1_code 1 = .ok (.invokespecial 1, 3) := by decide +kernel
theorem d_Fr_init_4 : decode prog_3_method_1_code 4 = .ok (.aload_n 0, 1) := by decide +kernel
theorem d_Fr_init_5 : decode prog_3_method_1_code 5 = .ok (.new 7, 3) := by decide +kernel
theorem d_Fr_init_8 : decode prog_3_method_1_code 8 = .ok (.dup, 1) := by decide +kernel
theorem d_Fr_init_9 : decode prog_3_method_1_code 9 = .ok (.invokespecial 9, 3) := by decide +kernel
theorem d_Fr_init_12 : decode prog_3_method_1_code 12 = .ok (.putfield 10, 3) := by decide +kernel
theorem d_Fr_init_15 : decode prog_3_method_1_code 15 = .ok (.aload_n 0, 1) := by decide +kernel
theorem d_Fr_init_16 : decode prog_3_method_1_code 16 = .ok (.new 7, 3) := by decide +kernel
theorem d_Fr_init_19 : decode prog_3_method_1_code 19 = .ok (.dup, 1) := by decide +kernel
theorem d_Fr_init_20 : decode prog_3_method_1_code 20 = .ok (.invokespecial 9, 3) := by decide +kernel
theorem d_Fr_init_23 : decode prog_3_method_1_code 23 = .ok (.putfield 16, 3) := by decide +kernel
theorem d_Fr_init_26 : decode prog_3_method_1_code 26 = .ok (.aload_n 0, 1) := by decide +kernel
theorem d_Fr_init_27 : decode prog_3_method_1_code 27 = .ok (.getfield 16, 3) := by decide +kernel
theorem d_Fr_init_30 : decode prog_3_method_1_code 30 = .ok (.lconst 1, 1) := by decide +kernel
theorem d_Fr_init_31 : decode prog_3_method_1_code 31 = .ok (.invokevirtual 19, 3) := by decide +kernel
theorem d_Fr_init_34 : decode prog_3_method_1_code 34 = .ok (.return_, 1) := by decide +kernel
theorem d_Jo_init_0 : decode prog_4_method_1_code 0 = .ok (.aload_n 0, 1) := by decide +kernel
theorem d_Jo_init_1 : decode prog_4_method_1_code 1 = .ok (.invokespecial 3, 3) := by decide +kernel
theorem d_Jo_init_4 : decode prog_4_method_1_code 4 = .ok (.aload_n 0, 1) := by decide +kernel
theorem d_Jo_init_5 : decode prog_4_method_1_code 5 = .ok (.bipush 12, 2) := by decide +kernel
theorem d_Jo_init_7 : decode prog_4_method_1_code 7 = .ok (.newarray .int, 2) := by decide +kernel
theorem d_Jo_init_9 : decode prog_4_method_1_code 9 = .ok (.putfield 9, 3) := by decide +kernel
theorem d_Jo_init_12 : decode prog_4_method_1_code 12 = .ok (.aload_n 0, 1) := by decide +kernel
theorem d_Jo_init_13 : decode prog_4_method_1_code 13 = .ok (.bipush 12, 2) := by decide +kernel
theorem d_Jo_init_15 : decode prog_4_method_1_code 15 = .ok (.newarray .int, 2) := by decide +kernel
theorem d_Jo_init_17 : decode prog_4_method_1_code 17 = .ok (.putfield 15, 3) := by decide +kernel
theorem d_Jo_init_20 : decode prog_4_method_1_code 20 = .ok (.aload_n 0, 1) := by decide +kernel
theorem d_Jo_init_21 : decode prog_4_method_1_code 21 = .ok (.bipush 12, 2) := by decide +kernel
theorem d_Jo_init_23 : decode prog_4_method_1_code 23 = .ok (.newarray .int, 2) := by decide +kernel
theorem d_Jo_init_25 : decode prog_4_method_1_code 25 = .ok (.putfield 18, 3) := by decide +kernel
theorem d_Jo_init_28 : decode prog_4_method_1_code 28 = .ok (.aload_n 0, 1) := by decide +kernel
theorem d_Jo_init_29 : decode prog_4_method_1_code 29 = .ok (.bipush 12, 2) := by decide +kernel
theorem d_Jo_init_31 : decode prog_4_method_1_code 31 = .ok (.newarray .int, 2) := by decide +kernel
theorem d_Jo_init_33 : decode prog_4_method_1_code 33 = .ok (.putfield 21, 3) := by decide +kernel
theorem d_Jo_init_36 : decode prog_4_method_1_code 36 = .ok (.return_, 1) := by decide +kernel
theorem d_Le_init_0 : decode prog_5_method_1_code 0 = .ok (.aload_n 0, 1) := by decide +kernel
theorem d_Le_init_1 : decode prog_5_method_1_code 1 = .ok (.invokespecial 3, 3) := by decide +kernel
theorem d_Le_init_4 : decode prog_5_method_1_code 4 = .ok (.aload_n 0, 1) := by decide +kernel
theorem d_Le_init_5 : decode prog_5_method_1_code 5 = .ok (.bipush 8, 2) := by decide +kernel
theorem d_Le_init_7 : decode prog_5_method_1_code 7 = .ok (.newarray .int, 2) := by decide +kernel
theorem d_Le_init_9 : decode prog_5_method_1_code 9 = .ok (.putfield 9, 3) := by decide +kernel
theorem d_Le_init_12 : decode prog_5_method_1_code 12 = .ok (.aload_n 0, 1) := by decide +kernel
theorem d_Le_init_13 : decode prog_5_method_1_code 13 = .ok (.bipush 8, 2) := by decide +kernel
theorem d_Le_init_15 : decode prog_5_method_1_code 15 = .ok (.newarray .int, 2) := by decide +kernel
theorem d_Le_init_17 : decode prog_5_method_1_code 17 = .ok (.putfield 15, 3) := by decide +kernel
theorem d_Le_init_20 : decode prog_5_method_1_code 20 = .ok (.return_, 1) := by decide +kernel
theorem d_Na_init_0 : decode prog_6_method_1_code 0 = .ok (.aload_n 0, 1) := by decide +kernel
theorem d_Na_init_1 : decode prog_6_method_1_code 1 = .ok (.invokespecial 3, 3) := by decide +kernel
theorem d_Na_init_4 : decode prog_6_method_1_code 4 = .ok (.aload_n 0, 1) := by decide +kernel
theorem d_Na_init_5 : decode prog_6_method_1_code 5 = .ok (.bipush 32, 2) := by decide +kernel
theorem d_Na_init_7 : decode prog_6_method_1_code 7 = .ok (.newarray .int, 2) := by decide +kernel
theorem d_Na_init_9 : decode prog_6_method_1_code 9 = .ok (.putfield 9, 3) := by decide +kernel
theorem d_Na_init_12 : decode prog_6_method_1_code 12 = .ok (.return_, 1) := by decide +kernel
theorem d_Pl_init_0 : decode prog_7_method_1_code 0 = .ok (.aload_n 0, 1) := by decide +kernel
theorem d_Pl_init_1 : decode prog_7_method_1_code 1 = .ok (.invokespecial 3, 3) := by decide +kernel
theorem d_Pl_init_4 : decode prog_7_method_1_code 4 = .ok (.aload_n 0, 1) := by decide +kernel
theorem d_Pl_init_5 : decode prog_7_method_1_code 5 = .ok (.bipush 12, 2) := by decide +kernel
theorem d_Pl_init_7 : decode prog_7_method_1_code 7 = .ok (.newarray .int, 2) := by decide +kernel
theorem d_Pl_init_9 : decode prog_7_method_1_code 9 = .ok (.putfield 9, 3) := by decide +kernel
theorem d_Pl_init_12 : decode prog_7_method_1_code 12 = .ok (.aload_n 0, 1) := by decide +kernel
theorem d_Pl_init_13 : decode prog_7_method_1_code 13 = .ok (.bipush 12, 2) := by decide +kernel
theorem d_Pl_init_15 : decode prog_7_method_1_code 15 = .ok (.newarray .int, 2) := by decide +kernel
theorem d_Pl_init_17 : decode prog_7_method_1_code 17 = .ok (.putfield 15, 3) := by decide +kernel
theorem d_Pl_init_20 : decode prog_7_method_1_code 20 = .ok (.aload_n 0, 1) := by decide +kernel
theorem d_Pl_init_21 : decode prog_7_method_1_code 21 = .ok (.bipush 12, 2) := by decide +kernel
theorem d_Pl_init_23 : decode prog_7_method_1_code 23 = .ok (.anewarray 18, 3) := by decide +kernel
theorem d_Pl_init_26 : decode prog_7_method_1_code 26 = .ok (.putfield 20, 3) := by decide +kernel
theorem d_Pl_init_29 : decode prog_7_method_1_code 29 = .ok (.aload_n 0, 1) := by decide +kernel
theorem d_Pl_init_30 : decode prog_7_method_1_code 30 = .ok (.bipush 12, 2) := by decide +kernel
theorem d_Pl_init_32 : decode prog_7_method_1_code 32 = .ok (.newarray .int, 2) := by decide +kernel
theorem d_Pl_init_34 : decode prog_7_method_1_code 34 = .ok (.putfield 24, 3) := by decide +kernel
theorem d_Pl_init_37 : decode prog_7_method_1_code 37 = .ok (.aload_n 0, 1) := by decide +kernel
theorem d_Pl_init_38 : decode prog_7_method_1_code 38 = .ok (.sipush 200, 3) := by decide +kernel
theorem d_Pl_init_41 : decode prog_7_method_1_code 41 = .ok (.newarray .int, 2) := by decide +kernel
theorem d_Pl_init_43 : decode prog_7_method_1_code 43 = .ok (.putfield 27, 3) := by decide +kernel
theorem d_Pl_init_46 : decode prog_7_method_1_code 46 = .ok (.aload_n 0, 1) := by decide +kernel
theorem d_Pl_init_47 : decode prog_7_method_1_code 47 = .ok (.sipush 201, 3) := by decide +kernel
theorem d_Pl_init_50 : decode prog_7_method_1_code 50 = .ok (.newarray .int, 2) := by decide +kernel
theorem d_Pl_init_52 : decode prog_7_method_1_code 52 = .ok (.putfield 30, 3) := by decide +kernel
theorem d_Pl_init_55 : decode prog_7_method_1_code 55 = .ok (.aload_n 0, 1) := by decide +kernel
theorem d_Pl_init_56 : decode prog_7_method_1_code 56 = .ok (.bipush 12, 2) := by decide +kernel
theorem d_Pl_init_58 : decode prog_7_method_1_code 58 = .ok (.newarray .int, 2) := by decide +kernel
theorem d_Pl_init_60 : decode prog_7_method_1_code 60 = .ok (.putfield 33, 3) := by decide +kernel
theorem d_Pl_init_63 : decode prog_7_method_1_code 63 = .ok (.aload_n 0, 1) := by decide +kernel
theorem d_Pl_init_64 : decode prog_7_method_1_code 64 = .ok (.new 18, 3) := by decide +kernel
theorem d_Pl_init_67 : decode prog_7_method_1_code 67 = .ok (.dup, 1) := by decide +kernel
theorem d_Pl_init_68 : decode prog_7_method_1_code 68 = .ok (.invokespecial 36, 3) := by decide +kernel
theorem d_Pl_init_71 : decode prog_7_method_1_code 71 = .ok (.putfield 37, 3) := by decide +kernel
theorem d_Pl_init_74 : decode prog_7_method_1_code 74 = .ok (.iconst 0, 1) := by decide +kernel
theorem d_Pl_init_75 : decode prog_7_method_1_code 75 = .ok (.istore_n 1, 1) := by decide +kernel
theorem d_Pl_init_76 : decode prog_7_method_1_code 76 = .ok (.iload_n 1, 1) := by decide +kernel
theorem d_Pl_init_77 : decode prog_7_method_1_code 77 = .ok (.bipush 12, 2) := by decide +kernel
theorem d_Pl_init_79 : decode prog_7_method_1_code 79 = .ok (.if_icmp .ge 22, 3) := by decide +kernel
theorem d_Pl_init_82 : decode prog_7_method_1_code 82 = .ok (.aload_n 0, 1) := by decide +kernel
theorem d_Pl_init_83 : decode prog_7_method_1_code 83 = .ok (.getfield 20, 3) := by decide +kernel
theorem d_Pl_init_86 : decode prog_7_method_1_code 86 = .ok (.iload_n 1, 1) := by decide +kernel
theorem d_Pl_init_87 : decode prog_7_method_1_code 87 = .ok (.new 18, 3) := by decide +kernel
theorem d_Pl_init_90 : decode prog_7_method_1_code 90 = .ok (.dup, 1) := by decide +kernel
theorem d_Pl_init_91 : decode prog_7_method_1_code 91 = .ok (.invokespecial 36, 3) := by decide +kernel
theorem d_Pl_init_94 : decode prog_7_method_1_code 94 = .ok (.aastore, 1) := by decide +kernel
theorem d_Pl_init_95 : decode prog_7_method_1_code 95 = .ok (.iinc 1 1, 3) := by decide +kernel
theorem d_Pl_init_98 : decode prog_7_method_1_code 98 = .ok (.goto (-22), 3) := by decide +kernel
theorem d_Pl_init_101 : decode prog_7_method_1_code 101 = .ok (.return_, 1) := by decide +kernel
theorem d_Pr_init_0 : decode prog_8_method_1_code 0 = .ok (.aload_n 0, 1) := by decide +kernel
theorem d_Pr_init_1 : decode prog_8_method_1_code 1 = .ok (.invokespecial 3, 3) := by decide +kernel
theorem d_Pr_init_4 : decode prog_8_method_1_code 4 = .ok (.aload_n 0, 1) := by decide +kernel
theorem d_Pr_init_5 : decode prog_8_method_1_code 5 = .ok (.bipush 24, 2) := by decide +kernel
theorem d_Pr_init_7 : decode prog_8_method_1_code 7 = .ok (.newarray .int, 2) := by decide +kernel
theorem d_Pr_init_9 : decode prog_8_method_1_code 9 = .ok (.putfield 9, 3) := by decide +kernel
theorem d_Pr_init_12 : decode prog_8_method_1_code 12 = .ok (.aload_n 0, 1) := by decide +kernel
theorem d_Pr_init_13 : decode prog_8_method_1_code 13 = .ok (.bipush 24, 2) := by decide +kernel
theorem d_Pr_init_15 : decode prog_8_method_1_code 15 = .ok (.newarray .int, 2) := by decide +kernel
theorem d_Pr_init_17 : decode prog_8_method_1_code 17 = .ok (.putfield 15, 3) := by decide +kernel
theorem d_Pr_init_20 : decode prog_8_method_1_code 20 = .ok (.aload_n 0, 1) := by decide +kernel
theorem d_Pr_init_21 : decode prog_8_method_1_code 21 = .ok (.bipush 24, 2) := by decide +kernel
theorem d_Pr_init_23 : decode prog_8_method_1_code 23 = .ok (.anewarray 18, 3) := by decide +kernel
theorem d_Pr_init_26 : decode prog_8_method_1_code 26 = .ok (.putfield 20, 3) := by decide +kernel
theorem d_Pr_init_29 : decode prog_8_method_1_code 29 = .ok (.aload_n 0, 1) := by decide +kernel
theorem d_Pr_init_30 : decode prog_8_method_1_code 30 = .ok (.bipush 12, 2) := by decide +kernel
theorem d_Pr_init_32 : decode prog_8_method_1_code 32 = .ok (.anewarray 18, 3) := by decide +kernel
theorem d_Pr_init_35 : decode prog_8_method_1_code 35 = .ok (.putfield 24, 3) := by decide +kernel
theorem d_Pr_init_38 : decode prog_8_method_1_code 38 = .ok (.aload_n 0, 1) := by decide +kernel
theorem d_Pr_init_39 : decode prog_8_method_1_code 39 = .ok (.sipush 200, 3) := by decide +kernel
theorem d_Pr_init_42 : decode prog_8_method_1_code 42 = .ok (.newarray .int, 2) := by decide +kernel
theorem d_Pr_init_44 : decode prog_8_method_1_code 44 = .ok (.putfield 27, 3) := by decide +kernel
theorem d_Pr_init_47 : decode prog_8_method_1_code 47 = .ok (.aload_n 0, 1) := by decide +kernel
theorem d_Pr_init_48 : decode prog_8_method_1_code 48 = .ok (.new 18, 3) := by decide +kernel
theorem d_Pr_init_51 : decode prog_8_method_1_code 51 = .ok (.dup, 1) := by decide +kernel
theorem d_Pr_init_52 : decode prog_8_method_1_code 52 = .ok (.invokespecial 30, 3) := by decide +kernel
theorem d_Pr_init_55 : decode prog_8_method_1_code 55 = .ok (.putfield 31, 3) := by decide +kernel
theorem d_Pr_init_58 : decode prog_8_method_1_code 58 = .ok (.iconst 0, 1) := by decide +kernel
theorem d_Pr_init_59 : decode prog_8_method_1_code 59 = .ok (.istore_n 1, 1) := by decide +kernel
theorem d_Pr_init_60 : decode prog_8_method_1_code 60 = .ok (.iload_n 1, 1) := by decide +kernel
theorem d_Pr_init_61 : decode prog_8_method_1_code 61 = .ok (.bipush 24, 2) := by decide +kernel
theorem d_Pr_init_63 : decode prog_8_method_1_code 63 = .ok (.if_icmp .ge 22, 3) := by decide +kernel
theorem d_Pr_init_66 : decode prog_8_method_1_code 66 = .ok (.aload_n 0, 1) := by decide +kernel
theorem d_Pr_init_67 : decode prog_8_method_1_code 67 = .ok (.getfield 20, 3) := by decide +kernel
theorem d_Pr_init_70 : decode prog_8_method_1_code 70 = .ok (.iload_n 1, 1) := by decide +kernel
theorem d_Pr_init_71 : decode prog_8_method_1_code 71 = .ok (.new 18, 3) := by decide +kernel
theorem d_Pr_init_74 : decode prog_8_method_1_code 74 = .ok (.dup, 1) := by decide +kernel
theorem d_Pr_init_75 : decode prog_8_method_1_code 75 = .ok (.invokespecial 30, 3) := by decide +kernel
theorem d_Pr_init_78 : decode prog_8_method_1_code 78 = .ok (.aastore, 1) := by decide +kernel
theorem d_Pr_init_79 : decode prog_8_method_1_code 79 = .ok (.iinc 1 1, 3) := by decide +kernel
theorem d_Pr_init_82 : decode prog_8_method_1_code 82 = .ok (.goto (-22), 3) := by decide +kernel
theorem d_Pr_init_85 : decode prog_8_method_1_code 85 = .ok (.iconst 0, 1) := by decide +kernel
theorem d_Pr_init_86 : decode prog_8_method_1_code 86 = .ok (.istore_n 1, 1) := by decide +kernel
theorem d_Pr_init_87 : decode prog_8_method_1_code 87 = .ok (.iload_n 1, 1) := by decide +kernel
theorem d_Pr_init_88 : decode prog_8_method_1_code 88 = .ok (.bipush 12, 2) := by decide +kernel
theorem d_Pr_init_90 : decode prog_8_method_1_code 90 = .ok (.if_icmp .ge 22, 3) := by decide +kernel
theorem d_Pr_init_93 : decode prog_8_method_1_code 93 = .ok (.aload_n 0, 1) := by decide +kernel
theorem d_Pr_init_94 : decode prog_8_method_1_code 94 = .ok (.getfield 24, 3) := by decide +kernel
theorem d_Pr_init_97 : decode prog_8_method_1_code 97 = .ok (.iload_n 1, 1) := by decide +kernel
theorem d_Pr_init_98 : decode prog_8_method_1_code 98 = .ok (.new 18, 3) := by decide +kernel
theorem d_Pr_init_101 : decode prog_8_method_1_code 101 = .ok (.dup, 1) := by decide +kernel
theorem d_Pr_init_102 : decode prog_8_method_1_code 102 = .ok (.invokespecial 30, 3) := by decide +kernel
theorem d_Pr_init_105 : decode prog_8_method_1_code 105 = .ok (.aastore, 1) := by decide +kernel
theorem d_Pr_init_106 : decode prog_8_method_1_code 106 = .ok (.iinc 1 1, 3) := by decide +kernel
theorem d_Pr_init_109 : decode prog_8_method_1_code 109 = .ok (.goto (-22), 3) := by decide +kernel
theorem d_Pr_init_112 : decode prog_8_method_1_code 112 = .ok (.return_, 1) := by decide +kernel
theorem d_Re_init_0 : decode prog_9_method_1_code 0 = .ok (.aload_n 0, 1) := by decide +kernel
theorem d_Re_init_1 : decode prog_9_method_1_code 1 = .ok (.invokespecial 3, 3) := by decide +kernel
theorem d_Re_init_4 : decode prog_9_method_1_code 4 = .ok (.aload_n 0, 1) := by decide +kernel
theorem d_Re_init_5 : decode prog_9_method_1_code 5 = .ok (.new 9, 3) := by decide +kernel
theorem d_Re_init_8 : decode prog_9_method_1_code 8 = .ok (.dup, 1) := by decide +kernel
theorem d_Re_init_9 : decode prog_9_method_1_code 9 = .ok (.invokespecial 11, 3) := by decide +kernel
theorem d_Re_init_12 : decode prog_9_method_1_code 12 = .ok (.putfield 12, 3) := by decide +kernel
theorem d_Re_init_15 : decode prog_9_method_1_code 15 = .ok (.aload_n 0, 1) := by decide +kernel
theorem d_Re_init_16 : decode prog_9_method_1_code 16 = .ok (.new 9, 3) := by decide +kernel
theorem d_Re_init_19 : decode prog_9_method_1_code 19 = .ok (.dup, 1) := by decide +kernel
theorem d_Re_init_20 : decode prog_9_method_1_code 20 = .ok (.invokespecial 11, 3) := by decide +kernel
theorem d_Re_init_23 : decode prog_9_method_1_code 23 = .ok (.putfield 18, 3) := by decide +kernel
theorem d_Re_init_26 : decode prog_9_method_1_code 26 = .ok (.aload_n 0, 1) := by decide +kernel
theorem d_Re_init_27 : decode prog_9_method_1_code 27 = .ok (.new 9, 3) := by decide +kernel
theorem d_Re_init_30 : decode prog_9_method_1_code 30 = .ok (.dup, 1) := by decide +kernel
theorem d_Re_init_31 : decode prog_9_method_1_code 31 = .ok (.invokespecial 11, 3) := by decide +kernel
theorem d_Re_init_34 : decode prog_9_method_1_code 34 = .ok (.putfield 21, 3) := by decide +kernel
theorem d_Re_init_37 : decode prog_9_method_1_code 37 = .ok (.aload_n 0, 1) := by decide +kernel
theorem d_Re_init_38 : decode prog_9_method_1_code 38 = .ok (.new 9, 3) := by decide +kernel
theorem d_Re_init_41 : decode prog_9_method_1_code 41 = .ok (.dup, 1) := by decide +kernel
theorem d_Re_init_42 : decode prog_9_method_1_code 42 = .ok (.invokespecial 11, 3) := by decide +kernel
theorem d_Re_init_45 : decode prog_9_method_1_code 45 = .ok (.putfield 24, 3) := by decide +kernel
theorem d_Re_init_48 : decode prog_9_method_1_code 48 = .ok (.aload_n 0, 1) := by decide +kernel
theorem d_Re_init_49 : decode prog_9_method_1_code 49 = .ok (.new 9, 3) := by decide +kernel
theorem d_Re_init_52 : decode prog_9_method_1_code 52 = .ok (.dup, 1) := by decide +kernel
theorem d_Re_init_53 : decode prog_9_method_1_code 53 = .ok (.invokespecial 11, 3) := by decide +kernel
theorem d_Re_init_56 : decode prog_9_method_1_code 56 = .ok (.putfield 27, 3) := by decide +kernel
theorem d_Re_init_59 : decode prog_9_method_1_code 59 = .ok (.aload_n 0, 1) := by decide +kernel
theorem d_Re_init_60 : decode prog_9_method_1_code 60 = .ok (.new 9, 3) := by decide +kernel
theorem d_Re_init_63 : decode prog_9_method_1_code 63 = .ok (.dup, 1) := by decide +kernel
theorem d_Re_init_64 : decode prog_9_method_1_code 64 = .ok (.invokespecial 11, 3) := by decide +kernel
theorem d_Re_init_67 : decode prog_9_method_1_code 67 = .ok (.putfield 30, 3) := by decide +kernel
theorem d_Re_init_70 : decode prog_9_method_1_code 70 = .ok (.aload_n 0, 1) := by decide +kernel
theorem d_Re_init_71 : decode prog_9_method_1_code 71 = .ok (.new 9, 3) := by decide +kernel
theorem d_Re_init_74 : decode prog_9_method_1_code 74 = .ok (.dup, 1) := by decide +kernel
theorem d_Re_init_75 : decode prog_9_method_1_code 75 = .ok (.invokespecial 11, 3) := by decide +kernel
theorem d_Re_init_78 : decode prog_9_method_1_code 78 = .ok (.putfield 33, 3) := by decide +kernel
theorem d_Re_init_81 : decode prog_9_method_1_code 81 = .ok (.aload_n 0, 1) := by decide +kernel
theorem d_Re_init_82 : decode prog_9_method_1_code 82 = .ok (.new 9, 3) := by decide +kernel
theorem d_Re_init_85 : decode prog_9_method_1_code 85 = .ok (.dup, 1) := by decide +kernel
theorem d_Re_init_86 : decode prog_9_method_1_code 86 = .ok (.invokespecial 11, 3) := by decide +kernel
theorem d_Re_init_89 : decode prog_9_method_1_code 89 = .ok (.putfield 36, 3) := by decide +kernel
theorem d_Re_init_92 : decode prog_9_method_1_code 92 = .ok (.aload_n 0, 1) := by decide +kernel
theorem d_Re_init_93 : decode prog_9_method_1_code 93 = .ok (.bipush 24, 2) := by decide +kernel
theorem d_Re_init_95 : decode prog_9_method_1_code 95 = .ok (.anewarray 9, 3) := by decide +kernel
theorem d_Re_init_98 : decode prog_9_method_1_code 98 = .ok (.putfield 39, 3) := by decide +kernel
theorem d_Re_init_101 : decode prog_9_method_1_code 101 = .ok (.iconst 0, 1) := by decide +kernel
theorem d_Re_init_102 : decode prog_9_method_1_code 102 = .ok (.istore_n 1, 1) := by decide +kernel
theorem d_Re_init_103 : decode prog_9_method_1_code 103 = .ok (.iload_n 1, 1) := by decide +kernel
theorem d_Re_init_104 : decode prog_9_method_1_code 104 = .ok (.bipush 24, 2) := by decide +kernel
theorem d_Re_init_106 : decode prog_9_method_1_code 106 = .ok (.if_icmp .ge 22, 3) := by decide +kernel
theorem d_Re_init_109 : decode prog_9_method_1_code 109 = .ok (.aload_n 0, 1) := by decide +kernel
theorem d_Re_init_110 : decode prog_9_method_1_code 110 = .ok (.getfield 39, 3) := by decide +kernel
theorem d_Re_init_113 : decode prog_9_method_1_code 113 = .ok (.iload_n 1, 1) := by decide +kernel
theorem d_Re_init_114 : decode prog_9_method_1_code 114 = .ok (.new 9, 3) := by decide +kernel
theorem d_Re_init_117 : decode prog_9_method_1_code 117 = .ok (.dup, 1) := by decide +kernel
theorem d_Re_init_118 : decode prog_9_method_1_code 118 = .ok (.invokespecial 11, 3) := by decide +kernel
theorem d_Re_init_121 : decode prog_9_method_1_code 121 = .ok (.aastore, 1) := by decide +kernel
theorem d_Re_init_122 : decode prog_9_method_1_code 122 = .ok (.iinc 1 1, 3) := by decide +kernel
theorem d_Re_init_125 : decode prog_9_method_1_code 125 = .ok (.goto (-22), 3) := by decide +kernel
theorem d_Re_init_128 : decode prog_9_method_1_code 128 = .ok (.return_, 1) := by decide +kernel
theorem d_Sp_init_0 : decode prog_10_method_1_code 0 = .ok (.aload_n 0, 1) := by decide +kernel
theorem d_Sp_init_1 : decode prog_10_method_1_code 1 = .ok (.invokespecial 3, 3) := by decide +kernel
theorem d_Sp_init_4 : decode prog_10_method_1_code 4 = .ok (.aload_n 0, 1) := by decide +kernel
theorem d_Sp_init_5 : decode prog_10_method_1_code 5 = .ok (.bipush 12, 2) := by decide +kernel
theorem d_Sp_init_7 : decode prog_10_method_1_code 7 = .ok (.newarray .int, 2) := by decide +kernel
theorem d_Sp_init_9 : decode prog_10_method_1_code 9 = .ok (.putfield 9, 3) := by decide +kernel
theorem d_Sp_init_12 : decode prog_10_method_1_code 12 = .ok (.aload_n 0, 1) := by decide +kernel
theorem d_Sp_init_13 : decode prog_10_method_1_code 13 = .ok (.bipush 12, 2) := by decide +kernel
theorem d_Sp_init_15 : decode prog_10_method_1_code 15 = .ok (.newarray .int, 2) := by decide +kernel
theorem d_Sp_init_17 : decode prog_10_method_1_code 17 = .ok (.putfield 15, 3) := by decide +kernel
theorem d_Sp_init_20 : decode prog_10_method_1_code 20 = .ok (.aload_n 0, 1) := by decide +kernel
theorem d_Sp_init_21 : decode prog_10_method_1_code 21 = .ok (.bipush 12, 2) := by decide +kernel
theorem d_Sp_init_23 : decode prog_10_method_1_code 23 = .ok (.anewarray 18, 3) := by decide +kernel
theorem d_Sp_init_26 : decode prog_10_method_1_code 26 = .ok (.putfield 20, 3) := by decide +kernel
theorem d_Sp_init_29 : decode prog_10_method_1_code 29 = .ok (.aload_n 0, 1) := by decide +kernel
theorem d_Sp_init_30 : decode prog_10_method_1_code 30 = .ok (.bipush 12, 2) := by decide +kernel
theorem d_Sp_init_32 : decode prog_10_method_1_code 32 = .ok (.anewarray 18, 3) := by decide +kernel
theorem d_Sp_init_35 : decode prog_10_method_1_code 35 = .ok (.putfield 24, 3) := by decide +kernel
theorem d_Sp_init_38 : decode prog_10_method_1_code 38 = .ok (.aload_n 0, 1) := by decide +kernel
theorem d_Sp_init_39 : decode prog_10_method_1_code 39 = .ok (.new 18, 3) := by decide +kernel
theorem d_Sp_init_42 : decode prog_10_method_1_code 42 = .ok (.dup, 1) := by decide +kernel
theorem d_Sp_init_43 : decode prog_10_method_1_code 43 = .ok (.invokespecial 27, 3) := by decide +kernel
theorem d_Sp_init_46 : decode prog_10_method_1_code 46 = .ok (.putfield 28, 3) := by decide +kernel
theorem d_Sp_init_49 : decode prog_10_method_1_code 49 = .ok (.iconst 0, 1) := by decide +kernel
theorem d_Sp_init_50 : decode prog_10_method_1_code 50 = .ok (.istore_n 1, 1) := by decide +kernel
theorem d_Sp_init_51 : decode prog_10_method_1_code 51 = .ok (.iload_n 1, 1) := by decide +kernel
theorem d_Sp_init_52 : decode prog_10_method_1_code 52 = .ok (.bipush 12, 2) := by decide +kernel
theorem d_Sp_init_54 : decode prog_10_method_1_code 54 = .ok (.if_icmp .ge 35, 3) := by decide +kernel
theorem d_Sp_init_57 : decode prog_10_method_1_code 57 = .ok (.aload_n 0, 1) := by decide +kernel
theorem d_Sp_init_58 : decode prog_10_method_1_code 58 = .ok (.getfield 20, 3) := by decide +kernel
theorem d_Sp_init_61 : decode prog_10_method_1_code 61 = .ok (.iload_n 1, 1) := by decide +kernel
theorem d_Sp_init_62 : decode prog_10_method_1_code 62 = .ok (.new 18, 3) := by decide +kernel
theorem d_Sp_init_65 : decode prog_10_method_1_code 65 = .ok (.dup, 1) := by decide +kernel
theorem d_Sp_init_66 : decode prog_10_method_1_code 66 = .ok (.invokespecial 27, 3) := by decide +kernel
theorem d_Sp_init_69 : decode prog_10_method_1_code 69 = .ok (.aastore, 1) := by decide +kernel
theorem d_Sp_init_70 : decode prog_10_method_1_code 70 = .ok (.aload_n 0, 1) := by decide +kernel
theorem d_Sp_init_71 : decode prog_10_method_1_code 71 = .ok (.getfield 24, 3) := by decide +kernel
theorem d_Sp_init_74 : decode prog_10_method_1_code 74 = .ok (.iload_n 1, 1) := by decide +kernel
theorem d_Sp_init_75 : decode prog_10_method_1_code 75 = .ok (.new 18, 3) := by decide +kernel
theorem d_Sp_init_78 : decode prog_10_method_1_code 78 = .ok (.dup, 1) := by decide +kernel
theorem d_Sp_init_79 : decode prog_10_method_1_code 79 = .ok (.invokespecial 27, 3) := by decide +kernel
theorem d_Sp_init_82 : decode prog_10_method_1_code 82 = .ok (.aastore, 1) := by decide +kernel
theorem d_Sp_init_83 : decode prog_10_method_1_code 83 = .ok (.iinc 1 1, 3) := by decide +kernel
theorem d_Sp_init_86 : decode prog_10_method_1_code 86 = .ok (.goto (-35), 3) := by decide +kernel
theorem d_Sp_init_89 : decode prog_10_method_1_code 89 = .ok (.return_, 1) := by decide +kernel
theorem d_Te_init_0 : decode prog_11_method_1_code 0 = .ok (.aload_n 0, 1) := by decide +kernel
theorem d_Te_init_1 : decode prog_11_method_1_code 1 = .ok (.invokespecial 3, 3) := by decide +kernel
theorem d_Te_init_4 : decode prog_11_method_1_code 4 = .ok (.aload_n 0, 1) := by decide +kernel
theorem d_Te_init_5 : decode prog_11_method_1_code 5 = .ok (.sipush 721, 3) := by decide +kernel
theorem d_Te_init_8 : decode prog_11_method_1_code 8 = .ok (.newarray .char, 2) := by decide +kernel
theorem d_Te_init_10 : decode prog_11_method_1_code 10 = .ok (.putfield 9, 3) := by decide +kernel
theorem d_Te_init_13 : decode prog_11_method_1_code 13 = .ok (.aload_n 0, 1) := by decide +kernel
theorem d_Te_init_14 : decode prog_11_method_1_code 14 = .ok (.bipush 40, 2) := by decide +kernel
theorem d_Te_init_16 : decode prog_11_method_1_code 16 = .ok (.newarray .int, 2) := by decide +kernel
theorem d_Te_init_18 : decode prog_11_method_1_code 18 = .ok (.putfield 15, 3) := by decide +kernel
theorem d_Te_init_21 : decode prog_11_method_1_code 21 = .ok (.aload_n 0, 1) := by decide +kernel
theorem d_Te_init_22 : decode prog_11_method_1_code 22 = .ok (.new 19, 3) := by decide +kernel
theorem d_Te_init_25 : decode prog_11_method_1_code 25 = .ok (.dup, 1) := by decide +kernel
theorem d_Te_init_26 : decode prog_11_method_1_code 26 = .ok (.invokespecial 21, 3) := by decide +kernel
theorem d_Te_init_29 : decode prog_11_method_1_code 29 = .ok (.putfield 22, 3) := by decide +kernel
theorem d_Te_init_32 : decode prog_11_method_1_code 32 = .ok (.return_, 1) := by decide +kernel
theorem d_Ke_split_0 : decode prog_1_method_9_code 0 = .ok (.aload_n 0, 1) := by decide +kernel
theorem d_Ke_split_1 : decode prog_1_method_9_code 1 = .ok (.getfield 26, 3) := by decide +kernel
theorem d_Ke_split_4 : decode prog_1_method_9_code 4 = .ok (.getfield 122, 3) := by decide +kernel
theorem d_Ke_split_7 : decode prog_1_method_9_code 7 = .ok (.ifCond .ne 11, 3) := by decide +kernel
theorem d_Ke_split_10 : decode prog_1_method_9_code 10 = .ok (.new 129, 3) := by decide +kernel
theorem d_Ke_split_13 : decode prog_1_method_9_code 13 = .ok (.dup, 1) := by decide +kernel
theorem d_Ke_split_14 : decode prog_1_method_9_code 14 = .ok (.invokespecial 131, 3) := by decide +kernel
theorem d_Ke_split_17 : decode prog_1_method_9_code 17 = .ok (.athrow, 1) := by decide +kernel
theorem d_Ke_split_18 : decode prog_1_method_9_code 18 = .ok (.aload_n 0, 1) := by decide +kernel
theorem d_Ke_split_19 : decode prog_1_method_9_code 19 = .ok (.getfield 57, 3) := by decide +kernel
theorem d_Ke_split_22 : decode prog_1_method_9_code 22 = .ok (.aload_n 0, 1) := by decide +kernel
theorem d_Ke_split_23 : decode prog_1_method_9_code 23 = .ok (.getfield 12, 3) := by decide +kernel
theorem d_Ke_split_26 : decode prog_1_method_9_code 26 = .ok (.aload_n 0, 1) := by decide +kernel
theorem d_Ke_split_27 : decode prog_1_method_9_code 27 = .ok (.getfield 19, 3) := by decide +kernel
theorem d_Ke_split_30 : decode prog_1_method_9_code 30 = .ok (.aload_n 0, 1) := by decide +kernel
theorem d_Ke_split_31 : decode prog_1_method_9_code 31 = .ok (.getfield 43, 3) := by decide +kernel
theorem d_Ke_split_34 : decode prog_1_method_9_code 34 = .ok (.aload_n 0, 1) := by decide +kernel
theorem d_Ke_split_35 : decode prog_1_method_9_code 35 = .ok (.getfield 36, 3) := by decide +kernel
theorem d_Ke_split_38 : decode prog_1_method_9_code 38 = .ok (.invokevirtual 132, 3) := by decide +kernel
theorem d_Ke_split_41 : decode prog_1_method_9_code 41 = .ok (.ifCond .eq 7, 3) := by decide +kernel
theorem d_Ke_split_44 : decode prog_1_method_9_code 44 = .ok (.iconst 1, 1) := by decide +kernel
theorem d_Ke_split_45 : decode prog_1_method_9_code 45 = .ok (.goto 4, 3) := by decide +kernel
theorem d_Ke_split_48 : decode prog_1_method_9_code 48 = .ok (.iconst 0, 1) := by decide +kernel
theorem d_Ke_split_49 : decode prog_1_method_9_code 49 = .ok (.ireturn, 1) := by decide +kernel
theorem d_Ke_step_0 : decode prog_1_method_10_code 0 = .ok (.iload_n 1, 1) := by decide +kernel
theorem d_Ke_step_1 : decode prog_1_method_10_code 1 = .ok (.ifCond .eq 8, 3) := by decide +kernel
theorem d_Ke_step_4 : decode prog_1_method_10_code 4 = .ok (.iload_n 1, 1) := by decide +kernel
theorem d_Ke_step_5 : decode prog_1_method_10_code 5 = .ok (.iconst 1, 1) := by decide +kernel
theorem d_Ke_step_6 : decode prog_1_method_10_code 6 = .ok (.if_icmp .ne 12, 3) := by decide +kernel
theorem d_Ke_step_9 : decode prog_1_method_10_code 9 = .ok (.iload_n 3, 1) := by decide +kernel
theorem d_Ke_step_10 : decode prog_1_method_10_code 10 = .ok (.ifCond .eq 16, 3) := by decide +kernel
theorem d_Ke_step_13 : decode prog_1_method_10_code 13 = .ok (.iload_n 3, 1) := by decide +kernel
theorem d_Ke_step_14 : decode prog_1_method_10_code 14 = .ok (.iconst 1, 1) := by decide +kernel
theorem d_Ke_step_15 : decode prog_1_method_10_code 15 = .ok (.if_icmp .eq 11, 3) := by decide +kernel
theorem d_Ke_step_18 : decode prog_1_method_10_code 18 = .ok (.new 135, 3) := by decide +kernel
theorem d_Ke_step_21 : decode prog_1_method_10_code 21 = .ok (.dup, 1) := by decide +kernel
theorem d_Ke_step_22 : decode prog_1_method_10_code 22 = .ok (.invokespecial 137, 3) := by decide +kernel
theorem d_Ke_step_25 : decode prog_1_method_10_code 25 = .ok (.athrow, 1) := by decide +kernel
theorem d_Ke_step_26 : decode prog_1_method_10_code 26 = .ok (.iload_n 1, 1) := by decide +kernel
theorem d_Ke_step_27 : decode prog_1_method_10_code 27 = .ok (.ifCond .ne 10, 3) := by decide +kernel
theorem d_Ke_step_30 : decode prog_1_method_10_code 30 = .ok (.aload_n 0, 1) := by decide +kernel
theorem d_Ke_step_31 : decode prog_1_method_10_code 31 = .ok (.getfield 26, 3) := by decide +kernel
theorem d_Ke_step_34 : decode prog_1_method_10_code 34 = .ok (.goto 7, 3) := by decide +kernel
theorem d_Ke_step_37 : decode prog_1_method_10_code 37 = .ok (.aload_n 0, 1) := by decide +kernel
theorem d_Ke_step_38 : decode prog_1_method_10_code 38 = .ok (.getfield 30, 3) := by decide +kernel
theorem d_Ke_step_41 : decode prog_1_method_10_code 41 = .ok (.astore 4, 2) := by decide +kernel
theorem d_Ke_step_43 : decode prog_1_method_10_code 43 = .ok (.aload 4, 2) := by decide +kernel
theorem d_Ke_step_45 : decode prog_1_method_10_code 45 = .ok (.iload_n 2, 1) := by decide +kernel
theorem d_Ke_step_46 : decode prog_1_method_10_code 46 = .ok (.invokevirtual 138, 3) := by decide +kernel
theorem d_Ke_step_49 : decode prog_1_method_10_code 49 = .ok (.ifCond .ne 11, 3) := by decide +kernel
theorem d_Ke_step_52 : decode prog_1_method_10_code 52 = .ok (.new 141, 3) := by decide +kernel
theorem d_Ke_step_55 : decode prog_1_method_10_code 55 = .ok (.dup, 1) := by decide +kernel
theorem d_Ke_step_56 : decode prog_1_method_10_code 56 = .ok (.invokespecial 143, 3) := by decide +kernel
theorem d_Ke_step_59 : decode prog_1_method_10_code 59 = .ok (.athrow, 1) := by decide +kernel
theorem d_Ke_step_60 : decode prog_1_method_10_code 60 = .ok (.iload_n 3, 1) := by decide +kernel
theorem d_Ke_step_61 : decode prog_1_method_10_code 61 = .ok (.ifCond .ne 13, 3) := by decide +kernel
theorem d_Ke_step_64 : decode prog_1_method_10_code 64 = .ok (.aload 4, 2) := by decide +kernel
theorem d_Ke_step_66 : decode prog_1_method_10_code 66 = .ok (.getfield 144, 3) := by decide +kernel
theorem d_Ke_step_69 : decode prog_1_method_10_code 69 = .ok (.iload_n 2, 1) := by decide +kernel
theorem d_Ke_step_70 : decode prog_1_method_10_code 70 = .ok (.iaload, 1) := by decide +kernel
theorem d_Ke_step_71 : decode prog_1_method_10_code 71 = .ok (.goto 10, 3) := by decide +kernel
theorem d_Ke_step_74 : decode prog_1_method_10_code 74 = .ok (.aload 4, 2) := by decide +kernel
theorem d_Ke_step_76 : decode prog_1_method_10_code 76 = .ok (.getfield 147, 3) := by decide +kernel
theorem d_Ke_step_79 : decode prog_1_method_10_code 79 = .ok (.iload_n 2, 1) := by decide +kernel
theorem d_Ke_step_80 : decode prog_1_method_10_code 80 = .ok (.iaload, 1) := by decide +kernel
theorem d_Ke_step_81 : decode prog_1_method_10_code 81 = .ok (.ireturn, 1) := by decide +kernel
theorem d_La_split_0 : decode method_3_code 0 = .ok (.aload_n 1, 1) := by decide +kernel
theorem d_La_split_1 : decode method_3_code 1 = .ok (.iconst 0, 1) := by decide +kernel
theorem d_La_split_2 : decode method_3_code 2 = .ok (.aload_n 0, 1) := by decide +kernel
theorem d_La_split_3 : decode method_3_code 3 = .ok (.invokevirtual 7, 3) := by decide +kernel
theorem d_La_split_6 : decode method_3_code 6 = .ok (.i2l, 1) := by decide +kernel
theorem d_La_split_7 : decode method_3_code 7 = .ok (.lastore, 1) := by decide +kernel
theorem d_La_split_8 : decode method_3_code 8 = .ok (.goto 6, 3) := by decide +kernel
theorem d_La_split_11 : decode method_3_code 11 = .ok (.astore_n 2, 1) := by decide +kernel
theorem d_La_split_12 : decode method_3_code 12 = .ok (.iconst 1, 1) := by decide +kernel
theorem d_La_split_13 : decode method_3_code 13 = .ok (.ireturn, 1) := by decide +kernel
theorem d_La_split_14 : decode method_3_code 14 = .ok (.iconst 0, 1) := by decide +kernel
theorem d_La_split_15 : decode method_3_code 15 = .ok (.ireturn, 1) := by decide +kernel
theorem d_La_step_0 : decode method_4_code 0 = .ok (.aload 4, 2) := by decide +kernel
theorem d_La_step_2 : decode method_4_code 2 = .ok (.iconst 0, 1) := by decide +kernel
theorem d_La_step_3 : decode method_4_code 3 = .ok (.aload_n 0, 1) := by decide +kernel
theorem d_La_step_4 : decode method_4_code 4 = .ok (.iload_n 1, 1) := by decide +kernel
theorem d_La_step_5 : decode method_4_code 5 = .ok (.iload_n 2, 1) := by decide +kernel
theorem d_La_step_6 : decode method_4_code 6 = .ok (.iload_n 3, 1) := by decide +kernel
theorem d_La_step_7 : decode method_4_code 7 = .ok (.invokevirtual 15, 3) := by decide +kernel
theorem d_La_step_10 : decode method_4_code 10 = .ok (.i2l, 1) := by decide +kernel
theorem d_La_step_11 : decode method_4_code 11 = .ok (.lastore, 1) := by decide +kernel
theorem d_La_step_12 : decode method_4_code 12 = .ok (.goto 11, 3) := by decide +kernel
theorem d_La_step_15 : decode method_4_code 15 = .ok (.astore 5, 2) := by decide +kernel
theorem d_La_step_17 : decode method_4_code 17 = .ok (.iconst 1, 1) := by decide +kernel
theorem d_La_step_18 : decode method_4_code 18 = .ok (.ireturn, 1) := by decide +kernel
theorem d_La_step_19 : decode method_4_code 19 = .ok (.astore 5, 2) := by decide +kernel
theorem d_La_step_21 : decode method_4_code 21 = .ok (.iconst 2, 1) := by decide +kernel
theorem d_La_step_22 : decode method_4_code 22 = .ok (.ireturn, 1) := by decide +kernel
theorem d_La_step_23 : decode method_4_code 23 = .ok (.iconst 0, 1) := by decide +kernel
theorem d_La_step_24 : decode method_4_code 24 = .ok (.ireturn, 1) := by decide +kernel
