/-! printed by wip/whole/tools/seg.py: Sp_workOut, Sp_splitGroup -/
theorem zk_573 : zk 573 = (0, 9, 0) := by decide +kernel
theorem zk_574 : zk 574 = (1, 12, 0) := by decide +kernel
theorem zk_575 : zk 575 = (1, 12, 0) := by decide +kernel
theorem zk_576 : zk 576 = (5, 12, 5) := by decide +kernel
theorem zk_577 : zk 577 = (5, 12, 6) := by decide +kernel
theorem zk_578 : zk 578 = (0, 4, 0) := by decide +kernel
theorem fr_Sp_cost : 5 < 6 ∧ zft 9 5 = (2, 5) := ⟨by decide, by decide +kernel⟩
theorem fr_Sp_fast : 4 < 6 ∧ zft 9 4 = (2, 4) := ⟨by decide, by decide +kernel⟩
theorem fr_Sp_greater : 2 < 6 ∧ zft 9 2 = (2, 2) := ⟨by decide, by decide +kernel⟩
theorem fr_Sp_lesser : 1 < 6 ∧ zft 9 1 = (2, 1) := ⟨by decide, by decide +kernel⟩
theorem fr_Sp_slowly : 3 < 6 ∧ zft 9 3 = (2, 3) := ⟨by decide, by decide +kernel⟩
theorem fp_Sp_ready : 0 < 6 ∧ (zft 9 0).1 ≠ 2 ∧ ((0 : Nat) : Int) = 0 ∧ (F_Sp 0).2.2.2 = false := ⟨by decide, by decide +kernel, rfl, rfl⟩
theorem d_Sp_workOut_0 : decode prog_10_method_2_code 0 = .ok (.aload_n 0, 1) := by decide +kernel
theorem d_Sp_workOut_1 : decode prog_10_method_2_code 1 = .ok (.iconst 0, 1) := by decide +kernel
theorem d_Sp_workOut_2 : decode prog_10_method_2_code 2 = .ok (.putfield 32, 3) := by decide +kernel
theorem d_Sp_workOut_5 : decode prog_10_method_2_code 5 = .ok (.aload_n 0, 1) := by decide +kernel
theorem d_Sp_workOut_6 : decode prog_10_method_2_code 6 = .ok (.getfield 28, 3) := by decide +kernel
theorem d_Sp_workOut_9 : decode prog_10_method_2_code 9 = .ok (.lconst 0, 1) := by decide +kernel
theorem d_Sp_workOut_10 : decode prog_10_method_2_code 10 = .ok (.lconst 1, 1) := by decide +kernel
theorem d_Sp_workOut_11 : decode prog_10_method_2_code 11 = .ok (.invokevirtual 36, 3) := by decide +kernel
theorem d_Sp_workOut_14 : decode prog_10_method_2_code 14 = .ok (.iconst 0, 1) := by decide +kernel
theorem d_Sp_workOut_15 : decode prog_10_method_2_code 15 = .ok (.istore 5, 2) := by decide +kernel
theorem d_Sp_workOut_17 : decode prog_10_method_2_code 17 = .ok (.iload 5, 2) := by decide +kernel
theorem d_Sp_workOut_19 : decode prog_10_method_2_code 19 = .ok (.bipush 12, 2) := by decide +kernel
theorem d_Sp_workOut_21 : decode prog_10_method_2_code 21 = .ok (.if_icmp .ge 59, 3) := by decide +kernel
theorem d_Sp_workOut_24 : decode prog_10_method_2_code 24 = .ok (.aload_n 3, 1) := by decide +kernel
theorem d_Sp_workOut_25 : decode prog_10_method_2_code 25 = .ok (.iload 5, 2) := by decide +kernel
theorem d_Sp_workOut_27 : decode prog_10_method_2_code 27 = .ok (.invokevirtual 40, 3) := by decide +kernel
theorem d_Sp_workOut_30 : decode prog_10_method_2_code 30 = .ok (.ifCond .eq 50, 3) := by decide +kernel
theorem d_Sp_workOut_33 : decode prog_10_method_2_code 33 = .ok (.aload_n 2, 1) := by decide +kernel
theorem d_Sp_workOut_34 : decode prog_10_method_2_code 34 = .ok (.aload_n 3, 1) := by decide +kernel
theorem d_Sp_workOut_35 : decode prog_10_method_2_code 35 = .ok (.getfield 46, 3) := by decide +kernel
theorem d_Sp_workOut_38 : decode prog_10_method_2_code 38 = .ok (.iload 5, 2) := by decide +kernel
theorem d_Sp_workOut_40 : decode prog_10_method_2_code 40 = .ok (.iaload, 1) := by decide +kernel
theorem d_Sp_workOut_41 : decode prog_10_method_2_code 41 = .ok (.aload_n 3, 1) := by decide +kernel
theorem d_Sp_workOut_42 : decode prog_10_method_2_code 42 = .ok (.getfield 49, 3) := by decide +kernel
theorem d_Sp_workOut_45 : decode prog_10_method_2_code 45 = .ok (.iload 5, 2) := by decide +kernel
theorem d_Sp_workOut_47 : decode prog_10_method_2_code 47 = .ok (.iaload, 1) := by decide +kernel
theorem d_Sp_workOut_48 : decode prog_10_method_2_code 48 = .ok (.invokevirtual 52, 3) := by decide +kernel
theorem d_Sp_workOut_51 : decode prog_10_method_2_code 51 = .ok (.istore 6, 2) := by decide +kernel
theorem d_Sp_workOut_53 : decode prog_10_method_2_code 53 = .ok (.iload 6, 2) := by decide +kernel
theorem d_Sp_workOut_55 : decode prog_10_method_2_code 55 = .ok (.iconst (-1), 1) := by decide +kernel
theorem d_Sp_workOut_56 : decode prog_10_method_2_code 56 = .ok (.if_icmp .ne 5, 3) := by decide +kernel
theorem d_Sp_workOut_59 : decode prog_10_method_2_code 59 = .ok (.iconst 0, 1) := by decide +kernel
theorem d_Sp_workOut_60 : decode prog_10_method_2_code 60 = .ok (.ireturn, 1) := by decide +kernel
theorem d_Sp_workOut_61 : decode prog_10_method_2_code 61 = .ok (.aload_n 0, 1) := by decide +kernel
theorem d_Sp_workOut_62 : decode prog_10_method_2_code 62 = .ok (.aload_n 3, 1) := by decide +kernel
theorem d_Sp_workOut_63 : decode prog_10_method_2_code 63 = .ok (.iload 5, 2) := by decide +kernel
theorem d_Sp_workOut_65 : decode prog_10_method_2_code 65 = .ok (.aload_n 1, 1) := by decide +kernel
theorem d_Sp_workOut_66 : decode prog_10_method_2_code 66 = .ok (.aload_n 2, 1) := by decide +kernel
theorem d_Sp_workOut_67 : decode prog_10_method_2_code 67 = .ok (.iload 6, 2) := by decide +kernel
theorem d_Sp_workOut_69 : decode prog_10_method_2_code 69 = .ok (.aload 4, 2) := by decide +kernel
theorem d_Sp_workOut_71 : decode prog_10_method_2_code 71 = .ok (.invokevirtual 58, 3) := by decide +kernel
theorem d_Sp_workOut_74 : decode prog_10_method_2_code 74 = .ok (.iinc 5 1, 3) := by decide +kernel
theorem d_Sp_workOut_77 : decode prog_10_method_2_code 77 = .ok (.goto (-60), 3) := by decide +kernel
theorem d_Sp_workOut_80 : decode prog_10_method_2_code 80 = .ok (.aload 4, 2) := by decide +kernel
theorem d_Sp_workOut_82 : decode prog_10_method_2_code 82 = .ok (.aload_n 0, 1) := by decide +kernel
theorem d_Sp_workOut_83 : decode prog_10_method_2_code 83 = .ok (.getfield 28, 3) := by decide +kernel
theorem d_Sp_workOut_86 : decode prog_10_method_2_code 86 = .ok (.invokevirtual 62, 3) := by decide +kernel
theorem d_Sp_workOut_89 : decode prog_10_method_2_code 89 = .ok (.aload_n 0, 1) := by decide +kernel
theorem d_Sp_workOut_90 : decode prog_10_method_2_code 90 = .ok (.iconst 1, 1) := by decide +kernel
theorem d_Sp_workOut_91 : decode prog_10_method_2_code 91 = .ok (.putfield 32, 3) := by decide +kernel
theorem d_Sp_workOut_94 : decode prog_10_method_2_code 94 = .ok (.iconst 1, 1) := by decide +kernel
theorem d_Sp_workOut_95 : decode prog_10_method_2_code 95 = .ok (.ireturn, 1) := by decide +kernel
theorem d_Sp_splitGroup_0 : decode prog_10_method_3_code 0 = .ok (.aload_n 1, 1) := by decide +kernel
theorem d_Sp_splitGroup_1 : decode prog_10_method_3_code 1 = .ok (.iload_n 2, 1) := by decide +kernel
theorem d_Sp_splitGroup_2 : decode prog_10_method_3_code 2 = .ok (.invokevirtual 40, 3) := by decide +kernel
theorem d_Sp_splitGroup_5 : decode prog_10_method_3_code 5 = .ok (.ifCond .ne 4, 3) := by decide +kernel
theorem d_Sp_splitGroup_8 : decode prog_10_method_3_code 8 = .ok (.return_, 1) := by decide +kernel
theorem d_Sp_splitGroup_9 : decode prog_10_method_3_code 9 = .ok (.aload_n 1, 1) := by decide +kernel
theorem d_Sp_splitGroup_10 : decode prog_10_method_3_code 10 = .ok (.getfield 46, 3) := by decide +kernel
theorem d_Sp_splitGroup_13 : decode prog_10_method_3_code 13 = .ok (.iload_n 2, 1) := by decide +kernel
theorem d_Sp_splitGroup_14 : decode prog_10_method_3_code 14 = .ok (.iaload, 1) := by decide +kernel
theorem d_Sp_splitGroup_15 : decode prog_10_method_3_code 15 = .ok (.i2l, 1) := by decide +kernel
theorem d_Sp_splitGroup_16 : decode prog_10_method_3_code 16 = .ok (.lstore 7, 2) := by decide +kernel
theorem d_Sp_splitGroup_18 : decode prog_10_method_3_code 18 = .ok (.aload_n 1, 1) := by decide +kernel
theorem d_Sp_splitGroup_19 : decode prog_10_method_3_code 19 = .ok (.getfield 49, 3) := by decide +kernel
theorem d_Sp_splitGroup_22 : decode prog_10_method_3_code 22 = .ok (.iload_n 2, 1) := by decide +kernel
theorem d_Sp_splitGroup_23 : decode prog_10_method_3_code 23 = .ok (.iaload, 1) := by decide +kernel
theorem d_Sp_splitGroup_24 : decode prog_10_method_3_code 24 = .ok (.i2l, 1) := by decide +kernel
theorem d_Sp_splitGroup_25 : decode prog_10_method_3_code 25 = .ok (.lstore 9, 2) := by decide +kernel
theorem d_Sp_splitGroup_27 : decode prog_10_method_3_code 27 = .ok (.aload 4, 2) := by decide +kernel
theorem d_Sp_splitGroup_29 : decode prog_10_method_3_code 29 = .ok (.iload 5, 2) := by decide +kernel
theorem d_Sp_splitGroup_31 : decode prog_10_method_3_code 31 = .ok (.invokevirtual 68, 3) := by decide +kernel
theorem d_Sp_splitGroup_34 : decode prog_10_method_3_code 34 = .ok (.i2l, 1) := by decide +kernel
theorem d_Sp_splitGroup_35 : decode prog_10_method_3_code 35 = .ok (.lload 9, 2) := by decide +kernel
theorem d_Sp_splitGroup_37 : decode prog_10_method_3_code 37 = .ok (.lmul, 1) := by decide +kernel
theorem d_Sp_splitGroup_38 : decode prog_10_method_3_code 38 = .ok (.lload 7, 2) := by decide +kernel
theorem d_Sp_splitGroup_40 : decode prog_10_method_3_code 40 = .ok (.lsub, 1) := by decide +kernel
theorem d_Sp_splitGroup_41 : decode prog_10_method_3_code 41 = .ok (.lstore 11, 2) := by decide +kernel
theorem d_Sp_splitGroup_43 : decode prog_10_method_3_code 43 = .ok (.lload 11, 2) := by decide +kernel
theorem d_Sp_splitGroup_45 : decode prog_10_method_3_code 45 = .ok (.lconst 0, 1) := by decide +kernel
theorem d_Sp_splitGroup_46 : decode prog_10_method_3_code 46 = .ok (.lcmp, 1) := by decide +kernel
theorem d_Sp_splitGroup_47 : decode prog_10_method_3_code 47 = .ok (.ifCond .ne 8, 3) := by decide +kernel
theorem d_Sp_splitGroup_50 : decode prog_10_method_3_code 50 = .ok (.iload 5, 2) := by decide +kernel
theorem d_Sp_splitGroup_52 : decode prog_10_method_3_code 52 = .ok (.goto 7, 3) := by decide +kernel
theorem d_Sp_splitGroup_55 : decode prog_10_method_3_code 55 = .ok (.iload 5, 2) := by decide +kernel
theorem d_Sp_splitGroup_57 : decode prog_10_method_3_code 57 = .ok (.iconst 1, 1) := by decide +kernel
theorem d_Sp_splitGroup_58 : decode prog_10_method_3_code 58 = .ok (.isub, 1) := by decide +kernel
theorem d_Sp_splitGroup_59 : decode prog_10_method_3_code 59 = .ok (.istore 13, 2) := by decide +kernel
theorem d_Sp_splitGroup_61 : decode prog_10_method_3_code 61 = .ok (.aload 4, 2) := by decide +kernel
theorem d_Sp_splitGroup_63 : decode prog_10_method_3_code 63 = .ok (.iload 5, 2) := by decide +kernel
theorem d_Sp_splitGroup_65 : decode prog_10_method_3_code 65 = .ok (.invokevirtual 68, 3) := by decide +kernel
theorem d_Sp_splitGroup_68 : decode prog_10_method_3_code 68 = .ok (.aload 4, 2) := by decide +kernel
theorem d_Sp_splitGroup_70 : decode prog_10_method_3_code 70 = .ok (.iload 13, 2) := by decide +kernel
theorem d_Sp_splitGroup_72 : decode prog_10_method_3_code 72 = .ok (.invokevirtual 68, 3) := by decide +kernel
theorem d_Sp_splitGroup_75 : decode prog_10_method_3_code 75 = .ok (.isub, 1) := by decide +kernel
theorem d_Sp_splitGroup_76 : decode prog_10_method_3_code 76 = .ok (.istore 14, 2) := by decide +kernel
theorem d_Sp_splitGroup_78 : decode prog_10_method_3_code 78 = .ok (.lload 7, 2) := by decide +kernel
theorem d_Sp_splitGroup_80 : decode prog_10_method_3_code 80 = .ok (.aload 4, 2) := by decide +kernel
theorem d_Sp_splitGroup_82 : decode prog_10_method_3_code 82 = .ok (.iload 13, 2) := by decide +kernel
theorem d_Sp_splitGroup_84 : decode prog_10_method_3_code 84 = .ok (.invokevirtual 68, 3) := by decide +kernel
theorem d_Sp_splitGroup_87 : decode prog_10_method_3_code 87 = .ok (.i2l, 1) := by decide +kernel
theorem d_Sp_splitGroup_88 : decode prog_10_method_3_code 88 = .ok (.lload 9, 2) := by decide +kernel
theorem d_Sp_splitGroup_90 : decode prog_10_method_3_code 90 = .ok (.lmul, 1) := by decide +kernel
theorem d_Sp_splitGroup_91 : decode prog_10_method_3_code 91 = .ok (.lsub, 1) := by decide +kernel
theorem d_Sp_splitGroup_92 : decode prog_10_method_3_code 92 = .ok (.lstore 15, 2) := by decide +kernel
theorem d_Sp_splitGroup_94 : decode prog_10_method_3_code 94 = .ok (.iload 14, 2) := by decide +kernel
theorem d_Sp_splitGroup_96 : decode prog_10_method_3_code 96 = .ok (.ifCond .ne 27, 3) := by decide +kernel
theorem d_Sp_splitGroup_99 : decode prog_10_method_3_code 99 = .ok (.aload 6, 2) := by decide +kernel
theorem d_Sp_splitGroup_101 : decode prog_10_method_3_code 101 = .ok (.aload_n 0, 1) := by decide +kernel
theorem d_Sp_splitGroup_102 : decode prog_10_method_3_code 102 = .ok (.getfield 28, 3) := by decide +kernel
theorem d_Sp_splitGroup_105 : decode prog_10_method_3_code 105 = .ok (.aload 4, 2) := by decide +kernel
theorem d_Sp_splitGroup_107 : decode prog_10_method_3_code 107 = .ok (.iload 5, 2) := by decide +kernel
theorem d_Sp_splitGroup_109 : decode prog_10_method_3_code 109 = .ok (.invokevirtual 72, 3) := by decide +kernel
theorem d_Sp_splitGroup_112 : decode prog_10_method_3_code 112 = .ok (.i2l, 1) := by decide +kernel
theorem d_Sp_splitGroup_113 : decode prog_10_method_3_code 113 = .ok (.lload 9, 2) := by decide +kernel
theorem d_Sp_splitGroup_115 : decode prog_10_method_3_code 115 = .ok (.lmul, 1) := by decide +kernel
theorem d_Sp_splitGroup_116 : decode prog_10_method_3_code 116 = .ok (.iconst 1, 1) := by decide +kernel
theorem d_Sp_splitGroup_117 : decode prog_10_method_3_code 117 = .ok (.invokevirtual 75, 3) := by decide +kernel
theorem d_Sp_splitGroup_120 : decode prog_10_method_3_code 120 = .ok (.goto 37, 3) := by decide +kernel
theorem d_Sp_splitGroup_123 : decode prog_10_method_3_code 123 = .ok (.aload 6, 2) := by decide +kernel
theorem d_Sp_splitGroup_125 : decode prog_10_method_3_code 125 = .ok (.aload_n 0, 1) := by decide +kernel
theorem d_Sp_splitGroup_126 : decode prog_10_method_3_code 126 = .ok (.getfield 28, 3) := by decide +kernel
theorem d_Sp_splitGroup_129 : decode prog_10_method_3_code 129 = .ok (.aload 4, 2) := by decide +kernel
theorem d_Sp_splitGroup_131 : decode prog_10_method_3_code 131 = .ok (.iload 13, 2) := by decide +kernel
theorem d_Sp_splitGroup_133 : decode prog_10_method_3_code 133 = .ok (.invokevirtual 72, 3) := by decide +kernel
theorem d_Sp_splitGroup_136 : decode prog_10_method_3_code 136 = .ok (.i2l, 1) := by decide +kernel
theorem d_Sp_splitGroup_137 : decode prog_10_method_3_code 137 = .ok (.lload 11, 2) := by decide +kernel
theorem d_Sp_splitGroup_139 : decode prog_10_method_3_code 139 = .ok (.lmul, 1) := by decide +kernel
theorem d_Sp_splitGroup_140 : decode prog_10_method_3_code 140 = .ok (.aload 4, 2) := by decide +kernel
theorem d_Sp_splitGroup_142 : decode prog_10_method_3_code 142 = .ok (.iload 5, 2) := by decide +kernel
theorem d_Sp_splitGroup_144 : decode prog_10_method_3_code 144 = .ok (.invokevirtual 72, 3) := by decide +kernel
theorem d_Sp_splitGroup_147 : decode prog_10_method_3_code 147 = .ok (.i2l, 1) := by decide +kernel
theorem d_Sp_splitGroup_148 : decode prog_10_method_3_code 148 = .ok (.lload 15, 2) := by decide +kernel
theorem d_Sp_splitGroup_150 : decode prog_10_method_3_code 150 = .ok (.lmul, 1) := by decide +kernel
theorem d_Sp_splitGroup_151 : decode prog_10_method_3_code 151 = .ok (.ladd, 1) := by decide +kernel
theorem d_Sp_splitGroup_152 : decode prog_10_method_3_code 152 = .ok (.iload 14, 2) := by decide +kernel
theorem d_Sp_splitGroup_154 : decode prog_10_method_3_code 154 = .ok (.invokevirtual 75, 3) := by decide +kernel
theorem d_Sp_splitGroup_157 : decode prog_10_method_3_code 157 = .ok (.iconst 0, 1) := by decide +kernel
theorem d_Sp_splitGroup_158 : decode prog_10_method_3_code 158 = .ok (.istore 17, 2) := by decide +kernel
theorem d_Sp_splitGroup_160 : decode prog_10_method_3_code 160 = .ok (.iload 17, 2) := by decide +kernel
theorem d_Sp_splitGroup_162 : decode prog_10_method_3_code 162 = .ok (.aload_n 3, 1) := by decide +kernel
theorem d_Sp_splitGroup_163 : decode prog_10_method_3_code 163 = .ok (.getfield 79, 3) := by decide +kernel
theorem d_Sp_splitGroup_166 : decode prog_10_method_3_code 166 = .ok (.if_icmp .ge 137, 3) := by decide +kernel
theorem d_Sp_splitGroup_169 : decode prog_10_method_3_code 169 = .ok (.aload_n 1, 1) := by decide +kernel
theorem d_Sp_splitGroup_170 : decode prog_10_method_3_code 170 = .ok (.iload 17, 2) := by decide +kernel
theorem d_Sp_splitGroup_172 : decode prog_10_method_3_code 172 = .ok (.invokevirtual 85, 3) := by decide +kernel
theorem d_Sp_splitGroup_175 : decode prog_10_method_3_code 175 = .ok (.iload_n 2, 1) := by decide +kernel
theorem d_Sp_splitGroup_176 : decode prog_10_method_3_code 176 = .ok (.if_icmp .eq 6, 3) := by decide +kernel
theorem d_Sp_splitGroup_179 : decode prog_10_method_3_code 179 = .ok (.goto 118, 3) := by decide +kernel
theorem d_Sp_splitGroup_182 : decode prog_10_method_3_code 182 = .ok (.aload_n 0, 1) := by decide +kernel
theorem d_Sp_splitGroup_183 : decode prog_10_method_3_code 183 = .ok (.getfield 9, 3) := by decide +kernel
theorem d_Sp_splitGroup_186 : decode prog_10_method_3_code 186 = .ok (.iload 17, 2) := by decide +kernel
theorem d_Sp_splitGroup_188 : decode prog_10_method_3_code 188 = .ok (.iload 13, 2) := by decide +kernel
theorem d_Sp_splitGroup_190 : decode prog_10_method_3_code 190 = .ok (.iastore, 1) := by decide +kernel
theorem d_Sp_splitGroup_191 : decode prog_10_method_3_code 191 = .ok (.aload_n 0, 1) := by decide +kernel
theorem d_Sp_splitGroup_192 : decode prog_10_method_3_code 192 = .ok (.getfield 15, 3) := by decide +kernel
theorem d_Sp_splitGroup_195 : decode prog_10_method_3_code 195 = .ok (.iload 17, 2) := by decide +kernel
theorem d_Sp_splitGroup_197 : decode prog_10_method_3_code 197 = .ok (.iload 5, 2) := by decide +kernel
theorem d_Sp_splitGroup_199 : decode prog_10_method_3_code 199 = .ok (.iastore, 1) := by decide +kernel
theorem d_Sp_splitGroup_200 : decode prog_10_method_3_code 200 = .ok (.iload 14, 2) := by decide +kernel
theorem d_Sp_splitGroup_202 : decode prog_10_method_3_code 202 = .ok (.ifCond .ne 41, 3) := by decide +kernel
theorem d_Sp_splitGroup_205 : decode prog_10_method_3_code 205 = .ok (.aload_n 0, 1) := by decide +kernel
theorem d_Sp_splitGroup_206 : decode prog_10_method_3_code 206 = .ok (.getfield 20, 3) := by decide +kernel
theorem d_Sp_splitGroup_209 : decode prog_10_method_3_code 209 = .ok (.iload 17, 2) := by decide +kernel
theorem d_Sp_splitGroup_211 : decode prog_10_method_3_code 211 = .ok (.aaload, 1) := by decide +kernel
theorem d_Sp_splitGroup_212 : decode prog_10_method_3_code 212 = .ok (.aload_n 3, 1) := by decide +kernel
theorem d_Sp_splitGroup_213 : decode prog_10_method_3_code 213 = .ok (.getfield 88, 3) := by decide +kernel
theorem d_Sp_splitGroup_216 : decode prog_10_method_3_code 216 = .ok (.iload 17, 2) := by decide +kernel
theorem d_Sp_splitGroup_218 : decode prog_10_method_3_code 218 = .ok (.iaload, 1) := by decide +kernel
theorem d_Sp_splitGroup_219 : decode prog_10_method_3_code 219 = .ok (.i2l, 1) := by decide +kernel
theorem d_Sp_splitGroup_220 : decode prog_10_method_3_code 220 = .ok (.lload 9, 2) := by decide +kernel
theorem d_Sp_splitGroup_222 : decode prog_10_method_3_code 222 = .ok (.lmul, 1) := by decide +kernel
theorem d_Sp_splitGroup_223 : decode prog_10_method_3_code 223 = .ok (.lload 7, 2) := by decide +kernel
theorem d_Sp_splitGroup_225 : decode prog_10_method_3_code 225 = .ok (.invokevirtual 36, 3) := by decide +kernel
theorem d_Sp_splitGroup_228 : decode prog_10_method_3_code 228 = .ok (.aload_n 0, 1) := by decide +kernel
theorem d_Sp_splitGroup_229 : decode prog_10_method_3_code 229 = .ok (.getfield 24, 3) := by decide +kernel
theorem d_Sp_splitGroup_232 : decode prog_10_method_3_code 232 = .ok (.iload 17, 2) := by decide +kernel
theorem d_Sp_splitGroup_234 : decode prog_10_method_3_code 234 = .ok (.aaload, 1) := by decide +kernel
theorem d_Sp_splitGroup_235 : decode prog_10_method_3_code 235 = .ok (.lconst 0, 1) := by decide +kernel
theorem d_Sp_splitGroup_236 : decode prog_10_method_3_code 236 = .ok (.lconst 1, 1) := by decide +kernel
theorem d_Sp_splitGroup_237 : decode prog_10_method_3_code 237 = .ok (.invokevirtual 36, 3) := by decide +kernel
theorem d_Sp_splitGroup_240 : decode prog_10_method_3_code 240 = .ok (.goto 57, 3) := by decide +kernel
theorem d_Sp_splitGroup_243 : decode prog_10_method_3_code 243 = .ok (.aload_n 0, 1) := by decide +kernel
theorem d_Sp_splitGroup_244 : decode prog_10_method_3_code 244 = .ok (.getfield 20, 3) := by decide +kernel
theorem d_Sp_splitGroup_247 : decode prog_10_method_3_code 247 = .ok (.iload 17, 2) := by decide +kernel
theorem d_Sp_splitGroup_249 : decode prog_10_method_3_code 249 = .ok (.aaload, 1) := by decide +kernel
theorem d_Sp_splitGroup_250 : decode prog_10_method_3_code 250 = .ok (.aload_n 3, 1) := by decide +kernel
theorem d_Sp_splitGroup_251 : decode prog_10_method_3_code 251 = .ok (.getfield 88, 3) := by decide +kernel
theorem d_Sp_splitGroup_254 : decode prog_10_method_3_code 254 = .ok (.iload 17, 2) := by decide +kernel
theorem d_Sp_splitGroup_256 : decode prog_10_method_3_code 256 = .ok (.iaload, 1) := by decide +kernel
theorem d_Sp_splitGroup_257 : decode prog_10_method_3_code 257 = .ok (.i2l, 1) := by decide +kernel
theorem d_Sp_splitGroup_258 : decode prog_10_method_3_code 258 = .ok (.lload 11, 2) := by decide +kernel
theorem d_Sp_splitGroup_260 : decode prog_10_method_3_code 260 = .ok (.lmul, 1) := by decide +kernel
theorem d_Sp_splitGroup_261 : decode prog_10_method_3_code 261 = .ok (.lload 7, 2) := by decide +kernel
theorem d_Sp_splitGroup_263 : decode prog_10_method_3_code 263 = .ok (.iload 14, 2) := by decide +kernel
theorem d_Sp_splitGroup_265 : decode prog_10_method_3_code 265 = .ok (.i2l, 1) := by decide +kernel
theorem d_Sp_splitGroup_266 : decode prog_10_method_3_code 266 = .ok (.lmul, 1) := by decide +kernel
theorem d_Sp_splitGroup_267 : decode prog_10_method_3_code 267 = .ok (.invokevirtual 36, 3) := by decide +kernel
theorem d_Sp_splitGroup_270 : decode prog_10_method_3_code 270 = .ok (.aload_n 0, 1) := by decide +kernel
theorem d_Sp_splitGroup_271 : decode prog_10_method_3_code 271 = .ok (.getfield 24, 3) := by decide +kernel
theorem d_Sp_splitGroup_274 : decode prog_10_method_3_code 274 = .ok (.iload 17, 2) := by decide +kernel
theorem d_Sp_splitGroup_276 : decode prog_10_method_3_code 276 = .ok (.aaload, 1) := by decide +kernel
theorem d_Sp_splitGroup_277 : decode prog_10_method_3_code 277 = .ok (.aload_n 3, 1) := by decide +kernel
theorem d_Sp_splitGroup_278 : decode prog_10_method_3_code 278 = .ok (.getfield 88, 3) := by decide +kernel
theorem d_Sp_splitGroup_281 : decode prog_10_method_3_code 281 = .ok (.iload 17, 2) := by decide +kernel
theorem d_Sp_splitGroup_283 : decode prog_10_method_3_code 283 = .ok (.iaload, 1) := by decide +kernel
theorem d_Sp_splitGroup_284 : decode prog_10_method_3_code 284 = .ok (.i2l, 1) := by decide +kernel
theorem d_Sp_splitGroup_285 : decode prog_10_method_3_code 285 = .ok (.lload 15, 2) := by decide +kernel
theorem d_Sp_splitGroup_287 : decode prog_10_method_3_code 287 = .ok (.lmul, 1) := by decide +kernel
theorem d_Sp_splitGroup_288 : decode prog_10_method_3_code 288 = .ok (.lload 7, 2) := by decide +kernel
theorem d_Sp_splitGroup_290 : decode prog_10_method_3_code 290 = .ok (.iload 14, 2) := by decide +kernel
theorem d_Sp_splitGroup_292 : decode prog_10_method_3_code 292 = .ok (.i2l, 1) := by decide +kernel
theorem d_Sp_splitGroup_293 : decode prog_10_method_3_code 293 = .ok (.lmul, 1) := by decide +kernel
theorem d_Sp_splitGroup_294 : decode prog_10_method_3_code 294 = .ok (.invokevirtual 36, 3) := by decide +kernel
theorem d_Sp_splitGroup_297 : decode prog_10_method_3_code 297 = .ok (.iinc 17 1, 3) := by decide +kernel
theorem d_Sp_splitGroup_300 : decode prog_10_method_3_code 300 = .ok (.goto (-140), 3) := by decide +kernel
theorem d_Sp_splitGroup_303 : decode prog_10_method_3_code 303 = .ok (.return_, 1) := by decide +kernel
section SEG
variable {g : GG} {Q : Option VV → EE → DD → Prop} {D : DD}
theorem s_Sp_workOut_0   (h : (∀ D1, D1 = zw D 573 0 0 → CV g M_Fr_setSmall [vR 578, vL 0, vL 1] D1 (fun D' => Sg g M_Sp_workOut Q 14 [vR 573, vR 1, vR 6, vR 457, vR 391, vU, vU] [] D'))) : Sg g M_Sp_workOut Q 0 [vR 573, vR 1, vR 6, vR 457, vR 391, vU, vU] [] D := by
  unfold Sg
  refine q_aload_n d_Sp_workOut_0 rfl ?_
  refine q_iconst d_Sp_workOut_1 (by decide) ?_
  refine p_putI (k := 0) zc_Sp l_Sp_32 fp_Sp_ready (Or.inr ⟨rfl, by decide⟩) d_Sp_workOut_2 zk_573 (fun D1 e2 => ?_)
  have h := h D1 e2
  refine q_aload_n d_Sp_workOut_5 rfl ?_
  refine p_getR (k := 5) (b := 578) zc_Sp l_Sp_28 fr_Sp_cost d_Sp_workOut_6 zk_573 rfl ?_
  refine q_lconst (x := 0) d_Sp_workOut_9 ⟨rfl, by decide⟩ ?_
  refine q_lconst (x := 1) d_Sp_workOut_10 ⟨rfl, by decide⟩ ?_
  refine p_callV (as := [vL 0, vL 1]) (st := []) (a := 578) mc_Fr_setSmall mv_Fr_setSmall l_Sp_36 zc_Fr rfl d_Sp_workOut_11 rfl rfl rfl zk_578 (CV.to ?_)
  exact h
theorem s_Sp_workOut_14 {z5 : VV} {z6 : VV}  (h : Sg g M_Sp_workOut Q 17 [vR 573, vR 1, vR 6, vR 457, vR 391, vI 0, vU] [] D) : Sg g M_Sp_workOut Q 14 [vR 573, vR 1, vR 6, vR 457, vR 391, z5, z6] [] D := by
  unfold Sg
  refine q_mask [false, false, false, false, false, true, true] (L' := [vR 573, vR 1, vR 6, vR 457, vR 391, vU, vU]) rfl ?_
  refine q_iconst d_Sp_workOut_14 (by decide) ?_
  refine q_istore d_Sp_workOut_15 (by decide) (L' := [vR 573, vR 1, vR 6, vR 457, vR 391, vI 0, vU]) rfl ?_
  exact h
theorem s_Sp_workOut_17 {x5 : Int} {z6 : VV}  (h : ((12 ≤ x5 → Sg g M_Sp_workOut Q 80 [vR 573, vR 1, vR 6, vR 457, vR 391, vI x5, vU] [] D) ∧ (¬ 12 ≤ x5 → CI g M_Pl_hasGroup [vR 457, vI x5] D (fun v2 D' => Sg g M_Sp_workOut Q 30 [vR 573, vR 1, vR 6, vR 457, vR 391, vI x5, vU] [vI v2] D')))) : Sg g M_Sp_workOut Q 17 [vR 573, vR 1, vR 6, vR 457, vR 391, vI x5, z6] [] D := by
  unfold Sg
  refine q_mask [false, false, false, false, false, false, true] (L' := [vR 573, vR 1, vR 6, vR 457, vR 391, vI x5, vU]) rfl ?_
  refine q_iload d_Sp_workOut_17 rfl ?_
  refine q_bipush d_Sp_workOut_19 kb_12 ?_
  refine q_icmp_ge (tgt := 80) d_Sp_workOut_21 (by decide) (fun c1 => ?_) (fun c1 => ?_)
  · have h := h.1 (c1)
    exact h
  · have h := h.2 (c1)
    refine q_aload_n d_Sp_workOut_24 rfl ?_
    refine q_iload d_Sp_workOut_25 rfl ?_
    refine p_callV (as := [vI x5]) (st := []) (a := 457) mc_Pl_hasGroup mv_Pl_hasGroup l_Sp_40 zc_Pl rfl d_Sp_workOut_27 rfl rfl rfl zk_457 (CI.to ?_)
    exact h
theorem s_Sp_workOut_80 {z1 : VV} {z2 : VV} {z3 : VV} {z5 : VV} {z6 : VV}  (h : CV g M_Re_lower [vR 391, vR 578] D (fun D' => Sg g M_Sp_workOut Q 89 [vR 573, vU, vU, vU, vR 391, vU, vU] [] D')) : Sg g M_Sp_workOut Q 80 [vR 573, z1, z2, z3, vR 391, z5, z6] [] D := by
  unfold Sg
  refine q_mask [false, true, true, true, false, true, true] (L' := [vR 573, vU, vU, vU, vR 391, vU, vU]) rfl ?_
  refine q_aload d_Sp_workOut_80 rfl ?_
  refine q_aload_n d_Sp_workOut_82 rfl ?_
  refine p_getR (k := 5) (b := 578) zc_Sp l_Sp_28 fr_Sp_cost d_Sp_workOut_83 zk_573 rfl ?_
  refine p_callV (as := [vR 578]) (st := []) (a := 391) mc_Re_lower mv_Re_lower l_Sp_62 zc_Re rfl d_Sp_workOut_86 rfl rfl rfl zk_391 (CV.to ?_)
  exact h
theorem s_Sp_workOut_30 {x5 : Int} {z6 : VV} {y0 : Int}  (h : ((y0 = 0 → Sg g M_Sp_workOut Q 80 [vR 573, vR 1, vR 6, vR 457, vR 391, vI x5, vU] [] D) ∧ (¬ y0 = 0 → ((0 ≤ x5 ∧ x5 < 12) ∧ (0 ≤ x5 ∧ x5 < 12)) ∧ CI g M_Le_leastFor [vR 6, vI (D 458 x5), vI (D 459 x5)] D (fun v4 D' => Sg g M_Sp_workOut Q 51 [vR 573, vR 1, vR 6, vR 457, vR 391, vI x5, vU] [vI v4] D')))) : Sg g M_Sp_workOut Q 30 [vR 573, vR 1, vR 6, vR 457, vR 391, vI x5, z6] [vI y0] D := by
  unfold Sg
  refine q_mask [false, false, false, false, false, false, true] (L' := [vR 573, vR 1, vR 6, vR 457, vR 391, vI x5, vU]) rfl ?_
  refine q_if_eq (tgt := 80) d_Sp_workOut_30 (by decide) (fun c1 => ?_) (fun c1 => ?_)
  · have h := h.1 (c1)
    exact h
  · have h := h.2 (c1)
    obtain ⟨⟨o2, o3⟩, h⟩ := h
    refine q_aload_n d_Sp_workOut_33 rfl ?_
    refine q_aload_n d_Sp_workOut_34 rfl ?_
    refine p_getRN (k := 1) (b := 458) zc_Pl l_Sp_46 fr_Pl_groupWork d_Sp_workOut_35 zk_457 rfl ?_
    refine q_iload d_Sp_workOut_38 rfl ?_
    refine p_iald d_Sp_workOut_40 zk_458 o2 ?_
    refine q_aload_n d_Sp_workOut_41 rfl ?_
    refine p_getRN (k := 2) (b := 459) zc_Pl l_Sp_49 fr_Pl_groupTime d_Sp_workOut_42 zk_457 rfl ?_
    refine q_iload d_Sp_workOut_45 rfl ?_
    refine p_iald d_Sp_workOut_47 zk_459 o3 ?_
    refine p_callV (as := [vI (D 458 x5), vI (D 459 x5)]) (st := []) (a := 6) mc_Le_leastFor mv_Le_leastFor l_Sp_52 zc_Le rfl d_Sp_workOut_48 rfl rfl rfl zk_6 (CI.to ?_)
    exact h
theorem s_Sp_workOut_89 {z1 : VV} {z2 : VV} {z3 : VV} {z4 : VV} {z5 : VV} {z6 : VV}  (h : (∀ D1, D1 = zw D 573 0 1 → Q (some (vI 1)) zE D1)) : Sg g M_Sp_workOut Q 89 [vR 573, z1, z2, z3, z4, z5, z6] [] D := by
  unfold Sg
  refine q_mask [false, true, true, true, true, true, true] (L' := [vR 573, vU, vU, vU, vU, vU, vU]) rfl ?_
  refine q_aload_n d_Sp_workOut_89 rfl ?_
  refine q_iconst d_Sp_workOut_90 (by decide) ?_
  refine p_putI (k := 0) zc_Sp l_Sp_32 fp_Sp_ready (Or.inr ⟨rfl, by decide⟩) d_Sp_workOut_91 zk_573 (fun D1 e2 => ?_)
  have h := h D1 e2
  refine q_iconst d_Sp_workOut_94 (by decide) ?_
  exact q_iret d_Sp_workOut_95 (Or.inr ⟨rfl, by decide⟩) ⟨Nat.le_refl _, Nat.le_refl _⟩ h
theorem s_Sp_workOut_51 {x5 : Int} {z6 : VV} {y0 : Int}  (h : ((¬ y0 = (-1) → CV g M_Sp_splitGroup [vR 573, vR 457, vI x5, vR 1, vR 6, vI y0, vR 391] D (fun D' => Sg g M_Sp_workOut Q 74 [vR 573, vR 1, vR 6, vR 457, vR 391, vI x5, vI y0] [] D')) ∧ (y0 = (-1) → Q (some (vI 0)) zE D))) : Sg g M_Sp_workOut Q 51 [vR 573, vR 1, vR 6, vR 457, vR 391, vI x5, z6] [vI y0] D := by
  unfold Sg
  refine q_mask [false, false, false, false, false, false, true] (L' := [vR 573, vR 1, vR 6, vR 457, vR 391, vI x5, vU]) rfl ?_
  refine q_istore d_Sp_workOut_51 (by decide) (L' := [vR 573, vR 1, vR 6, vR 457, vR 391, vI x5, vI y0]) rfl ?_
  refine q_iload d_Sp_workOut_53 rfl ?_
  refine q_iconst d_Sp_workOut_55 (by decide) ?_
  refine q_icmp_ne (tgt := 61) d_Sp_workOut_56 (by decide) (fun c1 => ?_) (fun c1 => ?_)
  · have h := h.1 (c1)
    refine q_aload_n d_Sp_workOut_61 rfl ?_
    refine q_aload_n d_Sp_workOut_62 rfl ?_
    refine q_iload d_Sp_workOut_63 rfl ?_
    refine q_aload_n d_Sp_workOut_65 rfl ?_
    refine q_aload_n d_Sp_workOut_66 rfl ?_
    refine q_iload d_Sp_workOut_67 rfl ?_
    refine q_aload d_Sp_workOut_69 rfl ?_
    refine p_callV (as := [vR 457, vI x5, vR 1, vR 6, vI y0, vR 391]) (st := []) (a := 573) mc_Sp_splitGroup mv_Sp_splitGroup l_Sp_58 zc_Sp rfl d_Sp_workOut_71 rfl rfl rfl zk_573 (CV.to ?_)
    exact h
  · have h := h.2 (c1)
    refine q_iconst d_Sp_workOut_59 (by decide) ?_
    exact q_iret d_Sp_workOut_60 (Or.inr ⟨rfl, by decide⟩) ⟨Nat.le_refl _, Nat.le_refl _⟩ h
theorem s_Sp_workOut_74 {x5 : Int} {z6 : VV}  (h : (R32 (x5 + 1)) ∧ Sg g M_Sp_workOut Q 17 [vR 573, vR 1, vR 6, vR 457, vR 391, vI (x5 + 1), vU] [] D) : Sg g M_Sp_workOut Q 74 [vR 573, vR 1, vR 6, vR 457, vR 391, vI x5, z6] [] D := by
  unfold Sg
  refine q_mask [false, false, false, false, false, false, true] (L' := [vR 573, vR 1, vR 6, vR 457, vR 391, vI x5, vU]) rfl ?_
  obtain ⟨o1, h⟩ := h
  refine q_iinc d_Sp_workOut_74 rfl (by decide) o1 (L' := [vR 573, vR 1, vR 6, vR 457, vR 391, vI (x5 + 1), vU]) rfl ?_
  refine q_goto (tgt := 17) d_Sp_workOut_77 (by decide) ?_
  exact h
theorem s_Sp_splitGroup_0 {x2 : Int} {x5 : Int}  (h : CI g M_Pl_hasGroup [vR 457, vI x2] D (fun v1 D' => Sg g M_Sp_splitGroup Q 5 [vR 573, vR 457, vI x2, vR 1, vR 6, vI x5, vR 391, vU, vU, vU, vU, vU, vU, vU, vU, vU, vU, vU] [vI v1] D')) : Sg g M_Sp_splitGroup Q 0 [vR 573, vR 457, vI x2, vR 1, vR 6, vI x5, vR 391, vU, vU, vU, vU, vU, vU, vU, vU, vU, vU, vU] [] D := by
  unfold Sg
  refine q_aload_n d_Sp_splitGroup_0 rfl ?_
  refine q_iload_n d_Sp_splitGroup_1 rfl ?_
  refine p_callV (as := [vI x2]) (st := []) (a := 457) mc_Pl_hasGroup mv_Pl_hasGroup l_Sp_40 zc_Pl rfl d_Sp_splitGroup_2 rfl rfl rfl zk_457 (CI.to ?_)
  exact h
theorem s_Sp_splitGroup_5 {x2 : Int} {x5 : Int} {z7 : VV} {z8 : VV} {z9 : VV} {z10 : VV} {z11 : VV} {z12 : VV} {z13 : VV} {z14 : VV} {z15 : VV} {z16 : VV} {z17 : VV} {y0 : Int}  (h : ((¬ y0 = 0 → ((0 ≤ x2 ∧ x2 < 12) ∧ (0 ≤ x2 ∧ x2 < 12)) ∧ CI g M_Le_rateOf [vR 6, vI x5] D (fun v4 D' => Sg g M_Sp_splitGroup Q 34 [vR 573, vR 457, vI x2, vR 1, vR 6, vI x5, vR 391, vL (D 458 x2), vU, vL (D 459 x2), vU, vU, vU, vU, vU, vU, vU, vU] [vI v4] D')) ∧ (y0 = 0 → Q none zE D))) : Sg g M_Sp_splitGroup Q 5 [vR 573, vR 457, vI x2, vR 1, vR 6, vI x5, vR 391, z7, z8, z9, z10, z11, z12, z13, z14, z15, z16, z17] [vI y0] D := by
  unfold Sg
  refine q_mask [false, false, false, false, false, false, false, true, true, true, true, true, true, true, true, true, true, true] (L' := [vR 573, vR 457, vI x2, vR 1, vR 6, vI x5, vR 391, vU, vU, vU, vU, vU, vU, vU, vU, vU, vU, vU]) rfl ?_
  refine q_if_ne (tgt := 9) d_Sp_splitGroup_5 (by decide) (fun c1 => ?_) (fun c1 => ?_)
  · have h := h.1 (c1)
    obtain ⟨⟨o2, o3⟩, h⟩ := h
    refine q_aload_n d_Sp_splitGroup_9 rfl ?_
    refine p_getRN (k := 1) (b := 458) zc_Pl l_Sp_46 fr_Pl_groupWork d_Sp_splitGroup_10 zk_457 rfl ?_
    refine q_iload_n d_Sp_splitGroup_13 rfl ?_
    refine p_iald d_Sp_splitGroup_14 zk_458 o2 ?_
    refine q_i2l d_Sp_splitGroup_15 ?_
    refine q_lstore d_Sp_splitGroup_16 (by decide) (L' := [vR 573, vR 457, vI x2, vR 1, vR 6, vI x5, vR 391, vL (D 458 x2), vU, vU, vU, vU, vU, vU, vU, vU, vU, vU]) rfl ?_
    refine q_aload_n d_Sp_splitGroup_18 rfl ?_
    refine p_getRN (k := 2) (b := 459) zc_Pl l_Sp_49 fr_Pl_groupTime d_Sp_splitGroup_19 zk_457 rfl ?_
    refine q_iload_n d_Sp_splitGroup_22 rfl ?_
    refine p_iald d_Sp_splitGroup_23 zk_459 o3 ?_
    refine q_i2l d_Sp_splitGroup_24 ?_
    refine q_lstore d_Sp_splitGroup_25 (by decide) (L' := [vR 573, vR 457, vI x2, vR 1, vR 6, vI x5, vR 391, vL (D 458 x2), vU, vL (D 459 x2), vU, vU, vU, vU, vU, vU, vU, vU]) rfl ?_
    refine q_aload d_Sp_splitGroup_27 rfl ?_
    refine q_iload d_Sp_splitGroup_29 rfl ?_
    refine p_callV (as := [vI x5]) (st := []) (a := 6) mc_Le_rateOf mv_Le_rateOf l_Sp_68 zc_Le rfl d_Sp_splitGroup_31 rfl rfl rfl zk_6 (CI.to ?_)
    exact h
  · have h := h.2 (c1)
    exact q_vret d_Sp_splitGroup_8 rfl ⟨Nat.le_refl _, Nat.le_refl _⟩ h
theorem s_Sp_splitGroup_34 {x2 : Int} {x5 : Int} {x7 : Int} {x9 : Int} {z11 : VV} {z12 : VV} {z13 : VV} {z14 : VV} {z15 : VV} {z16 : VV} {z17 : VV} {y0 : Int}  (h : (R64 (y0 * x9) ∧ R64 ((y0 * x9) - x7)) ∧ ((¬ ((y0 * x9) - x7) = 0 → (R32 (x5 - 1)) ∧ Sg g M_Sp_splitGroup Q 59 [vR 573, vR 457, vI x2, vR 1, vR 6, vI x5, vR 391, vL x7, vU, vL x9, vU, vL ((y0 * x9) - x7), vU, vU, vU, vU, vU, vU] [vI (x5 - 1)] D) ∧ (((y0 * x9) - x7) = 0 → Sg g M_Sp_splitGroup Q 59 [vR 573, vR 457, vI x2, vR 1, vR 6, vI x5, vR 391, vL x7, vU, vL x9, vU, vL ((y0 * x9) - x7), vU, vU, vU, vU, vU, vU] [vI x5] D))) : Sg g M_Sp_splitGroup Q 34 [vR 573, vR 457, vI x2, vR 1, vR 6, vI x5, vR 391, vL x7, vU, vL x9, vU, z11, z12, z13, z14, z15, z16, z17] [vI y0] D := by
  unfold Sg
  refine q_mask [false, false, false, false, false, false, false, false, false, false, false, true, true, true, true, true, true, true] (L' := [vR 573, vR 457, vI x2, vR 1, vR 6, vI x5, vR 391, vL x7, vU, vL x9, vU, vU, vU, vU, vU, vU, vU, vU]) rfl ?_
  obtain ⟨⟨o1, o2⟩, h⟩ := h
  refine q_i2l d_Sp_splitGroup_34 ?_
  refine q_lload d_Sp_splitGroup_35 rfl ?_
  refine q_lmul d_Sp_splitGroup_37 o1 ?_
  refine q_lload d_Sp_splitGroup_38 rfl ?_
  refine q_lsub d_Sp_splitGroup_40 o2 ?_
  refine q_lstore d_Sp_splitGroup_41 (by decide) (L' := [vR 573, vR 457, vI x2, vR 1, vR 6, vI x5, vR 391, vL x7, vU, vL x9, vU, vL ((y0 * x9) - x7), vU, vU, vU, vU, vU, vU]) rfl ?_
  refine q_lload d_Sp_splitGroup_43 rfl ?_
  refine q_lconst (x := 0) d_Sp_splitGroup_45 ⟨rfl, by decide⟩ ?_
  refine q_lcmp d_Sp_splitGroup_46 ?_
  refine q_if_ne (tgt := 55) d_Sp_splitGroup_47 (by decide) (fun c3 => ?_) (fun c3 => ?_)
  · have h := h.1 (zcmp_ne.mp c3)
    obtain ⟨o4, h⟩ := h
    refine q_iload d_Sp_splitGroup_55 rfl ?_
    refine q_iconst d_Sp_splitGroup_57 (by decide) ?_
    refine q_isub d_Sp_splitGroup_58 o4 ?_
    exact h
  · have h := h.2 (zcmp_eq.mp c3)
    refine q_iload d_Sp_splitGroup_50 rfl ?_
    refine q_goto (tgt := 59) d_Sp_splitGroup_52 (by decide) ?_
    exact h
theorem s_Sp_splitGroup_59 {x2 : Int} {x5 : Int} {x7 : Int} {x9 : Int} {x11 : Int} {z13 : VV} {z14 : VV} {z15 : VV} {z16 : VV} {z17 : VV} {y0 : Int}  (h : CI g M_Le_rateOf [vR 6, vI x5] D (fun v1 D' => Sg g M_Sp_splitGroup Q 68 [vR 573, vR 457, vI x2, vR 1, vR 6, vI x5, vR 391, vL x7, vU, vL x9, vU, vL x11, vU, vI y0, vU, vU, vU, vU] [vI v1] D')) : Sg g M_Sp_splitGroup Q 59 [vR 573, vR 457, vI x2, vR 1, vR 6, vI x5, vR 391, vL x7, vU, vL x9, vU, vL x11, vU, z13, z14, z15, z16, z17] [vI y0] D := by
  unfold Sg
  refine q_mask [false, false, false, false, false, false, false, false, false, false, false, false, false, true, true, true, true, true] (L' := [vR 573, vR 457, vI x2, vR 1, vR 6, vI x5, vR 391, vL x7, vU, vL x9, vU, vL x11, vU, vU, vU, vU, vU, vU]) rfl ?_
  refine q_istore d_Sp_splitGroup_59 (by decide) (L' := [vR 573, vR 457, vI x2, vR 1, vR 6, vI x5, vR 391, vL x7, vU, vL x9, vU, vL x11, vU, vI y0, vU, vU, vU, vU]) rfl ?_
  refine q_aload d_Sp_splitGroup_61 rfl ?_
  refine q_iload d_Sp_splitGroup_63 rfl ?_
  refine p_callV (as := [vI x5]) (st := []) (a := 6) mc_Le_rateOf mv_Le_rateOf l_Sp_68 zc_Le rfl d_Sp_splitGroup_65 rfl rfl rfl zk_6 (CI.to ?_)
  exact h
theorem s_Sp_splitGroup_68 {x2 : Int} {x5 : Int} {x7 : Int} {x9 : Int} {x11 : Int} {x13 : Int} {z14 : VV} {z15 : VV} {z16 : VV} {z17 : VV} {y0 : Int}  (h : CI g M_Le_rateOf [vR 6, vI x13] D (fun v1 D' => Sg g M_Sp_splitGroup Q 75 [vR 573, vR 457, vI x2, vR 1, vR 6, vI x5, vR 391, vL x7, vU, vL x9, vU, vL x11, vU, vI x13, vU, vU, vU, vU] [vI v1, vI y0] D')) : Sg g M_Sp_splitGroup Q 68 [vR 573, vR 457, vI x2, vR 1, vR 6, vI x5, vR 391, vL x7, vU, vL x9, vU, vL x11, vU, vI x13, z14, z15, z16, z17] [vI y0] D := by
  unfold Sg
  refine q_mask [false, false, false, false, false, false, false, false, false, false, false, false, false, false, true, true, true, true] (L' := [vR 573, vR 457, vI x2, vR 1, vR 6, vI x5, vR 391, vL x7, vU, vL x9, vU, vL x11, vU, vI x13, vU, vU, vU, vU]) rfl ?_
  refine q_aload d_Sp_splitGroup_68 rfl ?_
  refine q_iload d_Sp_splitGroup_70 rfl ?_
  refine p_callV (as := [vI x13]) (st := [vI y0]) (a := 6) mc_Le_rateOf mv_Le_rateOf l_Sp_68 zc_Le rfl d_Sp_splitGroup_72 rfl rfl rfl zk_6 (CI.to ?_)
  exact h
theorem s_Sp_splitGroup_75 {x2 : Int} {x5 : Int} {x7 : Int} {x9 : Int} {x11 : Int} {x13 : Int} {z14 : VV} {z15 : VV} {z16 : VV} {z17 : VV} {y0 : Int} {y1 : Int}  (h : (R32 (y1 - y0)) ∧ CI g M_Le_rateOf [vR 6, vI x13] D (fun v2 D' => Sg g M_Sp_splitGroup Q 87 [vR 573, vR 457, vI x2, vR 1, vR 6, vI x5, vR 391, vL x7, vU, vL x9, vU, vL x11, vU, vI x13, vI (y1 - y0), vU, vU, vU] [vI v2, vL x7] D')) : Sg g M_Sp_splitGroup Q 75 [vR 573, vR 457, vI x2, vR 1, vR 6, vI x5, vR 391, vL x7, vU, vL x9, vU, vL x11, vU, vI x13, z14, z15, z16, z17] [vI y0, vI y1] D := by
  unfold Sg
  refine q_mask [false, false, false, false, false, false, false, false, false, false, false, false, false, false, true, true, true, true] (L' := [vR 573, vR 457, vI x2, vR 1, vR 6, vI x5, vR 391, vL x7, vU, vL x9, vU, vL x11, vU, vI x13, vU, vU, vU, vU]) rfl ?_
  obtain ⟨o1, h⟩ := h
  refine q_isub d_Sp_splitGroup_75 o1 ?_
  refine q_istore d_Sp_splitGroup_76 (by decide) (L' := [vR 573, vR 457, vI x2, vR 1, vR 6, vI x5, vR 391, vL x7, vU, vL x9, vU, vL x11, vU, vI x13, vI (y1 - y0), vU, vU, vU]) rfl ?_
  refine q_lload d_Sp_splitGroup_78 rfl ?_
  refine q_aload d_Sp_splitGroup_80 rfl ?_
  refine q_iload d_Sp_splitGroup_82 rfl ?_
  refine p_callV (as := [vI x13]) (st := [vL x7]) (a := 6) mc_Le_rateOf mv_Le_rateOf l_Sp_68 zc_Le rfl d_Sp_splitGroup_84 rfl rfl rfl zk_6 (CI.to ?_)
  exact h
theorem s_Sp_splitGroup_87 {x2 : Int} {x5 : Int} {x7 : Int} {x9 : Int} {x11 : Int} {x13 : Int} {x14 : Int} {z15 : VV} {z16 : VV} {z17 : VV} {y0 : Int} {y1 : Int}  (h : (R64 (y0 * x9) ∧ R64 (y1 - (y0 * x9))) ∧ ((¬ x14 = 0 → CI g M_Le_costOf [vR 6, vI x13] D (fun v4 D' => Sg g M_Sp_splitGroup Q 136 [vR 573, vR 457, vI x2, vR 1, vR 6, vI x5, vR 391, vL x7, vU, vL x9, vU, vL x11, vU, vI x13, vI x14, vL (y1 - (y0 * x9)), vU, vU] [vI v4, vR 578, vR 391] D')) ∧ (x14 = 0 → CI g M_Le_costOf [vR 6, vI x5] D (fun v5 D' => Sg g M_Sp_splitGroup Q 112 [vR 573, vR 457, vI x2, vR 1, vR 6, vI x5, vR 391, vL x7, vU, vL x9, vU, vL x11, vU, vI x13, vI x14, vL (y1 - (y0 * x9)), vU, vU] [vI v5, vR 578, vR 391] D')))) : Sg g M_Sp_splitGroup Q 87 [vR 573, vR 457, vI x2, vR 1, vR 6, vI x5, vR 391, vL x7, vU, vL x9, vU, vL x11, vU, vI x13, vI x14, z15, z16, z17] [vI y0, vL y1] D := by
  unfold Sg
  refine q_mask [false, false, false, false, false, false, false, false, false, false, false, false, false, false, false, true, true, true] (L' := [vR 573, vR 457, vI x2, vR 1, vR 6, vI x5, vR 391, vL x7, vU, vL x9, vU, vL x11, vU, vI x13, vI x14, vU, vU, vU]) rfl ?_
  obtain ⟨⟨o1, o2⟩, h⟩ := h
  refine q_i2l d_Sp_splitGroup_87 ?_
  refine q_lload d_Sp_splitGroup_88 rfl ?_
  refine q_lmul d_Sp_splitGroup_90 o1 ?_
  refine q_lsub d_Sp_splitGroup_91 o2 ?_
  refine q_lstore d_Sp_splitGroup_92 (by decide) (L' := [vR 573, vR 457, vI x2, vR 1, vR 6, vI x5, vR 391, vL x7, vU, vL x9, vU, vL x11, vU, vI x13, vI x14, vL (y1 - (y0 * x9)), vU, vU]) rfl ?_
  refine q_iload d_Sp_splitGroup_94 rfl ?_
  refine q_if_ne (tgt := 123) d_Sp_splitGroup_96 (by decide) (fun c3 => ?_) (fun c3 => ?_)
  · have h := h.1 (c3)
    refine q_aload d_Sp_splitGroup_123 rfl ?_
    refine q_aload_n d_Sp_splitGroup_125 rfl ?_
    refine p_getR (k := 5) (b := 578) zc_Sp l_Sp_28 fr_Sp_cost d_Sp_splitGroup_126 zk_573 rfl ?_
    refine q_aload d_Sp_splitGroup_129 rfl ?_
    refine q_iload d_Sp_splitGroup_131 rfl ?_
    refine p_callV (as := [vI x13]) (st := [vR 578, vR 391]) (a := 6) mc_Le_costOf mv_Le_costOf l_Sp_72 zc_Le rfl d_Sp_splitGroup_133 rfl rfl rfl zk_6 (CI.to ?_)
    exact h
  · have h := h.2 (c3)
    refine q_aload d_Sp_splitGroup_99 rfl ?_
    refine q_aload_n d_Sp_splitGroup_101 rfl ?_
    refine p_getR (k := 5) (b := 578) zc_Sp l_Sp_28 fr_Sp_cost d_Sp_splitGroup_102 zk_573 rfl ?_
    refine q_aload d_Sp_splitGroup_105 rfl ?_
    refine q_iload d_Sp_splitGroup_107 rfl ?_
    refine p_callV (as := [vI x5]) (st := [vR 578, vR 391]) (a := 6) mc_Le_costOf mv_Le_costOf l_Sp_72 zc_Le rfl d_Sp_splitGroup_109 rfl rfl rfl zk_6 (CI.to ?_)
    exact h
theorem s_Sp_splitGroup_136 {x2 : Int} {x5 : Int} {z6 : VV} {x7 : Int} {x9 : Int} {x11 : Int} {x13 : Int} {x14 : Int} {x15 : Int} {z17 : VV} {y0 : Int}  (h : (R64 (y0 * x11)) ∧ CI g M_Le_costOf [vR 6, vI x5] D (fun v2 D' => Sg g M_Sp_splitGroup Q 147 [vR 573, vR 457, vI x2, vR 1, vR 6, vI x5, vU, vL x7, vU, vL x9, vU, vL x11, vU, vI x13, vI x14, vL x15, vU, vU] [vI v2, vL (y0 * x11), vR 578, vR 391] D')) : Sg g M_Sp_splitGroup Q 136 [vR 573, vR 457, vI x2, vR 1, vR 6, vI x5, z6, vL x7, vU, vL x9, vU, vL x11, vU, vI x13, vI x14, vL x15, vU, z17] [vI y0, vR 578, vR 391] D := by
  unfold Sg
  refine q_mask [false, false, false, false, false, false, true, false, false, false, false, false, false, false, false, false, false, true] (L' := [vR 573, vR 457, vI x2, vR 1, vR 6, vI x5, vU, vL x7, vU, vL x9, vU, vL x11, vU, vI x13, vI x14, vL x15, vU, vU]) rfl ?_
  obtain ⟨o1, h⟩ := h
  refine q_i2l d_Sp_splitGroup_136 ?_
  refine q_lload d_Sp_splitGroup_137 rfl ?_
  refine q_lmul d_Sp_splitGroup_139 o1 ?_
  refine q_aload d_Sp_splitGroup_140 rfl ?_
  refine q_iload d_Sp_splitGroup_142 rfl ?_
  refine p_callV (as := [vI x5]) (st := [vL (y0 * x11), vR 578, vR 391]) (a := 6) mc_Le_costOf mv_Le_costOf l_Sp_72 zc_Le rfl d_Sp_splitGroup_144 rfl rfl rfl zk_6 (CI.to ?_)
  exact h
theorem s_Sp_splitGroup_112 {x2 : Int} {z4 : VV} {x5 : Int} {z6 : VV} {x7 : Int} {x9 : Int} {x11 : Int} {x13 : Int} {x14 : Int} {x15 : Int} {z17 : VV} {y0 : Int}  (h : (R64 (y0 * x9)) ∧ CV g M_Re_add [vR 391, vR 578, vL (y0 * x9), vI 1] D (fun D' => Sg g M_Sp_splitGroup Q 120 [vR 573, vR 457, vI x2, vR 1, vU, vI x5, vU, vL x7, vU, vL x9, vU, vL x11, vU, vI x13, vI x14, vL x15, vU, vU] [] D')) : Sg g M_Sp_splitGroup Q 112 [vR 573, vR 457, vI x2, vR 1, z4, vI x5, z6, vL x7, vU, vL x9, vU, vL x11, vU, vI x13, vI x14, vL x15, vU, z17] [vI y0, vR 578, vR 391] D := by
  unfold Sg
  refine q_mask [false, false, false, false, true, false, true, false, false, false, false, false, false, false, false, false, false, true] (L' := [vR 573, vR 457, vI x2, vR 1, vU, vI x5, vU, vL x7, vU, vL x9, vU, vL x11, vU, vI x13, vI x14, vL x15, vU, vU]) rfl ?_
  obtain ⟨o1, h⟩ := h
  refine q_i2l d_Sp_splitGroup_112 ?_
  refine q_lload d_Sp_splitGroup_113 rfl ?_
  refine q_lmul d_Sp_splitGroup_115 o1 ?_
  refine q_iconst d_Sp_splitGroup_116 (by decide) ?_
  refine p_callV (as := [vR 578, vL (y0 * x9), vI 1]) (st := []) (a := 391) mc_Re_add mv_Re_add l_Sp_75 zc_Re rfl d_Sp_splitGroup_117 rfl rfl rfl zk_391 (CV.to ?_)
  exact h
theorem s_Sp_splitGroup_147 {x2 : Int} {z4 : VV} {x5 : Int} {z6 : VV} {x7 : Int} {x9 : Int} {x11 : Int} {x13 : Int} {x14 : Int} {x15 : Int} {z17 : VV} {y0 : Int} {y1 : Int}  (h : (R64 (y0 * x15) ∧ R64 (y1 + (y0 * x15))) ∧ CV g M_Re_add [vR 391, vR 578, vL (y1 + (y0 * x15)), vI x14] D (fun D' => Sg g M_Sp_splitGroup Q 157 [vR 573, vR 457, vI x2, vR 1, vU, vI x5, vU, vL x7, vU, vL x9, vU, vL x11, vU, vI x13, vI x14, vL x15, vU, vU] [] D')) : Sg g M_Sp_splitGroup Q 147 [vR 573, vR 457, vI x2, vR 1, z4, vI x5, z6, vL x7, vU, vL x9, vU, vL x11, vU, vI x13, vI x14, vL x15, vU, z17] [vI y0, vL y1, vR 578, vR 391] D := by
  unfold Sg
  refine q_mask [false, false, false, false, true, false, true, false, false, false, false, false, false, false, false, false, false, true] (L' := [vR 573, vR 457, vI x2, vR 1, vU, vI x5, vU, vL x7, vU, vL x9, vU, vL x11, vU, vI x13, vI x14, vL x15, vU, vU]) rfl ?_
  obtain ⟨⟨o1, o2⟩, h⟩ := h
  refine q_i2l d_Sp_splitGroup_147 ?_
  refine q_lload d_Sp_splitGroup_148 rfl ?_
  refine q_lmul d_Sp_splitGroup_150 o1 ?_
  refine q_ladd d_Sp_splitGroup_151 o2 ?_
  refine q_iload d_Sp_splitGroup_152 rfl ?_
  refine p_callV (as := [vR 578, vL (y1 + (y0 * x15)), vI x14]) (st := []) (a := 391) mc_Re_add mv_Re_add l_Sp_75 zc_Re rfl d_Sp_splitGroup_154 rfl rfl rfl zk_391 (CV.to ?_)
  exact h
theorem s_Sp_splitGroup_120 {x2 : Int} {z4 : VV} {x5 : Int} {z6 : VV} {x7 : Int} {x9 : Int} {x11 : Int} {x13 : Int} {x14 : Int} {x15 : Int} {z17 : VV}  (h : Sg g M_Sp_splitGroup Q 157 [vR 573, vR 457, vI x2, vR 1, vU, vI x5, vU, vL x7, vU, vL x9, vU, vL x11, vU, vI x13, vI x14, vL x15, vU, vU] [] D) : Sg g M_Sp_splitGroup Q 120 [vR 573, vR 457, vI x2, vR 1, z4, vI x5, z6, vL x7, vU, vL x9, vU, vL x11, vU, vI x13, vI x14, vL x15, vU, z17] [] D := by
  unfold Sg
  refine q_mask [false, false, false, false, true, false, true, false, false, false, false, false, false, false, false, false, false, true] (L' := [vR 573, vR 457, vI x2, vR 1, vU, vI x5, vU, vL x7, vU, vL x9, vU, vL x11, vU, vI x13, vI x14, vL x15, vU, vU]) rfl ?_
  refine q_goto (tgt := 157) d_Sp_splitGroup_120 (by decide) ?_
  exact h
theorem s_Sp_splitGroup_157 {x2 : Int} {z4 : VV} {x5 : Int} {z6 : VV} {x7 : Int} {x9 : Int} {x11 : Int} {x13 : Int} {x14 : Int} {x15 : Int} {z17 : VV}  (h : Sg g M_Sp_splitGroup Q 160 [vR 573, vR 457, vI x2, vR 1, vU, vI x5, vU, vL x7, vU, vL x9, vU, vL x11, vU, vI x13, vI x14, vL x15, vU, vI 0] [] D) : Sg g M_Sp_splitGroup Q 157 [vR 573, vR 457, vI x2, vR 1, z4, vI x5, z6, vL x7, vU, vL x9, vU, vL x11, vU, vI x13, vI x14, vL x15, vU, z17] [] D := by
  unfold Sg
  refine q_mask [false, false, false, false, true, false, true, false, false, false, false, false, false, false, false, false, false, true] (L' := [vR 573, vR 457, vI x2, vR 1, vU, vI x5, vU, vL x7, vU, vL x9, vU, vL x11, vU, vI x13, vI x14, vL x15, vU, vU]) rfl ?_
  refine q_iconst d_Sp_splitGroup_157 (by decide) ?_
  refine q_istore d_Sp_splitGroup_158 (by decide) (L' := [vR 573, vR 457, vI x2, vR 1, vU, vI x5, vU, vL x7, vU, vL x9, vU, vL x11, vU, vI x13, vI x14, vL x15, vU, vI 0]) rfl ?_
  exact h
theorem s_Sp_splitGroup_160 {x2 : Int} {z4 : VV} {x5 : Int} {z6 : VV} {x7 : Int} {x9 : Int} {x11 : Int} {x13 : Int} {x14 : Int} {x15 : Int} {x17 : Int}  (h : (((D 1 0) ≤ x17 → Q none zE D) ∧ (¬ (D 1 0) ≤ x17 → CI g M_Pl_groupOf [vR 457, vI x17] D (fun v2 D' => Sg g M_Sp_splitGroup Q 175 [vR 573, vR 457, vI x2, vR 1, vU, vI x5, vU, vL x7, vU, vL x9, vU, vL x11, vU, vI x13, vI x14, vL x15, vU, vI x17] [vI v2] D')))) : Sg g M_Sp_splitGroup Q 160 [vR 573, vR 457, vI x2, vR 1, z4, vI x5, z6, vL x7, vU, vL x9, vU, vL x11, vU, vI x13, vI x14, vL x15, vU, vI x17] [] D := by
  unfold Sg
  refine q_mask [false, false, false, false, true, false, true, false, false, false, false, false, false, false, false, false, false, false] (L' := [vR 573, vR 457, vI x2, vR 1, vU, vI x5, vU, vL x7, vU, vL x9, vU, vL x11, vU, vI x13, vI x14, vL x15, vU, vI x17]) rfl ?_
  refine q_iload d_Sp_splitGroup_160 rfl ?_
  refine q_aload_n d_Sp_splitGroup_162 rfl ?_
  refine p_getIN (k := 0) zc_Jo l_Sp_79 fi_Jo_count d_Sp_splitGroup_163 zk_1 ?_
  refine q_icmp_ge (tgt := 303) d_Sp_splitGroup_166 (by decide) (fun c1 => ?_) (fun c1 => ?_)
  · have h := h.1 (c1)
    exact q_vret d_Sp_splitGroup_303 rfl ⟨Nat.le_refl _, Nat.le_refl _⟩ h
  · have h := h.2 (c1)
    refine q_aload_n d_Sp_splitGroup_169 rfl ?_
    refine q_iload d_Sp_splitGroup_170 rfl ?_
    refine p_callV (as := [vI x17]) (st := []) (a := 457) mc_Pl_groupOf mv_Pl_groupOf l_Sp_85 zc_Pl rfl d_Sp_splitGroup_172 rfl rfl rfl zk_457 (CI.to ?_)
    exact h
theorem s_Sp_splitGroup_175 {x2 : Int} {z4 : VV} {x5 : Int} {z6 : VV} {x7 : Int} {x9 : Int} {x11 : Int} {x13 : Int} {x14 : Int} {x15 : Int} {x17 : Int} {y0 : Int}  (h : ((y0 = x2 → ((0 ≤ x17 ∧ x17 < 12)) ∧ (∀ D3, D3 = zw D 574 x17 x13 → ((0 ≤ x17 ∧ x17 < 12)) ∧ (∀ D6, D6 = zw D3 575 x17 x5 → ((¬ x14 = 0 → ((0 ≤ x17 ∧ x17 < 12) ∧ (0 ≤ x17 ∧ x17 < 12) ∧ R64 ((D6 4 x17) * x11) ∧ R64 (x7 * x14)) ∧ CV g M_Fr_setSmall [vR (583 + 10 * x17.toNat), vL ((D6 4 x17) * x11), vL (x7 * x14)] D6 (fun D' => Sg g M_Sp_splitGroup Q 270 [vR 573, vR 457, vI x2, vR 1, vU, vI x5, vU, vL x7, vU, vL x9, vU, vL x11, vU, vI x13, vI x14, vL x15, vU, vI x17] [] D')) ∧ (x14 = 0 → ((0 ≤ x17 ∧ x17 < 12) ∧ (0 ≤ x17 ∧ x17 < 12) ∧ R64 ((D6 4 x17) * x9)) ∧ CV g M_Fr_setSmall [vR (583 + 10 * x17.toNat), vL ((D6 4 x17) * x9), vL x7] D6 (fun D' => Sg g M_Sp_splitGroup Q 228 [vR 573, vR 457, vI x2, vR 1, vU, vI x5, vU, vL x7, vU, vL x9, vU, vL x11, vU, vI x13, vI x14, vL x15, vU, vI x17] [] D')))))) ∧ (¬ y0 = x2 → Sg g M_Sp_splitGroup Q 297 [vR 573, vR 457, vI x2, vR 1, vU, vI x5, vU, vL x7, vU, vL x9, vU, vL x11, vU, vI x13, vI x14, vL x15, vU, vI x17] [] D))) : Sg g M_Sp_splitGroup Q 175 [vR 573, vR 457, vI x2, vR 1, z4, vI x5, z6, vL x7, vU, vL x9, vU, vL x11, vU, vI x13, vI x14, vL x15, vU, vI x17] [vI y0] D := by
  unfold Sg
  refine q_mask [false, false, false, false, true, false, true, false, false, false, false, false, false, false, false, false, false, false] (L' := [vR 573, vR 457, vI x2, vR 1, vU, vI x5, vU, vL x7, vU, vL x9, vU, vL x11, vU, vI x13, vI x14, vL x15, vU, vI x17]) rfl ?_
  refine q_iload_n d_Sp_splitGroup_175 rfl ?_
  refine q_icmp_eq (tgt := 182) d_Sp_splitGroup_176 (by decide) (fun c1 => ?_) (fun c1 => ?_)
  · have h := h.1 (c1)
    obtain ⟨o2, h⟩ := h
    refine q_aload_n d_Sp_splitGroup_182 rfl ?_
    refine p_getR (k := 1) (b := 574) zc_Sp l_Sp_9 fr_Sp_lesser d_Sp_splitGroup_183 zk_573 rfl ?_
    refine q_iload d_Sp_splitGroup_186 rfl ?_
    refine q_iload d_Sp_splitGroup_188 rfl ?_
    refine p_iast d_Sp_splitGroup_190 zk_574 o2 (fun D3 e4 => ?_)
    have h := h D3 e4
    obtain ⟨o5, h⟩ := h
    refine q_aload_n d_Sp_splitGroup_191 rfl ?_
    refine p_getR (k := 2) (b := 575) zc_Sp l_Sp_15 fr_Sp_greater d_Sp_splitGroup_192 zk_573 rfl ?_
    refine q_iload d_Sp_splitGroup_195 rfl ?_
    refine q_iload d_Sp_splitGroup_197 rfl ?_
    refine p_iast d_Sp_splitGroup_199 zk_575 o5 (fun D6 e7 => ?_)
    have h := h D6 e7
    refine q_iload d_Sp_splitGroup_200 rfl ?_
    refine q_if_ne (tgt := 243) d_Sp_splitGroup_202 (by decide) (fun c8 => ?_) (fun c8 => ?_)
    · have h := h.1 (c8)
      obtain ⟨⟨o9, o10, o11, o12⟩, h⟩ := h
      refine q_aload_n d_Sp_splitGroup_243 rfl ?_
      refine p_getR (k := 3) (b := 576) zc_Sp l_Sp_20 fr_Sp_slowly d_Sp_splitGroup_244 zk_573 rfl ?_
      refine q_iload d_Sp_splitGroup_247 rfl ?_
      refine p_aald (b := (583 + 10 * x17.toNat)) d_Sp_splitGroup_249 zk_576 (by decide) o9 rfl ?_
      refine q_aload_n d_Sp_splitGroup_250 rfl ?_
      refine p_getRN (k := 3) (b := 4) zc_Jo l_Sp_88 fr_Jo_work d_Sp_splitGroup_251 zk_1 rfl ?_
      refine q_iload d_Sp_splitGroup_254 rfl ?_
      refine p_iald d_Sp_splitGroup_256 zk_4 o10 ?_
      refine q_i2l d_Sp_splitGroup_257 ?_
      refine q_lload d_Sp_splitGroup_258 rfl ?_
      refine q_lmul d_Sp_splitGroup_260 o11 ?_
      refine q_lload d_Sp_splitGroup_261 rfl ?_
      refine q_iload d_Sp_splitGroup_263 rfl ?_
      refine q_i2l d_Sp_splitGroup_265 ?_
      refine q_lmul d_Sp_splitGroup_266 o12 ?_
      refine p_callV (as := [vL ((D6 4 x17) * x11), vL (x7 * x14)]) (st := []) (a := (583 + 10 * x17.toNat)) mc_Fr_setSmall mv_Fr_setSmall l_Sp_36 zc_Fr rfl d_Sp_splitGroup_267 rfl rfl rfl (ze_5 (i := x17.toNat) zk_576 (by omega)) (CV.to ?_)
      exact h
    · have h := h.2 (c8)
      obtain ⟨⟨o14, o15, o16⟩, h⟩ := h
      refine q_aload_n d_Sp_splitGroup_205 rfl ?_
      refine p_getR (k := 3) (b := 576) zc_Sp l_Sp_20 fr_Sp_slowly d_Sp_splitGroup_206 zk_573 rfl ?_
      refine q_iload d_Sp_splitGroup_209 rfl ?_
      refine p_aald (b := (583 + 10 * x17.toNat)) d_Sp_splitGroup_211 zk_576 (by decide) o14 rfl ?_
      refine q_aload_n d_Sp_splitGroup_212 rfl ?_
      refine p_getRN (k := 3) (b := 4) zc_Jo l_Sp_88 fr_Jo_work d_Sp_splitGroup_213 zk_1 rfl ?_
      refine q_iload d_Sp_splitGroup_216 rfl ?_
      refine p_iald d_Sp_splitGroup_218 zk_4 o15 ?_
      refine q_i2l d_Sp_splitGroup_219 ?_
      refine q_lload d_Sp_splitGroup_220 rfl ?_
      refine q_lmul d_Sp_splitGroup_222 o16 ?_
      refine q_lload d_Sp_splitGroup_223 rfl ?_
      refine p_callV (as := [vL ((D6 4 x17) * x9), vL x7]) (st := []) (a := (583 + 10 * x17.toNat)) mc_Fr_setSmall mv_Fr_setSmall l_Sp_36 zc_Fr rfl d_Sp_splitGroup_225 rfl rfl rfl (ze_5 (i := x17.toNat) zk_576 (by omega)) (CV.to ?_)
      exact h
  · have h := h.2 (c1)
    refine q_goto (tgt := 297) d_Sp_splitGroup_179 (by decide) ?_
    exact h
theorem s_Sp_splitGroup_270 {x2 : Int} {z4 : VV} {x5 : Int} {z6 : VV} {x7 : Int} {x9 : Int} {x11 : Int} {x13 : Int} {x14 : Int} {x15 : Int} {x17 : Int}  (h : ((0 ≤ x17 ∧ x17 < 12) ∧ (0 ≤ x17 ∧ x17 < 12) ∧ R64 ((D 4 x17) * x15) ∧ R64 (x7 * x14)) ∧ CV g M_Fr_setSmall [vR (588 + 10 * x17.toNat), vL ((D 4 x17) * x15), vL (x7 * x14)] D (fun D' => Sg g M_Sp_splitGroup Q 297 [vR 573, vR 457, vI x2, vR 1, vU, vI x5, vU, vL x7, vU, vL x9, vU, vL x11, vU, vI x13, vI x14, vL x15, vU, vI x17] [] D')) : Sg g M_Sp_splitGroup Q 270 [vR 573, vR 457, vI x2, vR 1, z4, vI x5, z6, vL x7, vU, vL x9, vU, vL x11, vU, vI x13, vI x14, vL x15, vU, vI x17] [] D := by
  unfold Sg
  refine q_mask [false, false, false, false, true, false, true, false, false, false, false, false, false, false, false, false, false, false] (L' := [vR 573, vR 457, vI x2, vR 1, vU, vI x5, vU, vL x7, vU, vL x9, vU, vL x11, vU, vI x13, vI x14, vL x15, vU, vI x17]) rfl ?_
  obtain ⟨⟨o1, o2, o3, o4⟩, h⟩ := h
  refine q_aload_n d_Sp_splitGroup_270 rfl ?_
  refine p_getR (k := 4) (b := 577) zc_Sp l_Sp_24 fr_Sp_fast d_Sp_splitGroup_271 zk_573 rfl ?_
  refine q_iload d_Sp_splitGroup_274 rfl ?_
  refine p_aald (b := (588 + 10 * x17.toNat)) d_Sp_splitGroup_276 zk_577 (by decide) o1 rfl ?_
  refine q_aload_n d_Sp_splitGroup_277 rfl ?_
  refine p_getRN (k := 3) (b := 4) zc_Jo l_Sp_88 fr_Jo_work d_Sp_splitGroup_278 zk_1 rfl ?_
  refine q_iload d_Sp_splitGroup_281 rfl ?_
  refine p_iald d_Sp_splitGroup_283 zk_4 o2 ?_
  refine q_i2l d_Sp_splitGroup_284 ?_
  refine q_lload d_Sp_splitGroup_285 rfl ?_
  refine q_lmul d_Sp_splitGroup_287 o3 ?_
  refine q_lload d_Sp_splitGroup_288 rfl ?_
  refine q_iload d_Sp_splitGroup_290 rfl ?_
  refine q_i2l d_Sp_splitGroup_292 ?_
  refine q_lmul d_Sp_splitGroup_293 o4 ?_
  refine p_callV (as := [vL ((D 4 x17) * x15), vL (x7 * x14)]) (st := []) (a := (588 + 10 * x17.toNat)) mc_Fr_setSmall mv_Fr_setSmall l_Sp_36 zc_Fr rfl d_Sp_splitGroup_294 rfl rfl rfl (ze_6 (i := x17.toNat) zk_577 (by omega)) (CV.to ?_)
  exact h
theorem s_Sp_splitGroup_228 {x2 : Int} {z4 : VV} {x5 : Int} {z6 : VV} {x7 : Int} {x9 : Int} {x11 : Int} {x13 : Int} {x14 : Int} {x15 : Int} {x17 : Int}  (h : ((0 ≤ x17 ∧ x17 < 12)) ∧ CV g M_Fr_setSmall [vR (588 + 10 * x17.toNat), vL 0, vL 1] D (fun D' => Sg g M_Sp_splitGroup Q 240 [vR 573, vR 457, vI x2, vR 1, vU, vI x5, vU, vL x7, vU, vL x9, vU, vL x11, vU, vI x13, vI x14, vL x15, vU, vI x17] [] D')) : Sg g M_Sp_splitGroup Q 228 [vR 573, vR 457, vI x2, vR 1, z4, vI x5, z6, vL x7, vU, vL x9, vU, vL x11, vU, vI x13, vI x14, vL x15, vU, vI x17] [] D := by
  unfold Sg
  refine q_mask [false, false, false, false, true, false, true, false, false, false, false, false, false, false, false, false, false, false] (L' := [vR 573, vR 457, vI x2, vR 1, vU, vI x5, vU, vL x7, vU, vL x9, vU, vL x11, vU, vI x13, vI x14, vL x15, vU, vI x17]) rfl ?_
  obtain ⟨o1, h⟩ := h
  refine q_aload_n d_Sp_splitGroup_228 rfl ?_
  refine p_getR (k := 4) (b := 577) zc_Sp l_Sp_24 fr_Sp_fast d_Sp_splitGroup_229 zk_573 rfl ?_
  refine q_iload d_Sp_splitGroup_232 rfl ?_
  refine p_aald (b := (588 + 10 * x17.toNat)) d_Sp_splitGroup_234 zk_577 (by decide) o1 rfl ?_
  refine q_lconst (x := 0) d_Sp_splitGroup_235 ⟨rfl, by decide⟩ ?_
  refine q_lconst (x := 1) d_Sp_splitGroup_236 ⟨rfl, by decide⟩ ?_
  refine p_callV (as := [vL 0, vL 1]) (st := []) (a := (588 + 10 * x17.toNat)) mc_Fr_setSmall mv_Fr_setSmall l_Sp_36 zc_Fr rfl d_Sp_splitGroup_237 rfl rfl rfl (ze_6 (i := x17.toNat) zk_577 (by omega)) (CV.to ?_)
  exact h
theorem s_Sp_splitGroup_297 {x2 : Int} {z4 : VV} {x5 : Int} {z6 : VV} {x7 : Int} {x9 : Int} {x11 : Int} {x13 : Int} {x14 : Int} {x15 : Int} {x17 : Int}  (h : (R32 (x17 + 1)) ∧ Sg g M_Sp_splitGroup Q 160 [vR 573, vR 457, vI x2, vR 1, vU, vI x5, vU, vL x7, vU, vL x9, vU, vL x11, vU, vI x13, vI x14, vL x15, vU, vI (x17 + 1)] [] D) : Sg g M_Sp_splitGroup Q 297 [vR 573, vR 457, vI x2, vR 1, z4, vI x5, z6, vL x7, vU, vL x9, vU, vL x11, vU, vI x13, vI x14, vL x15, vU, vI x17] [] D := by
  unfold Sg
  refine q_mask [false, false, false, false, true, false, true, false, false, false, false, false, false, false, false, false, false, false] (L' := [vR 573, vR 457, vI x2, vR 1, vU, vI x5, vU, vL x7, vU, vL x9, vU, vL x11, vU, vI x13, vI x14, vL x15, vU, vI x17]) rfl ?_
  obtain ⟨o1, h⟩ := h
  refine q_iinc d_Sp_splitGroup_297 rfl (by decide) o1 (L' := [vR 573, vR 457, vI x2, vR 1, vU, vI x5, vU, vL x7, vU, vL x9, vU, vL x11, vU, vI x13, vI x14, vL x15, vU, vI (x17 + 1)]) rfl ?_
  refine q_goto (tgt := 160) d_Sp_splitGroup_300 (by decide) ?_
  exact h
theorem s_Sp_splitGroup_240 {x2 : Int} {z4 : VV} {x5 : Int} {z6 : VV} {x7 : Int} {x9 : Int} {x11 : Int} {x13 : Int} {x14 : Int} {x15 : Int} {x17 : Int}  (h : Sg g M_Sp_splitGroup Q 297 [vR 573, vR 457, vI x2, vR 1, vU, vI x5, vU, vL x7, vU, vL x9, vU, vL x11, vU, vI x13, vI x14, vL x15, vU, vI x17] [] D) : Sg g M_Sp_splitGroup Q 240 [vR 573, vR 457, vI x2, vR 1, z4, vI x5, z6, vL x7, vU, vL x9, vU, vL x11, vU, vI x13, vI x14, vL x15, vU, vI x17] [] D := by
  unfold Sg
  refine q_mask [false, false, false, false, true, false, true, false, false, false, false, false, false, false, false, false, false, false] (L' := [vR 573, vR 457, vI x2, vR 1, vU, vI x5, vU, vL x7, vU, vL x9, vU, vL x11, vU, vI x13, vI x14, vL x15, vU, vI x17]) rfl ?_
  refine q_goto (tgt := 297) d_Sp_splitGroup_240 (by decide) ?_
  exact h
end SEG
