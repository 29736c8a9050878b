/-! printed by wip/whole/tools/seg.py: Fo_workOut, Fo_isOpen, Fo_findDensest, Fo_setRate, Fo_workOff, Fo_setEnd, Fo_rescale -/
theorem zk_530 : zk 530 = (0, 8, 0) := by decide +kernel
theorem zk_531 : zk 531 = (5, 12, 4) := by decide +kernel
theorem zk_532 : zk 532 = (0, 3, 0) := by decide +kernel
theorem zk_534 : zk 534 = (0, 3, 0) := by decide +kernel
theorem zk_536 : zk 536 = (0, 3, 0) := by decide +kernel
theorem zk_538 : zk 538 = (0, 3, 0) := by decide +kernel
theorem zk_540 : zk 540 = (0, 3, 0) := by decide +kernel
theorem zk_542 : zk 542 = (0, 3, 0) := by decide +kernel
theorem zk_544 : zk 544 = (0, 4, 0) := by decide +kernel
theorem zk_545 : zk 545 = (0, 3, 0) := by decide +kernel
theorem zk_547 : zk 547 = (0, 3, 0) := by decide +kernel
theorem fi_Fo_denseDeadline : 3 < 9 ∧ (zft 8 3).1 ≠ 2 ∧ ((3 : Nat) : Int) = 3 := ⟨by decide, by decide +kernel, rfl⟩
theorem fr_Fo_dense : 2 < 9 ∧ zft 8 2 = (2, 4) := ⟨by decide, by decide +kernel⟩
theorem fr_Fo_left : 0 < 9 ∧ zft 8 0 = (2, 1) := ⟨by decide, by decide +kernel⟩
theorem fr_Fo_mark : 5 < 9 ∧ zft 8 5 = (2, 8) := ⟨by decide, by decide +kernel⟩
theorem fr_Fo_rate : 8 < 9 ∧ zft 8 8 = (2, 14) := ⟨by decide, by decide +kernel⟩
theorem fr_Fo_room : 6 < 9 ∧ zft 8 6 = (2, 10) := ⟨by decide, by decide +kernel⟩
theorem fr_Fo_scale : 1 < 9 ∧ zft 8 1 = (2, 2) := ⟨by decide, by decide +kernel⟩
theorem fr_Fo_spare : 7 < 9 ∧ zft 8 7 = (2, 12) := ⟨by decide, by decide +kernel⟩
theorem fr_Fo_sum : 4 < 9 ∧ zft 8 4 = (2, 6) := ⟨by decide, by decide +kernel⟩
theorem fp_Fo_denseDeadline : 3 < 9 ∧ (zft 8 3).1 ≠ 2 ∧ ((3 : Nat) : Int) = 3 ∧ (F_Fo 3).2.2.2 = false := ⟨by decide, by decide +kernel, rfl, rfl⟩
theorem d_Fo_workOut_0 : decode prog_2_method_2_code 0 = .ok (.aload_n 2, 1) := by decide +kernel
theorem d_Fo_workOut_1 : decode prog_2_method_2_code 1 = .ok (.invokevirtual 44, 3) := by decide +kernel
theorem d_Fo_workOut_4 : decode prog_2_method_2_code 4 = .ok (.aload_n 0, 1) := by decide +kernel
theorem d_Fo_workOut_5 : decode prog_2_method_2_code 5 = .ok (.getfield 18, 3) := by decide +kernel
theorem d_Fo_workOut_8 : decode prog_2_method_2_code 8 = .ok (.lconst 1, 1) := by decide +kernel
theorem d_Fo_workOut_9 : decode prog_2_method_2_code 9 = .ok (.invokevirtual 49, 3) := by decide +kernel
theorem d_Fo_workOut_12 : decode prog_2_method_2_code 12 = .ok (.iconst 0, 1) := by decide +kernel
theorem d_Fo_workOut_13 : decode prog_2_method_2_code 13 = .ok (.istore 4, 2) := by decide +kernel
theorem d_Fo_workOut_15 : decode prog_2_method_2_code 15 = .ok (.iload 4, 2) := by decide +kernel
theorem d_Fo_workOut_17 : decode prog_2_method_2_code 17 = .ok (.aload_n 1, 1) := by decide +kernel
theorem d_Fo_workOut_18 : decode prog_2_method_2_code 18 = .ok (.getfield 53, 3) := by decide +kernel
theorem d_Fo_workOut_21 : decode prog_2_method_2_code 21 = .ok (.if_icmp .ge 27, 3) := by decide +kernel
theorem d_Fo_workOut_24 : decode prog_2_method_2_code 24 = .ok (.aload_n 0, 1) := by decide +kernel
theorem d_Fo_workOut_25 : decode prog_2_method_2_code 25 = .ok (.getfield 11, 3) := by decide +kernel
theorem d_Fo_workOut_28 : decode prog_2_method_2_code 28 = .ok (.iload 4, 2) := by decide +kernel
theorem d_Fo_workOut_30 : decode prog_2_method_2_code 30 = .ok (.aaload, 1) := by decide +kernel
theorem d_Fo_workOut_31 : decode prog_2_method_2_code 31 = .ok (.aload_n 1, 1) := by decide +kernel
theorem d_Fo_workOut_32 : decode prog_2_method_2_code 32 = .ok (.getfield 59, 3) := by decide +kernel
theorem d_Fo_workOut_35 : decode prog_2_method_2_code 35 = .ok (.iload 4, 2) := by decide +kernel
theorem d_Fo_workOut_37 : decode prog_2_method_2_code 37 = .ok (.iaload, 1) := by decide +kernel
theorem d_Fo_workOut_38 : decode prog_2_method_2_code 38 = .ok (.i2l, 1) := by decide +kernel
theorem d_Fo_workOut_39 : decode prog_2_method_2_code 39 = .ok (.invokevirtual 49, 3) := by decide +kernel
theorem d_Fo_workOut_42 : decode prog_2_method_2_code 42 = .ok (.iinc 4 1, 3) := by decide +kernel
theorem d_Fo_workOut_45 : decode prog_2_method_2_code 45 = .ok (.goto (-30), 3) := by decide +kernel
theorem d_Fo_workOut_48 : decode prog_2_method_2_code 48 = .ok (.aload_n 1, 1) := by decide +kernel
theorem d_Fo_workOut_49 : decode prog_2_method_2_code 49 = .ok (.invokevirtual 63, 3) := by decide +kernel
theorem d_Fo_workOut_52 : decode prog_2_method_2_code 52 = .ok (.sipush 200, 3) := by decide +kernel
theorem d_Fo_workOut_55 : decode prog_2_method_2_code 55 = .ok (.invokestatic 67, 3) := by decide +kernel
theorem d_Fo_workOut_58 : decode prog_2_method_2_code 58 = .ok (.istore 4, 2) := by decide +kernel
theorem d_Fo_workOut_60 : decode prog_2_method_2_code 60 = .ok (.aload_n 1, 1) := by decide +kernel
theorem d_Fo_workOut_61 : decode prog_2_method_2_code 61 = .ok (.invokevirtual 73, 3) := by decide +kernel
theorem d_Fo_workOut_64 : decode prog_2_method_2_code 64 = .ok (.iconst 0, 1) := by decide +kernel
theorem d_Fo_workOut_65 : decode prog_2_method_2_code 65 = .ok (.invokestatic 76, 3) := by decide +kernel
theorem d_Fo_workOut_68 : decode prog_2_method_2_code 68 = .ok (.istore 5, 2) := by decide +kernel
theorem d_Fo_workOut_70 : decode prog_2_method_2_code 70 = .ok (.iconst 0, 1) := by decide +kernel
theorem d_Fo_workOut_71 : decode prog_2_method_2_code 71 = .ok (.istore 6, 2) := by decide +kernel
theorem d_Fo_workOut_73 : decode prog_2_method_2_code 73 = .ok (.iload 6, 2) := by decide +kernel
theorem d_Fo_workOut_75 : decode prog_2_method_2_code 75 = .ok (.bipush 24, 2) := by decide +kernel
theorem d_Fo_workOut_77 : decode prog_2_method_2_code 77 = .ok (.if_icmp .ge 99, 3) := by decide +kernel
theorem d_Fo_workOut_80 : decode prog_2_method_2_code 80 = .ok (.iload 5, 2) := by decide +kernel
theorem d_Fo_workOut_82 : decode prog_2_method_2_code 82 = .ok (.iload 4, 2) := by decide +kernel
theorem d_Fo_workOut_84 : decode prog_2_method_2_code 84 = .ok (.if_icmp .ge 92, 3) := by decide +kernel
theorem d_Fo_workOut_87 : decode prog_2_method_2_code 87 = .ok (.aload_n 0, 1) := by decide +kernel
theorem d_Fo_workOut_88 : decode prog_2_method_2_code 88 = .ok (.aload_n 1, 1) := by decide +kernel
theorem d_Fo_workOut_89 : decode prog_2_method_2_code 89 = .ok (.iload 5, 2) := by decide +kernel
theorem d_Fo_workOut_91 : decode prog_2_method_2_code 91 = .ok (.invokevirtual 79, 3) := by decide +kernel
theorem d_Fo_workOut_94 : decode prog_2_method_2_code 94 = .ok (.aload_n 1, 1) := by decide +kernel
theorem d_Fo_workOut_95 : decode prog_2_method_2_code 95 = .ok (.iload 5, 2) := by decide +kernel
theorem d_Fo_workOut_97 : decode prog_2_method_2_code 97 = .ok (.iload 4, 2) := by decide +kernel
theorem d_Fo_workOut_99 : decode prog_2_method_2_code 99 = .ok (.invokevirtual 83, 3) := by decide +kernel
theorem d_Fo_workOut_102 : decode prog_2_method_2_code 102 = .ok (.istore 7, 2) := by decide +kernel
theorem d_Fo_workOut_104 : decode prog_2_method_2_code 104 = .ok (.aload_n 0, 1) := by decide +kernel
theorem d_Fo_workOut_105 : decode prog_2_method_2_code 105 = .ok (.getfield 22, 3) := by decide +kernel
theorem d_Fo_workOut_108 : decode prog_2_method_2_code 108 = .ok (.invokevirtual 86, 3) := by decide +kernel
theorem d_Fo_workOut_111 : decode prog_2_method_2_code 111 = .ok (.ifCond .ne 14, 3) := by decide +kernel
theorem d_Fo_workOut_114 : decode prog_2_method_2_code 114 = .ok (.iload 7, 2) := by decide +kernel
theorem d_Fo_workOut_116 : decode prog_2_method_2_code 116 = .ok (.aload_n 0, 1) := by decide +kernel
theorem d_Fo_workOut_117 : decode prog_2_method_2_code 117 = .ok (.getfield 90, 3) := by decide +kernel
theorem d_Fo_workOut_120 : decode prog_2_method_2_code 120 = .ok (.invokestatic 67, 3) := by decide +kernel
theorem d_Fo_workOut_123 : decode prog_2_method_2_code 123 = .ok (.istore 7, 2) := by decide +kernel
theorem d_Fo_workOut_125 : decode prog_2_method_2_code 125 = .ok (.aload_n 0, 1) := by decide +kernel
theorem d_Fo_workOut_126 : decode prog_2_method_2_code 126 = .ok (.aload_n 0, 1) := by decide +kernel
theorem d_Fo_workOut_127 : decode prog_2_method_2_code 127 = .ok (.getfield 90, 3) := by decide +kernel
theorem d_Fo_workOut_130 : decode prog_2_method_2_code 130 = .ok (.iload 5, 2) := by decide +kernel
theorem d_Fo_workOut_132 : decode prog_2_method_2_code 132 = .ok (.isub, 1) := by decide +kernel
theorem d_Fo_workOut_133 : decode prog_2_method_2_code 133 = .ok (.invokevirtual 93, 3) := by decide +kernel
theorem d_Fo_workOut_136 : decode prog_2_method_2_code 136 = .ok (.aload_n 3, 1) := by decide +kernel
theorem d_Fo_workOut_137 : decode prog_2_method_2_code 137 = .ok (.aload_n 0, 1) := by decide +kernel
theorem d_Fo_workOut_138 : decode prog_2_method_2_code 138 = .ok (.getfield 40, 3) := by decide +kernel
theorem d_Fo_workOut_141 : decode prog_2_method_2_code 141 = .ok (.invokevirtual 97, 3) := by decide +kernel
theorem d_Fo_workOut_144 : decode prog_2_method_2_code 144 = .ok (.aload_n 2, 1) := by decide +kernel
theorem d_Fo_workOut_145 : decode prog_2_method_2_code 145 = .ok (.iload 5, 2) := by decide +kernel
theorem d_Fo_workOut_147 : decode prog_2_method_2_code 147 = .ok (.iload 7, 2) := by decide +kernel
theorem d_Fo_workOut_149 : decode prog_2_method_2_code 149 = .ok (.aload_n 0, 1) := by decide +kernel
theorem d_Fo_workOut_150 : decode prog_2_method_2_code 150 = .ok (.getfield 40, 3) := by decide +kernel
theorem d_Fo_workOut_153 : decode prog_2_method_2_code 153 = .ok (.invokevirtual 103, 3) := by decide +kernel
theorem d_Fo_workOut_156 : decode prog_2_method_2_code 156 = .ok (.aload_n 0, 1) := by decide +kernel
theorem d_Fo_workOut_157 : decode prog_2_method_2_code 157 = .ok (.aload_n 1, 1) := by decide +kernel
theorem d_Fo_workOut_158 : decode prog_2_method_2_code 158 = .ok (.aload_n 2, 1) := by decide +kernel
theorem d_Fo_workOut_159 : decode prog_2_method_2_code 159 = .ok (.iload 5, 2) := by decide +kernel
theorem d_Fo_workOut_161 : decode prog_2_method_2_code 161 = .ok (.iload 7, 2) := by decide +kernel
theorem d_Fo_workOut_163 : decode prog_2_method_2_code 163 = .ok (.invokevirtual 107, 3) := by decide +kernel
theorem d_Fo_workOut_166 : decode prog_2_method_2_code 166 = .ok (.iload 7, 2) := by decide +kernel
theorem d_Fo_workOut_168 : decode prog_2_method_2_code 168 = .ok (.istore 5, 2) := by decide +kernel
theorem d_Fo_workOut_170 : decode prog_2_method_2_code 170 = .ok (.iinc 6 1, 3) := by decide +kernel
theorem d_Fo_workOut_173 : decode prog_2_method_2_code 173 = .ok (.goto (-100), 3) := by decide +kernel
theorem d_Fo_workOut_176 : decode prog_2_method_2_code 176 = .ok (.iconst 0, 1) := by decide +kernel
theorem d_Fo_workOut_177 : decode prog_2_method_2_code 177 = .ok (.istore 6, 2) := by decide +kernel
theorem d_Fo_workOut_179 : decode prog_2_method_2_code 179 = .ok (.iload 6, 2) := by decide +kernel
theorem d_Fo_workOut_181 : decode prog_2_method_2_code 181 = .ok (.aload_n 1, 1) := by decide +kernel
theorem d_Fo_workOut_182 : decode prog_2_method_2_code 182 = .ok (.getfield 53, 3) := by decide +kernel
theorem d_Fo_workOut_185 : decode prog_2_method_2_code 185 = .ok (.if_icmp .ge 20, 3) := by decide +kernel
theorem d_Fo_workOut_188 : decode prog_2_method_2_code 188 = .ok (.aload_n 3, 1) := by decide +kernel
theorem d_Fo_workOut_189 : decode prog_2_method_2_code 189 = .ok (.aload_n 2, 1) := by decide +kernel
theorem d_Fo_workOut_190 : decode prog_2_method_2_code 190 = .ok (.getfield 111, 3) := by decide +kernel
theorem d_Fo_workOut_193 : decode prog_2_method_2_code 193 = .ok (.iload 6, 2) := by decide +kernel
theorem d_Fo_workOut_195 : decode prog_2_method_2_code 195 = .ok (.aaload, 1) := by decide +kernel
theorem d_Fo_workOut_196 : decode prog_2_method_2_code 196 = .ok (.invokevirtual 97, 3) := by decide +kernel
theorem d_Fo_workOut_199 : decode prog_2_method_2_code 199 = .ok (.iinc 6 1, 3) := by decide +kernel
theorem d_Fo_workOut_202 : decode prog_2_method_2_code 202 = .ok (.goto (-23), 3) := by decide +kernel
theorem d_Fo_workOut_205 : decode prog_2_method_2_code 205 = .ok (.return_, 1) := by decide +kernel
theorem d_Fo_isOpen_0 : decode prog_2_method_3_code 0 = .ok (.aload_n 1, 1) := by decide +kernel
theorem d_Fo_isOpen_1 : decode prog_2_method_3_code 1 = .ok (.iload_n 2, 1) := by decide +kernel
theorem d_Fo_isOpen_2 : decode prog_2_method_3_code 2 = .ok (.invokevirtual 115, 3) := by decide +kernel
theorem d_Fo_isOpen_5 : decode prog_2_method_3_code 5 = .ok (.ifCond .eq 39, 3) := by decide +kernel
theorem d_Fo_isOpen_8 : decode prog_2_method_3_code 8 = .ok (.aload_n 1, 1) := by decide +kernel
theorem d_Fo_isOpen_9 : decode prog_2_method_3_code 9 = .ok (.getfield 119, 3) := by decide +kernel
theorem d_Fo_isOpen_12 : decode prog_2_method_3_code 12 = .ok (.iload_n 2, 1) := by decide +kernel
theorem d_Fo_isOpen_13 : decode prog_2_method_3_code 13 = .ok (.iaload, 1) := by decide +kernel
theorem d_Fo_isOpen_14 : decode prog_2_method_3_code 14 = .ok (.iload_n 3, 1) := by decide +kernel
theorem d_Fo_isOpen_15 : decode prog_2_method_3_code 15 = .ok (.if_icmp .gt 29, 3) := by decide +kernel
theorem d_Fo_isOpen_18 : decode prog_2_method_3_code 18 = .ok (.aload_n 1, 1) := by decide +kernel
theorem d_Fo_isOpen_19 : decode prog_2_method_3_code 19 = .ok (.getfield 122, 3) := by decide +kernel
theorem d_Fo_isOpen_22 : decode prog_2_method_3_code 22 = .ok (.iload_n 2, 1) := by decide +kernel
theorem d_Fo_isOpen_23 : decode prog_2_method_3_code 23 = .ok (.iaload, 1) := by decide +kernel
theorem d_Fo_isOpen_24 : decode prog_2_method_3_code 24 = .ok (.iload_n 3, 1) := by decide +kernel
theorem d_Fo_isOpen_25 : decode prog_2_method_3_code 25 = .ok (.if_icmp .le 19, 3) := by decide +kernel
theorem d_Fo_isOpen_28 : decode prog_2_method_3_code 28 = .ok (.aload_n 0, 1) := by decide +kernel
theorem d_Fo_isOpen_29 : decode prog_2_method_3_code 29 = .ok (.getfield 11, 3) := by decide +kernel
theorem d_Fo_isOpen_32 : decode prog_2_method_3_code 32 = .ok (.iload_n 2, 1) := by decide +kernel
theorem d_Fo_isOpen_33 : decode prog_2_method_3_code 33 = .ok (.aaload, 1) := by decide +kernel
theorem d_Fo_isOpen_34 : decode prog_2_method_3_code 34 = .ok (.invokevirtual 86, 3) := by decide +kernel
theorem d_Fo_isOpen_37 : decode prog_2_method_3_code 37 = .ok (.ifCond .ne 7, 3) := by decide +kernel
theorem d_Fo_isOpen_40 : decode prog_2_method_3_code 40 = .ok (.iconst 1, 1) := by decide +kernel
theorem d_Fo_isOpen_41 : decode prog_2_method_3_code 41 = .ok (.goto 4, 3) := by decide +kernel
theorem d_Fo_isOpen_44 : decode prog_2_method_3_code 44 = .ok (.iconst 0, 1) := by decide +kernel
theorem d_Fo_isOpen_45 : decode prog_2_method_3_code 45 = .ok (.ireturn, 1) := by decide +kernel
theorem d_Fo_findDensest_0 : decode prog_2_method_4_code 0 = .ok (.aload_n 0, 1) := by decide +kernel
theorem d_Fo_findDensest_1 : decode prog_2_method_4_code 1 = .ok (.getfield 22, 3) := by decide +kernel
theorem d_Fo_findDensest_4 : decode prog_2_method_4_code 4 = .ok (.lconst 0, 1) := by decide +kernel
theorem d_Fo_findDensest_5 : decode prog_2_method_4_code 5 = .ok (.invokevirtual 49, 3) := by decide +kernel
theorem d_Fo_findDensest_8 : decode prog_2_method_4_code 8 = .ok (.aload_n 0, 1) := by decide +kernel
theorem d_Fo_findDensest_9 : decode prog_2_method_4_code 9 = .ok (.iload_n 2, 1) := by decide +kernel
theorem d_Fo_findDensest_10 : decode prog_2_method_4_code 10 = .ok (.putfield 90, 3) := by decide +kernel
theorem d_Fo_findDensest_13 : decode prog_2_method_4_code 13 = .ok (.aload_n 0, 1) := by decide +kernel
theorem d_Fo_findDensest_14 : decode prog_2_method_4_code 14 = .ok (.getfield 25, 3) := by decide +kernel
theorem d_Fo_findDensest_17 : decode prog_2_method_4_code 17 = .ok (.lconst 0, 1) := by decide +kernel
theorem d_Fo_findDensest_18 : decode prog_2_method_4_code 18 = .ok (.invokevirtual 49, 3) := by decide +kernel
theorem d_Fo_findDensest_21 : decode prog_2_method_4_code 21 = .ok (.iconst 0, 1) := by decide +kernel
theorem d_Fo_findDensest_22 : decode prog_2_method_4_code 22 = .ok (.istore_n 3, 1) := by decide +kernel
theorem d_Fo_findDensest_23 : decode prog_2_method_4_code 23 = .ok (.iload_n 3, 1) := by decide +kernel
theorem d_Fo_findDensest_24 : decode prog_2_method_4_code 24 = .ok (.aload_n 1, 1) := by decide +kernel
theorem d_Fo_findDensest_25 : decode prog_2_method_4_code 25 = .ok (.getfield 53, 3) := by decide +kernel
theorem d_Fo_findDensest_28 : decode prog_2_method_4_code 28 = .ok (.if_icmp .ge 132, 3) := by decide +kernel
theorem d_Fo_findDensest_31 : decode prog_2_method_4_code 31 = .ok (.aload_n 1, 1) := by decide +kernel
theorem d_Fo_findDensest_32 : decode prog_2_method_4_code 32 = .ok (.getfield 125, 3) := by decide +kernel
theorem d_Fo_findDensest_35 : decode prog_2_method_4_code 35 = .ok (.iload_n 3, 1) := by decide +kernel
theorem d_Fo_findDensest_36 : decode prog_2_method_4_code 36 = .ok (.iaload, 1) := by decide +kernel
theorem d_Fo_findDensest_37 : decode prog_2_method_4_code 37 = .ok (.istore 4, 2) := by decide +kernel
theorem d_Fo_findDensest_39 : decode prog_2_method_4_code 39 = .ok (.aload_n 0, 1) := by decide +kernel
theorem d_Fo_findDensest_40 : decode prog_2_method_4_code 40 = .ok (.aload_n 1, 1) := by decide +kernel
theorem d_Fo_findDensest_41 : decode prog_2_method_4_code 41 = .ok (.iload 4, 2) := by decide +kernel
theorem d_Fo_findDensest_43 : decode prog_2_method_4_code 43 = .ok (.iload_n 2, 1) := by decide +kernel
theorem d_Fo_findDensest_44 : decode prog_2_method_4_code 44 = .ok (.invokevirtual 128, 3) := by decide +kernel
theorem d_Fo_findDensest_47 : decode prog_2_method_4_code 47 = .ok (.ifCond .ne 6, 3) := by decide +kernel
theorem d_Fo_findDensest_50 : decode prog_2_method_4_code 50 = .ok (.goto 104, 3) := by decide +kernel
theorem d_Fo_findDensest_53 : decode prog_2_method_4_code 53 = .ok (.aload_n 0, 1) := by decide +kernel
theorem d_Fo_findDensest_54 : decode prog_2_method_4_code 54 = .ok (.getfield 25, 3) := by decide +kernel
theorem d_Fo_findDensest_57 : decode prog_2_method_4_code 57 = .ok (.aload_n 0, 1) := by decide +kernel
theorem d_Fo_findDensest_58 : decode prog_2_method_4_code 58 = .ok (.getfield 11, 3) := by decide +kernel
theorem d_Fo_findDensest_61 : decode prog_2_method_4_code 61 = .ok (.iload 4, 2) := by decide +kernel
theorem d_Fo_findDensest_63 : decode prog_2_method_4_code 63 = .ok (.aaload, 1) := by decide +kernel
theorem d_Fo_findDensest_64 : decode prog_2_method_4_code 64 = .ok (.invokevirtual 132, 3) := by decide +kernel
theorem d_Fo_findDensest_67 : decode prog_2_method_4_code 67 = .ok (.aload_n 0, 1) := by decide +kernel
theorem d_Fo_findDensest_68 : decode prog_2_method_4_code 68 = .ok (.getfield 28, 3) := by decide +kernel
theorem d_Fo_findDensest_71 : decode prog_2_method_4_code 71 = .ok (.aload_n 0, 1) := by decide +kernel
theorem d_Fo_findDensest_72 : decode prog_2_method_4_code 72 = .ok (.getfield 25, 3) := by decide +kernel
theorem d_Fo_findDensest_75 : decode prog_2_method_4_code 75 = .ok (.invokevirtual 136, 3) := by decide +kernel
theorem d_Fo_findDensest_78 : decode prog_2_method_4_code 78 = .ok (.aload_n 0, 1) := by decide +kernel
theorem d_Fo_findDensest_79 : decode prog_2_method_4_code 79 = .ok (.getfield 28, 3) := by decide +kernel
theorem d_Fo_findDensest_82 : decode prog_2_method_4_code 82 = .ok (.aload_n 0, 1) := by decide +kernel
theorem d_Fo_findDensest_83 : decode prog_2_method_4_code 83 = .ok (.getfield 90, 3) := by decide +kernel
theorem d_Fo_findDensest_86 : decode prog_2_method_4_code 86 = .ok (.iload_n 2, 1) := by decide +kernel
theorem d_Fo_findDensest_87 : decode prog_2_method_4_code 87 = .ok (.isub, 1) := by decide +kernel
theorem d_Fo_findDensest_88 : decode prog_2_method_4_code 88 = .ok (.invokevirtual 139, 3) := by decide +kernel
theorem d_Fo_findDensest_91 : decode prog_2_method_4_code 91 = .ok (.aload_n 0, 1) := by decide +kernel
theorem d_Fo_findDensest_92 : decode prog_2_method_4_code 92 = .ok (.getfield 34, 3) := by decide +kernel
theorem d_Fo_findDensest_95 : decode prog_2_method_4_code 95 = .ok (.aload_n 0, 1) := by decide +kernel
theorem d_Fo_findDensest_96 : decode prog_2_method_4_code 96 = .ok (.getfield 22, 3) := by decide +kernel
theorem d_Fo_findDensest_99 : decode prog_2_method_4_code 99 = .ok (.invokevirtual 136, 3) := by decide +kernel
theorem d_Fo_findDensest_102 : decode prog_2_method_4_code 102 = .ok (.aload_n 0, 1) := by decide +kernel
theorem d_Fo_findDensest_103 : decode prog_2_method_4_code 103 = .ok (.getfield 34, 3) := by decide +kernel
theorem d_Fo_findDensest_106 : decode prog_2_method_4_code 106 = .ok (.aload_n 1, 1) := by decide +kernel
theorem d_Fo_findDensest_107 : decode prog_2_method_4_code 107 = .ok (.getfield 122, 3) := by decide +kernel
theorem d_Fo_findDensest_110 : decode prog_2_method_4_code 110 = .ok (.iload 4, 2) := by decide +kernel
theorem d_Fo_findDensest_112 : decode prog_2_method_4_code 112 = .ok (.iaload, 1) := by decide +kernel
theorem d_Fo_findDensest_113 : decode prog_2_method_4_code 113 = .ok (.iload_n 2, 1) := by decide +kernel
theorem d_Fo_findDensest_114 : decode prog_2_method_4_code 114 = .ok (.isub, 1) := by decide +kernel
theorem d_Fo_findDensest_115 : decode prog_2_method_4_code 115 = .ok (.invokevirtual 139, 3) := by decide +kernel
theorem d_Fo_findDensest_118 : decode prog_2_method_4_code 118 = .ok (.aload_n 0, 1) := by decide +kernel
theorem d_Fo_findDensest_119 : decode prog_2_method_4_code 119 = .ok (.getfield 28, 3) := by decide +kernel
theorem d_Fo_findDensest_122 : decode prog_2_method_4_code 122 = .ok (.aload_n 0, 1) := by decide +kernel
theorem d_Fo_findDensest_123 : decode prog_2_method_4_code 123 = .ok (.getfield 34, 3) := by decide +kernel
theorem d_Fo_findDensest_126 : decode prog_2_method_4_code 126 = .ok (.invokevirtual 142, 3) := by decide +kernel
theorem d_Fo_findDensest_129 : decode prog_2_method_4_code 129 = .ok (.ifCond .lt 25, 3) := by decide +kernel
theorem d_Fo_findDensest_132 : decode prog_2_method_4_code 132 = .ok (.aload_n 0, 1) := by decide +kernel
theorem d_Fo_findDensest_133 : decode prog_2_method_4_code 133 = .ok (.getfield 22, 3) := by decide +kernel
theorem d_Fo_findDensest_136 : decode prog_2_method_4_code 136 = .ok (.aload_n 0, 1) := by decide +kernel
theorem d_Fo_findDensest_137 : decode prog_2_method_4_code 137 = .ok (.getfield 25, 3) := by decide +kernel
theorem d_Fo_findDensest_140 : decode prog_2_method_4_code 140 = .ok (.invokevirtual 136, 3) := by decide +kernel
theorem d_Fo_findDensest_143 : decode prog_2_method_4_code 143 = .ok (.aload_n 0, 1) := by decide +kernel
theorem d_Fo_findDensest_144 : decode prog_2_method_4_code 144 = .ok (.aload_n 1, 1) := by decide +kernel
theorem d_Fo_findDensest_145 : decode prog_2_method_4_code 145 = .ok (.getfield 122, 3) := by decide +kernel
theorem d_Fo_findDensest_148 : decode prog_2_method_4_code 148 = .ok (.iload 4, 2) := by decide +kernel
theorem d_Fo_findDensest_150 : decode prog_2_method_4_code 150 = .ok (.iaload, 1) := by decide +kernel
theorem d_Fo_findDensest_151 : decode prog_2_method_4_code 151 = .ok (.putfield 90, 3) := by decide +kernel
theorem d_Fo_findDensest_154 : decode prog_2_method_4_code 154 = .ok (.iinc 3 1, 3) := by decide +kernel
theorem d_Fo_findDensest_157 : decode prog_2_method_4_code 157 = .ok (.goto (-134), 3) := by decide +kernel
theorem d_Fo_findDensest_160 : decode prog_2_method_4_code 160 = .ok (.return_, 1) := by decide +kernel
theorem d_Fo_setRate_0 : decode prog_2_method_5_code 0 = .ok (.aload_n 0, 1) := by decide +kernel
theorem d_Fo_setRate_1 : decode prog_2_method_5_code 1 = .ok (.getfield 40, 3) := by decide +kernel
theorem d_Fo_setRate_4 : decode prog_2_method_5_code 4 = .ok (.getfield 146, 3) := by decide +kernel
theorem d_Fo_setRate_7 : decode prog_2_method_5_code 7 = .ok (.aload_n 0, 1) := by decide +kernel
theorem d_Fo_setRate_8 : decode prog_2_method_5_code 8 = .ok (.getfield 22, 3) := by decide +kernel
theorem d_Fo_setRate_11 : decode prog_2_method_5_code 11 = .ok (.invokevirtual 136, 3) := by decide +kernel
theorem d_Fo_setRate_14 : decode prog_2_method_5_code 14 = .ok (.aload_n 0, 1) := by decide +kernel
theorem d_Fo_setRate_15 : decode prog_2_method_5_code 15 = .ok (.getfield 40, 3) := by decide +kernel
theorem d_Fo_setRate_18 : decode prog_2_method_5_code 18 = .ok (.getfield 149, 3) := by decide +kernel
theorem d_Fo_setRate_21 : decode prog_2_method_5_code 21 = .ok (.lconst 1, 1) := by decide +kernel
theorem d_Fo_setRate_22 : decode prog_2_method_5_code 22 = .ok (.invokevirtual 49, 3) := by decide +kernel
theorem d_Fo_setRate_25 : decode prog_2_method_5_code 25 = .ok (.iload_n 1, 1) := by decide +kernel
theorem d_Fo_setRate_26 : decode prog_2_method_5_code 26 = .ok (.ifCond .le 28, 3) := by decide +kernel
theorem d_Fo_setRate_29 : decode prog_2_method_5_code 29 = .ok (.aload_n 0, 1) := by decide +kernel
theorem d_Fo_setRate_30 : decode prog_2_method_5_code 30 = .ok (.getfield 40, 3) := by decide +kernel
theorem d_Fo_setRate_33 : decode prog_2_method_5_code 33 = .ok (.getfield 149, 3) := by decide +kernel
theorem d_Fo_setRate_36 : decode prog_2_method_5_code 36 = .ok (.aload_n 0, 1) := by decide +kernel
theorem d_Fo_setRate_37 : decode prog_2_method_5_code 37 = .ok (.getfield 18, 3) := by decide +kernel
theorem d_Fo_setRate_40 : decode prog_2_method_5_code 40 = .ok (.invokevirtual 136, 3) := by decide +kernel
theorem d_Fo_setRate_43 : decode prog_2_method_5_code 43 = .ok (.aload_n 0, 1) := by decide +kernel
theorem d_Fo_setRate_44 : decode prog_2_method_5_code 44 = .ok (.getfield 40, 3) := by decide +kernel
theorem d_Fo_setRate_47 : decode prog_2_method_5_code 47 = .ok (.getfield 149, 3) := by decide +kernel
theorem d_Fo_setRate_50 : decode prog_2_method_5_code 50 = .ok (.iload_n 1, 1) := by decide +kernel
theorem d_Fo_setRate_51 : decode prog_2_method_5_code 51 = .ok (.invokevirtual 139, 3) := by decide +kernel
theorem d_Fo_setRate_54 : decode prog_2_method_5_code 54 = .ok (.return_, 1) := by decide +kernel
theorem d_Fo_workOff_0 : decode prog_2_method_6_code 0 = .ok (.aload_n 0, 1) := by decide +kernel
theorem d_Fo_workOff_1 : decode prog_2_method_6_code 1 = .ok (.getfield 90, 3) := by decide +kernel
theorem d_Fo_workOff_4 : decode prog_2_method_6_code 4 = .ok (.iload_n 3, 1) := by decide +kernel
theorem d_Fo_workOff_5 : decode prog_2_method_6_code 5 = .ok (.isub, 1) := by decide +kernel
theorem d_Fo_workOff_6 : decode prog_2_method_6_code 6 = .ok (.istore 5, 2) := by decide +kernel
theorem d_Fo_workOff_8 : decode prog_2_method_6_code 8 = .ok (.iconst (-1), 1) := by decide +kernel
theorem d_Fo_workOff_9 : decode prog_2_method_6_code 9 = .ok (.istore 6, 2) := by decide +kernel
theorem d_Fo_workOff_11 : decode prog_2_method_6_code 11 = .ok (.iload_n 3, 1) := by decide +kernel
theorem d_Fo_workOff_12 : decode prog_2_method_6_code 12 = .ok (.istore 7, 2) := by decide +kernel
theorem d_Fo_workOff_14 : decode prog_2_method_6_code 14 = .ok (.aload_n 0, 1) := by decide +kernel
theorem d_Fo_workOff_15 : decode prog_2_method_6_code 15 = .ok (.getfield 31, 3) := by decide +kernel
theorem d_Fo_workOff_18 : decode prog_2_method_6_code 18 = .ok (.aload_n 0, 1) := by decide +kernel
theorem d_Fo_workOff_19 : decode prog_2_method_6_code 19 = .ok (.getfield 22, 3) := by decide +kernel
theorem d_Fo_workOff_22 : decode prog_2_method_6_code 22 = .ok (.invokevirtual 136, 3) := by decide +kernel
theorem d_Fo_workOff_25 : decode prog_2_method_6_code 25 = .ok (.aload_n 0, 1) := by decide +kernel
theorem d_Fo_workOff_26 : decode prog_2_method_6_code 26 = .ok (.getfield 31, 3) := by decide +kernel
theorem d_Fo_workOff_29 : decode prog_2_method_6_code 29 = .ok (.iload 4, 2) := by decide +kernel
theorem d_Fo_workOff_31 : decode prog_2_method_6_code 31 = .ok (.iload_n 3, 1) := by decide +kernel
theorem d_Fo_workOff_32 : decode prog_2_method_6_code 32 = .ok (.isub, 1) := by decide +kernel
theorem d_Fo_workOff_33 : decode prog_2_method_6_code 33 = .ok (.invokevirtual 139, 3) := by decide +kernel
theorem d_Fo_workOff_36 : decode prog_2_method_6_code 36 = .ok (.aload_n 0, 1) := by decide +kernel
theorem d_Fo_workOff_37 : decode prog_2_method_6_code 37 = .ok (.getfield 25, 3) := by decide +kernel
theorem d_Fo_workOff_40 : decode prog_2_method_6_code 40 = .ok (.lconst 0, 1) := by decide +kernel
theorem d_Fo_workOff_41 : decode prog_2_method_6_code 41 = .ok (.invokevirtual 49, 3) := by decide +kernel
theorem d_Fo_workOff_44 : decode prog_2_method_6_code 44 = .ok (.aload_n 0, 1) := by decide +kernel
theorem d_Fo_workOff_45 : decode prog_2_method_6_code 45 = .ok (.getfield 28, 3) := by decide +kernel
theorem d_Fo_workOff_48 : decode prog_2_method_6_code 48 = .ok (.lconst 0, 1) := by decide +kernel
theorem d_Fo_workOff_49 : decode prog_2_method_6_code 49 = .ok (.invokevirtual 49, 3) := by decide +kernel
theorem d_Fo_workOff_52 : decode prog_2_method_6_code 52 = .ok (.iconst 0, 1) := by decide +kernel
theorem d_Fo_workOff_53 : decode prog_2_method_6_code 53 = .ok (.istore 8, 2) := by decide +kernel
theorem d_Fo_workOff_55 : decode prog_2_method_6_code 55 = .ok (.iload 8, 2) := by decide +kernel
theorem d_Fo_workOff_57 : decode prog_2_method_6_code 57 = .ok (.aload_n 1, 1) := by decide +kernel
theorem d_Fo_workOff_58 : decode prog_2_method_6_code 58 = .ok (.getfield 53, 3) := by decide +kernel
theorem d_Fo_workOff_61 : decode prog_2_method_6_code 61 = .ok (.if_icmp .ge 200, 3) := by decide +kernel
theorem d_Fo_workOff_64 : decode prog_2_method_6_code 64 = .ok (.aload_n 0, 1) := by decide +kernel
theorem d_Fo_workOff_65 : decode prog_2_method_6_code 65 = .ok (.getfield 25, 3) := by decide +kernel
theorem d_Fo_workOff_68 : decode prog_2_method_6_code 68 = .ok (.aload_n 0, 1) := by decide +kernel
theorem d_Fo_workOff_69 : decode prog_2_method_6_code 69 = .ok (.getfield 31, 3) := by decide +kernel
theorem d_Fo_workOff_72 : decode prog_2_method_6_code 72 = .ok (.invokevirtual 142, 3) := by decide +kernel
theorem d_Fo_workOff_75 : decode prog_2_method_6_code 75 = .ok (.ifCond .ge 186, 3) := by decide +kernel
theorem d_Fo_workOff_78 : decode prog_2_method_6_code 78 = .ok (.aload_n 1, 1) := by decide +kernel
theorem d_Fo_workOff_79 : decode prog_2_method_6_code 79 = .ok (.getfield 125, 3) := by decide +kernel
theorem d_Fo_workOff_82 : decode prog_2_method_6_code 82 = .ok (.iload 8, 2) := by decide +kernel
theorem d_Fo_workOff_84 : decode prog_2_method_6_code 84 = .ok (.iaload, 1) := by decide +kernel
theorem d_Fo_workOff_85 : decode prog_2_method_6_code 85 = .ok (.istore 9, 2) := by decide +kernel
theorem d_Fo_workOff_87 : decode prog_2_method_6_code 87 = .ok (.aload_n 0, 1) := by decide +kernel
theorem d_Fo_workOff_88 : decode prog_2_method_6_code 88 = .ok (.aload_n 1, 1) := by decide +kernel
theorem d_Fo_workOff_89 : decode prog_2_method_6_code 89 = .ok (.iload 9, 2) := by decide +kernel
theorem d_Fo_workOff_91 : decode prog_2_method_6_code 91 = .ok (.iload_n 3, 1) := by decide +kernel
theorem d_Fo_workOff_92 : decode prog_2_method_6_code 92 = .ok (.invokevirtual 128, 3) := by decide +kernel
theorem d_Fo_workOff_95 : decode prog_2_method_6_code 95 = .ok (.ifCond .ne 6, 3) := by decide +kernel
theorem d_Fo_workOff_98 : decode prog_2_method_6_code 98 = .ok (.goto 157, 3) := by decide +kernel
theorem d_Fo_workOff_101 : decode prog_2_method_6_code 101 = .ok (.aload_n 0, 1) := by decide +kernel
theorem d_Fo_workOff_102 : decode prog_2_method_6_code 102 = .ok (.getfield 11, 3) := by decide +kernel
theorem d_Fo_workOff_105 : decode prog_2_method_6_code 105 = .ok (.iload 9, 2) := by decide +kernel
theorem d_Fo_workOff_107 : decode prog_2_method_6_code 107 = .ok (.aaload, 1) := by decide +kernel
theorem d_Fo_workOff_108 : decode prog_2_method_6_code 108 = .ok (.iload 5, 2) := by decide +kernel
theorem d_Fo_workOff_110 : decode prog_2_method_6_code 110 = .ok (.invokevirtual 139, 3) := by decide +kernel
theorem d_Fo_workOff_113 : decode prog_2_method_6_code 113 = .ok (.aload_n 0, 1) := by decide +kernel
theorem d_Fo_workOff_114 : decode prog_2_method_6_code 114 = .ok (.getfield 25, 3) := by decide +kernel
theorem d_Fo_workOff_117 : decode prog_2_method_6_code 117 = .ok (.aload_n 0, 1) := by decide +kernel
theorem d_Fo_workOff_118 : decode prog_2_method_6_code 118 = .ok (.getfield 11, 3) := by decide +kernel
theorem d_Fo_workOff_121 : decode prog_2_method_6_code 121 = .ok (.iload 9, 2) := by decide +kernel
theorem d_Fo_workOff_123 : decode prog_2_method_6_code 123 = .ok (.aaload, 1) := by decide +kernel
theorem d_Fo_workOff_124 : decode prog_2_method_6_code 124 = .ok (.invokevirtual 132, 3) := by decide +kernel
theorem d_Fo_workOff_127 : decode prog_2_method_6_code 127 = .ok (.iload 7, 2) := by decide +kernel
theorem d_Fo_workOff_129 : decode prog_2_method_6_code 129 = .ok (.ifCond .lt 58, 3) := by decide +kernel
theorem d_Fo_workOff_132 : decode prog_2_method_6_code 132 = .ok (.iload 7, 2) := by decide +kernel
theorem d_Fo_workOff_134 : decode prog_2_method_6_code 134 = .ok (.iload 4, 2) := by decide +kernel
theorem d_Fo_workOff_136 : decode prog_2_method_6_code 136 = .ok (.if_icmp .ge 51, 3) := by decide +kernel
theorem d_Fo_workOff_139 : decode prog_2_method_6_code 139 = .ok (.iload 7, 2) := by decide +kernel
theorem d_Fo_workOff_141 : decode prog_2_method_6_code 141 = .ok (.sipush 200, 3) := by decide +kernel
theorem d_Fo_workOff_144 : decode prog_2_method_6_code 144 = .ok (.if_icmp .ge 43, 3) := by decide +kernel
theorem d_Fo_workOff_147 : decode prog_2_method_6_code 147 = .ok (.aload_n 0, 1) := by decide +kernel
theorem d_Fo_workOff_148 : decode prog_2_method_6_code 148 = .ok (.getfield 28, 3) := by decide +kernel
theorem d_Fo_workOff_151 : decode prog_2_method_6_code 151 = .ok (.aload_n 0, 1) := by decide +kernel
theorem d_Fo_workOff_152 : decode prog_2_method_6_code 152 = .ok (.getfield 25, 3) := by decide +kernel
theorem d_Fo_workOff_155 : decode prog_2_method_6_code 155 = .ok (.invokevirtual 142, 3) := by decide +kernel
theorem d_Fo_workOff_158 : decode prog_2_method_6_code 158 = .ok (.ifCond .ge 29, 3) := by decide +kernel
theorem d_Fo_workOff_161 : decode prog_2_method_6_code 161 = .ok (.aload_n 2, 1) := by decide +kernel
theorem d_Fo_workOff_162 : decode prog_2_method_6_code 162 = .ok (.getfield 152, 3) := by decide +kernel
theorem d_Fo_workOff_165 : decode prog_2_method_6_code 165 = .ok (.iload 7, 2) := by decide +kernel
theorem d_Fo_workOff_167 : decode prog_2_method_6_code 167 = .ok (.iload 9, 2) := by decide +kernel
theorem d_Fo_workOff_169 : decode prog_2_method_6_code 169 = .ok (.iastore, 1) := by decide +kernel
theorem d_Fo_workOff_170 : decode prog_2_method_6_code 170 = .ok (.aload_n 0, 1) := by decide +kernel
theorem d_Fo_workOff_171 : decode prog_2_method_6_code 171 = .ok (.getfield 28, 3) := by decide +kernel
theorem d_Fo_workOff_174 : decode prog_2_method_6_code 174 = .ok (.aload_n 0, 1) := by decide +kernel
theorem d_Fo_workOff_175 : decode prog_2_method_6_code 175 = .ok (.getfield 22, 3) := by decide +kernel
theorem d_Fo_workOff_178 : decode prog_2_method_6_code 178 = .ok (.invokevirtual 132, 3) := by decide +kernel
theorem d_Fo_workOff_181 : decode prog_2_method_6_code 181 = .ok (.iinc 7 1, 3) := by decide +kernel
theorem d_Fo_workOff_184 : decode prog_2_method_6_code 184 = .ok (.goto (-57), 3) := by decide +kernel
theorem d_Fo_workOff_187 : decode prog_2_method_6_code 187 = .ok (.aload_n 0, 1) := by decide +kernel
theorem d_Fo_workOff_188 : decode prog_2_method_6_code 188 = .ok (.getfield 25, 3) := by decide +kernel
theorem d_Fo_workOff_191 : decode prog_2_method_6_code 191 = .ok (.aload_n 0, 1) := by decide +kernel
theorem d_Fo_workOff_192 : decode prog_2_method_6_code 192 = .ok (.getfield 31, 3) := by decide +kernel
theorem d_Fo_workOff_195 : decode prog_2_method_6_code 195 = .ok (.invokevirtual 142, 3) := by decide +kernel
theorem d_Fo_workOff_198 : decode prog_2_method_6_code 198 = .ok (.ifCond .le 38, 3) := by decide +kernel
theorem d_Fo_workOff_201 : decode prog_2_method_6_code 201 = .ok (.aload_n 0, 1) := by decide +kernel
theorem d_Fo_workOff_202 : decode prog_2_method_6_code 202 = .ok (.getfield 11, 3) := by decide +kernel
theorem d_Fo_workOff_205 : decode prog_2_method_6_code 205 = .ok (.iload 9, 2) := by decide +kernel
theorem d_Fo_workOff_207 : decode prog_2_method_6_code 207 = .ok (.aaload, 1) := by decide +kernel
theorem d_Fo_workOff_208 : decode prog_2_method_6_code 208 = .ok (.aload_n 0, 1) := by decide +kernel
theorem d_Fo_workOff_209 : decode prog_2_method_6_code 209 = .ok (.getfield 25, 3) := by decide +kernel
theorem d_Fo_workOff_212 : decode prog_2_method_6_code 212 = .ok (.invokevirtual 136, 3) := by decide +kernel
theorem d_Fo_workOff_215 : decode prog_2_method_6_code 215 = .ok (.aload_n 0, 1) := by decide +kernel
theorem d_Fo_workOff_216 : decode prog_2_method_6_code 216 = .ok (.getfield 11, 3) := by decide +kernel
theorem d_Fo_workOff_219 : decode prog_2_method_6_code 219 = .ok (.iload 9, 2) := by decide +kernel
theorem d_Fo_workOff_221 : decode prog_2_method_6_code 221 = .ok (.aaload, 1) := by decide +kernel
theorem d_Fo_workOff_222 : decode prog_2_method_6_code 222 = .ok (.aload_n 0, 1) := by decide +kernel
theorem d_Fo_workOff_223 : decode prog_2_method_6_code 223 = .ok (.getfield 31, 3) := by decide +kernel
theorem d_Fo_workOff_226 : decode prog_2_method_6_code 226 = .ok (.invokevirtual 155, 3) := by decide +kernel
theorem d_Fo_workOff_229 : decode prog_2_method_6_code 229 = .ok (.iload 9, 2) := by decide +kernel
theorem d_Fo_workOff_231 : decode prog_2_method_6_code 231 = .ok (.istore 6, 2) := by decide +kernel
theorem d_Fo_workOff_233 : decode prog_2_method_6_code 233 = .ok (.goto 22, 3) := by decide +kernel
theorem d_Fo_workOff_236 : decode prog_2_method_6_code 236 = .ok (.aload_n 0, 1) := by decide +kernel
theorem d_Fo_workOff_237 : decode prog_2_method_6_code 237 = .ok (.getfield 11, 3) := by decide +kernel
theorem d_Fo_workOff_240 : decode prog_2_method_6_code 240 = .ok (.iload 9, 2) := by decide +kernel
theorem d_Fo_workOff_242 : decode prog_2_method_6_code 242 = .ok (.aaload, 1) := by decide +kernel
theorem d_Fo_workOff_243 : decode prog_2_method_6_code 243 = .ok (.lconst 0, 1) := by decide +kernel
theorem d_Fo_workOff_244 : decode prog_2_method_6_code 244 = .ok (.invokevirtual 49, 3) := by decide +kernel
theorem d_Fo_workOff_247 : decode prog_2_method_6_code 247 = .ok (.aload_n 0, 1) := by decide +kernel
theorem d_Fo_workOff_248 : decode prog_2_method_6_code 248 = .ok (.aload_n 2, 1) := by decide +kernel
theorem d_Fo_workOff_249 : decode prog_2_method_6_code 249 = .ok (.iload 9, 2) := by decide +kernel
theorem d_Fo_workOff_251 : decode prog_2_method_6_code 251 = .ok (.iload_n 3, 1) := by decide +kernel
theorem d_Fo_workOff_252 : decode prog_2_method_6_code 252 = .ok (.invokevirtual 158, 3) := by decide +kernel
theorem d_Fo_workOff_255 : decode prog_2_method_6_code 255 = .ok (.iinc 8 1, 3) := by decide +kernel
theorem d_Fo_workOff_258 : decode prog_2_method_6_code 258 = .ok (.goto (-203), 3) := by decide +kernel
theorem d_Fo_workOff_261 : decode prog_2_method_6_code 261 = .ok (.iload 6, 2) := by decide +kernel
theorem d_Fo_workOff_263 : decode prog_2_method_6_code 263 = .ok (.iconst (-1), 1) := by decide +kernel
theorem d_Fo_workOff_264 : decode prog_2_method_6_code 264 = .ok (.if_icmp .eq 12, 3) := by decide +kernel
theorem d_Fo_workOff_267 : decode prog_2_method_6_code 267 = .ok (.aload_n 0, 1) := by decide +kernel
theorem d_Fo_workOff_268 : decode prog_2_method_6_code 268 = .ok (.aload_n 1, 1) := by decide +kernel
theorem d_Fo_workOff_269 : decode prog_2_method_6_code 269 = .ok (.iload 6, 2) := by decide +kernel
theorem d_Fo_workOff_271 : decode prog_2_method_6_code 271 = .ok (.iload 5, 2) := by decide +kernel
theorem d_Fo_workOff_273 : decode prog_2_method_6_code 273 = .ok (.invokevirtual 162, 3) := by decide +kernel
theorem d_Fo_workOff_276 : decode prog_2_method_6_code 276 = .ok (.return_, 1) := by decide +kernel
theorem d_Fo_setEnd_0 : decode prog_2_method_7_code 0 = .ok (.iload_n 2, 1) := by decide +kernel
theorem d_Fo_setEnd_1 : decode prog_2_method_7_code 1 = .ok (.ifCond .lt 19, 3) := by decide +kernel
theorem d_Fo_setEnd_4 : decode prog_2_method_7_code 4 = .ok (.iload_n 2, 1) := by decide +kernel
theorem d_Fo_setEnd_5 : decode prog_2_method_7_code 5 = .ok (.bipush 12, 2) := by decide +kernel
theorem d_Fo_setEnd_7 : decode prog_2_method_7_code 7 = .ok (.if_icmp .ge 13, 3) := by decide +kernel
theorem d_Fo_setEnd_10 : decode prog_2_method_7_code 10 = .ok (.aload_n 0, 1) := by decide +kernel
theorem d_Fo_setEnd_11 : decode prog_2_method_7_code 11 = .ok (.getfield 22, 3) := by decide +kernel
theorem d_Fo_setEnd_14 : decode prog_2_method_7_code 14 = .ok (.invokevirtual 86, 3) := by decide +kernel
theorem d_Fo_setEnd_17 : decode prog_2_method_7_code 17 = .ok (.ifCond .eq 4, 3) := by decide +kernel
theorem d_Fo_setEnd_20 : decode prog_2_method_7_code 20 = .ok (.return_, 1) := by decide +kernel
theorem d_Fo_setEnd_21 : decode prog_2_method_7_code 21 = .ok (.aload_n 1, 1) := by decide +kernel
theorem d_Fo_setEnd_22 : decode prog_2_method_7_code 22 = .ok (.getfield 111, 3) := by decide +kernel
theorem d_Fo_setEnd_25 : decode prog_2_method_7_code 25 = .ok (.iload_n 2, 1) := by decide +kernel
theorem d_Fo_setEnd_26 : decode prog_2_method_7_code 26 = .ok (.aaload, 1) := by decide +kernel
theorem d_Fo_setEnd_27 : decode prog_2_method_7_code 27 = .ok (.astore 4, 2) := by decide +kernel
theorem d_Fo_setEnd_29 : decode prog_2_method_7_code 29 = .ok (.aload 4, 2) := by decide +kernel
theorem d_Fo_setEnd_31 : decode prog_2_method_7_code 31 = .ok (.getfield 149, 3) := by decide +kernel
theorem d_Fo_setEnd_34 : decode prog_2_method_7_code 34 = .ok (.aload_n 0, 1) := by decide +kernel
theorem d_Fo_setEnd_35 : decode prog_2_method_7_code 35 = .ok (.getfield 22, 3) := by decide +kernel
theorem d_Fo_setEnd_38 : decode prog_2_method_7_code 38 = .ok (.invokevirtual 136, 3) := by decide +kernel
theorem d_Fo_setEnd_41 : decode prog_2_method_7_code 41 = .ok (.aload 4, 2) := by decide +kernel
theorem d_Fo_setEnd_43 : decode prog_2_method_7_code 43 = .ok (.getfield 146, 3) := by decide +kernel
theorem d_Fo_setEnd_46 : decode prog_2_method_7_code 46 = .ok (.aload_n 0, 1) := by decide +kernel
theorem d_Fo_setEnd_47 : decode prog_2_method_7_code 47 = .ok (.getfield 22, 3) := by decide +kernel
theorem d_Fo_setEnd_50 : decode prog_2_method_7_code 50 = .ok (.invokevirtual 136, 3) := by decide +kernel
theorem d_Fo_setEnd_53 : decode prog_2_method_7_code 53 = .ok (.aload 4, 2) := by decide +kernel
theorem d_Fo_setEnd_55 : decode prog_2_method_7_code 55 = .ok (.getfield 146, 3) := by decide +kernel
theorem d_Fo_setEnd_58 : decode prog_2_method_7_code 58 = .ok (.iload_n 3, 1) := by decide +kernel
theorem d_Fo_setEnd_59 : decode prog_2_method_7_code 59 = .ok (.invokevirtual 139, 3) := by decide +kernel
theorem d_Fo_setEnd_62 : decode prog_2_method_7_code 62 = .ok (.aload 4, 2) := by decide +kernel
theorem d_Fo_setEnd_64 : decode prog_2_method_7_code 64 = .ok (.getfield 146, 3) := by decide +kernel
theorem d_Fo_setEnd_67 : decode prog_2_method_7_code 67 = .ok (.aload_n 0, 1) := by decide +kernel
theorem d_Fo_setEnd_68 : decode prog_2_method_7_code 68 = .ok (.getfield 25, 3) := by decide +kernel
theorem d_Fo_setEnd_71 : decode prog_2_method_7_code 71 = .ok (.invokevirtual 132, 3) := by decide +kernel
theorem d_Fo_setEnd_74 : decode prog_2_method_7_code 74 = .ok (.return_, 1) := by decide +kernel
theorem d_Fo_rescale_0 : decode prog_2_method_8_code 0 = .ok (.aload_n 0, 1) := by decide +kernel
theorem d_Fo_rescale_1 : decode prog_2_method_8_code 1 = .ok (.getfield 18, 3) := by decide +kernel
theorem d_Fo_rescale_4 : decode prog_2_method_8_code 4 = .ok (.iload_n 3, 1) := by decide +kernel
theorem d_Fo_rescale_5 : decode prog_2_method_8_code 5 = .ok (.invokevirtual 139, 3) := by decide +kernel
theorem d_Fo_rescale_8 : decode prog_2_method_8_code 8 = .ok (.iconst 0, 1) := by decide +kernel
theorem d_Fo_rescale_9 : decode prog_2_method_8_code 9 = .ok (.istore 4, 2) := by decide +kernel
theorem d_Fo_rescale_11 : decode prog_2_method_8_code 11 = .ok (.iload 4, 2) := by decide +kernel
theorem d_Fo_rescale_13 : decode prog_2_method_8_code 13 = .ok (.aload_n 1, 1) := by decide +kernel
theorem d_Fo_rescale_14 : decode prog_2_method_8_code 14 = .ok (.getfield 53, 3) := by decide +kernel
theorem d_Fo_rescale_17 : decode prog_2_method_8_code 17 = .ok (.if_icmp .ge 26, 3) := by decide +kernel
theorem d_Fo_rescale_20 : decode prog_2_method_8_code 20 = .ok (.iload 4, 2) := by decide +kernel
theorem d_Fo_rescale_22 : decode prog_2_method_8_code 22 = .ok (.iload_n 2, 1) := by decide +kernel
theorem d_Fo_rescale_23 : decode prog_2_method_8_code 23 = .ok (.if_icmp .eq 14, 3) := by decide +kernel
theorem d_Fo_rescale_26 : decode prog_2_method_8_code 26 = .ok (.aload_n 0, 1) := by decide +kernel
theorem d_Fo_rescale_27 : decode prog_2_method_8_code 27 = .ok (.getfield 11, 3) := by decide +kernel
theorem d_Fo_rescale_30 : decode prog_2_method_8_code 30 = .ok (.iload 4, 2) := by decide +kernel
theorem d_Fo_rescale_32 : decode prog_2_method_8_code 32 = .ok (.aaload, 1) := by decide +kernel
theorem d_Fo_rescale_33 : decode prog_2_method_8_code 33 = .ok (.iload_n 3, 1) := by decide +kernel
theorem d_Fo_rescale_34 : decode prog_2_method_8_code 34 = .ok (.invokevirtual 139, 3) := by decide +kernel
theorem d_Fo_rescale_37 : decode prog_2_method_8_code 37 = .ok (.iinc 4 1, 3) := by decide +kernel
theorem d_Fo_rescale_40 : decode prog_2_method_8_code 40 = .ok (.goto (-29), 3) := by decide +kernel
theorem d_Fo_rescale_43 : decode prog_2_method_8_code 43 = .ok (.return_, 1) := by decide +kernel
section SEG
variable {g : GG} {Q : Option VV → EE → DD → Prop} {D : DD}
theorem s_Fo_workOut_0 {a2 : Nat} (k_a2 : zk a2 = (0, 5, 0)) (h : CV g M_Pr_empty [vR a2] D (fun D' => Sg g M_Fo_workOut Q 4 [vR 530, vR 1, vR a2, vR 391, vU, vU, vU, vU] [] D')) : Sg g M_Fo_workOut Q 0 [vR 530, vR 1, vR a2, vR 391, vU, vU, vU, vU] [] D := by
  unfold Sg
  refine q_aload_n d_Fo_workOut_0 rfl ?_
  refine p_callV (as := []) (st := []) (a := a2) mc_Pr_empty mv_Pr_empty l_Fo_44 zc_Pr rfl d_Fo_workOut_1 rfl rfl rfl k_a2 (CV.to ?_)
  exact h
theorem s_Fo_workOut_4 {a2 : Nat} {z4 : VV} {z5 : VV} {z6 : VV} {z7 : VV} (k_a2 : zk a2 = (0, 5, 0)) (h : CV g M_Na_setSmall [vR 532, vL 1] D (fun D' => Sg g M_Fo_workOut Q 12 [vR 530, vR 1, vR a2, vR 391, vU, vU, vU, vU] [] D')) : Sg g M_Fo_workOut Q 4 [vR 530, vR 1, vR a2, vR 391, z4, z5, z6, z7] [] D := by
  unfold Sg
  refine q_mask [false, false, false, false, true, true, true, true] (L' := [vR 530, vR 1, vR a2, vR 391, vU, vU, vU, vU]) rfl ?_
  refine q_aload_n d_Fo_workOut_4 rfl ?_
  refine p_getR (k := 1) (b := 532) zc_Fo l_Fo_18 fr_Fo_scale d_Fo_workOut_5 zk_530 rfl ?_
  refine q_lconst (x := 1) d_Fo_workOut_8 ⟨rfl, by decide⟩ ?_
  refine p_callV (as := [vL 1]) (st := []) (a := 532) mc_Na_setSmall mv_Na_setSmall l_Fo_49 zc_Na rfl d_Fo_workOut_9 rfl rfl rfl zk_532 (CV.to ?_)
  exact h
theorem s_Fo_workOut_12 {a2 : Nat} {z4 : VV} {z5 : VV} {z6 : VV} {z7 : VV} (k_a2 : zk a2 = (0, 5, 0)) (h : Sg g M_Fo_workOut Q 15 [vR 530, vR 1, vR a2, vR 391, vI 0, vU, vU, vU] [] D) : Sg g M_Fo_workOut Q 12 [vR 530, vR 1, vR a2, vR 391, z4, z5, z6, z7] [] D := by
  unfold Sg
  refine q_mask [false, false, false, false, true, true, true, true] (L' := [vR 530, vR 1, vR a2, vR 391, vU, vU, vU, vU]) rfl ?_
  refine q_iconst d_Fo_workOut_12 (by decide) ?_
  refine q_istore d_Fo_workOut_13 (by decide) (L' := [vR 530, vR 1, vR a2, vR 391, vI 0, vU, vU, vU]) rfl ?_
  exact h
theorem s_Fo_workOut_15 {a2 : Nat} {x4 : Int} {z5 : VV} {z6 : VV} {z7 : VV} (k_a2 : zk a2 = (0, 5, 0)) (h : (((D 1 0) ≤ x4 → CI g M_Jo_lastDeadline [vR 1] D (fun v2 D' => Sg g M_Fo_workOut Q 52 [vR 530, vR 1, vR a2, vR 391, vI x4, vU, vU, vU] [vI v2] D')) ∧ (¬ (D 1 0) ≤ x4 → ((0 ≤ x4 ∧ x4 < 12) ∧ (0 ≤ x4 ∧ x4 < 12)) ∧ CV g M_Na_setSmall [vR (549 + 2 * x4.toNat), vL (D 4 x4)] D (fun D' => Sg g M_Fo_workOut Q 42 [vR 530, vR 1, vR a2, vR 391, vI x4, vU, vU, vU] [] D')))) : Sg g M_Fo_workOut Q 15 [vR 530, vR 1, vR a2, vR 391, vI x4, z5, z6, z7] [] D := by
  unfold Sg
  refine q_mask [false, false, false, false, false, true, true, true] (L' := [vR 530, vR 1, vR a2, vR 391, vI x4, vU, vU, vU]) rfl ?_
  refine q_iload d_Fo_workOut_15 rfl ?_
  refine q_aload_n d_Fo_workOut_17 rfl ?_
  refine p_getIN (k := 0) zc_Jo l_Fo_53 fi_Jo_count d_Fo_workOut_18 zk_1 ?_
  refine q_icmp_ge (tgt := 48) d_Fo_workOut_21 (by decide) (fun c1 => ?_) (fun c1 => ?_)
  · have h := h.1 (c1)
    refine q_aload_n d_Fo_workOut_48 rfl ?_
    refine p_callV (as := []) (st := []) (a := 1) mc_Jo_lastDeadline mv_Jo_lastDeadline l_Fo_63 zc_Jo rfl d_Fo_workOut_49 rfl rfl rfl zk_1 (CI.to ?_)
    exact h
  · have h := h.2 (c1)
    obtain ⟨⟨o3, o4⟩, h⟩ := h
    refine q_aload_n d_Fo_workOut_24 rfl ?_
    refine p_getR (k := 0) (b := 531) zc_Fo l_Fo_11 fr_Fo_left d_Fo_workOut_25 zk_530 rfl ?_
    refine q_iload d_Fo_workOut_28 rfl ?_
    refine p_aald (b := (549 + 2 * x4.toNat)) d_Fo_workOut_30 zk_531 (by decide) o3 rfl ?_
    refine q_aload_n d_Fo_workOut_31 rfl ?_
    refine p_getRN (k := 3) (b := 4) zc_Jo l_Fo_59 fr_Jo_work d_Fo_workOut_32 zk_1 rfl ?_
    refine q_iload d_Fo_workOut_35 rfl ?_
    refine p_iald d_Fo_workOut_37 zk_4 o4 ?_
    refine q_i2l d_Fo_workOut_38 ?_
    refine p_callV (as := [vL (D 4 x4)]) (st := []) (a := (549 + 2 * x4.toNat)) mc_Na_setSmall mv_Na_setSmall l_Fo_49 zc_Na rfl d_Fo_workOut_39 rfl rfl rfl (ze_4 (i := x4.toNat) zk_531 (by omega)) (CV.to ?_)
    exact h
theorem s_Fo_workOut_52 {a2 : Nat} {z4 : VV} {z5 : VV} {z6 : VV} {z7 : VV} {y0 : Int} (k_a2 : zk a2 = (0, 5, 0)) (h : CI g M_Jo_firstRelease [vR 1] D (fun v1 D' => Sg g M_Fo_workOut Q 64 [vR 530, vR 1, vR a2, vR 391, vI (min y0 200), vU, vU, vU] [vI v1] D')) : Sg g M_Fo_workOut Q 52 [vR 530, vR 1, vR a2, vR 391, z4, z5, z6, z7] [vI y0] D := by
  unfold Sg
  refine q_mask [false, false, false, false, true, true, true, true] (L' := [vR 530, vR 1, vR a2, vR 391, vU, vU, vU, vU]) rfl ?_
  refine q_sipush d_Fo_workOut_52 ks_200 ?_
  refine p_min l_Fo_67 d_Fo_workOut_55 rfl ?_
  refine q_istore d_Fo_workOut_58 (by decide) (L' := [vR 530, vR 1, vR a2, vR 391, vI (min y0 200), vU, vU, vU]) rfl ?_
  refine q_aload_n d_Fo_workOut_60 rfl ?_
  refine p_callV (as := []) (st := []) (a := 1) mc_Jo_firstRelease mv_Jo_firstRelease l_Fo_73 zc_Jo rfl d_Fo_workOut_61 rfl rfl rfl zk_1 (CI.to ?_)
  exact h
theorem s_Fo_workOut_42 {a2 : Nat} {x4 : Int} {z5 : VV} {z6 : VV} {z7 : VV} (k_a2 : zk a2 = (0, 5, 0)) (h : (R32 (x4 + 1)) ∧ Sg g M_Fo_workOut Q 15 [vR 530, vR 1, vR a2, vR 391, vI (x4 + 1), vU, vU, vU] [] D) : Sg g M_Fo_workOut Q 42 [vR 530, vR 1, vR a2, vR 391, vI x4, z5, z6, z7] [] D := by
  unfold Sg
  refine q_mask [false, false, false, false, false, true, true, true] (L' := [vR 530, vR 1, vR a2, vR 391, vI x4, vU, vU, vU]) rfl ?_
  obtain ⟨o1, h⟩ := h
  refine q_iinc d_Fo_workOut_42 rfl (by decide) o1 (L' := [vR 530, vR 1, vR a2, vR 391, vI (x4 + 1), vU, vU, vU]) rfl ?_
  refine q_goto (tgt := 15) d_Fo_workOut_45 (by decide) ?_
  exact h
theorem s_Fo_workOut_64 {a2 : Nat} {x4 : Int} {z5 : VV} {z6 : VV} {z7 : VV} {y0 : Int} (k_a2 : zk a2 = (0, 5, 0)) (h : Sg g M_Fo_workOut Q 73 [vR 530, vR 1, vR a2, vR 391, vI x4, vI (max y0 0), vI 0, vU] [] D) : Sg g M_Fo_workOut Q 64 [vR 530, vR 1, vR a2, vR 391, vI x4, z5, z6, z7] [vI y0] D := by
  unfold Sg
  refine q_mask [false, false, false, false, false, true, true, true] (L' := [vR 530, vR 1, vR a2, vR 391, vI x4, vU, vU, vU]) rfl ?_
  refine q_iconst d_Fo_workOut_64 (by decide) ?_
  refine p_max l_Fo_76 d_Fo_workOut_65 rfl ?_
  refine q_istore d_Fo_workOut_68 (by decide) (L' := [vR 530, vR 1, vR a2, vR 391, vI x4, vI (max y0 0), vU, vU]) rfl ?_
  refine q_iconst d_Fo_workOut_70 (by decide) ?_
  refine q_istore d_Fo_workOut_71 (by decide) (L' := [vR 530, vR 1, vR a2, vR 391, vI x4, vI (max y0 0), vI 0, vU]) rfl ?_
  exact h
theorem s_Fo_workOut_73 {a2 : Nat} {x4 : Int} {x5 : Int} {x6 : Int} {z7 : VV} (k_a2 : zk a2 = (0, 5, 0)) (h : ((24 ≤ x6 → Sg g M_Fo_workOut Q 176 [vR 530, vR 1, vR a2, vR 391, vI x4, vI x5, vI x6, vU] [] D) ∧ (¬ 24 ≤ x6 → ((x4 ≤ x5 → Sg g M_Fo_workOut Q 176 [vR 530, vR 1, vR a2, vR 391, vI x4, vI x5, vI x6, vU] [] D) ∧ (¬ x4 ≤ x5 → CV g M_Fo_findDensest [vR 530, vR 1, vI x5] D (fun D' => Sg g M_Fo_workOut Q 94 [vR 530, vR 1, vR a2, vR 391, vI x4, vI x5, vI x6, vU] [] D')))))) : Sg g M_Fo_workOut Q 73 [vR 530, vR 1, vR a2, vR 391, vI x4, vI x5, vI x6, z7] [] D := by
  unfold Sg
  refine q_mask [false, false, false, false, false, false, false, true] (L' := [vR 530, vR 1, vR a2, vR 391, vI x4, vI x5, vI x6, vU]) rfl ?_
  refine q_iload d_Fo_workOut_73 rfl ?_
  refine q_bipush d_Fo_workOut_75 kb_24 ?_
  refine q_icmp_ge (tgt := 176) d_Fo_workOut_77 (by decide) (fun c1 => ?_) (fun c1 => ?_)
  · have h := h.1 (c1)
    exact h
  · have h := h.2 (c1)
    refine q_iload d_Fo_workOut_80 rfl ?_
    refine q_iload d_Fo_workOut_82 rfl ?_
    refine q_icmp_ge (tgt := 176) d_Fo_workOut_84 (by decide) (fun c2 => ?_) (fun c2 => ?_)
    · have h := h.1 (c2)
      exact h
    · have h := h.2 (c2)
      refine q_aload_n d_Fo_workOut_87 rfl ?_
      refine q_aload_n d_Fo_workOut_88 rfl ?_
      refine q_iload d_Fo_workOut_89 rfl ?_
      refine p_callV (as := [vR 1, vI x5]) (st := []) (a := 530) mc_Fo_findDensest mv_Fo_findDensest l_Fo_79 zc_Fo rfl d_Fo_workOut_91 rfl rfl rfl zk_530 (CV.to ?_)
      exact h
theorem s_Fo_workOut_176 {z0 : VV} {a2 : Nat} {z4 : VV} {z5 : VV} {z6 : VV} {z7 : VV} (k_a2 : zk a2 = (0, 5, 0)) (h : Sg g M_Fo_workOut Q 179 [vU, vR 1, vR a2, vR 391, vU, vU, vI 0, vU] [] D) : Sg g M_Fo_workOut Q 176 [z0, vR 1, vR a2, vR 391, z4, z5, z6, z7] [] D := by
  unfold Sg
  refine q_mask [true, false, false, false, true, true, true, true] (L' := [vU, vR 1, vR a2, vR 391, vU, vU, vU, vU]) rfl ?_
  refine q_iconst d_Fo_workOut_176 (by decide) ?_
  refine q_istore d_Fo_workOut_177 (by decide) (L' := [vU, vR 1, vR a2, vR 391, vU, vU, vI 0, vU]) rfl ?_
  exact h
theorem s_Fo_workOut_94 {a2 : Nat} {x4 : Int} {x5 : Int} {x6 : Int} {z7 : VV} (k_a2 : zk a2 = (0, 5, 0)) (h : CI g M_Jo_nextRelease [vR 1, vI x5, vI x4] D (fun v1 D' => Sg g M_Fo_workOut Q 102 [vR 530, vR 1, vR a2, vR 391, vI x4, vI x5, vI x6, vU] [vI v1] D')) : Sg g M_Fo_workOut Q 94 [vR 530, vR 1, vR a2, vR 391, vI x4, vI x5, vI x6, z7] [] D := by
  unfold Sg
  refine q_mask [false, false, false, false, false, false, false, true] (L' := [vR 530, vR 1, vR a2, vR 391, vI x4, vI x5, vI x6, vU]) rfl ?_
  refine q_aload_n d_Fo_workOut_94 rfl ?_
  refine q_iload d_Fo_workOut_95 rfl ?_
  refine q_iload d_Fo_workOut_97 rfl ?_
  refine p_callV (as := [vI x5, vI x4]) (st := []) (a := 1) mc_Jo_nextRelease mv_Jo_nextRelease l_Fo_83 zc_Jo rfl d_Fo_workOut_99 rfl rfl rfl zk_1 (CI.to ?_)
  exact h
theorem s_Fo_workOut_179 {z0 : VV} {a2 : Nat} {z4 : VV} {z5 : VV} {x6 : Int} {z7 : VV} (k_a2 : zk a2 = (0, 5, 0)) (h : (((D 1 0) ≤ x6 → Q none zE D) ∧ (¬ (D 1 0) ≤ x6 → ((0 ≤ x6 ∧ x6 < 12)) ∧ CV g M_Re_lower [vR 391, vR (a2 + 131 + 5 * x6.toNat)] D (fun D' => Sg g M_Fo_workOut Q 199 [vU, vR 1, vR a2, vR 391, vU, vU, vI x6, vU] [] D')))) : Sg g M_Fo_workOut Q 179 [z0, vR 1, vR a2, vR 391, z4, z5, vI x6, z7] [] D := by
  unfold Sg
  refine q_mask [true, false, false, false, true, true, false, true] (L' := [vU, vR 1, vR a2, vR 391, vU, vU, vI x6, vU]) rfl ?_
  refine q_iload d_Fo_workOut_179 rfl ?_
  refine q_aload_n d_Fo_workOut_181 rfl ?_
  refine p_getIN (k := 0) zc_Jo l_Fo_53 fi_Jo_count d_Fo_workOut_182 zk_1 ?_
  refine q_icmp_ge (tgt := 205) d_Fo_workOut_185 (by decide) (fun c1 => ?_) (fun c1 => ?_)
  · have h := h.1 (c1)
    exact q_vret d_Fo_workOut_205 rfl ⟨Nat.le_refl _, Nat.le_refl _⟩ h
  · have h := h.2 (c1)
    obtain ⟨o2, h⟩ := h
    refine q_aload_n d_Fo_workOut_188 rfl ?_
    refine q_aload_n d_Fo_workOut_189 rfl ?_
    refine p_getRN (k := 5) (b := (a2 + 4)) zc_Pr l_Fo_111 fr_Pr_done d_Fo_workOut_190 k_a2 rfl ?_
    refine q_iload d_Fo_workOut_193 rfl ?_
    refine p_aald (b := (a2 + 131 + 5 * x6.toNat)) d_Fo_workOut_195 (zs_Pr_done k_a2) (by decide) o2 rfl ?_
    refine p_callV (as := [vR (a2 + 131 + 5 * x6.toNat)]) (st := []) (a := 391) mc_Re_lower mv_Re_lower l_Fo_97 zc_Re rfl d_Fo_workOut_196 rfl rfl rfl zk_391 (CV.to ?_)
    exact h
theorem s_Fo_workOut_102 {a2 : Nat} {x4 : Int} {x5 : Int} {x6 : Int} {z7 : VV} {y0 : Int} (k_a2 : zk a2 = (0, 5, 0)) (h : CI g M_Na_isZero [vR 534] D (fun v1 D' => Sg g M_Fo_workOut Q 111 [vR 530, vR 1, vR a2, vR 391, vI x4, vI x5, vI x6, vI y0] [vI v1] D')) : Sg g M_Fo_workOut Q 102 [vR 530, vR 1, vR a2, vR 391, vI x4, vI x5, vI x6, z7] [vI y0] D := by
  unfold Sg
  refine q_mask [false, false, false, false, false, false, false, true] (L' := [vR 530, vR 1, vR a2, vR 391, vI x4, vI x5, vI x6, vU]) rfl ?_
  refine q_istore d_Fo_workOut_102 (by decide) (L' := [vR 530, vR 1, vR a2, vR 391, vI x4, vI x5, vI x6, vI y0]) rfl ?_
  refine q_aload_n d_Fo_workOut_104 rfl ?_
  refine p_getR (k := 2) (b := 534) zc_Fo l_Fo_22 fr_Fo_dense d_Fo_workOut_105 zk_530 rfl ?_
  refine p_callV (as := []) (st := []) (a := 534) mc_Na_isZero mv_Na_isZero l_Fo_86 zc_Na rfl d_Fo_workOut_108 rfl rfl rfl zk_534 (CI.to ?_)
  exact h
theorem s_Fo_workOut_199 {z0 : VV} {a2 : Nat} {z4 : VV} {z5 : VV} {x6 : Int} {z7 : VV} (k_a2 : zk a2 = (0, 5, 0)) (h : (R32 (x6 + 1)) ∧ Sg g M_Fo_workOut Q 179 [vU, vR 1, vR a2, vR 391, vU, vU, vI (x6 + 1), vU] [] D) : Sg g M_Fo_workOut Q 199 [z0, vR 1, vR a2, vR 391, z4, z5, vI x6, z7] [] D := by
  unfold Sg
  refine q_mask [true, false, false, false, true, true, false, true] (L' := [vU, vR 1, vR a2, vR 391, vU, vU, vI x6, vU]) rfl ?_
  obtain ⟨o1, h⟩ := h
  refine q_iinc d_Fo_workOut_199 rfl (by decide) o1 (L' := [vU, vR 1, vR a2, vR 391, vU, vU, vI (x6 + 1), vU]) rfl ?_
  refine q_goto (tgt := 179) d_Fo_workOut_202 (by decide) ?_
  exact h
theorem s_Fo_workOut_111 {a2 : Nat} {x4 : Int} {x5 : Int} {x6 : Int} {x7 : Int} {y0 : Int} (k_a2 : zk a2 = (0, 5, 0)) (h : ((¬ y0 = 0 → Sg g M_Fo_workOut Q 125 [vR 530, vR 1, vR a2, vR 391, vI x4, vI x5, vI x6, vI x7] [] D) ∧ (y0 = 0 → Sg g M_Fo_workOut Q 125 [vR 530, vR 1, vR a2, vR 391, vI x4, vI x5, vI x6, vI (min x7 (D 530 3))] [] D))) : Sg g M_Fo_workOut Q 111 [vR 530, vR 1, vR a2, vR 391, vI x4, vI x5, vI x6, vI x7] [vI y0] D := by
  unfold Sg
  refine q_if_ne (tgt := 125) d_Fo_workOut_111 (by decide) (fun c1 => ?_) (fun c1 => ?_)
  · have h := h.1 (c1)
    exact h
  · have h := h.2 (c1)
    refine q_iload d_Fo_workOut_114 rfl ?_
    refine q_aload_n d_Fo_workOut_116 rfl ?_
    refine p_getI (k := 3) zc_Fo l_Fo_90 fi_Fo_denseDeadline d_Fo_workOut_117 zk_530 ?_
    refine p_min l_Fo_67 d_Fo_workOut_120 rfl ?_
    refine q_istore d_Fo_workOut_123 (by decide) (L' := [vR 530, vR 1, vR a2, vR 391, vI x4, vI x5, vI x6, vI (min x7 (D 530 3))]) rfl ?_
    exact h
theorem s_Fo_workOut_125 {a2 : Nat} {x4 : Int} {x5 : Int} {x6 : Int} {x7 : Int} (k_a2 : zk a2 = (0, 5, 0)) (h : (R32 ((D 530 3) - x5)) ∧ CV g M_Fo_setRate [vR 530, vI ((D 530 3) - x5)] D (fun D' => Sg g M_Fo_workOut Q 136 [vR 530, vR 1, vR a2, vR 391, vI x4, vI x5, vI x6, vI x7] [] D')) : Sg g M_Fo_workOut Q 125 [vR 530, vR 1, vR a2, vR 391, vI x4, vI x5, vI x6, vI x7] [] D := by
  unfold Sg
  obtain ⟨o1, h⟩ := h
  refine q_aload_n d_Fo_workOut_125 rfl ?_
  refine q_aload_n d_Fo_workOut_126 rfl ?_
  refine p_getI (k := 3) zc_Fo l_Fo_90 fi_Fo_denseDeadline d_Fo_workOut_127 zk_530 ?_
  refine q_iload d_Fo_workOut_130 rfl ?_
  refine q_isub d_Fo_workOut_132 o1 ?_
  refine p_callV (as := [vI ((D 530 3) - x5)]) (st := []) (a := 530) mc_Fo_setRate mv_Fo_setRate l_Fo_93 zc_Fo rfl d_Fo_workOut_133 rfl rfl rfl zk_530 (CV.to ?_)
  exact h
theorem s_Fo_workOut_136 {a2 : Nat} {x4 : Int} {x5 : Int} {x6 : Int} {x7 : Int} (k_a2 : zk a2 = (0, 5, 0)) (h : CV g M_Re_lower [vR 391, vR 544] D (fun D' => Sg g M_Fo_workOut Q 144 [vR 530, vR 1, vR a2, vR 391, vI x4, vI x5, vI x6, vI x7] [] D')) : Sg g M_Fo_workOut Q 136 [vR 530, vR 1, vR a2, vR 391, vI x4, vI x5, vI x6, vI x7] [] D := by
  unfold Sg
  refine q_aload_n d_Fo_workOut_136 rfl ?_
  refine q_aload_n d_Fo_workOut_137 rfl ?_
  refine p_getR (k := 8) (b := 544) zc_Fo l_Fo_40 fr_Fo_rate d_Fo_workOut_138 zk_530 rfl ?_
  refine p_callV (as := [vR 544]) (st := []) (a := 391) mc_Re_lower mv_Re_lower l_Fo_97 zc_Re rfl d_Fo_workOut_141 rfl rfl rfl zk_391 (CV.to ?_)
  exact h
theorem s_Fo_workOut_144 {a2 : Nat} {x4 : Int} {x5 : Int} {x6 : Int} {x7 : Int} (k_a2 : zk a2 = (0, 5, 0)) (h : CV g M_Pr_append [vR a2, vI x5, vI x7, vR 544] D (fun D' => Sg g M_Fo_workOut Q 156 [vR 530, vR 1, vR a2, vR 391, vI x4, vI x5, vI x6, vI x7] [] D')) : Sg g M_Fo_workOut Q 144 [vR 530, vR 1, vR a2, vR 391, vI x4, vI x5, vI x6, vI x7] [] D := by
  unfold Sg
  refine q_aload_n d_Fo_workOut_144 rfl ?_
  refine q_iload d_Fo_workOut_145 rfl ?_
  refine q_iload d_Fo_workOut_147 rfl ?_
  refine q_aload_n d_Fo_workOut_149 rfl ?_
  refine p_getR (k := 8) (b := 544) zc_Fo l_Fo_40 fr_Fo_rate d_Fo_workOut_150 zk_530 rfl ?_
  refine p_callV (as := [vI x5, vI x7, vR 544]) (st := []) (a := a2) mc_Pr_append mv_Pr_append l_Fo_103 zc_Pr rfl d_Fo_workOut_153 rfl rfl rfl k_a2 (CV.to ?_)
  exact h
theorem s_Fo_workOut_156 {a2 : Nat} {x4 : Int} {x5 : Int} {x6 : Int} {x7 : Int} (k_a2 : zk a2 = (0, 5, 0)) (h : CV g M_Fo_workOff [vR 530, vR 1, vR a2, vI x5, vI x7] D (fun D' => Sg g M_Fo_workOut Q 166 [vR 530, vR 1, vR a2, vR 391, vI x4, vI x5, vI x6, vI x7] [] D')) : Sg g M_Fo_workOut Q 156 [vR 530, vR 1, vR a2, vR 391, vI x4, vI x5, vI x6, vI x7] [] D := by
  unfold Sg
  refine q_aload_n d_Fo_workOut_156 rfl ?_
  refine q_aload_n d_Fo_workOut_157 rfl ?_
  refine q_aload_n d_Fo_workOut_158 rfl ?_
  refine q_iload d_Fo_workOut_159 rfl ?_
  refine q_iload d_Fo_workOut_161 rfl ?_
  refine p_callV (as := [vR 1, vR a2, vI x5, vI x7]) (st := []) (a := 530) mc_Fo_workOff mv_Fo_workOff l_Fo_107 zc_Fo rfl d_Fo_workOut_163 rfl rfl rfl zk_530 (CV.to ?_)
  exact h
theorem s_Fo_workOut_166 {a2 : Nat} {x4 : Int} {z5 : VV} {x6 : Int} {x7 : Int} (k_a2 : zk a2 = (0, 5, 0)) (h : (R32 (x6 + 1)) ∧ Sg g M_Fo_workOut Q 73 [vR 530, vR 1, vR a2, vR 391, vI x4, vI x7, vI (x6 + 1), vI x7] [] D) : Sg g M_Fo_workOut Q 166 [vR 530, vR 1, vR a2, vR 391, vI x4, z5, vI x6, vI x7] [] D := by
  unfold Sg
  refine q_mask [false, false, false, false, false, true, false, false] (L' := [vR 530, vR 1, vR a2, vR 391, vI x4, vU, vI x6, vI x7]) rfl ?_
  obtain ⟨o1, h⟩ := h
  refine q_iload d_Fo_workOut_166 rfl ?_
  refine q_istore d_Fo_workOut_168 (by decide) (L' := [vR 530, vR 1, vR a2, vR 391, vI x4, vI x7, vI x6, vI x7]) rfl ?_
  refine q_iinc d_Fo_workOut_170 rfl (by decide) o1 (L' := [vR 530, vR 1, vR a2, vR 391, vI x4, vI x7, vI (x6 + 1), vI x7]) rfl ?_
  refine q_goto (tgt := 73) d_Fo_workOut_173 (by decide) ?_
  exact h
theorem s_Fo_isOpen_0 {x2 : Int} {x3 : Int}  (h : CI g M_Jo_has [vR 1, vI x2] D (fun v1 D' => Sg g M_Fo_isOpen Q 5 [vR 530, vR 1, vI x2, vI x3] [vI v1] D')) : Sg g M_Fo_isOpen Q 0 [vR 530, vR 1, vI x2, vI x3] [] D := by
  unfold Sg
  refine q_aload_n d_Fo_isOpen_0 rfl ?_
  refine q_iload_n d_Fo_isOpen_1 rfl ?_
  refine p_callV (as := [vI x2]) (st := []) (a := 1) mc_Jo_has mv_Jo_has l_Fo_115 zc_Jo rfl d_Fo_isOpen_2 rfl rfl rfl zk_1 (CI.to ?_)
  exact h
theorem s_Fo_isOpen_5 {x2 : Int} {x3 : Int} {y0 : Int}  (h : ((y0 = 0 → Q (some (vI 0)) zE D) ∧ (¬ y0 = 0 → ((0 ≤ x2 ∧ x2 < 12)) ∧ ((x3 < (D 2 x2) → Q (some (vI 0)) zE D) ∧ (¬ x3 < (D 2 x2) → ((0 ≤ x2 ∧ x2 < 12)) ∧ (((D 3 x2) ≤ x3 → Q (some (vI 0)) zE D) ∧ (¬ (D 3 x2) ≤ x3 → ((0 ≤ x2 ∧ x2 < 12)) ∧ CI g M_Na_isZero [vR (549 + 2 * x2.toNat)] D (fun v7 D' => Sg g M_Fo_isOpen Q 37 [vR 530, vR 1, vI x2, vI x3] [vI v7] D')))))))) : Sg g M_Fo_isOpen Q 5 [vR 530, vR 1, vI x2, vI x3] [vI y0] D := by
  unfold Sg
  refine q_if_eq (tgt := 44) d_Fo_isOpen_5 (by decide) (fun c1 => ?_) (fun c1 => ?_)
  · have h := h.1 (c1)
    refine q_iconst d_Fo_isOpen_44 (by decide) ?_
    exact q_iret d_Fo_isOpen_45 (Or.inr ⟨rfl, by decide⟩) ⟨Nat.le_refl _, Nat.le_refl _⟩ h
  · have h := h.2 (c1)
    obtain ⟨o2, h⟩ := h
    refine q_aload_n d_Fo_isOpen_8 rfl ?_
    refine p_getRN (k := 1) (b := 2) zc_Jo l_Fo_119 fr_Jo_release d_Fo_isOpen_9 zk_1 rfl ?_
    refine q_iload_n d_Fo_isOpen_12 rfl ?_
    refine p_iald d_Fo_isOpen_13 zk_2 o2 ?_
    refine q_iload_n d_Fo_isOpen_14 rfl ?_
    refine q_icmp_gt (tgt := 44) d_Fo_isOpen_15 (by decide) (fun c3 => ?_) (fun c3 => ?_)
    · have h := h.1 (c3)
      refine q_iconst d_Fo_isOpen_44 (by decide) ?_
      exact q_iret d_Fo_isOpen_45 (Or.inr ⟨rfl, by decide⟩) ⟨Nat.le_refl _, Nat.le_refl _⟩ h
    · have h := h.2 (c3)
      obtain ⟨o4, h⟩ := h
      refine q_aload_n d_Fo_isOpen_18 rfl ?_
      refine p_getRN (k := 2) (b := 3) zc_Jo l_Fo_122 fr_Jo_deadline d_Fo_isOpen_19 zk_1 rfl ?_
      refine q_iload_n d_Fo_isOpen_22 rfl ?_
      refine p_iald d_Fo_isOpen_23 zk_3 o4 ?_
      refine q_iload_n d_Fo_isOpen_24 rfl ?_
      refine q_icmp_le (tgt := 44) d_Fo_isOpen_25 (by decide) (fun c5 => ?_) (fun c5 => ?_)
      · have h := h.1 (c5)
        refine q_iconst d_Fo_isOpen_44 (by decide) ?_
        exact q_iret d_Fo_isOpen_45 (Or.inr ⟨rfl, by decide⟩) ⟨Nat.le_refl _, Nat.le_refl _⟩ h
      · have h := h.2 (c5)
        obtain ⟨o6, h⟩ := h
        refine q_aload_n d_Fo_isOpen_28 rfl ?_
        refine p_getR (k := 0) (b := 531) zc_Fo l_Fo_11 fr_Fo_left d_Fo_isOpen_29 zk_530 rfl ?_
        refine q_iload_n d_Fo_isOpen_32 rfl ?_
        refine p_aald (b := (549 + 2 * x2.toNat)) d_Fo_isOpen_33 zk_531 (by decide) o6 rfl ?_
        refine p_callV (as := []) (st := []) (a := (549 + 2 * x2.toNat)) mc_Na_isZero mv_Na_isZero l_Fo_86 zc_Na rfl d_Fo_isOpen_34 rfl rfl rfl (ze_4 (i := x2.toNat) zk_531 (by omega)) (CI.to ?_)
        exact h
theorem s_Fo_isOpen_37 {z0 : VV} {z1 : VV} {z2 : VV} {z3 : VV} {y0 : Int}  (h : ((¬ y0 = 0 → Q (some (vI 0)) zE D) ∧ (y0 = 0 → Q (some (vI 1)) zE D))) : Sg g M_Fo_isOpen Q 37 [z0, z1, z2, z3] [vI y0] D := by
  unfold Sg
  refine q_mask [true, true, true, true] (L' := [vU, vU, vU, vU]) rfl ?_
  refine q_if_ne (tgt := 44) d_Fo_isOpen_37 (by decide) (fun c1 => ?_) (fun c1 => ?_)
  · have h := h.1 (c1)
    refine q_iconst d_Fo_isOpen_44 (by decide) ?_
    exact q_iret d_Fo_isOpen_45 (Or.inr ⟨rfl, by decide⟩) ⟨Nat.le_refl _, Nat.le_refl _⟩ h
  · have h := h.2 (c1)
    refine q_iconst d_Fo_isOpen_40 (by decide) ?_
    refine q_goto (tgt := 45) d_Fo_isOpen_41 (by decide) ?_
    exact q_iret d_Fo_isOpen_45 (Or.inr ⟨rfl, by decide⟩) ⟨Nat.le_refl _, Nat.le_refl _⟩ h
theorem s_Fo_findDensest_0 {x2 : Int}  (h : CV g M_Na_setSmall [vR 534, vL 0] D (fun D' => Sg g M_Fo_findDensest Q 8 [vR 530, vR 1, vI x2, vU, vU] [] D')) : Sg g M_Fo_findDensest Q 0 [vR 530, vR 1, vI x2, vU, vU] [] D := by
  unfold Sg
  refine q_aload_n d_Fo_findDensest_0 rfl ?_
  refine p_getR (k := 2) (b := 534) zc_Fo l_Fo_22 fr_Fo_dense d_Fo_findDensest_1 zk_530 rfl ?_
  refine q_lconst (x := 0) d_Fo_findDensest_4 ⟨rfl, by decide⟩ ?_
  refine p_callV (as := [vL 0]) (st := []) (a := 534) mc_Na_setSmall mv_Na_setSmall l_Fo_49 zc_Na rfl d_Fo_findDensest_5 rfl rfl rfl zk_534 (CV.to ?_)
  exact h
theorem s_Fo_findDensest_8 {x2 : Int} {z3 : VV} {z4 : VV}  (h : (∀ D1, D1 = zw D 530 3 x2 → CV g M_Na_setSmall [vR 536, vL 0] D1 (fun D' => Sg g M_Fo_findDensest Q 21 [vR 530, vR 1, vI x2, vU, vU] [] D'))) : Sg g M_Fo_findDensest Q 8 [vR 530, vR 1, vI x2, z3, z4] [] D := by
  unfold Sg
  refine q_mask [false, false, false, true, true] (L' := [vR 530, vR 1, vI x2, vU, vU]) rfl ?_
  refine q_aload_n d_Fo_findDensest_8 rfl ?_
  refine q_iload_n d_Fo_findDensest_9 rfl ?_
  refine p_putI (k := 3) zc_Fo l_Fo_90 fp_Fo_denseDeadline (Or.inl rfl) d_Fo_findDensest_10 zk_530 (fun D1 e2 => ?_)
  have h := h D1 e2
  refine q_aload_n d_Fo_findDensest_13 rfl ?_
  refine p_getR (k := 4) (b := 536) zc_Fo l_Fo_25 fr_Fo_sum d_Fo_findDensest_14 zk_530 rfl ?_
  refine q_lconst (x := 0) d_Fo_findDensest_17 ⟨rfl, by decide⟩ ?_
  refine p_callV (as := [vL 0]) (st := []) (a := 536) mc_Na_setSmall mv_Na_setSmall l_Fo_49 zc_Na rfl d_Fo_findDensest_18 rfl rfl rfl zk_536 (CV.to ?_)
  exact h
theorem s_Fo_findDensest_21 {x2 : Int} {z3 : VV} {z4 : VV}  (h : Sg g M_Fo_findDensest Q 23 [vR 530, vR 1, vI x2, vI 0, vU] [] D) : Sg g M_Fo_findDensest Q 21 [vR 530, vR 1, vI x2, z3, z4] [] D := by
  unfold Sg
  refine q_mask [false, false, false, true, true] (L' := [vR 530, vR 1, vI x2, vU, vU]) rfl ?_
  refine q_iconst d_Fo_findDensest_21 (by decide) ?_
  refine q_istore_n d_Fo_findDensest_22 (by decide) (L' := [vR 530, vR 1, vI x2, vI 0, vU]) rfl ?_
  exact h
theorem s_Fo_findDensest_23 {x2 : Int} {x3 : Int} {z4 : VV}  (h : (((D 1 0) ≤ x3 → Q none zE D) ∧ (¬ (D 1 0) ≤ x3 → ((0 ≤ x3 ∧ x3 < 12)) ∧ CI g M_Fo_isOpen [vR 530, vR 1, vI (D 5 x3), vI x2] D (fun v3 D' => Sg g M_Fo_findDensest Q 47 [vR 530, vR 1, vI x2, vI x3, vI (D 5 x3)] [vI v3] D')))) : Sg g M_Fo_findDensest Q 23 [vR 530, vR 1, vI x2, vI x3, z4] [] D := by
  unfold Sg
  refine q_mask [false, false, false, false, true] (L' := [vR 530, vR 1, vI x2, vI x3, vU]) rfl ?_
  refine q_iload_n d_Fo_findDensest_23 rfl ?_
  refine q_aload_n d_Fo_findDensest_24 rfl ?_
  refine p_getIN (k := 0) zc_Jo l_Fo_53 fi_Jo_count d_Fo_findDensest_25 zk_1 ?_
  refine q_icmp_ge (tgt := 160) d_Fo_findDensest_28 (by decide) (fun c1 => ?_) (fun c1 => ?_)
  · have h := h.1 (c1)
    exact q_vret d_Fo_findDensest_160 rfl ⟨Nat.le_refl _, Nat.le_refl _⟩ h
  · have h := h.2 (c1)
    obtain ⟨o2, h⟩ := h
    refine q_aload_n d_Fo_findDensest_31 rfl ?_
    refine p_getRN (k := 4) (b := 5) zc_Jo l_Fo_125 fr_Jo_byDeadline d_Fo_findDensest_32 zk_1 rfl ?_
    refine q_iload_n d_Fo_findDensest_35 rfl ?_
    refine p_iald d_Fo_findDensest_36 zk_5 o2 ?_
    refine q_istore d_Fo_findDensest_37 (by decide) (L' := [vR 530, vR 1, vI x2, vI x3, vI (D 5 x3)]) rfl ?_
    refine q_aload_n d_Fo_findDensest_39 rfl ?_
    refine q_aload_n d_Fo_findDensest_40 rfl ?_
    refine q_iload d_Fo_findDensest_41 rfl ?_
    refine q_iload_n d_Fo_findDensest_43 rfl ?_
    refine p_callV (as := [vR 1, vI (D 5 x3), vI x2]) (st := []) (a := 530) mc_Fo_isOpen mv_Fo_isOpen l_Fo_128 zc_Fo rfl d_Fo_findDensest_44 rfl rfl rfl zk_530 (CI.to ?_)
    exact h
theorem s_Fo_findDensest_47 {x2 : Int} {x3 : Int} {x4 : Int} {y0 : Int}  (h : ((¬ y0 = 0 → ((0 ≤ x4 ∧ x4 < 12)) ∧ CV g M_Na_add [vR 536, vR (549 + 2 * x4.toNat)] D (fun D' => Sg g M_Fo_findDensest Q 67 [vR 530, vR 1, vI x2, vI x3, vI x4] [] D')) ∧ (y0 = 0 → Sg g M_Fo_findDensest Q 154 [vR 530, vR 1, vI x2, vI x3, vI x4] [] D))) : Sg g M_Fo_findDensest Q 47 [vR 530, vR 1, vI x2, vI x3, vI x4] [vI y0] D := by
  unfold Sg
  refine q_if_ne (tgt := 53) d_Fo_findDensest_47 (by decide) (fun c1 => ?_) (fun c1 => ?_)
  · have h := h.1 (c1)
    obtain ⟨o2, h⟩ := h
    refine q_aload_n d_Fo_findDensest_53 rfl ?_
    refine p_getR (k := 4) (b := 536) zc_Fo l_Fo_25 fr_Fo_sum d_Fo_findDensest_54 zk_530 rfl ?_
    refine q_aload_n d_Fo_findDensest_57 rfl ?_
    refine p_getR (k := 0) (b := 531) zc_Fo l_Fo_11 fr_Fo_left d_Fo_findDensest_58 zk_530 rfl ?_
    refine q_iload d_Fo_findDensest_61 rfl ?_
    refine p_aald (b := (549 + 2 * x4.toNat)) d_Fo_findDensest_63 zk_531 (by decide) o2 rfl ?_
    refine p_callV (as := [vR (549 + 2 * x4.toNat)]) (st := []) (a := 536) mc_Na_add mv_Na_add l_Fo_132 zc_Na rfl d_Fo_findDensest_64 rfl rfl rfl zk_536 (CV.to ?_)
    exact h
  · have h := h.2 (c1)
    refine q_goto (tgt := 154) d_Fo_findDensest_50 (by decide) ?_
    exact h
theorem s_Fo_findDensest_67 {x2 : Int} {x3 : Int} {x4 : Int}  (h : CV g M_Na_copyFrom [vR 538, vR 536] D (fun D' => Sg g M_Fo_findDensest Q 78 [vR 530, vR 1, vI x2, vI x3, vI x4] [] D')) : Sg g M_Fo_findDensest Q 67 [vR 530, vR 1, vI x2, vI x3, vI x4] [] D := by
  unfold Sg
  refine q_aload_n d_Fo_findDensest_67 rfl ?_
  refine p_getR (k := 5) (b := 538) zc_Fo l_Fo_28 fr_Fo_mark d_Fo_findDensest_68 zk_530 rfl ?_
  refine q_aload_n d_Fo_findDensest_71 rfl ?_
  refine p_getR (k := 4) (b := 536) zc_Fo l_Fo_25 fr_Fo_sum d_Fo_findDensest_72 zk_530 rfl ?_
  refine p_callV (as := [vR 536]) (st := []) (a := 538) mc_Na_copyFrom mv_Na_copyFrom l_Fo_136 zc_Na rfl d_Fo_findDensest_75 rfl rfl rfl zk_538 (CV.to ?_)
  exact h
theorem s_Fo_findDensest_154 {x2 : Int} {x3 : Int} {z4 : VV}  (h : (R32 (x3 + 1)) ∧ Sg g M_Fo_findDensest Q 23 [vR 530, vR 1, vI x2, vI (x3 + 1), vU] [] D) : Sg g M_Fo_findDensest Q 154 [vR 530, vR 1, vI x2, vI x3, z4] [] D := by
  unfold Sg
  refine q_mask [false, false, false, false, true] (L' := [vR 530, vR 1, vI x2, vI x3, vU]) rfl ?_
  obtain ⟨o1, h⟩ := h
  refine q_iinc d_Fo_findDensest_154 rfl (by decide) o1 (L' := [vR 530, vR 1, vI x2, vI (x3 + 1), vU]) rfl ?_
  refine q_goto (tgt := 23) d_Fo_findDensest_157 (by decide) ?_
  exact h
theorem s_Fo_findDensest_78 {x2 : Int} {x3 : Int} {x4 : Int}  (h : (R32 ((D 530 3) - x2)) ∧ CV g M_Na_times [vR 538, vI ((D 530 3) - x2)] D (fun D' => Sg g M_Fo_findDensest Q 91 [vR 530, vR 1, vI x2, vI x3, vI x4] [] D')) : Sg g M_Fo_findDensest Q 78 [vR 530, vR 1, vI x2, vI x3, vI x4] [] D := by
  unfold Sg
  obtain ⟨o1, h⟩ := h
  refine q_aload_n d_Fo_findDensest_78 rfl ?_
  refine p_getR (k := 5) (b := 538) zc_Fo l_Fo_28 fr_Fo_mark d_Fo_findDensest_79 zk_530 rfl ?_
  refine q_aload_n d_Fo_findDensest_82 rfl ?_
  refine p_getI (k := 3) zc_Fo l_Fo_90 fi_Fo_denseDeadline d_Fo_findDensest_83 zk_530 ?_
  refine q_iload_n d_Fo_findDensest_86 rfl ?_
  refine q_isub d_Fo_findDensest_87 o1 ?_
  refine p_callV (as := [vI ((D 530 3) - x2)]) (st := []) (a := 538) mc_Na_times mv_Na_times l_Fo_139 zc_Na rfl d_Fo_findDensest_88 rfl rfl rfl zk_538 (CV.to ?_)
  exact h
theorem s_Fo_findDensest_91 {x2 : Int} {x3 : Int} {x4 : Int}  (h : CV g M_Na_copyFrom [vR 542, vR 534] D (fun D' => Sg g M_Fo_findDensest Q 102 [vR 530, vR 1, vI x2, vI x3, vI x4] [] D')) : Sg g M_Fo_findDensest Q 91 [vR 530, vR 1, vI x2, vI x3, vI x4] [] D := by
  unfold Sg
  refine q_aload_n d_Fo_findDensest_91 rfl ?_
  refine p_getR (k := 7) (b := 542) zc_Fo l_Fo_34 fr_Fo_spare d_Fo_findDensest_92 zk_530 rfl ?_
  refine q_aload_n d_Fo_findDensest_95 rfl ?_
  refine p_getR (k := 2) (b := 534) zc_Fo l_Fo_22 fr_Fo_dense d_Fo_findDensest_96 zk_530 rfl ?_
  refine p_callV (as := [vR 534]) (st := []) (a := 542) mc_Na_copyFrom mv_Na_copyFrom l_Fo_136 zc_Na rfl d_Fo_findDensest_99 rfl rfl rfl zk_542 (CV.to ?_)
  exact h
theorem s_Fo_findDensest_102 {x2 : Int} {x3 : Int} {x4 : Int}  (h : ((0 ≤ x4 ∧ x4 < 12) ∧ R32 ((D 3 x4) - x2)) ∧ CV g M_Na_times [vR 542, vI ((D 3 x4) - x2)] D (fun D' => Sg g M_Fo_findDensest Q 118 [vR 530, vR 1, vI x2, vI x3, vI x4] [] D')) : Sg g M_Fo_findDensest Q 102 [vR 530, vR 1, vI x2, vI x3, vI x4] [] D := by
  unfold Sg
  obtain ⟨⟨o1, o2⟩, h⟩ := h
  refine q_aload_n d_Fo_findDensest_102 rfl ?_
  refine p_getR (k := 7) (b := 542) zc_Fo l_Fo_34 fr_Fo_spare d_Fo_findDensest_103 zk_530 rfl ?_
  refine q_aload_n d_Fo_findDensest_106 rfl ?_
  refine p_getRN (k := 2) (b := 3) zc_Jo l_Fo_122 fr_Jo_deadline d_Fo_findDensest_107 zk_1 rfl ?_
  refine q_iload d_Fo_findDensest_110 rfl ?_
  refine p_iald d_Fo_findDensest_112 zk_3 o1 ?_
  refine q_iload_n d_Fo_findDensest_113 rfl ?_
  refine q_isub d_Fo_findDensest_114 o2 ?_
  refine p_callV (as := [vI ((D 3 x4) - x2)]) (st := []) (a := 542) mc_Na_times mv_Na_times l_Fo_139 zc_Na rfl d_Fo_findDensest_115 rfl rfl rfl zk_542 (CV.to ?_)
  exact h
theorem s_Fo_findDensest_118 {x2 : Int} {x3 : Int} {x4 : Int}  (h : CI g M_Na_order [vR 538, vR 542] D (fun v1 D' => Sg g M_Fo_findDensest Q 129 [vR 530, vR 1, vI x2, vI x3, vI x4] [vI v1] D')) : Sg g M_Fo_findDensest Q 118 [vR 530, vR 1, vI x2, vI x3, vI x4] [] D := by
  unfold Sg
  refine q_aload_n d_Fo_findDensest_118 rfl ?_
  refine p_getR (k := 5) (b := 538) zc_Fo l_Fo_28 fr_Fo_mark d_Fo_findDensest_119 zk_530 rfl ?_
  refine q_aload_n d_Fo_findDensest_122 rfl ?_
  refine p_getR (k := 7) (b := 542) zc_Fo l_Fo_34 fr_Fo_spare d_Fo_findDensest_123 zk_530 rfl ?_
  refine p_callV (as := [vR 542]) (st := []) (a := 538) mc_Na_order mv_Na_order l_Fo_142 zc_Na rfl d_Fo_findDensest_126 rfl rfl rfl zk_538 (CI.to ?_)
  exact h
theorem s_Fo_findDensest_129 {x2 : Int} {x3 : Int} {x4 : Int} {y0 : Int}  (h : ((y0 < 0 → Sg g M_Fo_findDensest Q 154 [vR 530, vR 1, vI x2, vI x3, vI x4] [] D) ∧ (¬ y0 < 0 → CV g M_Na_copyFrom [vR 534, vR 536] D (fun D' => Sg g M_Fo_findDensest Q 143 [vR 530, vR 1, vI x2, vI x3, vI x4] [] D')))) : Sg g M_Fo_findDensest Q 129 [vR 530, vR 1, vI x2, vI x3, vI x4] [vI y0] D := by
  unfold Sg
  refine q_if_lt (tgt := 154) d_Fo_findDensest_129 (by decide) (fun c1 => ?_) (fun c1 => ?_)
  · have h := h.1 (c1)
    exact h
  · have h := h.2 (c1)
    refine q_aload_n d_Fo_findDensest_132 rfl ?_
    refine p_getR (k := 2) (b := 534) zc_Fo l_Fo_22 fr_Fo_dense d_Fo_findDensest_133 zk_530 rfl ?_
    refine q_aload_n d_Fo_findDensest_136 rfl ?_
    refine p_getR (k := 4) (b := 536) zc_Fo l_Fo_25 fr_Fo_sum d_Fo_findDensest_137 zk_530 rfl ?_
    refine p_callV (as := [vR 536]) (st := []) (a := 534) mc_Na_copyFrom mv_Na_copyFrom l_Fo_136 zc_Na rfl d_Fo_findDensest_140 rfl rfl rfl zk_534 (CV.to ?_)
    exact h
theorem s_Fo_findDensest_143 {x2 : Int} {x3 : Int} {x4 : Int}  (h : ((0 ≤ x4 ∧ x4 < 12)) ∧ (∀ D2, D2 = zw D 530 3 (D 3 x4) → Sg g M_Fo_findDensest Q 154 [vR 530, vR 1, vI x2, vI x3, vI x4] [] D2)) : Sg g M_Fo_findDensest Q 143 [vR 530, vR 1, vI x2, vI x3, vI x4] [] D := by
  unfold Sg
  obtain ⟨o1, h⟩ := h
  refine q_aload_n d_Fo_findDensest_143 rfl ?_
  refine q_aload_n d_Fo_findDensest_144 rfl ?_
  refine p_getRN (k := 2) (b := 3) zc_Jo l_Fo_122 fr_Jo_deadline d_Fo_findDensest_145 zk_1 rfl ?_
  refine q_iload d_Fo_findDensest_148 rfl ?_
  refine p_iald d_Fo_findDensest_150 zk_3 o1 ?_
  refine p_putI (k := 3) zc_Fo l_Fo_90 fp_Fo_denseDeadline (Or.inl rfl) d_Fo_findDensest_151 zk_530 (fun D2 e3 => ?_)
  have h := h D2 e3
  exact h
theorem s_Fo_setRate_0 {x1 : Int}  (h : CV g M_Na_copyFrom [vR 545, vR 534] D (fun D' => Sg g M_Fo_setRate Q 14 [vR 530, vI x1] [] D')) : Sg g M_Fo_setRate Q 0 [vR 530, vI x1] [] D := by
  unfold Sg
  refine q_aload_n d_Fo_setRate_0 rfl ?_
  refine p_getR (k := 8) (b := 544) zc_Fo l_Fo_40 fr_Fo_rate d_Fo_setRate_1 zk_530 rfl ?_
  refine p_getRN (k := 0) (b := 545) zc_Fr l_Fo_146 fr_Fr_top d_Fo_setRate_4 zk_544 rfl ?_
  refine q_aload_n d_Fo_setRate_7 rfl ?_
  refine p_getR (k := 2) (b := 534) zc_Fo l_Fo_22 fr_Fo_dense d_Fo_setRate_8 zk_530 rfl ?_
  refine p_callV (as := [vR 534]) (st := []) (a := 545) mc_Na_copyFrom mv_Na_copyFrom l_Fo_136 zc_Na rfl d_Fo_setRate_11 rfl rfl rfl zk_545 (CV.to ?_)
  exact h
theorem s_Fo_setRate_14 {x1 : Int}  (h : CV g M_Na_setSmall [vR 547, vL 1] D (fun D' => Sg g M_Fo_setRate Q 25 [vR 530, vI x1] [] D')) : Sg g M_Fo_setRate Q 14 [vR 530, vI x1] [] D := by
  unfold Sg
  refine q_aload_n d_Fo_setRate_14 rfl ?_
  refine p_getR (k := 8) (b := 544) zc_Fo l_Fo_40 fr_Fo_rate d_Fo_setRate_15 zk_530 rfl ?_
  refine p_getRN (k := 1) (b := 547) zc_Fr l_Fo_149 fr_Fr_below d_Fo_setRate_18 zk_544 rfl ?_
  refine q_lconst (x := 1) d_Fo_setRate_21 ⟨rfl, by decide⟩ ?_
  refine p_callV (as := [vL 1]) (st := []) (a := 547) mc_Na_setSmall mv_Na_setSmall l_Fo_49 zc_Na rfl d_Fo_setRate_22 rfl rfl rfl zk_547 (CV.to ?_)
  exact h
theorem s_Fo_setRate_25 {x1 : Int}  (h : ((x1 ≤ 0 → Q none zE D) ∧ (¬ x1 ≤ 0 → CV g M_Na_copyFrom [vR 547, vR 532] D (fun D' => Sg g M_Fo_setRate Q 43 [vR 530, vI x1] [] D')))) : Sg g M_Fo_setRate Q 25 [vR 530, vI x1] [] D := by
  unfold Sg
  refine q_iload_n d_Fo_setRate_25 rfl ?_
  refine q_if_le (tgt := 54) d_Fo_setRate_26 (by decide) (fun c1 => ?_) (fun c1 => ?_)
  · have h := h.1 (c1)
    exact q_vret d_Fo_setRate_54 rfl ⟨Nat.le_refl _, Nat.le_refl _⟩ h
  · have h := h.2 (c1)
    refine q_aload_n d_Fo_setRate_29 rfl ?_
    refine p_getR (k := 8) (b := 544) zc_Fo l_Fo_40 fr_Fo_rate d_Fo_setRate_30 zk_530 rfl ?_
    refine p_getRN (k := 1) (b := 547) zc_Fr l_Fo_149 fr_Fr_below d_Fo_setRate_33 zk_544 rfl ?_
    refine q_aload_n d_Fo_setRate_36 rfl ?_
    refine p_getR (k := 1) (b := 532) zc_Fo l_Fo_18 fr_Fo_scale d_Fo_setRate_37 zk_530 rfl ?_
    refine p_callV (as := [vR 532]) (st := []) (a := 547) mc_Na_copyFrom mv_Na_copyFrom l_Fo_136 zc_Na rfl d_Fo_setRate_40 rfl rfl rfl zk_547 (CV.to ?_)
    exact h
theorem s_Fo_setRate_43 {x1 : Int}  (h : CV g M_Na_times [vR 547, vI x1] D (fun D' => Sg g M_Fo_setRate Q 54 [vR 530, vI x1] [] D')) : Sg g M_Fo_setRate Q 43 [vR 530, vI x1] [] D := by
  unfold Sg
  refine q_aload_n d_Fo_setRate_43 rfl ?_
  refine p_getR (k := 8) (b := 544) zc_Fo l_Fo_40 fr_Fo_rate d_Fo_setRate_44 zk_530 rfl ?_
  refine p_getRN (k := 1) (b := 547) zc_Fr l_Fo_149 fr_Fr_below d_Fo_setRate_47 zk_544 rfl ?_
  refine q_iload_n d_Fo_setRate_50 rfl ?_
  refine p_callV (as := [vI x1]) (st := []) (a := 547) mc_Na_times mv_Na_times l_Fo_139 zc_Na rfl d_Fo_setRate_51 rfl rfl rfl zk_547 (CV.to ?_)
  exact h
theorem s_Fo_setRate_54 {z0 : VV} {z1 : VV}  (h : Q none zE D) : Sg g M_Fo_setRate Q 54 [z0, z1] [] D := by
  unfold Sg
  refine q_mask [true, true] (L' := [vU, vU]) rfl ?_
  exact q_vret d_Fo_setRate_54 rfl ⟨Nat.le_refl _, Nat.le_refl _⟩ h
theorem s_Fo_workOff_0 {a2 : Nat} {x3 : Int} {x4 : Int} (k_a2 : zk a2 = (0, 5, 0)) (h : (R32 ((D 530 3) - x3)) ∧ CV g M_Na_copyFrom [vR 540, vR 534] D (fun D' => Sg g M_Fo_workOff Q 25 [vR 530, vR 1, vR a2, vI x3, vI x4, vI ((D 530 3) - x3), vI (-1), vI x3, vU, vU] [] D')) : Sg g M_Fo_workOff Q 0 [vR 530, vR 1, vR a2, vI x3, vI x4, vU, vU, vU, vU, vU] [] D := by
  unfold Sg
  obtain ⟨o1, h⟩ := h
  refine q_aload_n d_Fo_workOff_0 rfl ?_
  refine p_getI (k := 3) zc_Fo l_Fo_90 fi_Fo_denseDeadline d_Fo_workOff_1 zk_530 ?_
  refine q_iload_n d_Fo_workOff_4 rfl ?_
  refine q_isub d_Fo_workOff_5 o1 ?_
  refine q_istore d_Fo_workOff_6 (by decide) (L' := [vR 530, vR 1, vR a2, vI x3, vI x4, vI ((D 530 3) - x3), vU, vU, vU, vU]) rfl ?_
  refine q_iconst d_Fo_workOff_8 (by decide) ?_
  refine q_istore d_Fo_workOff_9 (by decide) (L' := [vR 530, vR 1, vR a2, vI x3, vI x4, vI ((D 530 3) - x3), vI (-1), vU, vU, vU]) rfl ?_
  refine q_iload_n d_Fo_workOff_11 rfl ?_
  refine q_istore d_Fo_workOff_12 (by decide) (L' := [vR 530, vR 1, vR a2, vI x3, vI x4, vI ((D 530 3) - x3), vI (-1), vI x3, vU, vU]) rfl ?_
  refine q_aload_n d_Fo_workOff_14 rfl ?_
  refine p_getR (k := 6) (b := 540) zc_Fo l_Fo_31 fr_Fo_room d_Fo_workOff_15 zk_530 rfl ?_
  refine q_aload_n d_Fo_workOff_18 rfl ?_
  refine p_getR (k := 2) (b := 534) zc_Fo l_Fo_22 fr_Fo_dense d_Fo_workOff_19 zk_530 rfl ?_
  refine p_callV (as := [vR 534]) (st := []) (a := 540) mc_Na_copyFrom mv_Na_copyFrom l_Fo_136 zc_Na rfl d_Fo_workOff_22 rfl rfl rfl zk_540 (CV.to ?_)
  exact h
theorem s_Fo_workOff_25 {a2 : Nat} {x3 : Int} {x4 : Int} {x5 : Int} {x6 : Int} {x7 : Int} {z8 : VV} {z9 : VV} (k_a2 : zk a2 = (0, 5, 0)) (h : (R32 (x4 - x3)) ∧ CV g M_Na_times [vR 540, vI (x4 - x3)] D (fun D' => Sg g M_Fo_workOff Q 36 [vR 530, vR 1, vR a2, vI x3, vI x4, vI x5, vI x6, vI x7, vU, vU] [] D')) : Sg g M_Fo_workOff Q 25 [vR 530, vR 1, vR a2, vI x3, vI x4, vI x5, vI x6, vI x7, z8, z9] [] D := by
  unfold Sg
  refine q_mask [false, false, false, false, false, false, false, false, true, true] (L' := [vR 530, vR 1, vR a2, vI x3, vI x4, vI x5, vI x6, vI x7, vU, vU]) rfl ?_
  obtain ⟨o1, h⟩ := h
  refine q_aload_n d_Fo_workOff_25 rfl ?_
  refine p_getR (k := 6) (b := 540) zc_Fo l_Fo_31 fr_Fo_room d_Fo_workOff_26 zk_530 rfl ?_
  refine q_iload d_Fo_workOff_29 rfl ?_
  refine q_iload_n d_Fo_workOff_31 rfl ?_
  refine q_isub d_Fo_workOff_32 o1 ?_
  refine p_callV (as := [vI (x4 - x3)]) (st := []) (a := 540) mc_Na_times mv_Na_times l_Fo_139 zc_Na rfl d_Fo_workOff_33 rfl rfl rfl zk_540 (CV.to ?_)
  exact h
theorem s_Fo_workOff_36 {a2 : Nat} {x3 : Int} {x4 : Int} {x5 : Int} {x6 : Int} {x7 : Int} {z8 : VV} {z9 : VV} (k_a2 : zk a2 = (0, 5, 0)) (h : CV g M_Na_setSmall [vR 536, vL 0] D (fun D' => Sg g M_Fo_workOff Q 44 [vR 530, vR 1, vR a2, vI x3, vI x4, vI x5, vI x6, vI x7, vU, vU] [] D')) : Sg g M_Fo_workOff Q 36 [vR 530, vR 1, vR a2, vI x3, vI x4, vI x5, vI x6, vI x7, z8, z9] [] D := by
  unfold Sg
  refine q_mask [false, false, false, false, false, false, false, false, true, true] (L' := [vR 530, vR 1, vR a2, vI x3, vI x4, vI x5, vI x6, vI x7, vU, vU]) rfl ?_
  refine q_aload_n d_Fo_workOff_36 rfl ?_
  refine p_getR (k := 4) (b := 536) zc_Fo l_Fo_25 fr_Fo_sum d_Fo_workOff_37 zk_530 rfl ?_
  refine q_lconst (x := 0) d_Fo_workOff_40 ⟨rfl, by decide⟩ ?_
  refine p_callV (as := [vL 0]) (st := []) (a := 536) mc_Na_setSmall mv_Na_setSmall l_Fo_49 zc_Na rfl d_Fo_workOff_41 rfl rfl rfl zk_536 (CV.to ?_)
  exact h
theorem s_Fo_workOff_44 {a2 : Nat} {x3 : Int} {x4 : Int} {x5 : Int} {x6 : Int} {x7 : Int} {z8 : VV} {z9 : VV} (k_a2 : zk a2 = (0, 5, 0)) (h : CV g M_Na_setSmall [vR 538, vL 0] D (fun D' => Sg g M_Fo_workOff Q 52 [vR 530, vR 1, vR a2, vI x3, vI x4, vI x5, vI x6, vI x7, vU, vU] [] D')) : Sg g M_Fo_workOff Q 44 [vR 530, vR 1, vR a2, vI x3, vI x4, vI x5, vI x6, vI x7, z8, z9] [] D := by
  unfold Sg
  refine q_mask [false, false, false, false, false, false, false, false, true, true] (L' := [vR 530, vR 1, vR a2, vI x3, vI x4, vI x5, vI x6, vI x7, vU, vU]) rfl ?_
  refine q_aload_n d_Fo_workOff_44 rfl ?_
  refine p_getR (k := 5) (b := 538) zc_Fo l_Fo_28 fr_Fo_mark d_Fo_workOff_45 zk_530 rfl ?_
  refine q_lconst (x := 0) d_Fo_workOff_48 ⟨rfl, by decide⟩ ?_
  refine p_callV (as := [vL 0]) (st := []) (a := 538) mc_Na_setSmall mv_Na_setSmall l_Fo_49 zc_Na rfl d_Fo_workOff_49 rfl rfl rfl zk_538 (CV.to ?_)
  exact h
theorem s_Fo_workOff_52 {a2 : Nat} {x3 : Int} {x4 : Int} {x5 : Int} {x6 : Int} {x7 : Int} {z8 : VV} {z9 : VV} (k_a2 : zk a2 = (0, 5, 0)) (h : Sg g M_Fo_workOff Q 55 [vR 530, vR 1, vR a2, vI x3, vI x4, vI x5, vI x6, vI x7, vI 0, vU] [] D) : Sg g M_Fo_workOff Q 52 [vR 530, vR 1, vR a2, vI x3, vI x4, vI x5, vI x6, vI x7, z8, z9] [] D := by
  unfold Sg
  refine q_mask [false, false, false, false, false, false, false, false, true, true] (L' := [vR 530, vR 1, vR a2, vI x3, vI x4, vI x5, vI x6, vI x7, vU, vU]) rfl ?_
  refine q_iconst d_Fo_workOff_52 (by decide) ?_
  refine q_istore d_Fo_workOff_53 (by decide) (L' := [vR 530, vR 1, vR a2, vI x3, vI x4, vI x5, vI x6, vI x7, vI 0, vU]) rfl ?_
  exact h
theorem s_Fo_workOff_55 {a2 : Nat} {x3 : Int} {x4 : Int} {x5 : Int} {x6 : Int} {x7 : Int} {x8 : Int} {z9 : VV} (k_a2 : zk a2 = (0, 5, 0)) (h : (((D 1 0) ≤ x8 → Sg g M_Fo_workOff Q 261 [vR 530, vR 1, vR a2, vI x3, vI x4, vI x5, vI x6, vI x7, vI x8, vU] [] D) ∧ (¬ (D 1 0) ≤ x8 → CI g M_Na_order [vR 536, vR 540] D (fun v2 D' => Sg g M_Fo_workOff Q 75 [vR 530, vR 1, vR a2, vI x3, vI x4, vI x5, vI x6, vI x7, vI x8, vU] [vI v2] D')))) : Sg g M_Fo_workOff Q 55 [vR 530, vR 1, vR a2, vI x3, vI x4, vI x5, vI x6, vI x7, vI x8, z9] [] D := by
  unfold Sg
  refine q_mask [false, false, false, false, false, false, false, false, false, true] (L' := [vR 530, vR 1, vR a2, vI x3, vI x4, vI x5, vI x6, vI x7, vI x8, vU]) rfl ?_
  refine q_iload d_Fo_workOff_55 rfl ?_
  refine q_aload_n d_Fo_workOff_57 rfl ?_
  refine p_getIN (k := 0) zc_Jo l_Fo_53 fi_Jo_count d_Fo_workOff_58 zk_1 ?_
  refine q_icmp_ge (tgt := 261) d_Fo_workOff_61 (by decide) (fun c1 => ?_) (fun c1 => ?_)
  · have h := h.1 (c1)
    exact h
  · have h := h.2 (c1)
    refine q_aload_n d_Fo_workOff_64 rfl ?_
    refine p_getR (k := 4) (b := 536) zc_Fo l_Fo_25 fr_Fo_sum d_Fo_workOff_65 zk_530 rfl ?_
    refine q_aload_n d_Fo_workOff_68 rfl ?_
    refine p_getR (k := 6) (b := 540) zc_Fo l_Fo_31 fr_Fo_room d_Fo_workOff_69 zk_530 rfl ?_
    refine p_callV (as := [vR 540]) (st := []) (a := 536) mc_Na_order mv_Na_order l_Fo_142 zc_Na rfl d_Fo_workOff_72 rfl rfl rfl zk_536 (CI.to ?_)
    exact h
theorem s_Fo_workOff_261 {z2 : VV} {z3 : VV} {z4 : VV} {x5 : Int} {x6 : Int} {z7 : VV} {z8 : VV} {z9 : VV}  (h : ((x6 = (-1) → Q none zE D) ∧ (¬ x6 = (-1) → CV g M_Fo_rescale [vR 530, vR 1, vI x6, vI x5] D (fun D' => Sg g M_Fo_workOff Q 276 [vR 530, vR 1, vU, vU, vU, vI x5, vI x6, vU, vU, vU] [] D')))) : Sg g M_Fo_workOff Q 261 [vR 530, vR 1, z2, z3, z4, vI x5, vI x6, z7, z8, z9] [] D := by
  unfold Sg
  refine q_mask [false, false, true, true, true, false, false, true, true, true] (L' := [vR 530, vR 1, vU, vU, vU, vI x5, vI x6, vU, vU, vU]) rfl ?_
  refine q_iload d_Fo_workOff_261 rfl ?_
  refine q_iconst d_Fo_workOff_263 (by decide) ?_
  refine q_icmp_eq (tgt := 276) d_Fo_workOff_264 (by decide) (fun c1 => ?_) (fun c1 => ?_)
  · have h := h.1 (c1)
    exact q_vret d_Fo_workOff_276 rfl ⟨Nat.le_refl _, Nat.le_refl _⟩ h
  · have h := h.2 (c1)
    refine q_aload_n d_Fo_workOff_267 rfl ?_
    refine q_aload_n d_Fo_workOff_268 rfl ?_
    refine q_iload d_Fo_workOff_269 rfl ?_
    refine q_iload d_Fo_workOff_271 rfl ?_
    refine p_callV (as := [vR 1, vI x6, vI x5]) (st := []) (a := 530) mc_Fo_rescale mv_Fo_rescale l_Fo_162 zc_Fo rfl d_Fo_workOff_273 rfl rfl rfl zk_530 (CV.to ?_)
    exact h
theorem s_Fo_workOff_75 {a2 : Nat} {x3 : Int} {x4 : Int} {x5 : Int} {x6 : Int} {x7 : Int} {x8 : Int} {z9 : VV} {y0 : Int} (k_a2 : zk a2 = (0, 5, 0)) (h : ((0 ≤ y0 → Sg g M_Fo_workOff Q 261 [vR 530, vR 1, vR a2, vI x3, vI x4, vI x5, vI x6, vI x7, vI x8, vU] [] D) ∧ (¬ 0 ≤ y0 → ((0 ≤ x8 ∧ x8 < 12)) ∧ CI g M_Fo_isOpen [vR 530, vR 1, vI (D 5 x8), vI x3] D (fun v3 D' => Sg g M_Fo_workOff Q 95 [vR 530, vR 1, vR a2, vI x3, vI x4, vI x5, vI x6, vI x7, vI x8, vI (D 5 x8)] [vI v3] D')))) : Sg g M_Fo_workOff Q 75 [vR 530, vR 1, vR a2, vI x3, vI x4, vI x5, vI x6, vI x7, vI x8, z9] [vI y0] D := by
  unfold Sg
  refine q_mask [false, false, false, false, false, false, false, false, false, true] (L' := [vR 530, vR 1, vR a2, vI x3, vI x4, vI x5, vI x6, vI x7, vI x8, vU]) rfl ?_
  refine q_if_ge (tgt := 261) d_Fo_workOff_75 (by decide) (fun c1 => ?_) (fun c1 => ?_)
  · have h := h.1 (c1)
    exact h
  · have h := h.2 (c1)
    obtain ⟨o2, h⟩ := h
    refine q_aload_n d_Fo_workOff_78 rfl ?_
    refine p_getRN (k := 4) (b := 5) zc_Jo l_Fo_125 fr_Jo_byDeadline d_Fo_workOff_79 zk_1 rfl ?_
    refine q_iload d_Fo_workOff_82 rfl ?_
    refine p_iald d_Fo_workOff_84 zk_5 o2 ?_
    refine q_istore d_Fo_workOff_85 (by decide) (L' := [vR 530, vR 1, vR a2, vI x3, vI x4, vI x5, vI x6, vI x7, vI x8, vI (D 5 x8)]) rfl ?_
    refine q_aload_n d_Fo_workOff_87 rfl ?_
    refine q_aload_n d_Fo_workOff_88 rfl ?_
    refine q_iload d_Fo_workOff_89 rfl ?_
    refine q_iload_n d_Fo_workOff_91 rfl ?_
    refine p_callV (as := [vR 1, vI (D 5 x8), vI x3]) (st := []) (a := 530) mc_Fo_isOpen mv_Fo_isOpen l_Fo_128 zc_Fo rfl d_Fo_workOff_92 rfl rfl rfl zk_530 (CI.to ?_)
    exact h
theorem s_Fo_workOff_276 {z0 : VV} {z1 : VV} {z2 : VV} {z3 : VV} {z4 : VV} {z5 : VV} {z6 : VV} {z7 : VV} {z8 : VV} {z9 : VV}  (h : Q none zE D) : Sg g M_Fo_workOff Q 276 [z0, z1, z2, z3, z4, z5, z6, z7, z8, z9] [] D := by
  unfold Sg
  refine q_mask [true, true, true, true, true, true, true, true, true, true] (L' := [vU, vU, vU, vU, vU, vU, vU, vU, vU, vU]) rfl ?_
  exact q_vret d_Fo_workOff_276 rfl ⟨Nat.le_refl _, Nat.le_refl _⟩ h
theorem s_Fo_workOff_95 {a2 : Nat} {x3 : Int} {x4 : Int} {x5 : Int} {x6 : Int} {x7 : Int} {x8 : Int} {x9 : Int} {y0 : Int} (k_a2 : zk a2 = (0, 5, 0)) (h : ((¬ y0 = 0 → ((0 ≤ x9 ∧ x9 < 12)) ∧ CV g M_Na_times [vR (549 + 2 * x9.toNat), vI x5] D (fun D' => Sg g M_Fo_workOff Q 113 [vR 530, vR 1, vR a2, vI x3, vI x4, vI x5, vI x6, vI x7, vI x8, vI x9] [] D')) ∧ (y0 = 0 → Sg g M_Fo_workOff Q 255 [vR 530, vR 1, vR a2, vI x3, vI x4, vI x5, vI x6, vI x7, vI x8, vI x9] [] D))) : Sg g M_Fo_workOff Q 95 [vR 530, vR 1, vR a2, vI x3, vI x4, vI x5, vI x6, vI x7, vI x8, vI x9] [vI y0] D := by
  unfold Sg
  refine q_if_ne (tgt := 101) d_Fo_workOff_95 (by decide) (fun c1 => ?_) (fun c1 => ?_)
  · have h := h.1 (c1)
    obtain ⟨o2, h⟩ := h
    refine q_aload_n d_Fo_workOff_101 rfl ?_
    refine p_getR (k := 0) (b := 531) zc_Fo l_Fo_11 fr_Fo_left d_Fo_workOff_102 zk_530 rfl ?_
    refine q_iload d_Fo_workOff_105 rfl ?_
    refine p_aald (b := (549 + 2 * x9.toNat)) d_Fo_workOff_107 zk_531 (by decide) o2 rfl ?_
    refine q_iload d_Fo_workOff_108 rfl ?_
    refine p_callV (as := [vI x5]) (st := []) (a := (549 + 2 * x9.toNat)) mc_Na_times mv_Na_times l_Fo_139 zc_Na rfl d_Fo_workOff_110 rfl rfl rfl (ze_4 (i := x9.toNat) zk_531 (by omega)) (CV.to ?_)
    exact h
  · have h := h.2 (c1)
    refine q_goto (tgt := 255) d_Fo_workOff_98 (by decide) ?_
    exact h
theorem s_Fo_workOff_113 {a2 : Nat} {x3 : Int} {x4 : Int} {x5 : Int} {x6 : Int} {x7 : Int} {x8 : Int} {x9 : Int} (k_a2 : zk a2 = (0, 5, 0)) (h : ((0 ≤ x9 ∧ x9 < 12)) ∧ CV g M_Na_add [vR 536, vR (549 + 2 * x9.toNat)] D (fun D' => Sg g M_Fo_workOff Q 127 [vR 530, vR 1, vR a2, vI x3, vI x4, vI x5, vI x6, vI x7, vI x8, vI x9] [] D')) : Sg g M_Fo_workOff Q 113 [vR 530, vR 1, vR a2, vI x3, vI x4, vI x5, vI x6, vI x7, vI x8, vI x9] [] D := by
  unfold Sg
  obtain ⟨o1, h⟩ := h
  refine q_aload_n d_Fo_workOff_113 rfl ?_
  refine p_getR (k := 4) (b := 536) zc_Fo l_Fo_25 fr_Fo_sum d_Fo_workOff_114 zk_530 rfl ?_
  refine q_aload_n d_Fo_workOff_117 rfl ?_
  refine p_getR (k := 0) (b := 531) zc_Fo l_Fo_11 fr_Fo_left d_Fo_workOff_118 zk_530 rfl ?_
  refine q_iload d_Fo_workOff_121 rfl ?_
  refine p_aald (b := (549 + 2 * x9.toNat)) d_Fo_workOff_123 zk_531 (by decide) o1 rfl ?_
  refine p_callV (as := [vR (549 + 2 * x9.toNat)]) (st := []) (a := 536) mc_Na_add mv_Na_add l_Fo_132 zc_Na rfl d_Fo_workOff_124 rfl rfl rfl zk_536 (CV.to ?_)
  exact h
theorem s_Fo_workOff_255 {a2 : Nat} {x3 : Int} {x4 : Int} {x5 : Int} {x6 : Int} {x7 : Int} {x8 : Int} {z9 : VV} (k_a2 : zk a2 = (0, 5, 0)) (h : (R32 (x8 + 1)) ∧ Sg g M_Fo_workOff Q 55 [vR 530, vR 1, vR a2, vI x3, vI x4, vI x5, vI x6, vI x7, vI (x8 + 1), vU] [] D) : Sg g M_Fo_workOff Q 255 [vR 530, vR 1, vR a2, vI x3, vI x4, vI x5, vI x6, vI x7, vI x8, z9] [] D := by
  unfold Sg
  refine q_mask [false, false, false, false, false, false, false, false, false, true] (L' := [vR 530, vR 1, vR a2, vI x3, vI x4, vI x5, vI x6, vI x7, vI x8, vU]) rfl ?_
  obtain ⟨o1, h⟩ := h
  refine q_iinc d_Fo_workOff_255 rfl (by decide) o1 (L' := [vR 530, vR 1, vR a2, vI x3, vI x4, vI x5, vI x6, vI x7, vI (x8 + 1), vU]) rfl ?_
  refine q_goto (tgt := 55) d_Fo_workOff_258 (by decide) ?_
  exact h
theorem s_Fo_workOff_127 {a2 : Nat} {x3 : Int} {x4 : Int} {x5 : Int} {x6 : Int} {x7 : Int} {x8 : Int} {x9 : Int} (k_a2 : zk a2 = (0, 5, 0)) (h : ((x7 < 0 → Sg g M_Fo_workOff Q 187 [vR 530, vR 1, vR a2, vI x3, vI x4, vI x5, vI x6, vI x7, vI x8, vI x9] [] D) ∧ (¬ x7 < 0 → ((x4 ≤ x7 → Sg g M_Fo_workOff Q 187 [vR 530, vR 1, vR a2, vI x3, vI x4, vI x5, vI x6, vI x7, vI x8, vI x9] [] D) ∧ (¬ x4 ≤ x7 → ((200 ≤ x7 → Sg g M_Fo_workOff Q 187 [vR 530, vR 1, vR a2, vI x3, vI x4, vI x5, vI x6, vI x7, vI x8, vI x9] [] D) ∧ (¬ 200 ≤ x7 → CI g M_Na_order [vR 538, vR 536] D (fun v4 D' => Sg g M_Fo_workOff Q 158 [vR 530, vR 1, vR a2, vI x3, vI x4, vI x5, vI x6, vI x7, vI x8, vI x9] [vI v4] D')))))))) : Sg g M_Fo_workOff Q 127 [vR 530, vR 1, vR a2, vI x3, vI x4, vI x5, vI x6, vI x7, vI x8, vI x9] [] D := by
  unfold Sg
  refine q_iload d_Fo_workOff_127 rfl ?_
  refine q_if_lt (tgt := 187) d_Fo_workOff_129 (by decide) (fun c1 => ?_) (fun c1 => ?_)
  · have h := h.1 (c1)
    exact h
  · have h := h.2 (c1)
    refine q_iload d_Fo_workOff_132 rfl ?_
    refine q_iload d_Fo_workOff_134 rfl ?_
    refine q_icmp_ge (tgt := 187) d_Fo_workOff_136 (by decide) (fun c2 => ?_) (fun c2 => ?_)
    · have h := h.1 (c2)
      exact h
    · have h := h.2 (c2)
      refine q_iload d_Fo_workOff_139 rfl ?_
      refine q_sipush d_Fo_workOff_141 ks_200 ?_
      refine q_icmp_ge (tgt := 187) d_Fo_workOff_144 (by decide) (fun c3 => ?_) (fun c3 => ?_)
      · have h := h.1 (c3)
        exact h
      · have h := h.2 (c3)
        refine q_aload_n d_Fo_workOff_147 rfl ?_
        refine p_getR (k := 5) (b := 538) zc_Fo l_Fo_28 fr_Fo_mark d_Fo_workOff_148 zk_530 rfl ?_
        refine q_aload_n d_Fo_workOff_151 rfl ?_
        refine p_getR (k := 4) (b := 536) zc_Fo l_Fo_25 fr_Fo_sum d_Fo_workOff_152 zk_530 rfl ?_
        refine p_callV (as := [vR 536]) (st := []) (a := 538) mc_Na_order mv_Na_order l_Fo_142 zc_Na rfl d_Fo_workOff_155 rfl rfl rfl zk_538 (CI.to ?_)
        exact h
theorem s_Fo_workOff_187 {a2 : Nat} {x3 : Int} {x4 : Int} {x5 : Int} {x6 : Int} {x7 : Int} {x8 : Int} {x9 : Int} (k_a2 : zk a2 = (0, 5, 0)) (h : CI g M_Na_order [vR 536, vR 540] D (fun v1 D' => Sg g M_Fo_workOff Q 198 [vR 530, vR 1, vR a2, vI x3, vI x4, vI x5, vI x6, vI x7, vI x8, vI x9] [vI v1] D')) : Sg g M_Fo_workOff Q 187 [vR 530, vR 1, vR a2, vI x3, vI x4, vI x5, vI x6, vI x7, vI x8, vI x9] [] D := by
  unfold Sg
  refine q_aload_n d_Fo_workOff_187 rfl ?_
  refine p_getR (k := 4) (b := 536) zc_Fo l_Fo_25 fr_Fo_sum d_Fo_workOff_188 zk_530 rfl ?_
  refine q_aload_n d_Fo_workOff_191 rfl ?_
  refine p_getR (k := 6) (b := 540) zc_Fo l_Fo_31 fr_Fo_room d_Fo_workOff_192 zk_530 rfl ?_
  refine p_callV (as := [vR 540]) (st := []) (a := 536) mc_Na_order mv_Na_order l_Fo_142 zc_Na rfl d_Fo_workOff_195 rfl rfl rfl zk_536 (CI.to ?_)
  exact h
theorem s_Fo_workOff_158 {a2 : Nat} {x3 : Int} {x4 : Int} {x5 : Int} {x6 : Int} {x7 : Int} {x8 : Int} {x9 : Int} {y0 : Int} (k_a2 : zk a2 = (0, 5, 0)) (h : ((0 ≤ y0 → Sg g M_Fo_workOff Q 187 [vR 530, vR 1, vR a2, vI x3, vI x4, vI x5, vI x6, vI x7, vI x8, vI x9] [] D) ∧ (¬ 0 ≤ y0 → ((0 ≤ x7 ∧ x7 < 200)) ∧ (∀ D3, D3 = zw D (a2 + 5) x7 x9 → CV g M_Na_add [vR 538, vR 534] D3 (fun D' => Sg g M_Fo_workOff Q 181 [vR 530, vR 1, vR a2, vI x3, vI x4, vI x5, vI x6, vI x7, vI x8, vI x9] [] D'))))) : Sg g M_Fo_workOff Q 158 [vR 530, vR 1, vR a2, vI x3, vI x4, vI x5, vI x6, vI x7, vI x8, vI x9] [vI y0] D := by
  unfold Sg
  refine q_if_ge (tgt := 187) d_Fo_workOff_158 (by decide) (fun c1 => ?_) (fun c1 => ?_)
  · have h := h.1 (c1)
    exact h
  · have h := h.2 (c1)
    obtain ⟨o2, h⟩ := h
    refine q_aload_n d_Fo_workOff_161 rfl ?_
    refine p_getRN (k := 6) (b := (a2 + 5)) zc_Pr l_Fo_152 fr_Pr_worker d_Fo_workOff_162 k_a2 rfl ?_
    refine q_iload d_Fo_workOff_165 rfl ?_
    refine q_iload d_Fo_workOff_167 rfl ?_
    refine p_iast d_Fo_workOff_169 (zs_Pr_worker k_a2) o2 (fun D3 e4 => ?_)
    have h := h D3 e4
    refine q_aload_n d_Fo_workOff_170 rfl ?_
    refine p_getR (k := 5) (b := 538) zc_Fo l_Fo_28 fr_Fo_mark d_Fo_workOff_171 zk_530 rfl ?_
    refine q_aload_n d_Fo_workOff_174 rfl ?_
    refine p_getR (k := 2) (b := 534) zc_Fo l_Fo_22 fr_Fo_dense d_Fo_workOff_175 zk_530 rfl ?_
    refine p_callV (as := [vR 534]) (st := []) (a := 538) mc_Na_add mv_Na_add l_Fo_132 zc_Na rfl d_Fo_workOff_178 rfl rfl rfl zk_538 (CV.to ?_)
    exact h
theorem s_Fo_workOff_198 {a2 : Nat} {x3 : Int} {x4 : Int} {x5 : Int} {x6 : Int} {x7 : Int} {x8 : Int} {x9 : Int} {y0 : Int} (k_a2 : zk a2 = (0, 5, 0)) (h : ((y0 ≤ 0 → ((0 ≤ x9 ∧ x9 < 12)) ∧ CV g M_Na_setSmall [vR (549 + 2 * x9.toNat), vL 0] D (fun D' => Sg g M_Fo_workOff Q 247 [vR 530, vR 1, vR a2, vI x3, vI x4, vI x5, vI x6, vI x7, vI x8, vI x9] [] D')) ∧ (¬ y0 ≤ 0 → ((0 ≤ x9 ∧ x9 < 12)) ∧ CV g M_Na_copyFrom [vR (549 + 2 * x9.toNat), vR 536] D (fun D' => Sg g M_Fo_workOff Q 215 [vR 530, vR 1, vR a2, vI x3, vI x4, vI x5, vI x6, vI x7, vI x8, vI x9] [] D')))) : Sg g M_Fo_workOff Q 198 [vR 530, vR 1, vR a2, vI x3, vI x4, vI x5, vI x6, vI x7, vI x8, vI x9] [vI y0] D := by
  unfold Sg
  refine q_if_le (tgt := 236) d_Fo_workOff_198 (by decide) (fun c1 => ?_) (fun c1 => ?_)
  · have h := h.1 (c1)
    obtain ⟨o2, h⟩ := h
    refine q_aload_n d_Fo_workOff_236 rfl ?_
    refine p_getR (k := 0) (b := 531) zc_Fo l_Fo_11 fr_Fo_left d_Fo_workOff_237 zk_530 rfl ?_
    refine q_iload d_Fo_workOff_240 rfl ?_
    refine p_aald (b := (549 + 2 * x9.toNat)) d_Fo_workOff_242 zk_531 (by decide) o2 rfl ?_
    refine q_lconst (x := 0) d_Fo_workOff_243 ⟨rfl, by decide⟩ ?_
    refine p_callV (as := [vL 0]) (st := []) (a := (549 + 2 * x9.toNat)) mc_Na_setSmall mv_Na_setSmall l_Fo_49 zc_Na rfl d_Fo_workOff_244 rfl rfl rfl (ze_4 (i := x9.toNat) zk_531 (by omega)) (CV.to ?_)
    exact h
  · have h := h.2 (c1)
    obtain ⟨o4, h⟩ := h
    refine q_aload_n d_Fo_workOff_201 rfl ?_
    refine p_getR (k := 0) (b := 531) zc_Fo l_Fo_11 fr_Fo_left d_Fo_workOff_202 zk_530 rfl ?_
    refine q_iload d_Fo_workOff_205 rfl ?_
    refine p_aald (b := (549 + 2 * x9.toNat)) d_Fo_workOff_207 zk_531 (by decide) o4 rfl ?_
    refine q_aload_n d_Fo_workOff_208 rfl ?_
    refine p_getR (k := 4) (b := 536) zc_Fo l_Fo_25 fr_Fo_sum d_Fo_workOff_209 zk_530 rfl ?_
    refine p_callV (as := [vR 536]) (st := []) (a := (549 + 2 * x9.toNat)) mc_Na_copyFrom mv_Na_copyFrom l_Fo_136 zc_Na rfl d_Fo_workOff_212 rfl rfl rfl (ze_4 (i := x9.toNat) zk_531 (by omega)) (CV.to ?_)
    exact h
theorem s_Fo_workOff_181 {a2 : Nat} {x3 : Int} {x4 : Int} {x5 : Int} {x6 : Int} {x7 : Int} {x8 : Int} {x9 : Int} (k_a2 : zk a2 = (0, 5, 0)) (h : (R32 (x7 + 1)) ∧ Sg g M_Fo_workOff Q 127 [vR 530, vR 1, vR a2, vI x3, vI x4, vI x5, vI x6, vI (x7 + 1), vI x8, vI x9] [] D) : Sg g M_Fo_workOff Q 181 [vR 530, vR 1, vR a2, vI x3, vI x4, vI x5, vI x6, vI x7, vI x8, vI x9] [] D := by
  unfold Sg
  obtain ⟨o1, h⟩ := h
  refine q_iinc d_Fo_workOff_181 rfl (by decide) o1 (L' := [vR 530, vR 1, vR a2, vI x3, vI x4, vI x5, vI x6, vI (x7 + 1), vI x8, vI x9]) rfl ?_
  refine q_goto (tgt := 127) d_Fo_workOff_184 (by decide) ?_
  exact h
theorem s_Fo_workOff_247 {a2 : Nat} {x3 : Int} {x4 : Int} {x5 : Int} {x6 : Int} {x7 : Int} {x8 : Int} {x9 : Int} (k_a2 : zk a2 = (0, 5, 0)) (h : CV g M_Fo_setEnd [vR 530, vR a2, vI x9, vI x3] D (fun D' => Sg g M_Fo_workOff Q 255 [vR 530, vR 1, vR a2, vI x3, vI x4, vI x5, vI x6, vI x7, vI x8, vI x9] [] D')) : Sg g M_Fo_workOff Q 247 [vR 530, vR 1, vR a2, vI x3, vI x4, vI x5, vI x6, vI x7, vI x8, vI x9] [] D := by
  unfold Sg
  refine q_aload_n d_Fo_workOff_247 rfl ?_
  refine q_aload_n d_Fo_workOff_248 rfl ?_
  refine q_iload d_Fo_workOff_249 rfl ?_
  refine q_iload_n d_Fo_workOff_251 rfl ?_
  refine p_callV (as := [vR a2, vI x9, vI x3]) (st := []) (a := 530) mc_Fo_setEnd mv_Fo_setEnd l_Fo_158 zc_Fo rfl d_Fo_workOff_252 rfl rfl rfl zk_530 (CV.to ?_)
  exact h
theorem s_Fo_workOff_215 {a2 : Nat} {x3 : Int} {x4 : Int} {x5 : Int} {z6 : VV} {x7 : Int} {x8 : Int} {x9 : Int} (k_a2 : zk a2 = (0, 5, 0)) (h : ((0 ≤ x9 ∧ x9 < 12)) ∧ CV g M_Na_takeOff [vR (549 + 2 * x9.toNat), vR 540] D (fun D' => Sg g M_Fo_workOff Q 229 [vR 530, vR 1, vR a2, vI x3, vI x4, vI x5, vU, vI x7, vI x8, vI x9] [] D')) : Sg g M_Fo_workOff Q 215 [vR 530, vR 1, vR a2, vI x3, vI x4, vI x5, z6, vI x7, vI x8, vI x9] [] D := by
  unfold Sg
  refine q_mask [false, false, false, false, false, false, true, false, false, false] (L' := [vR 530, vR 1, vR a2, vI x3, vI x4, vI x5, vU, vI x7, vI x8, vI x9]) rfl ?_
  obtain ⟨o1, h⟩ := h
  refine q_aload_n d_Fo_workOff_215 rfl ?_
  refine p_getR (k := 0) (b := 531) zc_Fo l_Fo_11 fr_Fo_left d_Fo_workOff_216 zk_530 rfl ?_
  refine q_iload d_Fo_workOff_219 rfl ?_
  refine p_aald (b := (549 + 2 * x9.toNat)) d_Fo_workOff_221 zk_531 (by decide) o1 rfl ?_
  refine q_aload_n d_Fo_workOff_222 rfl ?_
  refine p_getR (k := 6) (b := 540) zc_Fo l_Fo_31 fr_Fo_room d_Fo_workOff_223 zk_530 rfl ?_
  refine p_callV (as := [vR 540]) (st := []) (a := (549 + 2 * x9.toNat)) mc_Na_takeOff mv_Na_takeOff l_Fo_155 zc_Na rfl d_Fo_workOff_226 rfl rfl rfl (ze_4 (i := x9.toNat) zk_531 (by omega)) (CV.to ?_)
  exact h
theorem s_Fo_workOff_229 {a2 : Nat} {x3 : Int} {x4 : Int} {x5 : Int} {z6 : VV} {x7 : Int} {x8 : Int} {x9 : Int} (k_a2 : zk a2 = (0, 5, 0)) (h : Sg g M_Fo_workOff Q 255 [vR 530, vR 1, vR a2, vI x3, vI x4, vI x5, vI x9, vI x7, vI x8, vI x9] [] D) : Sg g M_Fo_workOff Q 229 [vR 530, vR 1, vR a2, vI x3, vI x4, vI x5, z6, vI x7, vI x8, vI x9] [] D := by
  unfold Sg
  refine q_mask [false, false, false, false, false, false, true, false, false, false] (L' := [vR 530, vR 1, vR a2, vI x3, vI x4, vI x5, vU, vI x7, vI x8, vI x9]) rfl ?_
  refine q_iload d_Fo_workOff_229 rfl ?_
  refine q_istore d_Fo_workOff_231 (by decide) (L' := [vR 530, vR 1, vR a2, vI x3, vI x4, vI x5, vI x9, vI x7, vI x8, vI x9]) rfl ?_
  refine q_goto (tgt := 255) d_Fo_workOff_233 (by decide) ?_
  exact h
theorem s_Fo_setEnd_0 {a1 : Nat} {x2 : Int} {x3 : Int} (k_a1 : zk a1 = (0, 5, 0)) (h : ((x2 < 0 → Q none zE D) ∧ (¬ x2 < 0 → ((12 ≤ x2 → Q none zE D) ∧ (¬ 12 ≤ x2 → CI g M_Na_isZero [vR 534] D (fun v3 D' => Sg g M_Fo_setEnd Q 17 [vR 530, vR a1, vI x2, vI x3, vU] [vI v3] D')))))) : Sg g M_Fo_setEnd Q 0 [vR 530, vR a1, vI x2, vI x3, vU] [] D := by
  unfold Sg
  refine q_iload_n d_Fo_setEnd_0 rfl ?_
  refine q_if_lt (tgt := 20) d_Fo_setEnd_1 (by decide) (fun c1 => ?_) (fun c1 => ?_)
  · have h := h.1 (c1)
    exact q_vret d_Fo_setEnd_20 rfl ⟨Nat.le_refl _, Nat.le_refl _⟩ h
  · have h := h.2 (c1)
    refine q_iload_n d_Fo_setEnd_4 rfl ?_
    refine q_bipush d_Fo_setEnd_5 kb_12 ?_
    refine q_icmp_ge (tgt := 20) d_Fo_setEnd_7 (by decide) (fun c2 => ?_) (fun c2 => ?_)
    · have h := h.1 (c2)
      exact q_vret d_Fo_setEnd_20 rfl ⟨Nat.le_refl _, Nat.le_refl _⟩ h
    · have h := h.2 (c2)
      refine q_aload_n d_Fo_setEnd_10 rfl ?_
      refine p_getR (k := 2) (b := 534) zc_Fo l_Fo_22 fr_Fo_dense d_Fo_setEnd_11 zk_530 rfl ?_
      refine p_callV (as := []) (st := []) (a := 534) mc_Na_isZero mv_Na_isZero l_Fo_86 zc_Na rfl d_Fo_setEnd_14 rfl rfl rfl zk_534 (CI.to ?_)
      exact h
theorem s_Fo_setEnd_17 {a1 : Nat} {x2 : Int} {x3 : Int} {z4 : VV} {y0 : Int} (k_a1 : zk a1 = (0, 5, 0)) (h : ((y0 = 0 → ((0 ≤ x2 ∧ x2 < 12)) ∧ CV g M_Na_copyFrom [vR ((a1 + 131 + 5 * x2.toNat) + 3), vR 534] D (fun D' => Sg g M_Fo_setEnd Q 41 [vR 530, vR a1, vI x2, vI x3, vR (a1 + 131 + 5 * x2.toNat)] [] D')) ∧ (¬ y0 = 0 → Q none zE D))) : Sg g M_Fo_setEnd Q 17 [vR 530, vR a1, vI x2, vI x3, z4] [vI y0] D := by
  unfold Sg
  refine q_mask [false, false, false, false, true] (L' := [vR 530, vR a1, vI x2, vI x3, vU]) rfl ?_
  refine q_if_eq (tgt := 21) d_Fo_setEnd_17 (by decide) (fun c1 => ?_) (fun c1 => ?_)
  · have h := h.1 (c1)
    obtain ⟨o2, h⟩ := h
    refine q_aload_n d_Fo_setEnd_21 rfl ?_
    refine p_getRN (k := 5) (b := (a1 + 4)) zc_Pr l_Fo_111 fr_Pr_done d_Fo_setEnd_22 k_a1 rfl ?_
    refine q_iload_n d_Fo_setEnd_25 rfl ?_
    refine p_aald (b := (a1 + 131 + 5 * x2.toNat)) d_Fo_setEnd_26 (zs_Pr_done k_a1) (by decide) o2 rfl ?_
    refine q_astore d_Fo_setEnd_27 (by decide) (L' := [vR 530, vR a1, vI x2, vI x3, vR (a1 + 131 + 5 * x2.toNat)]) rfl ?_
    refine q_aload d_Fo_setEnd_29 rfl ?_
    refine p_getRN (k := 1) (b := ((a1 + 131 + 5 * x2.toNat) + 3)) zc_Fr l_Fo_149 fr_Fr_below d_Fo_setEnd_31 (ze_1 (i := x2.toNat) (zs_Pr_done k_a1) (by omega)) rfl ?_
    refine q_aload_n d_Fo_setEnd_34 rfl ?_
    refine p_getR (k := 2) (b := 534) zc_Fo l_Fo_22 fr_Fo_dense d_Fo_setEnd_35 zk_530 rfl ?_
    refine p_callV (as := [vR 534]) (st := []) (a := ((a1 + 131 + 5 * x2.toNat) + 3)) mc_Na_copyFrom mv_Na_copyFrom l_Fo_136 zc_Na rfl d_Fo_setEnd_38 rfl rfl rfl (zs_Fr_below (ze_1 (i := x2.toNat) (zs_Pr_done k_a1) (by omega))) (CV.to ?_)
    exact h
  · have h := h.2 (c1)
    exact q_vret d_Fo_setEnd_20 rfl ⟨Nat.le_refl _, Nat.le_refl _⟩ h
theorem s_Fo_setEnd_41 {z1 : VV} {z2 : VV} {x3 : Int} {r4 : Nat} (k_r4 : zk r4 = (0, 4, 0)) (h : CV g M_Na_copyFrom [vR (r4 + 1), vR 534] D (fun D' => Sg g M_Fo_setEnd Q 53 [vR 530, vU, vU, vI x3, vR r4] [] D')) : Sg g M_Fo_setEnd Q 41 [vR 530, z1, z2, vI x3, vR r4] [] D := by
  unfold Sg
  refine q_mask [false, true, true, false, false] (L' := [vR 530, vU, vU, vI x3, vR r4]) rfl ?_
  refine q_aload d_Fo_setEnd_41 rfl ?_
  refine p_getRN (k := 0) (b := (r4 + 1)) zc_Fr l_Fo_146 fr_Fr_top d_Fo_setEnd_43 k_r4 rfl ?_
  refine q_aload_n d_Fo_setEnd_46 rfl ?_
  refine p_getR (k := 2) (b := 534) zc_Fo l_Fo_22 fr_Fo_dense d_Fo_setEnd_47 zk_530 rfl ?_
  refine p_callV (as := [vR 534]) (st := []) (a := (r4 + 1)) mc_Na_copyFrom mv_Na_copyFrom l_Fo_136 zc_Na rfl d_Fo_setEnd_50 rfl rfl rfl (zs_Fr_top k_r4) (CV.to ?_)
  exact h
theorem s_Fo_setEnd_53 {z1 : VV} {z2 : VV} {x3 : Int} {r4 : Nat} (k_r4 : zk r4 = (0, 4, 0)) (h : CV g M_Na_times [vR (r4 + 1), vI x3] D (fun D' => Sg g M_Fo_setEnd Q 62 [vR 530, vU, vU, vI x3, vR r4] [] D')) : Sg g M_Fo_setEnd Q 53 [vR 530, z1, z2, vI x3, vR r4] [] D := by
  unfold Sg
  refine q_mask [false, true, true, false, false] (L' := [vR 530, vU, vU, vI x3, vR r4]) rfl ?_
  refine q_aload d_Fo_setEnd_53 rfl ?_
  refine p_getRN (k := 0) (b := (r4 + 1)) zc_Fr l_Fo_146 fr_Fr_top d_Fo_setEnd_55 k_r4 rfl ?_
  refine q_iload_n d_Fo_setEnd_58 rfl ?_
  refine p_callV (as := [vI x3]) (st := []) (a := (r4 + 1)) mc_Na_times mv_Na_times l_Fo_139 zc_Na rfl d_Fo_setEnd_59 rfl rfl rfl (zs_Fr_top k_r4) (CV.to ?_)
  exact h
theorem s_Fo_setEnd_62 {z1 : VV} {z2 : VV} {z3 : VV} {r4 : Nat} (k_r4 : zk r4 = (0, 4, 0)) (h : CV g M_Na_add [vR (r4 + 1), vR 536] D (fun D' => Sg g M_Fo_setEnd Q 74 [vR 530, vU, vU, vU, vR r4] [] D')) : Sg g M_Fo_setEnd Q 62 [vR 530, z1, z2, z3, vR r4] [] D := by
  unfold Sg
  refine q_mask [false, true, true, true, false] (L' := [vR 530, vU, vU, vU, vR r4]) rfl ?_
  refine q_aload d_Fo_setEnd_62 rfl ?_
  refine p_getRN (k := 0) (b := (r4 + 1)) zc_Fr l_Fo_146 fr_Fr_top d_Fo_setEnd_64 k_r4 rfl ?_
  refine q_aload_n d_Fo_setEnd_67 rfl ?_
  refine p_getR (k := 4) (b := 536) zc_Fo l_Fo_25 fr_Fo_sum d_Fo_setEnd_68 zk_530 rfl ?_
  refine p_callV (as := [vR 536]) (st := []) (a := (r4 + 1)) mc_Na_add mv_Na_add l_Fo_132 zc_Na rfl d_Fo_setEnd_71 rfl rfl rfl (zs_Fr_top k_r4) (CV.to ?_)
  exact h
theorem s_Fo_setEnd_74 {z0 : VV} {z1 : VV} {z2 : VV} {z3 : VV} {z4 : VV}  (h : Q none zE D) : Sg g M_Fo_setEnd Q 74 [z0, z1, z2, z3, z4] [] D := by
  unfold Sg
  refine q_mask [true, true, true, true, true] (L' := [vU, vU, vU, vU, vU]) rfl ?_
  exact q_vret d_Fo_setEnd_74 rfl ⟨Nat.le_refl _, Nat.le_refl _⟩ h
theorem s_Fo_rescale_0 {x2 : Int} {x3 : Int}  (h : CV g M_Na_times [vR 532, vI x3] D (fun D' => Sg g M_Fo_rescale Q 8 [vR 530, vR 1, vI x2, vI x3, vU] [] D')) : Sg g M_Fo_rescale Q 0 [vR 530, vR 1, vI x2, vI x3, vU] [] D := by
  unfold Sg
  refine q_aload_n d_Fo_rescale_0 rfl ?_
  refine p_getR (k := 1) (b := 532) zc_Fo l_Fo_18 fr_Fo_scale d_Fo_rescale_1 zk_530 rfl ?_
  refine q_iload_n d_Fo_rescale_4 rfl ?_
  refine p_callV (as := [vI x3]) (st := []) (a := 532) mc_Na_times mv_Na_times l_Fo_139 zc_Na rfl d_Fo_rescale_5 rfl rfl rfl zk_532 (CV.to ?_)
  exact h
theorem s_Fo_rescale_8 {x2 : Int} {x3 : Int} {z4 : VV}  (h : Sg g M_Fo_rescale Q 11 [vR 530, vR 1, vI x2, vI x3, vI 0] [] D) : Sg g M_Fo_rescale Q 8 [vR 530, vR 1, vI x2, vI x3, z4] [] D := by
  unfold Sg
  refine q_mask [false, false, false, false, true] (L' := [vR 530, vR 1, vI x2, vI x3, vU]) rfl ?_
  refine q_iconst d_Fo_rescale_8 (by decide) ?_
  refine q_istore d_Fo_rescale_9 (by decide) (L' := [vR 530, vR 1, vI x2, vI x3, vI 0]) rfl ?_
  exact h
theorem s_Fo_rescale_11 {x2 : Int} {x3 : Int} {x4 : Int}  (h : (((D 1 0) ≤ x4 → Q none zE D) ∧ (¬ (D 1 0) ≤ x4 → ((x4 = x2 → Sg g M_Fo_rescale Q 37 [vR 530, vR 1, vI x2, vI x3, vI x4] [] D) ∧ (¬ x4 = x2 → ((0 ≤ x4 ∧ x4 < 12)) ∧ CV g M_Na_times [vR (549 + 2 * x4.toNat), vI x3] D (fun D' => Sg g M_Fo_rescale Q 37 [vR 530, vR 1, vI x2, vI x3, vI x4] [] D')))))) : Sg g M_Fo_rescale Q 11 [vR 530, vR 1, vI x2, vI x3, vI x4] [] D := by
  unfold Sg
  refine q_iload d_Fo_rescale_11 rfl ?_
  refine q_aload_n d_Fo_rescale_13 rfl ?_
  refine p_getIN (k := 0) zc_Jo l_Fo_53 fi_Jo_count d_Fo_rescale_14 zk_1 ?_
  refine q_icmp_ge (tgt := 43) d_Fo_rescale_17 (by decide) (fun c1 => ?_) (fun c1 => ?_)
  · have h := h.1 (c1)
    exact q_vret d_Fo_rescale_43 rfl ⟨Nat.le_refl _, Nat.le_refl _⟩ h
  · have h := h.2 (c1)
    refine q_iload d_Fo_rescale_20 rfl ?_
    refine q_iload_n d_Fo_rescale_22 rfl ?_
    refine q_icmp_eq (tgt := 37) d_Fo_rescale_23 (by decide) (fun c2 => ?_) (fun c2 => ?_)
    · have h := h.1 (c2)
      exact h
    · have h := h.2 (c2)
      obtain ⟨o3, h⟩ := h
      refine q_aload_n d_Fo_rescale_26 rfl ?_
      refine p_getR (k := 0) (b := 531) zc_Fo l_Fo_11 fr_Fo_left d_Fo_rescale_27 zk_530 rfl ?_
      refine q_iload d_Fo_rescale_30 rfl ?_
      refine p_aald (b := (549 + 2 * x4.toNat)) d_Fo_rescale_32 zk_531 (by decide) o3 rfl ?_
      refine q_iload_n d_Fo_rescale_33 rfl ?_
      refine p_callV (as := [vI x3]) (st := []) (a := (549 + 2 * x4.toNat)) mc_Na_times mv_Na_times l_Fo_139 zc_Na rfl d_Fo_rescale_34 rfl rfl rfl (ze_4 (i := x4.toNat) zk_531 (by omega)) (CV.to ?_)
      exact h
theorem s_Fo_rescale_37 {x2 : Int} {x3 : Int} {x4 : Int}  (h : (R32 (x4 + 1)) ∧ Sg g M_Fo_rescale Q 11 [vR 530, vR 1, vI x2, vI x3, vI (x4 + 1)] [] D) : Sg g M_Fo_rescale Q 37 [vR 530, vR 1, vI x2, vI x3, vI x4] [] D := by
  unfold Sg
  obtain ⟨o1, h⟩ := h
  refine q_iinc d_Fo_rescale_37 rfl (by decide) o1 (L' := [vR 530, vR 1, vI x2, vI x3, vI (x4 + 1)]) rfl ?_
  refine q_goto (tgt := 11) d_Fo_rescale_40 (by decide) ?_
  exact h
end SEG
