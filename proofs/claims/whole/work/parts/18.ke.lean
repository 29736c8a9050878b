/-! printed by wip/whole/tools/seg.py: Ke_job, Ke_level, Ke_convex, Ke_clear, Ke_about, Ke_plan, Ke_ahead, Ke_print, Ke_character, Ke_compare, Ke_levelOf, Ke_near, Ke_speed, Ke_working, Ke_check, Ke_forgetPlans, Ke_fractionOf, Ke_leavesRoom -/
theorem zk_0 : zk 0 = (0, 0, 0) := by decide +kernel
theorem zk_9 : zk 9 = (0, 5, 0) := by decide +kernel
theorem zk_10 : zk 10 = (1, 24, 0) := by decide +kernel
theorem zk_11 : zk 11 = (1, 24, 0) := by decide +kernel
theorem zk_12 : zk 12 = (5, 24, 0) := by decide +kernel
theorem zk_13 : zk 13 = (5, 12, 1) := by decide +kernel
theorem zk_14 : zk 14 = (1, 200, 0) := by decide +kernel
theorem zk_15 : zk 15 = (0, 4, 0) := by decide +kernel
theorem zk_200 : zk 200 = (0, 5, 0) := by decide +kernel
theorem zk_203 : zk 203 = (5, 24, 0) := by decide +kernel
theorem zk_204 : zk 204 = (5, 12, 1) := by decide +kernel
theorem zk_205 : zk 205 = (1, 200, 0) := by decide +kernel
theorem zk_206 : zk 206 = (0, 4, 0) := by decide +kernel
theorem kb_m2 : (Int8.ofInt (-2)).toInt32 = Int32.ofInt (-2) ∧ R32 (-2) := ⟨by decide +kernel, by decide⟩
theorem ks_1000 : (Int16.ofInt 1000).toInt32 = Int32.ofInt 1000 ∧ R32 1000 := ⟨by decide +kernel, by decide⟩
theorem fi_Sp_ready : 0 < 6 ∧ (zft 9 0).1 ≠ 2 ∧ ((0 : Nat) : Int) = 0 := ⟨by decide, by decide +kernel, rfl⟩
theorem fr_Ke_foreseen : 3 < 9 ∧ zft 0 3 = (2, 200) := ⟨by decide, by decide +kernel⟩
theorem fr_Ke_foresight : 6 < 9 ∧ zft 0 6 = (2, 530) := ⟨by decide, by decide +kernel⟩
theorem fr_Ke_jobs : 0 < 9 ∧ zft 0 0 = (2, 1) := ⟨by decide, by decide +kernel⟩
theorem fr_Ke_levels : 1 < 9 ∧ zft 0 1 = (2, 6) := ⟨by decide, by decide +kernel⟩
theorem fr_Ke_planned : 2 < 9 ∧ zft 0 2 = (2, 9) := ⟨by decide, by decide +kernel⟩
theorem fr_Ke_planner : 5 < 9 ∧ zft 0 5 = (2, 457) := ⟨by decide, by decide +kernel⟩
theorem fr_Ke_reckoner : 4 < 9 ∧ zft 0 4 = (2, 391) := ⟨by decide, by decide +kernel⟩
theorem fr_Ke_splitter : 7 < 9 ∧ zft 0 7 = (2, 573) := ⟨by decide, by decide +kernel⟩
theorem fr_Ke_text : 8 < 9 ∧ zft 0 8 = (2, 703) := ⟨by decide, by decide +kernel⟩
theorem d_Ke_job_0 : decode prog_1_method_2_code 0 = .ok (.iload_n 1, 1) := by decide +kernel
theorem d_Ke_job_1 : decode prog_1_method_2_code 1 = .ok (.ifCond .lt 15, 3) := by decide +kernel
theorem d_Ke_job_4 : decode prog_1_method_2_code 4 = .ok (.iload_n 2, 1) := by decide +kernel
theorem d_Ke_job_5 : decode prog_1_method_2_code 5 = .ok (.sipush 200, 3) := by decide +kernel
theorem d_Ke_job_8 : decode prog_1_method_2_code 8 = .ok (.if_icmp .gt 8, 3) := by decide +kernel
theorem d_Ke_job_11 : decode prog_1_method_2_code 11 = .ok (.iload_n 1, 1) := by decide +kernel
theorem d_Ke_job_12 : decode prog_1_method_2_code 12 = .ok (.iload_n 2, 1) := by decide +kernel
theorem d_Ke_job_13 : decode prog_1_method_2_code 13 = .ok (.if_icmp .lt 5, 3) := by decide +kernel
theorem d_Ke_job_16 : decode prog_1_method_2_code 16 = .ok (.iconst (-1), 1) := by decide +kernel
theorem d_Ke_job_17 : decode prog_1_method_2_code 17 = .ok (.ireturn, 1) := by decide +kernel
theorem d_Ke_job_18 : decode prog_1_method_2_code 18 = .ok (.iload_n 3, 1) := by decide +kernel
theorem d_Ke_job_19 : decode prog_1_method_2_code 19 = .ok (.iconst 1, 1) := by decide +kernel
theorem d_Ke_job_20 : decode prog_1_method_2_code 20 = .ok (.if_icmp .lt 22, 3) := by decide +kernel
theorem d_Ke_job_23 : decode prog_1_method_2_code 23 = .ok (.iload_n 3, 1) := by decide +kernel
theorem d_Ke_job_24 : decode prog_1_method_2_code 24 = .ok (.sipush 1000, 3) := by decide +kernel
theorem d_Ke_job_27 : decode prog_1_method_2_code 27 = .ok (.if_icmp .gt 15, 3) := by decide +kernel
theorem d_Ke_job_30 : decode prog_1_method_2_code 30 = .ok (.aload_n 0, 1) := by decide +kernel
theorem d_Ke_job_31 : decode prog_1_method_2_code 31 = .ok (.getfield 12, 3) := by decide +kernel
theorem d_Ke_job_34 : decode prog_1_method_2_code 34 = .ok (.getfield 68, 3) := by decide +kernel
theorem d_Ke_job_37 : decode prog_1_method_2_code 37 = .ok (.bipush 12, 2) := by decide +kernel
theorem d_Ke_job_39 : decode prog_1_method_2_code 39 = .ok (.if_icmp .lt 5, 3) := by decide +kernel
theorem d_Ke_job_42 : decode prog_1_method_2_code 42 = .ok (.iconst (-1), 1) := by decide +kernel
theorem d_Ke_job_43 : decode prog_1_method_2_code 43 = .ok (.ireturn, 1) := by decide +kernel
theorem d_Ke_job_44 : decode prog_1_method_2_code 44 = .ok (.aload_n 0, 1) := by decide +kernel
theorem d_Ke_job_45 : decode prog_1_method_2_code 45 = .ok (.invokevirtual 72, 3) := by decide +kernel
theorem d_Ke_job_48 : decode prog_1_method_2_code 48 = .ok (.aload_n 0, 1) := by decide +kernel
theorem d_Ke_job_49 : decode prog_1_method_2_code 49 = .ok (.getfield 12, 3) := by decide +kernel
theorem d_Ke_job_52 : decode prog_1_method_2_code 52 = .ok (.iload_n 1, 1) := by decide +kernel
theorem d_Ke_job_53 : decode prog_1_method_2_code 53 = .ok (.iload_n 2, 1) := by decide +kernel
theorem d_Ke_job_54 : decode prog_1_method_2_code 54 = .ok (.iload_n 3, 1) := by decide +kernel
theorem d_Ke_job_55 : decode prog_1_method_2_code 55 = .ok (.invokevirtual 75, 3) := by decide +kernel
theorem d_Ke_job_58 : decode prog_1_method_2_code 58 = .ok (.ireturn, 1) := by decide +kernel
theorem d_Ke_level_0 : decode prog_1_method_3_code 0 = .ok (.iload_n 1, 1) := by decide +kernel
theorem d_Ke_level_1 : decode prog_1_method_3_code 1 = .ok (.iconst 1, 1) := by decide +kernel
theorem d_Ke_level_2 : decode prog_1_method_3_code 2 = .ok (.if_icmp .lt 20, 3) := by decide +kernel
theorem d_Ke_level_5 : decode prog_1_method_3_code 5 = .ok (.iload_n 1, 1) := by decide +kernel
theorem d_Ke_level_6 : decode prog_1_method_3_code 6 = .ok (.sipush 10000, 3) := by decide +kernel
theorem d_Ke_level_9 : decode prog_1_method_3_code 9 = .ok (.if_icmp .gt 13, 3) := by decide +kernel
theorem d_Ke_level_12 : decode prog_1_method_3_code 12 = .ok (.iload_n 2, 1) := by decide +kernel
theorem d_Ke_level_13 : decode prog_1_method_3_code 13 = .ok (.ifCond .lt 9, 3) := by decide +kernel
theorem d_Ke_level_16 : decode prog_1_method_3_code 16 = .ok (.iload_n 2, 1) := by decide +kernel
theorem d_Ke_level_17 : decode prog_1_method_3_code 17 = .ok (.ldc 79, 2) := by decide +kernel
theorem d_Ke_level_19 : decode prog_1_method_3_code 19 = .ok (.if_icmp .le 5, 3) := by decide +kernel
theorem d_Ke_level_22 : decode prog_1_method_3_code 22 = .ok (.iconst (-1), 1) := by decide +kernel
theorem d_Ke_level_23 : decode prog_1_method_3_code 23 = .ok (.ireturn, 1) := by decide +kernel
theorem d_Ke_level_24 : decode prog_1_method_3_code 24 = .ok (.aload_n 0, 1) := by decide +kernel
theorem d_Ke_level_25 : decode prog_1_method_3_code 25 = .ok (.getfield 19, 3) := by decide +kernel
theorem d_Ke_level_28 : decode prog_1_method_3_code 28 = .ok (.getfield 80, 3) := by decide +kernel
theorem d_Ke_level_31 : decode prog_1_method_3_code 31 = .ok (.bipush 8, 2) := by decide +kernel
theorem d_Ke_level_33 : decode prog_1_method_3_code 33 = .ok (.if_icmp .ge 23, 3) := by decide +kernel
theorem d_Ke_level_36 : decode prog_1_method_3_code 36 = .ok (.iload_n 1, 1) := by decide +kernel
theorem d_Ke_level_37 : decode prog_1_method_3_code 37 = .ok (.aload_n 0, 1) := by decide +kernel
theorem d_Ke_level_38 : decode prog_1_method_3_code 38 = .ok (.getfield 19, 3) := by decide +kernel
theorem d_Ke_level_41 : decode prog_1_method_3_code 41 = .ok (.aload_n 0, 1) := by decide +kernel
theorem d_Ke_level_42 : decode prog_1_method_3_code 42 = .ok (.getfield 19, 3) := by decide +kernel
theorem d_Ke_level_45 : decode prog_1_method_3_code 45 = .ok (.getfield 80, 3) := by decide +kernel
theorem d_Ke_level_48 : decode prog_1_method_3_code 48 = .ok (.iconst 1, 1) := by decide +kernel
theorem d_Ke_level_49 : decode prog_1_method_3_code 49 = .ok (.isub, 1) := by decide +kernel
theorem d_Ke_level_50 : decode prog_1_method_3_code 50 = .ok (.invokevirtual 81, 3) := by decide +kernel
theorem d_Ke_level_53 : decode prog_1_method_3_code 53 = .ok (.if_icmp .gt 5, 3) := by decide +kernel
theorem d_Ke_level_56 : decode prog_1_method_3_code 56 = .ok (.iconst (-1), 1) := by decide +kernel
theorem d_Ke_level_57 : decode prog_1_method_3_code 57 = .ok (.ireturn, 1) := by decide +kernel
theorem d_Ke_level_58 : decode prog_1_method_3_code 58 = .ok (.aload_n 0, 1) := by decide +kernel
theorem d_Ke_level_59 : decode prog_1_method_3_code 59 = .ok (.getfield 57, 3) := by decide +kernel
theorem d_Ke_level_62 : decode prog_1_method_3_code 62 = .ok (.iconst 0, 1) := by decide +kernel
theorem d_Ke_level_63 : decode prog_1_method_3_code 63 = .ok (.putfield 85, 3) := by decide +kernel
theorem d_Ke_level_66 : decode prog_1_method_3_code 66 = .ok (.aload_n 0, 1) := by decide +kernel
theorem d_Ke_level_67 : decode prog_1_method_3_code 67 = .ok (.getfield 19, 3) := by decide +kernel
theorem d_Ke_level_70 : decode prog_1_method_3_code 70 = .ok (.iload_n 1, 1) := by decide +kernel
theorem d_Ke_level_71 : decode prog_1_method_3_code 71 = .ok (.iload_n 2, 1) := by decide +kernel
theorem d_Ke_level_72 : decode prog_1_method_3_code 72 = .ok (.invokevirtual 89, 3) := by decide +kernel
theorem d_Ke_level_75 : decode prog_1_method_3_code 75 = .ok (.ireturn, 1) := by decide +kernel
theorem d_Ke_convex_0 : decode prog_1_method_4_code 0 = .ok (.aload_n 0, 1) := by decide +kernel
theorem d_Ke_convex_1 : decode prog_1_method_4_code 1 = .ok (.getfield 19, 3) := by decide +kernel
theorem d_Ke_convex_4 : decode prog_1_method_4_code 4 = .ok (.invokevirtual 92, 3) := by decide +kernel
theorem d_Ke_convex_7 : decode prog_1_method_4_code 7 = .ok (.ifCond .eq 7, 3) := by decide +kernel
theorem d_Ke_convex_10 : decode prog_1_method_4_code 10 = .ok (.iconst 1, 1) := by decide +kernel
theorem d_Ke_convex_11 : decode prog_1_method_4_code 11 = .ok (.goto 4, 3) := by decide +kernel
theorem d_Ke_convex_14 : decode prog_1_method_4_code 14 = .ok (.iconst 0, 1) := by decide +kernel
theorem d_Ke_convex_15 : decode prog_1_method_4_code 15 = .ok (.ireturn, 1) := by decide +kernel
theorem d_Ke_clear_0 : decode prog_1_method_5_code 0 = .ok (.aload_n 0, 1) := by decide +kernel
theorem d_Ke_clear_1 : decode prog_1_method_5_code 1 = .ok (.getfield 12, 3) := by decide +kernel
theorem d_Ke_clear_4 : decode prog_1_method_5_code 4 = .ok (.getfield 68, 3) := by decide +kernel
theorem d_Ke_clear_7 : decode prog_1_method_5_code 7 = .ok (.istore_n 1, 1) := by decide +kernel
theorem d_Ke_clear_8 : decode prog_1_method_5_code 8 = .ok (.aload_n 0, 1) := by decide +kernel
theorem d_Ke_clear_9 : decode prog_1_method_5_code 9 = .ok (.invokevirtual 72, 3) := by decide +kernel
theorem d_Ke_clear_12 : decode prog_1_method_5_code 12 = .ok (.aload_n 0, 1) := by decide +kernel
theorem d_Ke_clear_13 : decode prog_1_method_5_code 13 = .ok (.getfield 12, 3) := by decide +kernel
theorem d_Ke_clear_16 : decode prog_1_method_5_code 16 = .ok (.iconst 0, 1) := by decide +kernel
theorem d_Ke_clear_17 : decode prog_1_method_5_code 17 = .ok (.putfield 68, 3) := by decide +kernel
theorem d_Ke_clear_20 : decode prog_1_method_5_code 20 = .ok (.aload_n 0, 1) := by decide +kernel
theorem d_Ke_clear_21 : decode prog_1_method_5_code 21 = .ok (.getfield 19, 3) := by decide +kernel
theorem d_Ke_clear_24 : decode prog_1_method_5_code 24 = .ok (.iconst 0, 1) := by decide +kernel
theorem d_Ke_clear_25 : decode prog_1_method_5_code 25 = .ok (.putfield 80, 3) := by decide +kernel
theorem d_Ke_clear_28 : decode prog_1_method_5_code 28 = .ok (.iload_n 1, 1) := by decide +kernel
theorem d_Ke_clear_29 : decode prog_1_method_5_code 29 = .ok (.ireturn, 1) := by decide +kernel
theorem d_Ke_about_0 : decode prog_1_method_6_code 0 = .ok (.iload_n 1, 1) := by decide +kernel
theorem d_Ke_about_1 : decode prog_1_method_6_code 1 = .ok (.tableswitch 182 0 6 #[43, 51, 59, 84, 109, 134, 158], 43) := by decide +kernel
theorem d_Ke_about_44 : decode prog_1_method_6_code 44 = .ok (.aload_n 0, 1) := by decide +kernel
theorem d_Ke_about_45 : decode prog_1_method_6_code 45 = .ok (.getfield 12, 3) := by decide +kernel
theorem d_Ke_about_48 : decode prog_1_method_6_code 48 = .ok (.getfield 68, 3) := by decide +kernel
theorem d_Ke_about_51 : decode prog_1_method_6_code 51 = .ok (.ireturn, 1) := by decide +kernel
theorem d_Ke_about_52 : decode prog_1_method_6_code 52 = .ok (.aload_n 0, 1) := by decide +kernel
theorem d_Ke_about_53 : decode prog_1_method_6_code 53 = .ok (.getfield 19, 3) := by decide +kernel
theorem d_Ke_about_56 : decode prog_1_method_6_code 56 = .ok (.getfield 80, 3) := by decide +kernel
theorem d_Ke_about_59 : decode prog_1_method_6_code 59 = .ok (.ireturn, 1) := by decide +kernel
theorem d_Ke_about_60 : decode prog_1_method_6_code 60 = .ok (.aload_n 0, 1) := by decide +kernel
theorem d_Ke_about_61 : decode prog_1_method_6_code 61 = .ok (.getfield 12, 3) := by decide +kernel
theorem d_Ke_about_64 : decode prog_1_method_6_code 64 = .ok (.iload_n 2, 1) := by decide +kernel
theorem d_Ke_about_65 : decode prog_1_method_6_code 65 = .ok (.invokevirtual 96, 3) := by decide +kernel
theorem d_Ke_about_68 : decode prog_1_method_6_code 68 = .ok (.ifCond .eq 15, 3) := by decide +kernel
theorem d_Ke_about_71 : decode prog_1_method_6_code 71 = .ok (.aload_n 0, 1) := by decide +kernel
theorem d_Ke_about_72 : decode prog_1_method_6_code 72 = .ok (.getfield 12, 3) := by decide +kernel
theorem d_Ke_about_75 : decode prog_1_method_6_code 75 = .ok (.getfield 100, 3) := by decide +kernel
theorem d_Ke_about_78 : decode prog_1_method_6_code 78 = .ok (.iload_n 2, 1) := by decide +kernel
theorem d_Ke_about_79 : decode prog_1_method_6_code 79 = .ok (.iaload, 1) := by decide +kernel
theorem d_Ke_about_80 : decode prog_1_method_6_code 80 = .ok (.goto 4, 3) := by decide +kernel
theorem d_Ke_about_83 : decode prog_1_method_6_code 83 = .ok (.iconst (-1), 1) := by decide +kernel
theorem d_Ke_about_84 : decode prog_1_method_6_code 84 = .ok (.ireturn, 1) := by decide +kernel
theorem d_Ke_about_85 : decode prog_1_method_6_code 85 = .ok (.aload_n 0, 1) := by decide +kernel
theorem d_Ke_about_86 : decode prog_1_method_6_code 86 = .ok (.getfield 12, 3) := by decide +kernel
theorem d_Ke_about_89 : decode prog_1_method_6_code 89 = .ok (.iload_n 2, 1) := by decide +kernel
theorem d_Ke_about_90 : decode prog_1_method_6_code 90 = .ok (.invokevirtual 96, 3) := by decide +kernel
theorem d_Ke_about_93 : decode prog_1_method_6_code 93 = .ok (.ifCond .eq 15, 3) := by decide +kernel
theorem d_Ke_about_96 : decode prog_1_method_6_code 96 = .ok (.aload_n 0, 1) := by decide +kernel
theorem d_Ke_about_97 : decode prog_1_method_6_code 97 = .ok (.getfield 12, 3) := by decide +kernel
theorem d_Ke_about_100 : decode prog_1_method_6_code 100 = .ok (.getfield 104, 3) := by decide +kernel
theorem d_Ke_about_103 : decode prog_1_method_6_code 103 = .ok (.iload_n 2, 1) := by decide +kernel
theorem d_Ke_about_104 : decode prog_1_method_6_code 104 = .ok (.iaload, 1) := by decide +kernel
theorem d_Ke_about_105 : decode prog_1_method_6_code 105 = .ok (.goto 4, 3) := by decide +kernel
theorem d_Ke_about_108 : decode prog_1_method_6_code 108 = .ok (.iconst (-1), 1) := by decide +kernel
theorem d_Ke_about_109 : decode prog_1_method_6_code 109 = .ok (.ireturn, 1) := by decide +kernel
theorem d_Ke_about_110 : decode prog_1_method_6_code 110 = .ok (.aload_n 0, 1) := by decide +kernel
theorem d_Ke_about_111 : decode prog_1_method_6_code 111 = .ok (.getfield 12, 3) := by decide +kernel
theorem d_Ke_about_114 : decode prog_1_method_6_code 114 = .ok (.iload_n 2, 1) := by decide +kernel
theorem d_Ke_about_115 : decode prog_1_method_6_code 115 = .ok (.invokevirtual 96, 3) := by decide +kernel
theorem d_Ke_about_118 : decode prog_1_method_6_code 118 = .ok (.ifCond .eq 15, 3) := by decide +kernel
theorem d_Ke_about_121 : decode prog_1_method_6_code 121 = .ok (.aload_n 0, 1) := by decide +kernel
theorem d_Ke_about_122 : decode prog_1_method_6_code 122 = .ok (.getfield 12, 3) := by decide +kernel
theorem d_Ke_about_125 : decode prog_1_method_6_code 125 = .ok (.getfield 107, 3) := by decide +kernel
theorem d_Ke_about_128 : decode prog_1_method_6_code 128 = .ok (.iload_n 2, 1) := by decide +kernel
theorem d_Ke_about_129 : decode prog_1_method_6_code 129 = .ok (.iaload, 1) := by decide +kernel
theorem d_Ke_about_130 : decode prog_1_method_6_code 130 = .ok (.goto 4, 3) := by decide +kernel
theorem d_Ke_about_133 : decode prog_1_method_6_code 133 = .ok (.iconst (-1), 1) := by decide +kernel
theorem d_Ke_about_134 : decode prog_1_method_6_code 134 = .ok (.ireturn, 1) := by decide +kernel
theorem d_Ke_about_135 : decode prog_1_method_6_code 135 = .ok (.aload_n 0, 1) := by decide +kernel
theorem d_Ke_about_136 : decode prog_1_method_6_code 136 = .ok (.getfield 19, 3) := by decide +kernel
theorem d_Ke_about_139 : decode prog_1_method_6_code 139 = .ok (.iload_n 2, 1) := by decide +kernel
theorem d_Ke_about_140 : decode prog_1_method_6_code 140 = .ok (.invokevirtual 110, 3) := by decide +kernel
theorem d_Ke_about_143 : decode prog_1_method_6_code 143 = .ok (.ifCond .eq 14, 3) := by decide +kernel
theorem d_Ke_about_146 : decode prog_1_method_6_code 146 = .ok (.aload_n 0, 1) := by decide +kernel
theorem d_Ke_about_147 : decode prog_1_method_6_code 147 = .ok (.getfield 19, 3) := by decide +kernel
theorem d_Ke_about_150 : decode prog_1_method_6_code 150 = .ok (.iload_n 2, 1) := by decide +kernel
theorem d_Ke_about_151 : decode prog_1_method_6_code 151 = .ok (.invokevirtual 81, 3) := by decide +kernel
theorem d_Ke_about_154 : decode prog_1_method_6_code 154 = .ok (.goto 4, 3) := by decide +kernel
theorem d_Ke_about_157 : decode prog_1_method_6_code 157 = .ok (.iconst (-1), 1) := by decide +kernel
theorem d_Ke_about_158 : decode prog_1_method_6_code 158 = .ok (.ireturn, 1) := by decide +kernel
theorem d_Ke_about_159 : decode prog_1_method_6_code 159 = .ok (.aload_n 0, 1) := by decide +kernel
theorem d_Ke_about_160 : decode prog_1_method_6_code 160 = .ok (.getfield 19, 3) := by decide +kernel
theorem d_Ke_about_163 : decode prog_1_method_6_code 163 = .ok (.iload_n 2, 1) := by decide +kernel
theorem d_Ke_about_164 : decode prog_1_method_6_code 164 = .ok (.invokevirtual 110, 3) := by decide +kernel
theorem d_Ke_about_167 : decode prog_1_method_6_code 167 = .ok (.ifCond .eq 14, 3) := by decide +kernel
theorem d_Ke_about_170 : decode prog_1_method_6_code 170 = .ok (.aload_n 0, 1) := by decide +kernel
theorem d_Ke_about_171 : decode prog_1_method_6_code 171 = .ok (.getfield 19, 3) := by decide +kernel
theorem d_Ke_about_174 : decode prog_1_method_6_code 174 = .ok (.iload_n 2, 1) := by decide +kernel
theorem d_Ke_about_175 : decode prog_1_method_6_code 175 = .ok (.invokevirtual 111, 3) := by decide +kernel
theorem d_Ke_about_178 : decode prog_1_method_6_code 178 = .ok (.goto 4, 3) := by decide +kernel
theorem d_Ke_about_181 : decode prog_1_method_6_code 181 = .ok (.iconst (-1), 1) := by decide +kernel
theorem d_Ke_about_182 : decode prog_1_method_6_code 182 = .ok (.ireturn, 1) := by decide +kernel
theorem d_Ke_about_183 : decode prog_1_method_6_code 183 = .ok (.iconst (-1), 1) := by decide +kernel
theorem d_Ke_about_184 : decode prog_1_method_6_code 184 = .ok (.ireturn, 1) := by decide +kernel
theorem d_Ke_plan_0 : decode prog_1_method_7_code 0 = .ok (.aload_n 0, 1) := by decide +kernel
theorem d_Ke_plan_1 : decode prog_1_method_7_code 1 = .ok (.getfield 57, 3) := by decide +kernel
theorem d_Ke_plan_4 : decode prog_1_method_7_code 4 = .ok (.iconst 0, 1) := by decide +kernel
theorem d_Ke_plan_5 : decode prog_1_method_7_code 5 = .ok (.putfield 85, 3) := by decide +kernel
theorem d_Ke_plan_8 : decode prog_1_method_7_code 8 = .ok (.aload_n 0, 1) := by decide +kernel
theorem d_Ke_plan_9 : decode prog_1_method_7_code 9 = .ok (.getfield 43, 3) := by decide +kernel
theorem d_Ke_plan_12 : decode prog_1_method_7_code 12 = .ok (.aload_n 0, 1) := by decide +kernel
theorem d_Ke_plan_13 : decode prog_1_method_7_code 13 = .ok (.getfield 12, 3) := by decide +kernel
theorem d_Ke_plan_16 : decode prog_1_method_7_code 16 = .ok (.aload_n 0, 1) := by decide +kernel
theorem d_Ke_plan_17 : decode prog_1_method_7_code 17 = .ok (.getfield 26, 3) := by decide +kernel
theorem d_Ke_plan_20 : decode prog_1_method_7_code 20 = .ok (.invokevirtual 114, 3) := by decide +kernel
theorem d_Ke_plan_23 : decode prog_1_method_7_code 23 = .ok (.aload_n 0, 1) := by decide +kernel
theorem d_Ke_plan_24 : decode prog_1_method_7_code 24 = .ok (.getfield 36, 3) := by decide +kernel
theorem d_Ke_plan_27 : decode prog_1_method_7_code 27 = .ok (.aload_n 0, 1) := by decide +kernel
theorem d_Ke_plan_28 : decode prog_1_method_7_code 28 = .ok (.getfield 26, 3) := by decide +kernel
theorem d_Ke_plan_31 : decode prog_1_method_7_code 31 = .ok (.invokevirtual 118, 3) := by decide +kernel
theorem d_Ke_plan_34 : decode prog_1_method_7_code 34 = .ok (.aload_n 0, 1) := by decide +kernel
theorem d_Ke_plan_35 : decode prog_1_method_7_code 35 = .ok (.getfield 26, 3) := by decide +kernel
theorem d_Ke_plan_38 : decode prog_1_method_7_code 38 = .ok (.iconst 1, 1) := by decide +kernel
theorem d_Ke_plan_39 : decode prog_1_method_7_code 39 = .ok (.putfield 122, 3) := by decide +kernel
theorem d_Ke_plan_42 : decode prog_1_method_7_code 42 = .ok (.aload_n 0, 1) := by decide +kernel
theorem d_Ke_plan_43 : decode prog_1_method_7_code 43 = .ok (.getfield 26, 3) := by decide +kernel
theorem d_Ke_plan_46 : decode prog_1_method_7_code 46 = .ok (.getfield 123, 3) := by decide +kernel
theorem d_Ke_plan_49 : decode prog_1_method_7_code 49 = .ok (.ireturn, 1) := by decide +kernel
theorem d_Ke_ahead_0 : decode prog_1_method_8_code 0 = .ok (.aload_n 0, 1) := by decide +kernel
theorem d_Ke_ahead_1 : decode prog_1_method_8_code 1 = .ok (.getfield 50, 3) := by decide +kernel
theorem d_Ke_ahead_4 : decode prog_1_method_8_code 4 = .ok (.aload_n 0, 1) := by decide +kernel
theorem d_Ke_ahead_5 : decode prog_1_method_8_code 5 = .ok (.getfield 12, 3) := by decide +kernel
theorem d_Ke_ahead_8 : decode prog_1_method_8_code 8 = .ok (.aload_n 0, 1) := by decide +kernel
theorem d_Ke_ahead_9 : decode prog_1_method_8_code 9 = .ok (.getfield 30, 3) := by decide +kernel
theorem d_Ke_ahead_12 : decode prog_1_method_8_code 12 = .ok (.aload_n 0, 1) := by decide +kernel
theorem d_Ke_ahead_13 : decode prog_1_method_8_code 13 = .ok (.getfield 36, 3) := by decide +kernel
theorem d_Ke_ahead_16 : decode prog_1_method_8_code 16 = .ok (.invokevirtual 126, 3) := by decide +kernel
theorem d_Ke_ahead_19 : decode prog_1_method_8_code 19 = .ok (.aload_n 0, 1) := by decide +kernel
theorem d_Ke_ahead_20 : decode prog_1_method_8_code 20 = .ok (.getfield 36, 3) := by decide +kernel
theorem d_Ke_ahead_23 : decode prog_1_method_8_code 23 = .ok (.aload_n 0, 1) := by decide +kernel
theorem d_Ke_ahead_24 : decode prog_1_method_8_code 24 = .ok (.getfield 30, 3) := by decide +kernel
theorem d_Ke_ahead_27 : decode prog_1_method_8_code 27 = .ok (.invokevirtual 118, 3) := by decide +kernel
theorem d_Ke_ahead_30 : decode prog_1_method_8_code 30 = .ok (.aload_n 0, 1) := by decide +kernel
theorem d_Ke_ahead_31 : decode prog_1_method_8_code 31 = .ok (.getfield 30, 3) := by decide +kernel
theorem d_Ke_ahead_34 : decode prog_1_method_8_code 34 = .ok (.iconst 1, 1) := by decide +kernel
theorem d_Ke_ahead_35 : decode prog_1_method_8_code 35 = .ok (.putfield 122, 3) := by decide +kernel
theorem d_Ke_ahead_38 : decode prog_1_method_8_code 38 = .ok (.aload_n 0, 1) := by decide +kernel
theorem d_Ke_ahead_39 : decode prog_1_method_8_code 39 = .ok (.getfield 30, 3) := by decide +kernel
theorem d_Ke_ahead_42 : decode prog_1_method_8_code 42 = .ok (.getfield 123, 3) := by decide +kernel
theorem d_Ke_ahead_45 : decode prog_1_method_8_code 45 = .ok (.ireturn, 1) := by decide +kernel
theorem d_Ke_print_0 : decode prog_1_method_11_code 0 = .ok (.aload_n 0, 1) := by decide +kernel
theorem d_Ke_print_1 : decode prog_1_method_11_code 1 = .ok (.iload_n 1, 1) := by decide +kernel
theorem d_Ke_print_2 : decode prog_1_method_11_code 2 = .ok (.iload_n 2, 1) := by decide +kernel
theorem d_Ke_print_3 : decode prog_1_method_11_code 3 = .ok (.invokevirtual 150, 3) := by decide +kernel
theorem d_Ke_print_6 : decode prog_1_method_11_code 6 = .ok (.astore_n 3, 1) := by decide +kernel
theorem d_Ke_print_7 : decode prog_1_method_11_code 7 = .ok (.aload_n 3, 1) := by decide +kernel
theorem d_Ke_print_8 : decode prog_1_method_11_code 8 = .ok (.ifnonnull 5, 3) := by decide +kernel
theorem d_Ke_print_11 : decode prog_1_method_11_code 11 = .ok (.iconst (-1), 1) := by decide +kernel
theorem d_Ke_print_12 : decode prog_1_method_11_code 12 = .ok (.ireturn, 1) := by decide +kernel
theorem d_Ke_print_13 : decode prog_1_method_11_code 13 = .ok (.aload_n 0, 1) := by decide +kernel
theorem d_Ke_print_14 : decode prog_1_method_11_code 14 = .ok (.getfield 64, 3) := by decide +kernel
theorem d_Ke_print_17 : decode prog_1_method_11_code 17 = .ok (.aload_n 3, 1) := by decide +kernel
theorem d_Ke_print_18 : decode prog_1_method_11_code 18 = .ok (.invokevirtual 154, 3) := by decide +kernel
theorem d_Ke_print_21 : decode prog_1_method_11_code 21 = .ok (.ireturn, 1) := by decide +kernel
theorem d_Ke_character_0 : decode prog_1_method_12_code 0 = .ok (.aload_n 0, 1) := by decide +kernel
theorem d_Ke_character_1 : decode prog_1_method_12_code 1 = .ok (.getfield 64, 3) := by decide +kernel
theorem d_Ke_character_4 : decode prog_1_method_12_code 4 = .ok (.iload_n 1, 1) := by decide +kernel
theorem d_Ke_character_5 : decode prog_1_method_12_code 5 = .ok (.invokevirtual 158, 3) := by decide +kernel
theorem d_Ke_character_8 : decode prog_1_method_12_code 8 = .ok (.ireturn, 1) := by decide +kernel
theorem d_Ke_compare_0 : decode prog_1_method_13_code 0 = .ok (.aload_n 0, 1) := by decide +kernel
theorem d_Ke_compare_1 : decode prog_1_method_13_code 1 = .ok (.iload_n 1, 1) := by decide +kernel
theorem d_Ke_compare_2 : decode prog_1_method_13_code 2 = .ok (.iload_n 2, 1) := by decide +kernel
theorem d_Ke_compare_3 : decode prog_1_method_13_code 3 = .ok (.invokevirtual 150, 3) := by decide +kernel
theorem d_Ke_compare_6 : decode prog_1_method_13_code 6 = .ok (.astore 5, 2) := by decide +kernel
theorem d_Ke_compare_8 : decode prog_1_method_13_code 8 = .ok (.aload_n 0, 1) := by decide +kernel
theorem d_Ke_compare_9 : decode prog_1_method_13_code 9 = .ok (.iload_n 3, 1) := by decide +kernel
theorem d_Ke_compare_10 : decode prog_1_method_13_code 10 = .ok (.iload 4, 2) := by decide +kernel
theorem d_Ke_compare_12 : decode prog_1_method_13_code 12 = .ok (.invokevirtual 150, 3) := by decide +kernel
theorem d_Ke_compare_15 : decode prog_1_method_13_code 15 = .ok (.astore 6, 2) := by decide +kernel
theorem d_Ke_compare_17 : decode prog_1_method_13_code 17 = .ok (.aload 5, 2) := by decide +kernel
theorem d_Ke_compare_19 : decode prog_1_method_13_code 19 = .ok (.ifnull 8, 3) := by decide +kernel
theorem d_Ke_compare_22 : decode prog_1_method_13_code 22 = .ok (.aload 6, 2) := by decide +kernel
theorem d_Ke_compare_24 : decode prog_1_method_13_code 24 = .ok (.ifnonnull 6, 3) := by decide +kernel
theorem d_Ke_compare_27 : decode prog_1_method_13_code 27 = .ok (.bipush (-2), 2) := by decide +kernel
theorem d_Ke_compare_29 : decode prog_1_method_13_code 29 = .ok (.ireturn, 1) := by decide +kernel
theorem d_Ke_compare_30 : decode prog_1_method_13_code 30 = .ok (.aload_n 0, 1) := by decide +kernel
theorem d_Ke_compare_31 : decode prog_1_method_13_code 31 = .ok (.getfield 36, 3) := by decide +kernel
theorem d_Ke_compare_34 : decode prog_1_method_13_code 34 = .ok (.aload 5, 2) := by decide +kernel
theorem d_Ke_compare_36 : decode prog_1_method_13_code 36 = .ok (.aload 6, 2) := by decide +kernel
theorem d_Ke_compare_38 : decode prog_1_method_13_code 38 = .ok (.invokevirtual 161, 3) := by decide +kernel
theorem d_Ke_compare_41 : decode prog_1_method_13_code 41 = .ok (.ireturn, 1) := by decide +kernel
theorem d_Ke_levelOf_0 : decode prog_1_method_14_code 0 = .ok (.aload_n 0, 1) := by decide +kernel
theorem d_Ke_levelOf_1 : decode prog_1_method_14_code 1 = .ok (.getfield 57, 3) := by decide +kernel
theorem d_Ke_levelOf_4 : decode prog_1_method_14_code 4 = .ok (.getfield 85, 3) := by decide +kernel
theorem d_Ke_levelOf_7 : decode prog_1_method_14_code 7 = .ok (.ifCond .eq 23, 3) := by decide +kernel
theorem d_Ke_levelOf_10 : decode prog_1_method_14_code 10 = .ok (.aload_n 0, 1) := by decide +kernel
theorem d_Ke_levelOf_11 : decode prog_1_method_14_code 11 = .ok (.getfield 12, 3) := by decide +kernel
theorem d_Ke_levelOf_14 : decode prog_1_method_14_code 14 = .ok (.iload_n 1, 1) := by decide +kernel
theorem d_Ke_levelOf_15 : decode prog_1_method_14_code 15 = .ok (.invokevirtual 96, 3) := by decide +kernel
theorem d_Ke_levelOf_18 : decode prog_1_method_14_code 18 = .ok (.ifCond .eq 12, 3) := by decide +kernel
theorem d_Ke_levelOf_21 : decode prog_1_method_14_code 21 = .ok (.iload_n 2, 1) := by decide +kernel
theorem d_Ke_levelOf_22 : decode prog_1_method_14_code 22 = .ok (.ifCond .eq 11, 3) := by decide +kernel
theorem d_Ke_levelOf_25 : decode prog_1_method_14_code 25 = .ok (.iload_n 2, 1) := by decide +kernel
theorem d_Ke_levelOf_26 : decode prog_1_method_14_code 26 = .ok (.iconst 1, 1) := by decide +kernel
theorem d_Ke_levelOf_27 : decode prog_1_method_14_code 27 = .ok (.if_icmp .eq 6, 3) := by decide +kernel
theorem d_Ke_levelOf_30 : decode prog_1_method_14_code 30 = .ok (.bipush (-2), 2) := by decide +kernel
theorem d_Ke_levelOf_32 : decode prog_1_method_14_code 32 = .ok (.ireturn, 1) := by decide +kernel
theorem d_Ke_levelOf_33 : decode prog_1_method_14_code 33 = .ok (.iload_n 2, 1) := by decide +kernel
theorem d_Ke_levelOf_34 : decode prog_1_method_14_code 34 = .ok (.ifCond .ne 15, 3) := by decide +kernel
theorem d_Ke_levelOf_37 : decode prog_1_method_14_code 37 = .ok (.aload_n 0, 1) := by decide +kernel
theorem d_Ke_levelOf_38 : decode prog_1_method_14_code 38 = .ok (.getfield 57, 3) := by decide +kernel
theorem d_Ke_levelOf_41 : decode prog_1_method_14_code 41 = .ok (.getfield 165, 3) := by decide +kernel
theorem d_Ke_levelOf_44 : decode prog_1_method_14_code 44 = .ok (.iload_n 1, 1) := by decide +kernel
theorem d_Ke_levelOf_45 : decode prog_1_method_14_code 45 = .ok (.iaload, 1) := by decide +kernel
theorem d_Ke_levelOf_46 : decode prog_1_method_14_code 46 = .ok (.goto 12, 3) := by decide +kernel
theorem d_Ke_levelOf_49 : decode prog_1_method_14_code 49 = .ok (.aload_n 0, 1) := by decide +kernel
theorem d_Ke_levelOf_50 : decode prog_1_method_14_code 50 = .ok (.getfield 57, 3) := by decide +kernel
theorem d_Ke_levelOf_53 : decode prog_1_method_14_code 53 = .ok (.getfield 168, 3) := by decide +kernel
theorem d_Ke_levelOf_56 : decode prog_1_method_14_code 56 = .ok (.iload_n 1, 1) := by decide +kernel
theorem d_Ke_levelOf_57 : decode prog_1_method_14_code 57 = .ok (.iaload, 1) := by decide +kernel
theorem d_Ke_levelOf_58 : decode prog_1_method_14_code 58 = .ok (.ireturn, 1) := by decide +kernel
theorem d_Ke_near_0 : decode prog_1_method_15_code 0 = .ok (.dconst 0, 1) := by decide +kernel
theorem d_Ke_near_1 : decode prog_1_method_15_code 1 = .ok (.dstore_n 1, 1) := by decide +kernel
theorem d_Ke_near_2 : decode prog_1_method_15_code 2 = .ok (.iconst 0, 1) := by decide +kernel
theorem d_Ke_near_3 : decode prog_1_method_15_code 3 = .ok (.istore_n 3, 1) := by decide +kernel
theorem d_Ke_near_4 : decode prog_1_method_15_code 4 = .ok (.iload_n 3, 1) := by decide +kernel
theorem d_Ke_near_5 : decode prog_1_method_15_code 5 = .ok (.bipush 24, 2) := by decide +kernel
theorem d_Ke_near_7 : decode prog_1_method_15_code 7 = .ok (.if_icmp .ge 66, 3) := by decide +kernel
theorem d_Ke_near_10 : decode prog_1_method_15_code 10 = .ok (.aload_n 0, 1) := by decide +kernel
theorem d_Ke_near_11 : decode prog_1_method_15_code 11 = .ok (.getfield 26, 3) := by decide +kernel
theorem d_Ke_near_14 : decode prog_1_method_15_code 14 = .ok (.iload_n 3, 1) := by decide +kernel
theorem d_Ke_near_15 : decode prog_1_method_15_code 15 = .ok (.invokevirtual 138, 3) := by decide +kernel
theorem d_Ke_near_18 : decode prog_1_method_15_code 18 = .ok (.ifCond .eq 55, 3) := by decide +kernel
theorem d_Ke_near_21 : decode prog_1_method_15_code 21 = .ok (.aload_n 0, 1) := by decide +kernel
theorem d_Ke_near_22 : decode prog_1_method_15_code 22 = .ok (.getfield 26, 3) := by decide +kernel
theorem d_Ke_near_25 : decode prog_1_method_15_code 25 = .ok (.getfield 171, 3) := by decide +kernel
theorem d_Ke_near_28 : decode prog_1_method_15_code 28 = .ok (.iload_n 3, 1) := by decide +kernel
theorem d_Ke_near_29 : decode prog_1_method_15_code 29 = .ok (.aaload, 1) := by decide +kernel
theorem d_Ke_near_30 : decode prog_1_method_15_code 30 = .ok (.invokevirtual 175, 3) := by decide +kernel
theorem d_Ke_near_33 : decode prog_1_method_15_code 33 = .ok (.dstore 4, 2) := by decide +kernel
theorem d_Ke_near_35 : decode prog_1_method_15_code 35 = .ok (.dload_n 1, 1) := by decide +kernel
theorem d_Ke_near_36 : decode prog_1_method_15_code 36 = .ok (.aload_n 0, 1) := by decide +kernel
theorem d_Ke_near_37 : decode prog_1_method_15_code 37 = .ok (.getfield 26, 3) := by decide +kernel
theorem d_Ke_near_40 : decode prog_1_method_15_code 40 = .ok (.getfield 147, 3) := by decide +kernel
theorem d_Ke_near_43 : decode prog_1_method_15_code 43 = .ok (.iload_n 3, 1) := by decide +kernel
theorem d_Ke_near_44 : decode prog_1_method_15_code 44 = .ok (.iaload, 1) := by decide +kernel
theorem d_Ke_near_45 : decode prog_1_method_15_code 45 = .ok (.aload_n 0, 1) := by decide +kernel
theorem d_Ke_near_46 : decode prog_1_method_15_code 46 = .ok (.getfield 26, 3) := by decide +kernel
theorem d_Ke_near_49 : decode prog_1_method_15_code 49 = .ok (.getfield 144, 3) := by decide +kernel
theorem d_Ke_near_52 : decode prog_1_method_15_code 52 = .ok (.iload_n 3, 1) := by decide +kernel
theorem d_Ke_near_53 : decode prog_1_method_15_code 53 = .ok (.iaload, 1) := by decide +kernel
theorem d_Ke_near_54 : decode prog_1_method_15_code 54 = .ok (.isub, 1) := by decide +kernel
theorem d_Ke_near_55 : decode prog_1_method_15_code 55 = .ok (.i2d, 1) := by decide +kernel
theorem d_Ke_near_56 : decode prog_1_method_15_code 56 = .ok (.dload 4, 2) := by decide +kernel
theorem d_Ke_near_58 : decode prog_1_method_15_code 58 = .ok (.dload 4, 2) := by decide +kernel
theorem d_Ke_near_60 : decode prog_1_method_15_code 60 = .ok (.dmul, 1) := by decide +kernel
theorem d_Ke_near_61 : decode prog_1_method_15_code 61 = .ok (.dload 4, 2) := by decide +kernel
theorem d_Ke_near_63 : decode prog_1_method_15_code 63 = .ok (.dmul, 1) := by decide +kernel
theorem d_Ke_near_64 : decode prog_1_method_15_code 64 = .ok (.dmul, 1) := by decide +kernel
theorem d_Ke_near_65 : decode prog_1_method_15_code 65 = .ok (.dadd, 1) := by decide +kernel
theorem d_Ke_near_66 : decode prog_1_method_15_code 66 = .ok (.dstore_n 1, 1) := by decide +kernel
theorem d_Ke_near_67 : decode prog_1_method_15_code 67 = .ok (.iinc 3 1, 3) := by decide +kernel
theorem d_Ke_near_70 : decode prog_1_method_15_code 70 = .ok (.goto (-66), 3) := by decide +kernel
theorem d_Ke_near_73 : decode prog_1_method_15_code 73 = .ok (.dload_n 1, 1) := by decide +kernel
theorem d_Ke_near_74 : decode prog_1_method_15_code 74 = .ok (.dreturn, 1) := by decide +kernel
theorem d_Ke_speed_0 : decode prog_1_method_16_code 0 = .ok (.iconst 0, 1) := by decide +kernel
theorem d_Ke_speed_1 : decode prog_1_method_16_code 1 = .ok (.istore_n 3, 1) := by decide +kernel
theorem d_Ke_speed_2 : decode prog_1_method_16_code 2 = .ok (.iload_n 3, 1) := by decide +kernel
theorem d_Ke_speed_3 : decode prog_1_method_16_code 3 = .ok (.bipush 24, 2) := by decide +kernel
theorem d_Ke_speed_5 : decode prog_1_method_16_code 5 = .ok (.if_icmp .ge 63, 3) := by decide +kernel
theorem d_Ke_speed_8 : decode prog_1_method_16_code 8 = .ok (.aload_n 0, 1) := by decide +kernel
theorem d_Ke_speed_9 : decode prog_1_method_16_code 9 = .ok (.getfield 26, 3) := by decide +kernel
theorem d_Ke_speed_12 : decode prog_1_method_16_code 12 = .ok (.iload_n 3, 1) := by decide +kernel
theorem d_Ke_speed_13 : decode prog_1_method_16_code 13 = .ok (.invokevirtual 138, 3) := by decide +kernel
theorem d_Ke_speed_16 : decode prog_1_method_16_code 16 = .ok (.ifCond .eq 52, 3) := by decide +kernel
theorem d_Ke_speed_19 : decode prog_1_method_16_code 19 = .ok (.aload_n 0, 1) := by decide +kernel
theorem d_Ke_speed_20 : decode prog_1_method_16_code 20 = .ok (.getfield 26, 3) := by decide +kernel
theorem d_Ke_speed_23 : decode prog_1_method_16_code 23 = .ok (.getfield 144, 3) := by decide +kernel
theorem d_Ke_speed_26 : decode prog_1_method_16_code 26 = .ok (.iload_n 3, 1) := by decide +kernel
theorem d_Ke_speed_27 : decode prog_1_method_16_code 27 = .ok (.iaload, 1) := by decide +kernel
theorem d_Ke_speed_28 : decode prog_1_method_16_code 28 = .ok (.i2d, 1) := by decide +kernel
theorem d_Ke_speed_29 : decode prog_1_method_16_code 29 = .ok (.dload_n 1, 1) := by decide +kernel
theorem d_Ke_speed_30 : decode prog_1_method_16_code 30 = .ok (.dcmp .g, 1) := by decide +kernel
theorem d_Ke_speed_31 : decode prog_1_method_16_code 31 = .ok (.ifCond .gt 31, 3) := by decide +kernel
theorem d_Ke_speed_34 : decode prog_1_method_16_code 34 = .ok (.dload_n 1, 1) := by decide +kernel
theorem d_Ke_speed_35 : decode prog_1_method_16_code 35 = .ok (.aload_n 0, 1) := by decide +kernel
theorem d_Ke_speed_36 : decode prog_1_method_16_code 36 = .ok (.getfield 26, 3) := by decide +kernel
theorem d_Ke_speed_39 : decode prog_1_method_16_code 39 = .ok (.getfield 147, 3) := by decide +kernel
theorem d_Ke_speed_42 : decode prog_1_method_16_code 42 = .ok (.iload_n 3, 1) := by decide +kernel
theorem d_Ke_speed_43 : decode prog_1_method_16_code 43 = .ok (.iaload, 1) := by decide +kernel
theorem d_Ke_speed_44 : decode prog_1_method_16_code 44 = .ok (.i2d, 1) := by decide +kernel
theorem d_Ke_speed_45 : decode prog_1_method_16_code 45 = .ok (.dcmp .g, 1) := by decide +kernel
theorem d_Ke_speed_46 : decode prog_1_method_16_code 46 = .ok (.ifCond .ge 16, 3) := by decide +kernel
theorem d_Ke_speed_49 : decode prog_1_method_16_code 49 = .ok (.aload_n 0, 1) := by decide +kernel
theorem d_Ke_speed_50 : decode prog_1_method_16_code 50 = .ok (.getfield 26, 3) := by decide +kernel
theorem d_Ke_speed_53 : decode prog_1_method_16_code 53 = .ok (.getfield 171, 3) := by decide +kernel
theorem d_Ke_speed_56 : decode prog_1_method_16_code 56 = .ok (.iload_n 3, 1) := by decide +kernel
theorem d_Ke_speed_57 : decode prog_1_method_16_code 57 = .ok (.aaload, 1) := by decide +kernel
theorem d_Ke_speed_58 : decode prog_1_method_16_code 58 = .ok (.invokevirtual 175, 3) := by decide +kernel
theorem d_Ke_speed_61 : decode prog_1_method_16_code 61 = .ok (.dreturn, 1) := by decide +kernel
theorem d_Ke_speed_62 : decode prog_1_method_16_code 62 = .ok (.iinc 3 1, 3) := by decide +kernel
theorem d_Ke_speed_65 : decode prog_1_method_16_code 65 = .ok (.goto (-63), 3) := by decide +kernel
theorem d_Ke_speed_68 : decode prog_1_method_16_code 68 = .ok (.dconst 0, 1) := by decide +kernel
theorem d_Ke_speed_69 : decode prog_1_method_16_code 69 = .ok (.dreturn, 1) := by decide +kernel
theorem d_Ke_working_0 : decode prog_1_method_17_code 0 = .ok (.iload_n 2, 1) := by decide +kernel
theorem d_Ke_working_1 : decode prog_1_method_17_code 1 = .ok (.ifCond .lt 19, 3) := by decide +kernel
theorem d_Ke_working_4 : decode prog_1_method_17_code 4 = .ok (.iload_n 2, 1) := by decide +kernel
theorem d_Ke_working_5 : decode prog_1_method_17_code 5 = .ok (.sipush 200, 3) := by decide +kernel
theorem d_Ke_working_8 : decode prog_1_method_17_code 8 = .ok (.if_icmp .ge 12, 3) := by decide +kernel
theorem d_Ke_working_11 : decode prog_1_method_17_code 11 = .ok (.iload_n 1, 1) := by decide +kernel
theorem d_Ke_working_12 : decode prog_1_method_17_code 12 = .ok (.ifCond .eq 10, 3) := by decide +kernel
theorem d_Ke_working_15 : decode prog_1_method_17_code 15 = .ok (.iload_n 1, 1) := by decide +kernel
theorem d_Ke_working_16 : decode prog_1_method_17_code 16 = .ok (.iconst 1, 1) := by decide +kernel
theorem d_Ke_working_17 : decode prog_1_method_17_code 17 = .ok (.if_icmp .eq 5, 3) := by decide +kernel
theorem d_Ke_working_20 : decode prog_1_method_17_code 20 = .ok (.iconst (-1), 1) := by decide +kernel
theorem d_Ke_working_21 : decode prog_1_method_17_code 21 = .ok (.ireturn, 1) := by decide +kernel
theorem d_Ke_working_22 : decode prog_1_method_17_code 22 = .ok (.iload_n 1, 1) := by decide +kernel
theorem d_Ke_working_23 : decode prog_1_method_17_code 23 = .ok (.ifCond .ne 10, 3) := by decide +kernel
theorem d_Ke_working_26 : decode prog_1_method_17_code 26 = .ok (.aload_n 0, 1) := by decide +kernel
theorem d_Ke_working_27 : decode prog_1_method_17_code 27 = .ok (.getfield 26, 3) := by decide +kernel
theorem d_Ke_working_30 : decode prog_1_method_17_code 30 = .ok (.goto 7, 3) := by decide +kernel
theorem d_Ke_working_33 : decode prog_1_method_17_code 33 = .ok (.aload_n 0, 1) := by decide +kernel
theorem d_Ke_working_34 : decode prog_1_method_17_code 34 = .ok (.getfield 30, 3) := by decide +kernel
theorem d_Ke_working_37 : decode prog_1_method_17_code 37 = .ok (.astore_n 3, 1) := by decide +kernel
theorem d_Ke_working_38 : decode prog_1_method_17_code 38 = .ok (.aload_n 3, 1) := by decide +kernel
theorem d_Ke_working_39 : decode prog_1_method_17_code 39 = .ok (.getfield 122, 3) := by decide +kernel
theorem d_Ke_working_42 : decode prog_1_method_17_code 42 = .ok (.ifCond .eq 12, 3) := by decide +kernel
theorem d_Ke_working_45 : decode prog_1_method_17_code 45 = .ok (.aload_n 3, 1) := by decide +kernel
theorem d_Ke_working_46 : decode prog_1_method_17_code 46 = .ok (.getfield 181, 3) := by decide +kernel
theorem d_Ke_working_49 : decode prog_1_method_17_code 49 = .ok (.iload_n 2, 1) := by decide +kernel
theorem d_Ke_working_50 : decode prog_1_method_17_code 50 = .ok (.iaload, 1) := by decide +kernel
theorem d_Ke_working_51 : decode prog_1_method_17_code 51 = .ok (.goto 4, 3) := by decide +kernel
theorem d_Ke_working_54 : decode prog_1_method_17_code 54 = .ok (.iconst (-1), 1) := by decide +kernel
theorem d_Ke_working_55 : decode prog_1_method_17_code 55 = .ok (.ireturn, 1) := by decide +kernel
theorem d_Ke_check_0 : decode prog_1_method_18_code 0 = .ok (.aload_n 0, 1) := by decide +kernel
theorem d_Ke_check_1 : decode prog_1_method_18_code 1 = .ok (.getfield 26, 3) := by decide +kernel
theorem d_Ke_check_4 : decode prog_1_method_18_code 4 = .ok (.getfield 122, 3) := by decide +kernel
theorem d_Ke_check_7 : decode prog_1_method_18_code 7 = .ok (.ifCond .ne 5, 3) := by decide +kernel
theorem d_Ke_check_10 : decode prog_1_method_18_code 10 = .ok (.iconst (-1), 1) := by decide +kernel
theorem d_Ke_check_11 : decode prog_1_method_18_code 11 = .ok (.ireturn, 1) := by decide +kernel
theorem d_Ke_check_12 : decode prog_1_method_18_code 12 = .ok (.aload_n 0, 1) := by decide +kernel
theorem d_Ke_check_13 : decode prog_1_method_18_code 13 = .ok (.getfield 36, 3) := by decide +kernel
theorem d_Ke_check_16 : decode prog_1_method_18_code 16 = .ok (.aload_n 0, 1) := by decide +kernel
theorem d_Ke_check_17 : decode prog_1_method_18_code 17 = .ok (.getfield 26, 3) := by decide +kernel
theorem d_Ke_check_20 : decode prog_1_method_18_code 20 = .ok (.invokevirtual 184, 3) := by decide +kernel
theorem d_Ke_check_23 : decode prog_1_method_18_code 23 = .ok (.aload_n 0, 1) := by decide +kernel
theorem d_Ke_check_24 : decode prog_1_method_18_code 24 = .ok (.invokevirtual 187, 3) := by decide +kernel
theorem d_Ke_check_27 : decode prog_1_method_18_code 27 = .ok (.ifCond .eq 24, 3) := by decide +kernel
theorem d_Ke_check_30 : decode prog_1_method_18_code 30 = .ok (.aload_n 0, 1) := by decide +kernel
theorem d_Ke_check_31 : decode prog_1_method_18_code 31 = .ok (.getfield 36, 3) := by decide +kernel
theorem d_Ke_check_34 : decode prog_1_method_18_code 34 = .ok (.aload_n 0, 1) := by decide +kernel
theorem d_Ke_check_35 : decode prog_1_method_18_code 35 = .ok (.getfield 26, 3) := by decide +kernel
theorem d_Ke_check_38 : decode prog_1_method_18_code 38 = .ok (.aload_n 0, 1) := by decide +kernel
theorem d_Ke_check_39 : decode prog_1_method_18_code 39 = .ok (.getfield 12, 3) := by decide +kernel
theorem d_Ke_check_42 : decode prog_1_method_18_code 42 = .ok (.invokevirtual 190, 3) := by decide +kernel
theorem d_Ke_check_45 : decode prog_1_method_18_code 45 = .ok (.invokevirtual 194, 3) := by decide +kernel
theorem d_Ke_check_48 : decode prog_1_method_18_code 48 = .ok (.ifCond .ne 5, 3) := by decide +kernel
theorem d_Ke_check_51 : decode prog_1_method_18_code 51 = .ok (.iconst 0, 1) := by decide +kernel
theorem d_Ke_check_52 : decode prog_1_method_18_code 52 = .ok (.ireturn, 1) := by decide +kernel
theorem d_Ke_check_53 : decode prog_1_method_18_code 53 = .ok (.aload_n 0, 1) := by decide +kernel
theorem d_Ke_check_54 : decode prog_1_method_18_code 54 = .ok (.getfield 30, 3) := by decide +kernel
theorem d_Ke_check_57 : decode prog_1_method_18_code 57 = .ok (.getfield 122, 3) := by decide +kernel
theorem d_Ke_check_60 : decode prog_1_method_18_code 60 = .ok (.ifCond .eq 29, 3) := by decide +kernel
theorem d_Ke_check_63 : decode prog_1_method_18_code 63 = .ok (.aload_n 0, 1) := by decide +kernel
theorem d_Ke_check_64 : decode prog_1_method_18_code 64 = .ok (.getfield 36, 3) := by decide +kernel
theorem d_Ke_check_67 : decode prog_1_method_18_code 67 = .ok (.aload_n 0, 1) := by decide +kernel
theorem d_Ke_check_68 : decode prog_1_method_18_code 68 = .ok (.getfield 26, 3) := by decide +kernel
theorem d_Ke_check_71 : decode prog_1_method_18_code 71 = .ok (.getfield 198, 3) := by decide +kernel
theorem d_Ke_check_74 : decode prog_1_method_18_code 74 = .ok (.aload_n 0, 1) := by decide +kernel
theorem d_Ke_check_75 : decode prog_1_method_18_code 75 = .ok (.getfield 30, 3) := by decide +kernel
theorem d_Ke_check_78 : decode prog_1_method_18_code 78 = .ok (.getfield 198, 3) := by decide +kernel
theorem d_Ke_check_81 : decode prog_1_method_18_code 81 = .ok (.invokevirtual 161, 3) := by decide +kernel
theorem d_Ke_check_84 : decode prog_1_method_18_code 84 = .ok (.ifCond .le 5, 3) := by decide +kernel
theorem d_Ke_check_87 : decode prog_1_method_18_code 87 = .ok (.iconst 0, 1) := by decide +kernel
theorem d_Ke_check_88 : decode prog_1_method_18_code 88 = .ok (.ireturn, 1) := by decide +kernel
theorem d_Ke_check_89 : decode prog_1_method_18_code 89 = .ok (.iconst 1, 1) := by decide +kernel
theorem d_Ke_check_90 : decode prog_1_method_18_code 90 = .ok (.ireturn, 1) := by decide +kernel
theorem d_Ke_forgetPlans_0 : decode prog_1_method_19_code 0 = .ok (.aload_n 0, 1) := by decide +kernel
theorem d_Ke_forgetPlans_1 : decode prog_1_method_19_code 1 = .ok (.getfield 26, 3) := by decide +kernel
theorem d_Ke_forgetPlans_4 : decode prog_1_method_19_code 4 = .ok (.iconst 0, 1) := by decide +kernel
theorem d_Ke_forgetPlans_5 : decode prog_1_method_19_code 5 = .ok (.putfield 122, 3) := by decide +kernel
theorem d_Ke_forgetPlans_8 : decode prog_1_method_19_code 8 = .ok (.aload_n 0, 1) := by decide +kernel
theorem d_Ke_forgetPlans_9 : decode prog_1_method_19_code 9 = .ok (.getfield 30, 3) := by decide +kernel
theorem d_Ke_forgetPlans_12 : decode prog_1_method_19_code 12 = .ok (.iconst 0, 1) := by decide +kernel
theorem d_Ke_forgetPlans_13 : decode prog_1_method_19_code 13 = .ok (.putfield 122, 3) := by decide +kernel
theorem d_Ke_forgetPlans_16 : decode prog_1_method_19_code 16 = .ok (.aload_n 0, 1) := by decide +kernel
theorem d_Ke_forgetPlans_17 : decode prog_1_method_19_code 17 = .ok (.getfield 57, 3) := by decide +kernel
theorem d_Ke_forgetPlans_20 : decode prog_1_method_19_code 20 = .ok (.iconst 0, 1) := by decide +kernel
theorem d_Ke_forgetPlans_21 : decode prog_1_method_19_code 21 = .ok (.putfield 85, 3) := by decide +kernel
theorem d_Ke_forgetPlans_24 : decode prog_1_method_19_code 24 = .ok (.return_, 1) := by decide +kernel
theorem d_Ke_fractionOf_0 : decode prog_1_method_20_code 0 = .ok (.iload_n 1, 1) := by decide +kernel
theorem d_Ke_fractionOf_1 : decode prog_1_method_20_code 1 = .ok (.tableswitch 357 0 9 #[55, 80, 105, 140, 175, 209, 244, 279, 305, 331], 55) := by decide +kernel
theorem d_Ke_fractionOf_56 : decode prog_1_method_20_code 56 = .ok (.aload_n 0, 1) := by decide +kernel
theorem d_Ke_fractionOf_57 : decode prog_1_method_20_code 57 = .ok (.getfield 26, 3) := by decide +kernel
theorem d_Ke_fractionOf_60 : decode prog_1_method_20_code 60 = .ok (.iload_n 2, 1) := by decide +kernel
theorem d_Ke_fractionOf_61 : decode prog_1_method_20_code 61 = .ok (.invokevirtual 138, 3) := by decide +kernel
theorem d_Ke_fractionOf_64 : decode prog_1_method_20_code 64 = .ok (.ifCond .eq 15, 3) := by decide +kernel
theorem d_Ke_fractionOf_67 : decode prog_1_method_20_code 67 = .ok (.aload_n 0, 1) := by decide +kernel
theorem d_Ke_fractionOf_68 : decode prog_1_method_20_code 68 = .ok (.getfield 26, 3) := by decide +kernel
theorem d_Ke_fractionOf_71 : decode prog_1_method_20_code 71 = .ok (.getfield 171, 3) := by decide +kernel
theorem d_Ke_fractionOf_74 : decode prog_1_method_20_code 74 = .ok (.iload_n 2, 1) := by decide +kernel
theorem d_Ke_fractionOf_75 : decode prog_1_method_20_code 75 = .ok (.aaload, 1) := by decide +kernel
theorem d_Ke_fractionOf_76 : decode prog_1_method_20_code 76 = .ok (.goto 4, 3) := by decide +kernel
theorem d_Ke_fractionOf_79 : decode prog_1_method_20_code 79 = .ok (.aconst_null, 1) := by decide +kernel
theorem d_Ke_fractionOf_80 : decode prog_1_method_20_code 80 = .ok (.areturn, 1) := by decide +kernel
theorem d_Ke_fractionOf_81 : decode prog_1_method_20_code 81 = .ok (.aload_n 0, 1) := by decide +kernel
theorem d_Ke_fractionOf_82 : decode prog_1_method_20_code 82 = .ok (.getfield 30, 3) := by decide +kernel
theorem d_Ke_fractionOf_85 : decode prog_1_method_20_code 85 = .ok (.iload_n 2, 1) := by decide +kernel
theorem d_Ke_fractionOf_86 : decode prog_1_method_20_code 86 = .ok (.invokevirtual 138, 3) := by decide +kernel
theorem d_Ke_fractionOf_89 : decode prog_1_method_20_code 89 = .ok (.ifCond .eq 15, 3) := by decide +kernel
theorem d_Ke_fractionOf_92 : decode prog_1_method_20_code 92 = .ok (.aload_n 0, 1) := by decide +kernel
theorem d_Ke_fractionOf_93 : decode prog_1_method_20_code 93 = .ok (.getfield 30, 3) := by decide +kernel
theorem d_Ke_fractionOf_96 : decode prog_1_method_20_code 96 = .ok (.getfield 171, 3) := by decide +kernel
theorem d_Ke_fractionOf_99 : decode prog_1_method_20_code 99 = .ok (.iload_n 2, 1) := by decide +kernel
theorem d_Ke_fractionOf_100 : decode prog_1_method_20_code 100 = .ok (.aaload, 1) := by decide +kernel
theorem d_Ke_fractionOf_101 : decode prog_1_method_20_code 101 = .ok (.goto 4, 3) := by decide +kernel
theorem d_Ke_fractionOf_104 : decode prog_1_method_20_code 104 = .ok (.aconst_null, 1) := by decide +kernel
theorem d_Ke_fractionOf_105 : decode prog_1_method_20_code 105 = .ok (.areturn, 1) := by decide +kernel
theorem d_Ke_fractionOf_106 : decode prog_1_method_20_code 106 = .ok (.aload_n 0, 1) := by decide +kernel
theorem d_Ke_fractionOf_107 : decode prog_1_method_20_code 107 = .ok (.getfield 26, 3) := by decide +kernel
theorem d_Ke_fractionOf_110 : decode prog_1_method_20_code 110 = .ok (.getfield 122, 3) := by decide +kernel
theorem d_Ke_fractionOf_113 : decode prog_1_method_20_code 113 = .ok (.ifCond .eq 26, 3) := by decide +kernel
theorem d_Ke_fractionOf_116 : decode prog_1_method_20_code 116 = .ok (.aload_n 0, 1) := by decide +kernel
theorem d_Ke_fractionOf_117 : decode prog_1_method_20_code 117 = .ok (.getfield 12, 3) := by decide +kernel
theorem d_Ke_fractionOf_120 : decode prog_1_method_20_code 120 = .ok (.iload_n 2, 1) := by decide +kernel
theorem d_Ke_fractionOf_121 : decode prog_1_method_20_code 121 = .ok (.invokevirtual 96, 3) := by decide +kernel
theorem d_Ke_fractionOf_124 : decode prog_1_method_20_code 124 = .ok (.ifCond .eq 15, 3) := by decide +kernel
theorem d_Ke_fractionOf_127 : decode prog_1_method_20_code 127 = .ok (.aload_n 0, 1) := by decide +kernel
theorem d_Ke_fractionOf_128 : decode prog_1_method_20_code 128 = .ok (.getfield 26, 3) := by decide +kernel
theorem d_Ke_fractionOf_131 : decode prog_1_method_20_code 131 = .ok (.getfield 202, 3) := by decide +kernel
theorem d_Ke_fractionOf_134 : decode prog_1_method_20_code 134 = .ok (.iload_n 2, 1) := by decide +kernel
theorem d_Ke_fractionOf_135 : decode prog_1_method_20_code 135 = .ok (.aaload, 1) := by decide +kernel
theorem d_Ke_fractionOf_136 : decode prog_1_method_20_code 136 = .ok (.goto 4, 3) := by decide +kernel
theorem d_Ke_fractionOf_139 : decode prog_1_method_20_code 139 = .ok (.aconst_null, 1) := by decide +kernel
theorem d_Ke_fractionOf_140 : decode prog_1_method_20_code 140 = .ok (.areturn, 1) := by decide +kernel
theorem d_Ke_fractionOf_141 : decode prog_1_method_20_code 141 = .ok (.aload_n 0, 1) := by decide +kernel
theorem d_Ke_fractionOf_142 : decode prog_1_method_20_code 142 = .ok (.getfield 30, 3) := by decide +kernel
theorem d_Ke_fractionOf_145 : decode prog_1_method_20_code 145 = .ok (.getfield 122, 3) := by decide +kernel
theorem d_Ke_fractionOf_148 : decode prog_1_method_20_code 148 = .ok (.ifCond .eq 26, 3) := by decide +kernel
theorem d_Ke_fractionOf_151 : decode prog_1_method_20_code 151 = .ok (.aload_n 0, 1) := by decide +kernel
theorem d_Ke_fractionOf_152 : decode prog_1_method_20_code 152 = .ok (.getfield 12, 3) := by decide +kernel
theorem d_Ke_fractionOf_155 : decode prog_1_method_20_code 155 = .ok (.iload_n 2, 1) := by decide +kernel
theorem d_Ke_fractionOf_156 : decode prog_1_method_20_code 156 = .ok (.invokevirtual 96, 3) := by decide +kernel
theorem d_Ke_fractionOf_159 : decode prog_1_method_20_code 159 = .ok (.ifCond .eq 15, 3) := by decide +kernel
theorem d_Ke_fractionOf_162 : decode prog_1_method_20_code 162 = .ok (.aload_n 0, 1) := by decide +kernel
theorem d_Ke_fractionOf_163 : decode prog_1_method_20_code 163 = .ok (.getfield 30, 3) := by decide +kernel
theorem d_Ke_fractionOf_166 : decode prog_1_method_20_code 166 = .ok (.getfield 202, 3) := by decide +kernel
theorem d_Ke_fractionOf_169 : decode prog_1_method_20_code 169 = .ok (.iload_n 2, 1) := by decide +kernel
theorem d_Ke_fractionOf_170 : decode prog_1_method_20_code 170 = .ok (.aaload, 1) := by decide +kernel
theorem d_Ke_fractionOf_171 : decode prog_1_method_20_code 171 = .ok (.goto 4, 3) := by decide +kernel
theorem d_Ke_fractionOf_174 : decode prog_1_method_20_code 174 = .ok (.aconst_null, 1) := by decide +kernel
theorem d_Ke_fractionOf_175 : decode prog_1_method_20_code 175 = .ok (.areturn, 1) := by decide +kernel
theorem d_Ke_fractionOf_176 : decode prog_1_method_20_code 176 = .ok (.aload_n 0, 1) := by decide +kernel
theorem d_Ke_fractionOf_177 : decode prog_1_method_20_code 177 = .ok (.getfield 26, 3) := by decide +kernel
theorem d_Ke_fractionOf_180 : decode prog_1_method_20_code 180 = .ok (.getfield 122, 3) := by decide +kernel
theorem d_Ke_fractionOf_183 : decode prog_1_method_20_code 183 = .ok (.ifCond .eq 25, 3) := by decide +kernel
theorem d_Ke_fractionOf_186 : decode prog_1_method_20_code 186 = .ok (.aload_n 0, 1) := by decide +kernel
theorem d_Ke_fractionOf_187 : decode prog_1_method_20_code 187 = .ok (.getfield 12, 3) := by decide +kernel
theorem d_Ke_fractionOf_190 : decode prog_1_method_20_code 190 = .ok (.iload_n 2, 1) := by decide +kernel
theorem d_Ke_fractionOf_191 : decode prog_1_method_20_code 191 = .ok (.invokevirtual 96, 3) := by decide +kernel
theorem d_Ke_fractionOf_194 : decode prog_1_method_20_code 194 = .ok (.ifCond .eq 14, 3) := by decide +kernel
theorem d_Ke_fractionOf_197 : decode prog_1_method_20_code 197 = .ok (.aload_n 0, 1) := by decide +kernel
theorem d_Ke_fractionOf_198 : decode prog_1_method_20_code 198 = .ok (.getfield 43, 3) := by decide +kernel
theorem d_Ke_fractionOf_201 : decode prog_1_method_20_code 201 = .ok (.iload_n 2, 1) := by decide +kernel
theorem d_Ke_fractionOf_202 : decode prog_1_method_20_code 202 = .ok (.invokevirtual 205, 3) := by decide +kernel
theorem d_Ke_fractionOf_205 : decode prog_1_method_20_code 205 = .ok (.goto 4, 3) := by decide +kernel
theorem d_Ke_fractionOf_208 : decode prog_1_method_20_code 208 = .ok (.aconst_null, 1) := by decide +kernel
theorem d_Ke_fractionOf_209 : decode prog_1_method_20_code 209 = .ok (.areturn, 1) := by decide +kernel
theorem d_Ke_fractionOf_210 : decode prog_1_method_20_code 210 = .ok (.aload_n 0, 1) := by decide +kernel
theorem d_Ke_fractionOf_211 : decode prog_1_method_20_code 211 = .ok (.getfield 57, 3) := by decide +kernel
theorem d_Ke_fractionOf_214 : decode prog_1_method_20_code 214 = .ok (.getfield 85, 3) := by decide +kernel
theorem d_Ke_fractionOf_217 : decode prog_1_method_20_code 217 = .ok (.ifCond .eq 26, 3) := by decide +kernel
theorem d_Ke_fractionOf_220 : decode prog_1_method_20_code 220 = .ok (.aload_n 0, 1) := by decide +kernel
theorem d_Ke_fractionOf_221 : decode prog_1_method_20_code 221 = .ok (.getfield 12, 3) := by decide +kernel
theorem d_Ke_fractionOf_224 : decode prog_1_method_20_code 224 = .ok (.iload_n 2, 1) := by decide +kernel
theorem d_Ke_fractionOf_225 : decode prog_1_method_20_code 225 = .ok (.invokevirtual 96, 3) := by decide +kernel
theorem d_Ke_fractionOf_228 : decode prog_1_method_20_code 228 = .ok (.ifCond .eq 15, 3) := by decide +kernel
theorem d_Ke_fractionOf_231 : decode prog_1_method_20_code 231 = .ok (.aload_n 0, 1) := by decide +kernel
theorem d_Ke_fractionOf_232 : decode prog_1_method_20_code 232 = .ok (.getfield 57, 3) := by decide +kernel
theorem d_Ke_fractionOf_235 : decode prog_1_method_20_code 235 = .ok (.getfield 208, 3) := by decide +kernel
theorem d_Ke_fractionOf_238 : decode prog_1_method_20_code 238 = .ok (.iload_n 2, 1) := by decide +kernel
theorem d_Ke_fractionOf_239 : decode prog_1_method_20_code 239 = .ok (.aaload, 1) := by decide +kernel
theorem d_Ke_fractionOf_240 : decode prog_1_method_20_code 240 = .ok (.goto 4, 3) := by decide +kernel
theorem d_Ke_fractionOf_243 : decode prog_1_method_20_code 243 = .ok (.aconst_null, 1) := by decide +kernel
theorem d_Ke_fractionOf_244 : decode prog_1_method_20_code 244 = .ok (.areturn, 1) := by decide +kernel
theorem d_Ke_fractionOf_245 : decode prog_1_method_20_code 245 = .ok (.aload_n 0, 1) := by decide +kernel
theorem d_Ke_fractionOf_246 : decode prog_1_method_20_code 246 = .ok (.getfield 57, 3) := by decide +kernel
theorem d_Ke_fractionOf_249 : decode prog_1_method_20_code 249 = .ok (.getfield 85, 3) := by decide +kernel
theorem d_Ke_fractionOf_252 : decode prog_1_method_20_code 252 = .ok (.ifCond .eq 26, 3) := by decide +kernel
theorem d_Ke_fractionOf_255 : decode prog_1_method_20_code 255 = .ok (.aload_n 0, 1) := by decide +kernel
theorem d_Ke_fractionOf_256 : decode prog_1_method_20_code 256 = .ok (.getfield 12, 3) := by decide +kernel
theorem d_Ke_fractionOf_259 : decode prog_1_method_20_code 259 = .ok (.iload_n 2, 1) := by decide +kernel
theorem d_Ke_fractionOf_260 : decode prog_1_method_20_code 260 = .ok (.invokevirtual 96, 3) := by decide +kernel
theorem d_Ke_fractionOf_263 : decode prog_1_method_20_code 263 = .ok (.ifCond .eq 15, 3) := by decide +kernel
theorem d_Ke_fractionOf_266 : decode prog_1_method_20_code 266 = .ok (.aload_n 0, 1) := by decide +kernel
theorem d_Ke_fractionOf_267 : decode prog_1_method_20_code 267 = .ok (.getfield 57, 3) := by decide +kernel
theorem d_Ke_fractionOf_270 : decode prog_1_method_20_code 270 = .ok (.getfield 211, 3) := by decide +kernel
theorem d_Ke_fractionOf_273 : decode prog_1_method_20_code 273 = .ok (.iload_n 2, 1) := by decide +kernel
theorem d_Ke_fractionOf_274 : decode prog_1_method_20_code 274 = .ok (.aaload, 1) := by decide +kernel
theorem d_Ke_fractionOf_275 : decode prog_1_method_20_code 275 = .ok (.goto 4, 3) := by decide +kernel
theorem d_Ke_fractionOf_278 : decode prog_1_method_20_code 278 = .ok (.aconst_null, 1) := by decide +kernel
theorem d_Ke_fractionOf_279 : decode prog_1_method_20_code 279 = .ok (.areturn, 1) := by decide +kernel
theorem d_Ke_fractionOf_280 : decode prog_1_method_20_code 280 = .ok (.aload_n 0, 1) := by decide +kernel
theorem d_Ke_fractionOf_281 : decode prog_1_method_20_code 281 = .ok (.getfield 26, 3) := by decide +kernel
theorem d_Ke_fractionOf_284 : decode prog_1_method_20_code 284 = .ok (.getfield 122, 3) := by decide +kernel
theorem d_Ke_fractionOf_287 : decode prog_1_method_20_code 287 = .ok (.ifCond .eq 17, 3) := by decide +kernel
theorem d_Ke_fractionOf_290 : decode prog_1_method_20_code 290 = .ok (.iload_n 2, 1) := by decide +kernel
theorem d_Ke_fractionOf_291 : decode prog_1_method_20_code 291 = .ok (.ifCond .ne 13, 3) := by decide +kernel
theorem d_Ke_fractionOf_294 : decode prog_1_method_20_code 294 = .ok (.aload_n 0, 1) := by decide +kernel
theorem d_Ke_fractionOf_295 : decode prog_1_method_20_code 295 = .ok (.getfield 26, 3) := by decide +kernel
theorem d_Ke_fractionOf_298 : decode prog_1_method_20_code 298 = .ok (.getfield 198, 3) := by decide +kernel
theorem d_Ke_fractionOf_301 : decode prog_1_method_20_code 301 = .ok (.goto 4, 3) := by decide +kernel
theorem d_Ke_fractionOf_304 : decode prog_1_method_20_code 304 = .ok (.aconst_null, 1) := by decide +kernel
theorem d_Ke_fractionOf_305 : decode prog_1_method_20_code 305 = .ok (.areturn, 1) := by decide +kernel
theorem d_Ke_fractionOf_306 : decode prog_1_method_20_code 306 = .ok (.aload_n 0, 1) := by decide +kernel
theorem d_Ke_fractionOf_307 : decode prog_1_method_20_code 307 = .ok (.getfield 30, 3) := by decide +kernel
theorem d_Ke_fractionOf_310 : decode prog_1_method_20_code 310 = .ok (.getfield 122, 3) := by decide +kernel
theorem d_Ke_fractionOf_313 : decode prog_1_method_20_code 313 = .ok (.ifCond .eq 17, 3) := by decide +kernel
theorem d_Ke_fractionOf_316 : decode prog_1_method_20_code 316 = .ok (.iload_n 2, 1) := by decide +kernel
theorem d_Ke_fractionOf_317 : decode prog_1_method_20_code 317 = .ok (.ifCond .ne 13, 3) := by decide +kernel
theorem d_Ke_fractionOf_320 : decode prog_1_method_20_code 320 = .ok (.aload_n 0, 1) := by decide +kernel
theorem d_Ke_fractionOf_321 : decode prog_1_method_20_code 321 = .ok (.getfield 30, 3) := by decide +kernel
theorem d_Ke_fractionOf_324 : decode prog_1_method_20_code 324 = .ok (.getfield 198, 3) := by decide +kernel
theorem d_Ke_fractionOf_327 : decode prog_1_method_20_code 327 = .ok (.goto 4, 3) := by decide +kernel
theorem d_Ke_fractionOf_330 : decode prog_1_method_20_code 330 = .ok (.aconst_null, 1) := by decide +kernel
theorem d_Ke_fractionOf_331 : decode prog_1_method_20_code 331 = .ok (.areturn, 1) := by decide +kernel
theorem d_Ke_fractionOf_332 : decode prog_1_method_20_code 332 = .ok (.aload_n 0, 1) := by decide +kernel
theorem d_Ke_fractionOf_333 : decode prog_1_method_20_code 333 = .ok (.getfield 57, 3) := by decide +kernel
theorem d_Ke_fractionOf_336 : decode prog_1_method_20_code 336 = .ok (.getfield 85, 3) := by decide +kernel
theorem d_Ke_fractionOf_339 : decode prog_1_method_20_code 339 = .ok (.ifCond .eq 17, 3) := by decide +kernel
theorem d_Ke_fractionOf_342 : decode prog_1_method_20_code 342 = .ok (.iload_n 2, 1) := by decide +kernel
theorem d_Ke_fractionOf_343 : decode prog_1_method_20_code 343 = .ok (.ifCond .ne 13, 3) := by decide +kernel
theorem d_Ke_fractionOf_346 : decode prog_1_method_20_code 346 = .ok (.aload_n 0, 1) := by decide +kernel
theorem d_Ke_fractionOf_347 : decode prog_1_method_20_code 347 = .ok (.getfield 57, 3) := by decide +kernel
theorem d_Ke_fractionOf_350 : decode prog_1_method_20_code 350 = .ok (.getfield 214, 3) := by decide +kernel
theorem d_Ke_fractionOf_353 : decode prog_1_method_20_code 353 = .ok (.goto 4, 3) := by decide +kernel
theorem d_Ke_fractionOf_356 : decode prog_1_method_20_code 356 = .ok (.aconst_null, 1) := by decide +kernel
theorem d_Ke_fractionOf_357 : decode prog_1_method_20_code 357 = .ok (.areturn, 1) := by decide +kernel
theorem d_Ke_fractionOf_358 : decode prog_1_method_20_code 358 = .ok (.aconst_null, 1) := by decide +kernel
theorem d_Ke_fractionOf_359 : decode prog_1_method_20_code 359 = .ok (.areturn, 1) := by decide +kernel
theorem d_Ke_leavesRoom_0 : decode prog_1_method_21_code 0 = .ok (.iconst 0, 1) := by decide +kernel
theorem d_Ke_leavesRoom_1 : decode prog_1_method_21_code 1 = .ok (.istore_n 1, 1) := by decide +kernel
theorem d_Ke_leavesRoom_2 : decode prog_1_method_21_code 2 = .ok (.iload_n 1, 1) := by decide +kernel
theorem d_Ke_leavesRoom_3 : decode prog_1_method_21_code 3 = .ok (.aload_n 0, 1) := by decide +kernel
theorem d_Ke_leavesRoom_4 : decode prog_1_method_21_code 4 = .ok (.getfield 12, 3) := by decide +kernel
theorem d_Ke_leavesRoom_7 : decode prog_1_method_21_code 7 = .ok (.getfield 68, 3) := by decide +kernel
theorem d_Ke_leavesRoom_10 : decode prog_1_method_21_code 10 = .ok (.if_icmp .ge 84, 3) := by decide +kernel
theorem d_Ke_leavesRoom_13 : decode prog_1_method_21_code 13 = .ok (.iconst 0, 1) := by decide +kernel
theorem d_Ke_leavesRoom_14 : decode prog_1_method_21_code 14 = .ok (.istore_n 2, 1) := by decide +kernel
theorem d_Ke_leavesRoom_15 : decode prog_1_method_21_code 15 = .ok (.iload_n 2, 1) := by decide +kernel
theorem d_Ke_leavesRoom_16 : decode prog_1_method_21_code 16 = .ok (.aload_n 0, 1) := by decide +kernel
theorem d_Ke_leavesRoom_17 : decode prog_1_method_21_code 17 = .ok (.getfield 12, 3) := by decide +kernel
theorem d_Ke_leavesRoom_20 : decode prog_1_method_21_code 20 = .ok (.getfield 68, 3) := by decide +kernel
theorem d_Ke_leavesRoom_23 : decode prog_1_method_21_code 23 = .ok (.if_icmp .ge 65, 3) := by decide +kernel
theorem d_Ke_leavesRoom_26 : decode prog_1_method_21_code 26 = .ok (.aload_n 0, 1) := by decide +kernel
theorem d_Ke_leavesRoom_27 : decode prog_1_method_21_code 27 = .ok (.getfield 12, 3) := by decide +kernel
theorem d_Ke_leavesRoom_30 : decode prog_1_method_21_code 30 = .ok (.getfield 100, 3) := by decide +kernel
theorem d_Ke_leavesRoom_33 : decode prog_1_method_21_code 33 = .ok (.iload_n 1, 1) := by decide +kernel
theorem d_Ke_leavesRoom_34 : decode prog_1_method_21_code 34 = .ok (.iaload, 1) := by decide +kernel
theorem d_Ke_leavesRoom_35 : decode prog_1_method_21_code 35 = .ok (.istore_n 3, 1) := by decide +kernel
theorem d_Ke_leavesRoom_36 : decode prog_1_method_21_code 36 = .ok (.aload_n 0, 1) := by decide +kernel
theorem d_Ke_leavesRoom_37 : decode prog_1_method_21_code 37 = .ok (.getfield 12, 3) := by decide +kernel
theorem d_Ke_leavesRoom_40 : decode prog_1_method_21_code 40 = .ok (.getfield 104, 3) := by decide +kernel
theorem d_Ke_leavesRoom_43 : decode prog_1_method_21_code 43 = .ok (.iload_n 2, 1) := by decide +kernel
theorem d_Ke_leavesRoom_44 : decode prog_1_method_21_code 44 = .ok (.iaload, 1) := by decide +kernel
theorem d_Ke_leavesRoom_45 : decode prog_1_method_21_code 45 = .ok (.istore 4, 2) := by decide +kernel
theorem d_Ke_leavesRoom_47 : decode prog_1_method_21_code 47 = .ok (.iload_n 3, 1) := by decide +kernel
theorem d_Ke_leavesRoom_48 : decode prog_1_method_21_code 48 = .ok (.iload 4, 2) := by decide +kernel
theorem d_Ke_leavesRoom_50 : decode prog_1_method_21_code 50 = .ok (.if_icmp .ge 32, 3) := by decide +kernel
theorem d_Ke_leavesRoom_53 : decode prog_1_method_21_code 53 = .ok (.aload_n 0, 1) := by decide +kernel
theorem d_Ke_leavesRoom_54 : decode prog_1_method_21_code 54 = .ok (.getfield 36, 3) := by decide +kernel
theorem d_Ke_leavesRoom_57 : decode prog_1_method_21_code 57 = .ok (.aload_n 0, 1) := by decide +kernel
theorem d_Ke_leavesRoom_58 : decode prog_1_method_21_code 58 = .ok (.getfield 26, 3) := by decide +kernel
theorem d_Ke_leavesRoom_61 : decode prog_1_method_21_code 61 = .ok (.iload_n 3, 1) := by decide +kernel
theorem d_Ke_leavesRoom_62 : decode prog_1_method_21_code 62 = .ok (.iload 4, 2) := by decide +kernel
theorem d_Ke_leavesRoom_64 : decode prog_1_method_21_code 64 = .ok (.aload_n 0, 1) := by decide +kernel
theorem d_Ke_leavesRoom_65 : decode prog_1_method_21_code 65 = .ok (.getfield 12, 3) := by decide +kernel
theorem d_Ke_leavesRoom_68 : decode prog_1_method_21_code 68 = .ok (.iload_n 3, 1) := by decide +kernel
theorem d_Ke_leavesRoom_69 : decode prog_1_method_21_code 69 = .ok (.iload 4, 2) := by decide +kernel
theorem d_Ke_leavesRoom_71 : decode prog_1_method_21_code 71 = .ok (.invokevirtual 215, 3) := by decide +kernel
theorem d_Ke_leavesRoom_74 : decode prog_1_method_21_code 74 = .ok (.invokevirtual 218, 3) := by decide +kernel
theorem d_Ke_leavesRoom_77 : decode prog_1_method_21_code 77 = .ok (.ifCond .ne 5, 3) := by decide +kernel
theorem d_Ke_leavesRoom_80 : decode prog_1_method_21_code 80 = .ok (.iconst 0, 1) := by decide +kernel
theorem d_Ke_leavesRoom_81 : decode prog_1_method_21_code 81 = .ok (.ireturn, 1) := by decide +kernel
theorem d_Ke_leavesRoom_82 : decode prog_1_method_21_code 82 = .ok (.iinc 2 1, 3) := by decide +kernel
theorem d_Ke_leavesRoom_85 : decode prog_1_method_21_code 85 = .ok (.goto (-70), 3) := by decide +kernel
theorem d_Ke_leavesRoom_88 : decode prog_1_method_21_code 88 = .ok (.iinc 1 1, 3) := by decide +kernel
theorem d_Ke_leavesRoom_91 : decode prog_1_method_21_code 91 = .ok (.goto (-89), 3) := by decide +kernel
theorem d_Ke_leavesRoom_94 : decode prog_1_method_21_code 94 = .ok (.iconst 1, 1) := by decide +kernel
theorem d_Ke_leavesRoom_95 : decode prog_1_method_21_code 95 = .ok (.ireturn, 1) := by decide +kernel
section SEG
variable {g : GG} {Q : Option VV → EE → DD → Prop} {D : DD}
theorem s_Ke_job_0 {x1 : Int} {x2 : Int} {x3 : Int}  (h : ((x1 < 0 → Q (some (vI (-1))) zE D) ∧ (¬ x1 < 0 → ((200 < x2 → Q (some (vI (-1))) zE D) ∧ (¬ 200 < x2 → ((x1 < x2 → ((x3 < 1 → Q (some (vI (-1))) zE D) ∧ (¬ x3 < 1 → ((1000 < x3 → Q (some (vI (-1))) zE D) ∧ (¬ 1000 < x3 → (((D 1 0) < 12 → CV g M_Ke_forgetPlans [vR 0] D (fun D' => Sg g M_Ke_job Q 48 [vR 0, vI x1, vI x2, vI x3] [] D')) ∧ (¬ (D 1 0) < 12 → Q (some (vI (-1))) zE D))))))) ∧ (¬ x1 < x2 → Q (some (vI (-1))) zE D))))))) : Sg g M_Ke_job Q 0 [vR 0, vI x1, vI x2, vI x3] [] D := by
  unfold Sg
  refine q_iload_n d_Ke_job_0 rfl ?_
  refine q_if_lt (tgt := 16) d_Ke_job_1 (by decide) (fun c1 => ?_) (fun c1 => ?_)
  · have h := h.1 (c1)
    refine q_iconst d_Ke_job_16 (by decide) ?_
    exact q_iret d_Ke_job_17 (Or.inl rfl) ⟨Nat.le_refl _, Nat.le_refl _⟩ h
  · have h := h.2 (c1)
    refine q_iload_n d_Ke_job_4 rfl ?_
    refine q_sipush d_Ke_job_5 ks_200 ?_
    refine q_icmp_gt (tgt := 16) d_Ke_job_8 (by decide) (fun c2 => ?_) (fun c2 => ?_)
    · have h := h.1 (c2)
      refine q_iconst d_Ke_job_16 (by decide) ?_
      exact q_iret d_Ke_job_17 (Or.inl rfl) ⟨Nat.le_refl _, Nat.le_refl _⟩ h
    · have h := h.2 (c2)
      refine q_iload_n d_Ke_job_11 rfl ?_
      refine q_iload_n d_Ke_job_12 rfl ?_
      refine q_icmp_lt (tgt := 18) d_Ke_job_13 (by decide) (fun c3 => ?_) (fun c3 => ?_)
      · have h := h.1 (c3)
        refine q_iload_n d_Ke_job_18 rfl ?_
        refine q_iconst d_Ke_job_19 (by decide) ?_
        refine q_icmp_lt (tgt := 42) d_Ke_job_20 (by decide) (fun c4 => ?_) (fun c4 => ?_)
        · have h := h.1 (c4)
          refine q_iconst d_Ke_job_42 (by decide) ?_
          exact q_iret d_Ke_job_43 (Or.inl rfl) ⟨Nat.le_refl _, Nat.le_refl _⟩ h
        · have h := h.2 (c4)
          refine q_iload_n d_Ke_job_23 rfl ?_
          refine q_sipush d_Ke_job_24 ks_1000 ?_
          refine q_icmp_gt (tgt := 42) d_Ke_job_27 (by decide) (fun c5 => ?_) (fun c5 => ?_)
          · have h := h.1 (c5)
            refine q_iconst d_Ke_job_42 (by decide) ?_
            exact q_iret d_Ke_job_43 (Or.inl rfl) ⟨Nat.le_refl _, Nat.le_refl _⟩ h
          · have h := h.2 (c5)
            refine q_aload_n d_Ke_job_30 rfl ?_
            refine p_getR (k := 0) (b := 1) zc_Ke l_Ke_12 fr_Ke_jobs d_Ke_job_31 zk_0 rfl ?_
            refine p_getIN (k := 0) zc_Jo l_Ke_68 fi_Jo_count d_Ke_job_34 zk_1 ?_
            refine q_bipush d_Ke_job_37 kb_12 ?_
            refine q_icmp_lt (tgt := 44) d_Ke_job_39 (by decide) (fun c6 => ?_) (fun c6 => ?_)
            · have h := h.1 (c6)
              refine q_aload_n d_Ke_job_44 rfl ?_
              refine p_callV (as := []) (st := []) (a := 0) mc_Ke_forgetPlans mv_Ke_forgetPlans l_Ke_72 zc_Ke rfl d_Ke_job_45 rfl rfl rfl zk_0 (CV.to ?_)
              exact h
            · have h := h.2 (c6)
              refine q_iconst d_Ke_job_42 (by decide) ?_
              exact q_iret d_Ke_job_43 (Or.inl rfl) ⟨Nat.le_refl _, Nat.le_refl _⟩ h
      · have h := h.2 (c3)
        refine q_iconst d_Ke_job_16 (by decide) ?_
        exact q_iret d_Ke_job_17 (Or.inl rfl) ⟨Nat.le_refl _, Nat.le_refl _⟩ h
theorem s_Ke_job_48 {x1 : Int} {x2 : Int} {x3 : Int}  (h : CI g M_Jo_add [vR 1, vI x1, vI x2, vI x3] D (fun v1 D' => Sg g M_Ke_job Q 58 [vR 0, vI x1, vI x2, vI x3] [vI v1] D')) : Sg g M_Ke_job Q 48 [vR 0, vI x1, vI x2, vI x3] [] D := by
  unfold Sg
  refine q_aload_n d_Ke_job_48 rfl ?_
  refine p_getR (k := 0) (b := 1) zc_Ke l_Ke_12 fr_Ke_jobs d_Ke_job_49 zk_0 rfl ?_
  refine q_iload_n d_Ke_job_52 rfl ?_
  refine q_iload_n d_Ke_job_53 rfl ?_
  refine q_iload_n d_Ke_job_54 rfl ?_
  refine p_callV (as := [vI x1, vI x2, vI x3]) (st := []) (a := 1) mc_Jo_add mv_Jo_add l_Ke_75 zc_Jo rfl d_Ke_job_55 rfl rfl rfl zk_1 (CI.to ?_)
  exact h
theorem s_Ke_job_58 {z0 : VV} {z1 : VV} {z2 : VV} {z3 : VV} {y0 : Int}  (h : Q (some (vI y0)) zE D) : Sg g M_Ke_job Q 58 [z0, z1, z2, z3] [vI y0] D := by
  unfold Sg
  refine q_mask [true, true, true, true] (L' := [vU, vU, vU, vU]) rfl ?_
  exact q_iret d_Ke_job_58 (Or.inl rfl) ⟨Nat.le_refl _, Nat.le_refl _⟩ h
theorem s_Ke_level_0 {x1 : Int} {x2 : Int}  (h : ((x1 < 1 → Q (some (vI (-1))) zE D) ∧ (¬ x1 < 1 → ((10000 < x1 → Q (some (vI (-1))) zE D) ∧ (¬ 10000 < x1 → ((x2 < 0 → Q (some (vI (-1))) zE D) ∧ (¬ x2 < 0 → ((x2 ≤ 1000000 → ((8 ≤ (D 6 0) → Q (some (vI (-1))) zE D) ∧ (¬ 8 ≤ (D 6 0) → (R32 ((D 6 0) - 1)) ∧ CI g M_Le_rateOf [vR 6, vI ((D 6 0) - 1)] D (fun v7 D' => Sg g M_Ke_level Q 53 [vR 0, vI x1, vI x2] [vI v7, vI x1] D')))) ∧ (¬ x2 ≤ 1000000 → Q (some (vI (-1))) zE D))))))))) : Sg g M_Ke_level Q 0 [vR 0, vI x1, vI x2] [] D := by
  unfold Sg
  refine q_iload_n d_Ke_level_0 rfl ?_
  refine q_iconst d_Ke_level_1 (by decide) ?_
  refine q_icmp_lt (tgt := 22) d_Ke_level_2 (by decide) (fun c1 => ?_) (fun c1 => ?_)
  · have h := h.1 (c1)
    refine q_iconst d_Ke_level_22 (by decide) ?_
    exact q_iret d_Ke_level_23 (Or.inl rfl) ⟨Nat.le_refl _, Nat.le_refl _⟩ h
  · have h := h.2 (c1)
    refine q_iload_n d_Ke_level_5 rfl ?_
    refine q_sipush d_Ke_level_6 ks_10000 ?_
    refine q_icmp_gt (tgt := 22) d_Ke_level_9 (by decide) (fun c2 => ?_) (fun c2 => ?_)
    · have h := h.1 (c2)
      refine q_iconst d_Ke_level_22 (by decide) ?_
      exact q_iret d_Ke_level_23 (Or.inl rfl) ⟨Nat.le_refl _, Nat.le_refl _⟩ h
    · have h := h.2 (c2)
      refine q_iload_n d_Ke_level_12 rfl ?_
      refine q_if_lt (tgt := 22) d_Ke_level_13 (by decide) (fun c3 => ?_) (fun c3 => ?_)
      · have h := h.1 (c3)
        refine q_iconst d_Ke_level_22 (by decide) ?_
        exact q_iret d_Ke_level_23 (Or.inl rfl) ⟨Nat.le_refl _, Nat.le_refl _⟩ h
      · have h := h.2 (c3)
        refine q_iload_n d_Ke_level_16 rfl ?_
        refine q_ldc (x := 1000000) l_Ke_79 d_Ke_level_17 (by decide) ?_
        refine q_icmp_le (tgt := 24) d_Ke_level_19 (by decide) (fun c4 => ?_) (fun c4 => ?_)
        · have h := h.1 (c4)
          refine q_aload_n d_Ke_level_24 rfl ?_
          refine p_getR (k := 1) (b := 6) zc_Ke l_Ke_19 fr_Ke_levels d_Ke_level_25 zk_0 rfl ?_
          refine p_getIN (k := 0) zc_Le l_Ke_80 fi_Le_count d_Ke_level_28 zk_6 ?_
          refine q_bipush d_Ke_level_31 kb_8 ?_
          refine q_icmp_ge (tgt := 56) d_Ke_level_33 (by decide) (fun c5 => ?_) (fun c5 => ?_)
          · have h := h.1 (c5)
            refine q_iconst d_Ke_level_56 (by decide) ?_
            exact q_iret d_Ke_level_57 (Or.inl rfl) ⟨Nat.le_refl _, Nat.le_refl _⟩ h
          · have h := h.2 (c5)
            obtain ⟨o6, h⟩ := h
            refine q_iload_n d_Ke_level_36 rfl ?_
            refine q_aload_n d_Ke_level_37 rfl ?_
            refine p_getR (k := 1) (b := 6) zc_Ke l_Ke_19 fr_Ke_levels d_Ke_level_38 zk_0 rfl ?_
            refine q_aload_n d_Ke_level_41 rfl ?_
            refine p_getR (k := 1) (b := 6) zc_Ke l_Ke_19 fr_Ke_levels d_Ke_level_42 zk_0 rfl ?_
            refine p_getIN (k := 0) zc_Le l_Ke_80 fi_Le_count d_Ke_level_45 zk_6 ?_
            refine q_iconst d_Ke_level_48 (by decide) ?_
            refine q_isub d_Ke_level_49 o6 ?_
            refine p_callV (as := [vI ((D 6 0) - 1)]) (st := [vI x1]) (a := 6) mc_Le_rateOf mv_Le_rateOf l_Ke_81 zc_Le rfl d_Ke_level_50 rfl rfl rfl zk_6 (CI.to ?_)
            exact h
        · have h := h.2 (c4)
          refine q_iconst d_Ke_level_22 (by decide) ?_
          exact q_iret d_Ke_level_23 (Or.inl rfl) ⟨Nat.le_refl _, Nat.le_refl _⟩ h
theorem s_Ke_level_53 {x1 : Int} {x2 : Int} {y0 : Int} {y1 : Int}  (h : ((y0 < y1 → (∀ D2, D2 = zw D 573 0 0 → CI g M_Le_add [vR 6, vI x1, vI x2] D2 (fun v4 D' => Sg g M_Ke_level Q 75 [vR 0, vI x1, vI x2] [vI v4] D'))) ∧ (¬ y0 < y1 → Q (some (vI (-1))) zE D))) : Sg g M_Ke_level Q 53 [vR 0, vI x1, vI x2] [vI y0, vI y1] D := by
  unfold Sg
  refine q_icmp_gt (tgt := 58) d_Ke_level_53 (by decide) (fun c1 => ?_) (fun c1 => ?_)
  · have h := h.1 (c1)
    refine q_aload_n d_Ke_level_58 rfl ?_
    refine p_getR (k := 7) (b := 573) zc_Ke l_Ke_57 fr_Ke_splitter d_Ke_level_59 zk_0 rfl ?_
    refine q_iconst d_Ke_level_62 (by decide) ?_
    refine p_putIN (k := 0) zc_Sp l_Ke_85 fp_Sp_ready (Or.inr ⟨rfl, by decide⟩) d_Ke_level_63 zk_573 (fun D2 e3 => ?_)
    have h := h D2 e3
    refine q_aload_n d_Ke_level_66 rfl ?_
    refine p_getR (k := 1) (b := 6) zc_Ke l_Ke_19 fr_Ke_levels d_Ke_level_67 zk_0 rfl ?_
    refine q_iload_n d_Ke_level_70 rfl ?_
    refine q_iload_n d_Ke_level_71 rfl ?_
    refine p_callV (as := [vI x1, vI x2]) (st := []) (a := 6) mc_Le_add mv_Le_add l_Ke_89 zc_Le rfl d_Ke_level_72 rfl rfl rfl zk_6 (CI.to ?_)
    exact h
  · have h := h.2 (c1)
    refine q_iconst d_Ke_level_56 (by decide) ?_
    exact q_iret d_Ke_level_57 (Or.inl rfl) ⟨Nat.le_refl _, Nat.le_refl _⟩ h
theorem s_Ke_level_75 {z0 : VV} {z1 : VV} {z2 : VV} {y0 : Int}  (h : Q (some (vI y0)) zE D) : Sg g M_Ke_level Q 75 [z0, z1, z2] [vI y0] D := by
  unfold Sg
  refine q_mask [true, true, true] (L' := [vU, vU, vU]) rfl ?_
  exact q_iret d_Ke_level_75 (Or.inl rfl) ⟨Nat.le_refl _, Nat.le_refl _⟩ h
theorem s_Ke_convex_0   (h : CI g M_Le_areConvex [vR 6] D (fun v1 D' => Sg g M_Ke_convex Q 7 [vR 0] [vI v1] D')) : Sg g M_Ke_convex Q 0 [vR 0] [] D := by
  unfold Sg
  refine q_aload_n d_Ke_convex_0 rfl ?_
  refine p_getR (k := 1) (b := 6) zc_Ke l_Ke_19 fr_Ke_levels d_Ke_convex_1 zk_0 rfl ?_
  refine p_callV (as := []) (st := []) (a := 6) mc_Le_areConvex mv_Le_areConvex l_Ke_92 zc_Le rfl d_Ke_convex_4 rfl rfl rfl zk_6 (CI.to ?_)
  exact h
theorem s_Ke_convex_7 {z0 : VV} {y0 : Int}  (h : ((y0 = 0 → Q (some (vI 0)) zE D) ∧ (¬ y0 = 0 → Q (some (vI 1)) zE D))) : Sg g M_Ke_convex Q 7 [z0] [vI y0] D := by
  unfold Sg
  refine q_mask [true] (L' := [vU]) rfl ?_
  refine q_if_eq (tgt := 14) d_Ke_convex_7 (by decide) (fun c1 => ?_) (fun c1 => ?_)
  · have h := h.1 (c1)
    refine q_iconst d_Ke_convex_14 (by decide) ?_
    exact q_iret d_Ke_convex_15 (Or.inl rfl) ⟨Nat.le_refl _, Nat.le_refl _⟩ h
  · have h := h.2 (c1)
    refine q_iconst d_Ke_convex_10 (by decide) ?_
    refine q_goto (tgt := 15) d_Ke_convex_11 (by decide) ?_
    exact q_iret d_Ke_convex_15 (Or.inl rfl) ⟨Nat.le_refl _, Nat.le_refl _⟩ h
theorem s_Ke_clear_0   (h : CV g M_Ke_forgetPlans [vR 0] D (fun D' => Sg g M_Ke_clear Q 12 [vR 0, vI (D 1 0)] [] D')) : Sg g M_Ke_clear Q 0 [vR 0, vU] [] D := by
  unfold Sg
  refine q_aload_n d_Ke_clear_0 rfl ?_
  refine p_getR (k := 0) (b := 1) zc_Ke l_Ke_12 fr_Ke_jobs d_Ke_clear_1 zk_0 rfl ?_
  refine p_getIN (k := 0) zc_Jo l_Ke_68 fi_Jo_count d_Ke_clear_4 zk_1 ?_
  refine q_istore_n d_Ke_clear_7 (by decide) (L' := [vR 0, vI (D 1 0)]) rfl ?_
  refine q_aload_n d_Ke_clear_8 rfl ?_
  refine p_callV (as := []) (st := []) (a := 0) mc_Ke_forgetPlans mv_Ke_forgetPlans l_Ke_72 zc_Ke rfl d_Ke_clear_9 rfl rfl rfl zk_0 (CV.to ?_)
  exact h
theorem s_Ke_clear_12 {x1 : Int}  (h : (∀ D1, D1 = zw D 1 0 0 → (∀ D3, D3 = zw D1 6 0 0 → Q (some (vI x1)) zE D3))) : Sg g M_Ke_clear Q 12 [vR 0, vI x1] [] D := by
  unfold Sg
  refine q_aload_n d_Ke_clear_12 rfl ?_
  refine p_getR (k := 0) (b := 1) zc_Ke l_Ke_12 fr_Ke_jobs d_Ke_clear_13 zk_0 rfl ?_
  refine q_iconst d_Ke_clear_16 (by decide) ?_
  refine p_putIN (k := 0) zc_Jo l_Ke_68 fp_Jo_count (Or.inl rfl) d_Ke_clear_17 zk_1 (fun D1 e2 => ?_)
  have h := h D1 e2
  refine q_aload_n d_Ke_clear_20 rfl ?_
  refine p_getR (k := 1) (b := 6) zc_Ke l_Ke_19 fr_Ke_levels d_Ke_clear_21 zk_0 rfl ?_
  refine q_iconst d_Ke_clear_24 (by decide) ?_
  refine p_putIN (k := 0) zc_Le l_Ke_80 fp_Le_count (Or.inl rfl) d_Ke_clear_25 zk_6 (fun D3 e4 => ?_)
  have h := h D3 e4
  refine q_iload_n d_Ke_clear_28 rfl ?_
  exact q_iret d_Ke_clear_29 (Or.inl rfl) ⟨Nat.le_refl _, Nat.le_refl _⟩ h
theorem s_Ke_about_0 {x1 : Int} {x2 : Int}  (h : (((x1 = 0 → Q (some (vI (D 1 0))) zE D) ∧ (x1 = 1 → Q (some (vI (D 6 0))) zE D) ∧ (x1 = 2 → CI g M_Jo_has [vR 1, vI x2] D (fun v5 D' => Sg g M_Ke_about Q 68 [vR 0, vI x1, vI x2] [vI v5] D')) ∧ (x1 = 3 → CI g M_Jo_has [vR 1, vI x2] D (fun v7 D' => Sg g M_Ke_about Q 93 [vR 0, vI x1, vI x2] [vI v7] D')) ∧ (x1 = 4 → CI g M_Jo_has [vR 1, vI x2] D (fun v9 D' => Sg g M_Ke_about Q 118 [vR 0, vI x1, vI x2] [vI v9] D')) ∧ (x1 = 5 → CI g M_Le_has [vR 6, vI x2] D (fun v11 D' => Sg g M_Ke_about Q 143 [vR 0, vI x1, vI x2] [vI v11] D')) ∧ (x1 = 6 → CI g M_Le_has [vR 6, vI x2] D (fun v13 D' => Sg g M_Ke_about Q 167 [vR 0, vI x1, vI x2] [vI v13] D'))) ∧ ((x1 < 0 ∨ 6 < x1) → Q (some (vI (-1))) zE D))) : Sg g M_Ke_about Q 0 [vR 0, vI x1, vI x2] [] D := by
  unfold Sg
  refine q_iload_n d_Ke_about_0 rfl ?_
  by_cases c1 : 0 ≤ x1 ∧ x1 ≤ 6
  · have h := h.1
    by_cases c2 : x1 = 0
    · have h := h.1 c2
      refine q_tsIn (tgt := 44) (off := 43) d_Ke_about_1 (by omega) (by rw [c2]; rfl) (by decide) ?_
      refine q_aload_n d_Ke_about_44 rfl ?_
      refine p_getR (k := 0) (b := 1) zc_Ke l_Ke_12 fr_Ke_jobs d_Ke_about_45 zk_0 rfl ?_
      refine p_getIN (k := 0) zc_Jo l_Ke_68 fi_Jo_count d_Ke_about_48 zk_1 ?_
      exact q_iret d_Ke_about_51 (Or.inl rfl) ⟨Nat.le_refl _, Nat.le_refl _⟩ h
    by_cases c3 : x1 = 1
    · have h := h.2.1 c3
      refine q_tsIn (tgt := 52) (off := 51) d_Ke_about_1 (by omega) (by rw [c3]; rfl) (by decide) ?_
      refine q_aload_n d_Ke_about_52 rfl ?_
      refine p_getR (k := 1) (b := 6) zc_Ke l_Ke_19 fr_Ke_levels d_Ke_about_53 zk_0 rfl ?_
      refine p_getIN (k := 0) zc_Le l_Ke_80 fi_Le_count d_Ke_about_56 zk_6 ?_
      exact q_iret d_Ke_about_59 (Or.inl rfl) ⟨Nat.le_refl _, Nat.le_refl _⟩ h
    by_cases c4 : x1 = 2
    · have h := h.2.2.1 c4
      refine q_tsIn (tgt := 60) (off := 59) d_Ke_about_1 (by omega) (by rw [c4]; rfl) (by decide) ?_
      refine q_aload_n d_Ke_about_60 rfl ?_
      refine p_getR (k := 0) (b := 1) zc_Ke l_Ke_12 fr_Ke_jobs d_Ke_about_61 zk_0 rfl ?_
      refine q_iload_n d_Ke_about_64 rfl ?_
      refine p_callV (as := [vI x2]) (st := []) (a := 1) mc_Jo_has mv_Jo_has l_Ke_96 zc_Jo rfl d_Ke_about_65 rfl rfl rfl zk_1 (CI.to ?_)
      exact h
    by_cases c6 : x1 = 3
    · have h := h.2.2.2.1 c6
      refine q_tsIn (tgt := 85) (off := 84) d_Ke_about_1 (by omega) (by rw [c6]; rfl) (by decide) ?_
      refine q_aload_n d_Ke_about_85 rfl ?_
      refine p_getR (k := 0) (b := 1) zc_Ke l_Ke_12 fr_Ke_jobs d_Ke_about_86 zk_0 rfl ?_
      refine q_iload_n d_Ke_about_89 rfl ?_
      refine p_callV (as := [vI x2]) (st := []) (a := 1) mc_Jo_has mv_Jo_has l_Ke_96 zc_Jo rfl d_Ke_about_90 rfl rfl rfl zk_1 (CI.to ?_)
      exact h
    by_cases c8 : x1 = 4
    · have h := h.2.2.2.2.1 c8
      refine q_tsIn (tgt := 110) (off := 109) d_Ke_about_1 (by omega) (by rw [c8]; rfl) (by decide) ?_
      refine q_aload_n d_Ke_about_110 rfl ?_
      refine p_getR (k := 0) (b := 1) zc_Ke l_Ke_12 fr_Ke_jobs d_Ke_about_111 zk_0 rfl ?_
      refine q_iload_n d_Ke_about_114 rfl ?_
      refine p_callV (as := [vI x2]) (st := []) (a := 1) mc_Jo_has mv_Jo_has l_Ke_96 zc_Jo rfl d_Ke_about_115 rfl rfl rfl zk_1 (CI.to ?_)
      exact h
    by_cases c10 : x1 = 5
    · have h := h.2.2.2.2.2.1 c10
      refine q_tsIn (tgt := 135) (off := 134) d_Ke_about_1 (by omega) (by rw [c10]; rfl) (by decide) ?_
      refine q_aload_n d_Ke_about_135 rfl ?_
      refine p_getR (k := 1) (b := 6) zc_Ke l_Ke_19 fr_Ke_levels d_Ke_about_136 zk_0 rfl ?_
      refine q_iload_n d_Ke_about_139 rfl ?_
      refine p_callV (as := [vI x2]) (st := []) (a := 6) mc_Le_has mv_Le_has l_Ke_110 zc_Le rfl d_Ke_about_140 rfl rfl rfl zk_6 (CI.to ?_)
      exact h
    by_cases c12 : x1 = 6
    · have h := h.2.2.2.2.2.2 c12
      refine q_tsIn (tgt := 159) (off := 158) d_Ke_about_1 (by omega) (by rw [c12]; rfl) (by decide) ?_
      refine q_aload_n d_Ke_about_159 rfl ?_
      refine p_getR (k := 1) (b := 6) zc_Ke l_Ke_19 fr_Ke_levels d_Ke_about_160 zk_0 rfl ?_
      refine q_iload_n d_Ke_about_163 rfl ?_
      refine p_callV (as := [vI x2]) (st := []) (a := 6) mc_Le_has mv_Le_has l_Ke_110 zc_Le rfl d_Ke_about_164 rfl rfl rfl zk_6 (CI.to ?_)
      exact h
    · omega
  · have h := h.2 (by omega)
    refine q_tsOut (tgt := 183) d_Ke_about_1 (by omega) (by decide) ?_
    refine q_iconst d_Ke_about_183 (by decide) ?_
    exact q_iret d_Ke_about_184 (Or.inl rfl) ⟨Nat.le_refl _, Nat.le_refl _⟩ h
theorem s_Ke_about_68 {z1 : VV} {x2 : Int} {y0 : Int}  (h : ((y0 = 0 → Q (some (vI (-1))) zE D) ∧ (¬ y0 = 0 → ((0 ≤ x2 ∧ x2 < 12)) ∧ Q (some (vI (D 2 x2))) zE D))) : Sg g M_Ke_about Q 68 [vR 0, z1, vI x2] [vI y0] D := by
  unfold Sg
  refine q_mask [false, true, false] (L' := [vR 0, vU, vI x2]) rfl ?_
  refine q_if_eq (tgt := 83) d_Ke_about_68 (by decide) (fun c1 => ?_) (fun c1 => ?_)
  · have h := h.1 (c1)
    refine q_iconst d_Ke_about_83 (by decide) ?_
    exact q_iret d_Ke_about_84 (Or.inl rfl) ⟨Nat.le_refl _, Nat.le_refl _⟩ h
  · have h := h.2 (c1)
    obtain ⟨o2, h⟩ := h
    refine q_aload_n d_Ke_about_71 rfl ?_
    refine p_getR (k := 0) (b := 1) zc_Ke l_Ke_12 fr_Ke_jobs d_Ke_about_72 zk_0 rfl ?_
    refine p_getRN (k := 1) (b := 2) zc_Jo l_Ke_100 fr_Jo_release d_Ke_about_75 zk_1 rfl ?_
    refine q_iload_n d_Ke_about_78 rfl ?_
    refine p_iald d_Ke_about_79 zk_2 o2 ?_
    refine q_goto (tgt := 84) d_Ke_about_80 (by decide) ?_
    exact q_iret d_Ke_about_84 (Or.inl rfl) ⟨Nat.le_refl _, Nat.le_refl _⟩ h
theorem s_Ke_about_93 {z1 : VV} {x2 : Int} {y0 : Int}  (h : ((y0 = 0 → Q (some (vI (-1))) zE D) ∧ (¬ y0 = 0 → ((0 ≤ x2 ∧ x2 < 12)) ∧ Q (some (vI (D 3 x2))) zE D))) : Sg g M_Ke_about Q 93 [vR 0, z1, vI x2] [vI y0] D := by
  unfold Sg
  refine q_mask [false, true, false] (L' := [vR 0, vU, vI x2]) rfl ?_
  refine q_if_eq (tgt := 108) d_Ke_about_93 (by decide) (fun c1 => ?_) (fun c1 => ?_)
  · have h := h.1 (c1)
    refine q_iconst d_Ke_about_108 (by decide) ?_
    exact q_iret d_Ke_about_109 (Or.inl rfl) ⟨Nat.le_refl _, Nat.le_refl _⟩ h
  · have h := h.2 (c1)
    obtain ⟨o2, h⟩ := h
    refine q_aload_n d_Ke_about_96 rfl ?_
    refine p_getR (k := 0) (b := 1) zc_Ke l_Ke_12 fr_Ke_jobs d_Ke_about_97 zk_0 rfl ?_
    refine p_getRN (k := 2) (b := 3) zc_Jo l_Ke_104 fr_Jo_deadline d_Ke_about_100 zk_1 rfl ?_
    refine q_iload_n d_Ke_about_103 rfl ?_
    refine p_iald d_Ke_about_104 zk_3 o2 ?_
    refine q_goto (tgt := 109) d_Ke_about_105 (by decide) ?_
    exact q_iret d_Ke_about_109 (Or.inl rfl) ⟨Nat.le_refl _, Nat.le_refl _⟩ h
theorem s_Ke_about_118 {z1 : VV} {x2 : Int} {y0 : Int}  (h : ((y0 = 0 → Q (some (vI (-1))) zE D) ∧ (¬ y0 = 0 → ((0 ≤ x2 ∧ x2 < 12)) ∧ Q (some (vI (D 4 x2))) zE D))) : Sg g M_Ke_about Q 118 [vR 0, z1, vI x2] [vI y0] D := by
  unfold Sg
  refine q_mask [false, true, false] (L' := [vR 0, vU, vI x2]) rfl ?_
  refine q_if_eq (tgt := 133) d_Ke_about_118 (by decide) (fun c1 => ?_) (fun c1 => ?_)
  · have h := h.1 (c1)
    refine q_iconst d_Ke_about_133 (by decide) ?_
    exact q_iret d_Ke_about_134 (Or.inl rfl) ⟨Nat.le_refl _, Nat.le_refl _⟩ h
  · have h := h.2 (c1)
    obtain ⟨o2, h⟩ := h
    refine q_aload_n d_Ke_about_121 rfl ?_
    refine p_getR (k := 0) (b := 1) zc_Ke l_Ke_12 fr_Ke_jobs d_Ke_about_122 zk_0 rfl ?_
    refine p_getRN (k := 3) (b := 4) zc_Jo l_Ke_107 fr_Jo_work d_Ke_about_125 zk_1 rfl ?_
    refine q_iload_n d_Ke_about_128 rfl ?_
    refine p_iald d_Ke_about_129 zk_4 o2 ?_
    refine q_goto (tgt := 134) d_Ke_about_130 (by decide) ?_
    exact q_iret d_Ke_about_134 (Or.inl rfl) ⟨Nat.le_refl _, Nat.le_refl _⟩ h
theorem s_Ke_about_143 {z1 : VV} {x2 : Int} {y0 : Int}  (h : ((y0 = 0 → Q (some (vI (-1))) zE D) ∧ (¬ y0 = 0 → CI g M_Le_rateOf [vR 6, vI x2] D (fun v2 D' => Sg g M_Ke_about Q 154 [vR 0, vU, vI x2] [vI v2] D')))) : Sg g M_Ke_about Q 143 [vR 0, z1, vI x2] [vI y0] D := by
  unfold Sg
  refine q_mask [false, true, false] (L' := [vR 0, vU, vI x2]) rfl ?_
  refine q_if_eq (tgt := 157) d_Ke_about_143 (by decide) (fun c1 => ?_) (fun c1 => ?_)
  · have h := h.1 (c1)
    refine q_iconst d_Ke_about_157 (by decide) ?_
    exact q_iret d_Ke_about_158 (Or.inl rfl) ⟨Nat.le_refl _, Nat.le_refl _⟩ h
  · have h := h.2 (c1)
    refine q_aload_n d_Ke_about_146 rfl ?_
    refine p_getR (k := 1) (b := 6) zc_Ke l_Ke_19 fr_Ke_levels d_Ke_about_147 zk_0 rfl ?_
    refine q_iload_n d_Ke_about_150 rfl ?_
    refine p_callV (as := [vI x2]) (st := []) (a := 6) mc_Le_rateOf mv_Le_rateOf l_Ke_81 zc_Le rfl d_Ke_about_151 rfl rfl rfl zk_6 (CI.to ?_)
    exact h
theorem s_Ke_about_167 {z1 : VV} {x2 : Int} {y0 : Int}  (h : ((y0 = 0 → Q (some (vI (-1))) zE D) ∧ (¬ y0 = 0 → CI g M_Le_costOf [vR 6, vI x2] D (fun v2 D' => Sg g M_Ke_about Q 178 [vR 0, vU, vI x2] [vI v2] D')))) : Sg g M_Ke_about Q 167 [vR 0, z1, vI x2] [vI y0] D := by
  unfold Sg
  refine q_mask [false, true, false] (L' := [vR 0, vU, vI x2]) rfl ?_
  refine q_if_eq (tgt := 181) d_Ke_about_167 (by decide) (fun c1 => ?_) (fun c1 => ?_)
  · have h := h.1 (c1)
    refine q_iconst d_Ke_about_181 (by decide) ?_
    exact q_iret d_Ke_about_182 (Or.inl rfl) ⟨Nat.le_refl _, Nat.le_refl _⟩ h
  · have h := h.2 (c1)
    refine q_aload_n d_Ke_about_170 rfl ?_
    refine p_getR (k := 1) (b := 6) zc_Ke l_Ke_19 fr_Ke_levels d_Ke_about_171 zk_0 rfl ?_
    refine q_iload_n d_Ke_about_174 rfl ?_
    refine p_callV (as := [vI x2]) (st := []) (a := 6) mc_Le_costOf mv_Le_costOf l_Ke_111 zc_Le rfl d_Ke_about_175 rfl rfl rfl zk_6 (CI.to ?_)
    exact h
theorem s_Ke_about_154 {z0 : VV} {z1 : VV} {z2 : VV} {y0 : Int}  (h : Q (some (vI y0)) zE D) : Sg g M_Ke_about Q 154 [z0, z1, z2] [vI y0] D := by
  unfold Sg
  refine q_mask [true, true, true] (L' := [vU, vU, vU]) rfl ?_
  refine q_goto (tgt := 158) d_Ke_about_154 (by decide) ?_
  exact q_iret d_Ke_about_158 (Or.inl rfl) ⟨Nat.le_refl _, Nat.le_refl _⟩ h
theorem s_Ke_about_178 {z0 : VV} {z1 : VV} {z2 : VV} {y0 : Int}  (h : Q (some (vI y0)) zE D) : Sg g M_Ke_about Q 178 [z0, z1, z2] [vI y0] D := by
  unfold Sg
  refine q_mask [true, true, true] (L' := [vU, vU, vU]) rfl ?_
  refine q_goto (tgt := 182) d_Ke_about_178 (by decide) ?_
  exact q_iret d_Ke_about_182 (Or.inl rfl) ⟨Nat.le_refl _, Nat.le_refl _⟩ h
theorem s_Ke_plan_0   (h : (∀ D1, D1 = zw D 573 0 0 → CV g M_Pl_workOut [vR 457, vR 1, vR 9] D1 (fun D' => Sg g M_Ke_plan Q 23 [vR 0] [] D'))) : Sg g M_Ke_plan Q 0 [vR 0] [] D := by
  unfold Sg
  refine q_aload_n d_Ke_plan_0 rfl ?_
  refine p_getR (k := 7) (b := 573) zc_Ke l_Ke_57 fr_Ke_splitter d_Ke_plan_1 zk_0 rfl ?_
  refine q_iconst d_Ke_plan_4 (by decide) ?_
  refine p_putIN (k := 0) zc_Sp l_Ke_85 fp_Sp_ready (Or.inr ⟨rfl, by decide⟩) d_Ke_plan_5 zk_573 (fun D1 e2 => ?_)
  have h := h D1 e2
  refine q_aload_n d_Ke_plan_8 rfl ?_
  refine p_getR (k := 5) (b := 457) zc_Ke l_Ke_43 fr_Ke_planner d_Ke_plan_9 zk_0 rfl ?_
  refine q_aload_n d_Ke_plan_12 rfl ?_
  refine p_getR (k := 0) (b := 1) zc_Ke l_Ke_12 fr_Ke_jobs d_Ke_plan_13 zk_0 rfl ?_
  refine q_aload_n d_Ke_plan_16 rfl ?_
  refine p_getR (k := 2) (b := 9) zc_Ke l_Ke_26 fr_Ke_planned d_Ke_plan_17 zk_0 rfl ?_
  refine p_callV (as := [vR 1, vR 9]) (st := []) (a := 457) mc_Pl_workOut mv_Pl_workOut l_Ke_114 zc_Pl rfl d_Ke_plan_20 rfl rfl rfl zk_457 (CV.to ?_)
  exact h
theorem s_Ke_plan_23   (h : CV g M_Re_reckonCost [vR 391, vR 9] D (fun D' => Sg g M_Ke_plan Q 34 [vR 0] [] D')) : Sg g M_Ke_plan Q 23 [vR 0] [] D := by
  unfold Sg
  refine q_aload_n d_Ke_plan_23 rfl ?_
  refine p_getR (k := 4) (b := 391) zc_Ke l_Ke_36 fr_Ke_reckoner d_Ke_plan_24 zk_0 rfl ?_
  refine q_aload_n d_Ke_plan_27 rfl ?_
  refine p_getR (k := 2) (b := 9) zc_Ke l_Ke_26 fr_Ke_planned d_Ke_plan_28 zk_0 rfl ?_
  refine p_callV (as := [vR 9]) (st := []) (a := 391) mc_Re_reckonCost mv_Re_reckonCost l_Ke_118 zc_Re rfl d_Ke_plan_31 rfl rfl rfl zk_391 (CV.to ?_)
  exact h
theorem s_Ke_plan_34   (h : (∀ D1, D1 = zw D 9 0 1 → Q (some (vI (D1 9 1))) zE D1)) : Sg g M_Ke_plan Q 34 [vR 0] [] D := by
  unfold Sg
  refine q_aload_n d_Ke_plan_34 rfl ?_
  refine p_getR (k := 2) (b := 9) zc_Ke l_Ke_26 fr_Ke_planned d_Ke_plan_35 zk_0 rfl ?_
  refine q_iconst d_Ke_plan_38 (by decide) ?_
  refine p_putIN (k := 0) zc_Pr l_Ke_122 fp_Pr_ready (Or.inr ⟨rfl, by decide⟩) d_Ke_plan_39 zk_9 (fun D1 e2 => ?_)
  have h := h D1 e2
  refine q_aload_n d_Ke_plan_42 rfl ?_
  refine p_getR (k := 2) (b := 9) zc_Ke l_Ke_26 fr_Ke_planned d_Ke_plan_43 zk_0 rfl ?_
  refine p_getIN (k := 1) zc_Pr l_Ke_123 fi_Pr_steps d_Ke_plan_46 zk_9 ?_
  exact q_iret d_Ke_plan_49 (Or.inl rfl) ⟨Nat.le_refl _, Nat.le_refl _⟩ h
theorem s_Ke_ahead_0   (h : CV g M_Fo_workOut [vR 530, vR 1, vR 200, vR 391] D (fun D' => Sg g M_Ke_ahead Q 19 [vR 0] [] D')) : Sg g M_Ke_ahead Q 0 [vR 0] [] D := by
  unfold Sg
  refine q_aload_n d_Ke_ahead_0 rfl ?_
  refine p_getR (k := 6) (b := 530) zc_Ke l_Ke_50 fr_Ke_foresight d_Ke_ahead_1 zk_0 rfl ?_
  refine q_aload_n d_Ke_ahead_4 rfl ?_
  refine p_getR (k := 0) (b := 1) zc_Ke l_Ke_12 fr_Ke_jobs d_Ke_ahead_5 zk_0 rfl ?_
  refine q_aload_n d_Ke_ahead_8 rfl ?_
  refine p_getR (k := 3) (b := 200) zc_Ke l_Ke_30 fr_Ke_foreseen d_Ke_ahead_9 zk_0 rfl ?_
  refine q_aload_n d_Ke_ahead_12 rfl ?_
  refine p_getR (k := 4) (b := 391) zc_Ke l_Ke_36 fr_Ke_reckoner d_Ke_ahead_13 zk_0 rfl ?_
  refine p_callV (as := [vR 1, vR 200, vR 391]) (st := []) (a := 530) mc_Fo_workOut mv_Fo_workOut l_Ke_126 zc_Fo rfl d_Ke_ahead_16 rfl rfl rfl zk_530 (CV.to ?_)
  exact h
theorem s_Ke_ahead_19   (h : CV g M_Re_reckonCost [vR 391, vR 200] D (fun D' => Sg g M_Ke_ahead Q 30 [vR 0] [] D')) : Sg g M_Ke_ahead Q 19 [vR 0] [] D := by
  unfold Sg
  refine q_aload_n d_Ke_ahead_19 rfl ?_
  refine p_getR (k := 4) (b := 391) zc_Ke l_Ke_36 fr_Ke_reckoner d_Ke_ahead_20 zk_0 rfl ?_
  refine q_aload_n d_Ke_ahead_23 rfl ?_
  refine p_getR (k := 3) (b := 200) zc_Ke l_Ke_30 fr_Ke_foreseen d_Ke_ahead_24 zk_0 rfl ?_
  refine p_callV (as := [vR 200]) (st := []) (a := 391) mc_Re_reckonCost mv_Re_reckonCost l_Ke_118 zc_Re rfl d_Ke_ahead_27 rfl rfl rfl zk_391 (CV.to ?_)
  exact h
theorem s_Ke_ahead_30   (h : (∀ D1, D1 = zw D 200 0 1 → Q (some (vI (D1 200 1))) zE D1)) : Sg g M_Ke_ahead Q 30 [vR 0] [] D := by
  unfold Sg
  refine q_aload_n d_Ke_ahead_30 rfl ?_
  refine p_getR (k := 3) (b := 200) zc_Ke l_Ke_30 fr_Ke_foreseen d_Ke_ahead_31 zk_0 rfl ?_
  refine q_iconst d_Ke_ahead_34 (by decide) ?_
  refine p_putIN (k := 0) zc_Pr l_Ke_122 fp_Pr_ready (Or.inr ⟨rfl, by decide⟩) d_Ke_ahead_35 zk_200 (fun D1 e2 => ?_)
  have h := h D1 e2
  refine q_aload_n d_Ke_ahead_38 rfl ?_
  refine p_getR (k := 3) (b := 200) zc_Ke l_Ke_30 fr_Ke_foreseen d_Ke_ahead_39 zk_0 rfl ?_
  refine p_getIN (k := 1) zc_Pr l_Ke_123 fi_Pr_steps d_Ke_ahead_42 zk_200 ?_
  exact q_iret d_Ke_ahead_45 (Or.inl rfl) ⟨Nat.le_refl _, Nat.le_refl _⟩ h
theorem s_Ke_print_0 {x1 : Int} {x2 : Int}  (h : CN g M_Ke_fractionOf [vR 0, vI x1, vI x2] D (fun v1 D' => Sg g M_Ke_print Q 6 [vR 0, vI x1, vI x2, vU] [vO v1] D')) : Sg g M_Ke_print Q 0 [vR 0, vI x1, vI x2, vU] [] D := by
  unfold Sg
  refine q_aload_n d_Ke_print_0 rfl ?_
  refine q_iload_n d_Ke_print_1 rfl ?_
  refine q_iload_n d_Ke_print_2 rfl ?_
  refine p_callV (as := [vI x1, vI x2]) (st := []) (a := 0) mc_Ke_fractionOf mv_Ke_fractionOf l_Ke_150 zc_Ke rfl d_Ke_print_3 rfl rfl rfl zk_0 (CN.to ?_)
  exact h
theorem s_Ke_print_6 {z1 : VV} {z2 : VV} {z3 : VV} {rs0 : Nat} (k_rs0 : zk rs0 = (0, 4, 0)) (h : CI g M_Te_write [vR 703, vR rs0] D (fun v1 D' => Sg g M_Ke_print Q 21 [vR 0, vU, vU, vR rs0] [vI v1] D')) : Sg g M_Ke_print Q 6 [vR 0, z1, z2, z3] [vR rs0] D := by
  unfold Sg
  refine q_mask [false, true, true, true] (L' := [vR 0, vU, vU, vU]) rfl ?_
  refine q_astore_n d_Ke_print_6 (by decide) (L' := [vR 0, vU, vU, vR rs0]) rfl ?_
  refine q_aload_n d_Ke_print_7 rfl ?_
  refine q_ifnonnull (tgt := 13) d_Ke_print_8 (by decide) ?_
  refine q_aload_n d_Ke_print_13 rfl ?_
  refine p_getR (k := 8) (b := 703) zc_Ke l_Ke_64 fr_Ke_text d_Ke_print_14 zk_0 rfl ?_
  refine q_aload_n d_Ke_print_17 rfl ?_
  refine p_callV (as := [vR rs0]) (st := []) (a := 703) mc_Te_write mv_Te_write l_Ke_154 zc_Te rfl d_Ke_print_18 rfl rfl rfl zk_703 (CI.to ?_)
  exact h
theorem s_Ke_print_6b {z1 : VV} {z2 : VV} {z3 : VV}  (h : Q (some (vI (-1))) zE D) : Sg g M_Ke_print Q 6 [vR 0, z1, z2, z3] [vN] D := by
  unfold Sg
  refine q_mask [false, true, true, true] (L' := [vR 0, vU, vU, vU]) rfl ?_
  refine q_astore_nN d_Ke_print_6 (by decide) (L' := [vR 0, vU, vU, vN]) rfl ?_
  refine q_aload_nN d_Ke_print_7 rfl ?_
  refine q_ifnonnullN d_Ke_print_8 ?_
  refine q_iconst d_Ke_print_11 (by decide) ?_
  exact q_iret d_Ke_print_12 (Or.inl rfl) ⟨Nat.le_refl _, Nat.le_refl _⟩ h
theorem s_Ke_print_21 {z0 : VV} {z1 : VV} {z2 : VV} {z3 : VV} {y0 : Int}  (h : Q (some (vI y0)) zE D) : Sg g M_Ke_print Q 21 [z0, z1, z2, z3] [vI y0] D := by
  unfold Sg
  refine q_mask [true, true, true, true] (L' := [vU, vU, vU, vU]) rfl ?_
  exact q_iret d_Ke_print_21 (Or.inl rfl) ⟨Nat.le_refl _, Nat.le_refl _⟩ h
theorem s_Ke_character_0 {x1 : Int}  (h : CI g M_Te_at [vR 703, vI x1] D (fun v1 D' => Sg g M_Ke_character Q 8 [vR 0, vI x1] [vI v1] D')) : Sg g M_Ke_character Q 0 [vR 0, vI x1] [] D := by
  unfold Sg
  refine q_aload_n d_Ke_character_0 rfl ?_
  refine p_getR (k := 8) (b := 703) zc_Ke l_Ke_64 fr_Ke_text d_Ke_character_1 zk_0 rfl ?_
  refine q_iload_n d_Ke_character_4 rfl ?_
  refine p_callV (as := [vI x1]) (st := []) (a := 703) mc_Te_at mv_Te_at l_Ke_158 zc_Te rfl d_Ke_character_5 rfl rfl rfl zk_703 (CI.to ?_)
  exact h
theorem s_Ke_character_8 {z0 : VV} {z1 : VV} {y0 : Int}  (h : Q (some (vI y0)) zE D) : Sg g M_Ke_character Q 8 [z0, z1] [vI y0] D := by
  unfold Sg
  refine q_mask [true, true] (L' := [vU, vU]) rfl ?_
  exact q_iret d_Ke_character_8 (Or.inl rfl) ⟨Nat.le_refl _, Nat.le_refl _⟩ h
theorem s_Ke_compare_0 {x1 : Int} {x2 : Int} {x3 : Int} {x4 : Int}  (h : CN g M_Ke_fractionOf [vR 0, vI x1, vI x2] D (fun v1 D' => Sg g M_Ke_compare Q 6 [vR 0, vI x1, vI x2, vI x3, vI x4, vU, vU] [vO v1] D')) : Sg g M_Ke_compare Q 0 [vR 0, vI x1, vI x2, vI x3, vI x4, vU, vU] [] D := by
  unfold Sg
  refine q_aload_n d_Ke_compare_0 rfl ?_
  refine q_iload_n d_Ke_compare_1 rfl ?_
  refine q_iload_n d_Ke_compare_2 rfl ?_
  refine p_callV (as := [vI x1, vI x2]) (st := []) (a := 0) mc_Ke_fractionOf mv_Ke_fractionOf l_Ke_150 zc_Ke rfl d_Ke_compare_3 rfl rfl rfl zk_0 (CN.to ?_)
  exact h
theorem s_Ke_compare_6 {z1 : VV} {z2 : VV} {x3 : Int} {x4 : Int} {z5 : VV} {z6 : VV} {rs0 : Nat} (k_rs0 : zk rs0 = (0, 4, 0)) (h : CN g M_Ke_fractionOf [vR 0, vI x3, vI x4] D (fun v1 D' => Sg g M_Ke_compare Q 15 [vR 0, vU, vU, vI x3, vI x4, vR rs0, vU] [vO v1] D')) : Sg g M_Ke_compare Q 6 [vR 0, z1, z2, vI x3, vI x4, z5, z6] [vR rs0] D := by
  unfold Sg
  refine q_mask [false, true, true, false, false, true, true] (L' := [vR 0, vU, vU, vI x3, vI x4, vU, vU]) rfl ?_
  refine q_astore d_Ke_compare_6 (by decide) (L' := [vR 0, vU, vU, vI x3, vI x4, vR rs0, vU]) rfl ?_
  refine q_aload_n d_Ke_compare_8 rfl ?_
  refine q_iload_n d_Ke_compare_9 rfl ?_
  refine q_iload d_Ke_compare_10 rfl ?_
  refine p_callV (as := [vI x3, vI x4]) (st := []) (a := 0) mc_Ke_fractionOf mv_Ke_fractionOf l_Ke_150 zc_Ke rfl d_Ke_compare_12 rfl rfl rfl zk_0 (CN.to ?_)
  exact h
theorem s_Ke_compare_6b {z1 : VV} {z2 : VV} {x3 : Int} {x4 : Int} {z5 : VV} {z6 : VV}  (h : CN g M_Ke_fractionOf [vR 0, vI x3, vI x4] D (fun v1 D' => Sg g M_Ke_compare Q 15 [vR 0, vU, vU, vI x3, vI x4, vN, vU] [vO v1] D')) : Sg g M_Ke_compare Q 6 [vR 0, z1, z2, vI x3, vI x4, z5, z6] [vN] D := by
  unfold Sg
  refine q_mask [false, true, true, false, false, true, true] (L' := [vR 0, vU, vU, vI x3, vI x4, vU, vU]) rfl ?_
  refine q_astoreN d_Ke_compare_6 (by decide) (L' := [vR 0, vU, vU, vI x3, vI x4, vN, vU]) rfl ?_
  refine q_aload_n d_Ke_compare_8 rfl ?_
  refine q_iload_n d_Ke_compare_9 rfl ?_
  refine q_iload d_Ke_compare_10 rfl ?_
  refine p_callV (as := [vI x3, vI x4]) (st := []) (a := 0) mc_Ke_fractionOf mv_Ke_fractionOf l_Ke_150 zc_Ke rfl d_Ke_compare_12 rfl rfl rfl zk_0 (CN.to ?_)
  exact h
theorem s_Ke_compare_15 {z1 : VV} {z2 : VV} {z3 : VV} {z4 : VV} {r5 : Nat} {z6 : VV} {rs0 : Nat} (k_r5 : zk r5 = (0, 4, 0)) (k_rs0 : zk rs0 = (0, 4, 0)) (h : CI g M_Re_order [vR 391, vR r5, vR rs0] D (fun v1 D' => Sg g M_Ke_compare Q 41 [vR 0, vU, vU, vU, vU, vR r5, vR rs0] [vI v1] D')) : Sg g M_Ke_compare Q 15 [vR 0, z1, z2, z3, z4, vR r5, z6] [vR rs0] D := by
  unfold Sg
  refine q_mask [false, true, true, true, true, false, true] (L' := [vR 0, vU, vU, vU, vU, vR r5, vU]) rfl ?_
  refine q_astore d_Ke_compare_15 (by decide) (L' := [vR 0, vU, vU, vU, vU, vR r5, vR rs0]) rfl ?_
  refine q_aload d_Ke_compare_17 rfl ?_
  refine q_ifnull d_Ke_compare_19 ?_
  refine q_aload d_Ke_compare_22 rfl ?_
  refine q_ifnonnull (tgt := 30) d_Ke_compare_24 (by decide) ?_
  refine q_aload_n d_Ke_compare_30 rfl ?_
  refine p_getR (k := 4) (b := 391) zc_Ke l_Ke_36 fr_Ke_reckoner d_Ke_compare_31 zk_0 rfl ?_
  refine q_aload d_Ke_compare_34 rfl ?_
  refine q_aload d_Ke_compare_36 rfl ?_
  refine p_callV (as := [vR r5, vR rs0]) (st := []) (a := 391) mc_Re_order mv_Re_order l_Ke_161 zc_Re rfl d_Ke_compare_38 rfl rfl rfl zk_391 (CI.to ?_)
  exact h
theorem s_Ke_compare_15b {z1 : VV} {z2 : VV} {z3 : VV} {z4 : VV} {r5 : Nat} {z6 : VV} (k_r5 : zk r5 = (0, 4, 0)) (h : Q (some (vI (-2))) zE D) : Sg g M_Ke_compare Q 15 [vR 0, z1, z2, z3, z4, vR r5, z6] [vN] D := by
  unfold Sg
  refine q_mask [false, true, true, true, true, false, true] (L' := [vR 0, vU, vU, vU, vU, vR r5, vU]) rfl ?_
  refine q_astoreN d_Ke_compare_15 (by decide) (L' := [vR 0, vU, vU, vU, vU, vR r5, vN]) rfl ?_
  refine q_aload d_Ke_compare_17 rfl ?_
  refine q_ifnull d_Ke_compare_19 ?_
  refine q_aloadN d_Ke_compare_22 rfl ?_
  refine q_ifnonnullN d_Ke_compare_24 ?_
  refine q_bipush d_Ke_compare_27 kb_m2 ?_
  exact q_iret d_Ke_compare_29 (Or.inl rfl) ⟨Nat.le_refl _, Nat.le_refl _⟩ h
theorem s_Ke_compare_15c {z1 : VV} {z2 : VV} {z3 : VV} {z4 : VV} {z6 : VV} {rs0 : Nat} (k_rs0 : zk rs0 = (0, 4, 0)) (h : Q (some (vI (-2))) zE D) : Sg g M_Ke_compare Q 15 [vR 0, z1, z2, z3, z4, vN, z6] [vR rs0] D := by
  unfold Sg
  refine q_mask [false, true, true, true, true, false, true] (L' := [vR 0, vU, vU, vU, vU, vN, vU]) rfl ?_
  refine q_astore d_Ke_compare_15 (by decide) (L' := [vR 0, vU, vU, vU, vU, vN, vR rs0]) rfl ?_
  refine q_aloadN d_Ke_compare_17 rfl ?_
  refine q_ifnullN (tgt := 27) d_Ke_compare_19 (by decide) ?_
  refine q_bipush d_Ke_compare_27 kb_m2 ?_
  exact q_iret d_Ke_compare_29 (Or.inl rfl) ⟨Nat.le_refl _, Nat.le_refl _⟩ h
theorem s_Ke_compare_15d {z1 : VV} {z2 : VV} {z3 : VV} {z4 : VV} {z6 : VV}  (h : Q (some (vI (-2))) zE D) : Sg g M_Ke_compare Q 15 [vR 0, z1, z2, z3, z4, vN, z6] [vN] D := by
  unfold Sg
  refine q_mask [false, true, true, true, true, false, true] (L' := [vR 0, vU, vU, vU, vU, vN, vU]) rfl ?_
  refine q_astoreN d_Ke_compare_15 (by decide) (L' := [vR 0, vU, vU, vU, vU, vN, vN]) rfl ?_
  refine q_aloadN d_Ke_compare_17 rfl ?_
  refine q_ifnullN (tgt := 27) d_Ke_compare_19 (by decide) ?_
  refine q_bipush d_Ke_compare_27 kb_m2 ?_
  exact q_iret d_Ke_compare_29 (Or.inl rfl) ⟨Nat.le_refl _, Nat.le_refl _⟩ h
theorem s_Ke_compare_41 {z0 : VV} {z1 : VV} {z2 : VV} {z3 : VV} {z4 : VV} {z5 : VV} {z6 : VV} {y0 : Int}  (h : Q (some (vI y0)) zE D) : Sg g M_Ke_compare Q 41 [z0, z1, z2, z3, z4, z5, z6] [vI y0] D := by
  unfold Sg
  refine q_mask [true, true, true, true, true, true, true] (L' := [vU, vU, vU, vU, vU, vU, vU]) rfl ?_
  exact q_iret d_Ke_compare_41 (Or.inl rfl) ⟨Nat.le_refl _, Nat.le_refl _⟩ h
theorem s_Ke_levelOf_0 {x1 : Int} {x2 : Int}  (h : (((D 573 0) = 0 → Q (some (vI (-2))) zE D) ∧ (¬ (D 573 0) = 0 → CI g M_Jo_has [vR 1, vI x1] D (fun v2 D' => Sg g M_Ke_levelOf Q 18 [vR 0, vI x1, vI x2] [vI v2] D')))) : Sg g M_Ke_levelOf Q 0 [vR 0, vI x1, vI x2] [] D := by
  unfold Sg
  refine q_aload_n d_Ke_levelOf_0 rfl ?_
  refine p_getR (k := 7) (b := 573) zc_Ke l_Ke_57 fr_Ke_splitter d_Ke_levelOf_1 zk_0 rfl ?_
  refine p_getIN (k := 0) zc_Sp l_Ke_85 fi_Sp_ready d_Ke_levelOf_4 zk_573 ?_
  refine q_if_eq (tgt := 30) d_Ke_levelOf_7 (by decide) (fun c1 => ?_) (fun c1 => ?_)
  · have h := h.1 (c1)
    refine q_bipush d_Ke_levelOf_30 kb_m2 ?_
    exact q_iret d_Ke_levelOf_32 (Or.inl rfl) ⟨Nat.le_refl _, Nat.le_refl _⟩ h
  · have h := h.2 (c1)
    refine q_aload_n d_Ke_levelOf_10 rfl ?_
    refine p_getR (k := 0) (b := 1) zc_Ke l_Ke_12 fr_Ke_jobs d_Ke_levelOf_11 zk_0 rfl ?_
    refine q_iload_n d_Ke_levelOf_14 rfl ?_
    refine p_callV (as := [vI x1]) (st := []) (a := 1) mc_Jo_has mv_Jo_has l_Ke_96 zc_Jo rfl d_Ke_levelOf_15 rfl rfl rfl zk_1 (CI.to ?_)
    exact h
theorem s_Ke_levelOf_18 {x1 : Int} {x2 : Int} {y0 : Int}  (h : ((y0 = 0 → Q (some (vI (-2))) zE D) ∧ (¬ y0 = 0 → ((x2 = 0 → Sg g M_Ke_levelOf Q 33 [vR 0, vI x1, vI x2] [] D) ∧ (¬ x2 = 0 → ((x2 = 1 → Sg g M_Ke_levelOf Q 33 [vR 0, vI x1, vI x2] [] D) ∧ (¬ x2 = 1 → Q (some (vI (-2))) zE D))))))) : Sg g M_Ke_levelOf Q 18 [vR 0, vI x1, vI x2] [vI y0] D := by
  unfold Sg
  refine q_if_eq (tgt := 30) d_Ke_levelOf_18 (by decide) (fun c1 => ?_) (fun c1 => ?_)
  · have h := h.1 (c1)
    refine q_bipush d_Ke_levelOf_30 kb_m2 ?_
    exact q_iret d_Ke_levelOf_32 (Or.inl rfl) ⟨Nat.le_refl _, Nat.le_refl _⟩ h
  · have h := h.2 (c1)
    refine q_iload_n d_Ke_levelOf_21 rfl ?_
    refine q_if_eq (tgt := 33) d_Ke_levelOf_22 (by decide) (fun c2 => ?_) (fun c2 => ?_)
    · have h := h.1 (c2)
      exact h
    · have h := h.2 (c2)
      refine q_iload_n d_Ke_levelOf_25 rfl ?_
      refine q_iconst d_Ke_levelOf_26 (by decide) ?_
      refine q_icmp_eq (tgt := 33) d_Ke_levelOf_27 (by decide) (fun c3 => ?_) (fun c3 => ?_)
      · have h := h.1 (c3)
        exact h
      · have h := h.2 (c3)
        refine q_bipush d_Ke_levelOf_30 kb_m2 ?_
        exact q_iret d_Ke_levelOf_32 (Or.inl rfl) ⟨Nat.le_refl _, Nat.le_refl _⟩ h
theorem s_Ke_levelOf_33 {x1 : Int} {x2 : Int}  (h : ((¬ x2 = 0 → ((0 ≤ x1 ∧ x1 < 12)) ∧ Q (some (vI (D 575 x1))) zE D) ∧ (x2 = 0 → ((0 ≤ x1 ∧ x1 < 12)) ∧ Q (some (vI (D 574 x1))) zE D))) : Sg g M_Ke_levelOf Q 33 [vR 0, vI x1, vI x2] [] D := by
  unfold Sg
  refine q_iload_n d_Ke_levelOf_33 rfl ?_
  refine q_if_ne (tgt := 49) d_Ke_levelOf_34 (by decide) (fun c1 => ?_) (fun c1 => ?_)
  · have h := h.1 (c1)
    obtain ⟨o2, h⟩ := h
    refine q_aload_n d_Ke_levelOf_49 rfl ?_
    refine p_getR (k := 7) (b := 573) zc_Ke l_Ke_57 fr_Ke_splitter d_Ke_levelOf_50 zk_0 rfl ?_
    refine p_getRN (k := 2) (b := 575) zc_Sp l_Ke_168 fr_Sp_greater d_Ke_levelOf_53 zk_573 rfl ?_
    refine q_iload_n d_Ke_levelOf_56 rfl ?_
    refine p_iald d_Ke_levelOf_57 zk_575 o2 ?_
    exact q_iret d_Ke_levelOf_58 (Or.inl rfl) ⟨Nat.le_refl _, Nat.le_refl _⟩ h
  · have h := h.2 (c1)
    obtain ⟨o3, h⟩ := h
    refine q_aload_n d_Ke_levelOf_37 rfl ?_
    refine p_getR (k := 7) (b := 573) zc_Ke l_Ke_57 fr_Ke_splitter d_Ke_levelOf_38 zk_0 rfl ?_
    refine p_getRN (k := 1) (b := 574) zc_Sp l_Ke_165 fr_Sp_lesser d_Ke_levelOf_41 zk_573 rfl ?_
    refine q_iload_n d_Ke_levelOf_44 rfl ?_
    refine p_iald d_Ke_levelOf_45 zk_574 o3 ?_
    refine q_goto (tgt := 58) d_Ke_levelOf_46 (by decide) ?_
    exact q_iret d_Ke_levelOf_58 (Or.inl rfl) ⟨Nat.le_refl _, Nat.le_refl _⟩ h
theorem s_Ke_near_0   (h : Sg g M_Ke_near Q 4 [vR 0, vD 0, vU, vI 0, vU, vU] [] D) : Sg g M_Ke_near Q 0 [vR 0, vU, vU, vU, vU, vU] [] D := by
  unfold Sg
  refine q_dconst0 d_Ke_near_0 ?_
  refine q_dstore_n d_Ke_near_1 (by decide) (L' := [vR 0, vD 0, vU, vU, vU, vU]) rfl ?_
  refine q_iconst d_Ke_near_2 (by decide) ?_
  refine q_istore_n d_Ke_near_3 (by decide) (L' := [vR 0, vD 0, vU, vI 0, vU, vU]) rfl ?_
  exact h
theorem s_Ke_near_4 {x1 : Int} {x3 : Int} {z4 : VV} {z5 : VV}  (h : ((24 ≤ x3 → Q (some (vD x1)) zE D) ∧ (¬ 24 ≤ x3 → CI g M_Pr_hasStep [vR 9, vI x3] D (fun v2 D' => Sg g M_Ke_near Q 18 [vR 0, vD x1, vU, vI x3, vU, vU] [vI v2] D')))) : Sg g M_Ke_near Q 4 [vR 0, vD x1, vU, vI x3, z4, z5] [] D := by
  unfold Sg
  refine q_mask [false, false, false, false, true, true] (L' := [vR 0, vD x1, vU, vI x3, vU, vU]) rfl ?_
  refine q_iload_n d_Ke_near_4 rfl ?_
  refine q_bipush d_Ke_near_5 kb_24 ?_
  refine q_icmp_ge (tgt := 73) d_Ke_near_7 (by decide) (fun c1 => ?_) (fun c1 => ?_)
  · have h := h.1 (c1)
    refine q_dload_n d_Ke_near_73 rfl ?_
    exact q_dret d_Ke_near_74 rfl ⟨Nat.le_refl _, Nat.le_refl _⟩ h
  · have h := h.2 (c1)
    refine q_aload_n d_Ke_near_10 rfl ?_
    refine p_getR (k := 2) (b := 9) zc_Ke l_Ke_26 fr_Ke_planned d_Ke_near_11 zk_0 rfl ?_
    refine q_iload_n d_Ke_near_14 rfl ?_
    refine p_callV (as := [vI x3]) (st := []) (a := 9) mc_Pr_hasStep mv_Pr_hasStep l_Ke_138 zc_Pr rfl d_Ke_near_15 rfl rfl rfl zk_9 (CI.to ?_)
    exact h
theorem s_Ke_near_18 {x1 : Int} {x3 : Int} {z4 : VV} {z5 : VV} {y0 : Int}  (h : ((y0 = 0 → Q (some (vD x1)) zE D) ∧ (¬ y0 = 0 → ((0 ≤ x3 ∧ x3 < 24)) ∧ CD g M_Fr_asBinary [vR (20 + 5 * x3.toNat)] D (fun v3 D' => Sg g M_Ke_near Q 33 [vR 0, vD x1, vU, vI x3, vU, vU] [vD v3] D')))) : Sg g M_Ke_near Q 18 [vR 0, vD x1, vU, vI x3, z4, z5] [vI y0] D := by
  unfold Sg
  refine q_mask [false, false, false, false, true, true] (L' := [vR 0, vD x1, vU, vI x3, vU, vU]) rfl ?_
  refine q_if_eq (tgt := 73) d_Ke_near_18 (by decide) (fun c1 => ?_) (fun c1 => ?_)
  · have h := h.1 (c1)
    refine q_dload_n d_Ke_near_73 rfl ?_
    exact q_dret d_Ke_near_74 rfl ⟨Nat.le_refl _, Nat.le_refl _⟩ h
  · have h := h.2 (c1)
    obtain ⟨o2, h⟩ := h
    refine q_aload_n d_Ke_near_21 rfl ?_
    refine p_getR (k := 2) (b := 9) zc_Ke l_Ke_26 fr_Ke_planned d_Ke_near_22 zk_0 rfl ?_
    refine p_getRN (k := 4) (b := 12) zc_Pr l_Ke_171 fr_Pr_rate d_Ke_near_25 zk_9 rfl ?_
    refine q_iload_n d_Ke_near_28 rfl ?_
    refine p_aald (b := (20 + 5 * x3.toNat)) d_Ke_near_29 zk_12 (by decide) o2 rfl ?_
    refine p_callV (as := []) (st := []) (a := (20 + 5 * x3.toNat)) mc_Fr_asBinary mv_Fr_asBinary l_Ke_175 zc_Fr rfl d_Ke_near_30 rfl rfl rfl (ze_0 (i := x3.toNat) zk_12 (by omega)) (CD.to ?_)
    exact h
theorem s_Ke_near_33 {x1 : Int} {x3 : Int} {z4 : VV} {z5 : VV} {y0 : Int}  (h : ((0 ≤ x3 ∧ x3 < 24) ∧ (0 ≤ x3 ∧ x3 < 24) ∧ R32 ((D 11 x3) - (D 10 x3)) ∧ vf_n64 (FP.dmul (zdu y0) (zdu y0)) ∧ vf_n64 (FP.dmul (zdu (zdmul y0 y0)) (zdu y0)) ∧ vf_n64 (FP.dmul (zdu (zi2d ((D 11 x3) - (D 10 x3)))) (zdu (zdmul (zdmul y0 y0) y0))) ∧ vf_n64 (FP.dadd (zdu x1) (zdu (zdmul (zi2d ((D 11 x3) - (D 10 x3))) (zdmul (zdmul y0 y0) y0)))) ∧ R32 (x3 + 1)) ∧ Sg g M_Ke_near Q 4 [vR 0, vD (zdadd x1 (zdmul (zi2d ((D 11 x3) - (D 10 x3))) (zdmul (zdmul y0 y0) y0))), vU, vI (x3 + 1), vD y0, vU] [] D) : Sg g M_Ke_near Q 33 [vR 0, vD x1, vU, vI x3, z4, z5] [vD y0] D := by
  unfold Sg
  refine q_mask [false, false, false, false, true, true] (L' := [vR 0, vD x1, vU, vI x3, vU, vU]) rfl ?_
  obtain ⟨⟨o1, o2, o3, o4, o5, o6, o7, o8⟩, h⟩ := h
  refine q_dstore d_Ke_near_33 (by decide) (L' := [vR 0, vD x1, vU, vI x3, vD y0, vU]) rfl ?_
  refine q_dload_n d_Ke_near_35 rfl ?_
  refine q_aload_n d_Ke_near_36 rfl ?_
  refine p_getR (k := 2) (b := 9) zc_Ke l_Ke_26 fr_Ke_planned d_Ke_near_37 zk_0 rfl ?_
  refine p_getRN (k := 3) (b := 11) zc_Pr l_Ke_147 fr_Pr_end d_Ke_near_40 zk_9 rfl ?_
  refine q_iload_n d_Ke_near_43 rfl ?_
  refine p_iald d_Ke_near_44 zk_11 o1 ?_
  refine q_aload_n d_Ke_near_45 rfl ?_
  refine p_getR (k := 2) (b := 9) zc_Ke l_Ke_26 fr_Ke_planned d_Ke_near_46 zk_0 rfl ?_
  refine p_getRN (k := 2) (b := 10) zc_Pr l_Ke_144 fr_Pr_begin d_Ke_near_49 zk_9 rfl ?_
  refine q_iload_n d_Ke_near_52 rfl ?_
  refine p_iald d_Ke_near_53 zk_10 o2 ?_
  refine q_isub d_Ke_near_54 o3 ?_
  refine q_i2d d_Ke_near_55 ?_
  refine q_dload d_Ke_near_56 rfl ?_
  refine q_dload d_Ke_near_58 rfl ?_
  refine q_dmul d_Ke_near_60 o4 ?_
  refine q_dload d_Ke_near_61 rfl ?_
  refine q_dmul d_Ke_near_63 o5 ?_
  refine q_dmul d_Ke_near_64 o6 ?_
  refine q_dadd d_Ke_near_65 o7 ?_
  refine q_dstore_n d_Ke_near_66 (by decide) (L' := [vR 0, vD (zdadd x1 (zdmul (zi2d ((D 11 x3) - (D 10 x3))) (zdmul (zdmul y0 y0) y0))), vU, vI x3, vD y0, vU]) rfl ?_
  refine q_iinc d_Ke_near_67 rfl (by decide) o8 (L' := [vR 0, vD (zdadd x1 (zdmul (zi2d ((D 11 x3) - (D 10 x3))) (zdmul (zdmul y0 y0) y0))), vU, vI (x3 + 1), vD y0, vU]) rfl ?_
  refine q_goto (tgt := 4) d_Ke_near_70 (by decide) ?_
  exact h
theorem s_Ke_speed_0 {x1 : Int}  (h : Sg g M_Ke_speed Q 2 [vR 0, vD x1, vU, vI 0] [] D) : Sg g M_Ke_speed Q 0 [vR 0, vD x1, vU, vU] [] D := by
  unfold Sg
  refine q_iconst d_Ke_speed_0 (by decide) ?_
  refine q_istore_n d_Ke_speed_1 (by decide) (L' := [vR 0, vD x1, vU, vI 0]) rfl ?_
  exact h
theorem s_Ke_speed_2 {x1 : Int} {x3 : Int}  (h : ((24 ≤ x3 → Q (some (vD 0)) zE D) ∧ (¬ 24 ≤ x3 → CI g M_Pr_hasStep [vR 9, vI x3] D (fun v2 D' => Sg g M_Ke_speed Q 16 [vR 0, vD x1, vU, vI x3] [vI v2] D')))) : Sg g M_Ke_speed Q 2 [vR 0, vD x1, vU, vI x3] [] D := by
  unfold Sg
  refine q_iload_n d_Ke_speed_2 rfl ?_
  refine q_bipush d_Ke_speed_3 kb_24 ?_
  refine q_icmp_ge (tgt := 68) d_Ke_speed_5 (by decide) (fun c1 => ?_) (fun c1 => ?_)
  · have h := h.1 (c1)
    refine q_dconst0 d_Ke_speed_68 ?_
    exact q_dret d_Ke_speed_69 rfl ⟨Nat.le_refl _, Nat.le_refl _⟩ h
  · have h := h.2 (c1)
    refine q_aload_n d_Ke_speed_8 rfl ?_
    refine p_getR (k := 2) (b := 9) zc_Ke l_Ke_26 fr_Ke_planned d_Ke_speed_9 zk_0 rfl ?_
    refine q_iload_n d_Ke_speed_12 rfl ?_
    refine p_callV (as := [vI x3]) (st := []) (a := 9) mc_Pr_hasStep mv_Pr_hasStep l_Ke_138 zc_Pr rfl d_Ke_speed_13 rfl rfl rfl zk_9 (CI.to ?_)
    exact h
theorem s_Ke_speed_16 {x1 : Int} {x3 : Int} {y0 : Int}  (h : ((y0 = 0 → Q (some (vD 0)) zE D) ∧ (¬ y0 = 0 → ((0 ≤ x3 ∧ x3 < 24)) ∧ ((0 < (zdcmp .g (zi2d (D 10 x3)) x1) → Sg g M_Ke_speed Q 62 [vR 0, vD x1, vU, vI x3] [] D) ∧ (¬ 0 < (zdcmp .g (zi2d (D 10 x3)) x1) → ((0 ≤ x3 ∧ x3 < 24)) ∧ ((0 ≤ (zdcmp .g x1 (zi2d (D 11 x3))) → Sg g M_Ke_speed Q 62 [vR 0, vD x1, vU, vI x3] [] D) ∧ (¬ 0 ≤ (zdcmp .g x1 (zi2d (D 11 x3))) → ((0 ≤ x3 ∧ x3 < 24)) ∧ CD g M_Fr_asBinary [vR (20 + 5 * x3.toNat)] D (fun v7 D' => Sg g M_Ke_speed Q 61 [vR 0, vD x1, vU, vI x3] [vD v7] D')))))))) : Sg g M_Ke_speed Q 16 [vR 0, vD x1, vU, vI x3] [vI y0] D := by
  unfold Sg
  refine q_if_eq (tgt := 68) d_Ke_speed_16 (by decide) (fun c1 => ?_) (fun c1 => ?_)
  · have h := h.1 (c1)
    refine q_dconst0 d_Ke_speed_68 ?_
    exact q_dret d_Ke_speed_69 rfl ⟨Nat.le_refl _, Nat.le_refl _⟩ h
  · have h := h.2 (c1)
    obtain ⟨o2, h⟩ := h
    refine q_aload_n d_Ke_speed_19 rfl ?_
    refine p_getR (k := 2) (b := 9) zc_Ke l_Ke_26 fr_Ke_planned d_Ke_speed_20 zk_0 rfl ?_
    refine p_getRN (k := 2) (b := 10) zc_Pr l_Ke_144 fr_Pr_begin d_Ke_speed_23 zk_9 rfl ?_
    refine q_iload_n d_Ke_speed_26 rfl ?_
    refine p_iald d_Ke_speed_27 zk_10 o2 ?_
    refine q_i2d d_Ke_speed_28 ?_
    refine q_dload_n d_Ke_speed_29 rfl ?_
    refine q_dcmp d_Ke_speed_30 ?_
    refine q_if_gt (tgt := 62) d_Ke_speed_31 (by decide) (fun c3 => ?_) (fun c3 => ?_)
    · have h := h.1 (c3)
      exact h
    · have h := h.2 (c3)
      obtain ⟨o4, h⟩ := h
      refine q_dload_n d_Ke_speed_34 rfl ?_
      refine q_aload_n d_Ke_speed_35 rfl ?_
      refine p_getR (k := 2) (b := 9) zc_Ke l_Ke_26 fr_Ke_planned d_Ke_speed_36 zk_0 rfl ?_
      refine p_getRN (k := 3) (b := 11) zc_Pr l_Ke_147 fr_Pr_end d_Ke_speed_39 zk_9 rfl ?_
      refine q_iload_n d_Ke_speed_42 rfl ?_
      refine p_iald d_Ke_speed_43 zk_11 o4 ?_
      refine q_i2d d_Ke_speed_44 ?_
      refine q_dcmp d_Ke_speed_45 ?_
      refine q_if_ge (tgt := 62) d_Ke_speed_46 (by decide) (fun c5 => ?_) (fun c5 => ?_)
      · have h := h.1 (c5)
        exact h
      · have h := h.2 (c5)
        obtain ⟨o6, h⟩ := h
        refine q_aload_n d_Ke_speed_49 rfl ?_
        refine p_getR (k := 2) (b := 9) zc_Ke l_Ke_26 fr_Ke_planned d_Ke_speed_50 zk_0 rfl ?_
        refine p_getRN (k := 4) (b := 12) zc_Pr l_Ke_171 fr_Pr_rate d_Ke_speed_53 zk_9 rfl ?_
        refine q_iload_n d_Ke_speed_56 rfl ?_
        refine p_aald (b := (20 + 5 * x3.toNat)) d_Ke_speed_57 zk_12 (by decide) o6 rfl ?_
        refine p_callV (as := []) (st := []) (a := (20 + 5 * x3.toNat)) mc_Fr_asBinary mv_Fr_asBinary l_Ke_175 zc_Fr rfl d_Ke_speed_58 rfl rfl rfl (ze_0 (i := x3.toNat) zk_12 (by omega)) (CD.to ?_)
        exact h
theorem s_Ke_speed_62 {x1 : Int} {x3 : Int}  (h : (R32 (x3 + 1)) ∧ Sg g M_Ke_speed Q 2 [vR 0, vD x1, vU, vI (x3 + 1)] [] D) : Sg g M_Ke_speed Q 62 [vR 0, vD x1, vU, vI x3] [] D := by
  unfold Sg
  obtain ⟨o1, h⟩ := h
  refine q_iinc d_Ke_speed_62 rfl (by decide) o1 (L' := [vR 0, vD x1, vU, vI (x3 + 1)]) rfl ?_
  refine q_goto (tgt := 2) d_Ke_speed_65 (by decide) ?_
  exact h
theorem s_Ke_speed_61 {z0 : VV} {z1 : VV} {z2 : VV} {z3 : VV} {y0 : Int}  (h : Q (some (vD y0)) zE D) : Sg g M_Ke_speed Q 61 [z0, z1, z2, z3] [vD y0] D := by
  unfold Sg
  refine q_mask [true, true, true, true] (L' := [vU, vU, vU, vU]) rfl ?_
  exact q_dret d_Ke_speed_61 rfl ⟨Nat.le_refl _, Nat.le_refl _⟩ h
theorem s_Ke_working_0 {x1 : Int} {x2 : Int}  (h : ((x2 < 0 → Q (some (vI (-1))) zE D) ∧ (¬ x2 < 0 → ((200 ≤ x2 → Q (some (vI (-1))) zE D) ∧ (¬ 200 ≤ x2 → ((x1 = 0 → Sg g M_Ke_working Q 22 [vR 0, vI x1, vI x2, vU] [] D) ∧ (¬ x1 = 0 → ((x1 = 1 → Sg g M_Ke_working Q 22 [vR 0, vI x1, vI x2, vU] [] D) ∧ (¬ x1 = 1 → Q (some (vI (-1))) zE D))))))))) : Sg g M_Ke_working Q 0 [vR 0, vI x1, vI x2, vU] [] D := by
  unfold Sg
  refine q_iload_n d_Ke_working_0 rfl ?_
  refine q_if_lt (tgt := 20) d_Ke_working_1 (by decide) (fun c1 => ?_) (fun c1 => ?_)
  · have h := h.1 (c1)
    refine q_iconst d_Ke_working_20 (by decide) ?_
    exact q_iret d_Ke_working_21 (Or.inl rfl) ⟨Nat.le_refl _, Nat.le_refl _⟩ h
  · have h := h.2 (c1)
    refine q_iload_n d_Ke_working_4 rfl ?_
    refine q_sipush d_Ke_working_5 ks_200 ?_
    refine q_icmp_ge (tgt := 20) d_Ke_working_8 (by decide) (fun c2 => ?_) (fun c2 => ?_)
    · have h := h.1 (c2)
      refine q_iconst d_Ke_working_20 (by decide) ?_
      exact q_iret d_Ke_working_21 (Or.inl rfl) ⟨Nat.le_refl _, Nat.le_refl _⟩ h
    · have h := h.2 (c2)
      refine q_iload_n d_Ke_working_11 rfl ?_
      refine q_if_eq (tgt := 22) d_Ke_working_12 (by decide) (fun c3 => ?_) (fun c3 => ?_)
      · have h := h.1 (c3)
        exact h
      · have h := h.2 (c3)
        refine q_iload_n d_Ke_working_15 rfl ?_
        refine q_iconst d_Ke_working_16 (by decide) ?_
        refine q_icmp_eq (tgt := 22) d_Ke_working_17 (by decide) (fun c4 => ?_) (fun c4 => ?_)
        · have h := h.1 (c4)
          exact h
        · have h := h.2 (c4)
          refine q_iconst d_Ke_working_20 (by decide) ?_
          exact q_iret d_Ke_working_21 (Or.inl rfl) ⟨Nat.le_refl _, Nat.le_refl _⟩ h
theorem s_Ke_working_22 {x1 : Int} {x2 : Int} {z3 : VV}  (h : ((¬ x1 = 0 → Sg g M_Ke_working Q 37 [vR 0, vI x1, vI x2, vU] [vR 200] D) ∧ (x1 = 0 → Sg g M_Ke_working Q 37 [vR 0, vI x1, vI x2, vU] [vR 9] D))) : Sg g M_Ke_working Q 22 [vR 0, vI x1, vI x2, z3] [] D := by
  unfold Sg
  refine q_mask [false, false, false, true] (L' := [vR 0, vI x1, vI x2, vU]) rfl ?_
  refine q_iload_n d_Ke_working_22 rfl ?_
  refine q_if_ne (tgt := 33) d_Ke_working_23 (by decide) (fun c1 => ?_) (fun c1 => ?_)
  · have h := h.1 (c1)
    refine q_aload_n d_Ke_working_33 rfl ?_
    refine p_getR (k := 3) (b := 200) zc_Ke l_Ke_30 fr_Ke_foreseen d_Ke_working_34 zk_0 rfl ?_
    exact h
  · have h := h.2 (c1)
    refine q_aload_n d_Ke_working_26 rfl ?_
    refine p_getR (k := 2) (b := 9) zc_Ke l_Ke_26 fr_Ke_planned d_Ke_working_27 zk_0 rfl ?_
    refine q_goto (tgt := 37) d_Ke_working_30 (by decide) ?_
    exact h
theorem s_Ke_working_37 {z0 : VV} {z1 : VV} {x2 : Int} {z3 : VV}  (h : (((D 200 0) = 0 → Q (some (vI (-1))) zE D) ∧ (¬ (D 200 0) = 0 → ((0 ≤ x2 ∧ x2 < 200)) ∧ Q (some (vI (D 205 x2))) zE D))) : Sg g M_Ke_working Q 37 [z0, z1, vI x2, z3] [vR 200] D := by
  unfold Sg
  refine q_mask [true, true, false, true] (L' := [vU, vU, vI x2, vU]) rfl ?_
  refine q_astore_n d_Ke_working_37 (by decide) (L' := [vU, vU, vI x2, vR 200]) rfl ?_
  refine q_aload_n d_Ke_working_38 rfl ?_
  refine p_getIN (k := 0) zc_Pr l_Ke_122 fi_Pr_ready d_Ke_working_39 zk_200 ?_
  refine q_if_eq (tgt := 54) d_Ke_working_42 (by decide) (fun c1 => ?_) (fun c1 => ?_)
  · have h := h.1 (c1)
    refine q_iconst d_Ke_working_54 (by decide) ?_
    exact q_iret d_Ke_working_55 (Or.inl rfl) ⟨Nat.le_refl _, Nat.le_refl _⟩ h
  · have h := h.2 (c1)
    obtain ⟨o2, h⟩ := h
    refine q_aload_n d_Ke_working_45 rfl ?_
    refine p_getRN (k := 6) (b := 205) zc_Pr l_Ke_181 fr_Pr_worker d_Ke_working_46 zk_200 rfl ?_
    refine q_iload_n d_Ke_working_49 rfl ?_
    refine p_iald d_Ke_working_50 zk_205 o2 ?_
    refine q_goto (tgt := 55) d_Ke_working_51 (by decide) ?_
    exact q_iret d_Ke_working_55 (Or.inl rfl) ⟨Nat.le_refl _, Nat.le_refl _⟩ h
theorem s_Ke_working_37b {z0 : VV} {z1 : VV} {x2 : Int} {z3 : VV}  (h : (((D 9 0) = 0 → Q (some (vI (-1))) zE D) ∧ (¬ (D 9 0) = 0 → ((0 ≤ x2 ∧ x2 < 200)) ∧ Q (some (vI (D 14 x2))) zE D))) : Sg g M_Ke_working Q 37 [z0, z1, vI x2, z3] [vR 9] D := by
  unfold Sg
  refine q_mask [true, true, false, true] (L' := [vU, vU, vI x2, vU]) rfl ?_
  refine q_astore_n d_Ke_working_37 (by decide) (L' := [vU, vU, vI x2, vR 9]) rfl ?_
  refine q_aload_n d_Ke_working_38 rfl ?_
  refine p_getIN (k := 0) zc_Pr l_Ke_122 fi_Pr_ready d_Ke_working_39 zk_9 ?_
  refine q_if_eq (tgt := 54) d_Ke_working_42 (by decide) (fun c1 => ?_) (fun c1 => ?_)
  · have h := h.1 (c1)
    refine q_iconst d_Ke_working_54 (by decide) ?_
    exact q_iret d_Ke_working_55 (Or.inl rfl) ⟨Nat.le_refl _, Nat.le_refl _⟩ h
  · have h := h.2 (c1)
    obtain ⟨o2, h⟩ := h
    refine q_aload_n d_Ke_working_45 rfl ?_
    refine p_getRN (k := 6) (b := 14) zc_Pr l_Ke_181 fr_Pr_worker d_Ke_working_46 zk_9 rfl ?_
    refine q_iload_n d_Ke_working_49 rfl ?_
    refine p_iald d_Ke_working_50 zk_14 o2 ?_
    refine q_goto (tgt := 55) d_Ke_working_51 (by decide) ?_
    exact q_iret d_Ke_working_55 (Or.inl rfl) ⟨Nat.le_refl _, Nat.le_refl _⟩ h
theorem s_Ke_check_0   (h : ((¬ (D 9 0) = 0 → CV g M_Re_shareOut [vR 391, vR 9] D (fun D' => Sg g M_Ke_check Q 23 [vR 0] [] D')) ∧ ((D 9 0) = 0 → Q (some (vI (-1))) zE D))) : Sg g M_Ke_check Q 0 [vR 0] [] D := by
  unfold Sg
  refine q_aload_n d_Ke_check_0 rfl ?_
  refine p_getR (k := 2) (b := 9) zc_Ke l_Ke_26 fr_Ke_planned d_Ke_check_1 zk_0 rfl ?_
  refine p_getIN (k := 0) zc_Pr l_Ke_122 fi_Pr_ready d_Ke_check_4 zk_9 ?_
  refine q_if_ne (tgt := 12) d_Ke_check_7 (by decide) (fun c1 => ?_) (fun c1 => ?_)
  · have h := h.1 (c1)
    refine q_aload_n d_Ke_check_12 rfl ?_
    refine p_getR (k := 4) (b := 391) zc_Ke l_Ke_36 fr_Ke_reckoner d_Ke_check_13 zk_0 rfl ?_
    refine q_aload_n d_Ke_check_16 rfl ?_
    refine p_getR (k := 2) (b := 9) zc_Ke l_Ke_26 fr_Ke_planned d_Ke_check_17 zk_0 rfl ?_
    refine p_callV (as := [vR 9]) (st := []) (a := 391) mc_Re_shareOut mv_Re_shareOut l_Ke_184 zc_Re rfl d_Ke_check_20 rfl rfl rfl zk_391 (CV.to ?_)
    exact h
  · have h := h.2 (c1)
    refine q_iconst d_Ke_check_10 (by decide) ?_
    exact q_iret d_Ke_check_11 (Or.inl rfl) ⟨Nat.le_refl _, Nat.le_refl _⟩ h
theorem s_Ke_check_23   (h : CI g M_Ke_leavesRoom [vR 0] D (fun v1 D' => Sg g M_Ke_check Q 27 [vR 0] [vI v1] D')) : Sg g M_Ke_check Q 23 [vR 0] [] D := by
  unfold Sg
  refine q_aload_n d_Ke_check_23 rfl ?_
  refine p_callV (as := []) (st := []) (a := 0) mc_Ke_leavesRoom mv_Ke_leavesRoom l_Ke_187 zc_Ke rfl d_Ke_check_24 rfl rfl rfl zk_0 (CI.to ?_)
  exact h
theorem s_Ke_check_27 {y0 : Int}  (h : ((y0 = 0 → Q (some (vI 0)) zE D) ∧ (¬ y0 = 0 → CI g M_Jo_allWork [vR 1] D (fun v2 D' => Sg g M_Ke_check Q 45 [vR 0] [vI v2, vR 9, vR 391] D')))) : Sg g M_Ke_check Q 27 [vR 0] [vI y0] D := by
  unfold Sg
  refine q_if_eq (tgt := 51) d_Ke_check_27 (by decide) (fun c1 => ?_) (fun c1 => ?_)
  · have h := h.1 (c1)
    refine q_iconst d_Ke_check_51 (by decide) ?_
    exact q_iret d_Ke_check_52 (Or.inl rfl) ⟨Nat.le_refl _, Nat.le_refl _⟩ h
  · have h := h.2 (c1)
    refine q_aload_n d_Ke_check_30 rfl ?_
    refine p_getR (k := 4) (b := 391) zc_Ke l_Ke_36 fr_Ke_reckoner d_Ke_check_31 zk_0 rfl ?_
    refine q_aload_n d_Ke_check_34 rfl ?_
    refine p_getR (k := 2) (b := 9) zc_Ke l_Ke_26 fr_Ke_planned d_Ke_check_35 zk_0 rfl ?_
    refine q_aload_n d_Ke_check_38 rfl ?_
    refine p_getR (k := 0) (b := 1) zc_Ke l_Ke_12 fr_Ke_jobs d_Ke_check_39 zk_0 rfl ?_
    refine p_callV (as := []) (st := [vR 9, vR 391]) (a := 1) mc_Jo_allWork mv_Jo_allWork l_Ke_190 zc_Jo rfl d_Ke_check_42 rfl rfl rfl zk_1 (CI.to ?_)
    exact h
theorem s_Ke_check_45 {y0 : Int}  (h : CI g M_Re_doesJust [vR 391, vR 9, vI y0] D (fun v1 D' => Sg g M_Ke_check Q 48 [vR 0] [vI v1] D')) : Sg g M_Ke_check Q 45 [vR 0] [vI y0, vR 9, vR 391] D := by
  unfold Sg
  refine p_callV (as := [vR 9, vI y0]) (st := []) (a := 391) mc_Re_doesJust mv_Re_doesJust l_Ke_194 zc_Re rfl d_Ke_check_45 rfl rfl rfl zk_391 (CI.to ?_)
  exact h
theorem s_Ke_check_48 {y0 : Int}  (h : ((¬ y0 = 0 → (((D 200 0) = 0 → Q (some (vI 1)) zE D) ∧ (¬ (D 200 0) = 0 → CI g M_Re_order [vR 391, vR 15, vR 206] D (fun v3 D' => Sg g M_Ke_check Q 84 [vR 0] [vI v3] D')))) ∧ (y0 = 0 → Q (some (vI 0)) zE D))) : Sg g M_Ke_check Q 48 [vR 0] [vI y0] D := by
  unfold Sg
  refine q_if_ne (tgt := 53) d_Ke_check_48 (by decide) (fun c1 => ?_) (fun c1 => ?_)
  · have h := h.1 (c1)
    refine q_aload_n d_Ke_check_53 rfl ?_
    refine p_getR (k := 3) (b := 200) zc_Ke l_Ke_30 fr_Ke_foreseen d_Ke_check_54 zk_0 rfl ?_
    refine p_getIN (k := 0) zc_Pr l_Ke_122 fi_Pr_ready d_Ke_check_57 zk_200 ?_
    refine q_if_eq (tgt := 89) d_Ke_check_60 (by decide) (fun c2 => ?_) (fun c2 => ?_)
    · have h := h.1 (c2)
      refine q_iconst d_Ke_check_89 (by decide) ?_
      exact q_iret d_Ke_check_90 (Or.inl rfl) ⟨Nat.le_refl _, Nat.le_refl _⟩ h
    · have h := h.2 (c2)
      refine q_aload_n d_Ke_check_63 rfl ?_
      refine p_getR (k := 4) (b := 391) zc_Ke l_Ke_36 fr_Ke_reckoner d_Ke_check_64 zk_0 rfl ?_
      refine q_aload_n d_Ke_check_67 rfl ?_
      refine p_getR (k := 2) (b := 9) zc_Ke l_Ke_26 fr_Ke_planned d_Ke_check_68 zk_0 rfl ?_
      refine p_getRN (k := 7) (b := 15) zc_Pr l_Ke_198 fr_Pr_cost d_Ke_check_71 zk_9 rfl ?_
      refine q_aload_n d_Ke_check_74 rfl ?_
      refine p_getR (k := 3) (b := 200) zc_Ke l_Ke_30 fr_Ke_foreseen d_Ke_check_75 zk_0 rfl ?_
      refine p_getRN (k := 7) (b := 206) zc_Pr l_Ke_198 fr_Pr_cost d_Ke_check_78 zk_200 rfl ?_
      refine p_callV (as := [vR 15, vR 206]) (st := []) (a := 391) mc_Re_order mv_Re_order l_Ke_161 zc_Re rfl d_Ke_check_81 rfl rfl rfl zk_391 (CI.to ?_)
      exact h
  · have h := h.2 (c1)
    refine q_iconst d_Ke_check_51 (by decide) ?_
    exact q_iret d_Ke_check_52 (Or.inl rfl) ⟨Nat.le_refl _, Nat.le_refl _⟩ h
theorem s_Ke_check_84 {z0 : VV} {y0 : Int}  (h : ((y0 ≤ 0 → Q (some (vI 1)) zE D) ∧ (¬ y0 ≤ 0 → Q (some (vI 0)) zE D))) : Sg g M_Ke_check Q 84 [z0] [vI y0] D := by
  unfold Sg
  refine q_mask [true] (L' := [vU]) rfl ?_
  refine q_if_le (tgt := 89) d_Ke_check_84 (by decide) (fun c1 => ?_) (fun c1 => ?_)
  · have h := h.1 (c1)
    refine q_iconst d_Ke_check_89 (by decide) ?_
    exact q_iret d_Ke_check_90 (Or.inl rfl) ⟨Nat.le_refl _, Nat.le_refl _⟩ h
  · have h := h.2 (c1)
    refine q_iconst d_Ke_check_87 (by decide) ?_
    exact q_iret d_Ke_check_88 (Or.inl rfl) ⟨Nat.le_refl _, Nat.le_refl _⟩ h
theorem s_Ke_forgetPlans_0   (h : (∀ D1, D1 = zw D 9 0 0 → (∀ D3, D3 = zw D1 200 0 0 → (∀ D5, D5 = zw D3 573 0 0 → Q none zE D5)))) : Sg g M_Ke_forgetPlans Q 0 [vR 0] [] D := by
  unfold Sg
  refine q_aload_n d_Ke_forgetPlans_0 rfl ?_
  refine p_getR (k := 2) (b := 9) zc_Ke l_Ke_26 fr_Ke_planned d_Ke_forgetPlans_1 zk_0 rfl ?_
  refine q_iconst d_Ke_forgetPlans_4 (by decide) ?_
  refine p_putIN (k := 0) zc_Pr l_Ke_122 fp_Pr_ready (Or.inr ⟨rfl, by decide⟩) d_Ke_forgetPlans_5 zk_9 (fun D1 e2 => ?_)
  have h := h D1 e2
  refine q_aload_n d_Ke_forgetPlans_8 rfl ?_
  refine p_getR (k := 3) (b := 200) zc_Ke l_Ke_30 fr_Ke_foreseen d_Ke_forgetPlans_9 zk_0 rfl ?_
  refine q_iconst d_Ke_forgetPlans_12 (by decide) ?_
  refine p_putIN (k := 0) zc_Pr l_Ke_122 fp_Pr_ready (Or.inr ⟨rfl, by decide⟩) d_Ke_forgetPlans_13 zk_200 (fun D3 e4 => ?_)
  have h := h D3 e4
  refine q_aload_n d_Ke_forgetPlans_16 rfl ?_
  refine p_getR (k := 7) (b := 573) zc_Ke l_Ke_57 fr_Ke_splitter d_Ke_forgetPlans_17 zk_0 rfl ?_
  refine q_iconst d_Ke_forgetPlans_20 (by decide) ?_
  refine p_putIN (k := 0) zc_Sp l_Ke_85 fp_Sp_ready (Or.inr ⟨rfl, by decide⟩) d_Ke_forgetPlans_21 zk_573 (fun D5 e6 => ?_)
  have h := h D5 e6
  exact q_vret d_Ke_forgetPlans_24 rfl ⟨Nat.le_refl _, Nat.le_refl _⟩ h
theorem s_Ke_fractionOf_0 {x1 : Int} {x2 : Int}  (h : (((x1 = 0 → CI g M_Pr_hasStep [vR 9, vI x2] D (fun v3 D' => Sg g M_Ke_fractionOf Q 64 [vR 0, vI x1, vI x2] [vI v3] D')) ∧ (x1 = 1 → CI g M_Pr_hasStep [vR 200, vI x2] D (fun v5 D' => Sg g M_Ke_fractionOf Q 89 [vR 0, vI x1, vI x2] [vI v5] D')) ∧ (x1 = 2 → (((D 9 0) = 0 → Q (some vN) zE D) ∧ (¬ (D 9 0) = 0 → CI g M_Jo_has [vR 1, vI x2] D (fun v8 D' => Sg g M_Ke_fractionOf Q 124 [vR 0, vI x1, vI x2] [vI v8] D')))) ∧ (x1 = 3 → (((D 200 0) = 0 → Q (some vN) zE D) ∧ (¬ (D 200 0) = 0 → CI g M_Jo_has [vR 1, vI x2] D (fun v11 D' => Sg g M_Ke_fractionOf Q 159 [vR 0, vI x1, vI x2] [vI v11] D')))) ∧ (x1 = 4 → (((D 9 0) = 0 → Q (some vN) zE D) ∧ (¬ (D 9 0) = 0 → CI g M_Jo_has [vR 1, vI x2] D (fun v14 D' => Sg g M_Ke_fractionOf Q 194 [vR 0, vI x1, vI x2] [vI v14] D')))) ∧ (x1 = 5 → (((D 573 0) = 0 → Q (some vN) zE D) ∧ (¬ (D 573 0) = 0 → CI g M_Jo_has [vR 1, vI x2] D (fun v17 D' => Sg g M_Ke_fractionOf Q 228 [vR 0, vI x1, vI x2] [vI v17] D')))) ∧ (x1 = 6 → (((D 573 0) = 0 → Q (some vN) zE D) ∧ (¬ (D 573 0) = 0 → CI g M_Jo_has [vR 1, vI x2] D (fun v20 D' => Sg g M_Ke_fractionOf Q 263 [vR 0, vI x1, vI x2] [vI v20] D')))) ∧ (x1 = 7 → (((D 9 0) = 0 → Q (some vN) zE D) ∧ (¬ (D 9 0) = 0 → ((¬ x2 = 0 → Q (some vN) zE D) ∧ (x2 = 0 → Q (some (vR 15)) zE D))))) ∧ (x1 = 8 → (((D 200 0) = 0 → Q (some vN) zE D) ∧ (¬ (D 200 0) = 0 → ((¬ x2 = 0 → Q (some vN) zE D) ∧ (x2 = 0 → Q (some (vR 206)) zE D))))) ∧ (x1 = 9 → (((D 573 0) = 0 → Q (some vN) zE D) ∧ (¬ (D 573 0) = 0 → ((¬ x2 = 0 → Q (some vN) zE D) ∧ (x2 = 0 → Q (some (vR 578)) zE D)))))) ∧ ((x1 < 0 ∨ 9 < x1) → Q (some vN) zE D))) : Sg g M_Ke_fractionOf Q 0 [vR 0, vI x1, vI x2] [] D := by
  unfold Sg
  refine q_iload_n d_Ke_fractionOf_0 rfl ?_
  by_cases c1 : 0 ≤ x1 ∧ x1 ≤ 9
  · have h := h.1
    by_cases c2 : x1 = 0
    · have h := h.1 c2
      refine q_tsIn (tgt := 56) (off := 55) d_Ke_fractionOf_1 (by omega) (by rw [c2]; rfl) (by decide) ?_
      refine q_aload_n d_Ke_fractionOf_56 rfl ?_
      refine p_getR (k := 2) (b := 9) zc_Ke l_Ke_26 fr_Ke_planned d_Ke_fractionOf_57 zk_0 rfl ?_
      refine q_iload_n d_Ke_fractionOf_60 rfl ?_
      refine p_callV (as := [vI x2]) (st := []) (a := 9) mc_Pr_hasStep mv_Pr_hasStep l_Ke_138 zc_Pr rfl d_Ke_fractionOf_61 rfl rfl rfl zk_9 (CI.to ?_)
      exact h
    by_cases c4 : x1 = 1
    · have h := h.2.1 c4
      refine q_tsIn (tgt := 81) (off := 80) d_Ke_fractionOf_1 (by omega) (by rw [c4]; rfl) (by decide) ?_
      refine q_aload_n d_Ke_fractionOf_81 rfl ?_
      refine p_getR (k := 3) (b := 200) zc_Ke l_Ke_30 fr_Ke_foreseen d_Ke_fractionOf_82 zk_0 rfl ?_
      refine q_iload_n d_Ke_fractionOf_85 rfl ?_
      refine p_callV (as := [vI x2]) (st := []) (a := 200) mc_Pr_hasStep mv_Pr_hasStep l_Ke_138 zc_Pr rfl d_Ke_fractionOf_86 rfl rfl rfl zk_200 (CI.to ?_)
      exact h
    by_cases c6 : x1 = 2
    · have h := h.2.2.1 c6
      refine q_tsIn (tgt := 106) (off := 105) d_Ke_fractionOf_1 (by omega) (by rw [c6]; rfl) (by decide) ?_
      refine q_aload_n d_Ke_fractionOf_106 rfl ?_
      refine p_getR (k := 2) (b := 9) zc_Ke l_Ke_26 fr_Ke_planned d_Ke_fractionOf_107 zk_0 rfl ?_
      refine p_getIN (k := 0) zc_Pr l_Ke_122 fi_Pr_ready d_Ke_fractionOf_110 zk_9 ?_
      refine q_if_eq (tgt := 139) d_Ke_fractionOf_113 (by decide) (fun c7 => ?_) (fun c7 => ?_)
      · have h := h.1 (c7)
        refine q_null d_Ke_fractionOf_139 ?_
        exact q_aretN d_Ke_fractionOf_140 rfl ⟨Nat.le_refl _, Nat.le_refl _⟩ h
      · have h := h.2 (c7)
        refine q_aload_n d_Ke_fractionOf_116 rfl ?_
        refine p_getR (k := 0) (b := 1) zc_Ke l_Ke_12 fr_Ke_jobs d_Ke_fractionOf_117 zk_0 rfl ?_
        refine q_iload_n d_Ke_fractionOf_120 rfl ?_
        refine p_callV (as := [vI x2]) (st := []) (a := 1) mc_Jo_has mv_Jo_has l_Ke_96 zc_Jo rfl d_Ke_fractionOf_121 rfl rfl rfl zk_1 (CI.to ?_)
        exact h
    by_cases c9 : x1 = 3
    · have h := h.2.2.2.1 c9
      refine q_tsIn (tgt := 141) (off := 140) d_Ke_fractionOf_1 (by omega) (by rw [c9]; rfl) (by decide) ?_
      refine q_aload_n d_Ke_fractionOf_141 rfl ?_
      refine p_getR (k := 3) (b := 200) zc_Ke l_Ke_30 fr_Ke_foreseen d_Ke_fractionOf_142 zk_0 rfl ?_
      refine p_getIN (k := 0) zc_Pr l_Ke_122 fi_Pr_ready d_Ke_fractionOf_145 zk_200 ?_
      refine q_if_eq (tgt := 174) d_Ke_fractionOf_148 (by decide) (fun c10 => ?_) (fun c10 => ?_)
      · have h := h.1 (c10)
        refine q_null d_Ke_fractionOf_174 ?_
        exact q_aretN d_Ke_fractionOf_175 rfl ⟨Nat.le_refl _, Nat.le_refl _⟩ h
      · have h := h.2 (c10)
        refine q_aload_n d_Ke_fractionOf_151 rfl ?_
        refine p_getR (k := 0) (b := 1) zc_Ke l_Ke_12 fr_Ke_jobs d_Ke_fractionOf_152 zk_0 rfl ?_
        refine q_iload_n d_Ke_fractionOf_155 rfl ?_
        refine p_callV (as := [vI x2]) (st := []) (a := 1) mc_Jo_has mv_Jo_has l_Ke_96 zc_Jo rfl d_Ke_fractionOf_156 rfl rfl rfl zk_1 (CI.to ?_)
        exact h
    by_cases c12 : x1 = 4
    · have h := h.2.2.2.2.1 c12
      refine q_tsIn (tgt := 176) (off := 175) d_Ke_fractionOf_1 (by omega) (by rw [c12]; rfl) (by decide) ?_
      refine q_aload_n d_Ke_fractionOf_176 rfl ?_
      refine p_getR (k := 2) (b := 9) zc_Ke l_Ke_26 fr_Ke_planned d_Ke_fractionOf_177 zk_0 rfl ?_
      refine p_getIN (k := 0) zc_Pr l_Ke_122 fi_Pr_ready d_Ke_fractionOf_180 zk_9 ?_
      refine q_if_eq (tgt := 208) d_Ke_fractionOf_183 (by decide) (fun c13 => ?_) (fun c13 => ?_)
      · have h := h.1 (c13)
        refine q_null d_Ke_fractionOf_208 ?_
        exact q_aretN d_Ke_fractionOf_209 rfl ⟨Nat.le_refl _, Nat.le_refl _⟩ h
      · have h := h.2 (c13)
        refine q_aload_n d_Ke_fractionOf_186 rfl ?_
        refine p_getR (k := 0) (b := 1) zc_Ke l_Ke_12 fr_Ke_jobs d_Ke_fractionOf_187 zk_0 rfl ?_
        refine q_iload_n d_Ke_fractionOf_190 rfl ?_
        refine p_callV (as := [vI x2]) (st := []) (a := 1) mc_Jo_has mv_Jo_has l_Ke_96 zc_Jo rfl d_Ke_fractionOf_191 rfl rfl rfl zk_1 (CI.to ?_)
        exact h
    by_cases c15 : x1 = 5
    · have h := h.2.2.2.2.2.1 c15
      refine q_tsIn (tgt := 210) (off := 209) d_Ke_fractionOf_1 (by omega) (by rw [c15]; rfl) (by decide) ?_
      refine q_aload_n d_Ke_fractionOf_210 rfl ?_
      refine p_getR (k := 7) (b := 573) zc_Ke l_Ke_57 fr_Ke_splitter d_Ke_fractionOf_211 zk_0 rfl ?_
      refine p_getIN (k := 0) zc_Sp l_Ke_85 fi_Sp_ready d_Ke_fractionOf_214 zk_573 ?_
      refine q_if_eq (tgt := 243) d_Ke_fractionOf_217 (by decide) (fun c16 => ?_) (fun c16 => ?_)
      · have h := h.1 (c16)
        refine q_null d_Ke_fractionOf_243 ?_
        exact q_aretN d_Ke_fractionOf_244 rfl ⟨Nat.le_refl _, Nat.le_refl _⟩ h
      · have h := h.2 (c16)
        refine q_aload_n d_Ke_fractionOf_220 rfl ?_
        refine p_getR (k := 0) (b := 1) zc_Ke l_Ke_12 fr_Ke_jobs d_Ke_fractionOf_221 zk_0 rfl ?_
        refine q_iload_n d_Ke_fractionOf_224 rfl ?_
        refine p_callV (as := [vI x2]) (st := []) (a := 1) mc_Jo_has mv_Jo_has l_Ke_96 zc_Jo rfl d_Ke_fractionOf_225 rfl rfl rfl zk_1 (CI.to ?_)
        exact h
    by_cases c18 : x1 = 6
    · have h := h.2.2.2.2.2.2.1 c18
      refine q_tsIn (tgt := 245) (off := 244) d_Ke_fractionOf_1 (by omega) (by rw [c18]; rfl) (by decide) ?_
      refine q_aload_n d_Ke_fractionOf_245 rfl ?_
      refine p_getR (k := 7) (b := 573) zc_Ke l_Ke_57 fr_Ke_splitter d_Ke_fractionOf_246 zk_0 rfl ?_
      refine p_getIN (k := 0) zc_Sp l_Ke_85 fi_Sp_ready d_Ke_fractionOf_249 zk_573 ?_
      refine q_if_eq (tgt := 278) d_Ke_fractionOf_252 (by decide) (fun c19 => ?_) (fun c19 => ?_)
      · have h := h.1 (c19)
        refine q_null d_Ke_fractionOf_278 ?_
        exact q_aretN d_Ke_fractionOf_279 rfl ⟨Nat.le_refl _, Nat.le_refl _⟩ h
      · have h := h.2 (c19)
        refine q_aload_n d_Ke_fractionOf_255 rfl ?_
        refine p_getR (k := 0) (b := 1) zc_Ke l_Ke_12 fr_Ke_jobs d_Ke_fractionOf_256 zk_0 rfl ?_
        refine q_iload_n d_Ke_fractionOf_259 rfl ?_
        refine p_callV (as := [vI x2]) (st := []) (a := 1) mc_Jo_has mv_Jo_has l_Ke_96 zc_Jo rfl d_Ke_fractionOf_260 rfl rfl rfl zk_1 (CI.to ?_)
        exact h
    by_cases c21 : x1 = 7
    · have h := h.2.2.2.2.2.2.2.1 c21
      refine q_tsIn (tgt := 280) (off := 279) d_Ke_fractionOf_1 (by omega) (by rw [c21]; rfl) (by decide) ?_
      refine q_aload_n d_Ke_fractionOf_280 rfl ?_
      refine p_getR (k := 2) (b := 9) zc_Ke l_Ke_26 fr_Ke_planned d_Ke_fractionOf_281 zk_0 rfl ?_
      refine p_getIN (k := 0) zc_Pr l_Ke_122 fi_Pr_ready d_Ke_fractionOf_284 zk_9 ?_
      refine q_if_eq (tgt := 304) d_Ke_fractionOf_287 (by decide) (fun c22 => ?_) (fun c22 => ?_)
      · have h := h.1 (c22)
        refine q_null d_Ke_fractionOf_304 ?_
        exact q_aretN d_Ke_fractionOf_305 rfl ⟨Nat.le_refl _, Nat.le_refl _⟩ h
      · have h := h.2 (c22)
        refine q_iload_n d_Ke_fractionOf_290 rfl ?_
        refine q_if_ne (tgt := 304) d_Ke_fractionOf_291 (by decide) (fun c23 => ?_) (fun c23 => ?_)
        · have h := h.1 (c23)
          refine q_null d_Ke_fractionOf_304 ?_
          exact q_aretN d_Ke_fractionOf_305 rfl ⟨Nat.le_refl _, Nat.le_refl _⟩ h
        · have h := h.2 (c23)
          refine q_aload_n d_Ke_fractionOf_294 rfl ?_
          refine p_getR (k := 2) (b := 9) zc_Ke l_Ke_26 fr_Ke_planned d_Ke_fractionOf_295 zk_0 rfl ?_
          refine p_getRN (k := 7) (b := 15) zc_Pr l_Ke_198 fr_Pr_cost d_Ke_fractionOf_298 zk_9 rfl ?_
          refine q_goto (tgt := 305) d_Ke_fractionOf_301 (by decide) ?_
          exact q_aret d_Ke_fractionOf_305 rfl ⟨Nat.le_refl _, Nat.le_refl _⟩ h
    by_cases c24 : x1 = 8
    · have h := h.2.2.2.2.2.2.2.2.1 c24
      refine q_tsIn (tgt := 306) (off := 305) d_Ke_fractionOf_1 (by omega) (by rw [c24]; rfl) (by decide) ?_
      refine q_aload_n d_Ke_fractionOf_306 rfl ?_
      refine p_getR (k := 3) (b := 200) zc_Ke l_Ke_30 fr_Ke_foreseen d_Ke_fractionOf_307 zk_0 rfl ?_
      refine p_getIN (k := 0) zc_Pr l_Ke_122 fi_Pr_ready d_Ke_fractionOf_310 zk_200 ?_
      refine q_if_eq (tgt := 330) d_Ke_fractionOf_313 (by decide) (fun c25 => ?_) (fun c25 => ?_)
      · have h := h.1 (c25)
        refine q_null d_Ke_fractionOf_330 ?_
        exact q_aretN d_Ke_fractionOf_331 rfl ⟨Nat.le_refl _, Nat.le_refl _⟩ h
      · have h := h.2 (c25)
        refine q_iload_n d_Ke_fractionOf_316 rfl ?_
        refine q_if_ne (tgt := 330) d_Ke_fractionOf_317 (by decide) (fun c26 => ?_) (fun c26 => ?_)
        · have h := h.1 (c26)
          refine q_null d_Ke_fractionOf_330 ?_
          exact q_aretN d_Ke_fractionOf_331 rfl ⟨Nat.le_refl _, Nat.le_refl _⟩ h
        · have h := h.2 (c26)
          refine q_aload_n d_Ke_fractionOf_320 rfl ?_
          refine p_getR (k := 3) (b := 200) zc_Ke l_Ke_30 fr_Ke_foreseen d_Ke_fractionOf_321 zk_0 rfl ?_
          refine p_getRN (k := 7) (b := 206) zc_Pr l_Ke_198 fr_Pr_cost d_Ke_fractionOf_324 zk_200 rfl ?_
          refine q_goto (tgt := 331) d_Ke_fractionOf_327 (by decide) ?_
          exact q_aret d_Ke_fractionOf_331 rfl ⟨Nat.le_refl _, Nat.le_refl _⟩ h
    by_cases c27 : x1 = 9
    · have h := h.2.2.2.2.2.2.2.2.2 c27
      refine q_tsIn (tgt := 332) (off := 331) d_Ke_fractionOf_1 (by omega) (by rw [c27]; rfl) (by decide) ?_
      refine q_aload_n d_Ke_fractionOf_332 rfl ?_
      refine p_getR (k := 7) (b := 573) zc_Ke l_Ke_57 fr_Ke_splitter d_Ke_fractionOf_333 zk_0 rfl ?_
      refine p_getIN (k := 0) zc_Sp l_Ke_85 fi_Sp_ready d_Ke_fractionOf_336 zk_573 ?_
      refine q_if_eq (tgt := 356) d_Ke_fractionOf_339 (by decide) (fun c28 => ?_) (fun c28 => ?_)
      · have h := h.1 (c28)
        refine q_null d_Ke_fractionOf_356 ?_
        exact q_aretN d_Ke_fractionOf_357 rfl ⟨Nat.le_refl _, Nat.le_refl _⟩ h
      · have h := h.2 (c28)
        refine q_iload_n d_Ke_fractionOf_342 rfl ?_
        refine q_if_ne (tgt := 356) d_Ke_fractionOf_343 (by decide) (fun c29 => ?_) (fun c29 => ?_)
        · have h := h.1 (c29)
          refine q_null d_Ke_fractionOf_356 ?_
          exact q_aretN d_Ke_fractionOf_357 rfl ⟨Nat.le_refl _, Nat.le_refl _⟩ h
        · have h := h.2 (c29)
          refine q_aload_n d_Ke_fractionOf_346 rfl ?_
          refine p_getR (k := 7) (b := 573) zc_Ke l_Ke_57 fr_Ke_splitter d_Ke_fractionOf_347 zk_0 rfl ?_
          refine p_getRN (k := 5) (b := 578) zc_Sp l_Ke_214 fr_Sp_cost d_Ke_fractionOf_350 zk_573 rfl ?_
          refine q_goto (tgt := 357) d_Ke_fractionOf_353 (by decide) ?_
          exact q_aret d_Ke_fractionOf_357 rfl ⟨Nat.le_refl _, Nat.le_refl _⟩ h
    · omega
  · have h := h.2 (by omega)
    refine q_tsOut (tgt := 358) d_Ke_fractionOf_1 (by omega) (by decide) ?_
    refine q_null d_Ke_fractionOf_358 ?_
    exact q_aretN d_Ke_fractionOf_359 rfl ⟨Nat.le_refl _, Nat.le_refl _⟩ h
theorem s_Ke_fractionOf_64 {z1 : VV} {x2 : Int} {y0 : Int}  (h : ((y0 = 0 → Q (some vN) zE D) ∧ (¬ y0 = 0 → ((0 ≤ x2 ∧ x2 < 24)) ∧ Q (some (vR (20 + 5 * x2.toNat))) zE D))) : Sg g M_Ke_fractionOf Q 64 [vR 0, z1, vI x2] [vI y0] D := by
  unfold Sg
  refine q_mask [false, true, false] (L' := [vR 0, vU, vI x2]) rfl ?_
  refine q_if_eq (tgt := 79) d_Ke_fractionOf_64 (by decide) (fun c1 => ?_) (fun c1 => ?_)
  · have h := h.1 (c1)
    refine q_null d_Ke_fractionOf_79 ?_
    exact q_aretN d_Ke_fractionOf_80 rfl ⟨Nat.le_refl _, Nat.le_refl _⟩ h
  · have h := h.2 (c1)
    obtain ⟨o2, h⟩ := h
    refine q_aload_n d_Ke_fractionOf_67 rfl ?_
    refine p_getR (k := 2) (b := 9) zc_Ke l_Ke_26 fr_Ke_planned d_Ke_fractionOf_68 zk_0 rfl ?_
    refine p_getRN (k := 4) (b := 12) zc_Pr l_Ke_171 fr_Pr_rate d_Ke_fractionOf_71 zk_9 rfl ?_
    refine q_iload_n d_Ke_fractionOf_74 rfl ?_
    refine p_aald (b := (20 + 5 * x2.toNat)) d_Ke_fractionOf_75 zk_12 (by decide) o2 rfl ?_
    refine q_goto (tgt := 80) d_Ke_fractionOf_76 (by decide) ?_
    exact q_aret d_Ke_fractionOf_80 rfl ⟨Nat.le_refl _, Nat.le_refl _⟩ h
theorem s_Ke_fractionOf_89 {z1 : VV} {x2 : Int} {y0 : Int}  (h : ((y0 = 0 → Q (some vN) zE D) ∧ (¬ y0 = 0 → ((0 ≤ x2 ∧ x2 < 24)) ∧ Q (some (vR (211 + 5 * x2.toNat))) zE D))) : Sg g M_Ke_fractionOf Q 89 [vR 0, z1, vI x2] [vI y0] D := by
  unfold Sg
  refine q_mask [false, true, false] (L' := [vR 0, vU, vI x2]) rfl ?_
  refine q_if_eq (tgt := 104) d_Ke_fractionOf_89 (by decide) (fun c1 => ?_) (fun c1 => ?_)
  · have h := h.1 (c1)
    refine q_null d_Ke_fractionOf_104 ?_
    exact q_aretN d_Ke_fractionOf_105 rfl ⟨Nat.le_refl _, Nat.le_refl _⟩ h
  · have h := h.2 (c1)
    obtain ⟨o2, h⟩ := h
    refine q_aload_n d_Ke_fractionOf_92 rfl ?_
    refine p_getR (k := 3) (b := 200) zc_Ke l_Ke_30 fr_Ke_foreseen d_Ke_fractionOf_93 zk_0 rfl ?_
    refine p_getRN (k := 4) (b := 203) zc_Pr l_Ke_171 fr_Pr_rate d_Ke_fractionOf_96 zk_200 rfl ?_
    refine q_iload_n d_Ke_fractionOf_99 rfl ?_
    refine p_aald (b := (211 + 5 * x2.toNat)) d_Ke_fractionOf_100 zk_203 (by decide) o2 rfl ?_
    refine q_goto (tgt := 105) d_Ke_fractionOf_101 (by decide) ?_
    exact q_aret d_Ke_fractionOf_105 rfl ⟨Nat.le_refl _, Nat.le_refl _⟩ h
theorem s_Ke_fractionOf_124 {z1 : VV} {x2 : Int} {y0 : Int}  (h : ((y0 = 0 → Q (some vN) zE D) ∧ (¬ y0 = 0 → ((0 ≤ x2 ∧ x2 < 12)) ∧ Q (some (vR (140 + 5 * x2.toNat))) zE D))) : Sg g M_Ke_fractionOf Q 124 [vR 0, z1, vI x2] [vI y0] D := by
  unfold Sg
  refine q_mask [false, true, false] (L' := [vR 0, vU, vI x2]) rfl ?_
  refine q_if_eq (tgt := 139) d_Ke_fractionOf_124 (by decide) (fun c1 => ?_) (fun c1 => ?_)
  · have h := h.1 (c1)
    refine q_null d_Ke_fractionOf_139 ?_
    exact q_aretN d_Ke_fractionOf_140 rfl ⟨Nat.le_refl _, Nat.le_refl _⟩ h
  · have h := h.2 (c1)
    obtain ⟨o2, h⟩ := h
    refine q_aload_n d_Ke_fractionOf_127 rfl ?_
    refine p_getR (k := 2) (b := 9) zc_Ke l_Ke_26 fr_Ke_planned d_Ke_fractionOf_128 zk_0 rfl ?_
    refine p_getRN (k := 5) (b := 13) zc_Pr l_Ke_202 fr_Pr_done d_Ke_fractionOf_131 zk_9 rfl ?_
    refine q_iload_n d_Ke_fractionOf_134 rfl ?_
    refine p_aald (b := (140 + 5 * x2.toNat)) d_Ke_fractionOf_135 zk_13 (by decide) o2 rfl ?_
    refine q_goto (tgt := 140) d_Ke_fractionOf_136 (by decide) ?_
    exact q_aret d_Ke_fractionOf_140 rfl ⟨Nat.le_refl _, Nat.le_refl _⟩ h
theorem s_Ke_fractionOf_159 {z1 : VV} {x2 : Int} {y0 : Int}  (h : ((y0 = 0 → Q (some vN) zE D) ∧ (¬ y0 = 0 → ((0 ≤ x2 ∧ x2 < 12)) ∧ Q (some (vR (331 + 5 * x2.toNat))) zE D))) : Sg g M_Ke_fractionOf Q 159 [vR 0, z1, vI x2] [vI y0] D := by
  unfold Sg
  refine q_mask [false, true, false] (L' := [vR 0, vU, vI x2]) rfl ?_
  refine q_if_eq (tgt := 174) d_Ke_fractionOf_159 (by decide) (fun c1 => ?_) (fun c1 => ?_)
  · have h := h.1 (c1)
    refine q_null d_Ke_fractionOf_174 ?_
    exact q_aretN d_Ke_fractionOf_175 rfl ⟨Nat.le_refl _, Nat.le_refl _⟩ h
  · have h := h.2 (c1)
    obtain ⟨o2, h⟩ := h
    refine q_aload_n d_Ke_fractionOf_162 rfl ?_
    refine p_getR (k := 3) (b := 200) zc_Ke l_Ke_30 fr_Ke_foreseen d_Ke_fractionOf_163 zk_0 rfl ?_
    refine p_getRN (k := 5) (b := 204) zc_Pr l_Ke_202 fr_Pr_done d_Ke_fractionOf_166 zk_200 rfl ?_
    refine q_iload_n d_Ke_fractionOf_169 rfl ?_
    refine p_aald (b := (331 + 5 * x2.toNat)) d_Ke_fractionOf_170 zk_204 (by decide) o2 rfl ?_
    refine q_goto (tgt := 175) d_Ke_fractionOf_171 (by decide) ?_
    exact q_aret d_Ke_fractionOf_175 rfl ⟨Nat.le_refl _, Nat.le_refl _⟩ h
theorem s_Ke_fractionOf_194 {z1 : VV} {x2 : Int} {y0 : Int}  (h : ((y0 = 0 → Q (some vN) zE D) ∧ (¬ y0 = 0 → CN g M_Pl_rateOf [vR 457, vI x2] D (fun v2 D' => Sg g M_Ke_fractionOf Q 205 [vR 0, vU, vI x2] [vO v2] D')))) : Sg g M_Ke_fractionOf Q 194 [vR 0, z1, vI x2] [vI y0] D := by
  unfold Sg
  refine q_mask [false, true, false] (L' := [vR 0, vU, vI x2]) rfl ?_
  refine q_if_eq (tgt := 208) d_Ke_fractionOf_194 (by decide) (fun c1 => ?_) (fun c1 => ?_)
  · have h := h.1 (c1)
    refine q_null d_Ke_fractionOf_208 ?_
    exact q_aretN d_Ke_fractionOf_209 rfl ⟨Nat.le_refl _, Nat.le_refl _⟩ h
  · have h := h.2 (c1)
    refine q_aload_n d_Ke_fractionOf_197 rfl ?_
    refine p_getR (k := 5) (b := 457) zc_Ke l_Ke_43 fr_Ke_planner d_Ke_fractionOf_198 zk_0 rfl ?_
    refine q_iload_n d_Ke_fractionOf_201 rfl ?_
    refine p_callV (as := [vI x2]) (st := []) (a := 457) mc_Pl_rateOf mv_Pl_rateOf l_Ke_205 zc_Pl rfl d_Ke_fractionOf_202 rfl rfl rfl zk_457 (CN.to ?_)
    exact h
theorem s_Ke_fractionOf_228 {z1 : VV} {x2 : Int} {y0 : Int}  (h : ((y0 = 0 → Q (some vN) zE D) ∧ (¬ y0 = 0 → ((0 ≤ x2 ∧ x2 < 12)) ∧ Q (some (vR (583 + 10 * x2.toNat))) zE D))) : Sg g M_Ke_fractionOf Q 228 [vR 0, z1, vI x2] [vI y0] D := by
  unfold Sg
  refine q_mask [false, true, false] (L' := [vR 0, vU, vI x2]) rfl ?_
  refine q_if_eq (tgt := 243) d_Ke_fractionOf_228 (by decide) (fun c1 => ?_) (fun c1 => ?_)
  · have h := h.1 (c1)
    refine q_null d_Ke_fractionOf_243 ?_
    exact q_aretN d_Ke_fractionOf_244 rfl ⟨Nat.le_refl _, Nat.le_refl _⟩ h
  · have h := h.2 (c1)
    obtain ⟨o2, h⟩ := h
    refine q_aload_n d_Ke_fractionOf_231 rfl ?_
    refine p_getR (k := 7) (b := 573) zc_Ke l_Ke_57 fr_Ke_splitter d_Ke_fractionOf_232 zk_0 rfl ?_
    refine p_getRN (k := 3) (b := 576) zc_Sp l_Ke_208 fr_Sp_slowly d_Ke_fractionOf_235 zk_573 rfl ?_
    refine q_iload_n d_Ke_fractionOf_238 rfl ?_
    refine p_aald (b := (583 + 10 * x2.toNat)) d_Ke_fractionOf_239 zk_576 (by decide) o2 rfl ?_
    refine q_goto (tgt := 244) d_Ke_fractionOf_240 (by decide) ?_
    exact q_aret d_Ke_fractionOf_244 rfl ⟨Nat.le_refl _, Nat.le_refl _⟩ h
theorem s_Ke_fractionOf_263 {z1 : VV} {x2 : Int} {y0 : Int}  (h : ((y0 = 0 → Q (some vN) zE D) ∧ (¬ y0 = 0 → ((0 ≤ x2 ∧ x2 < 12)) ∧ Q (some (vR (588 + 10 * x2.toNat))) zE D))) : Sg g M_Ke_fractionOf Q 263 [vR 0, z1, vI x2] [vI y0] D := by
  unfold Sg
  refine q_mask [false, true, false] (L' := [vR 0, vU, vI x2]) rfl ?_
  refine q_if_eq (tgt := 278) d_Ke_fractionOf_263 (by decide) (fun c1 => ?_) (fun c1 => ?_)
  · have h := h.1 (c1)
    refine q_null d_Ke_fractionOf_278 ?_
    exact q_aretN d_Ke_fractionOf_279 rfl ⟨Nat.le_refl _, Nat.le_refl _⟩ h
  · have h := h.2 (c1)
    obtain ⟨o2, h⟩ := h
    refine q_aload_n d_Ke_fractionOf_266 rfl ?_
    refine p_getR (k := 7) (b := 573) zc_Ke l_Ke_57 fr_Ke_splitter d_Ke_fractionOf_267 zk_0 rfl ?_
    refine p_getRN (k := 4) (b := 577) zc_Sp l_Ke_211 fr_Sp_fast d_Ke_fractionOf_270 zk_573 rfl ?_
    refine q_iload_n d_Ke_fractionOf_273 rfl ?_
    refine p_aald (b := (588 + 10 * x2.toNat)) d_Ke_fractionOf_274 zk_577 (by decide) o2 rfl ?_
    refine q_goto (tgt := 279) d_Ke_fractionOf_275 (by decide) ?_
    exact q_aret d_Ke_fractionOf_279 rfl ⟨Nat.le_refl _, Nat.le_refl _⟩ h
theorem s_Ke_fractionOf_205 {z0 : VV} {z1 : VV} {z2 : VV} {rs0 : Nat} (k_rs0 : zk rs0 = (0, 4, 0)) (h : Q (some (vR rs0)) zE D) : Sg g M_Ke_fractionOf Q 205 [z0, z1, z2] [vR rs0] D := by
  unfold Sg
  refine q_mask [true, true, true] (L' := [vU, vU, vU]) rfl ?_
  refine q_goto (tgt := 209) d_Ke_fractionOf_205 (by decide) ?_
  exact q_aret d_Ke_fractionOf_209 rfl ⟨Nat.le_refl _, Nat.le_refl _⟩ h
theorem s_Ke_fractionOf_205b {z0 : VV} {z1 : VV} {z2 : VV}  (h : Q (some vN) zE D) : Sg g M_Ke_fractionOf Q 205 [z0, z1, z2] [vN] D := by
  unfold Sg
  refine q_mask [true, true, true] (L' := [vU, vU, vU]) rfl ?_
  refine q_goto (tgt := 209) d_Ke_fractionOf_205 (by decide) ?_
  exact q_aretN d_Ke_fractionOf_209 rfl ⟨Nat.le_refl _, Nat.le_refl _⟩ h
theorem s_Ke_leavesRoom_0   (h : Sg g M_Ke_leavesRoom Q 2 [vR 0, vI 0, vU, vU, vU] [] D) : Sg g M_Ke_leavesRoom Q 0 [vR 0, vU, vU, vU, vU] [] D := by
  unfold Sg
  refine q_iconst d_Ke_leavesRoom_0 (by decide) ?_
  refine q_istore_n d_Ke_leavesRoom_1 (by decide) (L' := [vR 0, vI 0, vU, vU, vU]) rfl ?_
  exact h
theorem s_Ke_leavesRoom_2 {x1 : Int} {z2 : VV} {z3 : VV} {z4 : VV}  (h : (((D 1 0) ≤ x1 → Q (some (vI 1)) zE D) ∧ (¬ (D 1 0) ≤ x1 → Sg g M_Ke_leavesRoom Q 15 [vR 0, vI x1, vI 0, vU, vU] [] D))) : Sg g M_Ke_leavesRoom Q 2 [vR 0, vI x1, z2, z3, z4] [] D := by
  unfold Sg
  refine q_mask [false, false, true, true, true] (L' := [vR 0, vI x1, vU, vU, vU]) rfl ?_
  refine q_iload_n d_Ke_leavesRoom_2 rfl ?_
  refine q_aload_n d_Ke_leavesRoom_3 rfl ?_
  refine p_getR (k := 0) (b := 1) zc_Ke l_Ke_12 fr_Ke_jobs d_Ke_leavesRoom_4 zk_0 rfl ?_
  refine p_getIN (k := 0) zc_Jo l_Ke_68 fi_Jo_count d_Ke_leavesRoom_7 zk_1 ?_
  refine q_icmp_ge (tgt := 94) d_Ke_leavesRoom_10 (by decide) (fun c1 => ?_) (fun c1 => ?_)
  · have h := h.1 (c1)
    refine q_iconst d_Ke_leavesRoom_94 (by decide) ?_
    exact q_iret d_Ke_leavesRoom_95 (Or.inr ⟨rfl, by decide⟩) ⟨Nat.le_refl _, Nat.le_refl _⟩ h
  · have h := h.2 (c1)
    refine q_iconst d_Ke_leavesRoom_13 (by decide) ?_
    refine q_istore_n d_Ke_leavesRoom_14 (by decide) (L' := [vR 0, vI x1, vI 0, vU, vU]) rfl ?_
    exact h
theorem s_Ke_leavesRoom_15 {x1 : Int} {x2 : Int} {z3 : VV} {z4 : VV}  (h : (((D 1 0) ≤ x2 → (R32 (x1 + 1)) ∧ Sg g M_Ke_leavesRoom Q 2 [vR 0, vI (x1 + 1), vI x2, vU, vU] [] D) ∧ (¬ (D 1 0) ≤ x2 → ((0 ≤ x1 ∧ x1 < 12) ∧ (0 ≤ x2 ∧ x2 < 12)) ∧ (((D 3 x2) ≤ (D 2 x1) → Sg g M_Ke_leavesRoom Q 82 [vR 0, vI x1, vI x2, vI (D 2 x1), vI (D 3 x2)] [] D) ∧ (¬ (D 3 x2) ≤ (D 2 x1) → CI g M_Jo_workWithin [vR 1, vI (D 2 x1), vI (D 3 x2)] D (fun v6 D' => Sg g M_Ke_leavesRoom Q 74 [vR 0, vI x1, vI x2, vI (D 2 x1), vI (D 3 x2)] [vI v6, vI (D 3 x2), vI (D 2 x1), vR 9, vR 391] D')))))) : Sg g M_Ke_leavesRoom Q 15 [vR 0, vI x1, vI x2, z3, z4] [] D := by
  unfold Sg
  refine q_mask [false, false, false, true, true] (L' := [vR 0, vI x1, vI x2, vU, vU]) rfl ?_
  refine q_iload_n d_Ke_leavesRoom_15 rfl ?_
  refine q_aload_n d_Ke_leavesRoom_16 rfl ?_
  refine p_getR (k := 0) (b := 1) zc_Ke l_Ke_12 fr_Ke_jobs d_Ke_leavesRoom_17 zk_0 rfl ?_
  refine p_getIN (k := 0) zc_Jo l_Ke_68 fi_Jo_count d_Ke_leavesRoom_20 zk_1 ?_
  refine q_icmp_ge (tgt := 88) d_Ke_leavesRoom_23 (by decide) (fun c1 => ?_) (fun c1 => ?_)
  · have h := h.1 (c1)
    obtain ⟨o2, h⟩ := h
    refine q_iinc d_Ke_leavesRoom_88 rfl (by decide) o2 (L' := [vR 0, vI (x1 + 1), vI x2, vU, vU]) rfl ?_
    refine q_goto (tgt := 2) d_Ke_leavesRoom_91 (by decide) ?_
    exact h
  · have h := h.2 (c1)
    obtain ⟨⟨o3, o4⟩, h⟩ := h
    refine q_aload_n d_Ke_leavesRoom_26 rfl ?_
    refine p_getR (k := 0) (b := 1) zc_Ke l_Ke_12 fr_Ke_jobs d_Ke_leavesRoom_27 zk_0 rfl ?_
    refine p_getRN (k := 1) (b := 2) zc_Jo l_Ke_100 fr_Jo_release d_Ke_leavesRoom_30 zk_1 rfl ?_
    refine q_iload_n d_Ke_leavesRoom_33 rfl ?_
    refine p_iald d_Ke_leavesRoom_34 zk_2 o3 ?_
    refine q_istore_n d_Ke_leavesRoom_35 (by decide) (L' := [vR 0, vI x1, vI x2, vI (D 2 x1), vU]) rfl ?_
    refine q_aload_n d_Ke_leavesRoom_36 rfl ?_
    refine p_getR (k := 0) (b := 1) zc_Ke l_Ke_12 fr_Ke_jobs d_Ke_leavesRoom_37 zk_0 rfl ?_
    refine p_getRN (k := 2) (b := 3) zc_Jo l_Ke_104 fr_Jo_deadline d_Ke_leavesRoom_40 zk_1 rfl ?_
    refine q_iload_n d_Ke_leavesRoom_43 rfl ?_
    refine p_iald d_Ke_leavesRoom_44 zk_3 o4 ?_
    refine q_istore d_Ke_leavesRoom_45 (by decide) (L' := [vR 0, vI x1, vI x2, vI (D 2 x1), vI (D 3 x2)]) rfl ?_
    refine q_iload_n d_Ke_leavesRoom_47 rfl ?_
    refine q_iload d_Ke_leavesRoom_48 rfl ?_
    refine q_icmp_ge (tgt := 82) d_Ke_leavesRoom_50 (by decide) (fun c5 => ?_) (fun c5 => ?_)
    · have h := h.1 (c5)
      exact h
    · have h := h.2 (c5)
      refine q_aload_n d_Ke_leavesRoom_53 rfl ?_
      refine p_getR (k := 4) (b := 391) zc_Ke l_Ke_36 fr_Ke_reckoner d_Ke_leavesRoom_54 zk_0 rfl ?_
      refine q_aload_n d_Ke_leavesRoom_57 rfl ?_
      refine p_getR (k := 2) (b := 9) zc_Ke l_Ke_26 fr_Ke_planned d_Ke_leavesRoom_58 zk_0 rfl ?_
      refine q_iload_n d_Ke_leavesRoom_61 rfl ?_
      refine q_iload d_Ke_leavesRoom_62 rfl ?_
      refine q_aload_n d_Ke_leavesRoom_64 rfl ?_
      refine p_getR (k := 0) (b := 1) zc_Ke l_Ke_12 fr_Ke_jobs d_Ke_leavesRoom_65 zk_0 rfl ?_
      refine q_iload_n d_Ke_leavesRoom_68 rfl ?_
      refine q_iload d_Ke_leavesRoom_69 rfl ?_
      refine p_callV (as := [vI (D 2 x1), vI (D 3 x2)]) (st := [vI (D 3 x2), vI (D 2 x1), vR 9, vR 391]) (a := 1) mc_Jo_workWithin mv_Jo_workWithin l_Ke_215 zc_Jo rfl d_Ke_leavesRoom_71 rfl rfl rfl zk_1 (CI.to ?_)
      exact h
theorem s_Ke_leavesRoom_82 {x1 : Int} {x2 : Int} {z3 : VV} {z4 : VV}  (h : (R32 (x2 + 1)) ∧ Sg g M_Ke_leavesRoom Q 15 [vR 0, vI x1, vI (x2 + 1), vU, vU] [] D) : Sg g M_Ke_leavesRoom Q 82 [vR 0, vI x1, vI x2, z3, z4] [] D := by
  unfold Sg
  refine q_mask [false, false, false, true, true] (L' := [vR 0, vI x1, vI x2, vU, vU]) rfl ?_
  obtain ⟨o1, h⟩ := h
  refine q_iinc d_Ke_leavesRoom_82 rfl (by decide) o1 (L' := [vR 0, vI x1, vI (x2 + 1), vU, vU]) rfl ?_
  refine q_goto (tgt := 15) d_Ke_leavesRoom_85 (by decide) ?_
  exact h
theorem s_Ke_leavesRoom_74 {x1 : Int} {x2 : Int} {z3 : VV} {z4 : VV} {y0 : Int} {y1 : Int} {y2 : Int}  (h : CI g M_Re_doesEnough [vR 391, vR 9, vI y2, vI y1, vI y0] D (fun v1 D' => Sg g M_Ke_leavesRoom Q 77 [vR 0, vI x1, vI x2, vU, vU] [vI v1] D')) : Sg g M_Ke_leavesRoom Q 74 [vR 0, vI x1, vI x2, z3, z4] [vI y0, vI y1, vI y2, vR 9, vR 391] D := by
  unfold Sg
  refine q_mask [false, false, false, true, true] (L' := [vR 0, vI x1, vI x2, vU, vU]) rfl ?_
  refine p_callV (as := [vR 9, vI y2, vI y1, vI y0]) (st := []) (a := 391) mc_Re_doesEnough mv_Re_doesEnough l_Ke_218 zc_Re rfl d_Ke_leavesRoom_74 rfl rfl rfl zk_391 (CI.to ?_)
  exact h
theorem s_Ke_leavesRoom_77 {x1 : Int} {x2 : Int} {z3 : VV} {z4 : VV} {y0 : Int}  (h : ((¬ y0 = 0 → Sg g M_Ke_leavesRoom Q 82 [vR 0, vI x1, vI x2, vU, vU] [] D) ∧ (y0 = 0 → Q (some (vI 0)) zE D))) : Sg g M_Ke_leavesRoom Q 77 [vR 0, vI x1, vI x2, z3, z4] [vI y0] D := by
  unfold Sg
  refine q_mask [false, false, false, true, true] (L' := [vR 0, vI x1, vI x2, vU, vU]) rfl ?_
  refine q_if_ne (tgt := 82) d_Ke_leavesRoom_77 (by decide) (fun c1 => ?_) (fun c1 => ?_)
  · have h := h.1 (c1)
    exact h
  · have h := h.2 (c1)
    refine q_iconst d_Ke_leavesRoom_80 (by decide) ?_
    exact q_iret d_Ke_leavesRoom_81 (Or.inr ⟨rfl, by decide⟩) ⟨Nat.le_refl _, Nat.le_refl _⟩ h
end SEG
