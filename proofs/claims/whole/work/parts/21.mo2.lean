/-! printed by wip/whole/tools/seg.py: Mo_job, Mo_level, Mo_convex, Mo_clear, Mo_about, Mo_firstRelease, Mo_lastDeadline, Mo_open, Mo_isWithin, Mo_commonOf, Mo_fixBest, Mo_nextJob, Mo_workPlan, Mo_plan -/
theorem zk_711 : zk 711 = (1, 12, 0) := by decide +kernel
theorem zk_712 : zk 712 = (1, 12, 0) := by decide +kernel
theorem zk_713 : zk 713 = (1, 12, 0) := by decide +kernel
theorem zk_714 : zk 714 = (1, 8, 0) := by decide +kernel
theorem zk_715 : zk 715 = (1, 8, 0) := by decide +kernel
theorem zk_716 : zk 716 = (3, 200, 0) := by decide +kernel
theorem zk_717 : zk 717 = (2, 200, 0) := by decide +kernel
theorem zk_718 : zk 718 = (2, 200, 0) := by decide +kernel
theorem zk_719 : zk 719 = (3, 12, 0) := by decide +kernel
theorem zk_720 : zk 720 = (2, 12, 0) := by decide +kernel
theorem zk_721 : zk 721 = (2, 12, 0) := by decide +kernel
theorem zk_722 : zk 722 = (2, 12, 0) := by decide +kernel
theorem zk_723 : zk 723 = (1, 24, 0) := by decide +kernel
theorem zk_724 : zk 724 = (1, 24, 0) := by decide +kernel
theorem zk_725 : zk 725 = (2, 24, 0) := by decide +kernel
theorem zk_726 : zk 726 = (2, 24, 0) := by decide +kernel
theorem zk_727 : zk 727 = (1, 200, 0) := by decide +kernel
theorem kb_6 : (Int8.ofInt 6).toInt32 = Int32.ofInt 6 ∧ R32 6 := ⟨by decide +kernel, by decide⟩
theorem kb_72 : (Int8.ofInt 72).toInt32 = Int32.ofInt 72 ∧ R32 72 := ⟨by decide +kernel, by decide⟩
theorem kb_108 : (Int8.ofInt 108).toInt32 = Int32.ofInt 108 ∧ R32 108 := ⟨by decide +kernel, by decide⟩
theorem fi_Mo_jobs : 3 < 34 ∧ (zft 11 3).1 ≠ 2 ∧ ((3 : Nat) : Int) = 3 := ⟨by decide, by decide +kernel, rfl⟩
theorem fi_Mo_levels : 7 < 34 ∧ (zft 11 7).1 ≠ 2 ∧ ((7 : Nat) : Int) = 7 := ⟨by decide, by decide +kernel, rfl⟩
theorem fi_Mo_planSteps : 20 < 34 ∧ (zft 11 20).1 ≠ 2 ∧ ((20 : Nat) : Int) = 20 := ⟨by decide, by decide +kernel, rfl⟩
theorem fr_Mo_above : 14 < 34 ∧ zft 11 14 = (2, 9) := ⟨by decide, by decide +kernel⟩
theorem fr_Mo_below : 15 < 34 ∧ zft 11 15 = (2, 10) := ⟨by decide, by decide +kernel⟩
theorem fr_Mo_costs : 9 < 34 ∧ zft 11 9 = (2, 7) := ⟨by decide, by decide +kernel⟩
theorem fr_Mo_deadlines : 5 < 34 ∧ zft 11 5 = (2, 4) := ⟨by decide, by decide +kernel⟩
theorem fr_Mo_done : 16 < 34 ∧ zft 11 16 = (2, 11) := ⟨by decide, by decide +kernel⟩
theorem fr_Mo_fixed : 13 < 34 ∧ zft 11 13 = (2, 8) := ⟨by decide, by decide +kernel⟩
theorem fr_Mo_jobAbove : 17 < 34 ∧ zft 11 17 = (2, 12) := ⟨by decide, by decide +kernel⟩
theorem fr_Mo_jobBelow : 18 < 34 ∧ zft 11 18 = (2, 13) := ⟨by decide, by decide +kernel⟩
theorem fr_Mo_left : 19 < 34 ∧ zft 11 19 = (2, 14) := ⟨by decide, by decide +kernel⟩
theorem fr_Mo_planBegins : 21 < 34 ∧ zft 11 21 = (2, 15) := ⟨by decide, by decide +kernel⟩
theorem fr_Mo_planEnds : 22 < 34 ∧ zft 11 22 = (2, 16) := ⟨by decide, by decide +kernel⟩
theorem fr_Mo_planWorks : 25 < 34 ∧ zft 11 25 = (2, 19) := ⟨by decide, by decide +kernel⟩
theorem fr_Mo_rates : 8 < 34 ∧ zft 11 8 = (2, 6) := ⟨by decide, by decide +kernel⟩
theorem fr_Mo_releases : 4 < 34 ∧ zft 11 4 = (2, 3) := ⟨by decide, by decide +kernel⟩
theorem fr_Mo_stepAbove : 23 < 34 ∧ zft 11 23 = (2, 17) := ⟨by decide, by decide +kernel⟩
theorem fr_Mo_stepBelow : 24 < 34 ∧ zft 11 24 = (2, 18) := ⟨by decide, by decide +kernel⟩
theorem fr_Mo_works : 6 < 34 ∧ zft 11 6 = (2, 5) := ⟨by decide, by decide +kernel⟩
theorem fp_Mo_gone : 11 < 34 ∧ (zft 11 11).1 ≠ 2 ∧ ((11 : Nat) : Int) = 11 ∧ (F_Mo 11).2.2.2 = false := ⟨by decide, by decide +kernel, rfl, rfl⟩
theorem fp_Mo_isSplit : 12 < 34 ∧ (zft 11 12).1 ≠ 2 ∧ ((12 : Nat) : Int) = 12 ∧ (F_Mo 12).2.2.2 = false := ⟨by decide, by decide +kernel, rfl, rfl⟩
theorem fp_Mo_jobs : 3 < 34 ∧ (zft 11 3).1 ≠ 2 ∧ ((3 : Nat) : Int) = 3 ∧ (F_Mo 3).2.2.2 = false := ⟨by decide, by decide +kernel, rfl, rfl⟩
theorem fp_Mo_levels : 7 < 34 ∧ (zft 11 7).1 ≠ 2 ∧ ((7 : Nat) : Int) = 7 ∧ (F_Mo 7).2.2.2 = false := ⟨by decide, by decide +kernel, rfl, rfl⟩
theorem fp_Mo_planSteps : 20 < 34 ∧ (zft 11 20).1 ≠ 2 ∧ ((20 : Nat) : Int) = 20 ∧ (F_Mo 20).2.2.2 = false := ⟨by decide, by decide +kernel, rfl, rfl⟩
theorem fp_Mo_planned : 10 < 34 ∧ (zft 11 10).1 ≠ 2 ∧ ((10 : Nat) : Int) = 10 ∧ (F_Mo 10).2.2.2 = false := ⟨by decide, by decide +kernel, rfl, rfl⟩
theorem fp_Mo_thrown : 0 < 34 ∧ (zft 11 0).1 ≠ 2 ∧ ((0 : Nat) : Int) = 0 ∧ (F_Mo 0).2.2.2 = false := ⟨by decide, by decide +kernel, rfl, rfl⟩
theorem d_Mo_job_0 : decode prog_13_method_23_code 0 = .ok (.aload_n 0, 1) := by decide +kernel
theorem d_Mo_job_1 : decode prog_13_method_23_code 1 = .ok (.iconst 0, 1) := by decide +kernel
theorem d_Mo_job_2 : decode prog_13_method_23_code 2 = .ok (.putfield 91, 3) := by decide +kernel
theorem d_Mo_job_5 : decode prog_13_method_23_code 5 = .ok (.iload_n 1, 1) := by decide +kernel
theorem d_Mo_job_6 : decode prog_13_method_23_code 6 = .ok (.iconst 0, 1) := by decide +kernel
theorem d_Mo_job_7 : decode prog_13_method_23_code 7 = .ok (.sipush 200, 3) := by decide +kernel
theorem d_Mo_job_10 : decode prog_13_method_23_code 10 = .ok (.invokestatic 149, 3) := by decide +kernel
theorem d_Mo_job_13 : decode prog_13_method_23_code 13 = .ok (.ifCond .eq 39, 3) := by decide +kernel
theorem d_Mo_job_16 : decode prog_13_method_23_code 16 = .ok (.iload_n 2, 1) := by decide +kernel
theorem d_Mo_job_17 : decode prog_13_method_23_code 17 = .ok (.iconst 0, 1) := by decide +kernel
theorem d_Mo_job_18 : decode prog_13_method_23_code 18 = .ok (.sipush 200, 3) := by decide +kernel
theorem d_Mo_job_21 : decode prog_13_method_23_code 21 = .ok (.invokestatic 149, 3) := by decide +kernel
theorem d_Mo_job_24 : decode prog_13_method_23_code 24 = .ok (.ifCond .eq 28, 3) := by decide +kernel
theorem d_Mo_job_27 : decode prog_13_method_23_code 27 = .ok (.iload_n 2, 1) := by decide +kernel
theorem d_Mo_job_28 : decode prog_13_method_23_code 28 = .ok (.iload_n 1, 1) := by decide +kernel
theorem d_Mo_job_29 : decode prog_13_method_23_code 29 = .ok (.if_icmp .le 23, 3) := by decide +kernel
theorem d_Mo_job_32 : decode prog_13_method_23_code 32 = .ok (.iload_n 3, 1) := by decide +kernel
theorem d_Mo_job_33 : decode prog_13_method_23_code 33 = .ok (.iconst 1, 1) := by decide +kernel
theorem d_Mo_job_34 : decode prog_13_method_23_code 34 = .ok (.sipush 1000, 3) := by decide +kernel
theorem d_Mo_job_37 : decode prog_13_method_23_code 37 = .ok (.invokestatic 149, 3) := by decide +kernel
theorem d_Mo_job_40 : decode prog_13_method_23_code 40 = .ok (.ifCond .eq 12, 3) := by decide +kernel
theorem d_Mo_job_43 : decode prog_13_method_23_code 43 = .ok (.aload_n 0, 1) := by decide +kernel
theorem d_Mo_job_44 : decode prog_13_method_23_code 44 = .ok (.getfield 153, 3) := by decide +kernel
theorem d_Mo_job_47 : decode prog_13_method_23_code 47 = .ok (.bipush 12, 2) := by decide +kernel
theorem d_Mo_job_49 : decode prog_13_method_23_code 49 = .ok (.if_icmp .ne 5, 3) := by decide +kernel
theorem d_Mo_job_52 : decode prog_13_method_23_code 52 = .ok (.iconst (-1), 1) := by decide +kernel
theorem d_Mo_job_53 : decode prog_13_method_23_code 53 = .ok (.ireturn, 1) := by decide +kernel
theorem d_Mo_job_54 : decode prog_13_method_23_code 54 = .ok (.aload_n 0, 1) := by decide +kernel
theorem d_Mo_job_55 : decode prog_13_method_23_code 55 = .ok (.getfield 16, 3) := by decide +kernel
theorem d_Mo_job_58 : decode prog_13_method_23_code 58 = .ok (.aload_n 0, 1) := by decide +kernel
theorem d_Mo_job_59 : decode prog_13_method_23_code 59 = .ok (.getfield 153, 3) := by decide +kernel
theorem d_Mo_job_62 : decode prog_13_method_23_code 62 = .ok (.iload_n 1, 1) := by decide +kernel
theorem d_Mo_job_63 : decode prog_13_method_23_code 63 = .ok (.iastore, 1) := by decide +kernel
theorem d_Mo_job_64 : decode prog_13_method_23_code 64 = .ok (.aload_n 0, 1) := by decide +kernel
theorem d_Mo_job_65 : decode prog_13_method_23_code 65 = .ok (.getfield 19, 3) := by decide +kernel
theorem d_Mo_job_68 : decode prog_13_method_23_code 68 = .ok (.aload_n 0, 1) := by decide +kernel
theorem d_Mo_job_69 : decode prog_13_method_23_code 69 = .ok (.getfield 153, 3) := by decide +kernel
theorem d_Mo_job_72 : decode prog_13_method_23_code 72 = .ok (.iload_n 2, 1) := by decide +kernel
theorem d_Mo_job_73 : decode prog_13_method_23_code 73 = .ok (.iastore, 1) := by decide +kernel
theorem d_Mo_job_74 : decode prog_13_method_23_code 74 = .ok (.aload_n 0, 1) := by decide +kernel
theorem d_Mo_job_75 : decode prog_13_method_23_code 75 = .ok (.getfield 22, 3) := by decide +kernel
theorem d_Mo_job_78 : decode prog_13_method_23_code 78 = .ok (.aload_n 0, 1) := by decide +kernel
theorem d_Mo_job_79 : decode prog_13_method_23_code 79 = .ok (.getfield 153, 3) := by decide +kernel
theorem d_Mo_job_82 : decode prog_13_method_23_code 82 = .ok (.iload_n 3, 1) := by decide +kernel
theorem d_Mo_job_83 : decode prog_13_method_23_code 83 = .ok (.iastore, 1) := by decide +kernel
theorem d_Mo_job_84 : decode prog_13_method_23_code 84 = .ok (.aload_n 0, 1) := by decide +kernel
theorem d_Mo_job_85 : decode prog_13_method_23_code 85 = .ok (.dup, 1) := by decide +kernel
theorem d_Mo_job_86 : decode prog_13_method_23_code 86 = .ok (.getfield 153, 3) := by decide +kernel
theorem d_Mo_job_89 : decode prog_13_method_23_code 89 = .ok (.iconst 1, 1) := by decide +kernel
theorem d_Mo_job_90 : decode prog_13_method_23_code 90 = .ok (.iadd, 1) := by decide +kernel
theorem d_Mo_job_91 : decode prog_13_method_23_code 91 = .ok (.putfield 153, 3) := by decide +kernel
theorem d_Mo_job_94 : decode prog_13_method_23_code 94 = .ok (.aload_n 0, 1) := by decide +kernel
theorem d_Mo_job_95 : decode prog_13_method_23_code 95 = .ok (.iconst 0, 1) := by decide +kernel
theorem d_Mo_job_96 : decode prog_13_method_23_code 96 = .ok (.putfield 87, 3) := by decide +kernel
theorem d_Mo_job_99 : decode prog_13_method_23_code 99 = .ok (.aload_n 0, 1) := by decide +kernel
theorem d_Mo_job_100 : decode prog_13_method_23_code 100 = .ok (.iconst 0, 1) := by decide +kernel
theorem d_Mo_job_101 : decode prog_13_method_23_code 101 = .ok (.putfield 156, 3) := by decide +kernel
theorem d_Mo_job_104 : decode prog_13_method_23_code 104 = .ok (.aload_n 0, 1) := by decide +kernel
theorem d_Mo_job_105 : decode prog_13_method_23_code 105 = .ok (.iconst 0, 1) := by decide +kernel
theorem d_Mo_job_106 : decode prog_13_method_23_code 106 = .ok (.putfield 159, 3) := by decide +kernel
theorem d_Mo_job_109 : decode prog_13_method_23_code 109 = .ok (.aload_n 0, 1) := by decide +kernel
theorem d_Mo_job_110 : decode prog_13_method_23_code 110 = .ok (.getfield 153, 3) := by decide +kernel
theorem d_Mo_job_113 : decode prog_13_method_23_code 113 = .ok (.iconst 1, 1) := by decide +kernel
theorem d_Mo_job_114 : decode prog_13_method_23_code 114 = .ok (.isub, 1) := by decide +kernel
theorem d_Mo_job_115 : decode prog_13_method_23_code 115 = .ok (.ireturn, 1) := by decide +kernel
theorem d_Mo_level_0 : decode prog_13_method_24_code 0 = .ok (.aload_n 0, 1) := by decide +kernel
theorem d_Mo_level_1 : decode prog_13_method_24_code 1 = .ok (.iconst 0, 1) := by decide +kernel
theorem d_Mo_level_2 : decode prog_13_method_24_code 2 = .ok (.putfield 91, 3) := by decide +kernel
theorem d_Mo_level_5 : decode prog_13_method_24_code 5 = .ok (.iload_n 1, 1) := by decide +kernel
theorem d_Mo_level_6 : decode prog_13_method_24_code 6 = .ok (.iconst 1, 1) := by decide +kernel
theorem d_Mo_level_7 : decode prog_13_method_24_code 7 = .ok (.sipush 10000, 3) := by decide +kernel
theorem d_Mo_level_10 : decode prog_13_method_24_code 10 = .ok (.invokestatic 149, 3) := by decide +kernel
theorem d_Mo_level_13 : decode prog_13_method_24_code 13 = .ok (.ifCond .eq 44, 3) := by decide +kernel
theorem d_Mo_level_16 : decode prog_13_method_24_code 16 = .ok (.iload_n 2, 1) := by decide +kernel
theorem d_Mo_level_17 : decode prog_13_method_24_code 17 = .ok (.iconst 0, 1) := by decide +kernel
theorem d_Mo_level_18 : decode prog_13_method_24_code 18 = .ok (.ldc 162, 2) := by decide +kernel
theorem d_Mo_level_20 : decode prog_13_method_24_code 20 = .ok (.invokestatic 149, 3) := by decide +kernel
theorem d_Mo_level_23 : decode prog_13_method_24_code 23 = .ok (.ifCond .eq 34, 3) := by decide +kernel
theorem d_Mo_level_26 : decode prog_13_method_24_code 26 = .ok (.aload_n 0, 1) := by decide +kernel
theorem d_Mo_level_27 : decode prog_13_method_24_code 27 = .ok (.getfield 163, 3) := by decide +kernel
theorem d_Mo_level_30 : decode prog_13_method_24_code 30 = .ok (.bipush 8, 2) := by decide +kernel
theorem d_Mo_level_32 : decode prog_13_method_24_code 32 = .ok (.if_icmp .eq 25, 3) := by decide +kernel
theorem d_Mo_level_35 : decode prog_13_method_24_code 35 = .ok (.aload_n 0, 1) := by decide +kernel
theorem d_Mo_level_36 : decode prog_13_method_24_code 36 = .ok (.getfield 163, 3) := by decide +kernel
theorem d_Mo_level_39 : decode prog_13_method_24_code 39 = .ok (.ifCond .le 20, 3) := by decide +kernel
theorem d_Mo_level_42 : decode prog_13_method_24_code 42 = .ok (.iload_n 1, 1) := by decide +kernel
theorem d_Mo_level_43 : decode prog_13_method_24_code 43 = .ok (.aload_n 0, 1) := by decide +kernel
theorem d_Mo_level_44 : decode prog_13_method_24_code 44 = .ok (.getfield 25, 3) := by decide +kernel
theorem d_Mo_level_47 : decode prog_13_method_24_code 47 = .ok (.aload_n 0, 1) := by decide +kernel
theorem d_Mo_level_48 : decode prog_13_method_24_code 48 = .ok (.getfield 163, 3) := by decide +kernel
theorem d_Mo_level_51 : decode prog_13_method_24_code 51 = .ok (.iconst 1, 1) := by decide +kernel
theorem d_Mo_level_52 : decode prog_13_method_24_code 52 = .ok (.isub, 1) := by decide +kernel
theorem d_Mo_level_53 : decode prog_13_method_24_code 53 = .ok (.iaload, 1) := by decide +kernel
theorem d_Mo_level_54 : decode prog_13_method_24_code 54 = .ok (.if_icmp .gt 5, 3) := by decide +kernel
theorem d_Mo_level_57 : decode prog_13_method_24_code 57 = .ok (.iconst (-1), 1) := by decide +kernel
theorem d_Mo_level_58 : decode prog_13_method_24_code 58 = .ok (.ireturn, 1) := by decide +kernel
theorem d_Mo_level_59 : decode prog_13_method_24_code 59 = .ok (.aload_n 0, 1) := by decide +kernel
theorem d_Mo_level_60 : decode prog_13_method_24_code 60 = .ok (.getfield 25, 3) := by decide +kernel
theorem d_Mo_level_63 : decode prog_13_method_24_code 63 = .ok (.aload_n 0, 1) := by decide +kernel
theorem d_Mo_level_64 : decode prog_13_method_24_code 64 = .ok (.getfield 163, 3) := by decide +kernel
theorem d_Mo_level_67 : decode prog_13_method_24_code 67 = .ok (.iload_n 1, 1) := by decide +kernel
theorem d_Mo_level_68 : decode prog_13_method_24_code 68 = .ok (.iastore, 1) := by decide +kernel
theorem d_Mo_level_69 : decode prog_13_method_24_code 69 = .ok (.aload_n 0, 1) := by decide +kernel
theorem d_Mo_level_70 : decode prog_13_method_24_code 70 = .ok (.getfield 28, 3) := by decide +kernel
theorem d_Mo_level_73 : decode prog_13_method_24_code 73 = .ok (.aload_n 0, 1) := by decide +kernel
theorem d_Mo_level_74 : decode prog_13_method_24_code 74 = .ok (.getfield 163, 3) := by decide +kernel
theorem d_Mo_level_77 : decode prog_13_method_24_code 77 = .ok (.iload_n 2, 1) := by decide +kernel
theorem d_Mo_level_78 : decode prog_13_method_24_code 78 = .ok (.iastore, 1) := by decide +kernel
theorem d_Mo_level_79 : decode prog_13_method_24_code 79 = .ok (.aload_n 0, 1) := by decide +kernel
theorem d_Mo_level_80 : decode prog_13_method_24_code 80 = .ok (.dup, 1) := by decide +kernel
theorem d_Mo_level_81 : decode prog_13_method_24_code 81 = .ok (.getfield 163, 3) := by decide +kernel
theorem d_Mo_level_84 : decode prog_13_method_24_code 84 = .ok (.iconst 1, 1) := by decide +kernel
theorem d_Mo_level_85 : decode prog_13_method_24_code 85 = .ok (.iadd, 1) := by decide +kernel
theorem d_Mo_level_86 : decode prog_13_method_24_code 86 = .ok (.putfield 163, 3) := by decide +kernel
theorem d_Mo_level_89 : decode prog_13_method_24_code 89 = .ok (.aload_n 0, 1) := by decide +kernel
theorem d_Mo_level_90 : decode prog_13_method_24_code 90 = .ok (.iconst 0, 1) := by decide +kernel
theorem d_Mo_level_91 : decode prog_13_method_24_code 91 = .ok (.putfield 159, 3) := by decide +kernel
theorem d_Mo_level_94 : decode prog_13_method_24_code 94 = .ok (.aload_n 0, 1) := by decide +kernel
theorem d_Mo_level_95 : decode prog_13_method_24_code 95 = .ok (.getfield 163, 3) := by decide +kernel
theorem d_Mo_level_98 : decode prog_13_method_24_code 98 = .ok (.ireturn, 1) := by decide +kernel
theorem d_Mo_convex_0 : decode prog_13_method_25_code 0 = .ok (.aload_n 0, 1) := by decide +kernel
theorem d_Mo_convex_1 : decode prog_13_method_25_code 1 = .ok (.iconst 0, 1) := by decide +kernel
theorem d_Mo_convex_2 : decode prog_13_method_25_code 2 = .ok (.putfield 91, 3) := by decide +kernel
theorem d_Mo_convex_5 : decode prog_13_method_25_code 5 = .ok (.iconst 1, 1) := by decide +kernel
theorem d_Mo_convex_6 : decode prog_13_method_25_code 6 = .ok (.istore_n 1, 1) := by decide +kernel
theorem d_Mo_convex_7 : decode prog_13_method_25_code 7 = .ok (.iconst 1, 1) := by decide +kernel
theorem d_Mo_convex_8 : decode prog_13_method_25_code 8 = .ok (.istore_n 2, 1) := by decide +kernel
theorem d_Mo_convex_9 : decode prog_13_method_25_code 9 = .ok (.iload_n 2, 1) := by decide +kernel
theorem d_Mo_convex_10 : decode prog_13_method_25_code 10 = .ok (.aload_n 0, 1) := by decide +kernel
theorem d_Mo_convex_11 : decode prog_13_method_25_code 11 = .ok (.getfield 163, 3) := by decide +kernel
theorem d_Mo_convex_14 : decode prog_13_method_25_code 14 = .ok (.if_icmp .ge 125, 3) := by decide +kernel
theorem d_Mo_convex_17 : decode prog_13_method_25_code 17 = .ok (.iload_n 2, 1) := by decide +kernel
theorem d_Mo_convex_18 : decode prog_13_method_25_code 18 = .ok (.iconst 1, 1) := by decide +kernel
theorem d_Mo_convex_19 : decode prog_13_method_25_code 19 = .ok (.if_icmp .le 14, 3) := by decide +kernel
theorem d_Mo_convex_22 : decode prog_13_method_25_code 22 = .ok (.aload_n 0, 1) := by decide +kernel
theorem d_Mo_convex_23 : decode prog_13_method_25_code 23 = .ok (.getfield 25, 3) := by decide +kernel
theorem d_Mo_convex_26 : decode prog_13_method_25_code 26 = .ok (.iload_n 2, 1) := by decide +kernel
theorem d_Mo_convex_27 : decode prog_13_method_25_code 27 = .ok (.iconst 2, 1) := by decide +kernel
theorem d_Mo_convex_28 : decode prog_13_method_25_code 28 = .ok (.isub, 1) := by decide +kernel
theorem d_Mo_convex_29 : decode prog_13_method_25_code 29 = .ok (.iaload, 1) := by decide +kernel
theorem d_Mo_convex_30 : decode prog_13_method_25_code 30 = .ok (.goto 4, 3) := by decide +kernel
theorem d_Mo_convex_33 : decode prog_13_method_25_code 33 = .ok (.iconst 0, 1) := by decide +kernel
theorem d_Mo_convex_34 : decode prog_13_method_25_code 34 = .ok (.istore_n 3, 1) := by decide +kernel
theorem d_Mo_convex_35 : decode prog_13_method_25_code 35 = .ok (.iload_n 2, 1) := by decide +kernel
theorem d_Mo_convex_36 : decode prog_13_method_25_code 36 = .ok (.iconst 1, 1) := by decide +kernel
theorem d_Mo_convex_37 : decode prog_13_method_25_code 37 = .ok (.if_icmp .le 14, 3) := by decide +kernel
theorem d_Mo_convex_40 : decode prog_13_method_25_code 40 = .ok (.aload_n 0, 1) := by decide +kernel
theorem d_Mo_convex_41 : decode prog_13_method_25_code 41 = .ok (.getfield 28, 3) := by decide +kernel
theorem d_Mo_convex_44 : decode prog_13_method_25_code 44 = .ok (.iload_n 2, 1) := by decide +kernel
theorem d_Mo_convex_45 : decode prog_13_method_25_code 45 = .ok (.iconst 2, 1) := by decide +kernel
theorem d_Mo_convex_46 : decode prog_13_method_25_code 46 = .ok (.isub, 1) := by decide +kernel
theorem d_Mo_convex_47 : decode prog_13_method_25_code 47 = .ok (.iaload, 1) := by decide +kernel
theorem d_Mo_convex_48 : decode prog_13_method_25_code 48 = .ok (.goto 4, 3) := by decide +kernel
theorem d_Mo_convex_51 : decode prog_13_method_25_code 51 = .ok (.iconst 0, 1) := by decide +kernel
theorem d_Mo_convex_52 : decode prog_13_method_25_code 52 = .ok (.istore 4, 2) := by decide +kernel
theorem d_Mo_convex_54 : decode prog_13_method_25_code 54 = .ok (.aload_n 0, 1) := by decide +kernel
theorem d_Mo_convex_55 : decode prog_13_method_25_code 55 = .ok (.getfield 28, 3) := by decide +kernel
theorem d_Mo_convex_58 : decode prog_13_method_25_code 58 = .ok (.iload_n 2, 1) := by decide +kernel
theorem d_Mo_convex_59 : decode prog_13_method_25_code 59 = .ok (.iaload, 1) := by decide +kernel
theorem d_Mo_convex_60 : decode prog_13_method_25_code 60 = .ok (.aload_n 0, 1) := by decide +kernel
theorem d_Mo_convex_61 : decode prog_13_method_25_code 61 = .ok (.getfield 28, 3) := by decide +kernel
theorem d_Mo_convex_64 : decode prog_13_method_25_code 64 = .ok (.iload_n 2, 1) := by decide +kernel
theorem d_Mo_convex_65 : decode prog_13_method_25_code 65 = .ok (.iconst 1, 1) := by decide +kernel
theorem d_Mo_convex_66 : decode prog_13_method_25_code 66 = .ok (.isub, 1) := by decide +kernel
theorem d_Mo_convex_67 : decode prog_13_method_25_code 67 = .ok (.iaload, 1) := by decide +kernel
theorem d_Mo_convex_68 : decode prog_13_method_25_code 68 = .ok (.isub, 1) := by decide +kernel
theorem d_Mo_convex_69 : decode prog_13_method_25_code 69 = .ok (.i2l, 1) := by decide +kernel
theorem d_Mo_convex_70 : decode prog_13_method_25_code 70 = .ok (.aload_n 0, 1) := by decide +kernel
theorem d_Mo_convex_71 : decode prog_13_method_25_code 71 = .ok (.getfield 25, 3) := by decide +kernel
theorem d_Mo_convex_74 : decode prog_13_method_25_code 74 = .ok (.iload_n 2, 1) := by decide +kernel
theorem d_Mo_convex_75 : decode prog_13_method_25_code 75 = .ok (.iconst 1, 1) := by decide +kernel
theorem d_Mo_convex_76 : decode prog_13_method_25_code 76 = .ok (.isub, 1) := by decide +kernel
theorem d_Mo_convex_77 : decode prog_13_method_25_code 77 = .ok (.iaload, 1) := by decide +kernel
theorem d_Mo_convex_78 : decode prog_13_method_25_code 78 = .ok (.iload_n 3, 1) := by decide +kernel
theorem d_Mo_convex_79 : decode prog_13_method_25_code 79 = .ok (.isub, 1) := by decide +kernel
theorem d_Mo_convex_80 : decode prog_13_method_25_code 80 = .ok (.i2l, 1) := by decide +kernel
theorem d_Mo_convex_81 : decode prog_13_method_25_code 81 = .ok (.lmul, 1) := by decide +kernel
theorem d_Mo_convex_82 : decode prog_13_method_25_code 82 = .ok (.lstore 5, 2) := by decide +kernel
theorem d_Mo_convex_84 : decode prog_13_method_25_code 84 = .ok (.aload_n 0, 1) := by decide +kernel
theorem d_Mo_convex_85 : decode prog_13_method_25_code 85 = .ok (.getfield 28, 3) := by decide +kernel
theorem d_Mo_convex_88 : decode prog_13_method_25_code 88 = .ok (.iload_n 2, 1) := by decide +kernel
theorem d_Mo_convex_89 : decode prog_13_method_25_code 89 = .ok (.iconst 1, 1) := by decide +kernel
theorem d_Mo_convex_90 : decode prog_13_method_25_code 90 = .ok (.isub, 1) := by decide +kernel
theorem d_Mo_convex_91 : decode prog_13_method_25_code 91 = .ok (.iaload, 1) := by decide +kernel
theorem d_Mo_convex_92 : decode prog_13_method_25_code 92 = .ok (.iload 4, 2) := by decide +kernel
theorem d_Mo_convex_94 : decode prog_13_method_25_code 94 = .ok (.isub, 1) := by decide +kernel
theorem d_Mo_convex_95 : decode prog_13_method_25_code 95 = .ok (.i2l, 1) := by decide +kernel
theorem d_Mo_convex_96 : decode prog_13_method_25_code 96 = .ok (.aload_n 0, 1) := by decide +kernel
theorem d_Mo_convex_97 : decode prog_13_method_25_code 97 = .ok (.getfield 25, 3) := by decide +kernel
theorem d_Mo_convex_100 : decode prog_13_method_25_code 100 = .ok (.iload_n 2, 1) := by decide +kernel
theorem d_Mo_convex_101 : decode prog_13_method_25_code 101 = .ok (.iaload, 1) := by decide +kernel
theorem d_Mo_convex_102 : decode prog_13_method_25_code 102 = .ok (.aload_n 0, 1) := by decide +kernel
theorem d_Mo_convex_103 : decode prog_13_method_25_code 103 = .ok (.getfield 25, 3) := by decide +kernel
theorem d_Mo_convex_106 : decode prog_13_method_25_code 106 = .ok (.iload_n 2, 1) := by decide +kernel
theorem d_Mo_convex_107 : decode prog_13_method_25_code 107 = .ok (.iconst 1, 1) := by decide +kernel
theorem d_Mo_convex_108 : decode prog_13_method_25_code 108 = .ok (.isub, 1) := by decide +kernel
theorem d_Mo_convex_109 : decode prog_13_method_25_code 109 = .ok (.iaload, 1) := by decide +kernel
theorem d_Mo_convex_110 : decode prog_13_method_25_code 110 = .ok (.isub, 1) := by decide +kernel
theorem d_Mo_convex_111 : decode prog_13_method_25_code 111 = .ok (.i2l, 1) := by decide +kernel
theorem d_Mo_convex_112 : decode prog_13_method_25_code 112 = .ok (.lmul, 1) := by decide +kernel
theorem d_Mo_convex_113 : decode prog_13_method_25_code 113 = .ok (.lstore 7, 2) := by decide +kernel
theorem d_Mo_convex_115 : decode prog_13_method_25_code 115 = .ok (.iload_n 1, 1) := by decide +kernel
theorem d_Mo_convex_116 : decode prog_13_method_25_code 116 = .ok (.ifCond .eq 15, 3) := by decide +kernel
theorem d_Mo_convex_119 : decode prog_13_method_25_code 119 = .ok (.lload 5, 2) := by decide +kernel
theorem d_Mo_convex_121 : decode prog_13_method_25_code 121 = .ok (.lload 7, 2) := by decide +kernel
theorem d_Mo_convex_123 : decode prog_13_method_25_code 123 = .ok (.lcmp, 1) := by decide +kernel
theorem d_Mo_convex_124 : decode prog_13_method_25_code 124 = .ok (.ifCond .lt 7, 3) := by decide +kernel
theorem d_Mo_convex_127 : decode prog_13_method_25_code 127 = .ok (.iconst 1, 1) := by decide +kernel
theorem d_Mo_convex_128 : decode prog_13_method_25_code 128 = .ok (.goto 4, 3) := by decide +kernel
theorem d_Mo_convex_131 : decode prog_13_method_25_code 131 = .ok (.iconst 0, 1) := by decide +kernel
theorem d_Mo_convex_132 : decode prog_13_method_25_code 132 = .ok (.istore_n 1, 1) := by decide +kernel
theorem d_Mo_convex_133 : decode prog_13_method_25_code 133 = .ok (.iinc 2 1, 3) := by decide +kernel
theorem d_Mo_convex_136 : decode prog_13_method_25_code 136 = .ok (.goto (-127), 3) := by decide +kernel
theorem d_Mo_convex_139 : decode prog_13_method_25_code 139 = .ok (.iload_n 1, 1) := by decide +kernel
theorem d_Mo_convex_140 : decode prog_13_method_25_code 140 = .ok (.ifCond .eq 7, 3) := by decide +kernel
theorem d_Mo_convex_143 : decode prog_13_method_25_code 143 = .ok (.iconst 1, 1) := by decide +kernel
theorem d_Mo_convex_144 : decode prog_13_method_25_code 144 = .ok (.goto 4, 3) := by decide +kernel
theorem d_Mo_convex_147 : decode prog_13_method_25_code 147 = .ok (.iconst 0, 1) := by decide +kernel
theorem d_Mo_convex_148 : decode prog_13_method_25_code 148 = .ok (.ireturn, 1) := by decide +kernel
theorem d_Mo_clear_0 : decode prog_13_method_26_code 0 = .ok (.aload_n 0, 1) := by decide +kernel
theorem d_Mo_clear_1 : decode prog_13_method_26_code 1 = .ok (.iconst 0, 1) := by decide +kernel
theorem d_Mo_clear_2 : decode prog_13_method_26_code 2 = .ok (.putfield 91, 3) := by decide +kernel
theorem d_Mo_clear_5 : decode prog_13_method_26_code 5 = .ok (.aload_n 0, 1) := by decide +kernel
theorem d_Mo_clear_6 : decode prog_13_method_26_code 6 = .ok (.getfield 153, 3) := by decide +kernel
theorem d_Mo_clear_9 : decode prog_13_method_26_code 9 = .ok (.istore_n 1, 1) := by decide +kernel
theorem d_Mo_clear_10 : decode prog_13_method_26_code 10 = .ok (.aload_n 0, 1) := by decide +kernel
theorem d_Mo_clear_11 : decode prog_13_method_26_code 11 = .ok (.iconst 0, 1) := by decide +kernel
theorem d_Mo_clear_12 : decode prog_13_method_26_code 12 = .ok (.putfield 153, 3) := by decide +kernel
theorem d_Mo_clear_15 : decode prog_13_method_26_code 15 = .ok (.aload_n 0, 1) := by decide +kernel
theorem d_Mo_clear_16 : decode prog_13_method_26_code 16 = .ok (.iconst 0, 1) := by decide +kernel
theorem d_Mo_clear_17 : decode prog_13_method_26_code 17 = .ok (.putfield 163, 3) := by decide +kernel
theorem d_Mo_clear_20 : decode prog_13_method_26_code 20 = .ok (.aload_n 0, 1) := by decide +kernel
theorem d_Mo_clear_21 : decode prog_13_method_26_code 21 = .ok (.iconst 0, 1) := by decide +kernel
theorem d_Mo_clear_22 : decode prog_13_method_26_code 22 = .ok (.putfield 87, 3) := by decide +kernel
theorem d_Mo_clear_25 : decode prog_13_method_26_code 25 = .ok (.aload_n 0, 1) := by decide +kernel
theorem d_Mo_clear_26 : decode prog_13_method_26_code 26 = .ok (.iconst 0, 1) := by decide +kernel
theorem d_Mo_clear_27 : decode prog_13_method_26_code 27 = .ok (.putfield 156, 3) := by decide +kernel
theorem d_Mo_clear_30 : decode prog_13_method_26_code 30 = .ok (.aload_n 0, 1) := by decide +kernel
theorem d_Mo_clear_31 : decode prog_13_method_26_code 31 = .ok (.iconst 0, 1) := by decide +kernel
theorem d_Mo_clear_32 : decode prog_13_method_26_code 32 = .ok (.putfield 159, 3) := by decide +kernel
theorem d_Mo_clear_35 : decode prog_13_method_26_code 35 = .ok (.iload_n 1, 1) := by decide +kernel
theorem d_Mo_clear_36 : decode prog_13_method_26_code 36 = .ok (.ireturn, 1) := by decide +kernel
theorem d_Mo_about_0 : decode prog_13_method_27_code 0 = .ok (.aload_n 0, 1) := by decide +kernel
theorem d_Mo_about_1 : decode prog_13_method_27_code 1 = .ok (.iconst 0, 1) := by decide +kernel
theorem d_Mo_about_2 : decode prog_13_method_27_code 2 = .ok (.putfield 91, 3) := by decide +kernel
theorem d_Mo_about_5 : decode prog_13_method_27_code 5 = .ok (.iload_n 1, 1) := by decide +kernel
theorem d_Mo_about_6 : decode prog_13_method_27_code 6 = .ok (.ifCond .eq 8, 3) := by decide +kernel
theorem d_Mo_about_9 : decode prog_13_method_27_code 9 = .ok (.iload_n 1, 1) := by decide +kernel
theorem d_Mo_about_10 : decode prog_13_method_27_code 10 = .ok (.iconst 1, 1) := by decide +kernel
theorem d_Mo_about_11 : decode prog_13_method_27_code 11 = .ok (.if_icmp .ne 19, 3) := by decide +kernel
theorem d_Mo_about_14 : decode prog_13_method_27_code 14 = .ok (.iload_n 1, 1) := by decide +kernel
theorem d_Mo_about_15 : decode prog_13_method_27_code 15 = .ok (.ifCond .ne 10, 3) := by decide +kernel
theorem d_Mo_about_18 : decode prog_13_method_27_code 18 = .ok (.aload_n 0, 1) := by decide +kernel
theorem d_Mo_about_19 : decode prog_13_method_27_code 19 = .ok (.getfield 153, 3) := by decide +kernel
theorem d_Mo_about_22 : decode prog_13_method_27_code 22 = .ok (.goto 7, 3) := by decide +kernel
theorem d_Mo_about_25 : decode prog_13_method_27_code 25 = .ok (.aload_n 0, 1) := by decide +kernel
theorem d_Mo_about_26 : decode prog_13_method_27_code 26 = .ok (.getfield 163, 3) := by decide +kernel
theorem d_Mo_about_29 : decode prog_13_method_27_code 29 = .ok (.ireturn, 1) := by decide +kernel
theorem d_Mo_about_30 : decode prog_13_method_27_code 30 = .ok (.iload_n 1, 1) := by decide +kernel
theorem d_Mo_about_31 : decode prog_13_method_27_code 31 = .ok (.iconst 2, 1) := by decide +kernel
theorem d_Mo_about_32 : decode prog_13_method_27_code 32 = .ok (.iconst 4, 1) := by decide +kernel
theorem d_Mo_about_33 : decode prog_13_method_27_code 33 = .ok (.invokestatic 149, 3) := by decide +kernel
theorem d_Mo_about_36 : decode prog_13_method_27_code 36 = .ok (.ifCond .eq 52, 3) := by decide +kernel
theorem d_Mo_about_39 : decode prog_13_method_27_code 39 = .ok (.iload_n 2, 1) := by decide +kernel
theorem d_Mo_about_40 : decode prog_13_method_27_code 40 = .ok (.iconst 0, 1) := by decide +kernel
theorem d_Mo_about_41 : decode prog_13_method_27_code 41 = .ok (.aload_n 0, 1) := by decide +kernel
theorem d_Mo_about_42 : decode prog_13_method_27_code 42 = .ok (.getfield 153, 3) := by decide +kernel
theorem d_Mo_about_45 : decode prog_13_method_27_code 45 = .ok (.iconst 1, 1) := by decide +kernel
theorem d_Mo_about_46 : decode prog_13_method_27_code 46 = .ok (.isub, 1) := by decide +kernel
theorem d_Mo_about_47 : decode prog_13_method_27_code 47 = .ok (.invokestatic 149, 3) := by decide +kernel
theorem d_Mo_about_50 : decode prog_13_method_27_code 50 = .ok (.ifCond .eq 38, 3) := by decide +kernel
theorem d_Mo_about_53 : decode prog_13_method_27_code 53 = .ok (.iload_n 1, 1) := by decide +kernel
theorem d_Mo_about_54 : decode prog_13_method_27_code 54 = .ok (.iconst 2, 1) := by decide +kernel
theorem d_Mo_about_55 : decode prog_13_method_27_code 55 = .ok (.if_icmp .ne 12, 3) := by decide +kernel
theorem d_Mo_about_58 : decode prog_13_method_27_code 58 = .ok (.aload_n 0, 1) := by decide +kernel
theorem d_Mo_about_59 : decode prog_13_method_27_code 59 = .ok (.getfield 16, 3) := by decide +kernel
theorem d_Mo_about_62 : decode prog_13_method_27_code 62 = .ok (.iload_n 2, 1) := by decide +kernel
theorem d_Mo_about_63 : decode prog_13_method_27_code 63 = .ok (.iaload, 1) := by decide +kernel
theorem d_Mo_about_64 : decode prog_13_method_27_code 64 = .ok (.goto 23, 3) := by decide +kernel
theorem d_Mo_about_67 : decode prog_13_method_27_code 67 = .ok (.iload_n 1, 1) := by decide +kernel
theorem d_Mo_about_68 : decode prog_13_method_27_code 68 = .ok (.iconst 3, 1) := by decide +kernel
theorem d_Mo_about_69 : decode prog_13_method_27_code 69 = .ok (.if_icmp .ne 12, 3) := by decide +kernel
theorem d_Mo_about_72 : decode prog_13_method_27_code 72 = .ok (.aload_n 0, 1) := by decide +kernel
theorem d_Mo_about_73 : decode prog_13_method_27_code 73 = .ok (.getfield 19, 3) := by decide +kernel
theorem d_Mo_about_76 : decode prog_13_method_27_code 76 = .ok (.iload_n 2, 1) := by decide +kernel
theorem d_Mo_about_77 : decode prog_13_method_27_code 77 = .ok (.iaload, 1) := by decide +kernel
theorem d_Mo_about_78 : decode prog_13_method_27_code 78 = .ok (.goto 9, 3) := by decide +kernel
theorem d_Mo_about_81 : decode prog_13_method_27_code 81 = .ok (.aload_n 0, 1) := by decide +kernel
theorem d_Mo_about_82 : decode prog_13_method_27_code 82 = .ok (.getfield 22, 3) := by decide +kernel
theorem d_Mo_about_85 : decode prog_13_method_27_code 85 = .ok (.iload_n 2, 1) := by decide +kernel
theorem d_Mo_about_86 : decode prog_13_method_27_code 86 = .ok (.iaload, 1) := by decide +kernel
theorem d_Mo_about_87 : decode prog_13_method_27_code 87 = .ok (.ireturn, 1) := by decide +kernel
theorem d_Mo_about_88 : decode prog_13_method_27_code 88 = .ok (.iload_n 1, 1) := by decide +kernel
theorem d_Mo_about_89 : decode prog_13_method_27_code 89 = .ok (.iconst 5, 1) := by decide +kernel
theorem d_Mo_about_90 : decode prog_13_method_27_code 90 = .ok (.bipush 6, 2) := by decide +kernel
theorem d_Mo_about_92 : decode prog_13_method_27_code 92 = .ok (.invokestatic 149, 3) := by decide +kernel
theorem d_Mo_about_95 : decode prog_13_method_27_code 95 = .ok (.ifCond .eq 38, 3) := by decide +kernel
theorem d_Mo_about_98 : decode prog_13_method_27_code 98 = .ok (.iload_n 2, 1) := by decide +kernel
theorem d_Mo_about_99 : decode prog_13_method_27_code 99 = .ok (.iconst 0, 1) := by decide +kernel
theorem d_Mo_about_100 : decode prog_13_method_27_code 100 = .ok (.aload_n 0, 1) := by decide +kernel
theorem d_Mo_about_101 : decode prog_13_method_27_code 101 = .ok (.getfield 163, 3) := by decide +kernel
theorem d_Mo_about_104 : decode prog_13_method_27_code 104 = .ok (.iconst 1, 1) := by decide +kernel
theorem d_Mo_about_105 : decode prog_13_method_27_code 105 = .ok (.isub, 1) := by decide +kernel
theorem d_Mo_about_106 : decode prog_13_method_27_code 106 = .ok (.invokestatic 149, 3) := by decide +kernel
theorem d_Mo_about_109 : decode prog_13_method_27_code 109 = .ok (.ifCond .eq 24, 3) := by decide +kernel
theorem d_Mo_about_112 : decode prog_13_method_27_code 112 = .ok (.iload_n 1, 1) := by decide +kernel
theorem d_Mo_about_113 : decode prog_13_method_27_code 113 = .ok (.iconst 5, 1) := by decide +kernel
theorem d_Mo_about_114 : decode prog_13_method_27_code 114 = .ok (.if_icmp .ne 12, 3) := by decide +kernel
theorem d_Mo_about_117 : decode prog_13_method_27_code 117 = .ok (.aload_n 0, 1) := by decide +kernel
theorem d_Mo_about_118 : decode prog_13_method_27_code 118 = .ok (.getfield 25, 3) := by decide +kernel
theorem d_Mo_about_121 : decode prog_13_method_27_code 121 = .ok (.iload_n 2, 1) := by decide +kernel
theorem d_Mo_about_122 : decode prog_13_method_27_code 122 = .ok (.iaload, 1) := by decide +kernel
theorem d_Mo_about_123 : decode prog_13_method_27_code 123 = .ok (.goto 9, 3) := by decide +kernel
theorem d_Mo_about_126 : decode prog_13_method_27_code 126 = .ok (.aload_n 0, 1) := by decide +kernel
theorem d_Mo_about_127 : decode prog_13_method_27_code 127 = .ok (.getfield 28, 3) := by decide +kernel
theorem d_Mo_about_130 : decode prog_13_method_27_code 130 = .ok (.iload_n 2, 1) := by decide +kernel
theorem d_Mo_about_131 : decode prog_13_method_27_code 131 = .ok (.iaload, 1) := by decide +kernel
theorem d_Mo_about_132 : decode prog_13_method_27_code 132 = .ok (.ireturn, 1) := by decide +kernel
theorem d_Mo_about_133 : decode prog_13_method_27_code 133 = .ok (.iconst (-1), 1) := by decide +kernel
theorem d_Mo_about_134 : decode prog_13_method_27_code 134 = .ok (.ireturn, 1) := by decide +kernel
theorem d_Mo_firstRelease_0 : decode prog_13_method_28_code 0 = .ok (.sipush 200, 3) := by decide +kernel
theorem d_Mo_firstRelease_3 : decode prog_13_method_28_code 3 = .ok (.istore_n 1, 1) := by decide +kernel
theorem d_Mo_firstRelease_4 : decode prog_13_method_28_code 4 = .ok (.iconst 0, 1) := by decide +kernel
theorem d_Mo_firstRelease_5 : decode prog_13_method_28_code 5 = .ok (.istore_n 2, 1) := by decide +kernel
theorem d_Mo_firstRelease_6 : decode prog_13_method_28_code 6 = .ok (.iload_n 2, 1) := by decide +kernel
theorem d_Mo_firstRelease_7 : decode prog_13_method_28_code 7 = .ok (.aload_n 0, 1) := by decide +kernel
theorem d_Mo_firstRelease_8 : decode prog_13_method_28_code 8 = .ok (.getfield 153, 3) := by decide +kernel
theorem d_Mo_firstRelease_11 : decode prog_13_method_28_code 11 = .ok (.if_icmp .ge 30, 3) := by decide +kernel
theorem d_Mo_firstRelease_14 : decode prog_13_method_28_code 14 = .ok (.aload_n 0, 1) := by decide +kernel
theorem d_Mo_firstRelease_15 : decode prog_13_method_28_code 15 = .ok (.getfield 16, 3) := by decide +kernel
theorem d_Mo_firstRelease_18 : decode prog_13_method_28_code 18 = .ok (.iload_n 2, 1) := by decide +kernel
theorem d_Mo_firstRelease_19 : decode prog_13_method_28_code 19 = .ok (.iaload, 1) := by decide +kernel
theorem d_Mo_firstRelease_20 : decode prog_13_method_28_code 20 = .ok (.iload_n 1, 1) := by decide +kernel
theorem d_Mo_firstRelease_21 : decode prog_13_method_28_code 21 = .ok (.if_icmp .ge 12, 3) := by decide +kernel
theorem d_Mo_firstRelease_24 : decode prog_13_method_28_code 24 = .ok (.aload_n 0, 1) := by decide +kernel
theorem d_Mo_firstRelease_25 : decode prog_13_method_28_code 25 = .ok (.getfield 16, 3) := by decide +kernel
theorem d_Mo_firstRelease_28 : decode prog_13_method_28_code 28 = .ok (.iload_n 2, 1) := by decide +kernel
theorem d_Mo_firstRelease_29 : decode prog_13_method_28_code 29 = .ok (.iaload, 1) := by decide +kernel
theorem d_Mo_firstRelease_30 : decode prog_13_method_28_code 30 = .ok (.goto 4, 3) := by decide +kernel
theorem d_Mo_firstRelease_33 : decode prog_13_method_28_code 33 = .ok (.iload_n 1, 1) := by decide +kernel
theorem d_Mo_firstRelease_34 : decode prog_13_method_28_code 34 = .ok (.istore_n 1, 1) := by decide +kernel
theorem d_Mo_firstRelease_35 : decode prog_13_method_28_code 35 = .ok (.iinc 2 1, 3) := by decide +kernel
theorem d_Mo_firstRelease_38 : decode prog_13_method_28_code 38 = .ok (.goto (-32), 3) := by decide +kernel
theorem d_Mo_firstRelease_41 : decode prog_13_method_28_code 41 = .ok (.iload_n 1, 1) := by decide +kernel
theorem d_Mo_firstRelease_42 : decode prog_13_method_28_code 42 = .ok (.ireturn, 1) := by decide +kernel
theorem d_Mo_lastDeadline_0 : decode prog_13_method_29_code 0 = .ok (.iconst 0, 1) := by decide +kernel
theorem d_Mo_lastDeadline_1 : decode prog_13_method_29_code 1 = .ok (.istore_n 1, 1) := by decide +kernel
theorem d_Mo_lastDeadline_2 : decode prog_13_method_29_code 2 = .ok (.iconst 0, 1) := by decide +kernel
theorem d_Mo_lastDeadline_3 : decode prog_13_method_29_code 3 = .ok (.istore_n 2, 1) := by decide +kernel
theorem d_Mo_lastDeadline_4 : decode prog_13_method_29_code 4 = .ok (.iload_n 2, 1) := by decide +kernel
theorem d_Mo_lastDeadline_5 : decode prog_13_method_29_code 5 = .ok (.aload_n 0, 1) := by decide +kernel
theorem d_Mo_lastDeadline_6 : decode prog_13_method_29_code 6 = .ok (.getfield 153, 3) := by decide +kernel
theorem d_Mo_lastDeadline_9 : decode prog_13_method_29_code 9 = .ok (.if_icmp .ge 30, 3) := by decide +kernel
theorem d_Mo_lastDeadline_12 : decode prog_13_method_29_code 12 = .ok (.aload_n 0, 1) := by decide +kernel
theorem d_Mo_lastDeadline_13 : decode prog_13_method_29_code 13 = .ok (.getfield 19, 3) := by decide +kernel
theorem d_Mo_lastDeadline_16 : decode prog_13_method_29_code 16 = .ok (.iload_n 2, 1) := by decide +kernel
theorem d_Mo_lastDeadline_17 : decode prog_13_method_29_code 17 = .ok (.iaload, 1) := by decide +kernel
theorem d_Mo_lastDeadline_18 : decode prog_13_method_29_code 18 = .ok (.iload_n 1, 1) := by decide +kernel
theorem d_Mo_lastDeadline_19 : decode prog_13_method_29_code 19 = .ok (.if_icmp .le 12, 3) := by decide +kernel
theorem d_Mo_lastDeadline_22 : decode prog_13_method_29_code 22 = .ok (.aload_n 0, 1) := by decide +kernel
theorem d_Mo_lastDeadline_23 : decode prog_13_method_29_code 23 = .ok (.getfield 19, 3) := by decide +kernel
theorem d_Mo_lastDeadline_26 : decode prog_13_method_29_code 26 = .ok (.iload_n 2, 1) := by decide +kernel
theorem d_Mo_lastDeadline_27 : decode prog_13_method_29_code 27 = .ok (.iaload, 1) := by decide +kernel
theorem d_Mo_lastDeadline_28 : decode prog_13_method_29_code 28 = .ok (.goto 4, 3) := by decide +kernel
theorem d_Mo_lastDeadline_31 : decode prog_13_method_29_code 31 = .ok (.iload_n 1, 1) := by decide +kernel
theorem d_Mo_lastDeadline_32 : decode prog_13_method_29_code 32 = .ok (.istore_n 1, 1) := by decide +kernel
theorem d_Mo_lastDeadline_33 : decode prog_13_method_29_code 33 = .ok (.iinc 2 1, 3) := by decide +kernel
theorem d_Mo_lastDeadline_36 : decode prog_13_method_29_code 36 = .ok (.goto (-32), 3) := by decide +kernel
theorem d_Mo_lastDeadline_39 : decode prog_13_method_29_code 39 = .ok (.iload_n 1, 1) := by decide +kernel
theorem d_Mo_lastDeadline_40 : decode prog_13_method_29_code 40 = .ok (.ireturn, 1) := by decide +kernel
theorem d_Mo_open_0 : decode prog_13_method_30_code 0 = .ok (.iconst 0, 1) := by decide +kernel
theorem d_Mo_open_1 : decode prog_13_method_30_code 1 = .ok (.istore_n 3, 1) := by decide +kernel
theorem d_Mo_open_2 : decode prog_13_method_30_code 2 = .ok (.iload_n 1, 1) := by decide +kernel
theorem d_Mo_open_3 : decode prog_13_method_30_code 3 = .ok (.istore 4, 2) := by decide +kernel
theorem d_Mo_open_5 : decode prog_13_method_30_code 5 = .ok (.iload 4, 2) := by decide +kernel
theorem d_Mo_open_7 : decode prog_13_method_30_code 7 = .ok (.iload_n 2, 1) := by decide +kernel
theorem d_Mo_open_8 : decode prog_13_method_30_code 8 = .ok (.if_icmp .ge 27, 3) := by decide +kernel
theorem d_Mo_open_11 : decode prog_13_method_30_code 11 = .ok (.iload_n 3, 1) := by decide +kernel
theorem d_Mo_open_12 : decode prog_13_method_30_code 12 = .ok (.aload_n 0, 1) := by decide +kernel
theorem d_Mo_open_13 : decode prog_13_method_30_code 13 = .ok (.getfield 31, 3) := by decide +kernel
theorem d_Mo_open_16 : decode prog_13_method_30_code 16 = .ok (.iload 4, 2) := by decide +kernel
theorem d_Mo_open_18 : decode prog_13_method_30_code 18 = .ok (.baload, 1) := by decide +kernel
theorem d_Mo_open_19 : decode prog_13_method_30_code 19 = .ok (.ifCond .eq 7, 3) := by decide +kernel
theorem d_Mo_open_22 : decode prog_13_method_30_code 22 = .ok (.iconst 0, 1) := by decide +kernel
theorem d_Mo_open_23 : decode prog_13_method_30_code 23 = .ok (.goto 4, 3) := by decide +kernel
theorem d_Mo_open_26 : decode prog_13_method_30_code 26 = .ok (.iconst 1, 1) := by decide +kernel
theorem d_Mo_open_27 : decode prog_13_method_30_code 27 = .ok (.iadd, 1) := by decide +kernel
theorem d_Mo_open_28 : decode prog_13_method_30_code 28 = .ok (.istore_n 3, 1) := by decide +kernel
theorem d_Mo_open_29 : decode prog_13_method_30_code 29 = .ok (.iinc 4 1, 3) := by decide +kernel
theorem d_Mo_open_32 : decode prog_13_method_30_code 32 = .ok (.goto (-27), 3) := by decide +kernel
theorem d_Mo_open_35 : decode prog_13_method_30_code 35 = .ok (.iload_n 3, 1) := by decide +kernel
theorem d_Mo_open_36 : decode prog_13_method_30_code 36 = .ok (.ireturn, 1) := by decide +kernel
theorem d_Mo_isWithin_0 : decode prog_13_method_31_code 0 = .ok (.aload_n 0, 1) := by decide +kernel
theorem d_Mo_isWithin_1 : decode prog_13_method_31_code 1 = .ok (.getfield 16, 3) := by decide +kernel
theorem d_Mo_isWithin_4 : decode prog_13_method_31_code 4 = .ok (.iload_n 1, 1) := by decide +kernel
theorem d_Mo_isWithin_5 : decode prog_13_method_31_code 5 = .ok (.iaload, 1) := by decide +kernel
theorem d_Mo_isWithin_6 : decode prog_13_method_31_code 6 = .ok (.iload_n 2, 1) := by decide +kernel
theorem d_Mo_isWithin_7 : decode prog_13_method_31_code 7 = .ok (.if_icmp .le 12, 3) := by decide +kernel
theorem d_Mo_isWithin_10 : decode prog_13_method_31_code 10 = .ok (.aload_n 0, 1) := by decide +kernel
theorem d_Mo_isWithin_11 : decode prog_13_method_31_code 11 = .ok (.getfield 16, 3) := by decide +kernel
theorem d_Mo_isWithin_14 : decode prog_13_method_31_code 14 = .ok (.iload_n 1, 1) := by decide +kernel
theorem d_Mo_isWithin_15 : decode prog_13_method_31_code 15 = .ok (.iaload, 1) := by decide +kernel
theorem d_Mo_isWithin_16 : decode prog_13_method_31_code 16 = .ok (.goto 4, 3) := by decide +kernel
theorem d_Mo_isWithin_19 : decode prog_13_method_31_code 19 = .ok (.iload_n 2, 1) := by decide +kernel
theorem d_Mo_isWithin_20 : decode prog_13_method_31_code 20 = .ok (.istore 4, 2) := by decide +kernel
theorem d_Mo_isWithin_22 : decode prog_13_method_31_code 22 = .ok (.aload_n 0, 1) := by decide +kernel
theorem d_Mo_isWithin_23 : decode prog_13_method_31_code 23 = .ok (.getfield 19, 3) := by decide +kernel
theorem d_Mo_isWithin_26 : decode prog_13_method_31_code 26 = .ok (.iload_n 1, 1) := by decide +kernel
theorem d_Mo_isWithin_27 : decode prog_13_method_31_code 27 = .ok (.iaload, 1) := by decide +kernel
theorem d_Mo_isWithin_28 : decode prog_13_method_31_code 28 = .ok (.iload_n 3, 1) := by decide +kernel
theorem d_Mo_isWithin_29 : decode prog_13_method_31_code 29 = .ok (.if_icmp .ge 12, 3) := by decide +kernel
theorem d_Mo_isWithin_32 : decode prog_13_method_31_code 32 = .ok (.aload_n 0, 1) := by decide +kernel
theorem d_Mo_isWithin_33 : decode prog_13_method_31_code 33 = .ok (.getfield 19, 3) := by decide +kernel
theorem d_Mo_isWithin_36 : decode prog_13_method_31_code 36 = .ok (.iload_n 1, 1) := by decide +kernel
theorem d_Mo_isWithin_37 : decode prog_13_method_31_code 37 = .ok (.iaload, 1) := by decide +kernel
theorem d_Mo_isWithin_38 : decode prog_13_method_31_code 38 = .ok (.goto 4, 3) := by decide +kernel
theorem d_Mo_isWithin_41 : decode prog_13_method_31_code 41 = .ok (.iload_n 3, 1) := by decide +kernel
theorem d_Mo_isWithin_42 : decode prog_13_method_31_code 42 = .ok (.istore 5, 2) := by decide +kernel
theorem d_Mo_isWithin_44 : decode prog_13_method_31_code 44 = .ok (.iload 4, 2) := by decide +kernel
theorem d_Mo_isWithin_46 : decode prog_13_method_31_code 46 = .ok (.iload 5, 2) := by decide +kernel
theorem d_Mo_isWithin_48 : decode prog_13_method_31_code 48 = .ok (.if_icmp .ge 14, 3) := by decide +kernel
theorem d_Mo_isWithin_51 : decode prog_13_method_31_code 51 = .ok (.aload_n 0, 1) := by decide +kernel
theorem d_Mo_isWithin_52 : decode prog_13_method_31_code 52 = .ok (.iload 4, 2) := by decide +kernel
theorem d_Mo_isWithin_54 : decode prog_13_method_31_code 54 = .ok (.iload 5, 2) := by decide +kernel
theorem d_Mo_isWithin_56 : decode prog_13_method_31_code 56 = .ok (.invokevirtual 166, 3) := by decide +kernel
theorem d_Mo_isWithin_59 : decode prog_13_method_31_code 59 = .ok (.goto 4, 3) := by decide +kernel
theorem d_Mo_isWithin_62 : decode prog_13_method_31_code 62 = .ok (.iconst 0, 1) := by decide +kernel
theorem d_Mo_isWithin_63 : decode prog_13_method_31_code 63 = .ok (.istore 6, 2) := by decide +kernel
theorem d_Mo_isWithin_65 : decode prog_13_method_31_code 65 = .ok (.aload_n 0, 1) := by decide +kernel
theorem d_Mo_isWithin_66 : decode prog_13_method_31_code 66 = .ok (.getfield 42, 3) := by decide +kernel
theorem d_Mo_isWithin_69 : decode prog_13_method_31_code 69 = .ok (.iload_n 1, 1) := by decide +kernel
theorem d_Mo_isWithin_70 : decode prog_13_method_31_code 70 = .ok (.baload, 1) := by decide +kernel
theorem d_Mo_isWithin_71 : decode prog_13_method_31_code 71 = .ok (.ifCond .ne 28, 3) := by decide +kernel
theorem d_Mo_isWithin_74 : decode prog_13_method_31_code 74 = .ok (.iload 6, 2) := by decide +kernel
theorem d_Mo_isWithin_76 : decode prog_13_method_31_code 76 = .ok (.aload_n 0, 1) := by decide +kernel
theorem d_Mo_isWithin_77 : decode prog_13_method_31_code 77 = .ok (.aload_n 0, 1) := by decide +kernel
theorem d_Mo_isWithin_78 : decode prog_13_method_31_code 78 = .ok (.getfield 16, 3) := by decide +kernel
theorem d_Mo_isWithin_81 : decode prog_13_method_31_code 81 = .ok (.iload_n 1, 1) := by decide +kernel
theorem d_Mo_isWithin_82 : decode prog_13_method_31_code 82 = .ok (.iaload, 1) := by decide +kernel
theorem d_Mo_isWithin_83 : decode prog_13_method_31_code 83 = .ok (.aload_n 0, 1) := by decide +kernel
theorem d_Mo_isWithin_84 : decode prog_13_method_31_code 84 = .ok (.getfield 19, 3) := by decide +kernel
theorem d_Mo_isWithin_87 : decode prog_13_method_31_code 87 = .ok (.iload_n 1, 1) := by decide +kernel
theorem d_Mo_isWithin_88 : decode prog_13_method_31_code 88 = .ok (.iaload, 1) := by decide +kernel
theorem d_Mo_isWithin_89 : decode prog_13_method_31_code 89 = .ok (.invokevirtual 166, 3) := by decide +kernel
theorem d_Mo_isWithin_92 : decode prog_13_method_31_code 92 = .ok (.if_icmp .ne 7, 3) := by decide +kernel
theorem d_Mo_isWithin_95 : decode prog_13_method_31_code 95 = .ok (.iconst 1, 1) := by decide +kernel
theorem d_Mo_isWithin_96 : decode prog_13_method_31_code 96 = .ok (.goto 4, 3) := by decide +kernel
theorem d_Mo_isWithin_99 : decode prog_13_method_31_code 99 = .ok (.iconst 0, 1) := by decide +kernel
theorem d_Mo_isWithin_100 : decode prog_13_method_31_code 100 = .ok (.ireturn, 1) := by decide +kernel
theorem d_Mo_commonOf_0 : decode prog_13_method_32_code 0 = .ok (.lload_n 0, 1) := by decide +kernel
theorem d_Mo_commonOf_1 : decode prog_13_method_32_code 1 = .ok (.lstore 4, 2) := by decide +kernel
theorem d_Mo_commonOf_3 : decode prog_13_method_32_code 3 = .ok (.lload_n 2, 1) := by decide +kernel
theorem d_Mo_commonOf_4 : decode prog_13_method_32_code 4 = .ok (.lstore 6, 2) := by decide +kernel
theorem d_Mo_commonOf_6 : decode prog_13_method_32_code 6 = .ok (.lload 6, 2) := by decide +kernel
theorem d_Mo_commonOf_8 : decode prog_13_method_32_code 8 = .ok (.lconst 0, 1) := by decide +kernel
theorem d_Mo_commonOf_9 : decode prog_13_method_32_code 9 = .ok (.lcmp, 1) := by decide +kernel
theorem d_Mo_commonOf_10 : decode prog_13_method_32_code 10 = .ok (.ifCond .eq 21, 3) := by decide +kernel
theorem d_Mo_commonOf_13 : decode prog_13_method_32_code 13 = .ok (.lload 4, 2) := by decide +kernel
theorem d_Mo_commonOf_15 : decode prog_13_method_32_code 15 = .ok (.lload 6, 2) := by decide +kernel
theorem d_Mo_commonOf_17 : decode prog_13_method_32_code 17 = .ok (.lrem, 1) := by decide +kernel
theorem d_Mo_commonOf_18 : decode prog_13_method_32_code 18 = .ok (.lstore 8, 2) := by decide +kernel
theorem d_Mo_commonOf_20 : decode prog_13_method_32_code 20 = .ok (.lload 6, 2) := by decide +kernel
theorem d_Mo_commonOf_22 : decode prog_13_method_32_code 22 = .ok (.lstore 4, 2) := by decide +kernel
theorem d_Mo_commonOf_24 : decode prog_13_method_32_code 24 = .ok (.lload 8, 2) := by decide +kernel
theorem d_Mo_commonOf_26 : decode prog_13_method_32_code 26 = .ok (.lstore 6, 2) := by decide +kernel
theorem d_Mo_commonOf_28 : decode prog_13_method_32_code 28 = .ok (.goto (-22), 3) := by decide +kernel
theorem d_Mo_commonOf_31 : decode prog_13_method_32_code 31 = .ok (.lload 4, 2) := by decide +kernel
theorem d_Mo_commonOf_33 : decode prog_13_method_32_code 33 = .ok (.lreturn, 1) := by decide +kernel
theorem d_Mo_fixBest_0 : decode prog_13_method_33_code 0 = .ok (.lconst 0, 1) := by decide +kernel
theorem d_Mo_fixBest_1 : decode prog_13_method_33_code 1 = .ok (.lstore_n 1, 1) := by decide +kernel
theorem d_Mo_fixBest_2 : decode prog_13_method_33_code 2 = .ok (.lconst 1, 1) := by decide +kernel
theorem d_Mo_fixBest_3 : decode prog_13_method_33_code 3 = .ok (.lstore_n 3, 1) := by decide +kernel
theorem d_Mo_fixBest_4 : decode prog_13_method_33_code 4 = .ok (.iconst (-1), 1) := by decide +kernel
theorem d_Mo_fixBest_5 : decode prog_13_method_33_code 5 = .ok (.istore 5, 2) := by decide +kernel
theorem d_Mo_fixBest_7 : decode prog_13_method_33_code 7 = .ok (.iconst (-1), 1) := by decide +kernel
theorem d_Mo_fixBest_8 : decode prog_13_method_33_code 8 = .ok (.istore 6, 2) := by decide +kernel
theorem d_Mo_fixBest_10 : decode prog_13_method_33_code 10 = .ok (.iconst 0, 1) := by decide +kernel
theorem d_Mo_fixBest_11 : decode prog_13_method_33_code 11 = .ok (.istore 7, 2) := by decide +kernel
theorem d_Mo_fixBest_13 : decode prog_13_method_33_code 13 = .ok (.iload 7, 2) := by decide +kernel
theorem d_Mo_fixBest_15 : decode prog_13_method_33_code 15 = .ok (.aload_n 0, 1) := by decide +kernel
theorem d_Mo_fixBest_16 : decode prog_13_method_33_code 16 = .ok (.getfield 153, 3) := by decide +kernel
theorem d_Mo_fixBest_19 : decode prog_13_method_33_code 19 = .ok (.if_icmp .ge 170, 3) := by decide +kernel
theorem d_Mo_fixBest_22 : decode prog_13_method_33_code 22 = .ok (.iconst 0, 1) := by decide +kernel
theorem d_Mo_fixBest_23 : decode prog_13_method_33_code 23 = .ok (.istore 8, 2) := by decide +kernel
theorem d_Mo_fixBest_25 : decode prog_13_method_33_code 25 = .ok (.iload 8, 2) := by decide +kernel
theorem d_Mo_fixBest_27 : decode prog_13_method_33_code 27 = .ok (.aload_n 0, 1) := by decide +kernel
theorem d_Mo_fixBest_28 : decode prog_13_method_33_code 28 = .ok (.getfield 153, 3) := by decide +kernel
theorem d_Mo_fixBest_31 : decode prog_13_method_33_code 31 = .ok (.if_icmp .ge 152, 3) := by decide +kernel
theorem d_Mo_fixBest_34 : decode prog_13_method_33_code 34 = .ok (.aload_n 0, 1) := by decide +kernel
theorem d_Mo_fixBest_35 : decode prog_13_method_33_code 35 = .ok (.getfield 16, 3) := by decide +kernel
theorem d_Mo_fixBest_38 : decode prog_13_method_33_code 38 = .ok (.iload 7, 2) := by decide +kernel
theorem d_Mo_fixBest_40 : decode prog_13_method_33_code 40 = .ok (.iaload, 1) := by decide +kernel
theorem d_Mo_fixBest_41 : decode prog_13_method_33_code 41 = .ok (.istore 9, 2) := by decide +kernel
theorem d_Mo_fixBest_43 : decode prog_13_method_33_code 43 = .ok (.aload_n 0, 1) := by decide +kernel
theorem d_Mo_fixBest_44 : decode prog_13_method_33_code 44 = .ok (.getfield 19, 3) := by decide +kernel
theorem d_Mo_fixBest_47 : decode prog_13_method_33_code 47 = .ok (.iload 8, 2) := by decide +kernel
theorem d_Mo_fixBest_49 : decode prog_13_method_33_code 49 = .ok (.iaload, 1) := by decide +kernel
theorem d_Mo_fixBest_50 : decode prog_13_method_33_code 50 = .ok (.istore 10, 2) := by decide +kernel
theorem d_Mo_fixBest_52 : decode prog_13_method_33_code 52 = .ok (.iload 9, 2) := by decide +kernel
theorem d_Mo_fixBest_54 : decode prog_13_method_33_code 54 = .ok (.iload 10, 2) := by decide +kernel
theorem d_Mo_fixBest_56 : decode prog_13_method_33_code 56 = .ok (.if_icmp .ge 34, 3) := by decide +kernel
theorem d_Mo_fixBest_59 : decode prog_13_method_33_code 59 = .ok (.aload_n 0, 1) := by decide +kernel
theorem d_Mo_fixBest_60 : decode prog_13_method_33_code 60 = .ok (.getfield 42, 3) := by decide +kernel
theorem d_Mo_fixBest_63 : decode prog_13_method_33_code 63 = .ok (.iload 7, 2) := by decide +kernel
theorem d_Mo_fixBest_65 : decode prog_13_method_33_code 65 = .ok (.baload, 1) := by decide +kernel
theorem d_Mo_fixBest_66 : decode prog_13_method_33_code 66 = .ok (.ifCond .ne 24, 3) := by decide +kernel
theorem d_Mo_fixBest_69 : decode prog_13_method_33_code 69 = .ok (.aload_n 0, 1) := by decide +kernel
theorem d_Mo_fixBest_70 : decode prog_13_method_33_code 70 = .ok (.getfield 42, 3) := by decide +kernel
theorem d_Mo_fixBest_73 : decode prog_13_method_33_code 73 = .ok (.iload 8, 2) := by decide +kernel
theorem d_Mo_fixBest_75 : decode prog_13_method_33_code 75 = .ok (.baload, 1) := by decide +kernel
theorem d_Mo_fixBest_76 : decode prog_13_method_33_code 76 = .ok (.ifCond .ne 14, 3) := by decide +kernel
theorem d_Mo_fixBest_79 : decode prog_13_method_33_code 79 = .ok (.aload_n 0, 1) := by decide +kernel
theorem d_Mo_fixBest_80 : decode prog_13_method_33_code 80 = .ok (.iload 9, 2) := by decide +kernel
theorem d_Mo_fixBest_82 : decode prog_13_method_33_code 82 = .ok (.iload 10, 2) := by decide +kernel
theorem d_Mo_fixBest_84 : decode prog_13_method_33_code 84 = .ok (.invokevirtual 166, 3) := by decide +kernel
theorem d_Mo_fixBest_87 : decode prog_13_method_33_code 87 = .ok (.goto 4, 3) := by decide +kernel
theorem d_Mo_fixBest_90 : decode prog_13_method_33_code 90 = .ok (.iconst 0, 1) := by decide +kernel
theorem d_Mo_fixBest_91 : decode prog_13_method_33_code 91 = .ok (.istore 11, 2) := by decide +kernel
theorem d_Mo_fixBest_93 : decode prog_13_method_33_code 93 = .ok (.lconst 0, 1) := by decide +kernel
theorem d_Mo_fixBest_94 : decode prog_13_method_33_code 94 = .ok (.lstore 12, 2) := by decide +kernel
theorem d_Mo_fixBest_96 : decode prog_13_method_33_code 96 = .ok (.iconst 0, 1) := by decide +kernel
theorem d_Mo_fixBest_97 : decode prog_13_method_33_code 97 = .ok (.istore 14, 2) := by decide +kernel
theorem d_Mo_fixBest_99 : decode prog_13_method_33_code 99 = .ok (.iload 14, 2) := by decide +kernel
theorem d_Mo_fixBest_101 : decode prog_13_method_33_code 101 = .ok (.aload_n 0, 1) := by decide +kernel
theorem d_Mo_fixBest_102 : decode prog_13_method_33_code 102 = .ok (.getfield 153, 3) := by decide +kernel
theorem d_Mo_fixBest_105 : decode prog_13_method_33_code 105 = .ok (.if_icmp .ge 44, 3) := by decide +kernel
theorem d_Mo_fixBest_108 : decode prog_13_method_33_code 108 = .ok (.iload 11, 2) := by decide +kernel
theorem d_Mo_fixBest_110 : decode prog_13_method_33_code 110 = .ok (.ifCond .le 39, 3) := by decide +kernel
theorem d_Mo_fixBest_113 : decode prog_13_method_33_code 113 = .ok (.lload 12, 2) := by decide +kernel
theorem d_Mo_fixBest_115 : decode prog_13_method_33_code 115 = .ok (.aload_n 0, 1) := by decide +kernel
theorem d_Mo_fixBest_116 : decode prog_13_method_33_code 116 = .ok (.iload 14, 2) := by decide +kernel
theorem d_Mo_fixBest_118 : decode prog_13_method_33_code 118 = .ok (.iload 9, 2) := by decide +kernel
theorem d_Mo_fixBest_120 : decode prog_13_method_33_code 120 = .ok (.iload 10, 2) := by decide +kernel
theorem d_Mo_fixBest_122 : decode prog_13_method_33_code 122 = .ok (.invokevirtual 169, 3) := by decide +kernel
theorem d_Mo_fixBest_125 : decode prog_13_method_33_code 125 = .ok (.ifCond .eq 14, 3) := by decide +kernel
theorem d_Mo_fixBest_128 : decode prog_13_method_33_code 128 = .ok (.aload_n 0, 1) := by decide +kernel
theorem d_Mo_fixBest_129 : decode prog_13_method_33_code 129 = .ok (.getfield 22, 3) := by decide +kernel
theorem d_Mo_fixBest_132 : decode prog_13_method_33_code 132 = .ok (.iload 14, 2) := by decide +kernel
theorem d_Mo_fixBest_134 : decode prog_13_method_33_code 134 = .ok (.iaload, 1) := by decide +kernel
theorem d_Mo_fixBest_135 : decode prog_13_method_33_code 135 = .ok (.i2l, 1) := by decide +kernel
theorem d_Mo_fixBest_136 : decode prog_13_method_33_code 136 = .ok (.goto 4, 3) := by decide +kernel
theorem d_Mo_fixBest_139 : decode prog_13_method_33_code 139 = .ok (.lconst 0, 1) := by decide +kernel
theorem d_Mo_fixBest_140 : decode prog_13_method_33_code 140 = .ok (.ladd, 1) := by decide +kernel
theorem d_Mo_fixBest_141 : decode prog_13_method_33_code 141 = .ok (.lstore 12, 2) := by decide +kernel
theorem d_Mo_fixBest_143 : decode prog_13_method_33_code 143 = .ok (.iinc 14 1, 3) := by decide +kernel
theorem d_Mo_fixBest_146 : decode prog_13_method_33_code 146 = .ok (.goto (-47), 3) := by decide +kernel
theorem d_Mo_fixBest_149 : decode prog_13_method_33_code 149 = .ok (.lload 12, 2) := by decide +kernel
theorem d_Mo_fixBest_151 : decode prog_13_method_33_code 151 = .ok (.lload_n 3, 1) := by decide +kernel
theorem d_Mo_fixBest_152 : decode prog_13_method_33_code 152 = .ok (.lmul, 1) := by decide +kernel
theorem d_Mo_fixBest_153 : decode prog_13_method_33_code 153 = .ok (.lload_n 1, 1) := by decide +kernel
theorem d_Mo_fixBest_154 : decode prog_13_method_33_code 154 = .ok (.iload 11, 2) := by decide +kernel
theorem d_Mo_fixBest_156 : decode prog_13_method_33_code 156 = .ok (.i2l, 1) := by decide +kernel
theorem d_Mo_fixBest_157 : decode prog_13_method_33_code 157 = .ok (.lmul, 1) := by decide +kernel
theorem d_Mo_fixBest_158 : decode prog_13_method_33_code 158 = .ok (.lcmp, 1) := by decide +kernel
theorem d_Mo_fixBest_159 : decode prog_13_method_33_code 159 = .ok (.ifCond .le 18, 3) := by decide +kernel
theorem d_Mo_fixBest_162 : decode prog_13_method_33_code 162 = .ok (.lload 12, 2) := by decide +kernel
theorem d_Mo_fixBest_164 : decode prog_13_method_33_code 164 = .ok (.lstore_n 1, 1) := by decide +kernel
theorem d_Mo_fixBest_165 : decode prog_13_method_33_code 165 = .ok (.iload 11, 2) := by decide +kernel
theorem d_Mo_fixBest_167 : decode prog_13_method_33_code 167 = .ok (.i2l, 1) := by decide +kernel
theorem d_Mo_fixBest_168 : decode prog_13_method_33_code 168 = .ok (.lstore_n 3, 1) := by decide +kernel
theorem d_Mo_fixBest_169 : decode prog_13_method_33_code 169 = .ok (.iload 9, 2) := by decide +kernel
theorem d_Mo_fixBest_171 : decode prog_13_method_33_code 171 = .ok (.istore 5, 2) := by decide +kernel
theorem d_Mo_fixBest_173 : decode prog_13_method_33_code 173 = .ok (.iload 10, 2) := by decide +kernel
theorem d_Mo_fixBest_175 : decode prog_13_method_33_code 175 = .ok (.istore 6, 2) := by decide +kernel
theorem d_Mo_fixBest_177 : decode prog_13_method_33_code 177 = .ok (.iinc 8 1, 3) := by decide +kernel
theorem d_Mo_fixBest_180 : decode prog_13_method_33_code 180 = .ok (.goto (-155), 3) := by decide +kernel
theorem d_Mo_fixBest_183 : decode prog_13_method_33_code 183 = .ok (.iinc 7 1, 3) := by decide +kernel
theorem d_Mo_fixBest_186 : decode prog_13_method_33_code 186 = .ok (.goto (-173), 3) := by decide +kernel
theorem d_Mo_fixBest_189 : decode prog_13_method_33_code 189 = .ok (.iload 5, 2) := by decide +kernel
theorem d_Mo_fixBest_191 : decode prog_13_method_33_code 191 = .ok (.ifCond .ge 5, 3) := by decide +kernel
theorem d_Mo_fixBest_194 : decode prog_13_method_33_code 194 = .ok (.iconst 0, 1) := by decide +kernel
theorem d_Mo_fixBest_195 : decode prog_13_method_33_code 195 = .ok (.ireturn, 1) := by decide +kernel
theorem d_Mo_fixBest_196 : decode prog_13_method_33_code 196 = .ok (.lload_n 1, 1) := by decide +kernel
theorem d_Mo_fixBest_197 : decode prog_13_method_33_code 197 = .ok (.lload_n 3, 1) := by decide +kernel
theorem d_Mo_fixBest_198 : decode prog_13_method_33_code 198 = .ok (.invokestatic 172, 3) := by decide +kernel
theorem d_Mo_fixBest_201 : decode prog_13_method_33_code 201 = .ok (.lstore 7, 2) := by decide +kernel
theorem d_Mo_fixBest_203 : decode prog_13_method_33_code 203 = .ok (.iconst 0, 1) := by decide +kernel
theorem d_Mo_fixBest_204 : decode prog_13_method_33_code 204 = .ok (.istore 9, 2) := by decide +kernel
theorem d_Mo_fixBest_206 : decode prog_13_method_33_code 206 = .ok (.iload 9, 2) := by decide +kernel
theorem d_Mo_fixBest_208 : decode prog_13_method_33_code 208 = .ok (.aload_n 0, 1) := by decide +kernel
theorem d_Mo_fixBest_209 : decode prog_13_method_33_code 209 = .ok (.getfield 153, 3) := by decide +kernel
theorem d_Mo_fixBest_212 : decode prog_13_method_33_code 212 = .ok (.if_icmp .ge 63, 3) := by decide +kernel
theorem d_Mo_fixBest_215 : decode prog_13_method_33_code 215 = .ok (.aload_n 0, 1) := by decide +kernel
theorem d_Mo_fixBest_216 : decode prog_13_method_33_code 216 = .ok (.iload 9, 2) := by decide +kernel
theorem d_Mo_fixBest_218 : decode prog_13_method_33_code 218 = .ok (.iload 5, 2) := by decide +kernel
theorem d_Mo_fixBest_220 : decode prog_13_method_33_code 220 = .ok (.iload 6, 2) := by decide +kernel
theorem d_Mo_fixBest_222 : decode prog_13_method_33_code 222 = .ok (.invokevirtual 169, 3) := by decide +kernel
theorem d_Mo_fixBest_225 : decode prog_13_method_33_code 225 = .ok (.ifCond .eq 36, 3) := by decide +kernel
theorem d_Mo_fixBest_228 : decode prog_13_method_33_code 228 = .ok (.aload_n 0, 1) := by decide +kernel
theorem d_Mo_fixBest_229 : decode prog_13_method_33_code 229 = .ok (.getfield 45, 3) := by decide +kernel
theorem d_Mo_fixBest_232 : decode prog_13_method_33_code 232 = .ok (.iload 9, 2) := by decide +kernel
theorem d_Mo_fixBest_234 : decode prog_13_method_33_code 234 = .ok (.lload_n 1, 1) := by decide +kernel
theorem d_Mo_fixBest_235 : decode prog_13_method_33_code 235 = .ok (.lload 7, 2) := by decide +kernel
theorem d_Mo_fixBest_237 : decode prog_13_method_33_code 237 = .ok (.ldiv, 1) := by decide +kernel
theorem d_Mo_fixBest_238 : decode prog_13_method_33_code 238 = .ok (.lastore, 1) := by decide +kernel
theorem d_Mo_fixBest_239 : decode prog_13_method_33_code 239 = .ok (.aload_n 0, 1) := by decide +kernel
theorem d_Mo_fixBest_240 : decode prog_13_method_33_code 240 = .ok (.getfield 48, 3) := by decide +kernel
theorem d_Mo_fixBest_243 : decode prog_13_method_33_code 243 = .ok (.iload 9, 2) := by decide +kernel
theorem d_Mo_fixBest_245 : decode prog_13_method_33_code 245 = .ok (.lload_n 3, 1) := by decide +kernel
theorem d_Mo_fixBest_246 : decode prog_13_method_33_code 246 = .ok (.lload 7, 2) := by decide +kernel
theorem d_Mo_fixBest_248 : decode prog_13_method_33_code 248 = .ok (.ldiv, 1) := by decide +kernel
theorem d_Mo_fixBest_249 : decode prog_13_method_33_code 249 = .ok (.lastore, 1) := by decide +kernel
theorem d_Mo_fixBest_250 : decode prog_13_method_33_code 250 = .ok (.aload_n 0, 1) := by decide +kernel
theorem d_Mo_fixBest_251 : decode prog_13_method_33_code 251 = .ok (.getfield 51, 3) := by decide +kernel
theorem d_Mo_fixBest_254 : decode prog_13_method_33_code 254 = .ok (.iload 9, 2) := by decide +kernel
theorem d_Mo_fixBest_256 : decode prog_13_method_33_code 256 = .ok (.lconst 1, 1) := by decide +kernel
theorem d_Mo_fixBest_257 : decode prog_13_method_33_code 257 = .ok (.lastore, 1) := by decide +kernel
theorem d_Mo_fixBest_258 : decode prog_13_method_33_code 258 = .ok (.goto 11, 3) := by decide +kernel
theorem d_Mo_fixBest_261 : decode prog_13_method_33_code 261 = .ok (.aload_n 0, 1) := by decide +kernel
theorem d_Mo_fixBest_262 : decode prog_13_method_33_code 262 = .ok (.getfield 51, 3) := by decide +kernel
theorem d_Mo_fixBest_265 : decode prog_13_method_33_code 265 = .ok (.iload 9, 2) := by decide +kernel
theorem d_Mo_fixBest_267 : decode prog_13_method_33_code 267 = .ok (.lconst 0, 1) := by decide +kernel
theorem d_Mo_fixBest_268 : decode prog_13_method_33_code 268 = .ok (.lastore, 1) := by decide +kernel
theorem d_Mo_fixBest_269 : decode prog_13_method_33_code 269 = .ok (.iinc 9 1, 3) := by decide +kernel
theorem d_Mo_fixBest_272 : decode prog_13_method_33_code 272 = .ok (.goto (-66), 3) := by decide +kernel
theorem d_Mo_fixBest_275 : decode prog_13_method_33_code 275 = .ok (.iconst 0, 1) := by decide +kernel
theorem d_Mo_fixBest_276 : decode prog_13_method_33_code 276 = .ok (.istore 9, 2) := by decide +kernel
theorem d_Mo_fixBest_278 : decode prog_13_method_33_code 278 = .ok (.iload 9, 2) := by decide +kernel
theorem d_Mo_fixBest_280 : decode prog_13_method_33_code 280 = .ok (.aload_n 0, 1) := by decide +kernel
theorem d_Mo_fixBest_281 : decode prog_13_method_33_code 281 = .ok (.getfield 153, 3) := by decide +kernel
theorem d_Mo_fixBest_284 : decode prog_13_method_33_code 284 = .ok (.if_icmp .ge 43, 3) := by decide +kernel
theorem d_Mo_fixBest_287 : decode prog_13_method_33_code 287 = .ok (.aload_n 0, 1) := by decide +kernel
theorem d_Mo_fixBest_288 : decode prog_13_method_33_code 288 = .ok (.getfield 42, 3) := by decide +kernel
theorem d_Mo_fixBest_291 : decode prog_13_method_33_code 291 = .ok (.iload 9, 2) := by decide +kernel
theorem d_Mo_fixBest_293 : decode prog_13_method_33_code 293 = .ok (.aload_n 0, 1) := by decide +kernel
theorem d_Mo_fixBest_294 : decode prog_13_method_33_code 294 = .ok (.getfield 42, 3) := by decide +kernel
theorem d_Mo_fixBest_297 : decode prog_13_method_33_code 297 = .ok (.iload 9, 2) := by decide +kernel
theorem d_Mo_fixBest_299 : decode prog_13_method_33_code 299 = .ok (.baload, 1) := by decide +kernel
theorem d_Mo_fixBest_300 : decode prog_13_method_33_code 300 = .ok (.ifCond .ne 15, 3) := by decide +kernel
theorem d_Mo_fixBest_303 : decode prog_13_method_33_code 303 = .ok (.aload_n 0, 1) := by decide +kernel
theorem d_Mo_fixBest_304 : decode prog_13_method_33_code 304 = .ok (.getfield 51, 3) := by decide +kernel
theorem d_Mo_fixBest_307 : decode prog_13_method_33_code 307 = .ok (.iload 9, 2) := by decide +kernel
theorem d_Mo_fixBest_309 : decode prog_13_method_33_code 309 = .ok (.laload, 1) := by decide +kernel
theorem d_Mo_fixBest_310 : decode prog_13_method_33_code 310 = .ok (.lconst 1, 1) := by decide +kernel
theorem d_Mo_fixBest_311 : decode prog_13_method_33_code 311 = .ok (.lcmp, 1) := by decide +kernel
theorem d_Mo_fixBest_312 : decode prog_13_method_33_code 312 = .ok (.ifCond .ne 7, 3) := by decide +kernel
theorem d_Mo_fixBest_315 : decode prog_13_method_33_code 315 = .ok (.iconst 1, 1) := by decide +kernel
theorem d_Mo_fixBest_316 : decode prog_13_method_33_code 316 = .ok (.goto 4, 3) := by decide +kernel
theorem d_Mo_fixBest_319 : decode prog_13_method_33_code 319 = .ok (.iconst 0, 1) := by decide +kernel
theorem d_Mo_fixBest_320 : decode prog_13_method_33_code 320 = .ok (.bastore, 1) := by decide +kernel
theorem d_Mo_fixBest_321 : decode prog_13_method_33_code 321 = .ok (.iinc 9 1, 3) := by decide +kernel
theorem d_Mo_fixBest_324 : decode prog_13_method_33_code 324 = .ok (.goto (-46), 3) := by decide +kernel
theorem d_Mo_fixBest_327 : decode prog_13_method_33_code 327 = .ok (.iload 5, 2) := by decide +kernel
theorem d_Mo_fixBest_329 : decode prog_13_method_33_code 329 = .ok (.istore 9, 2) := by decide +kernel
theorem d_Mo_fixBest_331 : decode prog_13_method_33_code 331 = .ok (.iload 9, 2) := by decide +kernel
theorem d_Mo_fixBest_333 : decode prog_13_method_33_code 333 = .ok (.iload 6, 2) := by decide +kernel
theorem d_Mo_fixBest_335 : decode prog_13_method_33_code 335 = .ok (.if_icmp .ge 49, 3) := by decide +kernel
theorem d_Mo_fixBest_338 : decode prog_13_method_33_code 338 = .ok (.aload_n 0, 1) := by decide +kernel
theorem d_Mo_fixBest_339 : decode prog_13_method_33_code 339 = .ok (.getfield 31, 3) := by decide +kernel
theorem d_Mo_fixBest_342 : decode prog_13_method_33_code 342 = .ok (.iload 9, 2) := by decide +kernel
theorem d_Mo_fixBest_344 : decode prog_13_method_33_code 344 = .ok (.baload, 1) := by decide +kernel
theorem d_Mo_fixBest_345 : decode prog_13_method_33_code 345 = .ok (.ifCond .ne 33, 3) := by decide +kernel
theorem d_Mo_fixBest_348 : decode prog_13_method_33_code 348 = .ok (.aload_n 0, 1) := by decide +kernel
theorem d_Mo_fixBest_349 : decode prog_13_method_33_code 349 = .ok (.getfield 31, 3) := by decide +kernel
theorem d_Mo_fixBest_352 : decode prog_13_method_33_code 352 = .ok (.iload 9, 2) := by decide +kernel
theorem d_Mo_fixBest_354 : decode prog_13_method_33_code 354 = .ok (.iconst 1, 1) := by decide +kernel
theorem d_Mo_fixBest_355 : decode prog_13_method_33_code 355 = .ok (.bastore, 1) := by decide +kernel
theorem d_Mo_fixBest_356 : decode prog_13_method_33_code 356 = .ok (.aload_n 0, 1) := by decide +kernel
theorem d_Mo_fixBest_357 : decode prog_13_method_33_code 357 = .ok (.getfield 35, 3) := by decide +kernel
theorem d_Mo_fixBest_360 : decode prog_13_method_33_code 360 = .ok (.iload 9, 2) := by decide +kernel
theorem d_Mo_fixBest_362 : decode prog_13_method_33_code 362 = .ok (.lload_n 1, 1) := by decide +kernel
theorem d_Mo_fixBest_363 : decode prog_13_method_33_code 363 = .ok (.lload 7, 2) := by decide +kernel
theorem d_Mo_fixBest_365 : decode prog_13_method_33_code 365 = .ok (.ldiv, 1) := by decide +kernel
theorem d_Mo_fixBest_366 : decode prog_13_method_33_code 366 = .ok (.lastore, 1) := by decide +kernel
theorem d_Mo_fixBest_367 : decode prog_13_method_33_code 367 = .ok (.aload_n 0, 1) := by decide +kernel
theorem d_Mo_fixBest_368 : decode prog_13_method_33_code 368 = .ok (.getfield 39, 3) := by decide +kernel
theorem d_Mo_fixBest_371 : decode prog_13_method_33_code 371 = .ok (.iload 9, 2) := by decide +kernel
theorem d_Mo_fixBest_373 : decode prog_13_method_33_code 373 = .ok (.lload_n 3, 1) := by decide +kernel
theorem d_Mo_fixBest_374 : decode prog_13_method_33_code 374 = .ok (.lload 7, 2) := by decide +kernel
theorem d_Mo_fixBest_376 : decode prog_13_method_33_code 376 = .ok (.ldiv, 1) := by decide +kernel
theorem d_Mo_fixBest_377 : decode prog_13_method_33_code 377 = .ok (.lastore, 1) := by decide +kernel
theorem d_Mo_fixBest_378 : decode prog_13_method_33_code 378 = .ok (.iinc 9 1, 3) := by decide +kernel
theorem d_Mo_fixBest_381 : decode prog_13_method_33_code 381 = .ok (.goto (-50), 3) := by decide +kernel
theorem d_Mo_fixBest_384 : decode prog_13_method_33_code 384 = .ok (.iconst 1, 1) := by decide +kernel
theorem d_Mo_fixBest_385 : decode prog_13_method_33_code 385 = .ok (.ireturn, 1) := by decide +kernel
theorem d_Mo_nextJob_0 : decode prog_13_method_34_code 0 = .ok (.iconst (-1), 1) := by decide +kernel
theorem d_Mo_nextJob_1 : decode prog_13_method_34_code 1 = .ok (.istore_n 2, 1) := by decide +kernel
theorem d_Mo_nextJob_2 : decode prog_13_method_34_code 2 = .ok (.aload_n 0, 1) := by decide +kernel
theorem d_Mo_nextJob_3 : decode prog_13_method_34_code 3 = .ok (.getfield 153, 3) := by decide +kernel
theorem d_Mo_nextJob_6 : decode prog_13_method_34_code 6 = .ok (.iconst 1, 1) := by decide +kernel
theorem d_Mo_nextJob_7 : decode prog_13_method_34_code 7 = .ok (.isub, 1) := by decide +kernel
theorem d_Mo_nextJob_8 : decode prog_13_method_34_code 8 = .ok (.istore_n 3, 1) := by decide +kernel
theorem d_Mo_nextJob_9 : decode prog_13_method_34_code 9 = .ok (.iload_n 3, 1) := by decide +kernel
theorem d_Mo_nextJob_10 : decode prog_13_method_34_code 10 = .ok (.ifCond .lt 51, 3) := by decide +kernel
theorem d_Mo_nextJob_13 : decode prog_13_method_34_code 13 = .ok (.aload_n 0, 1) := by decide +kernel
theorem d_Mo_nextJob_14 : decode prog_13_method_34_code 14 = .ok (.getfield 16, 3) := by decide +kernel
theorem d_Mo_nextJob_17 : decode prog_13_method_34_code 17 = .ok (.iload_n 3, 1) := by decide +kernel
theorem d_Mo_nextJob_18 : decode prog_13_method_34_code 18 = .ok (.iaload, 1) := by decide +kernel
theorem d_Mo_nextJob_19 : decode prog_13_method_34_code 19 = .ok (.iload_n 1, 1) := by decide +kernel
theorem d_Mo_nextJob_20 : decode prog_13_method_34_code 20 = .ok (.if_icmp .gt 35, 3) := by decide +kernel
theorem d_Mo_nextJob_23 : decode prog_13_method_34_code 23 = .ok (.aload_n 0, 1) := by decide +kernel
theorem d_Mo_nextJob_24 : decode prog_13_method_34_code 24 = .ok (.getfield 51, 3) := by decide +kernel
theorem d_Mo_nextJob_27 : decode prog_13_method_34_code 27 = .ok (.iload_n 3, 1) := by decide +kernel
theorem d_Mo_nextJob_28 : decode prog_13_method_34_code 28 = .ok (.laload, 1) := by decide +kernel
theorem d_Mo_nextJob_29 : decode prog_13_method_34_code 29 = .ok (.lconst 0, 1) := by decide +kernel
theorem d_Mo_nextJob_30 : decode prog_13_method_34_code 30 = .ok (.lcmp, 1) := by decide +kernel
theorem d_Mo_nextJob_31 : decode prog_13_method_34_code 31 = .ok (.ifCond .le 24, 3) := by decide +kernel
theorem d_Mo_nextJob_34 : decode prog_13_method_34_code 34 = .ok (.iload_n 2, 1) := by decide +kernel
theorem d_Mo_nextJob_35 : decode prog_13_method_34_code 35 = .ok (.ifCond .lt 18, 3) := by decide +kernel
theorem d_Mo_nextJob_38 : decode prog_13_method_34_code 38 = .ok (.aload_n 0, 1) := by decide +kernel
theorem d_Mo_nextJob_39 : decode prog_13_method_34_code 39 = .ok (.getfield 19, 3) := by decide +kernel
theorem d_Mo_nextJob_42 : decode prog_13_method_34_code 42 = .ok (.iload_n 3, 1) := by decide +kernel
theorem d_Mo_nextJob_43 : decode prog_13_method_34_code 43 = .ok (.iaload, 1) := by decide +kernel
theorem d_Mo_nextJob_44 : decode prog_13_method_34_code 44 = .ok (.aload_n 0, 1) := by decide +kernel
theorem d_Mo_nextJob_45 : decode prog_13_method_34_code 45 = .ok (.getfield 19, 3) := by decide +kernel
theorem d_Mo_nextJob_48 : decode prog_13_method_34_code 48 = .ok (.iload_n 2, 1) := by decide +kernel
theorem d_Mo_nextJob_49 : decode prog_13_method_34_code 49 = .ok (.iaload, 1) := by decide +kernel
theorem d_Mo_nextJob_50 : decode prog_13_method_34_code 50 = .ok (.if_icmp .gt 5, 3) := by decide +kernel
theorem d_Mo_nextJob_53 : decode prog_13_method_34_code 53 = .ok (.iload_n 3, 1) := by decide +kernel
theorem d_Mo_nextJob_54 : decode prog_13_method_34_code 54 = .ok (.istore_n 2, 1) := by decide +kernel
theorem d_Mo_nextJob_55 : decode prog_13_method_34_code 55 = .ok (.iinc 3 (-1), 3) := by decide +kernel
theorem d_Mo_nextJob_58 : decode prog_13_method_34_code 58 = .ok (.goto (-49), 3) := by decide +kernel
theorem d_Mo_nextJob_61 : decode prog_13_method_34_code 61 = .ok (.iload_n 2, 1) := by decide +kernel
theorem d_Mo_nextJob_62 : decode prog_13_method_34_code 62 = .ok (.ireturn, 1) := by decide +kernel
theorem d_Mo_workPlan_0 : decode prog_13_method_35_code 0 = .ok (.iconst 0, 1) := by decide +kernel
theorem d_Mo_workPlan_1 : decode prog_13_method_35_code 1 = .ok (.istore_n 3, 1) := by decide +kernel
theorem d_Mo_workPlan_2 : decode prog_13_method_35_code 2 = .ok (.iload_n 3, 1) := by decide +kernel
theorem d_Mo_workPlan_3 : decode prog_13_method_35_code 3 = .ok (.aload_n 0, 1) := by decide +kernel
theorem d_Mo_workPlan_4 : decode prog_13_method_35_code 4 = .ok (.getfield 153, 3) := by decide +kernel
theorem d_Mo_workPlan_7 : decode prog_13_method_35_code 7 = .ok (.if_icmp .ge 29, 3) := by decide +kernel
theorem d_Mo_workPlan_10 : decode prog_13_method_35_code 10 = .ok (.aload_n 0, 1) := by decide +kernel
theorem d_Mo_workPlan_11 : decode prog_13_method_35_code 11 = .ok (.getfield 51, 3) := by decide +kernel
theorem d_Mo_workPlan_14 : decode prog_13_method_35_code 14 = .ok (.iload_n 3, 1) := by decide +kernel
theorem d_Mo_workPlan_15 : decode prog_13_method_35_code 15 = .ok (.aload_n 0, 1) := by decide +kernel
theorem d_Mo_workPlan_16 : decode prog_13_method_35_code 16 = .ok (.getfield 22, 3) := by decide +kernel
theorem d_Mo_workPlan_19 : decode prog_13_method_35_code 19 = .ok (.iload_n 3, 1) := by decide +kernel
theorem d_Mo_workPlan_20 : decode prog_13_method_35_code 20 = .ok (.iaload, 1) := by decide +kernel
theorem d_Mo_workPlan_21 : decode prog_13_method_35_code 21 = .ok (.i2l, 1) := by decide +kernel
theorem d_Mo_workPlan_22 : decode prog_13_method_35_code 22 = .ok (.aload_n 0, 1) := by decide +kernel
theorem d_Mo_workPlan_23 : decode prog_13_method_35_code 23 = .ok (.getfield 48, 3) := by decide +kernel
theorem d_Mo_workPlan_26 : decode prog_13_method_35_code 26 = .ok (.iload_n 3, 1) := by decide +kernel
theorem d_Mo_workPlan_27 : decode prog_13_method_35_code 27 = .ok (.laload, 1) := by decide +kernel
theorem d_Mo_workPlan_28 : decode prog_13_method_35_code 28 = .ok (.lmul, 1) := by decide +kernel
theorem d_Mo_workPlan_29 : decode prog_13_method_35_code 29 = .ok (.lastore, 1) := by decide +kernel
theorem d_Mo_workPlan_30 : decode prog_13_method_35_code 30 = .ok (.iinc 3 1, 3) := by decide +kernel
theorem d_Mo_workPlan_33 : decode prog_13_method_35_code 33 = .ok (.goto (-31), 3) := by decide +kernel
theorem d_Mo_workPlan_36 : decode prog_13_method_35_code 36 = .ok (.iload_n 1, 1) := by decide +kernel
theorem d_Mo_workPlan_37 : decode prog_13_method_35_code 37 = .ok (.istore_n 3, 1) := by decide +kernel
theorem d_Mo_workPlan_38 : decode prog_13_method_35_code 38 = .ok (.iload_n 3, 1) := by decide +kernel
theorem d_Mo_workPlan_39 : decode prog_13_method_35_code 39 = .ok (.iload_n 2, 1) := by decide +kernel
theorem d_Mo_workPlan_40 : decode prog_13_method_35_code 40 = .ok (.if_icmp .ge 172, 3) := by decide +kernel
theorem d_Mo_workPlan_43 : decode prog_13_method_35_code 43 = .ok (.lconst 0, 1) := by decide +kernel
theorem d_Mo_workPlan_44 : decode prog_13_method_35_code 44 = .ok (.lstore 4, 2) := by decide +kernel
theorem d_Mo_workPlan_46 : decode prog_13_method_35_code 46 = .ok (.aload_n 0, 1) := by decide +kernel
theorem d_Mo_workPlan_47 : decode prog_13_method_35_code 47 = .ok (.getfield 66, 3) := by decide +kernel
theorem d_Mo_workPlan_50 : decode prog_13_method_35_code 50 = .ok (.iload_n 3, 1) := by decide +kernel
theorem d_Mo_workPlan_51 : decode prog_13_method_35_code 51 = .ok (.aload_n 0, 1) := by decide +kernel
theorem d_Mo_workPlan_52 : decode prog_13_method_35_code 52 = .ok (.getfield 35, 3) := by decide +kernel
theorem d_Mo_workPlan_55 : decode prog_13_method_35_code 55 = .ok (.iload_n 3, 1) := by decide +kernel
theorem d_Mo_workPlan_56 : decode prog_13_method_35_code 56 = .ok (.laload, 1) := by decide +kernel
theorem d_Mo_workPlan_57 : decode prog_13_method_35_code 57 = .ok (.lconst 0, 1) := by decide +kernel
theorem d_Mo_workPlan_58 : decode prog_13_method_35_code 58 = .ok (.lcmp, 1) := by decide +kernel
theorem d_Mo_workPlan_59 : decode prog_13_method_35_code 59 = .ok (.ifCond .le 11, 3) := by decide +kernel
theorem d_Mo_workPlan_62 : decode prog_13_method_35_code 62 = .ok (.aload_n 0, 1) := by decide +kernel
theorem d_Mo_workPlan_63 : decode prog_13_method_35_code 63 = .ok (.iload_n 3, 1) := by decide +kernel
theorem d_Mo_workPlan_64 : decode prog_13_method_35_code 64 = .ok (.invokevirtual 176, 3) := by decide +kernel
theorem d_Mo_workPlan_67 : decode prog_13_method_35_code 67 = .ok (.goto 4, 3) := by decide +kernel
theorem d_Mo_workPlan_70 : decode prog_13_method_35_code 70 = .ok (.iconst (-1), 1) := by decide +kernel
theorem d_Mo_workPlan_71 : decode prog_13_method_35_code 71 = .ok (.iastore, 1) := by decide +kernel
theorem d_Mo_workPlan_72 : decode prog_13_method_35_code 72 = .ok (.aload_n 0, 1) := by decide +kernel
theorem d_Mo_workPlan_73 : decode prog_13_method_35_code 73 = .ok (.getfield 66, 3) := by decide +kernel
theorem d_Mo_workPlan_76 : decode prog_13_method_35_code 76 = .ok (.iload_n 3, 1) := by decide +kernel
theorem d_Mo_workPlan_77 : decode prog_13_method_35_code 77 = .ok (.iaload, 1) := by decide +kernel
theorem d_Mo_workPlan_78 : decode prog_13_method_35_code 78 = .ok (.istore 6, 2) := by decide +kernel
theorem d_Mo_workPlan_80 : decode prog_13_method_35_code 80 = .ok (.iload 6, 2) := by decide +kernel
theorem d_Mo_workPlan_82 : decode prog_13_method_35_code 82 = .ok (.ifCond .lt 124, 3) := by decide +kernel
theorem d_Mo_workPlan_85 : decode prog_13_method_35_code 85 = .ok (.lload 4, 2) := by decide +kernel
theorem d_Mo_workPlan_87 : decode prog_13_method_35_code 87 = .ok (.aload_n 0, 1) := by decide +kernel
theorem d_Mo_workPlan_88 : decode prog_13_method_35_code 88 = .ok (.getfield 35, 3) := by decide +kernel
theorem d_Mo_workPlan_91 : decode prog_13_method_35_code 91 = .ok (.iload_n 3, 1) := by decide +kernel
theorem d_Mo_workPlan_92 : decode prog_13_method_35_code 92 = .ok (.laload, 1) := by decide +kernel
theorem d_Mo_workPlan_93 : decode prog_13_method_35_code 93 = .ok (.lcmp, 1) := by decide +kernel
theorem d_Mo_workPlan_94 : decode prog_13_method_35_code 94 = .ok (.ifCond .ge 112, 3) := by decide +kernel
theorem d_Mo_workPlan_97 : decode prog_13_method_35_code 97 = .ok (.aload_n 0, 1) := by decide +kernel
theorem d_Mo_workPlan_98 : decode prog_13_method_35_code 98 = .ok (.getfield 51, 3) := by decide +kernel
theorem d_Mo_workPlan_101 : decode prog_13_method_35_code 101 = .ok (.iload 6, 2) := by decide +kernel
theorem d_Mo_workPlan_103 : decode prog_13_method_35_code 103 = .ok (.laload, 1) := by decide +kernel
theorem d_Mo_workPlan_104 : decode prog_13_method_35_code 104 = .ok (.aload_n 0, 1) := by decide +kernel
theorem d_Mo_workPlan_105 : decode prog_13_method_35_code 105 = .ok (.getfield 35, 3) := by decide +kernel
theorem d_Mo_workPlan_108 : decode prog_13_method_35_code 108 = .ok (.iload_n 3, 1) := by decide +kernel
theorem d_Mo_workPlan_109 : decode prog_13_method_35_code 109 = .ok (.laload, 1) := by decide +kernel
theorem d_Mo_workPlan_110 : decode prog_13_method_35_code 110 = .ok (.lload 4, 2) := by decide +kernel
theorem d_Mo_workPlan_112 : decode prog_13_method_35_code 112 = .ok (.lsub, 1) := by decide +kernel
theorem d_Mo_workPlan_113 : decode prog_13_method_35_code 113 = .ok (.lcmp, 1) := by decide +kernel
theorem d_Mo_workPlan_114 : decode prog_13_method_35_code 114 = .ok (.ifCond .ge 13, 3) := by decide +kernel
theorem d_Mo_workPlan_117 : decode prog_13_method_35_code 117 = .ok (.aload_n 0, 1) := by decide +kernel
theorem d_Mo_workPlan_118 : decode prog_13_method_35_code 118 = .ok (.getfield 51, 3) := by decide +kernel
theorem d_Mo_workPlan_121 : decode prog_13_method_35_code 121 = .ok (.iload 6, 2) := by decide +kernel
theorem d_Mo_workPlan_123 : decode prog_13_method_35_code 123 = .ok (.laload, 1) := by decide +kernel
theorem d_Mo_workPlan_124 : decode prog_13_method_35_code 124 = .ok (.goto 12, 3) := by decide +kernel
theorem d_Mo_workPlan_127 : decode prog_13_method_35_code 127 = .ok (.aload_n 0, 1) := by decide +kernel
theorem d_Mo_workPlan_128 : decode prog_13_method_35_code 128 = .ok (.getfield 35, 3) := by decide +kernel
theorem d_Mo_workPlan_131 : decode prog_13_method_35_code 131 = .ok (.iload_n 3, 1) := by decide +kernel
theorem d_Mo_workPlan_132 : decode prog_13_method_35_code 132 = .ok (.laload, 1) := by decide +kernel
theorem d_Mo_workPlan_133 : decode prog_13_method_35_code 133 = .ok (.lload 4, 2) := by decide +kernel
theorem d_Mo_workPlan_135 : decode prog_13_method_35_code 135 = .ok (.lsub, 1) := by decide +kernel
theorem d_Mo_workPlan_136 : decode prog_13_method_35_code 136 = .ok (.lstore 7, 2) := by decide +kernel
theorem d_Mo_workPlan_138 : decode prog_13_method_35_code 138 = .ok (.aload_n 0, 1) := by decide +kernel
theorem d_Mo_workPlan_139 : decode prog_13_method_35_code 139 = .ok (.getfield 51, 3) := by decide +kernel
theorem d_Mo_workPlan_142 : decode prog_13_method_35_code 142 = .ok (.iload 6, 2) := by decide +kernel
theorem d_Mo_workPlan_144 : decode prog_13_method_35_code 144 = .ok (.dup2, 1) := by decide +kernel
theorem d_Mo_workPlan_145 : decode prog_13_method_35_code 145 = .ok (.laload, 1) := by decide +kernel
theorem d_Mo_workPlan_146 : decode prog_13_method_35_code 146 = .ok (.lload 7, 2) := by decide +kernel
theorem d_Mo_workPlan_148 : decode prog_13_method_35_code 148 = .ok (.lsub, 1) := by decide +kernel
theorem d_Mo_workPlan_149 : decode prog_13_method_35_code 149 = .ok (.lastore, 1) := by decide +kernel
theorem d_Mo_workPlan_150 : decode prog_13_method_35_code 150 = .ok (.lload 4, 2) := by decide +kernel
theorem d_Mo_workPlan_152 : decode prog_13_method_35_code 152 = .ok (.lload 7, 2) := by decide +kernel
theorem d_Mo_workPlan_154 : decode prog_13_method_35_code 154 = .ok (.ladd, 1) := by decide +kernel
theorem d_Mo_workPlan_155 : decode prog_13_method_35_code 155 = .ok (.lstore 4, 2) := by decide +kernel
theorem d_Mo_workPlan_157 : decode prog_13_method_35_code 157 = .ok (.aload_n 0, 1) := by decide +kernel
theorem d_Mo_workPlan_158 : decode prog_13_method_35_code 158 = .ok (.getfield 51, 3) := by decide +kernel
theorem d_Mo_workPlan_161 : decode prog_13_method_35_code 161 = .ok (.iload 6, 2) := by decide +kernel
theorem d_Mo_workPlan_163 : decode prog_13_method_35_code 163 = .ok (.laload, 1) := by decide +kernel
theorem d_Mo_workPlan_164 : decode prog_13_method_35_code 164 = .ok (.lconst 0, 1) := by decide +kernel
theorem d_Mo_workPlan_165 : decode prog_13_method_35_code 165 = .ok (.lcmp, 1) := by decide +kernel
theorem d_Mo_workPlan_166 : decode prog_13_method_35_code 166 = .ok (.ifCond .ne 30, 3) := by decide +kernel
theorem d_Mo_workPlan_169 : decode prog_13_method_35_code 169 = .ok (.aload_n 0, 1) := by decide +kernel
theorem d_Mo_workPlan_170 : decode prog_13_method_35_code 170 = .ok (.bipush 48, 2) := by decide +kernel
theorem d_Mo_workPlan_172 : decode prog_13_method_35_code 172 = .ok (.iload 6, 2) := by decide +kernel
theorem d_Mo_workPlan_174 : decode prog_13_method_35_code 174 = .ok (.iadd, 1) := by decide +kernel
theorem d_Mo_workPlan_175 : decode prog_13_method_35_code 175 = .ok (.iload_n 3, 1) := by decide +kernel
theorem d_Mo_workPlan_176 : decode prog_13_method_35_code 176 = .ok (.i2l, 1) := by decide +kernel
theorem d_Mo_workPlan_177 : decode prog_13_method_35_code 177 = .ok (.aload_n 0, 1) := by decide +kernel
theorem d_Mo_workPlan_178 : decode prog_13_method_35_code 178 = .ok (.getfield 35, 3) := by decide +kernel
theorem d_Mo_workPlan_181 : decode prog_13_method_35_code 181 = .ok (.iload_n 3, 1) := by decide +kernel
theorem d_Mo_workPlan_182 : decode prog_13_method_35_code 182 = .ok (.laload, 1) := by decide +kernel
theorem d_Mo_workPlan_183 : decode prog_13_method_35_code 183 = .ok (.lmul, 1) := by decide +kernel
theorem d_Mo_workPlan_184 : decode prog_13_method_35_code 184 = .ok (.lload 4, 2) := by decide +kernel
theorem d_Mo_workPlan_186 : decode prog_13_method_35_code 186 = .ok (.ladd, 1) := by decide +kernel
theorem d_Mo_workPlan_187 : decode prog_13_method_35_code 187 = .ok (.aload_n 0, 1) := by decide +kernel
theorem d_Mo_workPlan_188 : decode prog_13_method_35_code 188 = .ok (.getfield 35, 3) := by decide +kernel
theorem d_Mo_workPlan_191 : decode prog_13_method_35_code 191 = .ok (.iload_n 3, 1) := by decide +kernel
theorem d_Mo_workPlan_192 : decode prog_13_method_35_code 192 = .ok (.laload, 1) := by decide +kernel
theorem d_Mo_workPlan_193 : decode prog_13_method_35_code 193 = .ok (.invokevirtual 180, 3) := by decide +kernel
theorem d_Mo_workPlan_196 : decode prog_13_method_35_code 196 = .ok (.aload_n 0, 1) := by decide +kernel
theorem d_Mo_workPlan_197 : decode prog_13_method_35_code 197 = .ok (.iload_n 3, 1) := by decide +kernel
theorem d_Mo_workPlan_198 : decode prog_13_method_35_code 198 = .ok (.invokevirtual 176, 3) := by decide +kernel
theorem d_Mo_workPlan_201 : decode prog_13_method_35_code 201 = .ok (.istore 6, 2) := by decide +kernel
theorem d_Mo_workPlan_203 : decode prog_13_method_35_code 203 = .ok (.goto (-123), 3) := by decide +kernel
theorem d_Mo_workPlan_206 : decode prog_13_method_35_code 206 = .ok (.iinc 3 1, 3) := by decide +kernel
theorem d_Mo_workPlan_209 : decode prog_13_method_35_code 209 = .ok (.goto (-171), 3) := by decide +kernel
theorem d_Mo_workPlan_212 : decode prog_13_method_35_code 212 = .ok (.return_, 1) := by decide +kernel
theorem d_Mo_plan_0 : decode prog_13_method_36_code 0 = .ok (.aload_n 0, 1) := by decide +kernel
theorem d_Mo_plan_1 : decode prog_13_method_36_code 1 = .ok (.iconst 0, 1) := by decide +kernel
theorem d_Mo_plan_2 : decode prog_13_method_36_code 2 = .ok (.putfield 91, 3) := by decide +kernel
theorem d_Mo_plan_5 : decode prog_13_method_36_code 5 = .ok (.aload_n 0, 1) := by decide +kernel
theorem d_Mo_plan_6 : decode prog_13_method_36_code 6 = .ok (.iconst 0, 1) := by decide +kernel
theorem d_Mo_plan_7 : decode prog_13_method_36_code 7 = .ok (.putfield 159, 3) := by decide +kernel
theorem d_Mo_plan_10 : decode prog_13_method_36_code 10 = .ok (.aload_n 0, 1) := by decide +kernel
theorem d_Mo_plan_11 : decode prog_13_method_36_code 11 = .ok (.iconst 1, 1) := by decide +kernel
theorem d_Mo_plan_12 : decode prog_13_method_36_code 12 = .ok (.putfield 87, 3) := by decide +kernel
theorem d_Mo_plan_15 : decode prog_13_method_36_code 15 = .ok (.aload_n 0, 1) := by decide +kernel
theorem d_Mo_plan_16 : decode prog_13_method_36_code 16 = .ok (.iconst 0, 1) := by decide +kernel
theorem d_Mo_plan_17 : decode prog_13_method_36_code 17 = .ok (.putfield 184, 3) := by decide +kernel
theorem d_Mo_plan_20 : decode prog_13_method_36_code 20 = .ok (.iconst 0, 1) := by decide +kernel
theorem d_Mo_plan_21 : decode prog_13_method_36_code 21 = .ok (.istore_n 1, 1) := by decide +kernel
theorem d_Mo_plan_22 : decode prog_13_method_36_code 22 = .ok (.iload_n 1, 1) := by decide +kernel
theorem d_Mo_plan_23 : decode prog_13_method_36_code 23 = .ok (.sipush 200, 3) := by decide +kernel
theorem d_Mo_plan_26 : decode prog_13_method_36_code 26 = .ok (.if_icmp .ge 37, 3) := by decide +kernel
theorem d_Mo_plan_29 : decode prog_13_method_36_code 29 = .ok (.aload_n 0, 1) := by decide +kernel
theorem d_Mo_plan_30 : decode prog_13_method_36_code 30 = .ok (.getfield 31, 3) := by decide +kernel
theorem d_Mo_plan_33 : decode prog_13_method_36_code 33 = .ok (.iload_n 1, 1) := by decide +kernel
theorem d_Mo_plan_34 : decode prog_13_method_36_code 34 = .ok (.iconst 0, 1) := by decide +kernel
theorem d_Mo_plan_35 : decode prog_13_method_36_code 35 = .ok (.bastore, 1) := by decide +kernel
theorem d_Mo_plan_36 : decode prog_13_method_36_code 36 = .ok (.aload_n 0, 1) := by decide +kernel
theorem d_Mo_plan_37 : decode prog_13_method_36_code 37 = .ok (.getfield 35, 3) := by decide +kernel
theorem d_Mo_plan_40 : decode prog_13_method_36_code 40 = .ok (.iload_n 1, 1) := by decide +kernel
theorem d_Mo_plan_41 : decode prog_13_method_36_code 41 = .ok (.lconst 0, 1) := by decide +kernel
theorem d_Mo_plan_42 : decode prog_13_method_36_code 42 = .ok (.lastore, 1) := by decide +kernel
theorem d_Mo_plan_43 : decode prog_13_method_36_code 43 = .ok (.aload_n 0, 1) := by decide +kernel
theorem d_Mo_plan_44 : decode prog_13_method_36_code 44 = .ok (.getfield 39, 3) := by decide +kernel
theorem d_Mo_plan_47 : decode prog_13_method_36_code 47 = .ok (.iload_n 1, 1) := by decide +kernel
theorem d_Mo_plan_48 : decode prog_13_method_36_code 48 = .ok (.lconst 1, 1) := by decide +kernel
theorem d_Mo_plan_49 : decode prog_13_method_36_code 49 = .ok (.lastore, 1) := by decide +kernel
theorem d_Mo_plan_50 : decode prog_13_method_36_code 50 = .ok (.aload_n 0, 1) := by decide +kernel
theorem d_Mo_plan_51 : decode prog_13_method_36_code 51 = .ok (.getfield 66, 3) := by decide +kernel
theorem d_Mo_plan_54 : decode prog_13_method_36_code 54 = .ok (.iload_n 1, 1) := by decide +kernel
theorem d_Mo_plan_55 : decode prog_13_method_36_code 55 = .ok (.iconst (-1), 1) := by decide +kernel
theorem d_Mo_plan_56 : decode prog_13_method_36_code 56 = .ok (.iastore, 1) := by decide +kernel
theorem d_Mo_plan_57 : decode prog_13_method_36_code 57 = .ok (.iinc 1 1, 3) := by decide +kernel
theorem d_Mo_plan_60 : decode prog_13_method_36_code 60 = .ok (.goto (-38), 3) := by decide +kernel
theorem d_Mo_plan_63 : decode prog_13_method_36_code 63 = .ok (.iconst 0, 1) := by decide +kernel
theorem d_Mo_plan_64 : decode prog_13_method_36_code 64 = .ok (.istore_n 1, 1) := by decide +kernel
theorem d_Mo_plan_65 : decode prog_13_method_36_code 65 = .ok (.iload_n 1, 1) := by decide +kernel
theorem d_Mo_plan_66 : decode prog_13_method_36_code 66 = .ok (.aload_n 0, 1) := by decide +kernel
theorem d_Mo_plan_67 : decode prog_13_method_36_code 67 = .ok (.getfield 153, 3) := by decide +kernel
theorem d_Mo_plan_70 : decode prog_13_method_36_code 70 = .ok (.if_icmp .ge 16, 3) := by decide +kernel
theorem d_Mo_plan_73 : decode prog_13_method_36_code 73 = .ok (.aload_n 0, 1) := by decide +kernel
theorem d_Mo_plan_74 : decode prog_13_method_36_code 74 = .ok (.getfield 42, 3) := by decide +kernel
theorem d_Mo_plan_77 : decode prog_13_method_36_code 77 = .ok (.iload_n 1, 1) := by decide +kernel
theorem d_Mo_plan_78 : decode prog_13_method_36_code 78 = .ok (.iconst 0, 1) := by decide +kernel
theorem d_Mo_plan_79 : decode prog_13_method_36_code 79 = .ok (.bastore, 1) := by decide +kernel
theorem d_Mo_plan_80 : decode prog_13_method_36_code 80 = .ok (.iinc 1 1, 3) := by decide +kernel
theorem d_Mo_plan_83 : decode prog_13_method_36_code 83 = .ok (.goto (-18), 3) := by decide +kernel
theorem d_Mo_plan_86 : decode prog_13_method_36_code 86 = .ok (.iconst 1, 1) := by decide +kernel
theorem d_Mo_plan_87 : decode prog_13_method_36_code 87 = .ok (.istore_n 1, 1) := by decide +kernel
theorem d_Mo_plan_88 : decode prog_13_method_36_code 88 = .ok (.iload_n 1, 1) := by decide +kernel
theorem d_Mo_plan_89 : decode prog_13_method_36_code 89 = .ok (.ifCond .eq 11, 3) := by decide +kernel
theorem d_Mo_plan_92 : decode prog_13_method_36_code 92 = .ok (.aload_n 0, 1) := by decide +kernel
theorem d_Mo_plan_93 : decode prog_13_method_36_code 93 = .ok (.invokevirtual 187, 3) := by decide +kernel
theorem d_Mo_plan_96 : decode prog_13_method_36_code 96 = .ok (.istore_n 1, 1) := by decide +kernel
theorem d_Mo_plan_97 : decode prog_13_method_36_code 97 = .ok (.goto (-9), 3) := by decide +kernel
theorem d_Mo_plan_100 : decode prog_13_method_36_code 100 = .ok (.aload_n 0, 1) := by decide +kernel
theorem d_Mo_plan_101 : decode prog_13_method_36_code 101 = .ok (.invokevirtual 191, 3) := by decide +kernel
theorem d_Mo_plan_104 : decode prog_13_method_36_code 104 = .ok (.istore_n 2, 1) := by decide +kernel
theorem d_Mo_plan_105 : decode prog_13_method_36_code 105 = .ok (.aload_n 0, 1) := by decide +kernel
theorem d_Mo_plan_106 : decode prog_13_method_36_code 106 = .ok (.invokevirtual 195, 3) := by decide +kernel
theorem d_Mo_plan_109 : decode prog_13_method_36_code 109 = .ok (.istore_n 3, 1) := by decide +kernel
theorem d_Mo_plan_110 : decode prog_13_method_36_code 110 = .ok (.aload_n 0, 1) := by decide +kernel
theorem d_Mo_plan_111 : decode prog_13_method_36_code 111 = .ok (.iload_n 2, 1) := by decide +kernel
theorem d_Mo_plan_112 : decode prog_13_method_36_code 112 = .ok (.iload_n 3, 1) := by decide +kernel
theorem d_Mo_plan_113 : decode prog_13_method_36_code 113 = .ok (.invokevirtual 198, 3) := by decide +kernel
theorem d_Mo_plan_116 : decode prog_13_method_36_code 116 = .ok (.iload_n 2, 1) := by decide +kernel
theorem d_Mo_plan_117 : decode prog_13_method_36_code 117 = .ok (.istore 4, 2) := by decide +kernel
theorem d_Mo_plan_119 : decode prog_13_method_36_code 119 = .ok (.iload 4, 2) := by decide +kernel
theorem d_Mo_plan_121 : decode prog_13_method_36_code 121 = .ok (.iload_n 3, 1) := by decide +kernel
theorem d_Mo_plan_122 : decode prog_13_method_36_code 122 = .ok (.if_icmp .ge 160, 3) := by decide +kernel
theorem d_Mo_plan_125 : decode prog_13_method_36_code 125 = .ok (.aload_n 0, 1) := by decide +kernel
theorem d_Mo_plan_126 : decode prog_13_method_36_code 126 = .ok (.getfield 184, 3) := by decide +kernel
theorem d_Mo_plan_129 : decode prog_13_method_36_code 129 = .ok (.ifCond .le 47, 3) := by decide +kernel
theorem d_Mo_plan_132 : decode prog_13_method_36_code 132 = .ok (.aload_n 0, 1) := by decide +kernel
theorem d_Mo_plan_133 : decode prog_13_method_36_code 133 = .ok (.getfield 35, 3) := by decide +kernel
theorem d_Mo_plan_136 : decode prog_13_method_36_code 136 = .ok (.iload 4, 2) := by decide +kernel
theorem d_Mo_plan_138 : decode prog_13_method_36_code 138 = .ok (.laload, 1) := by decide +kernel
theorem d_Mo_plan_139 : decode prog_13_method_36_code 139 = .ok (.aload_n 0, 1) := by decide +kernel
theorem d_Mo_plan_140 : decode prog_13_method_36_code 140 = .ok (.getfield 35, 3) := by decide +kernel
theorem d_Mo_plan_143 : decode prog_13_method_36_code 143 = .ok (.iload 4, 2) := by decide +kernel
theorem d_Mo_plan_145 : decode prog_13_method_36_code 145 = .ok (.iconst 1, 1) := by decide +kernel
theorem d_Mo_plan_146 : decode prog_13_method_36_code 146 = .ok (.isub, 1) := by decide +kernel
theorem d_Mo_plan_147 : decode prog_13_method_36_code 147 = .ok (.laload, 1) := by decide +kernel
theorem d_Mo_plan_148 : decode prog_13_method_36_code 148 = .ok (.lcmp, 1) := by decide +kernel
theorem d_Mo_plan_149 : decode prog_13_method_36_code 149 = .ok (.ifCond .ne 27, 3) := by decide +kernel
theorem d_Mo_plan_152 : decode prog_13_method_36_code 152 = .ok (.aload_n 0, 1) := by decide +kernel
theorem d_Mo_plan_153 : decode prog_13_method_36_code 153 = .ok (.getfield 39, 3) := by decide +kernel
theorem d_Mo_plan_156 : decode prog_13_method_36_code 156 = .ok (.iload 4, 2) := by decide +kernel
theorem d_Mo_plan_158 : decode prog_13_method_36_code 158 = .ok (.laload, 1) := by decide +kernel
theorem d_Mo_plan_159 : decode prog_13_method_36_code 159 = .ok (.aload_n 0, 1) := by decide +kernel
theorem d_Mo_plan_160 : decode prog_13_method_36_code 160 = .ok (.getfield 39, 3) := by decide +kernel
theorem d_Mo_plan_163 : decode prog_13_method_36_code 163 = .ok (.iload 4, 2) := by decide +kernel
theorem d_Mo_plan_165 : decode prog_13_method_36_code 165 = .ok (.iconst 1, 1) := by decide +kernel
theorem d_Mo_plan_166 : decode prog_13_method_36_code 166 = .ok (.isub, 1) := by decide +kernel
theorem d_Mo_plan_167 : decode prog_13_method_36_code 167 = .ok (.laload, 1) := by decide +kernel
theorem d_Mo_plan_168 : decode prog_13_method_36_code 168 = .ok (.lcmp, 1) := by decide +kernel
theorem d_Mo_plan_169 : decode prog_13_method_36_code 169 = .ok (.ifCond .ne 7, 3) := by decide +kernel
theorem d_Mo_plan_172 : decode prog_13_method_36_code 172 = .ok (.iconst 1, 1) := by decide +kernel
theorem d_Mo_plan_173 : decode prog_13_method_36_code 173 = .ok (.goto 4, 3) := by decide +kernel
theorem d_Mo_plan_176 : decode prog_13_method_36_code 176 = .ok (.iconst 0, 1) := by decide +kernel
theorem d_Mo_plan_177 : decode prog_13_method_36_code 177 = .ok (.istore 5, 2) := by decide +kernel
theorem d_Mo_plan_179 : decode prog_13_method_36_code 179 = .ok (.iload 5, 2) := by decide +kernel
theorem d_Mo_plan_181 : decode prog_13_method_36_code 181 = .ok (.ifCond .ne 80, 3) := by decide +kernel
theorem d_Mo_plan_184 : decode prog_13_method_36_code 184 = .ok (.aload_n 0, 1) := by decide +kernel
theorem d_Mo_plan_185 : decode prog_13_method_36_code 185 = .ok (.getfield 54, 3) := by decide +kernel
theorem d_Mo_plan_188 : decode prog_13_method_36_code 188 = .ok (.aload_n 0, 1) := by decide +kernel
theorem d_Mo_plan_189 : decode prog_13_method_36_code 189 = .ok (.getfield 184, 3) := by decide +kernel
theorem d_Mo_plan_192 : decode prog_13_method_36_code 192 = .ok (.iload 4, 2) := by decide +kernel
theorem d_Mo_plan_194 : decode prog_13_method_36_code 194 = .ok (.iastore, 1) := by decide +kernel
theorem d_Mo_plan_195 : decode prog_13_method_36_code 195 = .ok (.aload_n 0, 1) := by decide +kernel
theorem d_Mo_plan_196 : decode prog_13_method_36_code 196 = .ok (.getfield 60, 3) := by decide +kernel
theorem d_Mo_plan_199 : decode prog_13_method_36_code 199 = .ok (.aload_n 0, 1) := by decide +kernel
theorem d_Mo_plan_200 : decode prog_13_method_36_code 200 = .ok (.getfield 184, 3) := by decide +kernel
theorem d_Mo_plan_203 : decode prog_13_method_36_code 203 = .ok (.aload_n 0, 1) := by decide +kernel
theorem d_Mo_plan_204 : decode prog_13_method_36_code 204 = .ok (.getfield 35, 3) := by decide +kernel
theorem d_Mo_plan_207 : decode prog_13_method_36_code 207 = .ok (.iload 4, 2) := by decide +kernel
theorem d_Mo_plan_209 : decode prog_13_method_36_code 209 = .ok (.laload, 1) := by decide +kernel
theorem d_Mo_plan_210 : decode prog_13_method_36_code 210 = .ok (.lastore, 1) := by decide +kernel
theorem d_Mo_plan_211 : decode prog_13_method_36_code 211 = .ok (.aload_n 0, 1) := by decide +kernel
theorem d_Mo_plan_212 : decode prog_13_method_36_code 212 = .ok (.getfield 63, 3) := by decide +kernel
theorem d_Mo_plan_215 : decode prog_13_method_36_code 215 = .ok (.aload_n 0, 1) := by decide +kernel
theorem d_Mo_plan_216 : decode prog_13_method_36_code 216 = .ok (.getfield 184, 3) := by decide +kernel
theorem d_Mo_plan_219 : decode prog_13_method_36_code 219 = .ok (.aload_n 0, 1) := by decide +kernel
theorem d_Mo_plan_220 : decode prog_13_method_36_code 220 = .ok (.getfield 39, 3) := by decide +kernel
theorem d_Mo_plan_223 : decode prog_13_method_36_code 223 = .ok (.iload 4, 2) := by decide +kernel
theorem d_Mo_plan_225 : decode prog_13_method_36_code 225 = .ok (.laload, 1) := by decide +kernel
theorem d_Mo_plan_226 : decode prog_13_method_36_code 226 = .ok (.lastore, 1) := by decide +kernel
theorem d_Mo_plan_227 : decode prog_13_method_36_code 227 = .ok (.aload_n 0, 1) := by decide +kernel
theorem d_Mo_plan_228 : decode prog_13_method_36_code 228 = .ok (.iconst 0, 1) := by decide +kernel
theorem d_Mo_plan_229 : decode prog_13_method_36_code 229 = .ok (.aload_n 0, 1) := by decide +kernel
theorem d_Mo_plan_230 : decode prog_13_method_36_code 230 = .ok (.getfield 184, 3) := by decide +kernel
theorem d_Mo_plan_233 : decode prog_13_method_36_code 233 = .ok (.iadd, 1) := by decide +kernel
theorem d_Mo_plan_234 : decode prog_13_method_36_code 234 = .ok (.aload_n 0, 1) := by decide +kernel
theorem d_Mo_plan_235 : decode prog_13_method_36_code 235 = .ok (.getfield 35, 3) := by decide +kernel
theorem d_Mo_plan_238 : decode prog_13_method_36_code 238 = .ok (.iload 4, 2) := by decide +kernel
theorem d_Mo_plan_240 : decode prog_13_method_36_code 240 = .ok (.laload, 1) := by decide +kernel
theorem d_Mo_plan_241 : decode prog_13_method_36_code 241 = .ok (.aload_n 0, 1) := by decide +kernel
theorem d_Mo_plan_242 : decode prog_13_method_36_code 242 = .ok (.getfield 39, 3) := by decide +kernel
theorem d_Mo_plan_245 : decode prog_13_method_36_code 245 = .ok (.iload 4, 2) := by decide +kernel
theorem d_Mo_plan_247 : decode prog_13_method_36_code 247 = .ok (.laload, 1) := by decide +kernel
theorem d_Mo_plan_248 : decode prog_13_method_36_code 248 = .ok (.invokevirtual 180, 3) := by decide +kernel
theorem d_Mo_plan_251 : decode prog_13_method_36_code 251 = .ok (.aload_n 0, 1) := by decide +kernel
theorem d_Mo_plan_252 : decode prog_13_method_36_code 252 = .ok (.dup, 1) := by decide +kernel
theorem d_Mo_plan_253 : decode prog_13_method_36_code 253 = .ok (.getfield 184, 3) := by decide +kernel
theorem d_Mo_plan_256 : decode prog_13_method_36_code 256 = .ok (.iconst 1, 1) := by decide +kernel
theorem d_Mo_plan_257 : decode prog_13_method_36_code 257 = .ok (.iadd, 1) := by decide +kernel
theorem d_Mo_plan_258 : decode prog_13_method_36_code 258 = .ok (.putfield 184, 3) := by decide +kernel
theorem d_Mo_plan_261 : decode prog_13_method_36_code 261 = .ok (.aload_n 0, 1) := by decide +kernel
theorem d_Mo_plan_262 : decode prog_13_method_36_code 262 = .ok (.getfield 57, 3) := by decide +kernel
theorem d_Mo_plan_265 : decode prog_13_method_36_code 265 = .ok (.aload_n 0, 1) := by decide +kernel
theorem d_Mo_plan_266 : decode prog_13_method_36_code 266 = .ok (.getfield 184, 3) := by decide +kernel
theorem d_Mo_plan_269 : decode prog_13_method_36_code 269 = .ok (.iconst 1, 1) := by decide +kernel
theorem d_Mo_plan_270 : decode prog_13_method_36_code 270 = .ok (.isub, 1) := by decide +kernel
theorem d_Mo_plan_271 : decode prog_13_method_36_code 271 = .ok (.iload 4, 2) := by decide +kernel
theorem d_Mo_plan_273 : decode prog_13_method_36_code 273 = .ok (.iconst 1, 1) := by decide +kernel
theorem d_Mo_plan_274 : decode prog_13_method_36_code 274 = .ok (.iadd, 1) := by decide +kernel
theorem d_Mo_plan_275 : decode prog_13_method_36_code 275 = .ok (.iastore, 1) := by decide +kernel
theorem d_Mo_plan_276 : decode prog_13_method_36_code 276 = .ok (.iinc 4 1, 3) := by decide +kernel
theorem d_Mo_plan_279 : decode prog_13_method_36_code 279 = .ok (.goto (-160), 3) := by decide +kernel
theorem d_Mo_plan_282 : decode prog_13_method_36_code 282 = .ok (.aload_n 0, 1) := by decide +kernel
theorem d_Mo_plan_283 : decode prog_13_method_36_code 283 = .ok (.sipush 224, 3) := by decide +kernel
theorem d_Mo_plan_286 : decode prog_13_method_36_code 286 = .ok (.lconst 0, 1) := by decide +kernel
theorem d_Mo_plan_287 : decode prog_13_method_36_code 287 = .ok (.invokevirtual 127, 3) := by decide +kernel
theorem d_Mo_plan_290 : decode prog_13_method_36_code 290 = .ok (.aload_n 0, 1) := by decide +kernel
theorem d_Mo_plan_291 : decode prog_13_method_36_code 291 = .ok (.sipush 225, 3) := by decide +kernel
theorem d_Mo_plan_294 : decode prog_13_method_36_code 294 = .ok (.lconst 1, 1) := by decide +kernel
theorem d_Mo_plan_295 : decode prog_13_method_36_code 295 = .ok (.invokevirtual 127, 3) := by decide +kernel
theorem d_Mo_plan_298 : decode prog_13_method_36_code 298 = .ok (.iconst 0, 1) := by decide +kernel
theorem d_Mo_plan_299 : decode prog_13_method_36_code 299 = .ok (.istore 4, 2) := by decide +kernel
theorem d_Mo_plan_301 : decode prog_13_method_36_code 301 = .ok (.iload 4, 2) := by decide +kernel
theorem d_Mo_plan_303 : decode prog_13_method_36_code 303 = .ok (.aload_n 0, 1) := by decide +kernel
theorem d_Mo_plan_304 : decode prog_13_method_36_code 304 = .ok (.getfield 184, 3) := by decide +kernel
theorem d_Mo_plan_307 : decode prog_13_method_36_code 307 = .ok (.if_icmp .ge 32, 3) := by decide +kernel
theorem d_Mo_plan_310 : decode prog_13_method_36_code 310 = .ok (.aload_n 0, 1) := by decide +kernel
theorem d_Mo_plan_311 : decode prog_13_method_36_code 311 = .ok (.iconst 0, 1) := by decide +kernel
theorem d_Mo_plan_312 : decode prog_13_method_36_code 312 = .ok (.iload 4, 2) := by decide +kernel
theorem d_Mo_plan_314 : decode prog_13_method_36_code 314 = .ok (.iadd, 1) := by decide +kernel
theorem d_Mo_plan_315 : decode prog_13_method_36_code 315 = .ok (.aload_n 0, 1) := by decide +kernel
theorem d_Mo_plan_316 : decode prog_13_method_36_code 316 = .ok (.getfield 57, 3) := by decide +kernel
theorem d_Mo_plan_319 : decode prog_13_method_36_code 319 = .ok (.iload 4, 2) := by decide +kernel
theorem d_Mo_plan_321 : decode prog_13_method_36_code 321 = .ok (.iaload, 1) := by decide +kernel
theorem d_Mo_plan_322 : decode prog_13_method_36_code 322 = .ok (.aload_n 0, 1) := by decide +kernel
theorem d_Mo_plan_323 : decode prog_13_method_36_code 323 = .ok (.getfield 54, 3) := by decide +kernel
theorem d_Mo_plan_326 : decode prog_13_method_36_code 326 = .ok (.iload 4, 2) := by decide +kernel
theorem d_Mo_plan_328 : decode prog_13_method_36_code 328 = .ok (.iaload, 1) := by decide +kernel
theorem d_Mo_plan_329 : decode prog_13_method_36_code 329 = .ok (.isub, 1) := by decide +kernel
theorem d_Mo_plan_330 : decode prog_13_method_36_code 330 = .ok (.invokevirtual 201, 3) := by decide +kernel
theorem d_Mo_plan_333 : decode prog_13_method_36_code 333 = .ok (.iinc 4 1, 3) := by decide +kernel
theorem d_Mo_plan_336 : decode prog_13_method_36_code 336 = .ok (.goto (-35), 3) := by decide +kernel
theorem d_Mo_plan_339 : decode prog_13_method_36_code 339 = .ok (.aload_n 0, 1) := by decide +kernel
theorem d_Mo_plan_340 : decode prog_13_method_36_code 340 = .ok (.bipush 112, 2) := by decide +kernel
theorem d_Mo_plan_342 : decode prog_13_method_36_code 342 = .ok (.bipush 108, 2) := by decide +kernel
theorem d_Mo_plan_344 : decode prog_13_method_36_code 344 = .ok (.invokevirtual 204, 3) := by decide +kernel
theorem d_Mo_plan_347 : decode prog_13_method_36_code 347 = .ok (.iconst 0, 1) := by decide +kernel
theorem d_Mo_plan_348 : decode prog_13_method_36_code 348 = .ok (.istore 4, 2) := by decide +kernel
theorem d_Mo_plan_350 : decode prog_13_method_36_code 350 = .ok (.iload 4, 2) := by decide +kernel
theorem d_Mo_plan_352 : decode prog_13_method_36_code 352 = .ok (.aload_n 0, 1) := by decide +kernel
theorem d_Mo_plan_353 : decode prog_13_method_36_code 353 = .ok (.getfield 153, 3) := by decide +kernel
theorem d_Mo_plan_356 : decode prog_13_method_36_code 356 = .ok (.if_icmp .ge 32, 3) := by decide +kernel
theorem d_Mo_plan_359 : decode prog_13_method_36_code 359 = .ok (.aload_n 0, 1) := by decide +kernel
theorem d_Mo_plan_360 : decode prog_13_method_36_code 360 = .ok (.bipush 72, 2) := by decide +kernel
theorem d_Mo_plan_362 : decode prog_13_method_36_code 362 = .ok (.iload 4, 2) := by decide +kernel
theorem d_Mo_plan_364 : decode prog_13_method_36_code 364 = .ok (.iadd, 1) := by decide +kernel
theorem d_Mo_plan_365 : decode prog_13_method_36_code 365 = .ok (.aload_n 0, 1) := by decide +kernel
theorem d_Mo_plan_366 : decode prog_13_method_36_code 366 = .ok (.getfield 45, 3) := by decide +kernel
theorem d_Mo_plan_369 : decode prog_13_method_36_code 369 = .ok (.iload 4, 2) := by decide +kernel
theorem d_Mo_plan_371 : decode prog_13_method_36_code 371 = .ok (.laload, 1) := by decide +kernel
theorem d_Mo_plan_372 : decode prog_13_method_36_code 372 = .ok (.aload_n 0, 1) := by decide +kernel
theorem d_Mo_plan_373 : decode prog_13_method_36_code 373 = .ok (.getfield 48, 3) := by decide +kernel
theorem d_Mo_plan_376 : decode prog_13_method_36_code 376 = .ok (.iload 4, 2) := by decide +kernel
theorem d_Mo_plan_378 : decode prog_13_method_36_code 378 = .ok (.laload, 1) := by decide +kernel
theorem d_Mo_plan_379 : decode prog_13_method_36_code 379 = .ok (.invokevirtual 180, 3) := by decide +kernel
theorem d_Mo_plan_382 : decode prog_13_method_36_code 382 = .ok (.iinc 4 1, 3) := by decide +kernel
theorem d_Mo_plan_385 : decode prog_13_method_36_code 385 = .ok (.goto (-35), 3) := by decide +kernel
theorem d_Mo_plan_388 : decode prog_13_method_36_code 388 = .ok (.aload_n 0, 1) := by decide +kernel
theorem d_Mo_plan_389 : decode prog_13_method_36_code 389 = .ok (.getfield 184, 3) := by decide +kernel
theorem d_Mo_plan_392 : decode prog_13_method_36_code 392 = .ok (.ireturn, 1) := by decide +kernel
section SEG
variable {g : GG} {Q : Option VV → EE → DD → Prop} {D : DD}
theorem s_Mo_job_0 {x1 : Int} {x2 : Int} {x3 : Int}  (h : (∀ D1, D1 = zw D 708 0 0 → CI g M_Mo_in [vI x1, vI 0, vI 200] D1 (fun v3 D' => Sg g M_Mo_job Q 13 [vR 708, vI x1, vI x2, vI x3] [vI v3] D'))) : Sg g M_Mo_job Q 0 [vR 708, vI x1, vI x2, vI x3] [] D := by
  unfold Sg
  refine q_aload_n d_Mo_job_0 rfl ?_
  refine q_iconst d_Mo_job_1 (by decide) ?_
  refine p_putI (k := 0) zc_Mo l_Mo_91 fp_Mo_thrown (Or.inl rfl) d_Mo_job_2 zk_708 (fun D1 e2 => ?_)
  have h := h D1 e2
  refine q_iload_n d_Mo_job_5 rfl ?_
  refine q_iconst d_Mo_job_6 (by decide) ?_
  refine q_sipush d_Mo_job_7 ks_200 ?_
  refine p_callS (as := [vI x1, vI 0, vI 200]) (st := []) mc_Mo_in ms_Mo_in l_Mo_149 d_Mo_job_10 rfl rfl rfl (CI.to ?_)
  exact h
theorem s_Mo_job_13 {x1 : Int} {x2 : Int} {x3 : Int} {y0 : Int}  (h : ((y0 = 0 → Q (some (vI (-1))) zE D) ∧ (¬ y0 = 0 → CI g M_Mo_in [vI x2, vI 0, vI 200] D (fun v2 D' => Sg g M_Mo_job Q 24 [vR 708, vI x1, vI x2, vI x3] [vI v2] D')))) : Sg g M_Mo_job Q 13 [vR 708, vI x1, vI x2, vI x3] [vI y0] D := by
  unfold Sg
  refine q_if_eq (tgt := 52) d_Mo_job_13 (by decide) (fun c1 => ?_) (fun c1 => ?_)
  · have h := h.1 (c1)
    refine q_iconst d_Mo_job_52 (by decide) ?_
    exact q_iret d_Mo_job_53 (Or.inl rfl) ⟨Nat.le_refl _, Nat.le_refl _⟩ h
  · have h := h.2 (c1)
    refine q_iload_n d_Mo_job_16 rfl ?_
    refine q_iconst d_Mo_job_17 (by decide) ?_
    refine q_sipush d_Mo_job_18 ks_200 ?_
    refine p_callS (as := [vI x2, vI 0, vI 200]) (st := []) mc_Mo_in ms_Mo_in l_Mo_149 d_Mo_job_21 rfl rfl rfl (CI.to ?_)
    exact h
theorem s_Mo_job_24 {x1 : Int} {x2 : Int} {x3 : Int} {y0 : Int}  (h : ((y0 = 0 → Q (some (vI (-1))) zE D) ∧ (¬ y0 = 0 → ((x2 ≤ x1 → Q (some (vI (-1))) zE D) ∧ (¬ x2 ≤ x1 → CI g M_Mo_in [vI x3, vI 1, vI 1000] D (fun v3 D' => Sg g M_Mo_job Q 40 [vR 708, vI x1, vI x2, vI x3] [vI v3] D')))))) : Sg g M_Mo_job Q 24 [vR 708, vI x1, vI x2, vI x3] [vI y0] D := by
  unfold Sg
  refine q_if_eq (tgt := 52) d_Mo_job_24 (by decide) (fun c1 => ?_) (fun c1 => ?_)
  · have h := h.1 (c1)
    refine q_iconst d_Mo_job_52 (by decide) ?_
    exact q_iret d_Mo_job_53 (Or.inl rfl) ⟨Nat.le_refl _, Nat.le_refl _⟩ h
  · have h := h.2 (c1)
    refine q_iload_n d_Mo_job_27 rfl ?_
    refine q_iload_n d_Mo_job_28 rfl ?_
    refine q_icmp_le (tgt := 52) d_Mo_job_29 (by decide) (fun c2 => ?_) (fun c2 => ?_)
    · have h := h.1 (c2)
      refine q_iconst d_Mo_job_52 (by decide) ?_
      exact q_iret d_Mo_job_53 (Or.inl rfl) ⟨Nat.le_refl _, Nat.le_refl _⟩ h
    · have h := h.2 (c2)
      refine q_iload_n d_Mo_job_32 rfl ?_
      refine q_iconst d_Mo_job_33 (by decide) ?_
      refine q_sipush d_Mo_job_34 ks_1000 ?_
      refine p_callS (as := [vI x3, vI 1, vI 1000]) (st := []) mc_Mo_in ms_Mo_in l_Mo_149 d_Mo_job_37 rfl rfl rfl (CI.to ?_)
      exact h
theorem s_Mo_job_40 {x1 : Int} {x2 : Int} {x3 : Int} {y0 : Int}  (h : ((y0 = 0 → Q (some (vI (-1))) zE D) ∧ (¬ y0 = 0 → ((¬ (D 708 3) = 12 → ((0 ≤ D 708 3 ∧ D 708 3 < 12)) ∧ (∀ D4, D4 = zw D 711 (D 708 3) x1 → ((0 ≤ D4 708 3 ∧ D4 708 3 < 12)) ∧ (∀ D7, D7 = zw D4 712 (D4 708 3) x2 → ((0 ≤ D7 708 3 ∧ D7 708 3 < 12)) ∧ (∀ D10, D10 = zw D7 713 (D7 708 3) x3 → (R32 ((D10 708 3) + 1)) ∧ (∀ D13, D13 = zw D10 708 3 ((D10 708 3) + 1) → (∀ D15, D15 = zw D13 708 10 0 → (∀ D17, D17 = zw D15 708 11 0 → (∀ D19, D19 = zw D17 708 12 0 → (R32 ((D19 708 3) - 1)) ∧ Q (some (vI ((D19 708 3) - 1))) zE D19)))))))) ∧ ((D 708 3) = 12 → Q (some (vI (-1))) zE D))))) : Sg g M_Mo_job Q 40 [vR 708, vI x1, vI x2, vI x3] [vI y0] D := by
  unfold Sg
  refine q_if_eq (tgt := 52) d_Mo_job_40 (by decide) (fun c1 => ?_) (fun c1 => ?_)
  · have h := h.1 (c1)
    refine q_iconst d_Mo_job_52 (by decide) ?_
    exact q_iret d_Mo_job_53 (Or.inl rfl) ⟨Nat.le_refl _, Nat.le_refl _⟩ h
  · have h := h.2 (c1)
    refine q_aload_n d_Mo_job_43 rfl ?_
    refine p_getI (k := 3) zc_Mo l_Mo_153 fi_Mo_jobs d_Mo_job_44 zk_708 ?_
    refine q_bipush d_Mo_job_47 kb_12 ?_
    refine q_icmp_ne (tgt := 54) d_Mo_job_49 (by decide) (fun c2 => ?_) (fun c2 => ?_)
    · have h := h.1 (c2)
      obtain ⟨o3, h⟩ := h
      refine q_aload_n d_Mo_job_54 rfl ?_
      refine p_getR (k := 4) (b := 711) zc_Mo l_Mo_16 fr_Mo_releases d_Mo_job_55 zk_708 rfl ?_
      refine q_aload_n d_Mo_job_58 rfl ?_
      refine p_getI (k := 3) zc_Mo l_Mo_153 fi_Mo_jobs d_Mo_job_59 zk_708 ?_
      refine q_iload_n d_Mo_job_62 rfl ?_
      refine p_iast d_Mo_job_63 zk_711 o3 (fun D4 e5 => ?_)
      have h := h D4 e5
      obtain ⟨o6, h⟩ := h
      refine q_aload_n d_Mo_job_64 rfl ?_
      refine p_getR (k := 5) (b := 712) zc_Mo l_Mo_19 fr_Mo_deadlines d_Mo_job_65 zk_708 rfl ?_
      refine q_aload_n d_Mo_job_68 rfl ?_
      refine p_getI (k := 3) zc_Mo l_Mo_153 fi_Mo_jobs d_Mo_job_69 zk_708 ?_
      refine q_iload_n d_Mo_job_72 rfl ?_
      refine p_iast d_Mo_job_73 zk_712 o6 (fun D7 e8 => ?_)
      have h := h D7 e8
      obtain ⟨o9, h⟩ := h
      refine q_aload_n d_Mo_job_74 rfl ?_
      refine p_getR (k := 6) (b := 713) zc_Mo l_Mo_22 fr_Mo_works d_Mo_job_75 zk_708 rfl ?_
      refine q_aload_n d_Mo_job_78 rfl ?_
      refine p_getI (k := 3) zc_Mo l_Mo_153 fi_Mo_jobs d_Mo_job_79 zk_708 ?_
      refine q_iload_n d_Mo_job_82 rfl ?_
      refine p_iast d_Mo_job_83 zk_713 o9 (fun D10 e11 => ?_)
      have h := h D10 e11
      obtain ⟨o12, h⟩ := h
      refine q_aload_n d_Mo_job_84 rfl ?_
      refine q_dup d_Mo_job_85 rfl ?_
      refine p_getI (k := 3) zc_Mo l_Mo_153 fi_Mo_jobs d_Mo_job_86 zk_708 ?_
      refine q_iconst d_Mo_job_89 (by decide) ?_
      refine q_iadd d_Mo_job_90 o12 ?_
      refine p_putI (k := 3) zc_Mo l_Mo_153 fp_Mo_jobs (Or.inl rfl) d_Mo_job_91 zk_708 (fun D13 e14 => ?_)
      have h := h D13 e14
      refine q_aload_n d_Mo_job_94 rfl ?_
      refine q_iconst d_Mo_job_95 (by decide) ?_
      refine p_putI (k := 10) zc_Mo l_Mo_87 fp_Mo_planned (Or.inr ⟨rfl, by decide⟩) d_Mo_job_96 zk_708 (fun D15 e16 => ?_)
      have h := h D15 e16
      refine q_aload_n d_Mo_job_99 rfl ?_
      refine q_iconst d_Mo_job_100 (by decide) ?_
      refine p_putI (k := 11) zc_Mo l_Mo_156 fp_Mo_gone (Or.inr ⟨rfl, by decide⟩) d_Mo_job_101 zk_708 (fun D17 e18 => ?_)
      have h := h D17 e18
      refine q_aload_n d_Mo_job_104 rfl ?_
      refine q_iconst d_Mo_job_105 (by decide) ?_
      refine p_putI (k := 12) zc_Mo l_Mo_159 fp_Mo_isSplit (Or.inr ⟨rfl, by decide⟩) d_Mo_job_106 zk_708 (fun D19 e20 => ?_)
      have h := h D19 e20
      obtain ⟨o21, h⟩ := h
      refine q_aload_n d_Mo_job_109 rfl ?_
      refine p_getI (k := 3) zc_Mo l_Mo_153 fi_Mo_jobs d_Mo_job_110 zk_708 ?_
      refine q_iconst d_Mo_job_113 (by decide) ?_
      refine q_isub d_Mo_job_114 o21 ?_
      exact q_iret d_Mo_job_115 (Or.inl rfl) ⟨Nat.le_refl _, Nat.le_refl _⟩ h
    · have h := h.2 (c2)
      refine q_iconst d_Mo_job_52 (by decide) ?_
      exact q_iret d_Mo_job_53 (Or.inl rfl) ⟨Nat.le_refl _, Nat.le_refl _⟩ h
theorem s_Mo_level_0 {x1 : Int} {x2 : Int}  (h : (∀ D1, D1 = zw D 708 0 0 → CI g M_Mo_in [vI x1, vI 1, vI 10000] D1 (fun v3 D' => Sg g M_Mo_level Q 13 [vR 708, vI x1, vI x2] [vI v3] D'))) : Sg g M_Mo_level Q 0 [vR 708, vI x1, vI x2] [] D := by
  unfold Sg
  refine q_aload_n d_Mo_level_0 rfl ?_
  refine q_iconst d_Mo_level_1 (by decide) ?_
  refine p_putI (k := 0) zc_Mo l_Mo_91 fp_Mo_thrown (Or.inl rfl) d_Mo_level_2 zk_708 (fun D1 e2 => ?_)
  have h := h D1 e2
  refine q_iload_n d_Mo_level_5 rfl ?_
  refine q_iconst d_Mo_level_6 (by decide) ?_
  refine q_sipush d_Mo_level_7 ks_10000 ?_
  refine p_callS (as := [vI x1, vI 1, vI 10000]) (st := []) mc_Mo_in ms_Mo_in l_Mo_149 d_Mo_level_10 rfl rfl rfl (CI.to ?_)
  exact h
theorem s_Mo_level_13 {x1 : Int} {x2 : Int} {y0 : Int}  (h : ((y0 = 0 → Q (some (vI (-1))) zE D) ∧ (¬ y0 = 0 → CI g M_Mo_in [vI x2, vI 0, vI 1000000] D (fun v2 D' => Sg g M_Mo_level Q 23 [vR 708, vI x1, vI x2] [vI v2] D')))) : Sg g M_Mo_level Q 13 [vR 708, vI x1, vI x2] [vI y0] D := by
  unfold Sg
  refine q_if_eq (tgt := 57) d_Mo_level_13 (by decide) (fun c1 => ?_) (fun c1 => ?_)
  · have h := h.1 (c1)
    refine q_iconst d_Mo_level_57 (by decide) ?_
    exact q_iret d_Mo_level_58 (Or.inl rfl) ⟨Nat.le_refl _, Nat.le_refl _⟩ h
  · have h := h.2 (c1)
    refine q_iload_n d_Mo_level_16 rfl ?_
    refine q_iconst d_Mo_level_17 (by decide) ?_
    refine q_ldc (x := 1000000) l_Mo_162 d_Mo_level_18 (by decide) ?_
    refine p_callS (as := [vI x2, vI 0, vI 1000000]) (st := []) mc_Mo_in ms_Mo_in l_Mo_149 d_Mo_level_20 rfl rfl rfl (CI.to ?_)
    exact h
theorem s_Mo_level_23 {x1 : Int} {x2 : Int} {y0 : Int}  (h : ((y0 = 0 → Q (some (vI (-1))) zE D) ∧ (¬ y0 = 0 → (((D 708 7) = 8 → Q (some (vI (-1))) zE D) ∧ (¬ (D 708 7) = 8 → (((D 708 7) ≤ 0 → Sg g M_Mo_level Q 59 [vR 708, vI x1, vI x2] [] D) ∧ (¬ (D 708 7) ≤ 0 → (R32 ((D 708 7) - 1) ∧ (0 ≤ (D 708 7) - 1 ∧ (D 708 7) - 1 < 8)) ∧ (((D 714 ((D 708 7) - 1)) < x1 → Sg g M_Mo_level Q 59 [vR 708, vI x1, vI x2] [] D) ∧ (¬ (D 714 ((D 708 7) - 1)) < x1 → Q (some (vI (-1))) zE D))))))))) : Sg g M_Mo_level Q 23 [vR 708, vI x1, vI x2] [vI y0] D := by
  unfold Sg
  refine q_if_eq (tgt := 57) d_Mo_level_23 (by decide) (fun c1 => ?_) (fun c1 => ?_)
  · have h := h.1 (c1)
    refine q_iconst d_Mo_level_57 (by decide) ?_
    exact q_iret d_Mo_level_58 (Or.inl rfl) ⟨Nat.le_refl _, Nat.le_refl _⟩ h
  · have h := h.2 (c1)
    refine q_aload_n d_Mo_level_26 rfl ?_
    refine p_getI (k := 7) zc_Mo l_Mo_163 fi_Mo_levels d_Mo_level_27 zk_708 ?_
    refine q_bipush d_Mo_level_30 kb_8 ?_
    refine q_icmp_eq (tgt := 57) d_Mo_level_32 (by decide) (fun c2 => ?_) (fun c2 => ?_)
    · have h := h.1 (c2)
      refine q_iconst d_Mo_level_57 (by decide) ?_
      exact q_iret d_Mo_level_58 (Or.inl rfl) ⟨Nat.le_refl _, Nat.le_refl _⟩ h
    · have h := h.2 (c2)
      refine q_aload_n d_Mo_level_35 rfl ?_
      refine p_getI (k := 7) zc_Mo l_Mo_163 fi_Mo_levels d_Mo_level_36 zk_708 ?_
      refine q_if_le (tgt := 59) d_Mo_level_39 (by decide) (fun c3 => ?_) (fun c3 => ?_)
      · have h := h.1 (c3)
        exact h
      · have h := h.2 (c3)
        obtain ⟨⟨o4, o5⟩, h⟩ := h
        refine q_iload_n d_Mo_level_42 rfl ?_
        refine q_aload_n d_Mo_level_43 rfl ?_
        refine p_getR (k := 8) (b := 714) zc_Mo l_Mo_25 fr_Mo_rates d_Mo_level_44 zk_708 rfl ?_
        refine q_aload_n d_Mo_level_47 rfl ?_
        refine p_getI (k := 7) zc_Mo l_Mo_163 fi_Mo_levels d_Mo_level_48 zk_708 ?_
        refine q_iconst d_Mo_level_51 (by decide) ?_
        refine q_isub d_Mo_level_52 o4 ?_
        refine p_iald d_Mo_level_53 zk_714 o5 ?_
        refine q_icmp_gt (tgt := 59) d_Mo_level_54 (by decide) (fun c6 => ?_) (fun c6 => ?_)
        · have h := h.1 (c6)
          exact h
        · have h := h.2 (c6)
          refine q_iconst d_Mo_level_57 (by decide) ?_
          exact q_iret d_Mo_level_58 (Or.inl rfl) ⟨Nat.le_refl _, Nat.le_refl _⟩ h
theorem s_Mo_level_59 {x1 : Int} {x2 : Int}  (h : ((0 ≤ D 708 7 ∧ D 708 7 < 8)) ∧ (∀ D2, D2 = zw D 714 (D 708 7) x1 → ((0 ≤ D2 708 7 ∧ D2 708 7 < 8)) ∧ (∀ D5, D5 = zw D2 715 (D2 708 7) x2 → (R32 ((D5 708 7) + 1)) ∧ (∀ D8, D8 = zw D5 708 7 ((D5 708 7) + 1) → (∀ D10, D10 = zw D8 708 12 0 → Q (some (vI (D10 708 7))) zE D10))))) : Sg g M_Mo_level Q 59 [vR 708, vI x1, vI x2] [] D := by
  unfold Sg
  obtain ⟨o1, h⟩ := h
  refine q_aload_n d_Mo_level_59 rfl ?_
  refine p_getR (k := 8) (b := 714) zc_Mo l_Mo_25 fr_Mo_rates d_Mo_level_60 zk_708 rfl ?_
  refine q_aload_n d_Mo_level_63 rfl ?_
  refine p_getI (k := 7) zc_Mo l_Mo_163 fi_Mo_levels d_Mo_level_64 zk_708 ?_
  refine q_iload_n d_Mo_level_67 rfl ?_
  refine p_iast d_Mo_level_68 zk_714 o1 (fun D2 e3 => ?_)
  have h := h D2 e3
  obtain ⟨o4, h⟩ := h
  refine q_aload_n d_Mo_level_69 rfl ?_
  refine p_getR (k := 9) (b := 715) zc_Mo l_Mo_28 fr_Mo_costs d_Mo_level_70 zk_708 rfl ?_
  refine q_aload_n d_Mo_level_73 rfl ?_
  refine p_getI (k := 7) zc_Mo l_Mo_163 fi_Mo_levels d_Mo_level_74 zk_708 ?_
  refine q_iload_n d_Mo_level_77 rfl ?_
  refine p_iast d_Mo_level_78 zk_715 o4 (fun D5 e6 => ?_)
  have h := h D5 e6
  obtain ⟨o7, h⟩ := h
  refine q_aload_n d_Mo_level_79 rfl ?_
  refine q_dup d_Mo_level_80 rfl ?_
  refine p_getI (k := 7) zc_Mo l_Mo_163 fi_Mo_levels d_Mo_level_81 zk_708 ?_
  refine q_iconst d_Mo_level_84 (by decide) ?_
  refine q_iadd d_Mo_level_85 o7 ?_
  refine p_putI (k := 7) zc_Mo l_Mo_163 fp_Mo_levels (Or.inl rfl) d_Mo_level_86 zk_708 (fun D8 e9 => ?_)
  have h := h D8 e9
  refine q_aload_n d_Mo_level_89 rfl ?_
  refine q_iconst d_Mo_level_90 (by decide) ?_
  refine p_putI (k := 12) zc_Mo l_Mo_159 fp_Mo_isSplit (Or.inr ⟨rfl, by decide⟩) d_Mo_level_91 zk_708 (fun D10 e11 => ?_)
  have h := h D10 e11
  refine q_aload_n d_Mo_level_94 rfl ?_
  refine p_getI (k := 7) zc_Mo l_Mo_163 fi_Mo_levels d_Mo_level_95 zk_708 ?_
  exact q_iret d_Mo_level_98 (Or.inl rfl) ⟨Nat.le_refl _, Nat.le_refl _⟩ h
theorem s_Mo_convex_0   (h : (∀ D1, D1 = zw D 708 0 0 → Sg g M_Mo_convex Q 9 [vR 708, vI 1, vI 1, vU, vU, vU, vU, vU, vU] [] D1)) : Sg g M_Mo_convex Q 0 [vR 708, vU, vU, vU, vU, vU, vU, vU, vU] [] D := by
  unfold Sg
  refine q_aload_n d_Mo_convex_0 rfl ?_
  refine q_iconst d_Mo_convex_1 (by decide) ?_
  refine p_putI (k := 0) zc_Mo l_Mo_91 fp_Mo_thrown (Or.inl rfl) d_Mo_convex_2 zk_708 (fun D1 e2 => ?_)
  have h := h D1 e2
  refine q_iconst d_Mo_convex_5 (by decide) ?_
  refine q_istore_n d_Mo_convex_6 (by decide) (L' := [vR 708, vI 1, vU, vU, vU, vU, vU, vU, vU]) rfl ?_
  refine q_iconst d_Mo_convex_7 (by decide) ?_
  refine q_istore_n d_Mo_convex_8 (by decide) (L' := [vR 708, vI 1, vI 1, vU, vU, vU, vU, vU, vU]) rfl ?_
  exact h
theorem s_Mo_convex_9 {x1 : Int} {x2 : Int} {z3 : VV} {z4 : VV} {z5 : VV} {z6 : VV} {z7 : VV} {z8 : VV}  (h : (((D 708 7) ≤ x2 → ((x1 = 0 → Q (some (vI 0)) zE D) ∧ (¬ x1 = 0 → Q (some (vI 1)) zE D))) ∧ (¬ (D 708 7) ≤ x2 → ((x2 ≤ 1 → Sg g M_Mo_convex Q 34 [vR 708, vI x1, vI x2, vU, vU, vU, vU, vU, vU] [vI 0] D) ∧ (¬ x2 ≤ 1 → (R32 (x2 - 2) ∧ (0 ≤ x2 - 2 ∧ x2 - 2 < 8)) ∧ Sg g M_Mo_convex Q 34 [vR 708, vI x1, vI x2, vU, vU, vU, vU, vU, vU] [vI (D 714 (x2 - 2))] D))))) : Sg g M_Mo_convex Q 9 [vR 708, vI x1, vI x2, z3, z4, z5, z6, z7, z8] [] D := by
  unfold Sg
  refine q_mask [false, false, false, true, true, true, true, true, true] (L' := [vR 708, vI x1, vI x2, vU, vU, vU, vU, vU, vU]) rfl ?_
  refine q_iload_n d_Mo_convex_9 rfl ?_
  refine q_aload_n d_Mo_convex_10 rfl ?_
  refine p_getI (k := 7) zc_Mo l_Mo_163 fi_Mo_levels d_Mo_convex_11 zk_708 ?_
  refine q_icmp_ge (tgt := 139) d_Mo_convex_14 (by decide) (fun c1 => ?_) (fun c1 => ?_)
  · have h := h.1 (c1)
    refine q_iload_n d_Mo_convex_139 rfl ?_
    refine q_if_eq (tgt := 147) d_Mo_convex_140 (by decide) (fun c2 => ?_) (fun c2 => ?_)
    · have h := h.1 (c2)
      refine q_iconst d_Mo_convex_147 (by decide) ?_
      exact q_iret d_Mo_convex_148 (Or.inl rfl) ⟨Nat.le_refl _, Nat.le_refl _⟩ h
    · have h := h.2 (c2)
      refine q_iconst d_Mo_convex_143 (by decide) ?_
      refine q_goto (tgt := 148) d_Mo_convex_144 (by decide) ?_
      exact q_iret d_Mo_convex_148 (Or.inl rfl) ⟨Nat.le_refl _, Nat.le_refl _⟩ h
  · have h := h.2 (c1)
    refine q_iload_n d_Mo_convex_17 rfl ?_
    refine q_iconst d_Mo_convex_18 (by decide) ?_
    refine q_icmp_le (tgt := 33) d_Mo_convex_19 (by decide) (fun c3 => ?_) (fun c3 => ?_)
    · have h := h.1 (c3)
      refine q_iconst d_Mo_convex_33 (by decide) ?_
      exact h
    · have h := h.2 (c3)
      obtain ⟨⟨o4, o5⟩, h⟩ := h
      refine q_aload_n d_Mo_convex_22 rfl ?_
      refine p_getR (k := 8) (b := 714) zc_Mo l_Mo_25 fr_Mo_rates d_Mo_convex_23 zk_708 rfl ?_
      refine q_iload_n d_Mo_convex_26 rfl ?_
      refine q_iconst d_Mo_convex_27 (by decide) ?_
      refine q_isub d_Mo_convex_28 o4 ?_
      refine p_iald d_Mo_convex_29 zk_714 o5 ?_
      refine q_goto (tgt := 34) d_Mo_convex_30 (by decide) ?_
      exact h
theorem s_Mo_convex_34 {x1 : Int} {x2 : Int} {z3 : VV} {z4 : VV} {z5 : VV} {z6 : VV} {z7 : VV} {z8 : VV} {y0 : Int}  (h : ((x2 ≤ 1 → Sg g M_Mo_convex Q 52 [vR 708, vI x1, vI x2, vI y0, vU, vU, vU, vU, vU] [vI 0] D) ∧ (¬ x2 ≤ 1 → (R32 (x2 - 2) ∧ (0 ≤ x2 - 2 ∧ x2 - 2 < 8)) ∧ Sg g M_Mo_convex Q 52 [vR 708, vI x1, vI x2, vI y0, vU, vU, vU, vU, vU] [vI (D 715 (x2 - 2))] D))) : Sg g M_Mo_convex Q 34 [vR 708, vI x1, vI x2, z3, z4, z5, z6, z7, z8] [vI y0] D := by
  unfold Sg
  refine q_mask [false, false, false, true, true, true, true, true, true] (L' := [vR 708, vI x1, vI x2, vU, vU, vU, vU, vU, vU]) rfl ?_
  refine q_istore_n d_Mo_convex_34 (by decide) (L' := [vR 708, vI x1, vI x2, vI y0, vU, vU, vU, vU, vU]) rfl ?_
  refine q_iload_n d_Mo_convex_35 rfl ?_
  refine q_iconst d_Mo_convex_36 (by decide) ?_
  refine q_icmp_le (tgt := 51) d_Mo_convex_37 (by decide) (fun c1 => ?_) (fun c1 => ?_)
  · have h := h.1 (c1)
    refine q_iconst d_Mo_convex_51 (by decide) ?_
    exact h
  · have h := h.2 (c1)
    obtain ⟨⟨o2, o3⟩, h⟩ := h
    refine q_aload_n d_Mo_convex_40 rfl ?_
    refine p_getR (k := 9) (b := 715) zc_Mo l_Mo_28 fr_Mo_costs d_Mo_convex_41 zk_708 rfl ?_
    refine q_iload_n d_Mo_convex_44 rfl ?_
    refine q_iconst d_Mo_convex_45 (by decide) ?_
    refine q_isub d_Mo_convex_46 o2 ?_
    refine p_iald d_Mo_convex_47 zk_715 o3 ?_
    refine q_goto (tgt := 52) d_Mo_convex_48 (by decide) ?_
    exact h
theorem s_Mo_convex_52 {x1 : Int} {x2 : Int} {x3 : Int} {z4 : VV} {z5 : VV} {z6 : VV} {z7 : VV} {z8 : VV} {y0 : Int}  (h : ((0 ≤ x2 ∧ x2 < 8) ∧ R32 (x2 - 1) ∧ (0 ≤ x2 - 1 ∧ x2 - 1 < 8) ∧ R32 ((D 715 x2) - (D 715 (x2 - 1))) ∧ R32 (x2 - 1) ∧ (0 ≤ x2 - 1 ∧ x2 - 1 < 8) ∧ R32 ((D 714 (x2 - 1)) - x3) ∧ R64 (((D 715 x2) - (D 715 (x2 - 1))) * ((D 714 (x2 - 1)) - x3)) ∧ R32 (x2 - 1) ∧ (0 ≤ x2 - 1 ∧ x2 - 1 < 8) ∧ R32 ((D 715 (x2 - 1)) - y0) ∧ (0 ≤ x2 ∧ x2 < 8) ∧ R32 (x2 - 1) ∧ (0 ≤ x2 - 1 ∧ x2 - 1 < 8) ∧ R32 ((D 714 x2) - (D 714 (x2 - 1))) ∧ R64 (((D 715 (x2 - 1)) - y0) * ((D 714 x2) - (D 714 (x2 - 1))))) ∧ ((x1 = 0 → Sg g M_Mo_convex Q 131 [vR 708, vI x1, vI x2, vI x3, vI y0, vL (((D 715 x2) - (D 715 (x2 - 1))) * ((D 714 (x2 - 1)) - x3)), vU, vL (((D 715 (x2 - 1)) - y0) * ((D 714 x2) - (D 714 (x2 - 1)))), vU] [] D) ∧ (¬ x1 = 0 → (((((D 715 x2) - (D 715 (x2 - 1))) * ((D 714 (x2 - 1)) - x3)) < (((D 715 (x2 - 1)) - y0) * ((D 714 x2) - (D 714 (x2 - 1)))) → Sg g M_Mo_convex Q 131 [vR 708, vI x1, vI x2, vI x3, vI y0, vL (((D 715 x2) - (D 715 (x2 - 1))) * ((D 714 (x2 - 1)) - x3)), vU, vL (((D 715 (x2 - 1)) - y0) * ((D 714 x2) - (D 714 (x2 - 1)))), vU] [] D) ∧ (¬ (((D 715 x2) - (D 715 (x2 - 1))) * ((D 714 (x2 - 1)) - x3)) < (((D 715 (x2 - 1)) - y0) * ((D 714 x2) - (D 714 (x2 - 1)))) → Sg g M_Mo_convex Q 132 [vR 708, vI x1, vI x2, vI x3, vI y0, vL (((D 715 x2) - (D 715 (x2 - 1))) * ((D 714 (x2 - 1)) - x3)), vU, vL (((D 715 (x2 - 1)) - y0) * ((D 714 x2) - (D 714 (x2 - 1)))), vU] [vI 1] D))))) : Sg g M_Mo_convex Q 52 [vR 708, vI x1, vI x2, vI x3, z4, z5, z6, z7, z8] [vI y0] D := by
  unfold Sg
  refine q_mask [false, false, false, false, true, true, true, true, true] (L' := [vR 708, vI x1, vI x2, vI x3, vU, vU, vU, vU, vU]) rfl ?_
  obtain ⟨⟨o1, o2, o3, o4, o5, o6, o7, o8, o9, o10, o11, o12, o13, o14, o15, o16⟩, h⟩ := h
  refine q_istore d_Mo_convex_52 (by decide) (L' := [vR 708, vI x1, vI x2, vI x3, vI y0, vU, vU, vU, vU]) rfl ?_
  refine q_aload_n d_Mo_convex_54 rfl ?_
  refine p_getR (k := 9) (b := 715) zc_Mo l_Mo_28 fr_Mo_costs d_Mo_convex_55 zk_708 rfl ?_
  refine q_iload_n d_Mo_convex_58 rfl ?_
  refine p_iald d_Mo_convex_59 zk_715 o1 ?_
  refine q_aload_n d_Mo_convex_60 rfl ?_
  refine p_getR (k := 9) (b := 715) zc_Mo l_Mo_28 fr_Mo_costs d_Mo_convex_61 zk_708 rfl ?_
  refine q_iload_n d_Mo_convex_64 rfl ?_
  refine q_iconst d_Mo_convex_65 (by decide) ?_
  refine q_isub d_Mo_convex_66 o2 ?_
  refine p_iald d_Mo_convex_67 zk_715 o3 ?_
  refine q_isub d_Mo_convex_68 o4 ?_
  refine q_i2l d_Mo_convex_69 ?_
  refine q_aload_n d_Mo_convex_70 rfl ?_
  refine p_getR (k := 8) (b := 714) zc_Mo l_Mo_25 fr_Mo_rates d_Mo_convex_71 zk_708 rfl ?_
  refine q_iload_n d_Mo_convex_74 rfl ?_
  refine q_iconst d_Mo_convex_75 (by decide) ?_
  refine q_isub d_Mo_convex_76 o5 ?_
  refine p_iald d_Mo_convex_77 zk_714 o6 ?_
  refine q_iload_n d_Mo_convex_78 rfl ?_
  refine q_isub d_Mo_convex_79 o7 ?_
  refine q_i2l d_Mo_convex_80 ?_
  refine q_lmul d_Mo_convex_81 o8 ?_
  refine q_lstore d_Mo_convex_82 (by decide) (L' := [vR 708, vI x1, vI x2, vI x3, vI y0, vL (((D 715 x2) - (D 715 (x2 - 1))) * ((D 714 (x2 - 1)) - x3)), vU, vU, vU]) rfl ?_
  refine q_aload_n d_Mo_convex_84 rfl ?_
  refine p_getR (k := 9) (b := 715) zc_Mo l_Mo_28 fr_Mo_costs d_Mo_convex_85 zk_708 rfl ?_
  refine q_iload_n d_Mo_convex_88 rfl ?_
  refine q_iconst d_Mo_convex_89 (by decide) ?_
  refine q_isub d_Mo_convex_90 o9 ?_
  refine p_iald d_Mo_convex_91 zk_715 o10 ?_
  refine q_iload d_Mo_convex_92 rfl ?_
  refine q_isub d_Mo_convex_94 o11 ?_
  refine q_i2l d_Mo_convex_95 ?_
  refine q_aload_n d_Mo_convex_96 rfl ?_
  refine p_getR (k := 8) (b := 714) zc_Mo l_Mo_25 fr_Mo_rates d_Mo_convex_97 zk_708 rfl ?_
  refine q_iload_n d_Mo_convex_100 rfl ?_
  refine p_iald d_Mo_convex_101 zk_714 o12 ?_
  refine q_aload_n d_Mo_convex_102 rfl ?_
  refine p_getR (k := 8) (b := 714) zc_Mo l_Mo_25 fr_Mo_rates d_Mo_convex_103 zk_708 rfl ?_
  refine q_iload_n d_Mo_convex_106 rfl ?_
  refine q_iconst d_Mo_convex_107 (by decide) ?_
  refine q_isub d_Mo_convex_108 o13 ?_
  refine p_iald d_Mo_convex_109 zk_714 o14 ?_
  refine q_isub d_Mo_convex_110 o15 ?_
  refine q_i2l d_Mo_convex_111 ?_
  refine q_lmul d_Mo_convex_112 o16 ?_
  refine q_lstore d_Mo_convex_113 (by decide) (L' := [vR 708, vI x1, vI x2, vI x3, vI y0, vL (((D 715 x2) - (D 715 (x2 - 1))) * ((D 714 (x2 - 1)) - x3)), vU, vL (((D 715 (x2 - 1)) - y0) * ((D 714 x2) - (D 714 (x2 - 1)))), vU]) rfl ?_
  refine q_iload_n d_Mo_convex_115 rfl ?_
  refine q_if_eq (tgt := 131) d_Mo_convex_116 (by decide) (fun c17 => ?_) (fun c17 => ?_)
  · have h := h.1 (c17)
    exact h
  · have h := h.2 (c17)
    refine q_lload d_Mo_convex_119 rfl ?_
    refine q_lload d_Mo_convex_121 rfl ?_
    refine q_lcmp d_Mo_convex_123 ?_
    refine q_if_lt (tgt := 131) d_Mo_convex_124 (by decide) (fun c18 => ?_) (fun c18 => ?_)
    · have h := h.1 (zcmp_lt.mp c18)
      exact h
    · have h := h.2 ((not_congr zcmp_lt).mp c18)
      refine q_iconst d_Mo_convex_127 (by decide) ?_
      refine q_goto (tgt := 132) d_Mo_convex_128 (by decide) ?_
      exact h
theorem s_Mo_convex_131 {z1 : VV} {x2 : Int} {z3 : VV} {z4 : VV} {z5 : VV} {z6 : VV} {z7 : VV} {z8 : VV}  (h : Sg g M_Mo_convex Q 132 [vR 708, vU, vI x2, vU, vU, vU, vU, vU, vU] [vI 0] D) : Sg g M_Mo_convex Q 131 [vR 708, z1, vI x2, z3, z4, z5, z6, z7, z8] [] D := by
  unfold Sg
  refine q_mask [false, true, false, true, true, true, true, true, true] (L' := [vR 708, vU, vI x2, vU, vU, vU, vU, vU, vU]) rfl ?_
  refine q_iconst d_Mo_convex_131 (by decide) ?_
  exact h
theorem s_Mo_convex_132 {z1 : VV} {x2 : Int} {z3 : VV} {z4 : VV} {z5 : VV} {z6 : VV} {z7 : VV} {z8 : VV} {y0 : Int}  (h : (R32 (x2 + 1)) ∧ Sg g M_Mo_convex Q 9 [vR 708, vI y0, vI (x2 + 1), vU, vU, vU, vU, vU, vU] [] D) : Sg g M_Mo_convex Q 132 [vR 708, z1, vI x2, z3, z4, z5, z6, z7, z8] [vI y0] D := by
  unfold Sg
  refine q_mask [false, true, false, true, true, true, true, true, true] (L' := [vR 708, vU, vI x2, vU, vU, vU, vU, vU, vU]) rfl ?_
  obtain ⟨o1, h⟩ := h
  refine q_istore_n d_Mo_convex_132 (by decide) (L' := [vR 708, vI y0, vI x2, vU, vU, vU, vU, vU, vU]) rfl ?_
  refine q_iinc d_Mo_convex_133 rfl (by decide) o1 (L' := [vR 708, vI y0, vI (x2 + 1), vU, vU, vU, vU, vU, vU]) rfl ?_
  refine q_goto (tgt := 9) d_Mo_convex_136 (by decide) ?_
  exact h
theorem s_Mo_clear_0   (h : (∀ D1, D1 = zw D 708 0 0 → (∀ D3, D3 = zw D1 708 3 0 → (∀ D5, D5 = zw D3 708 7 0 → (∀ D7, D7 = zw D5 708 10 0 → (∀ D9, D9 = zw D7 708 11 0 → (∀ D11, D11 = zw D9 708 12 0 → Q (some (vI (D1 708 3))) zE D11))))))) : Sg g M_Mo_clear Q 0 [vR 708, vU] [] D := by
  unfold Sg
  refine q_aload_n d_Mo_clear_0 rfl ?_
  refine q_iconst d_Mo_clear_1 (by decide) ?_
  refine p_putI (k := 0) zc_Mo l_Mo_91 fp_Mo_thrown (Or.inl rfl) d_Mo_clear_2 zk_708 (fun D1 e2 => ?_)
  have h := h D1 e2
  refine q_aload_n d_Mo_clear_5 rfl ?_
  refine p_getI (k := 3) zc_Mo l_Mo_153 fi_Mo_jobs d_Mo_clear_6 zk_708 ?_
  refine q_istore_n d_Mo_clear_9 (by decide) (L' := [vR 708, vI (D1 708 3)]) rfl ?_
  refine q_aload_n d_Mo_clear_10 rfl ?_
  refine q_iconst d_Mo_clear_11 (by decide) ?_
  refine p_putI (k := 3) zc_Mo l_Mo_153 fp_Mo_jobs (Or.inl rfl) d_Mo_clear_12 zk_708 (fun D3 e4 => ?_)
  have h := h D3 e4
  refine q_aload_n d_Mo_clear_15 rfl ?_
  refine q_iconst d_Mo_clear_16 (by decide) ?_
  refine p_putI (k := 7) zc_Mo l_Mo_163 fp_Mo_levels (Or.inl rfl) d_Mo_clear_17 zk_708 (fun D5 e6 => ?_)
  have h := h D5 e6
  refine q_aload_n d_Mo_clear_20 rfl ?_
  refine q_iconst d_Mo_clear_21 (by decide) ?_
  refine p_putI (k := 10) zc_Mo l_Mo_87 fp_Mo_planned (Or.inr ⟨rfl, by decide⟩) d_Mo_clear_22 zk_708 (fun D7 e8 => ?_)
  have h := h D7 e8
  refine q_aload_n d_Mo_clear_25 rfl ?_
  refine q_iconst d_Mo_clear_26 (by decide) ?_
  refine p_putI (k := 11) zc_Mo l_Mo_156 fp_Mo_gone (Or.inr ⟨rfl, by decide⟩) d_Mo_clear_27 zk_708 (fun D9 e10 => ?_)
  have h := h D9 e10
  refine q_aload_n d_Mo_clear_30 rfl ?_
  refine q_iconst d_Mo_clear_31 (by decide) ?_
  refine p_putI (k := 12) zc_Mo l_Mo_159 fp_Mo_isSplit (Or.inr ⟨rfl, by decide⟩) d_Mo_clear_32 zk_708 (fun D11 e12 => ?_)
  have h := h D11 e12
  refine q_iload_n d_Mo_clear_35 rfl ?_
  exact q_iret d_Mo_clear_36 (Or.inl rfl) ⟨Nat.le_refl _, Nat.le_refl _⟩ h
theorem s_Mo_about_0 {x1 : Int} {x2 : Int}  (h : (∀ D1, D1 = zw D 708 0 0 → ((x1 = 0 → Sg g M_Mo_about Q 14 [vR 708, vI x1, vI x2] [] D1) ∧ (¬ x1 = 0 → ((¬ x1 = 1 → CI g M_Mo_in [vI x1, vI 2, vI 4] D1 (fun v5 D' => Sg g M_Mo_about Q 36 [vR 708, vI x1, vI x2] [vI v5] D')) ∧ (x1 = 1 → Sg g M_Mo_about Q 14 [vR 708, vI x1, vI x2] [] D1)))))) : Sg g M_Mo_about Q 0 [vR 708, vI x1, vI x2] [] D := by
  unfold Sg
  refine q_aload_n d_Mo_about_0 rfl ?_
  refine q_iconst d_Mo_about_1 (by decide) ?_
  refine p_putI (k := 0) zc_Mo l_Mo_91 fp_Mo_thrown (Or.inl rfl) d_Mo_about_2 zk_708 (fun D1 e2 => ?_)
  have h := h D1 e2
  refine q_iload_n d_Mo_about_5 rfl ?_
  refine q_if_eq (tgt := 14) d_Mo_about_6 (by decide) (fun c3 => ?_) (fun c3 => ?_)
  · have h := h.1 (c3)
    exact h
  · have h := h.2 (c3)
    refine q_iload_n d_Mo_about_9 rfl ?_
    refine q_iconst d_Mo_about_10 (by decide) ?_
    refine q_icmp_ne (tgt := 30) d_Mo_about_11 (by decide) (fun c4 => ?_) (fun c4 => ?_)
    · have h := h.1 (c4)
      refine q_iload_n d_Mo_about_30 rfl ?_
      refine q_iconst d_Mo_about_31 (by decide) ?_
      refine q_iconst d_Mo_about_32 (by decide) ?_
      refine p_callS (as := [vI x1, vI 2, vI 4]) (st := []) mc_Mo_in ms_Mo_in l_Mo_149 d_Mo_about_33 rfl rfl rfl (CI.to ?_)
      exact h
    · have h := h.2 (c4)
      exact h
theorem s_Mo_about_14 {x1 : Int} {z2 : VV}  (h : ((¬ x1 = 0 → Q (some (vI (D 708 7))) zE D) ∧ (x1 = 0 → Q (some (vI (D 708 3))) zE D))) : Sg g M_Mo_about Q 14 [vR 708, vI x1, z2] [] D := by
  unfold Sg
  refine q_mask [false, false, true] (L' := [vR 708, vI x1, vU]) rfl ?_
  refine q_iload_n d_Mo_about_14 rfl ?_
  refine q_if_ne (tgt := 25) d_Mo_about_15 (by decide) (fun c1 => ?_) (fun c1 => ?_)
  · have h := h.1 (c1)
    refine q_aload_n d_Mo_about_25 rfl ?_
    refine p_getI (k := 7) zc_Mo l_Mo_163 fi_Mo_levels d_Mo_about_26 zk_708 ?_
    exact q_iret d_Mo_about_29 (Or.inl rfl) ⟨Nat.le_refl _, Nat.le_refl _⟩ h
  · have h := h.2 (c1)
    refine q_aload_n d_Mo_about_18 rfl ?_
    refine p_getI (k := 3) zc_Mo l_Mo_153 fi_Mo_jobs d_Mo_about_19 zk_708 ?_
    refine q_goto (tgt := 29) d_Mo_about_22 (by decide) ?_
    exact q_iret d_Mo_about_29 (Or.inl rfl) ⟨Nat.le_refl _, Nat.le_refl _⟩ h
theorem s_Mo_about_36 {x1 : Int} {x2 : Int} {y0 : Int}  (h : ((y0 = 0 → Sg g M_Mo_about Q 88 [vR 708, vI x1, vI x2] [] D) ∧ (¬ y0 = 0 → (R32 ((D 708 3) - 1)) ∧ CI g M_Mo_in [vI x2, vI 0, vI ((D 708 3) - 1)] D (fun v3 D' => Sg g M_Mo_about Q 50 [vR 708, vI x1, vI x2] [vI v3] D')))) : Sg g M_Mo_about Q 36 [vR 708, vI x1, vI x2] [vI y0] D := by
  unfold Sg
  refine q_if_eq (tgt := 88) d_Mo_about_36 (by decide) (fun c1 => ?_) (fun c1 => ?_)
  · have h := h.1 (c1)
    exact h
  · have h := h.2 (c1)
    obtain ⟨o2, h⟩ := h
    refine q_iload_n d_Mo_about_39 rfl ?_
    refine q_iconst d_Mo_about_40 (by decide) ?_
    refine q_aload_n d_Mo_about_41 rfl ?_
    refine p_getI (k := 3) zc_Mo l_Mo_153 fi_Mo_jobs d_Mo_about_42 zk_708 ?_
    refine q_iconst d_Mo_about_45 (by decide) ?_
    refine q_isub d_Mo_about_46 o2 ?_
    refine p_callS (as := [vI x2, vI 0, vI ((D 708 3) - 1)]) (st := []) mc_Mo_in ms_Mo_in l_Mo_149 d_Mo_about_47 rfl rfl rfl (CI.to ?_)
    exact h
theorem s_Mo_about_88 {x1 : Int} {x2 : Int}  (h : CI g M_Mo_in [vI x1, vI 5, vI 6] D (fun v1 D' => Sg g M_Mo_about Q 95 [vR 708, vI x1, vI x2] [vI v1] D')) : Sg g M_Mo_about Q 88 [vR 708, vI x1, vI x2] [] D := by
  unfold Sg
  refine q_iload_n d_Mo_about_88 rfl ?_
  refine q_iconst d_Mo_about_89 (by decide) ?_
  refine q_bipush d_Mo_about_90 kb_6 ?_
  refine p_callS (as := [vI x1, vI 5, vI 6]) (st := []) mc_Mo_in ms_Mo_in l_Mo_149 d_Mo_about_92 rfl rfl rfl (CI.to ?_)
  exact h
theorem s_Mo_about_50 {x1 : Int} {x2 : Int} {y0 : Int}  (h : ((y0 = 0 → Sg g M_Mo_about Q 88 [vR 708, vI x1, vI x2] [] D) ∧ (¬ y0 = 0 → ((¬ x1 = 2 → ((¬ x1 = 3 → ((0 ≤ x2 ∧ x2 < 12)) ∧ Q (some (vI (D 713 x2))) zE D) ∧ (x1 = 3 → ((0 ≤ x2 ∧ x2 < 12)) ∧ Q (some (vI (D 712 x2))) zE D))) ∧ (x1 = 2 → ((0 ≤ x2 ∧ x2 < 12)) ∧ Q (some (vI (D 711 x2))) zE D))))) : Sg g M_Mo_about Q 50 [vR 708, vI x1, vI x2] [vI y0] D := by
  unfold Sg
  refine q_if_eq (tgt := 88) d_Mo_about_50 (by decide) (fun c1 => ?_) (fun c1 => ?_)
  · have h := h.1 (c1)
    exact h
  · have h := h.2 (c1)
    refine q_iload_n d_Mo_about_53 rfl ?_
    refine q_iconst d_Mo_about_54 (by decide) ?_
    refine q_icmp_ne (tgt := 67) d_Mo_about_55 (by decide) (fun c2 => ?_) (fun c2 => ?_)
    · have h := h.1 (c2)
      refine q_iload_n d_Mo_about_67 rfl ?_
      refine q_iconst d_Mo_about_68 (by decide) ?_
      refine q_icmp_ne (tgt := 81) d_Mo_about_69 (by decide) (fun c3 => ?_) (fun c3 => ?_)
      · have h := h.1 (c3)
        obtain ⟨o4, h⟩ := h
        refine q_aload_n d_Mo_about_81 rfl ?_
        refine p_getR (k := 6) (b := 713) zc_Mo l_Mo_22 fr_Mo_works d_Mo_about_82 zk_708 rfl ?_
        refine q_iload_n d_Mo_about_85 rfl ?_
        refine p_iald d_Mo_about_86 zk_713 o4 ?_
        exact q_iret d_Mo_about_87 (Or.inl rfl) ⟨Nat.le_refl _, Nat.le_refl _⟩ h
      · have h := h.2 (c3)
        obtain ⟨o5, h⟩ := h
        refine q_aload_n d_Mo_about_72 rfl ?_
        refine p_getR (k := 5) (b := 712) zc_Mo l_Mo_19 fr_Mo_deadlines d_Mo_about_73 zk_708 rfl ?_
        refine q_iload_n d_Mo_about_76 rfl ?_
        refine p_iald d_Mo_about_77 zk_712 o5 ?_
        refine q_goto (tgt := 87) d_Mo_about_78 (by decide) ?_
        exact q_iret d_Mo_about_87 (Or.inl rfl) ⟨Nat.le_refl _, Nat.le_refl _⟩ h
    · have h := h.2 (c2)
      obtain ⟨o6, h⟩ := h
      refine q_aload_n d_Mo_about_58 rfl ?_
      refine p_getR (k := 4) (b := 711) zc_Mo l_Mo_16 fr_Mo_releases d_Mo_about_59 zk_708 rfl ?_
      refine q_iload_n d_Mo_about_62 rfl ?_
      refine p_iald d_Mo_about_63 zk_711 o6 ?_
      refine q_goto (tgt := 87) d_Mo_about_64 (by decide) ?_
      exact q_iret d_Mo_about_87 (Or.inl rfl) ⟨Nat.le_refl _, Nat.le_refl _⟩ h
theorem s_Mo_about_95 {x1 : Int} {x2 : Int} {y0 : Int}  (h : ((y0 = 0 → Q (some (vI (-1))) zE D) ∧ (¬ y0 = 0 → (R32 ((D 708 7) - 1)) ∧ CI g M_Mo_in [vI x2, vI 0, vI ((D 708 7) - 1)] D (fun v3 D' => Sg g M_Mo_about Q 109 [vR 708, vI x1, vI x2] [vI v3] D')))) : Sg g M_Mo_about Q 95 [vR 708, vI x1, vI x2] [vI y0] D := by
  unfold Sg
  refine q_if_eq (tgt := 133) d_Mo_about_95 (by decide) (fun c1 => ?_) (fun c1 => ?_)
  · have h := h.1 (c1)
    refine q_iconst d_Mo_about_133 (by decide) ?_
    exact q_iret d_Mo_about_134 (Or.inl rfl) ⟨Nat.le_refl _, Nat.le_refl _⟩ h
  · have h := h.2 (c1)
    obtain ⟨o2, h⟩ := h
    refine q_iload_n d_Mo_about_98 rfl ?_
    refine q_iconst d_Mo_about_99 (by decide) ?_
    refine q_aload_n d_Mo_about_100 rfl ?_
    refine p_getI (k := 7) zc_Mo l_Mo_163 fi_Mo_levels d_Mo_about_101 zk_708 ?_
    refine q_iconst d_Mo_about_104 (by decide) ?_
    refine q_isub d_Mo_about_105 o2 ?_
    refine p_callS (as := [vI x2, vI 0, vI ((D 708 7) - 1)]) (st := []) mc_Mo_in ms_Mo_in l_Mo_149 d_Mo_about_106 rfl rfl rfl (CI.to ?_)
    exact h
theorem s_Mo_about_109 {x1 : Int} {x2 : Int} {y0 : Int}  (h : ((y0 = 0 → Q (some (vI (-1))) zE D) ∧ (¬ y0 = 0 → ((¬ x1 = 5 → ((0 ≤ x2 ∧ x2 < 8)) ∧ Q (some (vI (D 715 x2))) zE D) ∧ (x1 = 5 → ((0 ≤ x2 ∧ x2 < 8)) ∧ Q (some (vI (D 714 x2))) zE D))))) : Sg g M_Mo_about Q 109 [vR 708, vI x1, vI x2] [vI y0] D := by
  unfold Sg
  refine q_if_eq (tgt := 133) d_Mo_about_109 (by decide) (fun c1 => ?_) (fun c1 => ?_)
  · have h := h.1 (c1)
    refine q_iconst d_Mo_about_133 (by decide) ?_
    exact q_iret d_Mo_about_134 (Or.inl rfl) ⟨Nat.le_refl _, Nat.le_refl _⟩ h
  · have h := h.2 (c1)
    refine q_iload_n d_Mo_about_112 rfl ?_
    refine q_iconst d_Mo_about_113 (by decide) ?_
    refine q_icmp_ne (tgt := 126) d_Mo_about_114 (by decide) (fun c2 => ?_) (fun c2 => ?_)
    · have h := h.1 (c2)
      obtain ⟨o3, h⟩ := h
      refine q_aload_n d_Mo_about_126 rfl ?_
      refine p_getR (k := 9) (b := 715) zc_Mo l_Mo_28 fr_Mo_costs d_Mo_about_127 zk_708 rfl ?_
      refine q_iload_n d_Mo_about_130 rfl ?_
      refine p_iald d_Mo_about_131 zk_715 o3 ?_
      exact q_iret d_Mo_about_132 (Or.inl rfl) ⟨Nat.le_refl _, Nat.le_refl _⟩ h
    · have h := h.2 (c2)
      obtain ⟨o4, h⟩ := h
      refine q_aload_n d_Mo_about_117 rfl ?_
      refine p_getR (k := 8) (b := 714) zc_Mo l_Mo_25 fr_Mo_rates d_Mo_about_118 zk_708 rfl ?_
      refine q_iload_n d_Mo_about_121 rfl ?_
      refine p_iald d_Mo_about_122 zk_714 o4 ?_
      refine q_goto (tgt := 132) d_Mo_about_123 (by decide) ?_
      exact q_iret d_Mo_about_132 (Or.inl rfl) ⟨Nat.le_refl _, Nat.le_refl _⟩ h
theorem s_Mo_firstRelease_0   (h : Sg g M_Mo_firstRelease Q 6 [vR 708, vI 200, vI 0] [] D) : Sg g M_Mo_firstRelease Q 0 [vR 708, vU, vU] [] D := by
  unfold Sg
  refine q_sipush d_Mo_firstRelease_0 ks_200 ?_
  refine q_istore_n d_Mo_firstRelease_3 (by decide) (L' := [vR 708, vI 200, vU]) rfl ?_
  refine q_iconst d_Mo_firstRelease_4 (by decide) ?_
  refine q_istore_n d_Mo_firstRelease_5 (by decide) (L' := [vR 708, vI 200, vI 0]) rfl ?_
  exact h
theorem s_Mo_firstRelease_6 {x1 : Int} {x2 : Int}  (h : (((D 708 3) ≤ x2 → Q (some (vI x1)) zE D) ∧ (¬ (D 708 3) ≤ x2 → ((0 ≤ x2 ∧ x2 < 12)) ∧ ((x1 ≤ (D 711 x2) → Sg g M_Mo_firstRelease Q 34 [vR 708, vI x1, vI x2] [vI x1] D) ∧ (¬ x1 ≤ (D 711 x2) → ((0 ≤ x2 ∧ x2 < 12)) ∧ Sg g M_Mo_firstRelease Q 34 [vR 708, vI x1, vI x2] [vI (D 711 x2)] D))))) : Sg g M_Mo_firstRelease Q 6 [vR 708, vI x1, vI x2] [] D := by
  unfold Sg
  refine q_iload_n d_Mo_firstRelease_6 rfl ?_
  refine q_aload_n d_Mo_firstRelease_7 rfl ?_
  refine p_getI (k := 3) zc_Mo l_Mo_153 fi_Mo_jobs d_Mo_firstRelease_8 zk_708 ?_
  refine q_icmp_ge (tgt := 41) d_Mo_firstRelease_11 (by decide) (fun c1 => ?_) (fun c1 => ?_)
  · have h := h.1 (c1)
    refine q_iload_n d_Mo_firstRelease_41 rfl ?_
    exact q_iret d_Mo_firstRelease_42 (Or.inl rfl) ⟨Nat.le_refl _, Nat.le_refl _⟩ h
  · have h := h.2 (c1)
    obtain ⟨o2, h⟩ := h
    refine q_aload_n d_Mo_firstRelease_14 rfl ?_
    refine p_getR (k := 4) (b := 711) zc_Mo l_Mo_16 fr_Mo_releases d_Mo_firstRelease_15 zk_708 rfl ?_
    refine q_iload_n d_Mo_firstRelease_18 rfl ?_
    refine p_iald d_Mo_firstRelease_19 zk_711 o2 ?_
    refine q_iload_n d_Mo_firstRelease_20 rfl ?_
    refine q_icmp_ge (tgt := 33) d_Mo_firstRelease_21 (by decide) (fun c3 => ?_) (fun c3 => ?_)
    · have h := h.1 (c3)
      refine q_iload_n d_Mo_firstRelease_33 rfl ?_
      exact h
    · have h := h.2 (c3)
      obtain ⟨o4, h⟩ := h
      refine q_aload_n d_Mo_firstRelease_24 rfl ?_
      refine p_getR (k := 4) (b := 711) zc_Mo l_Mo_16 fr_Mo_releases d_Mo_firstRelease_25 zk_708 rfl ?_
      refine q_iload_n d_Mo_firstRelease_28 rfl ?_
      refine p_iald d_Mo_firstRelease_29 zk_711 o4 ?_
      refine q_goto (tgt := 34) d_Mo_firstRelease_30 (by decide) ?_
      exact h
theorem s_Mo_firstRelease_34 {z1 : VV} {x2 : Int} {y0 : Int}  (h : (R32 (x2 + 1)) ∧ Sg g M_Mo_firstRelease Q 6 [vR 708, vI y0, vI (x2 + 1)] [] D) : Sg g M_Mo_firstRelease Q 34 [vR 708, z1, vI x2] [vI y0] D := by
  unfold Sg
  refine q_mask [false, true, false] (L' := [vR 708, vU, vI x2]) rfl ?_
  obtain ⟨o1, h⟩ := h
  refine q_istore_n d_Mo_firstRelease_34 (by decide) (L' := [vR 708, vI y0, vI x2]) rfl ?_
  refine q_iinc d_Mo_firstRelease_35 rfl (by decide) o1 (L' := [vR 708, vI y0, vI (x2 + 1)]) rfl ?_
  refine q_goto (tgt := 6) d_Mo_firstRelease_38 (by decide) ?_
  exact h
theorem s_Mo_lastDeadline_0   (h : Sg g M_Mo_lastDeadline Q 4 [vR 708, vI 0, vI 0] [] D) : Sg g M_Mo_lastDeadline Q 0 [vR 708, vU, vU] [] D := by
  unfold Sg
  refine q_iconst d_Mo_lastDeadline_0 (by decide) ?_
  refine q_istore_n d_Mo_lastDeadline_1 (by decide) (L' := [vR 708, vI 0, vU]) rfl ?_
  refine q_iconst d_Mo_lastDeadline_2 (by decide) ?_
  refine q_istore_n d_Mo_lastDeadline_3 (by decide) (L' := [vR 708, vI 0, vI 0]) rfl ?_
  exact h
theorem s_Mo_lastDeadline_4 {x1 : Int} {x2 : Int}  (h : (((D 708 3) ≤ x2 → Q (some (vI x1)) zE D) ∧ (¬ (D 708 3) ≤ x2 → ((0 ≤ x2 ∧ x2 < 12)) ∧ (((D 712 x2) ≤ x1 → Sg g M_Mo_lastDeadline Q 32 [vR 708, vI x1, vI x2] [vI x1] D) ∧ (¬ (D 712 x2) ≤ x1 → ((0 ≤ x2 ∧ x2 < 12)) ∧ Sg g M_Mo_lastDeadline Q 32 [vR 708, vI x1, vI x2] [vI (D 712 x2)] D))))) : Sg g M_Mo_lastDeadline Q 4 [vR 708, vI x1, vI x2] [] D := by
  unfold Sg
  refine q_iload_n d_Mo_lastDeadline_4 rfl ?_
  refine q_aload_n d_Mo_lastDeadline_5 rfl ?_
  refine p_getI (k := 3) zc_Mo l_Mo_153 fi_Mo_jobs d_Mo_lastDeadline_6 zk_708 ?_
  refine q_icmp_ge (tgt := 39) d_Mo_lastDeadline_9 (by decide) (fun c1 => ?_) (fun c1 => ?_)
  · have h := h.1 (c1)
    refine q_iload_n d_Mo_lastDeadline_39 rfl ?_
    exact q_iret d_Mo_lastDeadline_40 (Or.inl rfl) ⟨Nat.le_refl _, Nat.le_refl _⟩ h
  · have h := h.2 (c1)
    obtain ⟨o2, h⟩ := h
    refine q_aload_n d_Mo_lastDeadline_12 rfl ?_
    refine p_getR (k := 5) (b := 712) zc_Mo l_Mo_19 fr_Mo_deadlines d_Mo_lastDeadline_13 zk_708 rfl ?_
    refine q_iload_n d_Mo_lastDeadline_16 rfl ?_
    refine p_iald d_Mo_lastDeadline_17 zk_712 o2 ?_
    refine q_iload_n d_Mo_lastDeadline_18 rfl ?_
    refine q_icmp_le (tgt := 31) d_Mo_lastDeadline_19 (by decide) (fun c3 => ?_) (fun c3 => ?_)
    · have h := h.1 (c3)
      refine q_iload_n d_Mo_lastDeadline_31 rfl ?_
      exact h
    · have h := h.2 (c3)
      obtain ⟨o4, h⟩ := h
      refine q_aload_n d_Mo_lastDeadline_22 rfl ?_
      refine p_getR (k := 5) (b := 712) zc_Mo l_Mo_19 fr_Mo_deadlines d_Mo_lastDeadline_23 zk_708 rfl ?_
      refine q_iload_n d_Mo_lastDeadline_26 rfl ?_
      refine p_iald d_Mo_lastDeadline_27 zk_712 o4 ?_
      refine q_goto (tgt := 32) d_Mo_lastDeadline_28 (by decide) ?_
      exact h
theorem s_Mo_lastDeadline_32 {z1 : VV} {x2 : Int} {y0 : Int}  (h : (R32 (x2 + 1)) ∧ Sg g M_Mo_lastDeadline Q 4 [vR 708, vI y0, vI (x2 + 1)] [] D) : Sg g M_Mo_lastDeadline Q 32 [vR 708, z1, vI x2] [vI y0] D := by
  unfold Sg
  refine q_mask [false, true, false] (L' := [vR 708, vU, vI x2]) rfl ?_
  obtain ⟨o1, h⟩ := h
  refine q_istore_n d_Mo_lastDeadline_32 (by decide) (L' := [vR 708, vI y0, vI x2]) rfl ?_
  refine q_iinc d_Mo_lastDeadline_33 rfl (by decide) o1 (L' := [vR 708, vI y0, vI (x2 + 1)]) rfl ?_
  refine q_goto (tgt := 4) d_Mo_lastDeadline_36 (by decide) ?_
  exact h
theorem s_Mo_open_0 {x1 : Int} {x2 : Int}  (h : Sg g M_Mo_open Q 5 [vR 708, vI x1, vI x2, vI 0, vI x1] [] D) : Sg g M_Mo_open Q 0 [vR 708, vI x1, vI x2, vU, vU] [] D := by
  unfold Sg
  refine q_iconst d_Mo_open_0 (by decide) ?_
  refine q_istore_n d_Mo_open_1 (by decide) (L' := [vR 708, vI x1, vI x2, vI 0, vU]) rfl ?_
  refine q_iload_n d_Mo_open_2 rfl ?_
  refine q_istore d_Mo_open_3 (by decide) (L' := [vR 708, vI x1, vI x2, vI 0, vI x1]) rfl ?_
  exact h
theorem s_Mo_open_5 {z1 : VV} {x2 : Int} {x3 : Int} {x4 : Int}  (h : ((x2 ≤ x4 → Q (some (vI x3)) zE D) ∧ (¬ x2 ≤ x4 → ((0 ≤ x4 ∧ x4 < 200)) ∧ (((D 716 x4) = 0 → Sg g M_Mo_open Q 27 [vR 708, vU, vI x2, vI x3, vI x4] [vI 1, vI x3] D) ∧ (¬ (D 716 x4) = 0 → Sg g M_Mo_open Q 27 [vR 708, vU, vI x2, vI x3, vI x4] [vI 0, vI x3] D))))) : Sg g M_Mo_open Q 5 [vR 708, z1, vI x2, vI x3, vI x4] [] D := by
  unfold Sg
  refine q_mask [false, true, false, false, false] (L' := [vR 708, vU, vI x2, vI x3, vI x4]) rfl ?_
  refine q_iload d_Mo_open_5 rfl ?_
  refine q_iload_n d_Mo_open_7 rfl ?_
  refine q_icmp_ge (tgt := 35) d_Mo_open_8 (by decide) (fun c1 => ?_) (fun c1 => ?_)
  · have h := h.1 (c1)
    refine q_iload_n d_Mo_open_35 rfl ?_
    exact q_iret d_Mo_open_36 (Or.inl rfl) ⟨Nat.le_refl _, Nat.le_refl _⟩ h
  · have h := h.2 (c1)
    obtain ⟨o2, h⟩ := h
    refine q_iload_n d_Mo_open_11 rfl ?_
    refine q_aload_n d_Mo_open_12 rfl ?_
    refine p_getR (k := 13) (b := 716) zc_Mo l_Mo_31 fr_Mo_fixed d_Mo_open_13 zk_708 rfl ?_
    refine q_iload d_Mo_open_16 rfl ?_
    refine p_zald d_Mo_open_18 zk_716 o2 ?_
    refine q_if_eq (tgt := 26) d_Mo_open_19 (by decide) (fun c3 => ?_) (fun c3 => ?_)
    · have h := h.1 (c3)
      refine q_iconst d_Mo_open_26 (by decide) ?_
      exact h
    · have h := h.2 (c3)
      refine q_iconst d_Mo_open_22 (by decide) ?_
      refine q_goto (tgt := 27) d_Mo_open_23 (by decide) ?_
      exact h
theorem s_Mo_open_27 {z1 : VV} {x2 : Int} {z3 : VV} {x4 : Int} {y0 : Int} {y1 : Int}  (h : (R32 (y1 + y0) ∧ R32 (x4 + 1)) ∧ Sg g M_Mo_open Q 5 [vR 708, vU, vI x2, vI (y1 + y0), vI (x4 + 1)] [] D) : Sg g M_Mo_open Q 27 [vR 708, z1, vI x2, z3, vI x4] [vI y0, vI y1] D := by
  unfold Sg
  refine q_mask [false, true, false, true, false] (L' := [vR 708, vU, vI x2, vU, vI x4]) rfl ?_
  obtain ⟨⟨o1, o2⟩, h⟩ := h
  refine q_iadd d_Mo_open_27 o1 ?_
  refine q_istore_n d_Mo_open_28 (by decide) (L' := [vR 708, vU, vI x2, vI (y1 + y0), vI x4]) rfl ?_
  refine q_iinc d_Mo_open_29 rfl (by decide) o2 (L' := [vR 708, vU, vI x2, vI (y1 + y0), vI (x4 + 1)]) rfl ?_
  refine q_goto (tgt := 5) d_Mo_open_32 (by decide) ?_
  exact h
theorem s_Mo_isWithin_0 {x1 : Int} {x2 : Int} {x3 : Int}  (h : ((0 ≤ x1 ∧ x1 < 12)) ∧ (((D 711 x1) ≤ x2 → Sg g M_Mo_isWithin Q 20 [vR 708, vI x1, vI x2, vI x3, vU, vU, vU] [vI x2] D) ∧ (¬ (D 711 x1) ≤ x2 → ((0 ≤ x1 ∧ x1 < 12)) ∧ Sg g M_Mo_isWithin Q 20 [vR 708, vI x1, vI x2, vI x3, vU, vU, vU] [vI (D 711 x1)] D))) : Sg g M_Mo_isWithin Q 0 [vR 708, vI x1, vI x2, vI x3, vU, vU, vU] [] D := by
  unfold Sg
  obtain ⟨o1, h⟩ := h
  refine q_aload_n d_Mo_isWithin_0 rfl ?_
  refine p_getR (k := 4) (b := 711) zc_Mo l_Mo_16 fr_Mo_releases d_Mo_isWithin_1 zk_708 rfl ?_
  refine q_iload_n d_Mo_isWithin_4 rfl ?_
  refine p_iald d_Mo_isWithin_5 zk_711 o1 ?_
  refine q_iload_n d_Mo_isWithin_6 rfl ?_
  refine q_icmp_le (tgt := 19) d_Mo_isWithin_7 (by decide) (fun c2 => ?_) (fun c2 => ?_)
  · have h := h.1 (c2)
    refine q_iload_n d_Mo_isWithin_19 rfl ?_
    exact h
  · have h := h.2 (c2)
    obtain ⟨o3, h⟩ := h
    refine q_aload_n d_Mo_isWithin_10 rfl ?_
    refine p_getR (k := 4) (b := 711) zc_Mo l_Mo_16 fr_Mo_releases d_Mo_isWithin_11 zk_708 rfl ?_
    refine q_iload_n d_Mo_isWithin_14 rfl ?_
    refine p_iald d_Mo_isWithin_15 zk_711 o3 ?_
    refine q_goto (tgt := 20) d_Mo_isWithin_16 (by decide) ?_
    exact h
theorem s_Mo_isWithin_20 {x1 : Int} {z2 : VV} {x3 : Int} {z4 : VV} {z5 : VV} {z6 : VV} {y0 : Int}  (h : ((0 ≤ x1 ∧ x1 < 12)) ∧ ((x3 ≤ (D 712 x1) → Sg g M_Mo_isWithin Q 42 [vR 708, vI x1, vU, vI x3, vI y0, vU, vU] [vI x3] D) ∧ (¬ x3 ≤ (D 712 x1) → ((0 ≤ x1 ∧ x1 < 12)) ∧ Sg g M_Mo_isWithin Q 42 [vR 708, vI x1, vU, vI x3, vI y0, vU, vU] [vI (D 712 x1)] D))) : Sg g M_Mo_isWithin Q 20 [vR 708, vI x1, z2, vI x3, z4, z5, z6] [vI y0] D := by
  unfold Sg
  refine q_mask [false, false, true, false, true, true, true] (L' := [vR 708, vI x1, vU, vI x3, vU, vU, vU]) rfl ?_
  obtain ⟨o1, h⟩ := h
  refine q_istore d_Mo_isWithin_20 (by decide) (L' := [vR 708, vI x1, vU, vI x3, vI y0, vU, vU]) rfl ?_
  refine q_aload_n d_Mo_isWithin_22 rfl ?_
  refine p_getR (k := 5) (b := 712) zc_Mo l_Mo_19 fr_Mo_deadlines d_Mo_isWithin_23 zk_708 rfl ?_
  refine q_iload_n d_Mo_isWithin_26 rfl ?_
  refine p_iald d_Mo_isWithin_27 zk_712 o1 ?_
  refine q_iload_n d_Mo_isWithin_28 rfl ?_
  refine q_icmp_ge (tgt := 41) d_Mo_isWithin_29 (by decide) (fun c2 => ?_) (fun c2 => ?_)
  · have h := h.1 (c2)
    refine q_iload_n d_Mo_isWithin_41 rfl ?_
    exact h
  · have h := h.2 (c2)
    obtain ⟨o3, h⟩ := h
    refine q_aload_n d_Mo_isWithin_32 rfl ?_
    refine p_getR (k := 5) (b := 712) zc_Mo l_Mo_19 fr_Mo_deadlines d_Mo_isWithin_33 zk_708 rfl ?_
    refine q_iload_n d_Mo_isWithin_36 rfl ?_
    refine p_iald d_Mo_isWithin_37 zk_712 o3 ?_
    refine q_goto (tgt := 42) d_Mo_isWithin_38 (by decide) ?_
    exact h
theorem s_Mo_isWithin_42 {x1 : Int} {z2 : VV} {z3 : VV} {x4 : Int} {z5 : VV} {z6 : VV} {y0 : Int}  (h : ((y0 ≤ x4 → Sg g M_Mo_isWithin Q 63 [vR 708, vI x1, vU, vU, vI x4, vI y0, vU] [vI 0] D) ∧ (¬ y0 ≤ x4 → CI g M_Mo_open [vR 708, vI x4, vI y0] D (fun v2 D' => Sg g M_Mo_isWithin Q 59 [vR 708, vI x1, vU, vU, vI x4, vI y0, vU] [vI v2] D')))) : Sg g M_Mo_isWithin Q 42 [vR 708, vI x1, z2, z3, vI x4, z5, z6] [vI y0] D := by
  unfold Sg
  refine q_mask [false, false, true, true, false, true, true] (L' := [vR 708, vI x1, vU, vU, vI x4, vU, vU]) rfl ?_
  refine q_istore d_Mo_isWithin_42 (by decide) (L' := [vR 708, vI x1, vU, vU, vI x4, vI y0, vU]) rfl ?_
  refine q_iload d_Mo_isWithin_44 rfl ?_
  refine q_iload d_Mo_isWithin_46 rfl ?_
  refine q_icmp_ge (tgt := 62) d_Mo_isWithin_48 (by decide) (fun c1 => ?_) (fun c1 => ?_)
  · have h := h.1 (c1)
    refine q_iconst d_Mo_isWithin_62 (by decide) ?_
    exact h
  · have h := h.2 (c1)
    refine q_aload_n d_Mo_isWithin_51 rfl ?_
    refine q_iload d_Mo_isWithin_52 rfl ?_
    refine q_iload d_Mo_isWithin_54 rfl ?_
    refine p_callV (as := [vI x4, vI y0]) (st := []) (a := 708) mc_Mo_open mv_Mo_open l_Mo_166 zc_Mo rfl d_Mo_isWithin_56 rfl rfl rfl zk_708 (CI.to ?_)
    exact h
theorem s_Mo_isWithin_63 {x1 : Int} {z2 : VV} {z3 : VV} {z4 : VV} {z5 : VV} {z6 : VV} {y0 : Int}  (h : ((0 ≤ x1 ∧ x1 < 12)) ∧ ((¬ (D 719 x1) = 0 → Q (some (vI 0)) zE D) ∧ ((D 719 x1) = 0 → ((0 ≤ x1 ∧ x1 < 12) ∧ (0 ≤ x1 ∧ x1 < 12)) ∧ CI g M_Mo_open [vR 708, vI (D 711 x1), vI (D 712 x1)] D (fun v5 D' => Sg g M_Mo_isWithin Q 92 [vR 708, vI x1, vU, vU, vU, vU, vI y0] [vI v5, vI y0] D')))) : Sg g M_Mo_isWithin Q 63 [vR 708, vI x1, z2, z3, z4, z5, z6] [vI y0] D := by
  unfold Sg
  refine q_mask [false, false, true, true, true, true, true] (L' := [vR 708, vI x1, vU, vU, vU, vU, vU]) rfl ?_
  obtain ⟨o1, h⟩ := h
  refine q_istore d_Mo_isWithin_63 (by decide) (L' := [vR 708, vI x1, vU, vU, vU, vU, vI y0]) rfl ?_
  refine q_aload_n d_Mo_isWithin_65 rfl ?_
  refine p_getR (k := 16) (b := 719) zc_Mo l_Mo_42 fr_Mo_done d_Mo_isWithin_66 zk_708 rfl ?_
  refine q_iload_n d_Mo_isWithin_69 rfl ?_
  refine p_zald d_Mo_isWithin_70 zk_719 o1 ?_
  refine q_if_ne (tgt := 99) d_Mo_isWithin_71 (by decide) (fun c2 => ?_) (fun c2 => ?_)
  · have h := h.1 (c2)
    refine q_iconst d_Mo_isWithin_99 (by decide) ?_
    exact q_iret d_Mo_isWithin_100 (Or.inr ⟨rfl, by decide⟩) ⟨Nat.le_refl _, Nat.le_refl _⟩ h
  · have h := h.2 (c2)
    obtain ⟨⟨o3, o4⟩, h⟩ := h
    refine q_iload d_Mo_isWithin_74 rfl ?_
    refine q_aload_n d_Mo_isWithin_76 rfl ?_
    refine q_aload_n d_Mo_isWithin_77 rfl ?_
    refine p_getR (k := 4) (b := 711) zc_Mo l_Mo_16 fr_Mo_releases d_Mo_isWithin_78 zk_708 rfl ?_
    refine q_iload_n d_Mo_isWithin_81 rfl ?_
    refine p_iald d_Mo_isWithin_82 zk_711 o3 ?_
    refine q_aload_n d_Mo_isWithin_83 rfl ?_
    refine p_getR (k := 5) (b := 712) zc_Mo l_Mo_19 fr_Mo_deadlines d_Mo_isWithin_84 zk_708 rfl ?_
    refine q_iload_n d_Mo_isWithin_87 rfl ?_
    refine p_iald d_Mo_isWithin_88 zk_712 o4 ?_
    refine p_callV (as := [vI (D 711 x1), vI (D 712 x1)]) (st := [vI y0]) (a := 708) mc_Mo_open mv_Mo_open l_Mo_166 zc_Mo rfl d_Mo_isWithin_89 rfl rfl rfl zk_708 (CI.to ?_)
    exact h
theorem s_Mo_isWithin_59 {x1 : Int} {z2 : VV} {z3 : VV} {z4 : VV} {z5 : VV} {z6 : VV} {y0 : Int}  (h : Sg g M_Mo_isWithin Q 63 [vR 708, vI x1, vU, vU, vU, vU, vU] [vI y0] D) : Sg g M_Mo_isWithin Q 59 [vR 708, vI x1, z2, z3, z4, z5, z6] [vI y0] D := by
  unfold Sg
  refine q_mask [false, false, true, true, true, true, true] (L' := [vR 708, vI x1, vU, vU, vU, vU, vU]) rfl ?_
  refine q_goto (tgt := 63) d_Mo_isWithin_59 (by decide) ?_
  exact h
theorem s_Mo_isWithin_92 {z0 : VV} {z1 : VV} {z2 : VV} {z3 : VV} {z4 : VV} {z5 : VV} {z6 : VV} {y0 : Int} {y1 : Int}  (h : ((¬ y1 = y0 → Q (some (vI 0)) zE D) ∧ (y1 = y0 → Q (some (vI 1)) zE D))) : Sg g M_Mo_isWithin Q 92 [z0, z1, z2, z3, z4, z5, z6] [vI y0, vI y1] D := by
  unfold Sg
  refine q_mask [true, true, true, true, true, true, true] (L' := [vU, vU, vU, vU, vU, vU, vU]) rfl ?_
  refine q_icmp_ne (tgt := 99) d_Mo_isWithin_92 (by decide) (fun c1 => ?_) (fun c1 => ?_)
  · have h := h.1 (c1)
    refine q_iconst d_Mo_isWithin_99 (by decide) ?_
    exact q_iret d_Mo_isWithin_100 (Or.inr ⟨rfl, by decide⟩) ⟨Nat.le_refl _, Nat.le_refl _⟩ h
  · have h := h.2 (c1)
    refine q_iconst d_Mo_isWithin_95 (by decide) ?_
    refine q_goto (tgt := 100) d_Mo_isWithin_96 (by decide) ?_
    exact q_iret d_Mo_isWithin_100 (Or.inr ⟨rfl, by decide⟩) ⟨Nat.le_refl _, Nat.le_refl _⟩ h
theorem s_Mo_commonOf_0 {x0 : Int} {x2 : Int}  (h : Sg g M_Mo_commonOf Q 6 [vL x0, vU, vL x2, vU, vL x0, vU, vL x2, vU, vU, vU] [] D) : Sg g M_Mo_commonOf Q 0 [vL x0, vU, vL x2, vU, vU, vU, vU, vU, vU, vU] [] D := by
  unfold Sg
  refine q_lload_n d_Mo_commonOf_0 rfl ?_
  refine q_lstore d_Mo_commonOf_1 (by decide) (L' := [vL x0, vU, vL x2, vU, vL x0, vU, vU, vU, vU, vU]) rfl ?_
  refine q_lload_n d_Mo_commonOf_3 rfl ?_
  refine q_lstore d_Mo_commonOf_4 (by decide) (L' := [vL x0, vU, vL x2, vU, vL x0, vU, vL x2, vU, vU, vU]) rfl ?_
  exact h
theorem s_Mo_commonOf_6 {z0 : VV} {z1 : VV} {z2 : VV} {z3 : VV} {x4 : Int} {x6 : Int} {z8 : VV} {z9 : VV}  (h : ((x6 = 0 → Q (some (vL x4)) zE D) ∧ (¬ x6 = 0 → ((0 ≤ x4 ∧ 0 < x6)) ∧ Sg g M_Mo_commonOf Q 6 [vU, vU, vU, vU, vL x6, vU, vL (x4 % x6), vU, vL (x4 % x6), vU] [] D))) : Sg g M_Mo_commonOf Q 6 [z0, z1, z2, z3, vL x4, vU, vL x6, vU, z8, z9] [] D := by
  unfold Sg
  refine q_mask [true, true, true, true, false, false, false, false, true, true] (L' := [vU, vU, vU, vU, vL x4, vU, vL x6, vU, vU, vU]) rfl ?_
  refine q_lload d_Mo_commonOf_6 rfl ?_
  refine q_lconst (x := 0) d_Mo_commonOf_8 ⟨rfl, by decide⟩ ?_
  refine q_lcmp d_Mo_commonOf_9 ?_
  refine q_if_eq (tgt := 31) d_Mo_commonOf_10 (by decide) (fun c1 => ?_) (fun c1 => ?_)
  · have h := h.1 (zcmp_eq.mp c1)
    refine q_lload d_Mo_commonOf_31 rfl ?_
    exact q_lret d_Mo_commonOf_33 rfl ⟨Nat.le_refl _, Nat.le_refl _⟩ h
  · have h := h.2 (zcmp_ne.mp c1)
    obtain ⟨o2, h⟩ := h
    refine q_lload d_Mo_commonOf_13 rfl ?_
    refine q_lload d_Mo_commonOf_15 rfl ?_
    refine q_lrem d_Mo_commonOf_17 o2 ?_
    refine q_lstore d_Mo_commonOf_18 (by decide) (L' := [vU, vU, vU, vU, vL x4, vU, vL x6, vU, vL (x4 % x6), vU]) rfl ?_
    refine q_lload d_Mo_commonOf_20 rfl ?_
    refine q_lstore d_Mo_commonOf_22 (by decide) (L' := [vU, vU, vU, vU, vL x6, vU, vL x6, vU, vL (x4 % x6), vU]) rfl ?_
    refine q_lload d_Mo_commonOf_24 rfl ?_
    refine q_lstore d_Mo_commonOf_26 (by decide) (L' := [vU, vU, vU, vU, vL x6, vU, vL (x4 % x6), vU, vL (x4 % x6), vU]) rfl ?_
    refine q_goto (tgt := 6) d_Mo_commonOf_28 (by decide) ?_
    exact h
theorem s_Mo_fixBest_0   (h : Sg g M_Mo_fixBest Q 13 [vR 708, vL 0, vU, vL 1, vU, vI (-1), vI (-1), vI 0, vU, vU, vU, vU, vU, vU, vU] [] D) : Sg g M_Mo_fixBest Q 0 [vR 708, vU, vU, vU, vU, vU, vU, vU, vU, vU, vU, vU, vU, vU, vU] [] D := by
  unfold Sg
  refine q_lconst (x := 0) d_Mo_fixBest_0 ⟨rfl, by decide⟩ ?_
  refine q_lstore_n d_Mo_fixBest_1 (by decide) (L' := [vR 708, vL 0, vU, vU, vU, vU, vU, vU, vU, vU, vU, vU, vU, vU, vU]) rfl ?_
  refine q_lconst (x := 1) d_Mo_fixBest_2 ⟨rfl, by decide⟩ ?_
  refine q_lstore_n d_Mo_fixBest_3 (by decide) (L' := [vR 708, vL 0, vU, vL 1, vU, vU, vU, vU, vU, vU, vU, vU, vU, vU, vU]) rfl ?_
  refine q_iconst d_Mo_fixBest_4 (by decide) ?_
  refine q_istore d_Mo_fixBest_5 (by decide) (L' := [vR 708, vL 0, vU, vL 1, vU, vI (-1), vU, vU, vU, vU, vU, vU, vU, vU, vU]) rfl ?_
  refine q_iconst d_Mo_fixBest_7 (by decide) ?_
  refine q_istore d_Mo_fixBest_8 (by decide) (L' := [vR 708, vL 0, vU, vL 1, vU, vI (-1), vI (-1), vU, vU, vU, vU, vU, vU, vU, vU]) rfl ?_
  refine q_iconst d_Mo_fixBest_10 (by decide) ?_
  refine q_istore d_Mo_fixBest_11 (by decide) (L' := [vR 708, vL 0, vU, vL 1, vU, vI (-1), vI (-1), vI 0, vU, vU, vU, vU, vU, vU, vU]) rfl ?_
  exact h
theorem s_Mo_fixBest_13 {x1 : Int} {x3 : Int} {x5 : Int} {x6 : Int} {x7 : Int} {z8 : VV} {z9 : VV} {z10 : VV} {z11 : VV} {z12 : VV} {z13 : VV} {z14 : VV}  (h : (((D 708 3) ≤ x7 → ((0 ≤ x5 → CL g M_Mo_commonOf [vL x1, vL x3] D (fun v3 D' => Sg g M_Mo_fixBest Q 201 [vR 708, vL x1, vU, vL x3, vU, vI x5, vI x6, vI x7, vU, vU, vU, vU, vU, vU, vU] [vL v3] D')) ∧ (¬ 0 ≤ x5 → Q (some (vI 0)) zE D))) ∧ (¬ (D 708 3) ≤ x7 → Sg g M_Mo_fixBest Q 25 [vR 708, vL x1, vU, vL x3, vU, vI x5, vI x6, vI x7, vI 0, vU, vU, vU, vU, vU, vU] [] D))) : Sg g M_Mo_fixBest Q 13 [vR 708, vL x1, vU, vL x3, vU, vI x5, vI x6, vI x7, z8, z9, z10, z11, z12, z13, z14] [] D := by
  unfold Sg
  refine q_mask [false, false, false, false, false, false, false, false, true, true, true, true, true, true, true] (L' := [vR 708, vL x1, vU, vL x3, vU, vI x5, vI x6, vI x7, vU, vU, vU, vU, vU, vU, vU]) rfl ?_
  refine q_iload d_Mo_fixBest_13 rfl ?_
  refine q_aload_n d_Mo_fixBest_15 rfl ?_
  refine p_getI (k := 3) zc_Mo l_Mo_153 fi_Mo_jobs d_Mo_fixBest_16 zk_708 ?_
  refine q_icmp_ge (tgt := 189) d_Mo_fixBest_19 (by decide) (fun c1 => ?_) (fun c1 => ?_)
  · have h := h.1 (c1)
    refine q_iload d_Mo_fixBest_189 rfl ?_
    refine q_if_ge (tgt := 196) d_Mo_fixBest_191 (by decide) (fun c2 => ?_) (fun c2 => ?_)
    · have h := h.1 (c2)
      refine q_lload_n d_Mo_fixBest_196 rfl ?_
      refine q_lload_n d_Mo_fixBest_197 rfl ?_
      refine p_callS (as := [vL x1, vL x3]) (st := []) mc_Mo_commonOf ms_Mo_commonOf l_Mo_172 d_Mo_fixBest_198 rfl rfl rfl (CL.to ?_)
      exact h
    · have h := h.2 (c2)
      refine q_iconst d_Mo_fixBest_194 (by decide) ?_
      exact q_iret d_Mo_fixBest_195 (Or.inr ⟨rfl, by decide⟩) ⟨Nat.le_refl _, Nat.le_refl _⟩ h
  · have h := h.2 (c1)
    refine q_iconst d_Mo_fixBest_22 (by decide) ?_
    refine q_istore d_Mo_fixBest_23 (by decide) (L' := [vR 708, vL x1, vU, vL x3, vU, vI x5, vI x6, vI x7, vI 0, vU, vU, vU, vU, vU, vU]) rfl ?_
    exact h
theorem s_Mo_fixBest_201 {x1 : Int} {x3 : Int} {x5 : Int} {x6 : Int} {z7 : VV} {z8 : VV} {z9 : VV} {z10 : VV} {z11 : VV} {z12 : VV} {z13 : VV} {z14 : VV} {y0 : Int}  (h : Sg g M_Mo_fixBest Q 206 [vR 708, vL x1, vU, vL x3, vU, vI x5, vI x6, vL y0, vU, vI 0, vU, vU, vU, vU, vU] [] D) : Sg g M_Mo_fixBest Q 201 [vR 708, vL x1, vU, vL x3, vU, vI x5, vI x6, z7, z8, z9, z10, z11, z12, z13, z14] [vL y0] D := by
  unfold Sg
  refine q_mask [false, false, false, false, false, false, false, true, true, true, true, true, true, true, true] (L' := [vR 708, vL x1, vU, vL x3, vU, vI x5, vI x6, vU, vU, vU, vU, vU, vU, vU, vU]) rfl ?_
  refine q_lstore d_Mo_fixBest_201 (by decide) (L' := [vR 708, vL x1, vU, vL x3, vU, vI x5, vI x6, vL y0, vU, vU, vU, vU, vU, vU, vU]) rfl ?_
  refine q_iconst d_Mo_fixBest_203 (by decide) ?_
  refine q_istore d_Mo_fixBest_204 (by decide) (L' := [vR 708, vL x1, vU, vL x3, vU, vI x5, vI x6, vL y0, vU, vI 0, vU, vU, vU, vU, vU]) rfl ?_
  exact h
theorem s_Mo_fixBest_25 {x1 : Int} {x3 : Int} {x5 : Int} {x6 : Int} {x7 : Int} {x8 : Int} {z9 : VV} {z10 : VV} {z11 : VV} {z12 : VV} {z13 : VV} {z14 : VV}  (h : (((D 708 3) ≤ x8 → (R32 (x7 + 1)) ∧ Sg g M_Mo_fixBest Q 13 [vR 708, vL x1, vU, vL x3, vU, vI x5, vI x6, vI (x7 + 1), vI x8, vU, vU, vU, vU, vU, vU] [] D) ∧ (¬ (D 708 3) ≤ x8 → ((0 ≤ x7 ∧ x7 < 12) ∧ (0 ≤ x8 ∧ x8 < 12)) ∧ (((D 712 x8) ≤ (D 711 x7) → Sg g M_Mo_fixBest Q 90 [vR 708, vL x1, vU, vL x3, vU, vI x5, vI x6, vI x7, vI x8, vI (D 711 x7), vI (D 712 x8), vU, vU, vU, vU] [] D) ∧ (¬ (D 712 x8) ≤ (D 711 x7) → ((0 ≤ x7 ∧ x7 < 12)) ∧ ((¬ (D 719 x7) = 0 → Sg g M_Mo_fixBest Q 90 [vR 708, vL x1, vU, vL x3, vU, vI x5, vI x6, vI x7, vI x8, vI (D 711 x7), vI (D 712 x8), vU, vU, vU, vU] [] D) ∧ ((D 719 x7) = 0 → ((0 ≤ x8 ∧ x8 < 12)) ∧ ((¬ (D 719 x8) = 0 → Sg g M_Mo_fixBest Q 90 [vR 708, vL x1, vU, vL x3, vU, vI x5, vI x6, vI x7, vI x8, vI (D 711 x7), vI (D 712 x8), vU, vU, vU, vU] [] D) ∧ ((D 719 x8) = 0 → CI g M_Mo_open [vR 708, vI (D 711 x7), vI (D 712 x8)] D (fun v10 D' => Sg g M_Mo_fixBest Q 87 [vR 708, vL x1, vU, vL x3, vU, vI x5, vI x6, vI x7, vI x8, vI (D 711 x7), vI (D 712 x8), vU, vU, vU, vU] [vI v10] D')))))))))) : Sg g M_Mo_fixBest Q 25 [vR 708, vL x1, vU, vL x3, vU, vI x5, vI x6, vI x7, vI x8, z9, z10, z11, z12, z13, z14] [] D := by
  unfold Sg
  refine q_mask [false, false, false, false, false, false, false, false, false, true, true, true, true, true, true] (L' := [vR 708, vL x1, vU, vL x3, vU, vI x5, vI x6, vI x7, vI x8, vU, vU, vU, vU, vU, vU]) rfl ?_
  refine q_iload d_Mo_fixBest_25 rfl ?_
  refine q_aload_n d_Mo_fixBest_27 rfl ?_
  refine p_getI (k := 3) zc_Mo l_Mo_153 fi_Mo_jobs d_Mo_fixBest_28 zk_708 ?_
  refine q_icmp_ge (tgt := 183) d_Mo_fixBest_31 (by decide) (fun c1 => ?_) (fun c1 => ?_)
  · have h := h.1 (c1)
    obtain ⟨o2, h⟩ := h
    refine q_iinc d_Mo_fixBest_183 rfl (by decide) o2 (L' := [vR 708, vL x1, vU, vL x3, vU, vI x5, vI x6, vI (x7 + 1), vI x8, vU, vU, vU, vU, vU, vU]) rfl ?_
    refine q_goto (tgt := 13) d_Mo_fixBest_186 (by decide) ?_
    exact h
  · have h := h.2 (c1)
    obtain ⟨⟨o3, o4⟩, h⟩ := h
    refine q_aload_n d_Mo_fixBest_34 rfl ?_
    refine p_getR (k := 4) (b := 711) zc_Mo l_Mo_16 fr_Mo_releases d_Mo_fixBest_35 zk_708 rfl ?_
    refine q_iload d_Mo_fixBest_38 rfl ?_
    refine p_iald d_Mo_fixBest_40 zk_711 o3 ?_
    refine q_istore d_Mo_fixBest_41 (by decide) (L' := [vR 708, vL x1, vU, vL x3, vU, vI x5, vI x6, vI x7, vI x8, vI (D 711 x7), vU, vU, vU, vU, vU]) rfl ?_
    refine q_aload_n d_Mo_fixBest_43 rfl ?_
    refine p_getR (k := 5) (b := 712) zc_Mo l_Mo_19 fr_Mo_deadlines d_Mo_fixBest_44 zk_708 rfl ?_
    refine q_iload d_Mo_fixBest_47 rfl ?_
    refine p_iald d_Mo_fixBest_49 zk_712 o4 ?_
    refine q_istore d_Mo_fixBest_50 (by decide) (L' := [vR 708, vL x1, vU, vL x3, vU, vI x5, vI x6, vI x7, vI x8, vI (D 711 x7), vI (D 712 x8), vU, vU, vU, vU]) rfl ?_
    refine q_iload d_Mo_fixBest_52 rfl ?_
    refine q_iload d_Mo_fixBest_54 rfl ?_
    refine q_icmp_ge (tgt := 90) d_Mo_fixBest_56 (by decide) (fun c5 => ?_) (fun c5 => ?_)
    · have h := h.1 (c5)
      exact h
    · have h := h.2 (c5)
      obtain ⟨o6, h⟩ := h
      refine q_aload_n d_Mo_fixBest_59 rfl ?_
      refine p_getR (k := 16) (b := 719) zc_Mo l_Mo_42 fr_Mo_done d_Mo_fixBest_60 zk_708 rfl ?_
      refine q_iload d_Mo_fixBest_63 rfl ?_
      refine p_zald d_Mo_fixBest_65 zk_719 o6 ?_
      refine q_if_ne (tgt := 90) d_Mo_fixBest_66 (by decide) (fun c7 => ?_) (fun c7 => ?_)
      · have h := h.1 (c7)
        exact h
      · have h := h.2 (c7)
        obtain ⟨o8, h⟩ := h
        refine q_aload_n d_Mo_fixBest_69 rfl ?_
        refine p_getR (k := 16) (b := 719) zc_Mo l_Mo_42 fr_Mo_done d_Mo_fixBest_70 zk_708 rfl ?_
        refine q_iload d_Mo_fixBest_73 rfl ?_
        refine p_zald d_Mo_fixBest_75 zk_719 o8 ?_
        refine q_if_ne (tgt := 90) d_Mo_fixBest_76 (by decide) (fun c9 => ?_) (fun c9 => ?_)
        · have h := h.1 (c9)
          exact h
        · have h := h.2 (c9)
          refine q_aload_n d_Mo_fixBest_79 rfl ?_
          refine q_iload d_Mo_fixBest_80 rfl ?_
          refine q_iload d_Mo_fixBest_82 rfl ?_
          refine p_callV (as := [vI (D 711 x7), vI (D 712 x8)]) (st := []) (a := 708) mc_Mo_open mv_Mo_open l_Mo_166 zc_Mo rfl d_Mo_fixBest_84 rfl rfl rfl zk_708 (CI.to ?_)
          exact h
theorem s_Mo_fixBest_206 {x1 : Int} {x3 : Int} {x5 : Int} {x6 : Int} {x7 : Int} {x9 : Int} {z10 : VV} {z11 : VV} {z12 : VV} {z13 : VV} {z14 : VV}  (h : (((D 708 3) ≤ x9 → Sg g M_Mo_fixBest Q 278 [vR 708, vL x1, vU, vL x3, vU, vI x5, vI x6, vL x7, vU, vI 0, vU, vU, vU, vU, vU] [] D) ∧ (¬ (D 708 3) ≤ x9 → CI g M_Mo_isWithin [vR 708, vI x9, vI x5, vI x6] D (fun v2 D' => Sg g M_Mo_fixBest Q 225 [vR 708, vL x1, vU, vL x3, vU, vI x5, vI x6, vL x7, vU, vI x9, vU, vU, vU, vU, vU] [vI v2] D')))) : Sg g M_Mo_fixBest Q 206 [vR 708, vL x1, vU, vL x3, vU, vI x5, vI x6, vL x7, vU, vI x9, z10, z11, z12, z13, z14] [] D := by
  unfold Sg
  refine q_mask [false, false, false, false, false, false, false, false, false, false, true, true, true, true, true] (L' := [vR 708, vL x1, vU, vL x3, vU, vI x5, vI x6, vL x7, vU, vI x9, vU, vU, vU, vU, vU]) rfl ?_
  refine q_iload d_Mo_fixBest_206 rfl ?_
  refine q_aload_n d_Mo_fixBest_208 rfl ?_
  refine p_getI (k := 3) zc_Mo l_Mo_153 fi_Mo_jobs d_Mo_fixBest_209 zk_708 ?_
  refine q_icmp_ge (tgt := 275) d_Mo_fixBest_212 (by decide) (fun c1 => ?_) (fun c1 => ?_)
  · have h := h.1 (c1)
    refine q_iconst d_Mo_fixBest_275 (by decide) ?_
    refine q_istore d_Mo_fixBest_276 (by decide) (L' := [vR 708, vL x1, vU, vL x3, vU, vI x5, vI x6, vL x7, vU, vI 0, vU, vU, vU, vU, vU]) rfl ?_
    exact h
  · have h := h.2 (c1)
    refine q_aload_n d_Mo_fixBest_215 rfl ?_
    refine q_iload d_Mo_fixBest_216 rfl ?_
    refine q_iload d_Mo_fixBest_218 rfl ?_
    refine q_iload d_Mo_fixBest_220 rfl ?_
    refine p_callV (as := [vI x9, vI x5, vI x6]) (st := []) (a := 708) mc_Mo_isWithin mv_Mo_isWithin l_Mo_169 zc_Mo rfl d_Mo_fixBest_222 rfl rfl rfl zk_708 (CI.to ?_)
    exact h
theorem s_Mo_fixBest_90 {x1 : Int} {x3 : Int} {x5 : Int} {x6 : Int} {x7 : Int} {x8 : Int} {x9 : Int} {x10 : Int} {z11 : VV} {z12 : VV} {z13 : VV} {z14 : VV}  (h : Sg g M_Mo_fixBest Q 91 [vR 708, vL x1, vU, vL x3, vU, vI x5, vI x6, vI x7, vI x8, vI x9, vI x10, vU, vU, vU, vU] [vI 0] D) : Sg g M_Mo_fixBest Q 90 [vR 708, vL x1, vU, vL x3, vU, vI x5, vI x6, vI x7, vI x8, vI x9, vI x10, z11, z12, z13, z14] [] D := by
  unfold Sg
  refine q_mask [false, false, false, false, false, false, false, false, false, false, false, true, true, true, true] (L' := [vR 708, vL x1, vU, vL x3, vU, vI x5, vI x6, vI x7, vI x8, vI x9, vI x10, vU, vU, vU, vU]) rfl ?_
  refine q_iconst d_Mo_fixBest_90 (by decide) ?_
  exact h
theorem s_Mo_fixBest_87 {x1 : Int} {x3 : Int} {x5 : Int} {x6 : Int} {x7 : Int} {x8 : Int} {x9 : Int} {x10 : Int} {z11 : VV} {z12 : VV} {z13 : VV} {z14 : VV} {y0 : Int}  (h : Sg g M_Mo_fixBest Q 91 [vR 708, vL x1, vU, vL x3, vU, vI x5, vI x6, vI x7, vI x8, vI x9, vI x10, vU, vU, vU, vU] [vI y0] D) : Sg g M_Mo_fixBest Q 87 [vR 708, vL x1, vU, vL x3, vU, vI x5, vI x6, vI x7, vI x8, vI x9, vI x10, z11, z12, z13, z14] [vI y0] D := by
  unfold Sg
  refine q_mask [false, false, false, false, false, false, false, false, false, false, false, true, true, true, true] (L' := [vR 708, vL x1, vU, vL x3, vU, vI x5, vI x6, vI x7, vI x8, vI x9, vI x10, vU, vU, vU, vU]) rfl ?_
  refine q_goto (tgt := 91) d_Mo_fixBest_87 (by decide) ?_
  exact h
theorem s_Mo_fixBest_278 {x1 : Int} {x3 : Int} {x5 : Int} {x6 : Int} {x7 : Int} {x9 : Int} {z10 : VV} {z11 : VV} {z12 : VV} {z13 : VV} {z14 : VV}  (h : (((D 708 3) ≤ x9 → Sg g M_Mo_fixBest Q 331 [vR 708, vL x1, vU, vL x3, vU, vI x5, vI x6, vL x7, vU, vI x5, vU, vU, vU, vU, vU] [] D) ∧ (¬ (D 708 3) ≤ x9 → ((0 ≤ x9 ∧ x9 < 12)) ∧ ((¬ (D 719 x9) = 0 → Sg g M_Mo_fixBest Q 315 [vR 708, vL x1, vU, vL x3, vU, vI x5, vI x6, vL x7, vU, vI x9, vU, vU, vU, vU, vU] [vI x9, vR 719] D) ∧ ((D 719 x9) = 0 → ((0 ≤ x9 ∧ x9 < 12)) ∧ ((¬ (D 722 x9) = 1 → Sg g M_Mo_fixBest Q 320 [vR 708, vL x1, vU, vL x3, vU, vI x5, vI x6, vL x7, vU, vI x9, vU, vU, vU, vU, vU] [vI 0, vI x9, vR 719] D) ∧ ((D 722 x9) = 1 → Sg g M_Mo_fixBest Q 315 [vR 708, vL x1, vU, vL x3, vU, vI x5, vI x6, vL x7, vU, vI x9, vU, vU, vU, vU, vU] [vI x9, vR 719] D))))))) : Sg g M_Mo_fixBest Q 278 [vR 708, vL x1, vU, vL x3, vU, vI x5, vI x6, vL x7, vU, vI x9, z10, z11, z12, z13, z14] [] D := by
  unfold Sg
  refine q_mask [false, false, false, false, false, false, false, false, false, false, true, true, true, true, true] (L' := [vR 708, vL x1, vU, vL x3, vU, vI x5, vI x6, vL x7, vU, vI x9, vU, vU, vU, vU, vU]) rfl ?_
  refine q_iload d_Mo_fixBest_278 rfl ?_
  refine q_aload_n d_Mo_fixBest_280 rfl ?_
  refine p_getI (k := 3) zc_Mo l_Mo_153 fi_Mo_jobs d_Mo_fixBest_281 zk_708 ?_
  refine q_icmp_ge (tgt := 327) d_Mo_fixBest_284 (by decide) (fun c1 => ?_) (fun c1 => ?_)
  · have h := h.1 (c1)
    refine q_iload d_Mo_fixBest_327 rfl ?_
    refine q_istore d_Mo_fixBest_329 (by decide) (L' := [vR 708, vL x1, vU, vL x3, vU, vI x5, vI x6, vL x7, vU, vI x5, vU, vU, vU, vU, vU]) rfl ?_
    exact h
  · have h := h.2 (c1)
    obtain ⟨o2, h⟩ := h
    refine q_aload_n d_Mo_fixBest_287 rfl ?_
    refine p_getR (k := 16) (b := 719) zc_Mo l_Mo_42 fr_Mo_done d_Mo_fixBest_288 zk_708 rfl ?_
    refine q_iload d_Mo_fixBest_291 rfl ?_
    refine q_aload_n d_Mo_fixBest_293 rfl ?_
    refine p_getR (k := 16) (b := 719) zc_Mo l_Mo_42 fr_Mo_done d_Mo_fixBest_294 zk_708 rfl ?_
    refine q_iload d_Mo_fixBest_297 rfl ?_
    refine p_zald d_Mo_fixBest_299 zk_719 o2 ?_
    refine q_if_ne (tgt := 315) d_Mo_fixBest_300 (by decide) (fun c3 => ?_) (fun c3 => ?_)
    · have h := h.1 (c3)
      exact h
    · have h := h.2 (c3)
      obtain ⟨o4, h⟩ := h
      refine q_aload_n d_Mo_fixBest_303 rfl ?_
      refine p_getR (k := 19) (b := 722) zc_Mo l_Mo_51 fr_Mo_left d_Mo_fixBest_304 zk_708 rfl ?_
      refine q_iload d_Mo_fixBest_307 rfl ?_
      refine p_lald d_Mo_fixBest_309 zk_722 o4 ?_
      refine q_lconst (x := 1) d_Mo_fixBest_310 ⟨rfl, by decide⟩ ?_
      refine q_lcmp d_Mo_fixBest_311 ?_
      refine q_if_ne (tgt := 319) d_Mo_fixBest_312 (by decide) (fun c5 => ?_) (fun c5 => ?_)
      · have h := h.1 (zcmp_ne.mp c5)
        refine q_iconst d_Mo_fixBest_319 (by decide) ?_
        exact h
      · have h := h.2 (zcmp_eq.mp c5)
        exact h
theorem s_Mo_fixBest_225 {x1 : Int} {x3 : Int} {x5 : Int} {x6 : Int} {x7 : Int} {x9 : Int} {z10 : VV} {z11 : VV} {z12 : VV} {z13 : VV} {z14 : VV} {y0 : Int}  (h : ((y0 = 0 → ((0 ≤ x9 ∧ x9 < 12)) ∧ (∀ D3, D3 = zw D 722 x9 0 → Sg g M_Mo_fixBest Q 269 [vR 708, vL x1, vU, vL x3, vU, vI x5, vI x6, vL x7, vU, vI x9, vU, vU, vU, vU, vU] [] D3)) ∧ (¬ y0 = 0 → ((0 ≤ x1 ∧ 0 < x7) ∧ (0 ≤ x9 ∧ x9 < 12)) ∧ (∀ D7, D7 = zw D 720 x9 (x1 / x7) → ((0 ≤ x3 ∧ 0 < x7) ∧ (0 ≤ x9 ∧ x9 < 12)) ∧ (∀ D11, D11 = zw D7 721 x9 (x3 / x7) → ((0 ≤ x9 ∧ x9 < 12)) ∧ (∀ D14, D14 = zw D11 722 x9 1 → Sg g M_Mo_fixBest Q 269 [vR 708, vL x1, vU, vL x3, vU, vI x5, vI x6, vL x7, vU, vI x9, vU, vU, vU, vU, vU] [] D14)))))) : Sg g M_Mo_fixBest Q 225 [vR 708, vL x1, vU, vL x3, vU, vI x5, vI x6, vL x7, vU, vI x9, z10, z11, z12, z13, z14] [vI y0] D := by
  unfold Sg
  refine q_mask [false, false, false, false, false, false, false, false, false, false, true, true, true, true, true] (L' := [vR 708, vL x1, vU, vL x3, vU, vI x5, vI x6, vL x7, vU, vI x9, vU, vU, vU, vU, vU]) rfl ?_
  refine q_if_eq (tgt := 261) d_Mo_fixBest_225 (by decide) (fun c1 => ?_) (fun c1 => ?_)
  · have h := h.1 (c1)
    obtain ⟨o2, h⟩ := h
    refine q_aload_n d_Mo_fixBest_261 rfl ?_
    refine p_getR (k := 19) (b := 722) zc_Mo l_Mo_51 fr_Mo_left d_Mo_fixBest_262 zk_708 rfl ?_
    refine q_iload d_Mo_fixBest_265 rfl ?_
    refine q_lconst (x := 0) d_Mo_fixBest_267 ⟨rfl, by decide⟩ ?_
    refine p_last d_Mo_fixBest_268 zk_722 o2 (fun D3 e4 => ?_)
    have h := h D3 e4
    exact h
  · have h := h.2 (c1)
    obtain ⟨⟨o5, o6⟩, h⟩ := h
    refine q_aload_n d_Mo_fixBest_228 rfl ?_
    refine p_getR (k := 17) (b := 720) zc_Mo l_Mo_45 fr_Mo_jobAbove d_Mo_fixBest_229 zk_708 rfl ?_
    refine q_iload d_Mo_fixBest_232 rfl ?_
    refine q_lload_n d_Mo_fixBest_234 rfl ?_
    refine q_lload d_Mo_fixBest_235 rfl ?_
    refine q_ldiv d_Mo_fixBest_237 o5 ?_
    refine p_last d_Mo_fixBest_238 zk_720 o6 (fun D7 e8 => ?_)
    have h := h D7 e8
    obtain ⟨⟨o9, o10⟩, h⟩ := h
    refine q_aload_n d_Mo_fixBest_239 rfl ?_
    refine p_getR (k := 18) (b := 721) zc_Mo l_Mo_48 fr_Mo_jobBelow d_Mo_fixBest_240 zk_708 rfl ?_
    refine q_iload d_Mo_fixBest_243 rfl ?_
    refine q_lload_n d_Mo_fixBest_245 rfl ?_
    refine q_lload d_Mo_fixBest_246 rfl ?_
    refine q_ldiv d_Mo_fixBest_248 o9 ?_
    refine p_last d_Mo_fixBest_249 zk_721 o10 (fun D11 e12 => ?_)
    have h := h D11 e12
    obtain ⟨o13, h⟩ := h
    refine q_aload_n d_Mo_fixBest_250 rfl ?_
    refine p_getR (k := 19) (b := 722) zc_Mo l_Mo_51 fr_Mo_left d_Mo_fixBest_251 zk_708 rfl ?_
    refine q_iload d_Mo_fixBest_254 rfl ?_
    refine q_lconst (x := 1) d_Mo_fixBest_256 ⟨rfl, by decide⟩ ?_
    refine p_last d_Mo_fixBest_257 zk_722 o13 (fun D14 e15 => ?_)
    have h := h D14 e15
    refine q_goto (tgt := 269) d_Mo_fixBest_258 (by decide) ?_
    exact h
theorem s_Mo_fixBest_91 {x1 : Int} {x3 : Int} {x5 : Int} {x6 : Int} {x7 : Int} {x8 : Int} {x9 : Int} {x10 : Int} {z11 : VV} {z12 : VV} {z13 : VV} {z14 : VV} {y0 : Int}  (h : Sg g M_Mo_fixBest Q 99 [vR 708, vL x1, vU, vL x3, vU, vI x5, vI x6, vI x7, vI x8, vI x9, vI x10, vI y0, vL 0, vU, vI 0] [] D) : Sg g M_Mo_fixBest Q 91 [vR 708, vL x1, vU, vL x3, vU, vI x5, vI x6, vI x7, vI x8, vI x9, vI x10, z11, z12, z13, z14] [vI y0] D := by
  unfold Sg
  refine q_mask [false, false, false, false, false, false, false, false, false, false, false, true, true, true, true] (L' := [vR 708, vL x1, vU, vL x3, vU, vI x5, vI x6, vI x7, vI x8, vI x9, vI x10, vU, vU, vU, vU]) rfl ?_
  refine q_istore d_Mo_fixBest_91 (by decide) (L' := [vR 708, vL x1, vU, vL x3, vU, vI x5, vI x6, vI x7, vI x8, vI x9, vI x10, vI y0, vU, vU, vU]) rfl ?_
  refine q_lconst (x := 0) d_Mo_fixBest_93 ⟨rfl, by decide⟩ ?_
  refine q_lstore d_Mo_fixBest_94 (by decide) (L' := [vR 708, vL x1, vU, vL x3, vU, vI x5, vI x6, vI x7, vI x8, vI x9, vI x10, vI y0, vL 0, vU, vU]) rfl ?_
  refine q_iconst d_Mo_fixBest_96 (by decide) ?_
  refine q_istore d_Mo_fixBest_97 (by decide) (L' := [vR 708, vL x1, vU, vL x3, vU, vI x5, vI x6, vI x7, vI x8, vI x9, vI x10, vI y0, vL 0, vU, vI 0]) rfl ?_
  exact h
theorem s_Mo_fixBest_331 {x1 : Int} {x3 : Int} {z5 : VV} {x6 : Int} {x7 : Int} {x9 : Int} {z10 : VV} {z11 : VV} {z12 : VV} {z13 : VV} {z14 : VV}  (h : ((x6 ≤ x9 → Q (some (vI 1)) zE D) ∧ (¬ x6 ≤ x9 → ((0 ≤ x9 ∧ x9 < 200)) ∧ ((¬ (D 716 x9) = 0 → Sg g M_Mo_fixBest Q 378 [vR 708, vL x1, vU, vL x3, vU, vU, vI x6, vL x7, vU, vI x9, vU, vU, vU, vU, vU] [] D) ∧ ((D 716 x9) = 0 → ((0 ≤ x9 ∧ x9 < 200)) ∧ (∀ D5, D5 = zw D 716 x9 1 → ((0 ≤ x1 ∧ 0 < x7) ∧ (0 ≤ x9 ∧ x9 < 200)) ∧ (∀ D9, D9 = zw D5 717 x9 (x1 / x7) → ((0 ≤ x3 ∧ 0 < x7) ∧ (0 ≤ x9 ∧ x9 < 200)) ∧ (∀ D13, D13 = zw D9 718 x9 (x3 / x7) → Sg g M_Mo_fixBest Q 378 [vR 708, vL x1, vU, vL x3, vU, vU, vI x6, vL x7, vU, vI x9, vU, vU, vU, vU, vU] [] D13)))))))) : Sg g M_Mo_fixBest Q 331 [vR 708, vL x1, vU, vL x3, vU, z5, vI x6, vL x7, vU, vI x9, z10, z11, z12, z13, z14] [] D := by
  unfold Sg
  refine q_mask [false, false, false, false, false, true, false, false, false, false, true, true, true, true, true] (L' := [vR 708, vL x1, vU, vL x3, vU, vU, vI x6, vL x7, vU, vI x9, vU, vU, vU, vU, vU]) rfl ?_
  refine q_iload d_Mo_fixBest_331 rfl ?_
  refine q_iload d_Mo_fixBest_333 rfl ?_
  refine q_icmp_ge (tgt := 384) d_Mo_fixBest_335 (by decide) (fun c1 => ?_) (fun c1 => ?_)
  · have h := h.1 (c1)
    refine q_iconst d_Mo_fixBest_384 (by decide) ?_
    exact q_iret d_Mo_fixBest_385 (Or.inr ⟨rfl, by decide⟩) ⟨Nat.le_refl _, Nat.le_refl _⟩ h
  · have h := h.2 (c1)
    obtain ⟨o2, h⟩ := h
    refine q_aload_n d_Mo_fixBest_338 rfl ?_
    refine p_getR (k := 13) (b := 716) zc_Mo l_Mo_31 fr_Mo_fixed d_Mo_fixBest_339 zk_708 rfl ?_
    refine q_iload d_Mo_fixBest_342 rfl ?_
    refine p_zald d_Mo_fixBest_344 zk_716 o2 ?_
    refine q_if_ne (tgt := 378) d_Mo_fixBest_345 (by decide) (fun c3 => ?_) (fun c3 => ?_)
    · have h := h.1 (c3)
      exact h
    · have h := h.2 (c3)
      obtain ⟨o4, h⟩ := h
      refine q_aload_n d_Mo_fixBest_348 rfl ?_
      refine p_getR (k := 13) (b := 716) zc_Mo l_Mo_31 fr_Mo_fixed d_Mo_fixBest_349 zk_708 rfl ?_
      refine q_iload d_Mo_fixBest_352 rfl ?_
      refine q_iconst d_Mo_fixBest_354 (by decide) ?_
      refine p_zast d_Mo_fixBest_355 zk_716 o4 (by decide) (fun D5 e6 => ?_)
      have h := h D5 e6
      obtain ⟨⟨o7, o8⟩, h⟩ := h
      refine q_aload_n d_Mo_fixBest_356 rfl ?_
      refine p_getR (k := 14) (b := 717) zc_Mo l_Mo_35 fr_Mo_above d_Mo_fixBest_357 zk_708 rfl ?_
      refine q_iload d_Mo_fixBest_360 rfl ?_
      refine q_lload_n d_Mo_fixBest_362 rfl ?_
      refine q_lload d_Mo_fixBest_363 rfl ?_
      refine q_ldiv d_Mo_fixBest_365 o7 ?_
      refine p_last d_Mo_fixBest_366 zk_717 o8 (fun D9 e10 => ?_)
      have h := h D9 e10
      obtain ⟨⟨o11, o12⟩, h⟩ := h
      refine q_aload_n d_Mo_fixBest_367 rfl ?_
      refine p_getR (k := 15) (b := 718) zc_Mo l_Mo_39 fr_Mo_below d_Mo_fixBest_368 zk_708 rfl ?_
      refine q_iload d_Mo_fixBest_371 rfl ?_
      refine q_lload_n d_Mo_fixBest_373 rfl ?_
      refine q_lload d_Mo_fixBest_374 rfl ?_
      refine q_ldiv d_Mo_fixBest_376 o11 ?_
      refine p_last d_Mo_fixBest_377 zk_718 o12 (fun D13 e14 => ?_)
      have h := h D13 e14
      exact h
theorem s_Mo_fixBest_315 {x1 : Int} {x3 : Int} {x5 : Int} {x6 : Int} {x7 : Int} {x9 : Int} {z10 : VV} {z11 : VV} {z12 : VV} {z13 : VV} {z14 : VV} {y0 : Int}  (h : Sg g M_Mo_fixBest Q 320 [vR 708, vL x1, vU, vL x3, vU, vI x5, vI x6, vL x7, vU, vI x9, vU, vU, vU, vU, vU] [vI 1, vI y0, vR 719] D) : Sg g M_Mo_fixBest Q 315 [vR 708, vL x1, vU, vL x3, vU, vI x5, vI x6, vL x7, vU, vI x9, z10, z11, z12, z13, z14] [vI y0, vR 719] D := by
  unfold Sg
  refine q_mask [false, false, false, false, false, false, false, false, false, false, true, true, true, true, true] (L' := [vR 708, vL x1, vU, vL x3, vU, vI x5, vI x6, vL x7, vU, vI x9, vU, vU, vU, vU, vU]) rfl ?_
  refine q_iconst d_Mo_fixBest_315 (by decide) ?_
  refine q_goto (tgt := 320) d_Mo_fixBest_316 (by decide) ?_
  exact h
theorem s_Mo_fixBest_320 {x1 : Int} {x3 : Int} {x5 : Int} {x6 : Int} {x7 : Int} {x9 : Int} {z10 : VV} {z11 : VV} {z12 : VV} {z13 : VV} {z14 : VV} {y0 : Int} {y1 : Int}  (h : ((0 ≤ y1 ∧ y1 < 12) ∧ (0 ≤ y0 ∧ y0 ≤ 1)) ∧ (∀ D3, D3 = zw D 719 y1 y0 → (R32 (x9 + 1)) ∧ Sg g M_Mo_fixBest Q 278 [vR 708, vL x1, vU, vL x3, vU, vI x5, vI x6, vL x7, vU, vI (x9 + 1), vU, vU, vU, vU, vU] [] D3)) : Sg g M_Mo_fixBest Q 320 [vR 708, vL x1, vU, vL x3, vU, vI x5, vI x6, vL x7, vU, vI x9, z10, z11, z12, z13, z14] [vI y0, vI y1, vR 719] D := by
  unfold Sg
  refine q_mask [false, false, false, false, false, false, false, false, false, false, true, true, true, true, true] (L' := [vR 708, vL x1, vU, vL x3, vU, vI x5, vI x6, vL x7, vU, vI x9, vU, vU, vU, vU, vU]) rfl ?_
  obtain ⟨⟨o1, o2⟩, h⟩ := h
  refine p_zast d_Mo_fixBest_320 zk_719 o1 o2 (fun D3 e4 => ?_)
  have h := h D3 e4
  obtain ⟨o5, h⟩ := h
  refine q_iinc d_Mo_fixBest_321 rfl (by decide) o5 (L' := [vR 708, vL x1, vU, vL x3, vU, vI x5, vI x6, vL x7, vU, vI (x9 + 1), vU, vU, vU, vU, vU]) rfl ?_
  refine q_goto (tgt := 278) d_Mo_fixBest_324 (by decide) ?_
  exact h
theorem s_Mo_fixBest_269 {x1 : Int} {x3 : Int} {x5 : Int} {x6 : Int} {x7 : Int} {x9 : Int} {z10 : VV} {z11 : VV} {z12 : VV} {z13 : VV} {z14 : VV}  (h : (R32 (x9 + 1)) ∧ Sg g M_Mo_fixBest Q 206 [vR 708, vL x1, vU, vL x3, vU, vI x5, vI x6, vL x7, vU, vI (x9 + 1), vU, vU, vU, vU, vU] [] D) : Sg g M_Mo_fixBest Q 269 [vR 708, vL x1, vU, vL x3, vU, vI x5, vI x6, vL x7, vU, vI x9, z10, z11, z12, z13, z14] [] D := by
  unfold Sg
  refine q_mask [false, false, false, false, false, false, false, false, false, false, true, true, true, true, true] (L' := [vR 708, vL x1, vU, vL x3, vU, vI x5, vI x6, vL x7, vU, vI x9, vU, vU, vU, vU, vU]) rfl ?_
  obtain ⟨o1, h⟩ := h
  refine q_iinc d_Mo_fixBest_269 rfl (by decide) o1 (L' := [vR 708, vL x1, vU, vL x3, vU, vI x5, vI x6, vL x7, vU, vI (x9 + 1), vU, vU, vU, vU, vU]) rfl ?_
  refine q_goto (tgt := 206) d_Mo_fixBest_272 (by decide) ?_
  exact h
theorem s_Mo_fixBest_99 {x1 : Int} {x3 : Int} {x5 : Int} {x6 : Int} {x7 : Int} {x8 : Int} {x9 : Int} {x10 : Int} {x11 : Int} {x12 : Int} {x14 : Int}  (h : (((D 708 3) ≤ x14 → Sg g M_Mo_fixBest Q 149 [vR 708, vL x1, vU, vL x3, vU, vI x5, vI x6, vI x7, vI x8, vI x9, vI x10, vI x11, vL x12, vU, vI x14] [] D) ∧ (¬ (D 708 3) ≤ x14 → ((x11 ≤ 0 → Sg g M_Mo_fixBest Q 149 [vR 708, vL x1, vU, vL x3, vU, vI x5, vI x6, vI x7, vI x8, vI x9, vI x10, vI x11, vL x12, vU, vI x14] [] D) ∧ (¬ x11 ≤ 0 → CI g M_Mo_isWithin [vR 708, vI x14, vI x9, vI x10] D (fun v3 D' => Sg g M_Mo_fixBest Q 125 [vR 708, vL x1, vU, vL x3, vU, vI x5, vI x6, vI x7, vI x8, vI x9, vI x10, vI x11, vL x12, vU, vI x14] [vI v3, vL x12] D')))))) : Sg g M_Mo_fixBest Q 99 [vR 708, vL x1, vU, vL x3, vU, vI x5, vI x6, vI x7, vI x8, vI x9, vI x10, vI x11, vL x12, vU, vI x14] [] D := by
  unfold Sg
  refine q_iload d_Mo_fixBest_99 rfl ?_
  refine q_aload_n d_Mo_fixBest_101 rfl ?_
  refine p_getI (k := 3) zc_Mo l_Mo_153 fi_Mo_jobs d_Mo_fixBest_102 zk_708 ?_
  refine q_icmp_ge (tgt := 149) d_Mo_fixBest_105 (by decide) (fun c1 => ?_) (fun c1 => ?_)
  · have h := h.1 (c1)
    exact h
  · have h := h.2 (c1)
    refine q_iload d_Mo_fixBest_108 rfl ?_
    refine q_if_le (tgt := 149) d_Mo_fixBest_110 (by decide) (fun c2 => ?_) (fun c2 => ?_)
    · have h := h.1 (c2)
      exact h
    · have h := h.2 (c2)
      refine q_lload d_Mo_fixBest_113 rfl ?_
      refine q_aload_n d_Mo_fixBest_115 rfl ?_
      refine q_iload d_Mo_fixBest_116 rfl ?_
      refine q_iload d_Mo_fixBest_118 rfl ?_
      refine q_iload d_Mo_fixBest_120 rfl ?_
      refine p_callV (as := [vI x14, vI x9, vI x10]) (st := [vL x12]) (a := 708) mc_Mo_isWithin mv_Mo_isWithin l_Mo_169 zc_Mo rfl d_Mo_fixBest_122 rfl rfl rfl zk_708 (CI.to ?_)
      exact h
theorem s_Mo_fixBest_378 {x1 : Int} {x3 : Int} {z5 : VV} {x6 : Int} {x7 : Int} {x9 : Int} {z10 : VV} {z11 : VV} {z12 : VV} {z13 : VV} {z14 : VV}  (h : (R32 (x9 + 1)) ∧ Sg g M_Mo_fixBest Q 331 [vR 708, vL x1, vU, vL x3, vU, vU, vI x6, vL x7, vU, vI (x9 + 1), vU, vU, vU, vU, vU] [] D) : Sg g M_Mo_fixBest Q 378 [vR 708, vL x1, vU, vL x3, vU, z5, vI x6, vL x7, vU, vI x9, z10, z11, z12, z13, z14] [] D := by
  unfold Sg
  refine q_mask [false, false, false, false, false, true, false, false, false, false, true, true, true, true, true] (L' := [vR 708, vL x1, vU, vL x3, vU, vU, vI x6, vL x7, vU, vI x9, vU, vU, vU, vU, vU]) rfl ?_
  obtain ⟨o1, h⟩ := h
  refine q_iinc d_Mo_fixBest_378 rfl (by decide) o1 (L' := [vR 708, vL x1, vU, vL x3, vU, vU, vI x6, vL x7, vU, vI (x9 + 1), vU, vU, vU, vU, vU]) rfl ?_
  refine q_goto (tgt := 331) d_Mo_fixBest_381 (by decide) ?_
  exact h
theorem s_Mo_fixBest_149 {x1 : Int} {x3 : Int} {x5 : Int} {x6 : Int} {x7 : Int} {x8 : Int} {x9 : Int} {x10 : Int} {x11 : Int} {x12 : Int} {z14 : VV}  (h : (R64 (x12 * x3) ∧ R64 (x1 * x11)) ∧ (((x12 * x3) ≤ (x1 * x11) → Sg g M_Mo_fixBest Q 177 [vR 708, vL x1, vU, vL x3, vU, vI x5, vI x6, vI x7, vI x8, vI x9, vI x10, vI x11, vL x12, vU, vU] [] D) ∧ (¬ (x12 * x3) ≤ (x1 * x11) → Sg g M_Mo_fixBest Q 177 [vR 708, vL x12, vU, vL x11, vU, vI x9, vI x10, vI x7, vI x8, vI x9, vI x10, vI x11, vL x12, vU, vU] [] D))) : Sg g M_Mo_fixBest Q 149 [vR 708, vL x1, vU, vL x3, vU, vI x5, vI x6, vI x7, vI x8, vI x9, vI x10, vI x11, vL x12, vU, z14] [] D := by
  unfold Sg
  refine q_mask [false, false, false, false, false, false, false, false, false, false, false, false, false, false, true] (L' := [vR 708, vL x1, vU, vL x3, vU, vI x5, vI x6, vI x7, vI x8, vI x9, vI x10, vI x11, vL x12, vU, vU]) rfl ?_
  obtain ⟨⟨o1, o2⟩, h⟩ := h
  refine q_lload d_Mo_fixBest_149 rfl ?_
  refine q_lload_n d_Mo_fixBest_151 rfl ?_
  refine q_lmul d_Mo_fixBest_152 o1 ?_
  refine q_lload_n d_Mo_fixBest_153 rfl ?_
  refine q_iload d_Mo_fixBest_154 rfl ?_
  refine q_i2l d_Mo_fixBest_156 ?_
  refine q_lmul d_Mo_fixBest_157 o2 ?_
  refine q_lcmp d_Mo_fixBest_158 ?_
  refine q_if_le (tgt := 177) d_Mo_fixBest_159 (by decide) (fun c3 => ?_) (fun c3 => ?_)
  · have h := h.1 (zcmp_le.mp c3)
    exact h
  · have h := h.2 ((not_congr zcmp_le).mp c3)
    refine q_lload d_Mo_fixBest_162 rfl ?_
    refine q_lstore_n d_Mo_fixBest_164 (by decide) (L' := [vR 708, vL x12, vU, vL x3, vU, vI x5, vI x6, vI x7, vI x8, vI x9, vI x10, vI x11, vL x12, vU, vU]) rfl ?_
    refine q_iload d_Mo_fixBest_165 rfl ?_
    refine q_i2l d_Mo_fixBest_167 ?_
    refine q_lstore_n d_Mo_fixBest_168 (by decide) (L' := [vR 708, vL x12, vU, vL x11, vU, vI x5, vI x6, vI x7, vI x8, vI x9, vI x10, vI x11, vL x12, vU, vU]) rfl ?_
    refine q_iload d_Mo_fixBest_169 rfl ?_
    refine q_istore d_Mo_fixBest_171 (by decide) (L' := [vR 708, vL x12, vU, vL x11, vU, vI x9, vI x6, vI x7, vI x8, vI x9, vI x10, vI x11, vL x12, vU, vU]) rfl ?_
    refine q_iload d_Mo_fixBest_173 rfl ?_
    refine q_istore d_Mo_fixBest_175 (by decide) (L' := [vR 708, vL x12, vU, vL x11, vU, vI x9, vI x10, vI x7, vI x8, vI x9, vI x10, vI x11, vL x12, vU, vU]) rfl ?_
    exact h
theorem s_Mo_fixBest_125 {x1 : Int} {x3 : Int} {x5 : Int} {x6 : Int} {x7 : Int} {x8 : Int} {x9 : Int} {x10 : Int} {x11 : Int} {z12 : VV} {z13 : VV} {x14 : Int} {y0 : Int} {y1 : Int}  (h : ((y0 = 0 → Sg g M_Mo_fixBest Q 140 [vR 708, vL x1, vU, vL x3, vU, vI x5, vI x6, vI x7, vI x8, vI x9, vI x10, vI x11, vU, vU, vI x14] [vL 0, vL y1] D) ∧ (¬ y0 = 0 → ((0 ≤ x14 ∧ x14 < 12)) ∧ Sg g M_Mo_fixBest Q 140 [vR 708, vL x1, vU, vL x3, vU, vI x5, vI x6, vI x7, vI x8, vI x9, vI x10, vI x11, vU, vU, vI x14] [vL (D 713 x14), vL y1] D))) : Sg g M_Mo_fixBest Q 125 [vR 708, vL x1, vU, vL x3, vU, vI x5, vI x6, vI x7, vI x8, vI x9, vI x10, vI x11, z12, z13, vI x14] [vI y0, vL y1] D := by
  unfold Sg
  refine q_mask [false, false, false, false, false, false, false, false, false, false, false, false, true, true, false] (L' := [vR 708, vL x1, vU, vL x3, vU, vI x5, vI x6, vI x7, vI x8, vI x9, vI x10, vI x11, vU, vU, vI x14]) rfl ?_
  refine q_if_eq (tgt := 139) d_Mo_fixBest_125 (by decide) (fun c1 => ?_) (fun c1 => ?_)
  · have h := h.1 (c1)
    refine q_lconst (x := 0) d_Mo_fixBest_139 ⟨rfl, by decide⟩ ?_
    exact h
  · have h := h.2 (c1)
    obtain ⟨o2, h⟩ := h
    refine q_aload_n d_Mo_fixBest_128 rfl ?_
    refine p_getR (k := 6) (b := 713) zc_Mo l_Mo_22 fr_Mo_works d_Mo_fixBest_129 zk_708 rfl ?_
    refine q_iload d_Mo_fixBest_132 rfl ?_
    refine p_iald d_Mo_fixBest_134 zk_713 o2 ?_
    refine q_i2l d_Mo_fixBest_135 ?_
    refine q_goto (tgt := 140) d_Mo_fixBest_136 (by decide) ?_
    exact h
theorem s_Mo_fixBest_177 {x1 : Int} {x3 : Int} {x5 : Int} {x6 : Int} {x7 : Int} {x8 : Int} {z9 : VV} {z10 : VV} {z11 : VV} {z12 : VV} {z13 : VV} {z14 : VV}  (h : (R32 (x8 + 1)) ∧ Sg g M_Mo_fixBest Q 25 [vR 708, vL x1, vU, vL x3, vU, vI x5, vI x6, vI x7, vI (x8 + 1), vU, vU, vU, vU, vU, vU] [] D) : Sg g M_Mo_fixBest Q 177 [vR 708, vL x1, vU, vL x3, vU, vI x5, vI x6, vI x7, vI x8, z9, z10, z11, z12, z13, z14] [] D := by
  unfold Sg
  refine q_mask [false, false, false, false, false, false, false, false, false, true, true, true, true, true, true] (L' := [vR 708, vL x1, vU, vL x3, vU, vI x5, vI x6, vI x7, vI x8, vU, vU, vU, vU, vU, vU]) rfl ?_
  obtain ⟨o1, h⟩ := h
  refine q_iinc d_Mo_fixBest_177 rfl (by decide) o1 (L' := [vR 708, vL x1, vU, vL x3, vU, vI x5, vI x6, vI x7, vI (x8 + 1), vU, vU, vU, vU, vU, vU]) rfl ?_
  refine q_goto (tgt := 25) d_Mo_fixBest_180 (by decide) ?_
  exact h
theorem s_Mo_fixBest_140 {x1 : Int} {x3 : Int} {x5 : Int} {x6 : Int} {x7 : Int} {x8 : Int} {x9 : Int} {x10 : Int} {x11 : Int} {z12 : VV} {z13 : VV} {x14 : Int} {y0 : Int} {y1 : Int}  (h : (R64 (y1 + y0) ∧ R32 (x14 + 1)) ∧ Sg g M_Mo_fixBest Q 99 [vR 708, vL x1, vU, vL x3, vU, vI x5, vI x6, vI x7, vI x8, vI x9, vI x10, vI x11, vL (y1 + y0), vU, vI (x14 + 1)] [] D) : Sg g M_Mo_fixBest Q 140 [vR 708, vL x1, vU, vL x3, vU, vI x5, vI x6, vI x7, vI x8, vI x9, vI x10, vI x11, z12, z13, vI x14] [vL y0, vL y1] D := by
  unfold Sg
  refine q_mask [false, false, false, false, false, false, false, false, false, false, false, false, true, true, false] (L' := [vR 708, vL x1, vU, vL x3, vU, vI x5, vI x6, vI x7, vI x8, vI x9, vI x10, vI x11, vU, vU, vI x14]) rfl ?_
  obtain ⟨⟨o1, o2⟩, h⟩ := h
  refine q_ladd d_Mo_fixBest_140 o1 ?_
  refine q_lstore d_Mo_fixBest_141 (by decide) (L' := [vR 708, vL x1, vU, vL x3, vU, vI x5, vI x6, vI x7, vI x8, vI x9, vI x10, vI x11, vL (y1 + y0), vU, vI x14]) rfl ?_
  refine q_iinc d_Mo_fixBest_143 rfl (by decide) o2 (L' := [vR 708, vL x1, vU, vL x3, vU, vI x5, vI x6, vI x7, vI x8, vI x9, vI x10, vI x11, vL (y1 + y0), vU, vI (x14 + 1)]) rfl ?_
  refine q_goto (tgt := 99) d_Mo_fixBest_146 (by decide) ?_
  exact h
theorem s_Mo_nextJob_0 {x1 : Int}  (h : (R32 ((D 708 3) - 1)) ∧ Sg g M_Mo_nextJob Q 9 [vR 708, vI x1, vI (-1), vI ((D 708 3) - 1)] [] D) : Sg g M_Mo_nextJob Q 0 [vR 708, vI x1, vU, vU] [] D := by
  unfold Sg
  obtain ⟨o1, h⟩ := h
  refine q_iconst d_Mo_nextJob_0 (by decide) ?_
  refine q_istore_n d_Mo_nextJob_1 (by decide) (L' := [vR 708, vI x1, vI (-1), vU]) rfl ?_
  refine q_aload_n d_Mo_nextJob_2 rfl ?_
  refine p_getI (k := 3) zc_Mo l_Mo_153 fi_Mo_jobs d_Mo_nextJob_3 zk_708 ?_
  refine q_iconst d_Mo_nextJob_6 (by decide) ?_
  refine q_isub d_Mo_nextJob_7 o1 ?_
  refine q_istore_n d_Mo_nextJob_8 (by decide) (L' := [vR 708, vI x1, vI (-1), vI ((D 708 3) - 1)]) rfl ?_
  exact h
theorem s_Mo_nextJob_9 {x1 : Int} {x2 : Int} {x3 : Int}  (h : ((x3 < 0 → Q (some (vI x2)) zE D) ∧ (¬ x3 < 0 → ((0 ≤ x3 ∧ x3 < 12)) ∧ ((x1 < (D 711 x3) → Sg g M_Mo_nextJob Q 55 [vR 708, vI x1, vI x2, vI x3] [] D) ∧ (¬ x1 < (D 711 x3) → ((0 ≤ x3 ∧ x3 < 12)) ∧ (((D 722 x3) ≤ 0 → Sg g M_Mo_nextJob Q 55 [vR 708, vI x1, vI x2, vI x3] [] D) ∧ (¬ (D 722 x3) ≤ 0 → ((x2 < 0 → Sg g M_Mo_nextJob Q 53 [vR 708, vI x1, vI x2, vI x3] [] D) ∧ (¬ x2 < 0 → ((0 ≤ x3 ∧ x3 < 12) ∧ (0 ≤ x2 ∧ x2 < 12)) ∧ (((D 712 x2) < (D 712 x3) → Sg g M_Mo_nextJob Q 55 [vR 708, vI x1, vI x2, vI x3] [] D) ∧ (¬ (D 712 x2) < (D 712 x3) → Sg g M_Mo_nextJob Q 53 [vR 708, vI x1, vI x2, vI x3] [] D))))))))))) : Sg g M_Mo_nextJob Q 9 [vR 708, vI x1, vI x2, vI x3] [] D := by
  unfold Sg
  refine q_iload_n d_Mo_nextJob_9 rfl ?_
  refine q_if_lt (tgt := 61) d_Mo_nextJob_10 (by decide) (fun c1 => ?_) (fun c1 => ?_)
  · have h := h.1 (c1)
    refine q_iload_n d_Mo_nextJob_61 rfl ?_
    exact q_iret d_Mo_nextJob_62 (Or.inl rfl) ⟨Nat.le_refl _, Nat.le_refl _⟩ h
  · have h := h.2 (c1)
    obtain ⟨o2, h⟩ := h
    refine q_aload_n d_Mo_nextJob_13 rfl ?_
    refine p_getR (k := 4) (b := 711) zc_Mo l_Mo_16 fr_Mo_releases d_Mo_nextJob_14 zk_708 rfl ?_
    refine q_iload_n d_Mo_nextJob_17 rfl ?_
    refine p_iald d_Mo_nextJob_18 zk_711 o2 ?_
    refine q_iload_n d_Mo_nextJob_19 rfl ?_
    refine q_icmp_gt (tgt := 55) d_Mo_nextJob_20 (by decide) (fun c3 => ?_) (fun c3 => ?_)
    · have h := h.1 (c3)
      exact h
    · have h := h.2 (c3)
      obtain ⟨o4, h⟩ := h
      refine q_aload_n d_Mo_nextJob_23 rfl ?_
      refine p_getR (k := 19) (b := 722) zc_Mo l_Mo_51 fr_Mo_left d_Mo_nextJob_24 zk_708 rfl ?_
      refine q_iload_n d_Mo_nextJob_27 rfl ?_
      refine p_lald d_Mo_nextJob_28 zk_722 o4 ?_
      refine q_lconst (x := 0) d_Mo_nextJob_29 ⟨rfl, by decide⟩ ?_
      refine q_lcmp d_Mo_nextJob_30 ?_
      refine q_if_le (tgt := 55) d_Mo_nextJob_31 (by decide) (fun c5 => ?_) (fun c5 => ?_)
      · have h := h.1 (zcmp_le.mp c5)
        exact h
      · have h := h.2 ((not_congr zcmp_le).mp c5)
        refine q_iload_n d_Mo_nextJob_34 rfl ?_
        refine q_if_lt (tgt := 53) d_Mo_nextJob_35 (by decide) (fun c6 => ?_) (fun c6 => ?_)
        · have h := h.1 (c6)
          exact h
        · have h := h.2 (c6)
          obtain ⟨⟨o7, o8⟩, h⟩ := h
          refine q_aload_n d_Mo_nextJob_38 rfl ?_
          refine p_getR (k := 5) (b := 712) zc_Mo l_Mo_19 fr_Mo_deadlines d_Mo_nextJob_39 zk_708 rfl ?_
          refine q_iload_n d_Mo_nextJob_42 rfl ?_
          refine p_iald d_Mo_nextJob_43 zk_712 o7 ?_
          refine q_aload_n d_Mo_nextJob_44 rfl ?_
          refine p_getR (k := 5) (b := 712) zc_Mo l_Mo_19 fr_Mo_deadlines d_Mo_nextJob_45 zk_708 rfl ?_
          refine q_iload_n d_Mo_nextJob_48 rfl ?_
          refine p_iald d_Mo_nextJob_49 zk_712 o8 ?_
          refine q_icmp_gt (tgt := 55) d_Mo_nextJob_50 (by decide) (fun c9 => ?_) (fun c9 => ?_)
          · have h := h.1 (c9)
            exact h
          · have h := h.2 (c9)
            exact h
theorem s_Mo_nextJob_55 {x1 : Int} {x2 : Int} {x3 : Int}  (h : (R32 (x3 + (-1))) ∧ Sg g M_Mo_nextJob Q 9 [vR 708, vI x1, vI x2, vI (x3 + (-1))] [] D) : Sg g M_Mo_nextJob Q 55 [vR 708, vI x1, vI x2, vI x3] [] D := by
  unfold Sg
  obtain ⟨o1, h⟩ := h
  refine q_iinc d_Mo_nextJob_55 rfl (by decide) o1 (L' := [vR 708, vI x1, vI x2, vI (x3 + (-1))]) rfl ?_
  refine q_goto (tgt := 9) d_Mo_nextJob_58 (by decide) ?_
  exact h
theorem s_Mo_nextJob_53 {x1 : Int} {z2 : VV} {x3 : Int}  (h : Sg g M_Mo_nextJob Q 55 [vR 708, vI x1, vI x3, vI x3] [] D) : Sg g M_Mo_nextJob Q 53 [vR 708, vI x1, z2, vI x3] [] D := by
  unfold Sg
  refine q_mask [false, false, true, false] (L' := [vR 708, vI x1, vU, vI x3]) rfl ?_
  refine q_iload_n d_Mo_nextJob_53 rfl ?_
  refine q_istore_n d_Mo_nextJob_54 (by decide) (L' := [vR 708, vI x1, vI x3, vI x3]) rfl ?_
  exact h
theorem s_Mo_workPlan_0 {x1 : Int} {x2 : Int}  (h : Sg g M_Mo_workPlan Q 2 [vR 708, vI x1, vI x2, vI 0, vU, vU, vU, vU, vU] [] D) : Sg g M_Mo_workPlan Q 0 [vR 708, vI x1, vI x2, vU, vU, vU, vU, vU, vU] [] D := by
  unfold Sg
  refine q_iconst d_Mo_workPlan_0 (by decide) ?_
  refine q_istore_n d_Mo_workPlan_1 (by decide) (L' := [vR 708, vI x1, vI x2, vI 0, vU, vU, vU, vU, vU]) rfl ?_
  exact h
theorem s_Mo_workPlan_2 {x1 : Int} {x2 : Int} {x3 : Int} {z4 : VV} {z5 : VV} {z6 : VV} {z7 : VV} {z8 : VV}  (h : (((D 708 3) ≤ x3 → Sg g M_Mo_workPlan Q 38 [vR 708, vI x1, vI x2, vI x1, vU, vU, vU, vU, vU] [] D) ∧ (¬ (D 708 3) ≤ x3 → ((0 ≤ x3 ∧ x3 < 12) ∧ (0 ≤ x3 ∧ x3 < 12) ∧ R64 ((D 713 x3) * (D 721 x3)) ∧ (0 ≤ x3 ∧ x3 < 12)) ∧ (∀ D6, D6 = zw D 722 x3 ((D 713 x3) * (D 721 x3)) → (R32 (x3 + 1)) ∧ Sg g M_Mo_workPlan Q 2 [vR 708, vI x1, vI x2, vI (x3 + 1), vU, vU, vU, vU, vU] [] D6)))) : Sg g M_Mo_workPlan Q 2 [vR 708, vI x1, vI x2, vI x3, z4, z5, z6, z7, z8] [] D := by
  unfold Sg
  refine q_mask [false, false, false, false, true, true, true, true, true] (L' := [vR 708, vI x1, vI x2, vI x3, vU, vU, vU, vU, vU]) rfl ?_
  refine q_iload_n d_Mo_workPlan_2 rfl ?_
  refine q_aload_n d_Mo_workPlan_3 rfl ?_
  refine p_getI (k := 3) zc_Mo l_Mo_153 fi_Mo_jobs d_Mo_workPlan_4 zk_708 ?_
  refine q_icmp_ge (tgt := 36) d_Mo_workPlan_7 (by decide) (fun c1 => ?_) (fun c1 => ?_)
  · have h := h.1 (c1)
    refine q_iload_n d_Mo_workPlan_36 rfl ?_
    refine q_istore_n d_Mo_workPlan_37 (by decide) (L' := [vR 708, vI x1, vI x2, vI x1, vU, vU, vU, vU, vU]) rfl ?_
    exact h
  · have h := h.2 (c1)
    obtain ⟨⟨o2, o3, o4, o5⟩, h⟩ := h
    refine q_aload_n d_Mo_workPlan_10 rfl ?_
    refine p_getR (k := 19) (b := 722) zc_Mo l_Mo_51 fr_Mo_left d_Mo_workPlan_11 zk_708 rfl ?_
    refine q_iload_n d_Mo_workPlan_14 rfl ?_
    refine q_aload_n d_Mo_workPlan_15 rfl ?_
    refine p_getR (k := 6) (b := 713) zc_Mo l_Mo_22 fr_Mo_works d_Mo_workPlan_16 zk_708 rfl ?_
    refine q_iload_n d_Mo_workPlan_19 rfl ?_
    refine p_iald d_Mo_workPlan_20 zk_713 o2 ?_
    refine q_i2l d_Mo_workPlan_21 ?_
    refine q_aload_n d_Mo_workPlan_22 rfl ?_
    refine p_getR (k := 18) (b := 721) zc_Mo l_Mo_48 fr_Mo_jobBelow d_Mo_workPlan_23 zk_708 rfl ?_
    refine q_iload_n d_Mo_workPlan_26 rfl ?_
    refine p_lald d_Mo_workPlan_27 zk_721 o3 ?_
    refine q_lmul d_Mo_workPlan_28 o4 ?_
    refine p_last d_Mo_workPlan_29 zk_722 o5 (fun D6 e7 => ?_)
    have h := h D6 e7
    obtain ⟨o8, h⟩ := h
    refine q_iinc d_Mo_workPlan_30 rfl (by decide) o8 (L' := [vR 708, vI x1, vI x2, vI (x3 + 1), vU, vU, vU, vU, vU]) rfl ?_
    refine q_goto (tgt := 2) d_Mo_workPlan_33 (by decide) ?_
    exact h
theorem s_Mo_workPlan_38 {z1 : VV} {x2 : Int} {x3 : Int} {z4 : VV} {z5 : VV} {z6 : VV} {z7 : VV} {z8 : VV}  (h : ((x2 ≤ x3 → Q none zE D) ∧ (¬ x2 ≤ x3 → ((0 ≤ x3 ∧ x3 < 200)) ∧ (((D 717 x3) ≤ 0 → Sg g M_Mo_workPlan Q 71 [vR 708, vU, vI x2, vI x3, vL 0, vU, vU, vU, vU] [vI (-1), vI x3, vR 727] D) ∧ (¬ (D 717 x3) ≤ 0 → CI g M_Mo_nextJob [vR 708, vI x3] D (fun v4 D' => Sg g M_Mo_workPlan Q 67 [vR 708, vU, vI x2, vI x3, vL 0, vU, vU, vU, vU] [vI v4, vI x3, vR 727] D')))))) : Sg g M_Mo_workPlan Q 38 [vR 708, z1, vI x2, vI x3, z4, z5, z6, z7, z8] [] D := by
  unfold Sg
  refine q_mask [false, true, false, false, true, true, true, true, true] (L' := [vR 708, vU, vI x2, vI x3, vU, vU, vU, vU, vU]) rfl ?_
  refine q_iload_n d_Mo_workPlan_38 rfl ?_
  refine q_iload_n d_Mo_workPlan_39 rfl ?_
  refine q_icmp_ge (tgt := 212) d_Mo_workPlan_40 (by decide) (fun c1 => ?_) (fun c1 => ?_)
  · have h := h.1 (c1)
    exact q_vret d_Mo_workPlan_212 rfl ⟨Nat.le_refl _, Nat.le_refl _⟩ h
  · have h := h.2 (c1)
    obtain ⟨o2, h⟩ := h
    refine q_lconst (x := 0) d_Mo_workPlan_43 ⟨rfl, by decide⟩ ?_
    refine q_lstore d_Mo_workPlan_44 (by decide) (L' := [vR 708, vU, vI x2, vI x3, vL 0, vU, vU, vU, vU]) rfl ?_
    refine q_aload_n d_Mo_workPlan_46 rfl ?_
    refine p_getR (k := 25) (b := 727) zc_Mo l_Mo_66 fr_Mo_planWorks d_Mo_workPlan_47 zk_708 rfl ?_
    refine q_iload_n d_Mo_workPlan_50 rfl ?_
    refine q_aload_n d_Mo_workPlan_51 rfl ?_
    refine p_getR (k := 14) (b := 717) zc_Mo l_Mo_35 fr_Mo_above d_Mo_workPlan_52 zk_708 rfl ?_
    refine q_iload_n d_Mo_workPlan_55 rfl ?_
    refine p_lald d_Mo_workPlan_56 zk_717 o2 ?_
    refine q_lconst (x := 0) d_Mo_workPlan_57 ⟨rfl, by decide⟩ ?_
    refine q_lcmp d_Mo_workPlan_58 ?_
    refine q_if_le (tgt := 70) d_Mo_workPlan_59 (by decide) (fun c3 => ?_) (fun c3 => ?_)
    · have h := h.1 (zcmp_le.mp c3)
      refine q_iconst d_Mo_workPlan_70 (by decide) ?_
      exact h
    · have h := h.2 ((not_congr zcmp_le).mp c3)
      refine q_aload_n d_Mo_workPlan_62 rfl ?_
      refine q_iload_n d_Mo_workPlan_63 rfl ?_
      refine p_callV (as := [vI x3]) (st := [vI x3, vR 727]) (a := 708) mc_Mo_nextJob mv_Mo_nextJob l_Mo_176 zc_Mo rfl d_Mo_workPlan_64 rfl rfl rfl zk_708 (CI.to ?_)
      exact h
theorem s_Mo_workPlan_71 {z1 : VV} {x2 : Int} {x3 : Int} {x4 : Int} {z6 : VV} {z7 : VV} {z8 : VV} {y0 : Int} {y1 : Int}  (h : ((0 ≤ y1 ∧ y1 < 200)) ∧ (∀ D2, D2 = zw D 727 y1 y0 → ((0 ≤ x3 ∧ x3 < 200)) ∧ Sg g M_Mo_workPlan Q 80 [vR 708, vU, vI x2, vI x3, vL x4, vU, vI (D2 727 x3), vU, vU] [] D2)) : Sg g M_Mo_workPlan Q 71 [vR 708, z1, vI x2, vI x3, vL x4, vU, z6, z7, z8] [vI y0, vI y1, vR 727] D := by
  unfold Sg
  refine q_mask [false, true, false, false, false, false, true, true, true] (L' := [vR 708, vU, vI x2, vI x3, vL x4, vU, vU, vU, vU]) rfl ?_
  obtain ⟨o1, h⟩ := h
  refine p_iast d_Mo_workPlan_71 zk_727 o1 (fun D2 e3 => ?_)
  have h := h D2 e3
  obtain ⟨o4, h⟩ := h
  refine q_aload_n d_Mo_workPlan_72 rfl ?_
  refine p_getR (k := 25) (b := 727) zc_Mo l_Mo_66 fr_Mo_planWorks d_Mo_workPlan_73 zk_708 rfl ?_
  refine q_iload_n d_Mo_workPlan_76 rfl ?_
  refine p_iald d_Mo_workPlan_77 zk_727 o4 ?_
  refine q_istore d_Mo_workPlan_78 (by decide) (L' := [vR 708, vU, vI x2, vI x3, vL x4, vU, vI (D2 727 x3), vU, vU]) rfl ?_
  exact h
theorem s_Mo_workPlan_67 {z1 : VV} {x2 : Int} {x3 : Int} {x4 : Int} {z6 : VV} {z7 : VV} {z8 : VV} {y0 : Int} {y1 : Int}  (h : Sg g M_Mo_workPlan Q 71 [vR 708, vU, vI x2, vI x3, vL x4, vU, vU, vU, vU] [vI y0, vI y1, vR 727] D) : Sg g M_Mo_workPlan Q 67 [vR 708, z1, vI x2, vI x3, vL x4, vU, z6, z7, z8] [vI y0, vI y1, vR 727] D := by
  unfold Sg
  refine q_mask [false, true, false, false, false, false, true, true, true] (L' := [vR 708, vU, vI x2, vI x3, vL x4, vU, vU, vU, vU]) rfl ?_
  refine q_goto (tgt := 71) d_Mo_workPlan_67 (by decide) ?_
  exact h
theorem s_Mo_workPlan_80 {z1 : VV} {x2 : Int} {x3 : Int} {x4 : Int} {x6 : Int} {z7 : VV} {z8 : VV}  (h : ((x6 < 0 → Sg g M_Mo_workPlan Q 206 [vR 708, vU, vI x2, vI x3, vL x4, vU, vI x6, vU, vU] [] D) ∧ (¬ x6 < 0 → ((0 ≤ x3 ∧ x3 < 200)) ∧ (((D 717 x3) ≤ x4 → Sg g M_Mo_workPlan Q 206 [vR 708, vU, vI x2, vI x3, vL x4, vU, vI x6, vU, vU] [] D) ∧ (¬ (D 717 x3) ≤ x4 → ((0 ≤ x6 ∧ x6 < 12) ∧ (0 ≤ x3 ∧ x3 < 200) ∧ R64 ((D 717 x3) - x4)) ∧ ((((D 717 x3) - x4) ≤ (D 722 x6) → ((0 ≤ x3 ∧ x3 < 200) ∧ R64 ((D 717 x3) - x4)) ∧ Sg g M_Mo_workPlan Q 136 [vR 708, vU, vI x2, vI x3, vL x4, vU, vI x6, vU, vU] [vL ((D 717 x3) - x4)] D) ∧ (¬ ((D 717 x3) - x4) ≤ (D 722 x6) → ((0 ≤ x6 ∧ x6 < 12)) ∧ Sg g M_Mo_workPlan Q 136 [vR 708, vU, vI x2, vI x3, vL x4, vU, vI x6, vU, vU] [vL (D 722 x6)] D))))))) : Sg g M_Mo_workPlan Q 80 [vR 708, z1, vI x2, vI x3, vL x4, vU, vI x6, z7, z8] [] D := by
  unfold Sg
  refine q_mask [false, true, false, false, false, false, false, true, true] (L' := [vR 708, vU, vI x2, vI x3, vL x4, vU, vI x6, vU, vU]) rfl ?_
  refine q_iload d_Mo_workPlan_80 rfl ?_
  refine q_if_lt (tgt := 206) d_Mo_workPlan_82 (by decide) (fun c1 => ?_) (fun c1 => ?_)
  · have h := h.1 (c1)
    exact h
  · have h := h.2 (c1)
    obtain ⟨o2, h⟩ := h
    refine q_lload d_Mo_workPlan_85 rfl ?_
    refine q_aload_n d_Mo_workPlan_87 rfl ?_
    refine p_getR (k := 14) (b := 717) zc_Mo l_Mo_35 fr_Mo_above d_Mo_workPlan_88 zk_708 rfl ?_
    refine q_iload_n d_Mo_workPlan_91 rfl ?_
    refine p_lald d_Mo_workPlan_92 zk_717 o2 ?_
    refine q_lcmp d_Mo_workPlan_93 ?_
    refine q_if_ge (tgt := 206) d_Mo_workPlan_94 (by decide) (fun c3 => ?_) (fun c3 => ?_)
    · have h := h.1 (zcmp_ge.mp c3)
      exact h
    · have h := h.2 ((not_congr zcmp_ge).mp c3)
      obtain ⟨⟨o4, o5, o6⟩, h⟩ := h
      refine q_aload_n d_Mo_workPlan_97 rfl ?_
      refine p_getR (k := 19) (b := 722) zc_Mo l_Mo_51 fr_Mo_left d_Mo_workPlan_98 zk_708 rfl ?_
      refine q_iload d_Mo_workPlan_101 rfl ?_
      refine p_lald d_Mo_workPlan_103 zk_722 o4 ?_
      refine q_aload_n d_Mo_workPlan_104 rfl ?_
      refine p_getR (k := 14) (b := 717) zc_Mo l_Mo_35 fr_Mo_above d_Mo_workPlan_105 zk_708 rfl ?_
      refine q_iload_n d_Mo_workPlan_108 rfl ?_
      refine p_lald d_Mo_workPlan_109 zk_717 o5 ?_
      refine q_lload d_Mo_workPlan_110 rfl ?_
      refine q_lsub d_Mo_workPlan_112 o6 ?_
      refine q_lcmp d_Mo_workPlan_113 ?_
      refine q_if_ge (tgt := 127) d_Mo_workPlan_114 (by decide) (fun c7 => ?_) (fun c7 => ?_)
      · have h := h.1 (zcmp_ge.mp c7)
        obtain ⟨⟨o8, o9⟩, h⟩ := h
        refine q_aload_n d_Mo_workPlan_127 rfl ?_
        refine p_getR (k := 14) (b := 717) zc_Mo l_Mo_35 fr_Mo_above d_Mo_workPlan_128 zk_708 rfl ?_
        refine q_iload_n d_Mo_workPlan_131 rfl ?_
        refine p_lald d_Mo_workPlan_132 zk_717 o8 ?_
        refine q_lload d_Mo_workPlan_133 rfl ?_
        refine q_lsub d_Mo_workPlan_135 o9 ?_
        exact h
      · have h := h.2 ((not_congr zcmp_ge).mp c7)
        obtain ⟨o10, h⟩ := h
        refine q_aload_n d_Mo_workPlan_117 rfl ?_
        refine p_getR (k := 19) (b := 722) zc_Mo l_Mo_51 fr_Mo_left d_Mo_workPlan_118 zk_708 rfl ?_
        refine q_iload d_Mo_workPlan_121 rfl ?_
        refine p_lald d_Mo_workPlan_123 zk_722 o10 ?_
        refine q_goto (tgt := 136) d_Mo_workPlan_124 (by decide) ?_
        exact h
theorem s_Mo_workPlan_206 {z1 : VV} {x2 : Int} {x3 : Int} {z4 : VV} {z5 : VV} {z6 : VV} {z7 : VV} {z8 : VV}  (h : (R32 (x3 + 1)) ∧ Sg g M_Mo_workPlan Q 38 [vR 708, vU, vI x2, vI (x3 + 1), vU, vU, vU, vU, vU] [] D) : Sg g M_Mo_workPlan Q 206 [vR 708, z1, vI x2, vI x3, z4, z5, z6, z7, z8] [] D := by
  unfold Sg
  refine q_mask [false, true, false, false, true, true, true, true, true] (L' := [vR 708, vU, vI x2, vI x3, vU, vU, vU, vU, vU]) rfl ?_
  obtain ⟨o1, h⟩ := h
  refine q_iinc d_Mo_workPlan_206 rfl (by decide) o1 (L' := [vR 708, vU, vI x2, vI (x3 + 1), vU, vU, vU, vU, vU]) rfl ?_
  refine q_goto (tgt := 38) d_Mo_workPlan_209 (by decide) ?_
  exact h
theorem s_Mo_workPlan_136 {z1 : VV} {x2 : Int} {x3 : Int} {x4 : Int} {x6 : Int} {z7 : VV} {z8 : VV} {y0 : Int}  (h : ((0 ≤ x6 ∧ x6 < 12) ∧ R64 ((D 722 x6) - y0) ∧ (0 ≤ x6 ∧ x6 < 12)) ∧ (∀ D4, D4 = zw D 722 x6 ((D 722 x6) - y0) → (R64 (x4 + y0) ∧ (0 ≤ x6 ∧ x6 < 12)) ∧ ((¬ (D4 722 x6) = 0 → Sg g M_Mo_workPlan Q 196 [vR 708, vU, vI x2, vI x3, vL (x4 + y0), vU, vI x6, vL y0, vU] [] D4) ∧ ((D4 722 x6) = 0 → (R32 (48 + x6) ∧ (0 ≤ x3 ∧ x3 < 200) ∧ R64 (x3 * (D4 717 x3)) ∧ R64 ((x3 * (D4 717 x3)) + (x4 + y0)) ∧ (0 ≤ x3 ∧ x3 < 200)) ∧ CV g M_Mo_tell [vR 708, vI (48 + x6), vL ((x3 * (D4 717 x3)) + (x4 + y0)), vL (D4 717 x3)] D4 (fun D' => Sg g M_Mo_workPlan Q 196 [vR 708, vU, vI x2, vI x3, vL (x4 + y0), vU, vI x6, vL y0, vU] [] D'))))) : Sg g M_Mo_workPlan Q 136 [vR 708, z1, vI x2, vI x3, vL x4, vU, vI x6, z7, z8] [vL y0] D := by
  unfold Sg
  refine q_mask [false, true, false, false, false, false, false, true, true] (L' := [vR 708, vU, vI x2, vI x3, vL x4, vU, vI x6, vU, vU]) rfl ?_
  obtain ⟨⟨o1, o2, o3⟩, h⟩ := h
  refine q_lstore d_Mo_workPlan_136 (by decide) (L' := [vR 708, vU, vI x2, vI x3, vL x4, vU, vI x6, vL y0, vU]) rfl ?_
  refine q_aload_n d_Mo_workPlan_138 rfl ?_
  refine p_getR (k := 19) (b := 722) zc_Mo l_Mo_51 fr_Mo_left d_Mo_workPlan_139 zk_708 rfl ?_
  refine q_iload d_Mo_workPlan_142 rfl ?_
  refine q_dup2 d_Mo_workPlan_144 ⟨rfl, rfl⟩ ?_
  refine p_lald d_Mo_workPlan_145 zk_722 o1 ?_
  refine q_lload d_Mo_workPlan_146 rfl ?_
  refine q_lsub d_Mo_workPlan_148 o2 ?_
  refine p_last d_Mo_workPlan_149 zk_722 o3 (fun D4 e5 => ?_)
  have h := h D4 e5
  obtain ⟨⟨o6, o7⟩, h⟩ := h
  refine q_lload d_Mo_workPlan_150 rfl ?_
  refine q_lload d_Mo_workPlan_152 rfl ?_
  refine q_ladd d_Mo_workPlan_154 o6 ?_
  refine q_lstore d_Mo_workPlan_155 (by decide) (L' := [vR 708, vU, vI x2, vI x3, vL (x4 + y0), vU, vI x6, vL y0, vU]) rfl ?_
  refine q_aload_n d_Mo_workPlan_157 rfl ?_
  refine p_getR (k := 19) (b := 722) zc_Mo l_Mo_51 fr_Mo_left d_Mo_workPlan_158 zk_708 rfl ?_
  refine q_iload d_Mo_workPlan_161 rfl ?_
  refine p_lald d_Mo_workPlan_163 zk_722 o7 ?_
  refine q_lconst (x := 0) d_Mo_workPlan_164 ⟨rfl, by decide⟩ ?_
  refine q_lcmp d_Mo_workPlan_165 ?_
  refine q_if_ne (tgt := 196) d_Mo_workPlan_166 (by decide) (fun c8 => ?_) (fun c8 => ?_)
  · have h := h.1 (zcmp_ne.mp c8)
    exact h
  · have h := h.2 (zcmp_eq.mp c8)
    obtain ⟨⟨o9, o10, o11, o12, o13⟩, h⟩ := h
    refine q_aload_n d_Mo_workPlan_169 rfl ?_
    refine q_bipush d_Mo_workPlan_170 kb_48 ?_
    refine q_iload d_Mo_workPlan_172 rfl ?_
    refine q_iadd d_Mo_workPlan_174 o9 ?_
    refine q_iload_n d_Mo_workPlan_175 rfl ?_
    refine q_i2l d_Mo_workPlan_176 ?_
    refine q_aload_n d_Mo_workPlan_177 rfl ?_
    refine p_getR (k := 14) (b := 717) zc_Mo l_Mo_35 fr_Mo_above d_Mo_workPlan_178 zk_708 rfl ?_
    refine q_iload_n d_Mo_workPlan_181 rfl ?_
    refine p_lald d_Mo_workPlan_182 zk_717 o10 ?_
    refine q_lmul d_Mo_workPlan_183 o11 ?_
    refine q_lload d_Mo_workPlan_184 rfl ?_
    refine q_ladd d_Mo_workPlan_186 o12 ?_
    refine q_aload_n d_Mo_workPlan_187 rfl ?_
    refine p_getR (k := 14) (b := 717) zc_Mo l_Mo_35 fr_Mo_above d_Mo_workPlan_188 zk_708 rfl ?_
    refine q_iload_n d_Mo_workPlan_191 rfl ?_
    refine p_lald d_Mo_workPlan_192 zk_717 o13 ?_
    refine p_callV (as := [vI (48 + x6), vL ((x3 * (D4 717 x3)) + (x4 + y0)), vL (D4 717 x3)]) (st := []) (a := 708) mc_Mo_tell mv_Mo_tell l_Mo_180 zc_Mo rfl d_Mo_workPlan_193 rfl rfl rfl zk_708 (CV.to ?_)
    exact h
theorem s_Mo_workPlan_196 {z1 : VV} {x2 : Int} {x3 : Int} {x4 : Int} {z6 : VV} {z7 : VV} {z8 : VV}  (h : CI g M_Mo_nextJob [vR 708, vI x3] D (fun v1 D' => Sg g M_Mo_workPlan Q 201 [vR 708, vU, vI x2, vI x3, vL x4, vU, vU, vU, vU] [vI v1] D')) : Sg g M_Mo_workPlan Q 196 [vR 708, z1, vI x2, vI x3, vL x4, vU, z6, z7, z8] [] D := by
  unfold Sg
  refine q_mask [false, true, false, false, false, false, true, true, true] (L' := [vR 708, vU, vI x2, vI x3, vL x4, vU, vU, vU, vU]) rfl ?_
  refine q_aload_n d_Mo_workPlan_196 rfl ?_
  refine q_iload_n d_Mo_workPlan_197 rfl ?_
  refine p_callV (as := [vI x3]) (st := []) (a := 708) mc_Mo_nextJob mv_Mo_nextJob l_Mo_176 zc_Mo rfl d_Mo_workPlan_198 rfl rfl rfl zk_708 (CI.to ?_)
  exact h
theorem s_Mo_workPlan_201 {z1 : VV} {x2 : Int} {x3 : Int} {x4 : Int} {z6 : VV} {z7 : VV} {z8 : VV} {y0 : Int}  (h : Sg g M_Mo_workPlan Q 80 [vR 708, vU, vI x2, vI x3, vL x4, vU, vI y0, vU, vU] [] D) : Sg g M_Mo_workPlan Q 201 [vR 708, z1, vI x2, vI x3, vL x4, vU, z6, z7, z8] [vI y0] D := by
  unfold Sg
  refine q_mask [false, true, false, false, false, false, true, true, true] (L' := [vR 708, vU, vI x2, vI x3, vL x4, vU, vU, vU, vU]) rfl ?_
  refine q_istore d_Mo_workPlan_201 (by decide) (L' := [vR 708, vU, vI x2, vI x3, vL x4, vU, vI y0, vU, vU]) rfl ?_
  refine q_goto (tgt := 80) d_Mo_workPlan_203 (by decide) ?_
  exact h
theorem s_Mo_plan_0   (h : (∀ D1, D1 = zw D 708 0 0 → (∀ D3, D3 = zw D1 708 12 0 → (∀ D5, D5 = zw D3 708 10 1 → (∀ D7, D7 = zw D5 708 20 0 → Sg g M_Mo_plan Q 22 [vR 708, vI 0, vU, vU, vU, vU] [] D7))))) : Sg g M_Mo_plan Q 0 [vR 708, vU, vU, vU, vU, vU] [] D := by
  unfold Sg
  refine q_aload_n d_Mo_plan_0 rfl ?_
  refine q_iconst d_Mo_plan_1 (by decide) ?_
  refine p_putI (k := 0) zc_Mo l_Mo_91 fp_Mo_thrown (Or.inl rfl) d_Mo_plan_2 zk_708 (fun D1 e2 => ?_)
  have h := h D1 e2
  refine q_aload_n d_Mo_plan_5 rfl ?_
  refine q_iconst d_Mo_plan_6 (by decide) ?_
  refine p_putI (k := 12) zc_Mo l_Mo_159 fp_Mo_isSplit (Or.inr ⟨rfl, by decide⟩) d_Mo_plan_7 zk_708 (fun D3 e4 => ?_)
  have h := h D3 e4
  refine q_aload_n d_Mo_plan_10 rfl ?_
  refine q_iconst d_Mo_plan_11 (by decide) ?_
  refine p_putI (k := 10) zc_Mo l_Mo_87 fp_Mo_planned (Or.inr ⟨rfl, by decide⟩) d_Mo_plan_12 zk_708 (fun D5 e6 => ?_)
  have h := h D5 e6
  refine q_aload_n d_Mo_plan_15 rfl ?_
  refine q_iconst d_Mo_plan_16 (by decide) ?_
  refine p_putI (k := 20) zc_Mo l_Mo_184 fp_Mo_planSteps (Or.inl rfl) d_Mo_plan_17 zk_708 (fun D7 e8 => ?_)
  have h := h D7 e8
  refine q_iconst d_Mo_plan_20 (by decide) ?_
  refine q_istore_n d_Mo_plan_21 (by decide) (L' := [vR 708, vI 0, vU, vU, vU, vU]) rfl ?_
  exact h
theorem s_Mo_plan_22 {x1 : Int} {z2 : VV} {z3 : VV} {z4 : VV} {z5 : VV}  (h : ((200 ≤ x1 → Sg g M_Mo_plan Q 65 [vR 708, vI 0, vU, vU, vU, vU] [] D) ∧ (¬ 200 ≤ x1 → ((0 ≤ x1 ∧ x1 < 200)) ∧ (∀ D3, D3 = zw D 716 x1 0 → ((0 ≤ x1 ∧ x1 < 200)) ∧ (∀ D6, D6 = zw D3 717 x1 0 → ((0 ≤ x1 ∧ x1 < 200)) ∧ (∀ D9, D9 = zw D6 718 x1 1 → ((0 ≤ x1 ∧ x1 < 200)) ∧ (∀ D12, D12 = zw D9 727 x1 (-1) → (R32 (x1 + 1)) ∧ Sg g M_Mo_plan Q 22 [vR 708, vI (x1 + 1), vU, vU, vU, vU] [] D12))))))) : Sg g M_Mo_plan Q 22 [vR 708, vI x1, z2, z3, z4, z5] [] D := by
  unfold Sg
  refine q_mask [false, false, true, true, true, true] (L' := [vR 708, vI x1, vU, vU, vU, vU]) rfl ?_
  refine q_iload_n d_Mo_plan_22 rfl ?_
  refine q_sipush d_Mo_plan_23 ks_200 ?_
  refine q_icmp_ge (tgt := 63) d_Mo_plan_26 (by decide) (fun c1 => ?_) (fun c1 => ?_)
  · have h := h.1 (c1)
    refine q_iconst d_Mo_plan_63 (by decide) ?_
    refine q_istore_n d_Mo_plan_64 (by decide) (L' := [vR 708, vI 0, vU, vU, vU, vU]) rfl ?_
    exact h
  · have h := h.2 (c1)
    obtain ⟨o2, h⟩ := h
    refine q_aload_n d_Mo_plan_29 rfl ?_
    refine p_getR (k := 13) (b := 716) zc_Mo l_Mo_31 fr_Mo_fixed d_Mo_plan_30 zk_708 rfl ?_
    refine q_iload_n d_Mo_plan_33 rfl ?_
    refine q_iconst d_Mo_plan_34 (by decide) ?_
    refine p_zast d_Mo_plan_35 zk_716 o2 (by decide) (fun D3 e4 => ?_)
    have h := h D3 e4
    obtain ⟨o5, h⟩ := h
    refine q_aload_n d_Mo_plan_36 rfl ?_
    refine p_getR (k := 14) (b := 717) zc_Mo l_Mo_35 fr_Mo_above d_Mo_plan_37 zk_708 rfl ?_
    refine q_iload_n d_Mo_plan_40 rfl ?_
    refine q_lconst (x := 0) d_Mo_plan_41 ⟨rfl, by decide⟩ ?_
    refine p_last d_Mo_plan_42 zk_717 o5 (fun D6 e7 => ?_)
    have h := h D6 e7
    obtain ⟨o8, h⟩ := h
    refine q_aload_n d_Mo_plan_43 rfl ?_
    refine p_getR (k := 15) (b := 718) zc_Mo l_Mo_39 fr_Mo_below d_Mo_plan_44 zk_708 rfl ?_
    refine q_iload_n d_Mo_plan_47 rfl ?_
    refine q_lconst (x := 1) d_Mo_plan_48 ⟨rfl, by decide⟩ ?_
    refine p_last d_Mo_plan_49 zk_718 o8 (fun D9 e10 => ?_)
    have h := h D9 e10
    obtain ⟨o11, h⟩ := h
    refine q_aload_n d_Mo_plan_50 rfl ?_
    refine p_getR (k := 25) (b := 727) zc_Mo l_Mo_66 fr_Mo_planWorks d_Mo_plan_51 zk_708 rfl ?_
    refine q_iload_n d_Mo_plan_54 rfl ?_
    refine q_iconst d_Mo_plan_55 (by decide) ?_
    refine p_iast d_Mo_plan_56 zk_727 o11 (fun D12 e13 => ?_)
    have h := h D12 e13
    obtain ⟨o14, h⟩ := h
    refine q_iinc d_Mo_plan_57 rfl (by decide) o14 (L' := [vR 708, vI (x1 + 1), vU, vU, vU, vU]) rfl ?_
    refine q_goto (tgt := 22) d_Mo_plan_60 (by decide) ?_
    exact h
theorem s_Mo_plan_65 {x1 : Int} {z2 : VV} {z3 : VV} {z4 : VV} {z5 : VV}  (h : (((D 708 3) ≤ x1 → Sg g M_Mo_plan Q 88 [vR 708, vI 1, vU, vU, vU, vU] [] D) ∧ (¬ (D 708 3) ≤ x1 → ((0 ≤ x1 ∧ x1 < 12)) ∧ (∀ D3, D3 = zw D 719 x1 0 → (R32 (x1 + 1)) ∧ Sg g M_Mo_plan Q 65 [vR 708, vI (x1 + 1), vU, vU, vU, vU] [] D3)))) : Sg g M_Mo_plan Q 65 [vR 708, vI x1, z2, z3, z4, z5] [] D := by
  unfold Sg
  refine q_mask [false, false, true, true, true, true] (L' := [vR 708, vI x1, vU, vU, vU, vU]) rfl ?_
  refine q_iload_n d_Mo_plan_65 rfl ?_
  refine q_aload_n d_Mo_plan_66 rfl ?_
  refine p_getI (k := 3) zc_Mo l_Mo_153 fi_Mo_jobs d_Mo_plan_67 zk_708 ?_
  refine q_icmp_ge (tgt := 86) d_Mo_plan_70 (by decide) (fun c1 => ?_) (fun c1 => ?_)
  · have h := h.1 (c1)
    refine q_iconst d_Mo_plan_86 (by decide) ?_
    refine q_istore_n d_Mo_plan_87 (by decide) (L' := [vR 708, vI 1, vU, vU, vU, vU]) rfl ?_
    exact h
  · have h := h.2 (c1)
    obtain ⟨o2, h⟩ := h
    refine q_aload_n d_Mo_plan_73 rfl ?_
    refine p_getR (k := 16) (b := 719) zc_Mo l_Mo_42 fr_Mo_done d_Mo_plan_74 zk_708 rfl ?_
    refine q_iload_n d_Mo_plan_77 rfl ?_
    refine q_iconst d_Mo_plan_78 (by decide) ?_
    refine p_zast d_Mo_plan_79 zk_719 o2 (by decide) (fun D3 e4 => ?_)
    have h := h D3 e4
    obtain ⟨o5, h⟩ := h
    refine q_iinc d_Mo_plan_80 rfl (by decide) o5 (L' := [vR 708, vI (x1 + 1), vU, vU, vU, vU]) rfl ?_
    refine q_goto (tgt := 65) d_Mo_plan_83 (by decide) ?_
    exact h
theorem s_Mo_plan_88 {x1 : Int} {z2 : VV} {z3 : VV} {z4 : VV} {z5 : VV}  (h : ((x1 = 0 → CI g M_Mo_firstRelease [vR 708] D (fun v2 D' => Sg g M_Mo_plan Q 104 [vR 708, vI x1, vU, vU, vU, vU] [vI v2] D')) ∧ (¬ x1 = 0 → CI g M_Mo_fixBest [vR 708] D (fun v3 D' => Sg g M_Mo_plan Q 96 [vR 708, vI x1, vU, vU, vU, vU] [vI v3] D')))) : Sg g M_Mo_plan Q 88 [vR 708, vI x1, z2, z3, z4, z5] [] D := by
  unfold Sg
  refine q_mask [false, false, true, true, true, true] (L' := [vR 708, vI x1, vU, vU, vU, vU]) rfl ?_
  refine q_iload_n d_Mo_plan_88 rfl ?_
  refine q_if_eq (tgt := 100) d_Mo_plan_89 (by decide) (fun c1 => ?_) (fun c1 => ?_)
  · have h := h.1 (c1)
    refine q_aload_n d_Mo_plan_100 rfl ?_
    refine p_callV (as := []) (st := []) (a := 708) mc_Mo_firstRelease mv_Mo_firstRelease l_Mo_191 zc_Mo rfl d_Mo_plan_101 rfl rfl rfl zk_708 (CI.to ?_)
    exact h
  · have h := h.2 (c1)
    refine q_aload_n d_Mo_plan_92 rfl ?_
    refine p_callV (as := []) (st := []) (a := 708) mc_Mo_fixBest mv_Mo_fixBest l_Mo_187 zc_Mo rfl d_Mo_plan_93 rfl rfl rfl zk_708 (CI.to ?_)
    exact h
theorem s_Mo_plan_104 {z1 : VV} {z2 : VV} {z3 : VV} {z4 : VV} {z5 : VV} {y0 : Int}  (h : CI g M_Mo_lastDeadline [vR 708] D (fun v1 D' => Sg g M_Mo_plan Q 109 [vR 708, vU, vI y0, vU, vU, vU] [vI v1] D')) : Sg g M_Mo_plan Q 104 [vR 708, z1, z2, z3, z4, z5] [vI y0] D := by
  unfold Sg
  refine q_mask [false, true, true, true, true, true] (L' := [vR 708, vU, vU, vU, vU, vU]) rfl ?_
  refine q_istore_n d_Mo_plan_104 (by decide) (L' := [vR 708, vU, vI y0, vU, vU, vU]) rfl ?_
  refine q_aload_n d_Mo_plan_105 rfl ?_
  refine p_callV (as := []) (st := []) (a := 708) mc_Mo_lastDeadline mv_Mo_lastDeadline l_Mo_195 zc_Mo rfl d_Mo_plan_106 rfl rfl rfl zk_708 (CI.to ?_)
  exact h
theorem s_Mo_plan_96 {z1 : VV} {z2 : VV} {z3 : VV} {z4 : VV} {z5 : VV} {y0 : Int}  (h : Sg g M_Mo_plan Q 88 [vR 708, vI y0, vU, vU, vU, vU] [] D) : Sg g M_Mo_plan Q 96 [vR 708, z1, z2, z3, z4, z5] [vI y0] D := by
  unfold Sg
  refine q_mask [false, true, true, true, true, true] (L' := [vR 708, vU, vU, vU, vU, vU]) rfl ?_
  refine q_istore_n d_Mo_plan_96 (by decide) (L' := [vR 708, vI y0, vU, vU, vU, vU]) rfl ?_
  refine q_goto (tgt := 88) d_Mo_plan_97 (by decide) ?_
  exact h
theorem s_Mo_plan_109 {z1 : VV} {x2 : Int} {z3 : VV} {z4 : VV} {z5 : VV} {y0 : Int}  (h : CV g M_Mo_workPlan [vR 708, vI x2, vI y0] D (fun D' => Sg g M_Mo_plan Q 116 [vR 708, vU, vI x2, vI y0, vU, vU] [] D')) : Sg g M_Mo_plan Q 109 [vR 708, z1, vI x2, z3, z4, z5] [vI y0] D := by
  unfold Sg
  refine q_mask [false, true, false, true, true, true] (L' := [vR 708, vU, vI x2, vU, vU, vU]) rfl ?_
  refine q_istore_n d_Mo_plan_109 (by decide) (L' := [vR 708, vU, vI x2, vI y0, vU, vU]) rfl ?_
  refine q_aload_n d_Mo_plan_110 rfl ?_
  refine q_iload_n d_Mo_plan_111 rfl ?_
  refine q_iload_n d_Mo_plan_112 rfl ?_
  refine p_callV (as := [vI x2, vI y0]) (st := []) (a := 708) mc_Mo_workPlan mv_Mo_workPlan l_Mo_198 zc_Mo rfl d_Mo_plan_113 rfl rfl rfl zk_708 (CV.to ?_)
  exact h
theorem s_Mo_plan_116 {z1 : VV} {x2 : Int} {x3 : Int} {z4 : VV} {z5 : VV}  (h : Sg g M_Mo_plan Q 119 [vR 708, vU, vI x2, vI x3, vI x2, vU] [] D) : Sg g M_Mo_plan Q 116 [vR 708, z1, vI x2, vI x3, z4, z5] [] D := by
  unfold Sg
  refine q_mask [false, true, false, false, true, true] (L' := [vR 708, vU, vI x2, vI x3, vU, vU]) rfl ?_
  refine q_iload_n d_Mo_plan_116 rfl ?_
  refine q_istore d_Mo_plan_117 (by decide) (L' := [vR 708, vU, vI x2, vI x3, vI x2, vU]) rfl ?_
  exact h
theorem s_Mo_plan_119 {z1 : VV} {z2 : VV} {x3 : Int} {x4 : Int} {z5 : VV}  (h : ((x3 ≤ x4 → CV g M_Mo_set [vR 708, vI 224, vL 0] D (fun D' => Sg g M_Mo_plan Q 290 [vR 708, vU, vU, vI x3, vI x4, vU] [] D')) ∧ (¬ x3 ≤ x4 → (((D 708 20) ≤ 0 → Sg g M_Mo_plan Q 176 [vR 708, vU, vU, vI x3, vI x4, vU] [] D) ∧ (¬ (D 708 20) ≤ 0 → ((0 ≤ x4 ∧ x4 < 200) ∧ R32 (x4 - 1) ∧ (0 ≤ x4 - 1 ∧ x4 - 1 < 200)) ∧ ((¬ (D 717 x4) = (D 717 (x4 - 1)) → Sg g M_Mo_plan Q 176 [vR 708, vU, vU, vI x3, vI x4, vU] [] D) ∧ ((D 717 x4) = (D 717 (x4 - 1)) → ((0 ≤ x4 ∧ x4 < 200) ∧ R32 (x4 - 1) ∧ (0 ≤ x4 - 1 ∧ x4 - 1 < 200)) ∧ ((¬ (D 718 x4) = (D 718 (x4 - 1)) → Sg g M_Mo_plan Q 176 [vR 708, vU, vU, vI x3, vI x4, vU] [] D) ∧ ((D 718 x4) = (D 718 (x4 - 1)) → Sg g M_Mo_plan Q 177 [vR 708, vU, vU, vI x3, vI x4, vU] [vI 1] D))))))))) : Sg g M_Mo_plan Q 119 [vR 708, z1, z2, vI x3, vI x4, z5] [] D := by
  unfold Sg
  refine q_mask [false, true, true, false, false, true] (L' := [vR 708, vU, vU, vI x3, vI x4, vU]) rfl ?_
  refine q_iload d_Mo_plan_119 rfl ?_
  refine q_iload_n d_Mo_plan_121 rfl ?_
  refine q_icmp_ge (tgt := 282) d_Mo_plan_122 (by decide) (fun c1 => ?_) (fun c1 => ?_)
  · have h := h.1 (c1)
    refine q_aload_n d_Mo_plan_282 rfl ?_
    refine q_sipush d_Mo_plan_283 ks_224 ?_
    refine q_lconst (x := 0) d_Mo_plan_286 ⟨rfl, by decide⟩ ?_
    refine p_callV (as := [vI 224, vL 0]) (st := []) (a := 708) mc_Mo_set mv_Mo_set l_Mo_127 zc_Mo rfl d_Mo_plan_287 rfl rfl rfl zk_708 (CV.to ?_)
    exact h
  · have h := h.2 (c1)
    refine q_aload_n d_Mo_plan_125 rfl ?_
    refine p_getI (k := 20) zc_Mo l_Mo_184 fi_Mo_planSteps d_Mo_plan_126 zk_708 ?_
    refine q_if_le (tgt := 176) d_Mo_plan_129 (by decide) (fun c3 => ?_) (fun c3 => ?_)
    · have h := h.1 (c3)
      exact h
    · have h := h.2 (c3)
      obtain ⟨⟨o4, o5, o6⟩, h⟩ := h
      refine q_aload_n d_Mo_plan_132 rfl ?_
      refine p_getR (k := 14) (b := 717) zc_Mo l_Mo_35 fr_Mo_above d_Mo_plan_133 zk_708 rfl ?_
      refine q_iload d_Mo_plan_136 rfl ?_
      refine p_lald d_Mo_plan_138 zk_717 o4 ?_
      refine q_aload_n d_Mo_plan_139 rfl ?_
      refine p_getR (k := 14) (b := 717) zc_Mo l_Mo_35 fr_Mo_above d_Mo_plan_140 zk_708 rfl ?_
      refine q_iload d_Mo_plan_143 rfl ?_
      refine q_iconst d_Mo_plan_145 (by decide) ?_
      refine q_isub d_Mo_plan_146 o5 ?_
      refine p_lald d_Mo_plan_147 zk_717 o6 ?_
      refine q_lcmp d_Mo_plan_148 ?_
      refine q_if_ne (tgt := 176) d_Mo_plan_149 (by decide) (fun c7 => ?_) (fun c7 => ?_)
      · have h := h.1 (zcmp_ne.mp c7)
        exact h
      · have h := h.2 (zcmp_eq.mp c7)
        obtain ⟨⟨o8, o9, o10⟩, h⟩ := h
        refine q_aload_n d_Mo_plan_152 rfl ?_
        refine p_getR (k := 15) (b := 718) zc_Mo l_Mo_39 fr_Mo_below d_Mo_plan_153 zk_708 rfl ?_
        refine q_iload d_Mo_plan_156 rfl ?_
        refine p_lald d_Mo_plan_158 zk_718 o8 ?_
        refine q_aload_n d_Mo_plan_159 rfl ?_
        refine p_getR (k := 15) (b := 718) zc_Mo l_Mo_39 fr_Mo_below d_Mo_plan_160 zk_708 rfl ?_
        refine q_iload d_Mo_plan_163 rfl ?_
        refine q_iconst d_Mo_plan_165 (by decide) ?_
        refine q_isub d_Mo_plan_166 o9 ?_
        refine p_lald d_Mo_plan_167 zk_718 o10 ?_
        refine q_lcmp d_Mo_plan_168 ?_
        refine q_if_ne (tgt := 176) d_Mo_plan_169 (by decide) (fun c11 => ?_) (fun c11 => ?_)
        · have h := h.1 (zcmp_ne.mp c11)
          exact h
        · have h := h.2 (zcmp_eq.mp c11)
          refine q_iconst d_Mo_plan_172 (by decide) ?_
          refine q_goto (tgt := 177) d_Mo_plan_173 (by decide) ?_
          exact h
theorem s_Mo_plan_290 {z1 : VV} {z2 : VV} {z3 : VV} {z4 : VV} {z5 : VV}  (h : CV g M_Mo_set [vR 708, vI 225, vL 1] D (fun D' => Sg g M_Mo_plan Q 298 [vR 708, vU, vU, vU, vU, vU] [] D')) : Sg g M_Mo_plan Q 290 [vR 708, z1, z2, z3, z4, z5] [] D := by
  unfold Sg
  refine q_mask [false, true, true, true, true, true] (L' := [vR 708, vU, vU, vU, vU, vU]) rfl ?_
  refine q_aload_n d_Mo_plan_290 rfl ?_
  refine q_sipush d_Mo_plan_291 ks_225 ?_
  refine q_lconst (x := 1) d_Mo_plan_294 ⟨rfl, by decide⟩ ?_
  refine p_callV (as := [vI 225, vL 1]) (st := []) (a := 708) mc_Mo_set mv_Mo_set l_Mo_127 zc_Mo rfl d_Mo_plan_295 rfl rfl rfl zk_708 (CV.to ?_)
  exact h
theorem s_Mo_plan_176 {z1 : VV} {z2 : VV} {x3 : Int} {x4 : Int} {z5 : VV}  (h : Sg g M_Mo_plan Q 177 [vR 708, vU, vU, vI x3, vI x4, vU] [vI 0] D) : Sg g M_Mo_plan Q 176 [vR 708, z1, z2, vI x3, vI x4, z5] [] D := by
  unfold Sg
  refine q_mask [false, true, true, false, false, true] (L' := [vR 708, vU, vU, vI x3, vI x4, vU]) rfl ?_
  refine q_iconst d_Mo_plan_176 (by decide) ?_
  exact h
theorem s_Mo_plan_177 {z1 : VV} {z2 : VV} {x3 : Int} {x4 : Int} {z5 : VV} {y0 : Int}  (h : ((¬ y0 = 0 → Sg g M_Mo_plan Q 261 [vR 708, vU, vU, vI x3, vI x4, vI y0] [] D) ∧ (y0 = 0 → ((0 ≤ D 708 20 ∧ D 708 20 < 24)) ∧ (∀ D3, D3 = zw D 723 (D 708 20) x4 → ((0 ≤ x4 ∧ x4 < 200) ∧ (0 ≤ D3 708 20 ∧ D3 708 20 < 24)) ∧ (∀ D7, D7 = zw D3 725 (D3 708 20) (D3 717 x4) → ((0 ≤ x4 ∧ x4 < 200) ∧ (0 ≤ D7 708 20 ∧ D7 708 20 < 24)) ∧ (∀ D11, D11 = zw D7 726 (D7 708 20) (D7 718 x4) → (R32 (0 + (D11 708 20)) ∧ (0 ≤ x4 ∧ x4 < 200) ∧ (0 ≤ x4 ∧ x4 < 200)) ∧ CV g M_Mo_tell [vR 708, vI (0 + (D11 708 20)), vL (D11 717 x4), vL (D11 718 x4)] D11 (fun D' => Sg g M_Mo_plan Q 251 [vR 708, vU, vU, vI x3, vI x4, vI y0] [] D'))))))) : Sg g M_Mo_plan Q 177 [vR 708, z1, z2, vI x3, vI x4, z5] [vI y0] D := by
  unfold Sg
  refine q_mask [false, true, true, false, false, true] (L' := [vR 708, vU, vU, vI x3, vI x4, vU]) rfl ?_
  refine q_istore d_Mo_plan_177 (by decide) (L' := [vR 708, vU, vU, vI x3, vI x4, vI y0]) rfl ?_
  refine q_iload d_Mo_plan_179 rfl ?_
  refine q_if_ne (tgt := 261) d_Mo_plan_181 (by decide) (fun c1 => ?_) (fun c1 => ?_)
  · have h := h.1 (c1)
    exact h
  · have h := h.2 (c1)
    obtain ⟨o2, h⟩ := h
    refine q_aload_n d_Mo_plan_184 rfl ?_
    refine p_getR (k := 21) (b := 723) zc_Mo l_Mo_54 fr_Mo_planBegins d_Mo_plan_185 zk_708 rfl ?_
    refine q_aload_n d_Mo_plan_188 rfl ?_
    refine p_getI (k := 20) zc_Mo l_Mo_184 fi_Mo_planSteps d_Mo_plan_189 zk_708 ?_
    refine q_iload d_Mo_plan_192 rfl ?_
    refine p_iast d_Mo_plan_194 zk_723 o2 (fun D3 e4 => ?_)
    have h := h D3 e4
    obtain ⟨⟨o5, o6⟩, h⟩ := h
    refine q_aload_n d_Mo_plan_195 rfl ?_
    refine p_getR (k := 23) (b := 725) zc_Mo l_Mo_60 fr_Mo_stepAbove d_Mo_plan_196 zk_708 rfl ?_
    refine q_aload_n d_Mo_plan_199 rfl ?_
    refine p_getI (k := 20) zc_Mo l_Mo_184 fi_Mo_planSteps d_Mo_plan_200 zk_708 ?_
    refine q_aload_n d_Mo_plan_203 rfl ?_
    refine p_getR (k := 14) (b := 717) zc_Mo l_Mo_35 fr_Mo_above d_Mo_plan_204 zk_708 rfl ?_
    refine q_iload d_Mo_plan_207 rfl ?_
    refine p_lald d_Mo_plan_209 zk_717 o5 ?_
    refine p_last d_Mo_plan_210 zk_725 o6 (fun D7 e8 => ?_)
    have h := h D7 e8
    obtain ⟨⟨o9, o10⟩, h⟩ := h
    refine q_aload_n d_Mo_plan_211 rfl ?_
    refine p_getR (k := 24) (b := 726) zc_Mo l_Mo_63 fr_Mo_stepBelow d_Mo_plan_212 zk_708 rfl ?_
    refine q_aload_n d_Mo_plan_215 rfl ?_
    refine p_getI (k := 20) zc_Mo l_Mo_184 fi_Mo_planSteps d_Mo_plan_216 zk_708 ?_
    refine q_aload_n d_Mo_plan_219 rfl ?_
    refine p_getR (k := 15) (b := 718) zc_Mo l_Mo_39 fr_Mo_below d_Mo_plan_220 zk_708 rfl ?_
    refine q_iload d_Mo_plan_223 rfl ?_
    refine p_lald d_Mo_plan_225 zk_718 o9 ?_
    refine p_last d_Mo_plan_226 zk_726 o10 (fun D11 e12 => ?_)
    have h := h D11 e12
    obtain ⟨⟨o13, o14, o15⟩, h⟩ := h
    refine q_aload_n d_Mo_plan_227 rfl ?_
    refine q_iconst d_Mo_plan_228 (by decide) ?_
    refine q_aload_n d_Mo_plan_229 rfl ?_
    refine p_getI (k := 20) zc_Mo l_Mo_184 fi_Mo_planSteps d_Mo_plan_230 zk_708 ?_
    refine q_iadd d_Mo_plan_233 o13 ?_
    refine q_aload_n d_Mo_plan_234 rfl ?_
    refine p_getR (k := 14) (b := 717) zc_Mo l_Mo_35 fr_Mo_above d_Mo_plan_235 zk_708 rfl ?_
    refine q_iload d_Mo_plan_238 rfl ?_
    refine p_lald d_Mo_plan_240 zk_717 o14 ?_
    refine q_aload_n d_Mo_plan_241 rfl ?_
    refine p_getR (k := 15) (b := 718) zc_Mo l_Mo_39 fr_Mo_below d_Mo_plan_242 zk_708 rfl ?_
    refine q_iload d_Mo_plan_245 rfl ?_
    refine p_lald d_Mo_plan_247 zk_718 o15 ?_
    refine p_callV (as := [vI (0 + (D11 708 20)), vL (D11 717 x4), vL (D11 718 x4)]) (st := []) (a := 708) mc_Mo_tell mv_Mo_tell l_Mo_180 zc_Mo rfl d_Mo_plan_248 rfl rfl rfl zk_708 (CV.to ?_)
    exact h
theorem s_Mo_plan_298 {z1 : VV} {z2 : VV} {z3 : VV} {z4 : VV} {z5 : VV}  (h : Sg g M_Mo_plan Q 301 [vR 708, vU, vU, vU, vI 0, vU] [] D) : Sg g M_Mo_plan Q 298 [vR 708, z1, z2, z3, z4, z5] [] D := by
  unfold Sg
  refine q_mask [false, true, true, true, true, true] (L' := [vR 708, vU, vU, vU, vU, vU]) rfl ?_
  refine q_iconst d_Mo_plan_298 (by decide) ?_
  refine q_istore d_Mo_plan_299 (by decide) (L' := [vR 708, vU, vU, vU, vI 0, vU]) rfl ?_
  exact h
theorem s_Mo_plan_261 {z1 : VV} {z2 : VV} {x3 : Int} {x4 : Int} {z5 : VV}  (h : (R32 ((D 708 20) - 1) ∧ R32 (x4 + 1) ∧ (0 ≤ (D 708 20) - 1 ∧ (D 708 20) - 1 < 24)) ∧ (∀ D4, D4 = zw D 724 ((D 708 20) - 1) (x4 + 1) → (R32 (x4 + 1)) ∧ Sg g M_Mo_plan Q 119 [vR 708, vU, vU, vI x3, vI (x4 + 1), vU] [] D4)) : Sg g M_Mo_plan Q 261 [vR 708, z1, z2, vI x3, vI x4, z5] [] D := by
  unfold Sg
  refine q_mask [false, true, true, false, false, true] (L' := [vR 708, vU, vU, vI x3, vI x4, vU]) rfl ?_
  obtain ⟨⟨o1, o2, o3⟩, h⟩ := h
  refine q_aload_n d_Mo_plan_261 rfl ?_
  refine p_getR (k := 22) (b := 724) zc_Mo l_Mo_57 fr_Mo_planEnds d_Mo_plan_262 zk_708 rfl ?_
  refine q_aload_n d_Mo_plan_265 rfl ?_
  refine p_getI (k := 20) zc_Mo l_Mo_184 fi_Mo_planSteps d_Mo_plan_266 zk_708 ?_
  refine q_iconst d_Mo_plan_269 (by decide) ?_
  refine q_isub d_Mo_plan_270 o1 ?_
  refine q_iload d_Mo_plan_271 rfl ?_
  refine q_iconst d_Mo_plan_273 (by decide) ?_
  refine q_iadd d_Mo_plan_274 o2 ?_
  refine p_iast d_Mo_plan_275 zk_724 o3 (fun D4 e5 => ?_)
  have h := h D4 e5
  obtain ⟨o6, h⟩ := h
  refine q_iinc d_Mo_plan_276 rfl (by decide) o6 (L' := [vR 708, vU, vU, vI x3, vI (x4 + 1), vU]) rfl ?_
  refine q_goto (tgt := 119) d_Mo_plan_279 (by decide) ?_
  exact h
theorem s_Mo_plan_251 {z1 : VV} {z2 : VV} {x3 : Int} {x4 : Int} {z5 : VV}  (h : (R32 ((D 708 20) + 1)) ∧ (∀ D2, D2 = zw D 708 20 ((D 708 20) + 1) → Sg g M_Mo_plan Q 261 [vR 708, vU, vU, vI x3, vI x4, vU] [] D2)) : Sg g M_Mo_plan Q 251 [vR 708, z1, z2, vI x3, vI x4, z5] [] D := by
  unfold Sg
  refine q_mask [false, true, true, false, false, true] (L' := [vR 708, vU, vU, vI x3, vI x4, vU]) rfl ?_
  obtain ⟨o1, h⟩ := h
  refine q_aload_n d_Mo_plan_251 rfl ?_
  refine q_dup d_Mo_plan_252 rfl ?_
  refine p_getI (k := 20) zc_Mo l_Mo_184 fi_Mo_planSteps d_Mo_plan_253 zk_708 ?_
  refine q_iconst d_Mo_plan_256 (by decide) ?_
  refine q_iadd d_Mo_plan_257 o1 ?_
  refine p_putI (k := 20) zc_Mo l_Mo_184 fp_Mo_planSteps (Or.inl rfl) d_Mo_plan_258 zk_708 (fun D2 e3 => ?_)
  have h := h D2 e3
  exact h
theorem s_Mo_plan_301 {z1 : VV} {z2 : VV} {z3 : VV} {x4 : Int} {z5 : VV}  (h : (((D 708 20) ≤ x4 → CV g M_Mo_keep [vR 708, vI 112, vI 108] D (fun D' => Sg g M_Mo_plan Q 347 [vR 708, vU, vU, vU, vI x4, vU] [] D')) ∧ (¬ (D 708 20) ≤ x4 → (R32 (0 + x4) ∧ (0 ≤ x4 ∧ x4 < 24) ∧ (0 ≤ x4 ∧ x4 < 24) ∧ R32 ((D 724 x4) - (D 723 x4))) ∧ CV g M_Mo_sumCube [vR 708, vI (0 + x4), vI ((D 724 x4) - (D 723 x4))] D (fun D' => Sg g M_Mo_plan Q 333 [vR 708, vU, vU, vU, vI x4, vU] [] D')))) : Sg g M_Mo_plan Q 301 [vR 708, z1, z2, z3, vI x4, z5] [] D := by
  unfold Sg
  refine q_mask [false, true, true, true, false, true] (L' := [vR 708, vU, vU, vU, vI x4, vU]) rfl ?_
  refine q_iload d_Mo_plan_301 rfl ?_
  refine q_aload_n d_Mo_plan_303 rfl ?_
  refine p_getI (k := 20) zc_Mo l_Mo_184 fi_Mo_planSteps d_Mo_plan_304 zk_708 ?_
  refine q_icmp_ge (tgt := 339) d_Mo_plan_307 (by decide) (fun c1 => ?_) (fun c1 => ?_)
  · have h := h.1 (c1)
    refine q_aload_n d_Mo_plan_339 rfl ?_
    refine q_bipush d_Mo_plan_340 kb_112 ?_
    refine q_bipush d_Mo_plan_342 kb_108 ?_
    refine p_callV (as := [vI 112, vI 108]) (st := []) (a := 708) mc_Mo_keep mv_Mo_keep l_Mo_204 zc_Mo rfl d_Mo_plan_344 rfl rfl rfl zk_708 (CV.to ?_)
    exact h
  · have h := h.2 (c1)
    obtain ⟨⟨o3, o4, o5, o6⟩, h⟩ := h
    refine q_aload_n d_Mo_plan_310 rfl ?_
    refine q_iconst d_Mo_plan_311 (by decide) ?_
    refine q_iload d_Mo_plan_312 rfl ?_
    refine q_iadd d_Mo_plan_314 o3 ?_
    refine q_aload_n d_Mo_plan_315 rfl ?_
    refine p_getR (k := 22) (b := 724) zc_Mo l_Mo_57 fr_Mo_planEnds d_Mo_plan_316 zk_708 rfl ?_
    refine q_iload d_Mo_plan_319 rfl ?_
    refine p_iald d_Mo_plan_321 zk_724 o4 ?_
    refine q_aload_n d_Mo_plan_322 rfl ?_
    refine p_getR (k := 21) (b := 723) zc_Mo l_Mo_54 fr_Mo_planBegins d_Mo_plan_323 zk_708 rfl ?_
    refine q_iload d_Mo_plan_326 rfl ?_
    refine p_iald d_Mo_plan_328 zk_723 o5 ?_
    refine q_isub d_Mo_plan_329 o6 ?_
    refine p_callV (as := [vI (0 + x4), vI ((D 724 x4) - (D 723 x4))]) (st := []) (a := 708) mc_Mo_sumCube mv_Mo_sumCube l_Mo_201 zc_Mo rfl d_Mo_plan_330 rfl rfl rfl zk_708 (CV.to ?_)
    exact h
theorem s_Mo_plan_347 {z1 : VV} {z2 : VV} {z3 : VV} {z4 : VV} {z5 : VV}  (h : Sg g M_Mo_plan Q 350 [vR 708, vU, vU, vU, vI 0, vU] [] D) : Sg g M_Mo_plan Q 347 [vR 708, z1, z2, z3, z4, z5] [] D := by
  unfold Sg
  refine q_mask [false, true, true, true, true, true] (L' := [vR 708, vU, vU, vU, vU, vU]) rfl ?_
  refine q_iconst d_Mo_plan_347 (by decide) ?_
  refine q_istore d_Mo_plan_348 (by decide) (L' := [vR 708, vU, vU, vU, vI 0, vU]) rfl ?_
  exact h
theorem s_Mo_plan_333 {z1 : VV} {z2 : VV} {z3 : VV} {x4 : Int} {z5 : VV}  (h : (R32 (x4 + 1)) ∧ Sg g M_Mo_plan Q 301 [vR 708, vU, vU, vU, vI (x4 + 1), vU] [] D) : Sg g M_Mo_plan Q 333 [vR 708, z1, z2, z3, vI x4, z5] [] D := by
  unfold Sg
  refine q_mask [false, true, true, true, false, true] (L' := [vR 708, vU, vU, vU, vI x4, vU]) rfl ?_
  obtain ⟨o1, h⟩ := h
  refine q_iinc d_Mo_plan_333 rfl (by decide) o1 (L' := [vR 708, vU, vU, vU, vI (x4 + 1), vU]) rfl ?_
  refine q_goto (tgt := 301) d_Mo_plan_336 (by decide) ?_
  exact h
theorem s_Mo_plan_350 {z1 : VV} {z2 : VV} {z3 : VV} {x4 : Int} {z5 : VV}  (h : (((D 708 3) ≤ x4 → Q (some (vI (D 708 20))) zE D) ∧ (¬ (D 708 3) ≤ x4 → (R32 (72 + x4) ∧ (0 ≤ x4 ∧ x4 < 12) ∧ (0 ≤ x4 ∧ x4 < 12)) ∧ CV g M_Mo_tell [vR 708, vI (72 + x4), vL (D 720 x4), vL (D 721 x4)] D (fun D' => Sg g M_Mo_plan Q 382 [vR 708, vU, vU, vU, vI x4, vU] [] D')))) : Sg g M_Mo_plan Q 350 [vR 708, z1, z2, z3, vI x4, z5] [] D := by
  unfold Sg
  refine q_mask [false, true, true, true, false, true] (L' := [vR 708, vU, vU, vU, vI x4, vU]) rfl ?_
  refine q_iload d_Mo_plan_350 rfl ?_
  refine q_aload_n d_Mo_plan_352 rfl ?_
  refine p_getI (k := 3) zc_Mo l_Mo_153 fi_Mo_jobs d_Mo_plan_353 zk_708 ?_
  refine q_icmp_ge (tgt := 388) d_Mo_plan_356 (by decide) (fun c1 => ?_) (fun c1 => ?_)
  · have h := h.1 (c1)
    refine q_aload_n d_Mo_plan_388 rfl ?_
    refine p_getI (k := 20) zc_Mo l_Mo_184 fi_Mo_planSteps d_Mo_plan_389 zk_708 ?_
    exact q_iret d_Mo_plan_392 (Or.inl rfl) ⟨Nat.le_refl _, Nat.le_refl _⟩ h
  · have h := h.2 (c1)
    obtain ⟨⟨o2, o3, o4⟩, h⟩ := h
    refine q_aload_n d_Mo_plan_359 rfl ?_
    refine q_bipush d_Mo_plan_360 kb_72 ?_
    refine q_iload d_Mo_plan_362 rfl ?_
    refine q_iadd d_Mo_plan_364 o2 ?_
    refine q_aload_n d_Mo_plan_365 rfl ?_
    refine p_getR (k := 17) (b := 720) zc_Mo l_Mo_45 fr_Mo_jobAbove d_Mo_plan_366 zk_708 rfl ?_
    refine q_iload d_Mo_plan_369 rfl ?_
    refine p_lald d_Mo_plan_371 zk_720 o3 ?_
    refine q_aload_n d_Mo_plan_372 rfl ?_
    refine p_getR (k := 18) (b := 721) zc_Mo l_Mo_48 fr_Mo_jobBelow d_Mo_plan_373 zk_708 rfl ?_
    refine q_iload d_Mo_plan_376 rfl ?_
    refine p_lald d_Mo_plan_378 zk_721 o4 ?_
    refine p_callV (as := [vI (72 + x4), vL (D 720 x4), vL (D 721 x4)]) (st := []) (a := 708) mc_Mo_tell mv_Mo_tell l_Mo_180 zc_Mo rfl d_Mo_plan_379 rfl rfl rfl zk_708 (CV.to ?_)
    exact h
theorem s_Mo_plan_382 {z1 : VV} {z2 : VV} {z3 : VV} {x4 : Int} {z5 : VV}  (h : (R32 (x4 + 1)) ∧ Sg g M_Mo_plan Q 350 [vR 708, vU, vU, vU, vI (x4 + 1), vU] [] D) : Sg g M_Mo_plan Q 382 [vR 708, z1, z2, z3, vI x4, z5] [] D := by
  unfold Sg
  refine q_mask [false, true, true, true, false, true] (L' := [vR 708, vU, vU, vU, vI x4, vU]) rfl ?_
  obtain ⟨o1, h⟩ := h
  refine q_iinc d_Mo_plan_382 rfl (by decide) o1 (L' := [vR 708, vU, vU, vU, vI (x4 + 1), vU]) rfl ?_
  refine q_goto (tgt := 350) d_Mo_plan_385 (by decide) ?_
  exact h
end SEG
