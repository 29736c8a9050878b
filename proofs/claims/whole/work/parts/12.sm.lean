/-! printed by wip/whole/tools/seg.py: Fr_setSmall, Fr_copyFrom, Fr_isSame, Fr_asBinary, Jo_has, Jo_add, Jo_firstRelease, Jo_lastDeadline, Jo_nextRelease, Jo_isWithin, Jo_workWithin, Jo_allWork, Le_has, Le_rateOf, Le_costOf, Le_add, Le_leastFor, Le_areConvex, Pr_empty, Pr_hasStep, Pr_append, Pr_lengthWithin -/
theorem zk_1 : zk 1 = (0, 1, 0) := by decide +kernel
theorem zk_2 : zk 2 = (1, 12, 0) := by decide +kernel
theorem zk_3 : zk 3 = (1, 12, 0) := by decide +kernel
theorem zk_4 : zk 4 = (1, 12, 0) := by decide +kernel
theorem zk_5 : zk 5 = (1, 12, 0) := by decide +kernel
theorem zk_6 : zk 6 = (0, 2, 0) := by decide +kernel
theorem zk_7 : zk 7 = (1, 8, 0) := by decide +kernel
theorem zk_8 : zk 8 = (1, 8, 0) := by decide +kernel
theorem kb_8 : (Int8.ofInt 8).toInt32 = Int32.ofInt 8 ∧ R32 8 := ⟨by decide +kernel, by decide⟩
theorem kb_12 : (Int8.ofInt 12).toInt32 = Int32.ofInt 12 ∧ R32 12 := ⟨by decide +kernel, by decide⟩
theorem kb_24 : (Int8.ofInt 24).toInt32 = Int32.ofInt 24 ∧ R32 24 := ⟨by decide +kernel, by decide⟩
theorem ks_200 : (Int16.ofInt 200).toInt32 = Int32.ofInt 200 ∧ R32 200 := ⟨by decide +kernel, by decide⟩
theorem fi_Jo_count : 0 < 5 ∧ (zft 1 0).1 ≠ 2 ∧ ((0 : Nat) : Int) = 0 := ⟨by decide, by decide +kernel, rfl⟩
theorem fi_Le_count : 0 < 3 ∧ (zft 2 0).1 ≠ 2 ∧ ((0 : Nat) : Int) = 0 := ⟨by decide, by decide +kernel, rfl⟩
theorem fi_Pr_ready : 0 < 8 ∧ (zft 5 0).1 ≠ 2 ∧ ((0 : Nat) : Int) = 0 := ⟨by decide, by decide +kernel, rfl⟩
theorem fi_Pr_steps : 1 < 8 ∧ (zft 5 1).1 ≠ 2 ∧ ((1 : Nat) : Int) = 1 := ⟨by decide, by decide +kernel, rfl⟩
theorem fr_Fr_below : 1 < 2 ∧ zft 4 1 = (2, 3) := ⟨by decide, by decide +kernel⟩
theorem fr_Fr_top : 0 < 2 ∧ zft 4 0 = (2, 1) := ⟨by decide, by decide +kernel⟩
theorem fr_Jo_byDeadline : 4 < 5 ∧ zft 1 4 = (2, 4) := ⟨by decide, by decide +kernel⟩
theorem fr_Jo_deadline : 2 < 5 ∧ zft 1 2 = (2, 2) := ⟨by decide, by decide +kernel⟩
theorem fr_Jo_release : 1 < 5 ∧ zft 1 1 = (2, 1) := ⟨by decide, by decide +kernel⟩
theorem fr_Jo_work : 3 < 5 ∧ zft 1 3 = (2, 3) := ⟨by decide, by decide +kernel⟩
theorem fr_Le_costs : 2 < 3 ∧ zft 2 2 = (2, 2) := ⟨by decide, by decide +kernel⟩
theorem fr_Le_rates : 1 < 3 ∧ zft 2 1 = (2, 1) := ⟨by decide, by decide +kernel⟩
theorem fr_Pr_begin : 2 < 8 ∧ zft 5 2 = (2, 1) := ⟨by decide, by decide +kernel⟩
theorem fr_Pr_end : 3 < 8 ∧ zft 5 3 = (2, 2) := ⟨by decide, by decide +kernel⟩
theorem fr_Pr_rate : 4 < 8 ∧ zft 5 4 = (2, 3) := ⟨by decide, by decide +kernel⟩
theorem fr_Pr_worker : 6 < 8 ∧ zft 5 6 = (2, 5) := ⟨by decide, by decide +kernel⟩
theorem fp_Jo_count : 0 < 5 ∧ (zft 1 0).1 ≠ 2 ∧ ((0 : Nat) : Int) = 0 ∧ (F_Jo 0).2.2.2 = false := ⟨by decide, by decide +kernel, rfl, rfl⟩
theorem fp_Le_count : 0 < 3 ∧ (zft 2 0).1 ≠ 2 ∧ ((0 : Nat) : Int) = 0 ∧ (F_Le 0).2.2.2 = false := ⟨by decide, by decide +kernel, rfl, rfl⟩
theorem fp_Pr_ready : 0 < 8 ∧ (zft 5 0).1 ≠ 2 ∧ ((0 : Nat) : Int) = 0 ∧ (F_Pr 0).2.2.2 = false := ⟨by decide, by decide +kernel, rfl, rfl⟩
theorem fp_Pr_steps : 1 < 8 ∧ (zft 5 1).1 ≠ 2 ∧ ((1 : Nat) : Int) = 1 ∧ (F_Pr 1).2.2.2 = false := ⟨by decide, by decide +kernel, rfl, rfl⟩
theorem d_Fr_setSmall_0 : decode prog_3_method_2_code 0 = .ok (.lload_n 1, 1) := by decide +kernel
theorem d_Fr_setSmall_1 : decode prog_3_method_2_code 1 = .ok (.lconst 0, 1) := by decide +kernel
theorem d_Fr_setSmall_2 : decode prog_3_method_2_code 2 = .ok (.lcmp, 1) := by decide +kernel
theorem d_Fr_setSmall_3 : decode prog_3_method_2_code 3 = .ok (.ifCond .lt 9, 3) := by decide +kernel
theorem d_Fr_setSmall_6 : decode prog_3_method_2_code 6 = .ok (.lload_n 3, 1) := by decide +kernel
theorem d_Fr_setSmall_7 : decode prog_3_method_2_code 7 = .ok (.lconst 1, 1) := by decide +kernel
theorem d_Fr_setSmall_8 : decode prog_3_method_2_code 8 = .ok (.lcmp, 1) := by decide +kernel
theorem d_Fr_setSmall_9 : decode prog_3_method_2_code 9 = .ok (.ifCond .ge 4, 3) := by decide +kernel
theorem d_Fr_setSmall_12 : decode prog_3_method_2_code 12 = .ok (.return_, 1) := by decide +kernel
theorem d_Fr_setSmall_13 : decode prog_3_method_2_code 13 = .ok (.lload_n 1, 1) := by decide +kernel
theorem d_Fr_setSmall_14 : decode prog_3_method_2_code 14 = .ok (.lload_n 3, 1) := by decide +kernel
theorem d_Fr_setSmall_15 : decode prog_3_method_2_code 15 = .ok (.invokestatic 23, 3) := by decide +kernel
theorem d_Fr_setSmall_18 : decode prog_3_method_2_code 18 = .ok (.lstore 5, 2) := by decide +kernel
theorem d_Fr_setSmall_20 : decode prog_3_method_2_code 20 = .ok (.lload 5, 2) := by decide +kernel
theorem d_Fr_setSmall_22 : decode prog_3_method_2_code 22 = .ok (.lconst 0, 1) := by decide +kernel
theorem d_Fr_setSmall_23 : decode prog_3_method_2_code 23 = .ok (.lcmp, 1) := by decide +kernel
theorem d_Fr_setSmall_24 : decode prog_3_method_2_code 24 = .ok (.ifCond .le 25, 3) := by decide +kernel
theorem d_Fr_setSmall_27 : decode prog_3_method_2_code 27 = .ok (.aload_n 0, 1) := by decide +kernel
theorem d_Fr_setSmall_28 : decode prog_3_method_2_code 28 = .ok (.getfield 10, 3) := by decide +kernel
theorem d_Fr_setSmall_31 : decode prog_3_method_2_code 31 = .ok (.lload_n 1, 1) := by decide +kernel
theorem d_Fr_setSmall_32 : decode prog_3_method_2_code 32 = .ok (.lload 5, 2) := by decide +kernel
theorem d_Fr_setSmall_34 : decode prog_3_method_2_code 34 = .ok (.ldiv, 1) := by decide +kernel
theorem d_Fr_setSmall_35 : decode prog_3_method_2_code 35 = .ok (.invokevirtual 19, 3) := by decide +kernel
theorem d_Fr_setSmall_38 : decode prog_3_method_2_code 38 = .ok (.aload_n 0, 1) := by decide +kernel
theorem d_Fr_setSmall_39 : decode prog_3_method_2_code 39 = .ok (.getfield 16, 3) := by decide +kernel
theorem d_Fr_setSmall_42 : decode prog_3_method_2_code 42 = .ok (.lload_n 3, 1) := by decide +kernel
theorem d_Fr_setSmall_43 : decode prog_3_method_2_code 43 = .ok (.lload 5, 2) := by decide +kernel
theorem d_Fr_setSmall_45 : decode prog_3_method_2_code 45 = .ok (.ldiv, 1) := by decide +kernel
theorem d_Fr_setSmall_46 : decode prog_3_method_2_code 46 = .ok (.invokevirtual 19, 3) := by decide +kernel
theorem d_Fr_setSmall_49 : decode prog_3_method_2_code 49 = .ok (.return_, 1) := by decide +kernel
theorem d_Fr_copyFrom_0 : decode prog_3_method_3_code 0 = .ok (.aload_n 0, 1) := by decide +kernel
theorem d_Fr_copyFrom_1 : decode prog_3_method_3_code 1 = .ok (.getfield 10, 3) := by decide +kernel
theorem d_Fr_copyFrom_4 : decode prog_3_method_3_code 4 = .ok (.aload_n 1, 1) := by decide +kernel
theorem d_Fr_copyFrom_5 : decode prog_3_method_3_code 5 = .ok (.getfield 10, 3) := by decide +kernel
theorem d_Fr_copyFrom_8 : decode prog_3_method_3_code 8 = .ok (.invokevirtual 29, 3) := by decide +kernel
theorem d_Fr_copyFrom_11 : decode prog_3_method_3_code 11 = .ok (.aload_n 0, 1) := by decide +kernel
theorem d_Fr_copyFrom_12 : decode prog_3_method_3_code 12 = .ok (.getfield 16, 3) := by decide +kernel
theorem d_Fr_copyFrom_15 : decode prog_3_method_3_code 15 = .ok (.aload_n 1, 1) := by decide +kernel
theorem d_Fr_copyFrom_16 : decode prog_3_method_3_code 16 = .ok (.getfield 16, 3) := by decide +kernel
theorem d_Fr_copyFrom_19 : decode prog_3_method_3_code 19 = .ok (.invokevirtual 29, 3) := by decide +kernel
theorem d_Fr_copyFrom_22 : decode prog_3_method_3_code 22 = .ok (.return_, 1) := by decide +kernel
theorem d_Fr_isSame_0 : decode prog_3_method_4_code 0 = .ok (.aload_n 0, 1) := by decide +kernel
theorem d_Fr_isSame_1 : decode prog_3_method_4_code 1 = .ok (.getfield 10, 3) := by decide +kernel
theorem d_Fr_isSame_4 : decode prog_3_method_4_code 4 = .ok (.aload_n 1, 1) := by decide +kernel
theorem d_Fr_isSame_5 : decode prog_3_method_4_code 5 = .ok (.getfield 10, 3) := by decide +kernel
theorem d_Fr_isSame_8 : decode prog_3_method_4_code 8 = .ok (.invokevirtual 33, 3) := by decide +kernel
theorem d_Fr_isSame_11 : decode prog_3_method_4_code 11 = .ok (.ifCond .ne 21, 3) := by decide +kernel
theorem d_Fr_isSame_14 : decode prog_3_method_4_code 14 = .ok (.aload_n 0, 1) := by decide +kernel
theorem d_Fr_isSame_15 : decode prog_3_method_4_code 15 = .ok (.getfield 16, 3) := by decide +kernel
theorem d_Fr_isSame_18 : decode prog_3_method_4_code 18 = .ok (.aload_n 1, 1) := by decide +kernel
theorem d_Fr_isSame_19 : decode prog_3_method_4_code 19 = .ok (.getfield 16, 3) := by decide +kernel
theorem d_Fr_isSame_22 : decode prog_3_method_4_code 22 = .ok (.invokevirtual 33, 3) := by decide +kernel
theorem d_Fr_isSame_25 : decode prog_3_method_4_code 25 = .ok (.ifCond .ne 7, 3) := by decide +kernel
theorem d_Fr_isSame_28 : decode prog_3_method_4_code 28 = .ok (.iconst 1, 1) := by decide +kernel
theorem d_Fr_isSame_29 : decode prog_3_method_4_code 29 = .ok (.goto 4, 3) := by decide +kernel
theorem d_Fr_isSame_32 : decode prog_3_method_4_code 32 = .ok (.iconst 0, 1) := by decide +kernel
theorem d_Fr_isSame_33 : decode prog_3_method_4_code 33 = .ok (.ireturn, 1) := by decide +kernel
theorem d_Fr_asBinary_0 : decode prog_3_method_5_code 0 = .ok (.aload_n 0, 1) := by decide +kernel
theorem d_Fr_asBinary_1 : decode prog_3_method_5_code 1 = .ok (.getfield 16, 3) := by decide +kernel
theorem d_Fr_asBinary_4 : decode prog_3_method_5_code 4 = .ok (.invokevirtual 37, 3) := by decide +kernel
theorem d_Fr_asBinary_7 : decode prog_3_method_5_code 7 = .ok (.l2d, 1) := by decide +kernel
theorem d_Fr_asBinary_8 : decode prog_3_method_5_code 8 = .ok (.dstore_n 1, 1) := by decide +kernel
theorem d_Fr_asBinary_9 : decode prog_3_method_5_code 9 = .ok (.dload_n 1, 1) := by decide +kernel
theorem d_Fr_asBinary_10 : decode prog_3_method_5_code 10 = .ok (.dconst 0, 1) := by decide +kernel
theorem d_Fr_asBinary_11 : decode prog_3_method_5_code 11 = .ok (.dcmp .l, 1) := by decide +kernel
theorem d_Fr_asBinary_12 : decode prog_3_method_5_code 12 = .ok (.ifCond .le 16, 3) := by decide +kernel
theorem d_Fr_asBinary_15 : decode prog_3_method_5_code 15 = .ok (.aload_n 0, 1) := by decide +kernel
theorem d_Fr_asBinary_16 : decode prog_3_method_5_code 16 = .ok (.getfield 10, 3) := by decide +kernel
theorem d_Fr_asBinary_19 : decode prog_3_method_5_code 19 = .ok (.invokevirtual 37, 3) := by decide +kernel
theorem d_Fr_asBinary_22 : decode prog_3_method_5_code 22 = .ok (.l2d, 1) := by decide +kernel
theorem d_Fr_asBinary_23 : decode prog_3_method_5_code 23 = .ok (.dload_n 1, 1) := by decide +kernel
theorem d_Fr_asBinary_24 : decode prog_3_method_5_code 24 = .ok (.ddiv, 1) := by decide +kernel
theorem d_Fr_asBinary_25 : decode prog_3_method_5_code 25 = .ok (.goto 4, 3) := by decide +kernel
theorem d_Fr_asBinary_28 : decode prog_3_method_5_code 28 = .ok (.dconst 0, 1) := by decide +kernel
theorem d_Fr_asBinary_29 : decode prog_3_method_5_code 29 = .ok (.dreturn, 1) := by decide +kernel
theorem d_Jo_has_0 : decode prog_4_method_2_code 0 = .ok (.iload_n 1, 1) := by decide +kernel
theorem d_Jo_has_1 : decode prog_4_method_2_code 1 = .ok (.ifCond .lt 15, 3) := by decide +kernel
theorem d_Jo_has_4 : decode prog_4_method_2_code 4 = .ok (.iload_n 1, 1) := by decide +kernel
theorem d_Jo_has_5 : decode prog_4_method_2_code 5 = .ok (.aload_n 0, 1) := by decide +kernel
theorem d_Jo_has_6 : decode prog_4_method_2_code 6 = .ok (.getfield 24, 3) := by decide +kernel
theorem d_Jo_has_9 : decode prog_4_method_2_code 9 = .ok (.if_icmp .ge 7, 3) := by decide +kernel
theorem d_Jo_has_12 : decode prog_4_method_2_code 12 = .ok (.iconst 1, 1) := by decide +kernel
theorem d_Jo_has_13 : decode prog_4_method_2_code 13 = .ok (.goto 4, 3) := by decide +kernel
theorem d_Jo_has_16 : decode prog_4_method_2_code 16 = .ok (.iconst 0, 1) := by decide +kernel
theorem d_Jo_has_17 : decode prog_4_method_2_code 17 = .ok (.ireturn, 1) := by decide +kernel
theorem d_Jo_add_0 : decode prog_4_method_3_code 0 = .ok (.aload_n 0, 1) := by decide +kernel
theorem d_Jo_add_1 : decode prog_4_method_3_code 1 = .ok (.getfield 24, 3) := by decide +kernel
theorem d_Jo_add_4 : decode prog_4_method_3_code 4 = .ok (.bipush 12, 2) := by decide +kernel
theorem d_Jo_add_6 : decode prog_4_method_3_code 6 = .ok (.if_icmp .lt 5, 3) := by decide +kernel
theorem d_Jo_add_9 : decode prog_4_method_3_code 9 = .ok (.iconst (-1), 1) := by decide +kernel
theorem d_Jo_add_10 : decode prog_4_method_3_code 10 = .ok (.ireturn, 1) := by decide +kernel
theorem d_Jo_add_11 : decode prog_4_method_3_code 11 = .ok (.aload_n 0, 1) := by decide +kernel
theorem d_Jo_add_12 : decode prog_4_method_3_code 12 = .ok (.getfield 9, 3) := by decide +kernel
theorem d_Jo_add_15 : decode prog_4_method_3_code 15 = .ok (.aload_n 0, 1) := by decide +kernel
theorem d_Jo_add_16 : decode prog_4_method_3_code 16 = .ok (.getfield 24, 3) := by decide +kernel
theorem d_Jo_add_19 : decode prog_4_method_3_code 19 = .ok (.iload_n 1, 1) := by decide +kernel
theorem d_Jo_add_20 : decode prog_4_method_3_code 20 = .ok (.iastore, 1) := by decide +kernel
theorem d_Jo_add_21 : decode prog_4_method_3_code 21 = .ok (.aload_n 0, 1) := by decide +kernel
theorem d_Jo_add_22 : decode prog_4_method_3_code 22 = .ok (.getfield 15, 3) := by decide +kernel
theorem d_Jo_add_25 : decode prog_4_method_3_code 25 = .ok (.aload_n 0, 1) := by decide +kernel
theorem d_Jo_add_26 : decode prog_4_method_3_code 26 = .ok (.getfield 24, 3) := by decide +kernel
theorem d_Jo_add_29 : decode prog_4_method_3_code 29 = .ok (.iload_n 2, 1) := by decide +kernel
theorem d_Jo_add_30 : decode prog_4_method_3_code 30 = .ok (.iastore, 1) := by decide +kernel
theorem d_Jo_add_31 : decode prog_4_method_3_code 31 = .ok (.aload_n 0, 1) := by decide +kernel
theorem d_Jo_add_32 : decode prog_4_method_3_code 32 = .ok (.getfield 18, 3) := by decide +kernel
theorem d_Jo_add_35 : decode prog_4_method_3_code 35 = .ok (.aload_n 0, 1) := by decide +kernel
theorem d_Jo_add_36 : decode prog_4_method_3_code 36 = .ok (.getfield 24, 3) := by decide +kernel
theorem d_Jo_add_39 : decode prog_4_method_3_code 39 = .ok (.iload_n 3, 1) := by decide +kernel
theorem d_Jo_add_40 : decode prog_4_method_3_code 40 = .ok (.iastore, 1) := by decide +kernel
theorem d_Jo_add_41 : decode prog_4_method_3_code 41 = .ok (.aload_n 0, 1) := by decide +kernel
theorem d_Jo_add_42 : decode prog_4_method_3_code 42 = .ok (.getfield 24, 3) := by decide +kernel
theorem d_Jo_add_45 : decode prog_4_method_3_code 45 = .ok (.istore 4, 2) := by decide +kernel
theorem d_Jo_add_47 : decode prog_4_method_3_code 47 = .ok (.iload 4, 2) := by decide +kernel
theorem d_Jo_add_49 : decode prog_4_method_3_code 49 = .ok (.ifCond .le 43, 3) := by decide +kernel
theorem d_Jo_add_52 : decode prog_4_method_3_code 52 = .ok (.aload_n 0, 1) := by decide +kernel
theorem d_Jo_add_53 : decode prog_4_method_3_code 53 = .ok (.getfield 15, 3) := by decide +kernel
theorem d_Jo_add_56 : decode prog_4_method_3_code 56 = .ok (.aload_n 0, 1) := by decide +kernel
theorem d_Jo_add_57 : decode prog_4_method_3_code 57 = .ok (.getfield 21, 3) := by decide +kernel
theorem d_Jo_add_60 : decode prog_4_method_3_code 60 = .ok (.iload 4, 2) := by decide +kernel
theorem d_Jo_add_62 : decode prog_4_method_3_code 62 = .ok (.iconst 1, 1) := by decide +kernel
theorem d_Jo_add_63 : decode prog_4_method_3_code 63 = .ok (.isub, 1) := by decide +kernel
theorem d_Jo_add_64 : decode prog_4_method_3_code 64 = .ok (.iaload, 1) := by decide +kernel
theorem d_Jo_add_65 : decode prog_4_method_3_code 65 = .ok (.iaload, 1) := by decide +kernel
theorem d_Jo_add_66 : decode prog_4_method_3_code 66 = .ok (.iload_n 2, 1) := by decide +kernel
theorem d_Jo_add_67 : decode prog_4_method_3_code 67 = .ok (.if_icmp .le 25, 3) := by decide +kernel
theorem d_Jo_add_70 : decode prog_4_method_3_code 70 = .ok (.aload_n 0, 1) := by decide +kernel
theorem d_Jo_add_71 : decode prog_4_method_3_code 71 = .ok (.getfield 21, 3) := by decide +kernel
theorem d_Jo_add_74 : decode prog_4_method_3_code 74 = .ok (.iload 4, 2) := by decide +kernel
theorem d_Jo_add_76 : decode prog_4_method_3_code 76 = .ok (.aload_n 0, 1) := by decide +kernel
theorem d_Jo_add_77 : decode prog_4_method_3_code 77 = .ok (.getfield 21, 3) := by decide +kernel
theorem d_Jo_add_80 : decode prog_4_method_3_code 80 = .ok (.iload 4, 2) := by decide +kernel
theorem d_Jo_add_82 : decode prog_4_method_3_code 82 = .ok (.iconst 1, 1) := by decide +kernel
theorem d_Jo_add_83 : decode prog_4_method_3_code 83 = .ok (.isub, 1) := by decide +kernel
theorem d_Jo_add_84 : decode prog_4_method_3_code 84 = .ok (.iaload, 1) := by decide +kernel
theorem d_Jo_add_85 : decode prog_4_method_3_code 85 = .ok (.iastore, 1) := by decide +kernel
theorem d_Jo_add_86 : decode prog_4_method_3_code 86 = .ok (.iinc 4 (-1), 3) := by decide +kernel
theorem d_Jo_add_89 : decode prog_4_method_3_code 89 = .ok (.goto (-42), 3) := by decide +kernel
theorem d_Jo_add_92 : decode prog_4_method_3_code 92 = .ok (.aload_n 0, 1) := by decide +kernel
theorem d_Jo_add_93 : decode prog_4_method_3_code 93 = .ok (.getfield 21, 3) := by decide +kernel
theorem d_Jo_add_96 : decode prog_4_method_3_code 96 = .ok (.iload 4, 2) := by decide +kernel
theorem d_Jo_add_98 : decode prog_4_method_3_code 98 = .ok (.aload_n 0, 1) := by decide +kernel
theorem d_Jo_add_99 : decode prog_4_method_3_code 99 = .ok (.getfield 24, 3) := by decide +kernel
theorem d_Jo_add_102 : decode prog_4_method_3_code 102 = .ok (.iastore, 1) := by decide +kernel
theorem d_Jo_add_103 : decode prog_4_method_3_code 103 = .ok (.aload_n 0, 1) := by decide +kernel
theorem d_Jo_add_104 : decode prog_4_method_3_code 104 = .ok (.dup, 1) := by decide +kernel
theorem d_Jo_add_105 : decode prog_4_method_3_code 105 = .ok (.getfield 24, 3) := by decide +kernel
theorem d_Jo_add_108 : decode prog_4_method_3_code 108 = .ok (.iconst 1, 1) := by decide +kernel
theorem d_Jo_add_109 : decode prog_4_method_3_code 109 = .ok (.iadd, 1) := by decide +kernel
theorem d_Jo_add_110 : decode prog_4_method_3_code 110 = .ok (.putfield 24, 3) := by decide +kernel
theorem d_Jo_add_113 : decode prog_4_method_3_code 113 = .ok (.aload_n 0, 1) := by decide +kernel
theorem d_Jo_add_114 : decode prog_4_method_3_code 114 = .ok (.getfield 24, 3) := by decide +kernel
theorem d_Jo_add_117 : decode prog_4_method_3_code 117 = .ok (.iconst 1, 1) := by decide +kernel
theorem d_Jo_add_118 : decode prog_4_method_3_code 118 = .ok (.isub, 1) := by decide +kernel
theorem d_Jo_add_119 : decode prog_4_method_3_code 119 = .ok (.ireturn, 1) := by decide +kernel
theorem d_Jo_firstRelease_0 : decode prog_4_method_4_code 0 = .ok (.aload_n 0, 1) := by decide +kernel
theorem d_Jo_firstRelease_1 : decode prog_4_method_4_code 1 = .ok (.iconst (-1), 1) := by decide +kernel
theorem d_Jo_firstRelease_2 : decode prog_4_method_4_code 2 = .ok (.iconst 0, 1) := by decide +kernel
theorem d_Jo_firstRelease_3 : decode prog_4_method_4_code 3 = .ok (.invokevirtual 28, 3) := by decide +kernel
theorem d_Jo_firstRelease_6 : decode prog_4_method_4_code 6 = .ok (.ireturn, 1) := by decide +kernel
theorem d_Jo_lastDeadline_0 : decode prog_4_method_5_code 0 = .ok (.aload_n 0, 1) := by decide +kernel
theorem d_Jo_lastDeadline_1 : decode prog_4_method_5_code 1 = .ok (.getfield 24, 3) := by decide +kernel
theorem d_Jo_lastDeadline_4 : decode prog_4_method_5_code 4 = .ok (.ifCond .le 22, 3) := by decide +kernel
theorem d_Jo_lastDeadline_7 : decode prog_4_method_5_code 7 = .ok (.aload_n 0, 1) := by decide +kernel
theorem d_Jo_lastDeadline_8 : decode prog_4_method_5_code 8 = .ok (.getfield 15, 3) := by decide +kernel
theorem d_Jo_lastDeadline_11 : decode prog_4_method_5_code 11 = .ok (.aload_n 0, 1) := by decide +kernel
theorem d_Jo_lastDeadline_12 : decode prog_4_method_5_code 12 = .ok (.getfield 21, 3) := by decide +kernel
theorem d_Jo_lastDeadline_15 : decode prog_4_method_5_code 15 = .ok (.aload_n 0, 1) := by decide +kernel
theorem d_Jo_lastDeadline_16 : decode prog_4_method_5_code 16 = .ok (.getfield 24, 3) := by decide +kernel
theorem d_Jo_lastDeadline_19 : decode prog_4_method_5_code 19 = .ok (.iconst 1, 1) := by decide +kernel
theorem d_Jo_lastDeadline_20 : decode prog_4_method_5_code 20 = .ok (.isub, 1) := by decide +kernel
theorem d_Jo_lastDeadline_21 : decode prog_4_method_5_code 21 = .ok (.iaload, 1) := by decide +kernel
theorem d_Jo_lastDeadline_22 : decode prog_4_method_5_code 22 = .ok (.iaload, 1) := by decide +kernel
theorem d_Jo_lastDeadline_23 : decode prog_4_method_5_code 23 = .ok (.goto 4, 3) := by decide +kernel
theorem d_Jo_lastDeadline_26 : decode prog_4_method_5_code 26 = .ok (.iconst 0, 1) := by decide +kernel
theorem d_Jo_lastDeadline_27 : decode prog_4_method_5_code 27 = .ok (.ireturn, 1) := by decide +kernel
theorem d_Jo_nextRelease_0 : decode prog_4_method_6_code 0 = .ok (.iconst (-1), 1) := by decide +kernel
theorem d_Jo_nextRelease_1 : decode prog_4_method_6_code 1 = .ok (.istore_n 3, 1) := by decide +kernel
theorem d_Jo_nextRelease_2 : decode prog_4_method_6_code 2 = .ok (.iconst 0, 1) := by decide +kernel
theorem d_Jo_nextRelease_3 : decode prog_4_method_6_code 3 = .ok (.istore 4, 2) := by decide +kernel
theorem d_Jo_nextRelease_5 : decode prog_4_method_6_code 5 = .ok (.iload 4, 2) := by decide +kernel
theorem d_Jo_nextRelease_7 : decode prog_4_method_6_code 7 = .ok (.aload_n 0, 1) := by decide +kernel
theorem d_Jo_nextRelease_8 : decode prog_4_method_6_code 8 = .ok (.getfield 24, 3) := by decide +kernel
theorem d_Jo_nextRelease_11 : decode prog_4_method_6_code 11 = .ok (.if_icmp .ge 44, 3) := by decide +kernel
theorem d_Jo_nextRelease_14 : decode prog_4_method_6_code 14 = .ok (.aload_n 0, 1) := by decide +kernel
theorem d_Jo_nextRelease_15 : decode prog_4_method_6_code 15 = .ok (.getfield 9, 3) := by decide +kernel
theorem d_Jo_nextRelease_18 : decode prog_4_method_6_code 18 = .ok (.iload 4, 2) := by decide +kernel
theorem d_Jo_nextRelease_20 : decode prog_4_method_6_code 20 = .ok (.iaload, 1) := by decide +kernel
theorem d_Jo_nextRelease_21 : decode prog_4_method_6_code 21 = .ok (.iload_n 1, 1) := by decide +kernel
theorem d_Jo_nextRelease_22 : decode prog_4_method_6_code 22 = .ok (.if_icmp .le 27, 3) := by decide +kernel
theorem d_Jo_nextRelease_25 : decode prog_4_method_6_code 25 = .ok (.iload_n 3, 1) := by decide +kernel
theorem d_Jo_nextRelease_26 : decode prog_4_method_6_code 26 = .ok (.iconst (-1), 1) := by decide +kernel
theorem d_Jo_nextRelease_27 : decode prog_4_method_6_code 27 = .ok (.if_icmp .eq 14, 3) := by decide +kernel
theorem d_Jo_nextRelease_30 : decode prog_4_method_6_code 30 = .ok (.aload_n 0, 1) := by decide +kernel
theorem d_Jo_nextRelease_31 : decode prog_4_method_6_code 31 = .ok (.getfield 9, 3) := by decide +kernel
theorem d_Jo_nextRelease_34 : decode prog_4_method_6_code 34 = .ok (.iload 4, 2) := by decide +kernel
theorem d_Jo_nextRelease_36 : decode prog_4_method_6_code 36 = .ok (.iaload, 1) := by decide +kernel
theorem d_Jo_nextRelease_37 : decode prog_4_method_6_code 37 = .ok (.iload_n 3, 1) := by decide +kernel
theorem d_Jo_nextRelease_38 : decode prog_4_method_6_code 38 = .ok (.if_icmp .ge 11, 3) := by decide +kernel
theorem d_Jo_nextRelease_41 : decode prog_4_method_6_code 41 = .ok (.aload_n 0, 1) := by decide +kernel
theorem d_Jo_nextRelease_42 : decode prog_4_method_6_code 42 = .ok (.getfield 9, 3) := by decide +kernel
theorem d_Jo_nextRelease_45 : decode prog_4_method_6_code 45 = .ok (.iload 4, 2) := by decide +kernel
theorem d_Jo_nextRelease_47 : decode prog_4_method_6_code 47 = .ok (.iaload, 1) := by decide +kernel
theorem d_Jo_nextRelease_48 : decode prog_4_method_6_code 48 = .ok (.istore_n 3, 1) := by decide +kernel
theorem d_Jo_nextRelease_49 : decode prog_4_method_6_code 49 = .ok (.iinc 4 1, 3) := by decide +kernel
theorem d_Jo_nextRelease_52 : decode prog_4_method_6_code 52 = .ok (.goto (-47), 3) := by decide +kernel
theorem d_Jo_nextRelease_55 : decode prog_4_method_6_code 55 = .ok (.iload_n 3, 1) := by decide +kernel
theorem d_Jo_nextRelease_56 : decode prog_4_method_6_code 56 = .ok (.iconst (-1), 1) := by decide +kernel
theorem d_Jo_nextRelease_57 : decode prog_4_method_6_code 57 = .ok (.if_icmp .ne 7, 3) := by decide +kernel
theorem d_Jo_nextRelease_60 : decode prog_4_method_6_code 60 = .ok (.iload_n 2, 1) := by decide +kernel
theorem d_Jo_nextRelease_61 : decode prog_4_method_6_code 61 = .ok (.goto 4, 3) := by decide +kernel
theorem d_Jo_nextRelease_64 : decode prog_4_method_6_code 64 = .ok (.iload_n 3, 1) := by decide +kernel
theorem d_Jo_nextRelease_65 : decode prog_4_method_6_code 65 = .ok (.ireturn, 1) := by decide +kernel
theorem d_Jo_isWithin_0 : decode prog_4_method_7_code 0 = .ok (.aload_n 0, 1) := by decide +kernel
theorem d_Jo_isWithin_1 : decode prog_4_method_7_code 1 = .ok (.iload_n 1, 1) := by decide +kernel
theorem d_Jo_isWithin_2 : decode prog_4_method_7_code 2 = .ok (.invokevirtual 32, 3) := by decide +kernel
theorem d_Jo_isWithin_5 : decode prog_4_method_7_code 5 = .ok (.ifCond .eq 27, 3) := by decide +kernel
theorem d_Jo_isWithin_8 : decode prog_4_method_7_code 8 = .ok (.aload_n 0, 1) := by decide +kernel
theorem d_Jo_isWithin_9 : decode prog_4_method_7_code 9 = .ok (.getfield 9, 3) := by decide +kernel
theorem d_Jo_isWithin_12 : decode prog_4_method_7_code 12 = .ok (.iload_n 1, 1) := by decide +kernel
theorem d_Jo_isWithin_13 : decode prog_4_method_7_code 13 = .ok (.iaload, 1) := by decide +kernel
theorem d_Jo_isWithin_14 : decode prog_4_method_7_code 14 = .ok (.iload_n 2, 1) := by decide +kernel
theorem d_Jo_isWithin_15 : decode prog_4_method_7_code 15 = .ok (.if_icmp .lt 17, 3) := by decide +kernel
theorem d_Jo_isWithin_18 : decode prog_4_method_7_code 18 = .ok (.aload_n 0, 1) := by decide +kernel
theorem d_Jo_isWithin_19 : decode prog_4_method_7_code 19 = .ok (.getfield 15, 3) := by decide +kernel
theorem d_Jo_isWithin_22 : decode prog_4_method_7_code 22 = .ok (.iload_n 1, 1) := by decide +kernel
theorem d_Jo_isWithin_23 : decode prog_4_method_7_code 23 = .ok (.iaload, 1) := by decide +kernel
theorem d_Jo_isWithin_24 : decode prog_4_method_7_code 24 = .ok (.iload_n 3, 1) := by decide +kernel
theorem d_Jo_isWithin_25 : decode prog_4_method_7_code 25 = .ok (.if_icmp .gt 7, 3) := by decide +kernel
theorem d_Jo_isWithin_28 : decode prog_4_method_7_code 28 = .ok (.iconst 1, 1) := by decide +kernel
theorem d_Jo_isWithin_29 : decode prog_4_method_7_code 29 = .ok (.goto 4, 3) := by decide +kernel
theorem d_Jo_isWithin_32 : decode prog_4_method_7_code 32 = .ok (.iconst 0, 1) := by decide +kernel
theorem d_Jo_isWithin_33 : decode prog_4_method_7_code 33 = .ok (.ireturn, 1) := by decide +kernel
theorem d_Jo_workWithin_0 : decode prog_4_method_8_code 0 = .ok (.iconst 0, 1) := by decide +kernel
theorem d_Jo_workWithin_1 : decode prog_4_method_8_code 1 = .ok (.istore_n 3, 1) := by decide +kernel
theorem d_Jo_workWithin_2 : decode prog_4_method_8_code 2 = .ok (.iconst 0, 1) := by decide +kernel
theorem d_Jo_workWithin_3 : decode prog_4_method_8_code 3 = .ok (.istore 4, 2) := by decide +kernel
theorem d_Jo_workWithin_5 : decode prog_4_method_8_code 5 = .ok (.iload 4, 2) := by decide +kernel
theorem d_Jo_workWithin_7 : decode prog_4_method_8_code 7 = .ok (.aload_n 0, 1) := by decide +kernel
theorem d_Jo_workWithin_8 : decode prog_4_method_8_code 8 = .ok (.getfield 24, 3) := by decide +kernel
theorem d_Jo_workWithin_11 : decode prog_4_method_8_code 11 = .ok (.if_icmp .ge 30, 3) := by decide +kernel
theorem d_Jo_workWithin_14 : decode prog_4_method_8_code 14 = .ok (.aload_n 0, 1) := by decide +kernel
theorem d_Jo_workWithin_15 : decode prog_4_method_8_code 15 = .ok (.iload 4, 2) := by decide +kernel
theorem d_Jo_workWithin_17 : decode prog_4_method_8_code 17 = .ok (.iload_n 1, 1) := by decide +kernel
theorem d_Jo_workWithin_18 : decode prog_4_method_8_code 18 = .ok (.iload_n 2, 1) := by decide +kernel
theorem d_Jo_workWithin_19 : decode prog_4_method_8_code 19 = .ok (.invokevirtual 36, 3) := by decide +kernel
theorem d_Jo_workWithin_22 : decode prog_4_method_8_code 22 = .ok (.ifCond .eq 13, 3) := by decide +kernel
theorem d_Jo_workWithin_25 : decode prog_4_method_8_code 25 = .ok (.iload_n 3, 1) := by decide +kernel
theorem d_Jo_workWithin_26 : decode prog_4_method_8_code 26 = .ok (.aload_n 0, 1) := by decide +kernel
theorem d_Jo_workWithin_27 : decode prog_4_method_8_code 27 = .ok (.getfield 18, 3) := by decide +kernel
theorem d_Jo_workWithin_30 : decode prog_4_method_8_code 30 = .ok (.iload 4, 2) := by decide +kernel
theorem d_Jo_workWithin_32 : decode prog_4_method_8_code 32 = .ok (.iaload, 1) := by decide +kernel
theorem d_Jo_workWithin_33 : decode prog_4_method_8_code 33 = .ok (.iadd, 1) := by decide +kernel
theorem d_Jo_workWithin_34 : decode prog_4_method_8_code 34 = .ok (.istore_n 3, 1) := by decide +kernel
theorem d_Jo_workWithin_35 : decode prog_4_method_8_code 35 = .ok (.iinc 4 1, 3) := by decide +kernel
theorem d_Jo_workWithin_38 : decode prog_4_method_8_code 38 = .ok (.goto (-33), 3) := by decide +kernel
theorem d_Jo_workWithin_41 : decode prog_4_method_8_code 41 = .ok (.iload_n 3, 1) := by decide +kernel
theorem d_Jo_workWithin_42 : decode prog_4_method_8_code 42 = .ok (.ireturn, 1) := by decide +kernel
theorem d_Jo_allWork_0 : decode prog_4_method_9_code 0 = .ok (.aload_n 0, 1) := by decide +kernel
theorem d_Jo_allWork_1 : decode prog_4_method_9_code 1 = .ok (.iconst 0, 1) := by decide +kernel
theorem d_Jo_allWork_2 : decode prog_4_method_9_code 2 = .ok (.sipush 200, 3) := by decide +kernel
theorem d_Jo_allWork_5 : decode prog_4_method_9_code 5 = .ok (.invokevirtual 40, 3) := by decide +kernel
theorem d_Jo_allWork_8 : decode prog_4_method_9_code 8 = .ok (.ireturn, 1) := by decide +kernel
theorem d_Le_has_0 : decode prog_5_method_2_code 0 = .ok (.iload_n 1, 1) := by decide +kernel
theorem d_Le_has_1 : decode prog_5_method_2_code 1 = .ok (.ifCond .lt 15, 3) := by decide +kernel
theorem d_Le_has_4 : decode prog_5_method_2_code 4 = .ok (.iload_n 1, 1) := by decide +kernel
theorem d_Le_has_5 : decode prog_5_method_2_code 5 = .ok (.aload_n 0, 1) := by decide +kernel
theorem d_Le_has_6 : decode prog_5_method_2_code 6 = .ok (.getfield 18, 3) := by decide +kernel
theorem d_Le_has_9 : decode prog_5_method_2_code 9 = .ok (.if_icmp .ge 7, 3) := by decide +kernel
theorem d_Le_has_12 : decode prog_5_method_2_code 12 = .ok (.iconst 1, 1) := by decide +kernel
theorem d_Le_has_13 : decode prog_5_method_2_code 13 = .ok (.goto 4, 3) := by decide +kernel
theorem d_Le_has_16 : decode prog_5_method_2_code 16 = .ok (.iconst 0, 1) := by decide +kernel
theorem d_Le_has_17 : decode prog_5_method_2_code 17 = .ok (.ireturn, 1) := by decide +kernel
theorem d_Le_rateOf_0 : decode prog_5_method_3_code 0 = .ok (.aload_n 0, 1) := by decide +kernel
theorem d_Le_rateOf_1 : decode prog_5_method_3_code 1 = .ok (.iload_n 1, 1) := by decide +kernel
theorem d_Le_rateOf_2 : decode prog_5_method_3_code 2 = .ok (.invokevirtual 22, 3) := by decide +kernel
theorem d_Le_rateOf_5 : decode prog_5_method_3_code 5 = .ok (.ifCond .eq 12, 3) := by decide +kernel
theorem d_Le_rateOf_8 : decode prog_5_method_3_code 8 = .ok (.aload_n 0, 1) := by decide +kernel
theorem d_Le_rateOf_9 : decode prog_5_method_3_code 9 = .ok (.getfield 9, 3) := by decide +kernel
theorem d_Le_rateOf_12 : decode prog_5_method_3_code 12 = .ok (.iload_n 1, 1) := by decide +kernel
theorem d_Le_rateOf_13 : decode prog_5_method_3_code 13 = .ok (.iaload, 1) := by decide +kernel
theorem d_Le_rateOf_14 : decode prog_5_method_3_code 14 = .ok (.goto 4, 3) := by decide +kernel
theorem d_Le_rateOf_17 : decode prog_5_method_3_code 17 = .ok (.iconst 0, 1) := by decide +kernel
theorem d_Le_rateOf_18 : decode prog_5_method_3_code 18 = .ok (.ireturn, 1) := by decide +kernel
theorem d_Le_costOf_0 : decode prog_5_method_4_code 0 = .ok (.aload_n 0, 1) := by decide +kernel
theorem d_Le_costOf_1 : decode prog_5_method_4_code 1 = .ok (.iload_n 1, 1) := by decide +kernel
theorem d_Le_costOf_2 : decode prog_5_method_4_code 2 = .ok (.invokevirtual 22, 3) := by decide +kernel
theorem d_Le_costOf_5 : decode prog_5_method_4_code 5 = .ok (.ifCond .eq 12, 3) := by decide +kernel
theorem d_Le_costOf_8 : decode prog_5_method_4_code 8 = .ok (.aload_n 0, 1) := by decide +kernel
theorem d_Le_costOf_9 : decode prog_5_method_4_code 9 = .ok (.getfield 15, 3) := by decide +kernel
theorem d_Le_costOf_12 : decode prog_5_method_4_code 12 = .ok (.iload_n 1, 1) := by decide +kernel
theorem d_Le_costOf_13 : decode prog_5_method_4_code 13 = .ok (.iaload, 1) := by decide +kernel
theorem d_Le_costOf_14 : decode prog_5_method_4_code 14 = .ok (.goto 4, 3) := by decide +kernel
theorem d_Le_costOf_17 : decode prog_5_method_4_code 17 = .ok (.iconst 0, 1) := by decide +kernel
theorem d_Le_costOf_18 : decode prog_5_method_4_code 18 = .ok (.ireturn, 1) := by decide +kernel
theorem d_Le_add_0 : decode prog_5_method_5_code 0 = .ok (.aload_n 0, 1) := by decide +kernel
theorem d_Le_add_1 : decode prog_5_method_5_code 1 = .ok (.getfield 18, 3) := by decide +kernel
theorem d_Le_add_4 : decode prog_5_method_5_code 4 = .ok (.bipush 8, 2) := by decide +kernel
theorem d_Le_add_6 : decode prog_5_method_5_code 6 = .ok (.if_icmp .ge 33, 3) := by decide +kernel
theorem d_Le_add_9 : decode prog_5_method_5_code 9 = .ok (.aload_n 0, 1) := by decide +kernel
theorem d_Le_add_10 : decode prog_5_method_5_code 10 = .ok (.getfield 9, 3) := by decide +kernel
theorem d_Le_add_13 : decode prog_5_method_5_code 13 = .ok (.aload_n 0, 1) := by decide +kernel
theorem d_Le_add_14 : decode prog_5_method_5_code 14 = .ok (.getfield 18, 3) := by decide +kernel
theorem d_Le_add_17 : decode prog_5_method_5_code 17 = .ok (.iload_n 1, 1) := by decide +kernel
theorem d_Le_add_18 : decode prog_5_method_5_code 18 = .ok (.iastore, 1) := by decide +kernel
theorem d_Le_add_19 : decode prog_5_method_5_code 19 = .ok (.aload_n 0, 1) := by decide +kernel
theorem d_Le_add_20 : decode prog_5_method_5_code 20 = .ok (.getfield 15, 3) := by decide +kernel
theorem d_Le_add_23 : decode prog_5_method_5_code 23 = .ok (.aload_n 0, 1) := by decide +kernel
theorem d_Le_add_24 : decode prog_5_method_5_code 24 = .ok (.getfield 18, 3) := by decide +kernel
theorem d_Le_add_27 : decode prog_5_method_5_code 27 = .ok (.iload_n 2, 1) := by decide +kernel
theorem d_Le_add_28 : decode prog_5_method_5_code 28 = .ok (.iastore, 1) := by decide +kernel
theorem d_Le_add_29 : decode prog_5_method_5_code 29 = .ok (.aload_n 0, 1) := by decide +kernel
theorem d_Le_add_30 : decode prog_5_method_5_code 30 = .ok (.dup, 1) := by decide +kernel
theorem d_Le_add_31 : decode prog_5_method_5_code 31 = .ok (.getfield 18, 3) := by decide +kernel
theorem d_Le_add_34 : decode prog_5_method_5_code 34 = .ok (.iconst 1, 1) := by decide +kernel
theorem d_Le_add_35 : decode prog_5_method_5_code 35 = .ok (.iadd, 1) := by decide +kernel
theorem d_Le_add_36 : decode prog_5_method_5_code 36 = .ok (.putfield 18, 3) := by decide +kernel
theorem d_Le_add_39 : decode prog_5_method_5_code 39 = .ok (.aload_n 0, 1) := by decide +kernel
theorem d_Le_add_40 : decode prog_5_method_5_code 40 = .ok (.getfield 18, 3) := by decide +kernel
theorem d_Le_add_43 : decode prog_5_method_5_code 43 = .ok (.ireturn, 1) := by decide +kernel
theorem d_Le_leastFor_0 : decode prog_5_method_6_code 0 = .ok (.iconst 0, 1) := by decide +kernel
theorem d_Le_leastFor_1 : decode prog_5_method_6_code 1 = .ok (.istore_n 3, 1) := by decide +kernel
theorem d_Le_leastFor_2 : decode prog_5_method_6_code 2 = .ok (.iload_n 3, 1) := by decide +kernel
theorem d_Le_leastFor_3 : decode prog_5_method_6_code 3 = .ok (.aload_n 0, 1) := by decide +kernel
theorem d_Le_leastFor_4 : decode prog_5_method_6_code 4 = .ok (.getfield 18, 3) := by decide +kernel
theorem d_Le_leastFor_7 : decode prog_5_method_6_code 7 = .ok (.if_icmp .ge 22, 3) := by decide +kernel
theorem d_Le_leastFor_10 : decode prog_5_method_6_code 10 = .ok (.aload_n 0, 1) := by decide +kernel
theorem d_Le_leastFor_11 : decode prog_5_method_6_code 11 = .ok (.iload_n 3, 1) := by decide +kernel
theorem d_Le_leastFor_12 : decode prog_5_method_6_code 12 = .ok (.invokevirtual 26, 3) := by decide +kernel
theorem d_Le_leastFor_15 : decode prog_5_method_6_code 15 = .ok (.iload_n 2, 1) := by decide +kernel
theorem d_Le_leastFor_16 : decode prog_5_method_6_code 16 = .ok (.imul, 1) := by decide +kernel
theorem d_Le_leastFor_17 : decode prog_5_method_6_code 17 = .ok (.iload_n 1, 1) := by decide +kernel
theorem d_Le_leastFor_18 : decode prog_5_method_6_code 18 = .ok (.if_icmp .lt 5, 3) := by decide +kernel
theorem d_Le_leastFor_21 : decode prog_5_method_6_code 21 = .ok (.iload_n 3, 1) := by decide +kernel
theorem d_Le_leastFor_22 : decode prog_5_method_6_code 22 = .ok (.ireturn, 1) := by decide +kernel
theorem d_Le_leastFor_23 : decode prog_5_method_6_code 23 = .ok (.iinc 3 1, 3) := by decide +kernel
theorem d_Le_leastFor_26 : decode prog_5_method_6_code 26 = .ok (.goto (-24), 3) := by decide +kernel
theorem d_Le_leastFor_29 : decode prog_5_method_6_code 29 = .ok (.iconst (-1), 1) := by decide +kernel
theorem d_Le_leastFor_30 : decode prog_5_method_6_code 30 = .ok (.ireturn, 1) := by decide +kernel
theorem d_Le_areConvex_0 : decode prog_5_method_7_code 0 = .ok (.iconst 1, 1) := by decide +kernel
theorem d_Le_areConvex_1 : decode prog_5_method_7_code 1 = .ok (.istore_n 1, 1) := by decide +kernel
theorem d_Le_areConvex_2 : decode prog_5_method_7_code 2 = .ok (.iload_n 1, 1) := by decide +kernel
theorem d_Le_areConvex_3 : decode prog_5_method_7_code 3 = .ok (.aload_n 0, 1) := by decide +kernel
theorem d_Le_areConvex_4 : decode prog_5_method_7_code 4 = .ok (.getfield 18, 3) := by decide +kernel
theorem d_Le_areConvex_7 : decode prog_5_method_7_code 7 = .ok (.if_icmp .ge 95, 3) := by decide +kernel
theorem d_Le_areConvex_10 : decode prog_5_method_7_code 10 = .ok (.aload_n 0, 1) := by decide +kernel
theorem d_Le_areConvex_11 : decode prog_5_method_7_code 11 = .ok (.iload_n 1, 1) := by decide +kernel
theorem d_Le_areConvex_12 : decode prog_5_method_7_code 12 = .ok (.invokevirtual 30, 3) := by decide +kernel
theorem d_Le_areConvex_15 : decode prog_5_method_7_code 15 = .ok (.i2l, 1) := by decide +kernel
theorem d_Le_areConvex_16 : decode prog_5_method_7_code 16 = .ok (.aload_n 0, 1) := by decide +kernel
theorem d_Le_areConvex_17 : decode prog_5_method_7_code 17 = .ok (.iload_n 1, 1) := by decide +kernel
theorem d_Le_areConvex_18 : decode prog_5_method_7_code 18 = .ok (.iconst 1, 1) := by decide +kernel
theorem d_Le_areConvex_19 : decode prog_5_method_7_code 19 = .ok (.isub, 1) := by decide +kernel
theorem d_Le_areConvex_20 : decode prog_5_method_7_code 20 = .ok (.invokevirtual 30, 3) := by decide +kernel
theorem d_Le_areConvex_23 : decode prog_5_method_7_code 23 = .ok (.i2l, 1) := by decide +kernel
theorem d_Le_areConvex_24 : decode prog_5_method_7_code 24 = .ok (.lsub, 1) := by decide +kernel
theorem d_Le_areConvex_25 : decode prog_5_method_7_code 25 = .ok (.lstore_n 2, 1) := by decide +kernel
theorem d_Le_areConvex_26 : decode prog_5_method_7_code 26 = .ok (.aload_n 0, 1) := by decide +kernel
theorem d_Le_areConvex_27 : decode prog_5_method_7_code 27 = .ok (.iload_n 1, 1) := by decide +kernel
theorem d_Le_areConvex_28 : decode prog_5_method_7_code 28 = .ok (.invokevirtual 26, 3) := by decide +kernel
theorem d_Le_areConvex_31 : decode prog_5_method_7_code 31 = .ok (.i2l, 1) := by decide +kernel
theorem d_Le_areConvex_32 : decode prog_5_method_7_code 32 = .ok (.aload_n 0, 1) := by decide +kernel
theorem d_Le_areConvex_33 : decode prog_5_method_7_code 33 = .ok (.iload_n 1, 1) := by decide +kernel
theorem d_Le_areConvex_34 : decode prog_5_method_7_code 34 = .ok (.iconst 1, 1) := by decide +kernel
theorem d_Le_areConvex_35 : decode prog_5_method_7_code 35 = .ok (.isub, 1) := by decide +kernel
theorem d_Le_areConvex_36 : decode prog_5_method_7_code 36 = .ok (.invokevirtual 26, 3) := by decide +kernel
theorem d_Le_areConvex_39 : decode prog_5_method_7_code 39 = .ok (.i2l, 1) := by decide +kernel
theorem d_Le_areConvex_40 : decode prog_5_method_7_code 40 = .ok (.lsub, 1) := by decide +kernel
theorem d_Le_areConvex_41 : decode prog_5_method_7_code 41 = .ok (.lstore 4, 2) := by decide +kernel
theorem d_Le_areConvex_43 : decode prog_5_method_7_code 43 = .ok (.aload_n 0, 1) := by decide +kernel
theorem d_Le_areConvex_44 : decode prog_5_method_7_code 44 = .ok (.iload_n 1, 1) := by decide +kernel
theorem d_Le_areConvex_45 : decode prog_5_method_7_code 45 = .ok (.iconst 1, 1) := by decide +kernel
theorem d_Le_areConvex_46 : decode prog_5_method_7_code 46 = .ok (.isub, 1) := by decide +kernel
theorem d_Le_areConvex_47 : decode prog_5_method_7_code 47 = .ok (.invokevirtual 30, 3) := by decide +kernel
theorem d_Le_areConvex_50 : decode prog_5_method_7_code 50 = .ok (.i2l, 1) := by decide +kernel
theorem d_Le_areConvex_51 : decode prog_5_method_7_code 51 = .ok (.aload_n 0, 1) := by decide +kernel
theorem d_Le_areConvex_52 : decode prog_5_method_7_code 52 = .ok (.iload_n 1, 1) := by decide +kernel
theorem d_Le_areConvex_53 : decode prog_5_method_7_code 53 = .ok (.iconst 2, 1) := by decide +kernel
theorem d_Le_areConvex_54 : decode prog_5_method_7_code 54 = .ok (.isub, 1) := by decide +kernel
theorem d_Le_areConvex_55 : decode prog_5_method_7_code 55 = .ok (.invokevirtual 30, 3) := by decide +kernel
theorem d_Le_areConvex_58 : decode prog_5_method_7_code 58 = .ok (.i2l, 1) := by decide +kernel
theorem d_Le_areConvex_59 : decode prog_5_method_7_code 59 = .ok (.lsub, 1) := by decide +kernel
theorem d_Le_areConvex_60 : decode prog_5_method_7_code 60 = .ok (.lstore 6, 2) := by decide +kernel
theorem d_Le_areConvex_62 : decode prog_5_method_7_code 62 = .ok (.aload_n 0, 1) := by decide +kernel
theorem d_Le_areConvex_63 : decode prog_5_method_7_code 63 = .ok (.iload_n 1, 1) := by decide +kernel
theorem d_Le_areConvex_64 : decode prog_5_method_7_code 64 = .ok (.iconst 1, 1) := by decide +kernel
theorem d_Le_areConvex_65 : decode prog_5_method_7_code 65 = .ok (.isub, 1) := by decide +kernel
theorem d_Le_areConvex_66 : decode prog_5_method_7_code 66 = .ok (.invokevirtual 26, 3) := by decide +kernel
theorem d_Le_areConvex_69 : decode prog_5_method_7_code 69 = .ok (.i2l, 1) := by decide +kernel
theorem d_Le_areConvex_70 : decode prog_5_method_7_code 70 = .ok (.aload_n 0, 1) := by decide +kernel
theorem d_Le_areConvex_71 : decode prog_5_method_7_code 71 = .ok (.iload_n 1, 1) := by decide +kernel
theorem d_Le_areConvex_72 : decode prog_5_method_7_code 72 = .ok (.iconst 2, 1) := by decide +kernel
theorem d_Le_areConvex_73 : decode prog_5_method_7_code 73 = .ok (.isub, 1) := by decide +kernel
theorem d_Le_areConvex_74 : decode prog_5_method_7_code 74 = .ok (.invokevirtual 26, 3) := by decide +kernel
theorem d_Le_areConvex_77 : decode prog_5_method_7_code 77 = .ok (.i2l, 1) := by decide +kernel
theorem d_Le_areConvex_78 : decode prog_5_method_7_code 78 = .ok (.lsub, 1) := by decide +kernel
theorem d_Le_areConvex_79 : decode prog_5_method_7_code 79 = .ok (.lstore 8, 2) := by decide +kernel
theorem d_Le_areConvex_81 : decode prog_5_method_7_code 81 = .ok (.lload_n 2, 1) := by decide +kernel
theorem d_Le_areConvex_82 : decode prog_5_method_7_code 82 = .ok (.lload 8, 2) := by decide +kernel
theorem d_Le_areConvex_84 : decode prog_5_method_7_code 84 = .ok (.lmul, 1) := by decide +kernel
theorem d_Le_areConvex_85 : decode prog_5_method_7_code 85 = .ok (.lload 6, 2) := by decide +kernel
theorem d_Le_areConvex_87 : decode prog_5_method_7_code 87 = .ok (.lload 4, 2) := by decide +kernel
theorem d_Le_areConvex_89 : decode prog_5_method_7_code 89 = .ok (.lmul, 1) := by decide +kernel
theorem d_Le_areConvex_90 : decode prog_5_method_7_code 90 = .ok (.lcmp, 1) := by decide +kernel
theorem d_Le_areConvex_91 : decode prog_5_method_7_code 91 = .ok (.ifCond .ge 5, 3) := by decide +kernel
theorem d_Le_areConvex_94 : decode prog_5_method_7_code 94 = .ok (.iconst 0, 1) := by decide +kernel
theorem d_Le_areConvex_95 : decode prog_5_method_7_code 95 = .ok (.ireturn, 1) := by decide +kernel
theorem d_Le_areConvex_96 : decode prog_5_method_7_code 96 = .ok (.iinc 1 1, 3) := by decide +kernel
theorem d_Le_areConvex_99 : decode prog_5_method_7_code 99 = .ok (.goto (-97), 3) := by decide +kernel
theorem d_Le_areConvex_102 : decode prog_5_method_7_code 102 = .ok (.iconst 1, 1) := by decide +kernel
theorem d_Le_areConvex_103 : decode prog_5_method_7_code 103 = .ok (.ireturn, 1) := by decide +kernel
theorem d_Pr_empty_0 : decode prog_8_method_2_code 0 = .ok (.aload_n 0, 1) := by decide +kernel
theorem d_Pr_empty_1 : decode prog_8_method_2_code 1 = .ok (.iconst 0, 1) := by decide +kernel
theorem d_Pr_empty_2 : decode prog_8_method_2_code 2 = .ok (.putfield 35, 3) := by decide +kernel
theorem d_Pr_empty_5 : decode prog_8_method_2_code 5 = .ok (.aload_n 0, 1) := by decide +kernel
theorem d_Pr_empty_6 : decode prog_8_method_2_code 6 = .ok (.iconst 0, 1) := by decide +kernel
theorem d_Pr_empty_7 : decode prog_8_method_2_code 7 = .ok (.putfield 39, 3) := by decide +kernel
theorem d_Pr_empty_10 : decode prog_8_method_2_code 10 = .ok (.aload_n 0, 1) := by decide +kernel
theorem d_Pr_empty_11 : decode prog_8_method_2_code 11 = .ok (.getfield 27, 3) := by decide +kernel
theorem d_Pr_empty_14 : decode prog_8_method_2_code 14 = .ok (.iconst (-1), 1) := by decide +kernel
theorem d_Pr_empty_15 : decode prog_8_method_2_code 15 = .ok (.invokestatic 43, 3) := by decide +kernel
theorem d_Pr_empty_18 : decode prog_8_method_2_code 18 = .ok (.return_, 1) := by decide +kernel
theorem d_Pr_hasStep_0 : decode prog_8_method_3_code 0 = .ok (.aload_n 0, 1) := by decide +kernel
theorem d_Pr_hasStep_1 : decode prog_8_method_3_code 1 = .ok (.getfield 35, 3) := by decide +kernel
theorem d_Pr_hasStep_4 : decode prog_8_method_3_code 4 = .ok (.ifCond .eq 19, 3) := by decide +kernel
theorem d_Pr_hasStep_7 : decode prog_8_method_3_code 7 = .ok (.iload_n 1, 1) := by decide +kernel
theorem d_Pr_hasStep_8 : decode prog_8_method_3_code 8 = .ok (.ifCond .lt 15, 3) := by decide +kernel
theorem d_Pr_hasStep_11 : decode prog_8_method_3_code 11 = .ok (.iload_n 1, 1) := by decide +kernel
theorem d_Pr_hasStep_12 : decode prog_8_method_3_code 12 = .ok (.aload_n 0, 1) := by decide +kernel
theorem d_Pr_hasStep_13 : decode prog_8_method_3_code 13 = .ok (.getfield 39, 3) := by decide +kernel
theorem d_Pr_hasStep_16 : decode prog_8_method_3_code 16 = .ok (.if_icmp .ge 7, 3) := by decide +kernel
theorem d_Pr_hasStep_19 : decode prog_8_method_3_code 19 = .ok (.iconst 1, 1) := by decide +kernel
theorem d_Pr_hasStep_20 : decode prog_8_method_3_code 20 = .ok (.goto 4, 3) := by decide +kernel
theorem d_Pr_hasStep_23 : decode prog_8_method_3_code 23 = .ok (.iconst 0, 1) := by decide +kernel
theorem d_Pr_hasStep_24 : decode prog_8_method_3_code 24 = .ok (.ireturn, 1) := by decide +kernel
theorem d_Pr_append_0 : decode prog_8_method_4_code 0 = .ok (.aload_n 0, 1) := by decide +kernel
theorem d_Pr_append_1 : decode prog_8_method_4_code 1 = .ok (.getfield 39, 3) := by decide +kernel
theorem d_Pr_append_4 : decode prog_8_method_4_code 4 = .ok (.ifCond .le 36, 3) := by decide +kernel
theorem d_Pr_append_7 : decode prog_8_method_4_code 7 = .ok (.aload_n 0, 1) := by decide +kernel
theorem d_Pr_append_8 : decode prog_8_method_4_code 8 = .ok (.getfield 20, 3) := by decide +kernel
theorem d_Pr_append_11 : decode prog_8_method_4_code 11 = .ok (.aload_n 0, 1) := by decide +kernel
theorem d_Pr_append_12 : decode prog_8_method_4_code 12 = .ok (.getfield 39, 3) := by decide +kernel
theorem d_Pr_append_15 : decode prog_8_method_4_code 15 = .ok (.iconst 1, 1) := by decide +kernel
theorem d_Pr_append_16 : decode prog_8_method_4_code 16 = .ok (.isub, 1) := by decide +kernel
theorem d_Pr_append_17 : decode prog_8_method_4_code 17 = .ok (.aaload, 1) := by decide +kernel
theorem d_Pr_append_18 : decode prog_8_method_4_code 18 = .ok (.aload_n 3, 1) := by decide +kernel
theorem d_Pr_append_19 : decode prog_8_method_4_code 19 = .ok (.invokevirtual 49, 3) := by decide +kernel
theorem d_Pr_append_22 : decode prog_8_method_4_code 22 = .ok (.ifCond .eq 18, 3) := by decide +kernel
theorem d_Pr_append_25 : decode prog_8_method_4_code 25 = .ok (.aload_n 0, 1) := by decide +kernel
theorem d_Pr_append_26 : decode prog_8_method_4_code 26 = .ok (.getfield 15, 3) := by decide +kernel
theorem d_Pr_append_29 : decode prog_8_method_4_code 29 = .ok (.aload_n 0, 1) := by decide +kernel
theorem d_Pr_append_30 : decode prog_8_method_4_code 30 = .ok (.getfield 39, 3) := by decide +kernel
theorem d_Pr_append_33 : decode prog_8_method_4_code 33 = .ok (.iconst 1, 1) := by decide +kernel
theorem d_Pr_append_34 : decode prog_8_method_4_code 34 = .ok (.isub, 1) := by decide +kernel
theorem d_Pr_append_35 : decode prog_8_method_4_code 35 = .ok (.iload_n 2, 1) := by decide +kernel
theorem d_Pr_append_36 : decode prog_8_method_4_code 36 = .ok (.iastore, 1) := by decide +kernel
theorem d_Pr_append_37 : decode prog_8_method_4_code 37 = .ok (.goto 55, 3) := by decide +kernel
theorem d_Pr_append_40 : decode prog_8_method_4_code 40 = .ok (.aload_n 0, 1) := by decide +kernel
theorem d_Pr_append_41 : decode prog_8_method_4_code 41 = .ok (.getfield 39, 3) := by decide +kernel
theorem d_Pr_append_44 : decode prog_8_method_4_code 44 = .ok (.bipush 24, 2) := by decide +kernel
theorem d_Pr_append_46 : decode prog_8_method_4_code 46 = .ok (.if_icmp .ge 46, 3) := by decide +kernel
theorem d_Pr_append_49 : decode prog_8_method_4_code 49 = .ok (.aload_n 0, 1) := by decide +kernel
theorem d_Pr_append_50 : decode prog_8_method_4_code 50 = .ok (.getfield 9, 3) := by decide +kernel
theorem d_Pr_append_53 : decode prog_8_method_4_code 53 = .ok (.aload_n 0, 1) := by decide +kernel
theorem d_Pr_append_54 : decode prog_8_method_4_code 54 = .ok (.getfield 39, 3) := by decide +kernel
theorem d_Pr_append_57 : decode prog_8_method_4_code 57 = .ok (.iload_n 1, 1) := by decide +kernel
theorem d_Pr_append_58 : decode prog_8_method_4_code 58 = .ok (.iastore, 1) := by decide +kernel
theorem d_Pr_append_59 : decode prog_8_method_4_code 59 = .ok (.aload_n 0, 1) := by decide +kernel
theorem d_Pr_append_60 : decode prog_8_method_4_code 60 = .ok (.getfield 15, 3) := by decide +kernel
theorem d_Pr_append_63 : decode prog_8_method_4_code 63 = .ok (.aload_n 0, 1) := by decide +kernel
theorem d_Pr_append_64 : decode prog_8_method_4_code 64 = .ok (.getfield 39, 3) := by decide +kernel
theorem d_Pr_append_67 : decode prog_8_method_4_code 67 = .ok (.iload_n 2, 1) := by decide +kernel
theorem d_Pr_append_68 : decode prog_8_method_4_code 68 = .ok (.iastore, 1) := by decide +kernel
theorem d_Pr_append_69 : decode prog_8_method_4_code 69 = .ok (.aload_n 0, 1) := by decide +kernel
theorem d_Pr_append_70 : decode prog_8_method_4_code 70 = .ok (.getfield 20, 3) := by decide +kernel
theorem d_Pr_append_73 : decode prog_8_method_4_code 73 = .ok (.aload_n 0, 1) := by decide +kernel
theorem d_Pr_append_74 : decode prog_8_method_4_code 74 = .ok (.getfield 39, 3) := by decide +kernel
theorem d_Pr_append_77 : decode prog_8_method_4_code 77 = .ok (.aaload, 1) := by decide +kernel
theorem d_Pr_append_78 : decode prog_8_method_4_code 78 = .ok (.aload_n 3, 1) := by decide +kernel
theorem d_Pr_append_79 : decode prog_8_method_4_code 79 = .ok (.invokevirtual 53, 3) := by decide +kernel
theorem d_Pr_append_82 : decode prog_8_method_4_code 82 = .ok (.aload_n 0, 1) := by decide +kernel
theorem d_Pr_append_83 : decode prog_8_method_4_code 83 = .ok (.dup, 1) := by decide +kernel
theorem d_Pr_append_84 : decode prog_8_method_4_code 84 = .ok (.getfield 39, 3) := by decide +kernel
theorem d_Pr_append_87 : decode prog_8_method_4_code 87 = .ok (.iconst 1, 1) := by decide +kernel
theorem d_Pr_append_88 : decode prog_8_method_4_code 88 = .ok (.iadd, 1) := by decide +kernel
theorem d_Pr_append_89 : decode prog_8_method_4_code 89 = .ok (.putfield 39, 3) := by decide +kernel
theorem d_Pr_append_92 : decode prog_8_method_4_code 92 = .ok (.return_, 1) := by decide +kernel
theorem d_Pr_lengthWithin_0 : decode prog_8_method_5_code 0 = .ok (.iload_n 1, 1) := by decide +kernel
theorem d_Pr_lengthWithin_1 : decode prog_8_method_5_code 1 = .ok (.ifCond .lt 11, 3) := by decide +kernel
theorem d_Pr_lengthWithin_4 : decode prog_8_method_5_code 4 = .ok (.iload_n 1, 1) := by decide +kernel
theorem d_Pr_lengthWithin_5 : decode prog_8_method_5_code 5 = .ok (.aload_n 0, 1) := by decide +kernel
theorem d_Pr_lengthWithin_6 : decode prog_8_method_5_code 6 = .ok (.getfield 39, 3) := by decide +kernel
theorem d_Pr_lengthWithin_9 : decode prog_8_method_5_code 9 = .ok (.if_icmp .lt 5, 3) := by decide +kernel
theorem d_Pr_lengthWithin_12 : decode prog_8_method_5_code 12 = .ok (.iconst 0, 1) := by decide +kernel
theorem d_Pr_lengthWithin_13 : decode prog_8_method_5_code 13 = .ok (.ireturn, 1) := by decide +kernel
theorem d_Pr_lengthWithin_14 : decode prog_8_method_5_code 14 = .ok (.iconst 0, 1) := by decide +kernel
theorem d_Pr_lengthWithin_15 : decode prog_8_method_5_code 15 = .ok (.aload_n 0, 1) := by decide +kernel
theorem d_Pr_lengthWithin_16 : decode prog_8_method_5_code 16 = .ok (.getfield 15, 3) := by decide +kernel
theorem d_Pr_lengthWithin_19 : decode prog_8_method_5_code 19 = .ok (.iload_n 1, 1) := by decide +kernel
theorem d_Pr_lengthWithin_20 : decode prog_8_method_5_code 20 = .ok (.iaload, 1) := by decide +kernel
theorem d_Pr_lengthWithin_21 : decode prog_8_method_5_code 21 = .ok (.iload_n 3, 1) := by decide +kernel
theorem d_Pr_lengthWithin_22 : decode prog_8_method_5_code 22 = .ok (.invokestatic 57, 3) := by decide +kernel
theorem d_Pr_lengthWithin_25 : decode prog_8_method_5_code 25 = .ok (.aload_n 0, 1) := by decide +kernel
theorem d_Pr_lengthWithin_26 : decode prog_8_method_5_code 26 = .ok (.getfield 9, 3) := by decide +kernel
theorem d_Pr_lengthWithin_29 : decode prog_8_method_5_code 29 = .ok (.iload_n 1, 1) := by decide +kernel
theorem d_Pr_lengthWithin_30 : decode prog_8_method_5_code 30 = .ok (.iaload, 1) := by decide +kernel
theorem d_Pr_lengthWithin_31 : decode prog_8_method_5_code 31 = .ok (.iload_n 2, 1) := by decide +kernel
theorem d_Pr_lengthWithin_32 : decode prog_8_method_5_code 32 = .ok (.invokestatic 63, 3) := by decide +kernel
theorem d_Pr_lengthWithin_35 : decode prog_8_method_5_code 35 = .ok (.isub, 1) := by decide +kernel
theorem d_Pr_lengthWithin_36 : decode prog_8_method_5_code 36 = .ok (.invokestatic 63, 3) := by decide +kernel
theorem d_Pr_lengthWithin_39 : decode prog_8_method_5_code 39 = .ok (.ireturn, 1) := by decide +kernel
section SEG
variable {g : GG} {Q : Option VV → EE → DD → Prop} {D : DD}
theorem s_Fr_setSmall_0 {a0 : Nat} {x1 : Int} {x3 : Int} (k_a0 : zk a0 = (0, 4, 0)) (h : ((x1 < 0 → Q none zE D) ∧ (¬ x1 < 0 → ((1 ≤ x3 → CL g M_Ke_commonOf [vL x1, vL x3] D (fun v3 D' => Sg g M_Fr_setSmall Q 18 [vR a0, vL x1, vU, vL x3, vU, vU, vU] [vL v3] D')) ∧ (¬ 1 ≤ x3 → Q none zE D))))) : Sg g M_Fr_setSmall Q 0 [vR a0, vL x1, vU, vL x3, vU, vU, vU] [] D := by
  unfold Sg
  refine q_lload_n d_Fr_setSmall_0 rfl ?_
  refine q_lconst (x := 0) d_Fr_setSmall_1 ⟨rfl, by decide⟩ ?_
  refine q_lcmp d_Fr_setSmall_2 ?_
  refine q_if_lt (tgt := 12) d_Fr_setSmall_3 (by decide) (fun c1 => ?_) (fun c1 => ?_)
  · have h := h.1 (zcmp_lt.mp c1)
    exact q_vret d_Fr_setSmall_12 rfl ⟨Nat.le_refl _, Nat.le_refl _⟩ h
  · have h := h.2 ((not_congr zcmp_lt).mp c1)
    refine q_lload_n d_Fr_setSmall_6 rfl ?_
    refine q_lconst (x := 1) d_Fr_setSmall_7 ⟨rfl, by decide⟩ ?_
    refine q_lcmp d_Fr_setSmall_8 ?_
    refine q_if_ge (tgt := 13) d_Fr_setSmall_9 (by decide) (fun c2 => ?_) (fun c2 => ?_)
    · have h := h.1 (zcmp_ge.mp c2)
      refine q_lload_n d_Fr_setSmall_13 rfl ?_
      refine q_lload_n d_Fr_setSmall_14 rfl ?_
      refine p_callSN (as := [vL x1, vL x3]) (st := []) mc_Ke_commonOf ms_Ke_commonOf l_Fr_23 d_Fr_setSmall_15 rfl rfl rfl (CL.to ?_)
      exact h
    · have h := h.2 ((not_congr zcmp_ge).mp c2)
      exact q_vret d_Fr_setSmall_12 rfl ⟨Nat.le_refl _, Nat.le_refl _⟩ h
theorem s_Fr_setSmall_18 {a0 : Nat} {x1 : Int} {x3 : Int} {z5 : VV} {z6 : VV} {y0 : Int} (k_a0 : zk a0 = (0, 4, 0)) (h : ((y0 ≤ 0 → Q none zE D) ∧ (¬ y0 ≤ 0 → ((0 ≤ x1 ∧ 0 < y0)) ∧ CV g M_Na_setSmall [vR (a0 + 1), vL (x1 / y0)] D (fun D' => Sg g M_Fr_setSmall Q 38 [vR a0, vL x1, vU, vL x3, vU, vL y0, vU] [] D')))) : Sg g M_Fr_setSmall Q 18 [vR a0, vL x1, vU, vL x3, vU, z5, z6] [vL y0] D := by
  unfold Sg
  refine q_mask [false, false, false, false, false, true, true] (L' := [vR a0, vL x1, vU, vL x3, vU, vU, vU]) rfl ?_
  refine q_lstore d_Fr_setSmall_18 (by decide) (L' := [vR a0, vL x1, vU, vL x3, vU, vL y0, vU]) rfl ?_
  refine q_lload d_Fr_setSmall_20 rfl ?_
  refine q_lconst (x := 0) d_Fr_setSmall_22 ⟨rfl, by decide⟩ ?_
  refine q_lcmp d_Fr_setSmall_23 ?_
  refine q_if_le (tgt := 49) d_Fr_setSmall_24 (by decide) (fun c1 => ?_) (fun c1 => ?_)
  · have h := h.1 (zcmp_le.mp c1)
    exact q_vret d_Fr_setSmall_49 rfl ⟨Nat.le_refl _, Nat.le_refl _⟩ h
  · have h := h.2 ((not_congr zcmp_le).mp c1)
    obtain ⟨o2, h⟩ := h
    refine q_aload_n d_Fr_setSmall_27 rfl ?_
    refine p_getR (k := 0) (b := (a0 + 1)) zc_Fr l_Fr_10 fr_Fr_top d_Fr_setSmall_28 k_a0 rfl ?_
    refine q_lload_n d_Fr_setSmall_31 rfl ?_
    refine q_lload d_Fr_setSmall_32 rfl ?_
    refine q_ldiv d_Fr_setSmall_34 o2 ?_
    refine p_callV (as := [vL (x1 / y0)]) (st := []) (a := (a0 + 1)) mc_Na_setSmall mv_Na_setSmall l_Fr_19 zc_Na rfl d_Fr_setSmall_35 rfl rfl rfl (zs_Fr_top k_a0) (CV.to ?_)
    exact h
theorem s_Fr_setSmall_38 {a0 : Nat} {z1 : VV} {z2 : VV} {x3 : Int} {x5 : Int} (k_a0 : zk a0 = (0, 4, 0)) (h : ((0 ≤ x3 ∧ 0 < x5)) ∧ CV g M_Na_setSmall [vR (a0 + 3), vL (x3 / x5)] D (fun D' => Sg g M_Fr_setSmall Q 49 [vR a0, vU, vU, vL x3, vU, vL x5, vU] [] D')) : Sg g M_Fr_setSmall Q 38 [vR a0, z1, z2, vL x3, vU, vL x5, vU] [] D := by
  unfold Sg
  refine q_mask [false, true, true, false, false, false, false] (L' := [vR a0, vU, vU, vL x3, vU, vL x5, vU]) rfl ?_
  obtain ⟨o1, h⟩ := h
  refine q_aload_n d_Fr_setSmall_38 rfl ?_
  refine p_getR (k := 1) (b := (a0 + 3)) zc_Fr l_Fr_16 fr_Fr_below d_Fr_setSmall_39 k_a0 rfl ?_
  refine q_lload_n d_Fr_setSmall_42 rfl ?_
  refine q_lload d_Fr_setSmall_43 rfl ?_
  refine q_ldiv d_Fr_setSmall_45 o1 ?_
  refine p_callV (as := [vL (x3 / x5)]) (st := []) (a := (a0 + 3)) mc_Na_setSmall mv_Na_setSmall l_Fr_19 zc_Na rfl d_Fr_setSmall_46 rfl rfl rfl (zs_Fr_below k_a0) (CV.to ?_)
  exact h
theorem s_Fr_setSmall_49 {z0 : VV} {z1 : VV} {z2 : VV} {z3 : VV} {z4 : VV} {z5 : VV} {z6 : VV}  (h : Q none zE D) : Sg g M_Fr_setSmall Q 49 [z0, z1, z2, z3, z4, z5, z6] [] D := by
  unfold Sg
  refine q_mask [true, true, true, true, true, true, true] (L' := [vU, vU, vU, vU, vU, vU, vU]) rfl ?_
  exact q_vret d_Fr_setSmall_49 rfl ⟨Nat.le_refl _, Nat.le_refl _⟩ h
theorem s_Fr_copyFrom_0 {a0 : Nat} {a1 : Nat} (k_a0 : zk a0 = (0, 4, 0)) (k_a1 : zk a1 = (0, 4, 0)) (h : CV g M_Na_copyFrom [vR (a0 + 1), vR (a1 + 1)] D (fun D' => Sg g M_Fr_copyFrom Q 11 [vR a0, vR a1] [] D')) : Sg g M_Fr_copyFrom Q 0 [vR a0, vR a1] [] D := by
  unfold Sg
  refine q_aload_n d_Fr_copyFrom_0 rfl ?_
  refine p_getR (k := 0) (b := (a0 + 1)) zc_Fr l_Fr_10 fr_Fr_top d_Fr_copyFrom_1 k_a0 rfl ?_
  refine q_aload_n d_Fr_copyFrom_4 rfl ?_
  refine p_getR (k := 0) (b := (a1 + 1)) zc_Fr l_Fr_10 fr_Fr_top d_Fr_copyFrom_5 k_a1 rfl ?_
  refine p_callV (as := [vR (a1 + 1)]) (st := []) (a := (a0 + 1)) mc_Na_copyFrom mv_Na_copyFrom l_Fr_29 zc_Na rfl d_Fr_copyFrom_8 rfl rfl rfl (zs_Fr_top k_a0) (CV.to ?_)
  exact h
theorem s_Fr_copyFrom_11 {a0 : Nat} {a1 : Nat} (k_a0 : zk a0 = (0, 4, 0)) (k_a1 : zk a1 = (0, 4, 0)) (h : CV g M_Na_copyFrom [vR (a0 + 3), vR (a1 + 3)] D (fun D' => Sg g M_Fr_copyFrom Q 22 [vR a0, vR a1] [] D')) : Sg g M_Fr_copyFrom Q 11 [vR a0, vR a1] [] D := by
  unfold Sg
  refine q_aload_n d_Fr_copyFrom_11 rfl ?_
  refine p_getR (k := 1) (b := (a0 + 3)) zc_Fr l_Fr_16 fr_Fr_below d_Fr_copyFrom_12 k_a0 rfl ?_
  refine q_aload_n d_Fr_copyFrom_15 rfl ?_
  refine p_getR (k := 1) (b := (a1 + 3)) zc_Fr l_Fr_16 fr_Fr_below d_Fr_copyFrom_16 k_a1 rfl ?_
  refine p_callV (as := [vR (a1 + 3)]) (st := []) (a := (a0 + 3)) mc_Na_copyFrom mv_Na_copyFrom l_Fr_29 zc_Na rfl d_Fr_copyFrom_19 rfl rfl rfl (zs_Fr_below k_a0) (CV.to ?_)
  exact h
theorem s_Fr_copyFrom_22 {z0 : VV} {z1 : VV}  (h : Q none zE D) : Sg g M_Fr_copyFrom Q 22 [z0, z1] [] D := by
  unfold Sg
  refine q_mask [true, true] (L' := [vU, vU]) rfl ?_
  exact q_vret d_Fr_copyFrom_22 rfl ⟨Nat.le_refl _, Nat.le_refl _⟩ h
theorem s_Fr_isSame_0 {a0 : Nat} {a1 : Nat} (k_a0 : zk a0 = (0, 4, 0)) (k_a1 : zk a1 = (0, 4, 0)) (h : CI g M_Na_order [vR (a0 + 1), vR (a1 + 1)] D (fun v1 D' => Sg g M_Fr_isSame Q 11 [vR a0, vR a1] [vI v1] D')) : Sg g M_Fr_isSame Q 0 [vR a0, vR a1] [] D := by
  unfold Sg
  refine q_aload_n d_Fr_isSame_0 rfl ?_
  refine p_getR (k := 0) (b := (a0 + 1)) zc_Fr l_Fr_10 fr_Fr_top d_Fr_isSame_1 k_a0 rfl ?_
  refine q_aload_n d_Fr_isSame_4 rfl ?_
  refine p_getR (k := 0) (b := (a1 + 1)) zc_Fr l_Fr_10 fr_Fr_top d_Fr_isSame_5 k_a1 rfl ?_
  refine p_callV (as := [vR (a1 + 1)]) (st := []) (a := (a0 + 1)) mc_Na_order mv_Na_order l_Fr_33 zc_Na rfl d_Fr_isSame_8 rfl rfl rfl (zs_Fr_top k_a0) (CI.to ?_)
  exact h
theorem s_Fr_isSame_11 {a0 : Nat} {a1 : Nat} {y0 : Int} (k_a0 : zk a0 = (0, 4, 0)) (k_a1 : zk a1 = (0, 4, 0)) (h : ((¬ y0 = 0 → Q (some (vI 0)) zE D) ∧ (y0 = 0 → CI g M_Na_order [vR (a0 + 3), vR (a1 + 3)] D (fun v2 D' => Sg g M_Fr_isSame Q 25 [vR a0, vR a1] [vI v2] D')))) : Sg g M_Fr_isSame Q 11 [vR a0, vR a1] [vI y0] D := by
  unfold Sg
  refine q_if_ne (tgt := 32) d_Fr_isSame_11 (by decide) (fun c1 => ?_) (fun c1 => ?_)
  · have h := h.1 (c1)
    refine q_iconst d_Fr_isSame_32 (by decide) ?_
    exact q_iret d_Fr_isSame_33 (Or.inr ⟨rfl, by decide⟩) ⟨Nat.le_refl _, Nat.le_refl _⟩ h
  · have h := h.2 (c1)
    refine q_aload_n d_Fr_isSame_14 rfl ?_
    refine p_getR (k := 1) (b := (a0 + 3)) zc_Fr l_Fr_16 fr_Fr_below d_Fr_isSame_15 k_a0 rfl ?_
    refine q_aload_n d_Fr_isSame_18 rfl ?_
    refine p_getR (k := 1) (b := (a1 + 3)) zc_Fr l_Fr_16 fr_Fr_below d_Fr_isSame_19 k_a1 rfl ?_
    refine p_callV (as := [vR (a1 + 3)]) (st := []) (a := (a0 + 3)) mc_Na_order mv_Na_order l_Fr_33 zc_Na rfl d_Fr_isSame_22 rfl rfl rfl (zs_Fr_below k_a0) (CI.to ?_)
    exact h
theorem s_Fr_isSame_25 {z0 : VV} {z1 : VV} {y0 : Int}  (h : ((¬ y0 = 0 → Q (some (vI 0)) zE D) ∧ (y0 = 0 → Q (some (vI 1)) zE D))) : Sg g M_Fr_isSame Q 25 [z0, z1] [vI y0] D := by
  unfold Sg
  refine q_mask [true, true] (L' := [vU, vU]) rfl ?_
  refine q_if_ne (tgt := 32) d_Fr_isSame_25 (by decide) (fun c1 => ?_) (fun c1 => ?_)
  · have h := h.1 (c1)
    refine q_iconst d_Fr_isSame_32 (by decide) ?_
    exact q_iret d_Fr_isSame_33 (Or.inr ⟨rfl, by decide⟩) ⟨Nat.le_refl _, Nat.le_refl _⟩ h
  · have h := h.2 (c1)
    refine q_iconst d_Fr_isSame_28 (by decide) ?_
    refine q_goto (tgt := 33) d_Fr_isSame_29 (by decide) ?_
    exact q_iret d_Fr_isSame_33 (Or.inr ⟨rfl, by decide⟩) ⟨Nat.le_refl _, Nat.le_refl _⟩ h
theorem s_Fr_asBinary_0 {a0 : Nat} (k_a0 : zk a0 = (0, 4, 0)) (h : CL g M_Na_asLong [vR (a0 + 3)] D (fun v1 D' => Sg g M_Fr_asBinary Q 7 [vR a0, vU, vU] [vL v1] D')) : Sg g M_Fr_asBinary Q 0 [vR a0, vU, vU] [] D := by
  unfold Sg
  refine q_aload_n d_Fr_asBinary_0 rfl ?_
  refine p_getR (k := 1) (b := (a0 + 3)) zc_Fr l_Fr_16 fr_Fr_below d_Fr_asBinary_1 k_a0 rfl ?_
  refine p_callV (as := []) (st := []) (a := (a0 + 3)) mc_Na_asLong mv_Na_asLong l_Fr_37 zc_Na rfl d_Fr_asBinary_4 rfl rfl rfl (zs_Fr_below k_a0) (CL.to ?_)
  exact h
theorem s_Fr_asBinary_7 {a0 : Nat} {z1 : VV} {z2 : VV} {y0 : Int} (k_a0 : zk a0 = (0, 4, 0)) (h : (((zdcmp .l (zl2d y0) 0) ≤ 0 → Q (some (vD 0)) zE D) ∧ (¬ (zdcmp .l (zl2d y0) 0) ≤ 0 → CL g M_Na_asLong [vR (a0 + 1)] D (fun v2 D' => Sg g M_Fr_asBinary Q 22 [vR a0, vD (zl2d y0), vU] [vL v2] D')))) : Sg g M_Fr_asBinary Q 7 [vR a0, z1, z2] [vL y0] D := by
  unfold Sg
  refine q_mask [false, true, true] (L' := [vR a0, vU, vU]) rfl ?_
  refine q_l2d d_Fr_asBinary_7 ?_
  refine q_dstore_n d_Fr_asBinary_8 (by decide) (L' := [vR a0, vD (zl2d y0), vU]) rfl ?_
  refine q_dload_n d_Fr_asBinary_9 rfl ?_
  refine q_dconst0 d_Fr_asBinary_10 ?_
  refine q_dcmp d_Fr_asBinary_11 ?_
  refine q_if_le (tgt := 28) d_Fr_asBinary_12 (by decide) (fun c1 => ?_) (fun c1 => ?_)
  · have h := h.1 (c1)
    refine q_dconst0 d_Fr_asBinary_28 ?_
    exact q_dret d_Fr_asBinary_29 rfl ⟨Nat.le_refl _, Nat.le_refl _⟩ h
  · have h := h.2 (c1)
    refine q_aload_n d_Fr_asBinary_15 rfl ?_
    refine p_getR (k := 0) (b := (a0 + 1)) zc_Fr l_Fr_10 fr_Fr_top d_Fr_asBinary_16 k_a0 rfl ?_
    refine p_callV (as := []) (st := []) (a := (a0 + 1)) mc_Na_asLong mv_Na_asLong l_Fr_37 zc_Na rfl d_Fr_asBinary_19 rfl rfl rfl (zs_Fr_top k_a0) (CL.to ?_)
    exact h
theorem s_Fr_asBinary_22 {z0 : VV} {x1 : Int} {y0 : Int}  (h : (vf_n64 (FP.ddiv (zdu (zl2d y0)) (zdu x1))) ∧ Q (some (vD (zddiv (zl2d y0) x1))) zE D) : Sg g M_Fr_asBinary Q 22 [z0, vD x1, vU] [vL y0] D := by
  unfold Sg
  refine q_mask [true, false, false] (L' := [vU, vD x1, vU]) rfl ?_
  obtain ⟨o1, h⟩ := h
  refine q_l2d d_Fr_asBinary_22 ?_
  refine q_dload_n d_Fr_asBinary_23 rfl ?_
  refine q_ddiv d_Fr_asBinary_24 o1 ?_
  refine q_goto (tgt := 29) d_Fr_asBinary_25 (by decide) ?_
  exact q_dret d_Fr_asBinary_29 rfl ⟨Nat.le_refl _, Nat.le_refl _⟩ h
theorem s_Jo_has_0 {x1 : Int}  (h : ((x1 < 0 → Q (some (vI 0)) zE D) ∧ (¬ x1 < 0 → (((D 1 0) ≤ x1 → Q (some (vI 0)) zE D) ∧ (¬ (D 1 0) ≤ x1 → Q (some (vI 1)) zE D))))) : Sg g M_Jo_has Q 0 [vR 1, vI x1] [] D := by
  unfold Sg
  refine q_iload_n d_Jo_has_0 rfl ?_
  refine q_if_lt (tgt := 16) d_Jo_has_1 (by decide) (fun c1 => ?_) (fun c1 => ?_)
  · have h := h.1 (c1)
    refine q_iconst d_Jo_has_16 (by decide) ?_
    exact q_iret d_Jo_has_17 (Or.inr ⟨rfl, by decide⟩) ⟨Nat.le_refl _, Nat.le_refl _⟩ h
  · have h := h.2 (c1)
    refine q_iload_n d_Jo_has_4 rfl ?_
    refine q_aload_n d_Jo_has_5 rfl ?_
    refine p_getI (k := 0) zc_Jo l_Jo_24 fi_Jo_count d_Jo_has_6 zk_1 ?_
    refine q_icmp_ge (tgt := 16) d_Jo_has_9 (by decide) (fun c2 => ?_) (fun c2 => ?_)
    · have h := h.1 (c2)
      refine q_iconst d_Jo_has_16 (by decide) ?_
      exact q_iret d_Jo_has_17 (Or.inr ⟨rfl, by decide⟩) ⟨Nat.le_refl _, Nat.le_refl _⟩ h
    · have h := h.2 (c2)
      refine q_iconst d_Jo_has_12 (by decide) ?_
      refine q_goto (tgt := 17) d_Jo_has_13 (by decide) ?_
      exact q_iret d_Jo_has_17 (Or.inr ⟨rfl, by decide⟩) ⟨Nat.le_refl _, Nat.le_refl _⟩ h
theorem s_Jo_add_0 {x1 : Int} {x2 : Int} {x3 : Int}  (h : (((D 1 0) < 12 → ((0 ≤ D 1 0 ∧ D 1 0 < 12)) ∧ (∀ D3, D3 = zw D 2 (D 1 0) x1 → ((0 ≤ D3 1 0 ∧ D3 1 0 < 12)) ∧ (∀ D6, D6 = zw D3 3 (D3 1 0) x2 → ((0 ≤ D6 1 0 ∧ D6 1 0 < 12)) ∧ (∀ D9, D9 = zw D6 4 (D6 1 0) x3 → Sg g M_Jo_add Q 47 [vR 1, vI x1, vI x2, vI x3, vI (D9 1 0)] [] D9)))) ∧ (¬ (D 1 0) < 12 → Q (some (vI (-1))) zE D))) : Sg g M_Jo_add Q 0 [vR 1, vI x1, vI x2, vI x3, vU] [] D := by
  unfold Sg
  refine q_aload_n d_Jo_add_0 rfl ?_
  refine p_getI (k := 0) zc_Jo l_Jo_24 fi_Jo_count d_Jo_add_1 zk_1 ?_
  refine q_bipush d_Jo_add_4 kb_12 ?_
  refine q_icmp_lt (tgt := 11) d_Jo_add_6 (by decide) (fun c1 => ?_) (fun c1 => ?_)
  · have h := h.1 (c1)
    obtain ⟨o2, h⟩ := h
    refine q_aload_n d_Jo_add_11 rfl ?_
    refine p_getR (k := 1) (b := 2) zc_Jo l_Jo_9 fr_Jo_release d_Jo_add_12 zk_1 rfl ?_
    refine q_aload_n d_Jo_add_15 rfl ?_
    refine p_getI (k := 0) zc_Jo l_Jo_24 fi_Jo_count d_Jo_add_16 zk_1 ?_
    refine q_iload_n d_Jo_add_19 rfl ?_
    refine p_iast d_Jo_add_20 zk_2 o2 (fun D3 e4 => ?_)
    have h := h D3 e4
    obtain ⟨o5, h⟩ := h
    refine q_aload_n d_Jo_add_21 rfl ?_
    refine p_getR (k := 2) (b := 3) zc_Jo l_Jo_15 fr_Jo_deadline d_Jo_add_22 zk_1 rfl ?_
    refine q_aload_n d_Jo_add_25 rfl ?_
    refine p_getI (k := 0) zc_Jo l_Jo_24 fi_Jo_count d_Jo_add_26 zk_1 ?_
    refine q_iload_n d_Jo_add_29 rfl ?_
    refine p_iast d_Jo_add_30 zk_3 o5 (fun D6 e7 => ?_)
    have h := h D6 e7
    obtain ⟨o8, h⟩ := h
    refine q_aload_n d_Jo_add_31 rfl ?_
    refine p_getR (k := 3) (b := 4) zc_Jo l_Jo_18 fr_Jo_work d_Jo_add_32 zk_1 rfl ?_
    refine q_aload_n d_Jo_add_35 rfl ?_
    refine p_getI (k := 0) zc_Jo l_Jo_24 fi_Jo_count d_Jo_add_36 zk_1 ?_
    refine q_iload_n d_Jo_add_39 rfl ?_
    refine p_iast d_Jo_add_40 zk_4 o8 (fun D9 e10 => ?_)
    have h := h D9 e10
    refine q_aload_n d_Jo_add_41 rfl ?_
    refine p_getI (k := 0) zc_Jo l_Jo_24 fi_Jo_count d_Jo_add_42 zk_1 ?_
    refine q_istore d_Jo_add_45 (by decide) (L' := [vR 1, vI x1, vI x2, vI x3, vI (D9 1 0)]) rfl ?_
    exact h
  · have h := h.2 (c1)
    refine q_iconst d_Jo_add_9 (by decide) ?_
    exact q_iret d_Jo_add_10 (Or.inl rfl) ⟨Nat.le_refl _, Nat.le_refl _⟩ h
theorem s_Jo_add_47 {z1 : VV} {x2 : Int} {z3 : VV} {x4 : Int}  (h : ((x4 ≤ 0 → Sg g M_Jo_add Q 92 [vR 1, vU, vI x2, vU, vI x4] [] D) ∧ (¬ x4 ≤ 0 → (R32 (x4 - 1) ∧ (0 ≤ x4 - 1 ∧ x4 - 1 < 12) ∧ (0 ≤ D 5 (x4 - 1) ∧ D 5 (x4 - 1) < 12)) ∧ (((D 3 (D 5 (x4 - 1))) ≤ x2 → Sg g M_Jo_add Q 92 [vR 1, vU, vI x2, vU, vI x4] [] D) ∧ (¬ (D 3 (D 5 (x4 - 1))) ≤ x2 → (R32 (x4 - 1) ∧ (0 ≤ x4 - 1 ∧ x4 - 1 < 12) ∧ (0 ≤ x4 ∧ x4 < 12)) ∧ (∀ D9, D9 = zw D 5 x4 (D 5 (x4 - 1)) → (R32 (x4 + (-1))) ∧ Sg g M_Jo_add Q 47 [vR 1, vU, vI x2, vU, vI (x4 + (-1))] [] D9)))))) : Sg g M_Jo_add Q 47 [vR 1, z1, vI x2, z3, vI x4] [] D := by
  unfold Sg
  refine q_mask [false, true, false, true, false] (L' := [vR 1, vU, vI x2, vU, vI x4]) rfl ?_
  refine q_iload d_Jo_add_47 rfl ?_
  refine q_if_le (tgt := 92) d_Jo_add_49 (by decide) (fun c1 => ?_) (fun c1 => ?_)
  · have h := h.1 (c1)
    exact h
  · have h := h.2 (c1)
    obtain ⟨⟨o2, o3, o4⟩, h⟩ := h
    refine q_aload_n d_Jo_add_52 rfl ?_
    refine p_getR (k := 2) (b := 3) zc_Jo l_Jo_15 fr_Jo_deadline d_Jo_add_53 zk_1 rfl ?_
    refine q_aload_n d_Jo_add_56 rfl ?_
    refine p_getR (k := 4) (b := 5) zc_Jo l_Jo_21 fr_Jo_byDeadline d_Jo_add_57 zk_1 rfl ?_
    refine q_iload d_Jo_add_60 rfl ?_
    refine q_iconst d_Jo_add_62 (by decide) ?_
    refine q_isub d_Jo_add_63 o2 ?_
    refine p_iald d_Jo_add_64 zk_5 o3 ?_
    refine p_iald d_Jo_add_65 zk_3 o4 ?_
    refine q_iload_n d_Jo_add_66 rfl ?_
    refine q_icmp_le (tgt := 92) d_Jo_add_67 (by decide) (fun c5 => ?_) (fun c5 => ?_)
    · have h := h.1 (c5)
      exact h
    · have h := h.2 (c5)
      obtain ⟨⟨o6, o7, o8⟩, h⟩ := h
      refine q_aload_n d_Jo_add_70 rfl ?_
      refine p_getR (k := 4) (b := 5) zc_Jo l_Jo_21 fr_Jo_byDeadline d_Jo_add_71 zk_1 rfl ?_
      refine q_iload d_Jo_add_74 rfl ?_
      refine q_aload_n d_Jo_add_76 rfl ?_
      refine p_getR (k := 4) (b := 5) zc_Jo l_Jo_21 fr_Jo_byDeadline d_Jo_add_77 zk_1 rfl ?_
      refine q_iload d_Jo_add_80 rfl ?_
      refine q_iconst d_Jo_add_82 (by decide) ?_
      refine q_isub d_Jo_add_83 o6 ?_
      refine p_iald d_Jo_add_84 zk_5 o7 ?_
      refine p_iast d_Jo_add_85 zk_5 o8 (fun D9 e10 => ?_)
      have h := h D9 e10
      obtain ⟨o11, h⟩ := h
      refine q_iinc d_Jo_add_86 rfl (by decide) o11 (L' := [vR 1, vU, vI x2, vU, vI (x4 + (-1))]) rfl ?_
      refine q_goto (tgt := 47) d_Jo_add_89 (by decide) ?_
      exact h
theorem s_Jo_add_92 {z1 : VV} {z2 : VV} {z3 : VV} {x4 : Int}  (h : ((0 ≤ x4 ∧ x4 < 12)) ∧ (∀ D2, D2 = zw D 5 x4 (D 1 0) → (R32 ((D2 1 0) + 1)) ∧ (∀ D5, D5 = zw D2 1 0 ((D2 1 0) + 1) → (R32 ((D5 1 0) - 1)) ∧ Q (some (vI ((D5 1 0) - 1))) zE D5))) : Sg g M_Jo_add Q 92 [vR 1, z1, z2, z3, vI x4] [] D := by
  unfold Sg
  refine q_mask [false, true, true, true, false] (L' := [vR 1, vU, vU, vU, vI x4]) rfl ?_
  obtain ⟨o1, h⟩ := h
  refine q_aload_n d_Jo_add_92 rfl ?_
  refine p_getR (k := 4) (b := 5) zc_Jo l_Jo_21 fr_Jo_byDeadline d_Jo_add_93 zk_1 rfl ?_
  refine q_iload d_Jo_add_96 rfl ?_
  refine q_aload_n d_Jo_add_98 rfl ?_
  refine p_getI (k := 0) zc_Jo l_Jo_24 fi_Jo_count d_Jo_add_99 zk_1 ?_
  refine p_iast d_Jo_add_102 zk_5 o1 (fun D2 e3 => ?_)
  have h := h D2 e3
  obtain ⟨o4, h⟩ := h
  refine q_aload_n d_Jo_add_103 rfl ?_
  refine q_dup d_Jo_add_104 rfl ?_
  refine p_getI (k := 0) zc_Jo l_Jo_24 fi_Jo_count d_Jo_add_105 zk_1 ?_
  refine q_iconst d_Jo_add_108 (by decide) ?_
  refine q_iadd d_Jo_add_109 o4 ?_
  refine p_putI (k := 0) zc_Jo l_Jo_24 fp_Jo_count (Or.inl rfl) d_Jo_add_110 zk_1 (fun D5 e6 => ?_)
  have h := h D5 e6
  obtain ⟨o7, h⟩ := h
  refine q_aload_n d_Jo_add_113 rfl ?_
  refine p_getI (k := 0) zc_Jo l_Jo_24 fi_Jo_count d_Jo_add_114 zk_1 ?_
  refine q_iconst d_Jo_add_117 (by decide) ?_
  refine q_isub d_Jo_add_118 o7 ?_
  exact q_iret d_Jo_add_119 (Or.inl rfl) ⟨Nat.le_refl _, Nat.le_refl _⟩ h
theorem s_Jo_firstRelease_0   (h : CI g M_Jo_nextRelease [vR 1, vI (-1), vI 0] D (fun v1 D' => Sg g M_Jo_firstRelease Q 6 [vR 1] [vI v1] D')) : Sg g M_Jo_firstRelease Q 0 [vR 1] [] D := by
  unfold Sg
  refine q_aload_n d_Jo_firstRelease_0 rfl ?_
  refine q_iconst d_Jo_firstRelease_1 (by decide) ?_
  refine q_iconst d_Jo_firstRelease_2 (by decide) ?_
  refine p_callV (as := [vI (-1), vI 0]) (st := []) (a := 1) mc_Jo_nextRelease mv_Jo_nextRelease l_Jo_28 zc_Jo rfl d_Jo_firstRelease_3 rfl rfl rfl zk_1 (CI.to ?_)
  exact h
theorem s_Jo_firstRelease_6 {z0 : VV} {y0 : Int}  (h : Q (some (vI y0)) zE D) : Sg g M_Jo_firstRelease Q 6 [z0] [vI y0] D := by
  unfold Sg
  refine q_mask [true] (L' := [vU]) rfl ?_
  exact q_iret d_Jo_firstRelease_6 (Or.inl rfl) ⟨Nat.le_refl _, Nat.le_refl _⟩ h
theorem s_Jo_lastDeadline_0   (h : (((D 1 0) ≤ 0 → Q (some (vI 0)) zE D) ∧ (¬ (D 1 0) ≤ 0 → (R32 ((D 1 0) - 1) ∧ (0 ≤ (D 1 0) - 1 ∧ (D 1 0) - 1 < 12) ∧ (0 ≤ D 5 ((D 1 0) - 1) ∧ D 5 ((D 1 0) - 1) < 12)) ∧ Q (some (vI (D 3 (D 5 ((D 1 0) - 1))))) zE D))) : Sg g M_Jo_lastDeadline Q 0 [vR 1] [] D := by
  unfold Sg
  refine q_aload_n d_Jo_lastDeadline_0 rfl ?_
  refine p_getI (k := 0) zc_Jo l_Jo_24 fi_Jo_count d_Jo_lastDeadline_1 zk_1 ?_
  refine q_if_le (tgt := 26) d_Jo_lastDeadline_4 (by decide) (fun c1 => ?_) (fun c1 => ?_)
  · have h := h.1 (c1)
    refine q_iconst d_Jo_lastDeadline_26 (by decide) ?_
    exact q_iret d_Jo_lastDeadline_27 (Or.inl rfl) ⟨Nat.le_refl _, Nat.le_refl _⟩ h
  · have h := h.2 (c1)
    obtain ⟨⟨o2, o3, o4⟩, h⟩ := h
    refine q_aload_n d_Jo_lastDeadline_7 rfl ?_
    refine p_getR (k := 2) (b := 3) zc_Jo l_Jo_15 fr_Jo_deadline d_Jo_lastDeadline_8 zk_1 rfl ?_
    refine q_aload_n d_Jo_lastDeadline_11 rfl ?_
    refine p_getR (k := 4) (b := 5) zc_Jo l_Jo_21 fr_Jo_byDeadline d_Jo_lastDeadline_12 zk_1 rfl ?_
    refine q_aload_n d_Jo_lastDeadline_15 rfl ?_
    refine p_getI (k := 0) zc_Jo l_Jo_24 fi_Jo_count d_Jo_lastDeadline_16 zk_1 ?_
    refine q_iconst d_Jo_lastDeadline_19 (by decide) ?_
    refine q_isub d_Jo_lastDeadline_20 o2 ?_
    refine p_iald d_Jo_lastDeadline_21 zk_5 o3 ?_
    refine p_iald d_Jo_lastDeadline_22 zk_3 o4 ?_
    refine q_goto (tgt := 27) d_Jo_lastDeadline_23 (by decide) ?_
    exact q_iret d_Jo_lastDeadline_27 (Or.inl rfl) ⟨Nat.le_refl _, Nat.le_refl _⟩ h
theorem s_Jo_nextRelease_0 {x1 : Int} {x2 : Int}  (h : Sg g M_Jo_nextRelease Q 5 [vR 1, vI x1, vI x2, vI (-1), vI 0] [] D) : Sg g M_Jo_nextRelease Q 0 [vR 1, vI x1, vI x2, vU, vU] [] D := by
  unfold Sg
  refine q_iconst d_Jo_nextRelease_0 (by decide) ?_
  refine q_istore_n d_Jo_nextRelease_1 (by decide) (L' := [vR 1, vI x1, vI x2, vI (-1), vU]) rfl ?_
  refine q_iconst d_Jo_nextRelease_2 (by decide) ?_
  refine q_istore d_Jo_nextRelease_3 (by decide) (L' := [vR 1, vI x1, vI x2, vI (-1), vI 0]) rfl ?_
  exact h
theorem s_Jo_nextRelease_5 {x1 : Int} {x2 : Int} {x3 : Int} {x4 : Int}  (h : (((D 1 0) ≤ x4 → ((¬ x3 = (-1) → Q (some (vI x3)) zE D) ∧ (x3 = (-1) → Q (some (vI x2)) zE D))) ∧ (¬ (D 1 0) ≤ x4 → ((0 ≤ x4 ∧ x4 < 12)) ∧ (((D 2 x4) ≤ x1 → Sg g M_Jo_nextRelease Q 49 [vR 1, vI x1, vI x2, vI x3, vI x4] [] D) ∧ (¬ (D 2 x4) ≤ x1 → ((x3 = (-1) → Sg g M_Jo_nextRelease Q 41 [vR 1, vI x1, vI x2, vI x3, vI x4] [] D) ∧ (¬ x3 = (-1) → ((0 ≤ x4 ∧ x4 < 12)) ∧ ((x3 ≤ (D 2 x4) → Sg g M_Jo_nextRelease Q 49 [vR 1, vI x1, vI x2, vI x3, vI x4] [] D) ∧ (¬ x3 ≤ (D 2 x4) → Sg g M_Jo_nextRelease Q 41 [vR 1, vI x1, vI x2, vI x3, vI x4] [] D))))))))) : Sg g M_Jo_nextRelease Q 5 [vR 1, vI x1, vI x2, vI x3, vI x4] [] D := by
  unfold Sg
  refine q_iload d_Jo_nextRelease_5 rfl ?_
  refine q_aload_n d_Jo_nextRelease_7 rfl ?_
  refine p_getI (k := 0) zc_Jo l_Jo_24 fi_Jo_count d_Jo_nextRelease_8 zk_1 ?_
  refine q_icmp_ge (tgt := 55) d_Jo_nextRelease_11 (by decide) (fun c1 => ?_) (fun c1 => ?_)
  · have h := h.1 (c1)
    refine q_iload_n d_Jo_nextRelease_55 rfl ?_
    refine q_iconst d_Jo_nextRelease_56 (by decide) ?_
    refine q_icmp_ne (tgt := 64) d_Jo_nextRelease_57 (by decide) (fun c2 => ?_) (fun c2 => ?_)
    · have h := h.1 (c2)
      refine q_iload_n d_Jo_nextRelease_64 rfl ?_
      exact q_iret d_Jo_nextRelease_65 (Or.inl rfl) ⟨Nat.le_refl _, Nat.le_refl _⟩ h
    · have h := h.2 (c2)
      refine q_iload_n d_Jo_nextRelease_60 rfl ?_
      refine q_goto (tgt := 65) d_Jo_nextRelease_61 (by decide) ?_
      exact q_iret d_Jo_nextRelease_65 (Or.inl rfl) ⟨Nat.le_refl _, Nat.le_refl _⟩ h
  · have h := h.2 (c1)
    obtain ⟨o3, h⟩ := h
    refine q_aload_n d_Jo_nextRelease_14 rfl ?_
    refine p_getR (k := 1) (b := 2) zc_Jo l_Jo_9 fr_Jo_release d_Jo_nextRelease_15 zk_1 rfl ?_
    refine q_iload d_Jo_nextRelease_18 rfl ?_
    refine p_iald d_Jo_nextRelease_20 zk_2 o3 ?_
    refine q_iload_n d_Jo_nextRelease_21 rfl ?_
    refine q_icmp_le (tgt := 49) d_Jo_nextRelease_22 (by decide) (fun c4 => ?_) (fun c4 => ?_)
    · have h := h.1 (c4)
      exact h
    · have h := h.2 (c4)
      refine q_iload_n d_Jo_nextRelease_25 rfl ?_
      refine q_iconst d_Jo_nextRelease_26 (by decide) ?_
      refine q_icmp_eq (tgt := 41) d_Jo_nextRelease_27 (by decide) (fun c5 => ?_) (fun c5 => ?_)
      · have h := h.1 (c5)
        exact h
      · have h := h.2 (c5)
        obtain ⟨o6, h⟩ := h
        refine q_aload_n d_Jo_nextRelease_30 rfl ?_
        refine p_getR (k := 1) (b := 2) zc_Jo l_Jo_9 fr_Jo_release d_Jo_nextRelease_31 zk_1 rfl ?_
        refine q_iload d_Jo_nextRelease_34 rfl ?_
        refine p_iald d_Jo_nextRelease_36 zk_2 o6 ?_
        refine q_iload_n d_Jo_nextRelease_37 rfl ?_
        refine q_icmp_ge (tgt := 49) d_Jo_nextRelease_38 (by decide) (fun c7 => ?_) (fun c7 => ?_)
        · have h := h.1 (c7)
          exact h
        · have h := h.2 (c7)
          exact h
theorem s_Jo_nextRelease_49 {x1 : Int} {x2 : Int} {x3 : Int} {x4 : Int}  (h : (R32 (x4 + 1)) ∧ Sg g M_Jo_nextRelease Q 5 [vR 1, vI x1, vI x2, vI x3, vI (x4 + 1)] [] D) : Sg g M_Jo_nextRelease Q 49 [vR 1, vI x1, vI x2, vI x3, vI x4] [] D := by
  unfold Sg
  obtain ⟨o1, h⟩ := h
  refine q_iinc d_Jo_nextRelease_49 rfl (by decide) o1 (L' := [vR 1, vI x1, vI x2, vI x3, vI (x4 + 1)]) rfl ?_
  refine q_goto (tgt := 5) d_Jo_nextRelease_52 (by decide) ?_
  exact h
theorem s_Jo_nextRelease_41 {x1 : Int} {x2 : Int} {z3 : VV} {x4 : Int}  (h : ((0 ≤ x4 ∧ x4 < 12)) ∧ Sg g M_Jo_nextRelease Q 49 [vR 1, vI x1, vI x2, vI (D 2 x4), vI x4] [] D) : Sg g M_Jo_nextRelease Q 41 [vR 1, vI x1, vI x2, z3, vI x4] [] D := by
  unfold Sg
  refine q_mask [false, false, false, true, false] (L' := [vR 1, vI x1, vI x2, vU, vI x4]) rfl ?_
  obtain ⟨o1, h⟩ := h
  refine q_aload_n d_Jo_nextRelease_41 rfl ?_
  refine p_getR (k := 1) (b := 2) zc_Jo l_Jo_9 fr_Jo_release d_Jo_nextRelease_42 zk_1 rfl ?_
  refine q_iload d_Jo_nextRelease_45 rfl ?_
  refine p_iald d_Jo_nextRelease_47 zk_2 o1 ?_
  refine q_istore_n d_Jo_nextRelease_48 (by decide) (L' := [vR 1, vI x1, vI x2, vI (D 2 x4), vI x4]) rfl ?_
  exact h
theorem s_Jo_isWithin_0 {x1 : Int} {x2 : Int} {x3 : Int}  (h : CI g M_Jo_has [vR 1, vI x1] D (fun v1 D' => Sg g M_Jo_isWithin Q 5 [vR 1, vI x1, vI x2, vI x3] [vI v1] D')) : Sg g M_Jo_isWithin Q 0 [vR 1, vI x1, vI x2, vI x3] [] D := by
  unfold Sg
  refine q_aload_n d_Jo_isWithin_0 rfl ?_
  refine q_iload_n d_Jo_isWithin_1 rfl ?_
  refine p_callV (as := [vI x1]) (st := []) (a := 1) mc_Jo_has mv_Jo_has l_Jo_32 zc_Jo rfl d_Jo_isWithin_2 rfl rfl rfl zk_1 (CI.to ?_)
  exact h
theorem s_Jo_isWithin_5 {x1 : Int} {x2 : Int} {x3 : Int} {y0 : Int}  (h : ((y0 = 0 → Q (some (vI 0)) zE D) ∧ (¬ y0 = 0 → ((0 ≤ x1 ∧ x1 < 12)) ∧ (((D 2 x1) < x2 → Q (some (vI 0)) zE D) ∧ (¬ (D 2 x1) < x2 → ((0 ≤ x1 ∧ x1 < 12)) ∧ ((x3 < (D 3 x1) → Q (some (vI 0)) zE D) ∧ (¬ x3 < (D 3 x1) → Q (some (vI 1)) zE D))))))) : Sg g M_Jo_isWithin Q 5 [vR 1, vI x1, vI x2, vI x3] [vI y0] D := by
  unfold Sg
  refine q_if_eq (tgt := 32) d_Jo_isWithin_5 (by decide) (fun c1 => ?_) (fun c1 => ?_)
  · have h := h.1 (c1)
    refine q_iconst d_Jo_isWithin_32 (by decide) ?_
    exact q_iret d_Jo_isWithin_33 (Or.inr ⟨rfl, by decide⟩) ⟨Nat.le_refl _, Nat.le_refl _⟩ h
  · have h := h.2 (c1)
    obtain ⟨o2, h⟩ := h
    refine q_aload_n d_Jo_isWithin_8 rfl ?_
    refine p_getR (k := 1) (b := 2) zc_Jo l_Jo_9 fr_Jo_release d_Jo_isWithin_9 zk_1 rfl ?_
    refine q_iload_n d_Jo_isWithin_12 rfl ?_
    refine p_iald d_Jo_isWithin_13 zk_2 o2 ?_
    refine q_iload_n d_Jo_isWithin_14 rfl ?_
    refine q_icmp_lt (tgt := 32) d_Jo_isWithin_15 (by decide) (fun c3 => ?_) (fun c3 => ?_)
    · have h := h.1 (c3)
      refine q_iconst d_Jo_isWithin_32 (by decide) ?_
      exact q_iret d_Jo_isWithin_33 (Or.inr ⟨rfl, by decide⟩) ⟨Nat.le_refl _, Nat.le_refl _⟩ h
    · have h := h.2 (c3)
      obtain ⟨o4, h⟩ := h
      refine q_aload_n d_Jo_isWithin_18 rfl ?_
      refine p_getR (k := 2) (b := 3) zc_Jo l_Jo_15 fr_Jo_deadline d_Jo_isWithin_19 zk_1 rfl ?_
      refine q_iload_n d_Jo_isWithin_22 rfl ?_
      refine p_iald d_Jo_isWithin_23 zk_3 o4 ?_
      refine q_iload_n d_Jo_isWithin_24 rfl ?_
      refine q_icmp_gt (tgt := 32) d_Jo_isWithin_25 (by decide) (fun c5 => ?_) (fun c5 => ?_)
      · have h := h.1 (c5)
        refine q_iconst d_Jo_isWithin_32 (by decide) ?_
        exact q_iret d_Jo_isWithin_33 (Or.inr ⟨rfl, by decide⟩) ⟨Nat.le_refl _, Nat.le_refl _⟩ h
      · have h := h.2 (c5)
        refine q_iconst d_Jo_isWithin_28 (by decide) ?_
        refine q_goto (tgt := 33) d_Jo_isWithin_29 (by decide) ?_
        exact q_iret d_Jo_isWithin_33 (Or.inr ⟨rfl, by decide⟩) ⟨Nat.le_refl _, Nat.le_refl _⟩ h
theorem s_Jo_workWithin_0 {x1 : Int} {x2 : Int}  (h : Sg g M_Jo_workWithin Q 5 [vR 1, vI x1, vI x2, vI 0, vI 0] [] D) : Sg g M_Jo_workWithin Q 0 [vR 1, vI x1, vI x2, vU, vU] [] D := by
  unfold Sg
  refine q_iconst d_Jo_workWithin_0 (by decide) ?_
  refine q_istore_n d_Jo_workWithin_1 (by decide) (L' := [vR 1, vI x1, vI x2, vI 0, vU]) rfl ?_
  refine q_iconst d_Jo_workWithin_2 (by decide) ?_
  refine q_istore d_Jo_workWithin_3 (by decide) (L' := [vR 1, vI x1, vI x2, vI 0, vI 0]) rfl ?_
  exact h
theorem s_Jo_workWithin_5 {x1 : Int} {x2 : Int} {x3 : Int} {x4 : Int}  (h : (((D 1 0) ≤ x4 → Q (some (vI x3)) zE D) ∧ (¬ (D 1 0) ≤ x4 → CI g M_Jo_isWithin [vR 1, vI x4, vI x1, vI x2] D (fun v2 D' => Sg g M_Jo_workWithin Q 22 [vR 1, vI x1, vI x2, vI x3, vI x4] [vI v2] D')))) : Sg g M_Jo_workWithin Q 5 [vR 1, vI x1, vI x2, vI x3, vI x4] [] D := by
  unfold Sg
  refine q_iload d_Jo_workWithin_5 rfl ?_
  refine q_aload_n d_Jo_workWithin_7 rfl ?_
  refine p_getI (k := 0) zc_Jo l_Jo_24 fi_Jo_count d_Jo_workWithin_8 zk_1 ?_
  refine q_icmp_ge (tgt := 41) d_Jo_workWithin_11 (by decide) (fun c1 => ?_) (fun c1 => ?_)
  · have h := h.1 (c1)
    refine q_iload_n d_Jo_workWithin_41 rfl ?_
    exact q_iret d_Jo_workWithin_42 (Or.inl rfl) ⟨Nat.le_refl _, Nat.le_refl _⟩ h
  · have h := h.2 (c1)
    refine q_aload_n d_Jo_workWithin_14 rfl ?_
    refine q_iload d_Jo_workWithin_15 rfl ?_
    refine q_iload_n d_Jo_workWithin_17 rfl ?_
    refine q_iload_n d_Jo_workWithin_18 rfl ?_
    refine p_callV (as := [vI x4, vI x1, vI x2]) (st := []) (a := 1) mc_Jo_isWithin mv_Jo_isWithin l_Jo_36 zc_Jo rfl d_Jo_workWithin_19 rfl rfl rfl zk_1 (CI.to ?_)
    exact h
theorem s_Jo_workWithin_22 {x1 : Int} {x2 : Int} {x3 : Int} {x4 : Int} {y0 : Int}  (h : ((y0 = 0 → Sg g M_Jo_workWithin Q 35 [vR 1, vI x1, vI x2, vI x3, vI x4] [] D) ∧ (¬ y0 = 0 → ((0 ≤ x4 ∧ x4 < 12) ∧ R32 (x3 + (D 4 x4))) ∧ Sg g M_Jo_workWithin Q 35 [vR 1, vI x1, vI x2, vI (x3 + (D 4 x4)), vI x4] [] D))) : Sg g M_Jo_workWithin Q 22 [vR 1, vI x1, vI x2, vI x3, vI x4] [vI y0] D := by
  unfold Sg
  refine q_if_eq (tgt := 35) d_Jo_workWithin_22 (by decide) (fun c1 => ?_) (fun c1 => ?_)
  · have h := h.1 (c1)
    exact h
  · have h := h.2 (c1)
    obtain ⟨⟨o2, o3⟩, h⟩ := h
    refine q_iload_n d_Jo_workWithin_25 rfl ?_
    refine q_aload_n d_Jo_workWithin_26 rfl ?_
    refine p_getR (k := 3) (b := 4) zc_Jo l_Jo_18 fr_Jo_work d_Jo_workWithin_27 zk_1 rfl ?_
    refine q_iload d_Jo_workWithin_30 rfl ?_
    refine p_iald d_Jo_workWithin_32 zk_4 o2 ?_
    refine q_iadd d_Jo_workWithin_33 o3 ?_
    refine q_istore_n d_Jo_workWithin_34 (by decide) (L' := [vR 1, vI x1, vI x2, vI (x3 + (D 4 x4)), vI x4]) rfl ?_
    exact h
theorem s_Jo_workWithin_35 {x1 : Int} {x2 : Int} {x3 : Int} {x4 : Int}  (h : (R32 (x4 + 1)) ∧ Sg g M_Jo_workWithin Q 5 [vR 1, vI x1, vI x2, vI x3, vI (x4 + 1)] [] D) : Sg g M_Jo_workWithin Q 35 [vR 1, vI x1, vI x2, vI x3, vI x4] [] D := by
  unfold Sg
  obtain ⟨o1, h⟩ := h
  refine q_iinc d_Jo_workWithin_35 rfl (by decide) o1 (L' := [vR 1, vI x1, vI x2, vI x3, vI (x4 + 1)]) rfl ?_
  refine q_goto (tgt := 5) d_Jo_workWithin_38 (by decide) ?_
  exact h
theorem s_Jo_allWork_0   (h : CI g M_Jo_workWithin [vR 1, vI 0, vI 200] D (fun v1 D' => Sg g M_Jo_allWork Q 8 [vR 1] [vI v1] D')) : Sg g M_Jo_allWork Q 0 [vR 1] [] D := by
  unfold Sg
  refine q_aload_n d_Jo_allWork_0 rfl ?_
  refine q_iconst d_Jo_allWork_1 (by decide) ?_
  refine q_sipush d_Jo_allWork_2 ks_200 ?_
  refine p_callV (as := [vI 0, vI 200]) (st := []) (a := 1) mc_Jo_workWithin mv_Jo_workWithin l_Jo_40 zc_Jo rfl d_Jo_allWork_5 rfl rfl rfl zk_1 (CI.to ?_)
  exact h
theorem s_Jo_allWork_8 {z0 : VV} {y0 : Int}  (h : Q (some (vI y0)) zE D) : Sg g M_Jo_allWork Q 8 [z0] [vI y0] D := by
  unfold Sg
  refine q_mask [true] (L' := [vU]) rfl ?_
  exact q_iret d_Jo_allWork_8 (Or.inl rfl) ⟨Nat.le_refl _, Nat.le_refl _⟩ h
theorem s_Le_has_0 {x1 : Int}  (h : ((x1 < 0 → Q (some (vI 0)) zE D) ∧ (¬ x1 < 0 → (((D 6 0) ≤ x1 → Q (some (vI 0)) zE D) ∧ (¬ (D 6 0) ≤ x1 → Q (some (vI 1)) zE D))))) : Sg g M_Le_has Q 0 [vR 6, vI x1] [] D := by
  unfold Sg
  refine q_iload_n d_Le_has_0 rfl ?_
  refine q_if_lt (tgt := 16) d_Le_has_1 (by decide) (fun c1 => ?_) (fun c1 => ?_)
  · have h := h.1 (c1)
    refine q_iconst d_Le_has_16 (by decide) ?_
    exact q_iret d_Le_has_17 (Or.inr ⟨rfl, by decide⟩) ⟨Nat.le_refl _, Nat.le_refl _⟩ h
  · have h := h.2 (c1)
    refine q_iload_n d_Le_has_4 rfl ?_
    refine q_aload_n d_Le_has_5 rfl ?_
    refine p_getI (k := 0) zc_Le l_Le_18 fi_Le_count d_Le_has_6 zk_6 ?_
    refine q_icmp_ge (tgt := 16) d_Le_has_9 (by decide) (fun c2 => ?_) (fun c2 => ?_)
    · have h := h.1 (c2)
      refine q_iconst d_Le_has_16 (by decide) ?_
      exact q_iret d_Le_has_17 (Or.inr ⟨rfl, by decide⟩) ⟨Nat.le_refl _, Nat.le_refl _⟩ h
    · have h := h.2 (c2)
      refine q_iconst d_Le_has_12 (by decide) ?_
      refine q_goto (tgt := 17) d_Le_has_13 (by decide) ?_
      exact q_iret d_Le_has_17 (Or.inr ⟨rfl, by decide⟩) ⟨Nat.le_refl _, Nat.le_refl _⟩ h
theorem s_Le_rateOf_0 {x1 : Int}  (h : CI g M_Le_has [vR 6, vI x1] D (fun v1 D' => Sg g M_Le_rateOf Q 5 [vR 6, vI x1] [vI v1] D')) : Sg g M_Le_rateOf Q 0 [vR 6, vI x1] [] D := by
  unfold Sg
  refine q_aload_n d_Le_rateOf_0 rfl ?_
  refine q_iload_n d_Le_rateOf_1 rfl ?_
  refine p_callV (as := [vI x1]) (st := []) (a := 6) mc_Le_has mv_Le_has l_Le_22 zc_Le rfl d_Le_rateOf_2 rfl rfl rfl zk_6 (CI.to ?_)
  exact h
theorem s_Le_rateOf_5 {x1 : Int} {y0 : Int}  (h : ((y0 = 0 → Q (some (vI 0)) zE D) ∧ (¬ y0 = 0 → ((0 ≤ x1 ∧ x1 < 8)) ∧ Q (some (vI (D 7 x1))) zE D))) : Sg g M_Le_rateOf Q 5 [vR 6, vI x1] [vI y0] D := by
  unfold Sg
  refine q_if_eq (tgt := 17) d_Le_rateOf_5 (by decide) (fun c1 => ?_) (fun c1 => ?_)
  · have h := h.1 (c1)
    refine q_iconst d_Le_rateOf_17 (by decide) ?_
    exact q_iret d_Le_rateOf_18 (Or.inl rfl) ⟨Nat.le_refl _, Nat.le_refl _⟩ h
  · have h := h.2 (c1)
    obtain ⟨o2, h⟩ := h
    refine q_aload_n d_Le_rateOf_8 rfl ?_
    refine p_getR (k := 1) (b := 7) zc_Le l_Le_9 fr_Le_rates d_Le_rateOf_9 zk_6 rfl ?_
    refine q_iload_n d_Le_rateOf_12 rfl ?_
    refine p_iald d_Le_rateOf_13 zk_7 o2 ?_
    refine q_goto (tgt := 18) d_Le_rateOf_14 (by decide) ?_
    exact q_iret d_Le_rateOf_18 (Or.inl rfl) ⟨Nat.le_refl _, Nat.le_refl _⟩ h
theorem s_Le_costOf_0 {x1 : Int}  (h : CI g M_Le_has [vR 6, vI x1] D (fun v1 D' => Sg g M_Le_costOf Q 5 [vR 6, vI x1] [vI v1] D')) : Sg g M_Le_costOf Q 0 [vR 6, vI x1] [] D := by
  unfold Sg
  refine q_aload_n d_Le_costOf_0 rfl ?_
  refine q_iload_n d_Le_costOf_1 rfl ?_
  refine p_callV (as := [vI x1]) (st := []) (a := 6) mc_Le_has mv_Le_has l_Le_22 zc_Le rfl d_Le_costOf_2 rfl rfl rfl zk_6 (CI.to ?_)
  exact h
theorem s_Le_costOf_5 {x1 : Int} {y0 : Int}  (h : ((y0 = 0 → Q (some (vI 0)) zE D) ∧ (¬ y0 = 0 → ((0 ≤ x1 ∧ x1 < 8)) ∧ Q (some (vI (D 8 x1))) zE D))) : Sg g M_Le_costOf Q 5 [vR 6, vI x1] [vI y0] D := by
  unfold Sg
  refine q_if_eq (tgt := 17) d_Le_costOf_5 (by decide) (fun c1 => ?_) (fun c1 => ?_)
  · have h := h.1 (c1)
    refine q_iconst d_Le_costOf_17 (by decide) ?_
    exact q_iret d_Le_costOf_18 (Or.inl rfl) ⟨Nat.le_refl _, Nat.le_refl _⟩ h
  · have h := h.2 (c1)
    obtain ⟨o2, h⟩ := h
    refine q_aload_n d_Le_costOf_8 rfl ?_
    refine p_getR (k := 2) (b := 8) zc_Le l_Le_15 fr_Le_costs d_Le_costOf_9 zk_6 rfl ?_
    refine q_iload_n d_Le_costOf_12 rfl ?_
    refine p_iald d_Le_costOf_13 zk_8 o2 ?_
    refine q_goto (tgt := 18) d_Le_costOf_14 (by decide) ?_
    exact q_iret d_Le_costOf_18 (Or.inl rfl) ⟨Nat.le_refl _, Nat.le_refl _⟩ h
theorem s_Le_add_0 {x1 : Int} {x2 : Int}  (h : ((8 ≤ (D 6 0) → Sg g M_Le_add Q 39 [vR 6, vI x1, vI x2] [] D) ∧ (¬ 8 ≤ (D 6 0) → ((0 ≤ D 6 0 ∧ D 6 0 < 8)) ∧ (∀ D3, D3 = zw D 7 (D 6 0) x1 → ((0 ≤ D3 6 0 ∧ D3 6 0 < 8)) ∧ (∀ D6, D6 = zw D3 8 (D3 6 0) x2 → (R32 ((D6 6 0) + 1)) ∧ (∀ D9, D9 = zw D6 6 0 ((D6 6 0) + 1) → Sg g M_Le_add Q 39 [vR 6, vI x1, vI x2] [] D9)))))) : Sg g M_Le_add Q 0 [vR 6, vI x1, vI x2] [] D := by
  unfold Sg
  refine q_aload_n d_Le_add_0 rfl ?_
  refine p_getI (k := 0) zc_Le l_Le_18 fi_Le_count d_Le_add_1 zk_6 ?_
  refine q_bipush d_Le_add_4 kb_8 ?_
  refine q_icmp_ge (tgt := 39) d_Le_add_6 (by decide) (fun c1 => ?_) (fun c1 => ?_)
  · have h := h.1 (c1)
    exact h
  · have h := h.2 (c1)
    obtain ⟨o2, h⟩ := h
    refine q_aload_n d_Le_add_9 rfl ?_
    refine p_getR (k := 1) (b := 7) zc_Le l_Le_9 fr_Le_rates d_Le_add_10 zk_6 rfl ?_
    refine q_aload_n d_Le_add_13 rfl ?_
    refine p_getI (k := 0) zc_Le l_Le_18 fi_Le_count d_Le_add_14 zk_6 ?_
    refine q_iload_n d_Le_add_17 rfl ?_
    refine p_iast d_Le_add_18 zk_7 o2 (fun D3 e4 => ?_)
    have h := h D3 e4
    obtain ⟨o5, h⟩ := h
    refine q_aload_n d_Le_add_19 rfl ?_
    refine p_getR (k := 2) (b := 8) zc_Le l_Le_15 fr_Le_costs d_Le_add_20 zk_6 rfl ?_
    refine q_aload_n d_Le_add_23 rfl ?_
    refine p_getI (k := 0) zc_Le l_Le_18 fi_Le_count d_Le_add_24 zk_6 ?_
    refine q_iload_n d_Le_add_27 rfl ?_
    refine p_iast d_Le_add_28 zk_8 o5 (fun D6 e7 => ?_)
    have h := h D6 e7
    obtain ⟨o8, h⟩ := h
    refine q_aload_n d_Le_add_29 rfl ?_
    refine q_dup d_Le_add_30 rfl ?_
    refine p_getI (k := 0) zc_Le l_Le_18 fi_Le_count d_Le_add_31 zk_6 ?_
    refine q_iconst d_Le_add_34 (by decide) ?_
    refine q_iadd d_Le_add_35 o8 ?_
    refine p_putI (k := 0) zc_Le l_Le_18 fp_Le_count (Or.inl rfl) d_Le_add_36 zk_6 (fun D9 e10 => ?_)
    have h := h D9 e10
    exact h
theorem s_Le_add_39 {z1 : VV} {z2 : VV}  (h : Q (some (vI (D 6 0))) zE D) : Sg g M_Le_add Q 39 [vR 6, z1, z2] [] D := by
  unfold Sg
  refine q_mask [false, true, true] (L' := [vR 6, vU, vU]) rfl ?_
  refine q_aload_n d_Le_add_39 rfl ?_
  refine p_getI (k := 0) zc_Le l_Le_18 fi_Le_count d_Le_add_40 zk_6 ?_
  exact q_iret d_Le_add_43 (Or.inl rfl) ⟨Nat.le_refl _, Nat.le_refl _⟩ h
theorem s_Le_leastFor_0 {x1 : Int} {x2 : Int}  (h : Sg g M_Le_leastFor Q 2 [vR 6, vI x1, vI x2, vI 0] [] D) : Sg g M_Le_leastFor Q 0 [vR 6, vI x1, vI x2, vU] [] D := by
  unfold Sg
  refine q_iconst d_Le_leastFor_0 (by decide) ?_
  refine q_istore_n d_Le_leastFor_1 (by decide) (L' := [vR 6, vI x1, vI x2, vI 0]) rfl ?_
  exact h
theorem s_Le_leastFor_2 {x1 : Int} {x2 : Int} {x3 : Int}  (h : (((D 6 0) ≤ x3 → Q (some (vI (-1))) zE D) ∧ (¬ (D 6 0) ≤ x3 → CI g M_Le_rateOf [vR 6, vI x3] D (fun v2 D' => Sg g M_Le_leastFor Q 15 [vR 6, vI x1, vI x2, vI x3] [vI v2] D')))) : Sg g M_Le_leastFor Q 2 [vR 6, vI x1, vI x2, vI x3] [] D := by
  unfold Sg
  refine q_iload_n d_Le_leastFor_2 rfl ?_
  refine q_aload_n d_Le_leastFor_3 rfl ?_
  refine p_getI (k := 0) zc_Le l_Le_18 fi_Le_count d_Le_leastFor_4 zk_6 ?_
  refine q_icmp_ge (tgt := 29) d_Le_leastFor_7 (by decide) (fun c1 => ?_) (fun c1 => ?_)
  · have h := h.1 (c1)
    refine q_iconst d_Le_leastFor_29 (by decide) ?_
    exact q_iret d_Le_leastFor_30 (Or.inl rfl) ⟨Nat.le_refl _, Nat.le_refl _⟩ h
  · have h := h.2 (c1)
    refine q_aload_n d_Le_leastFor_10 rfl ?_
    refine q_iload_n d_Le_leastFor_11 rfl ?_
    refine p_callV (as := [vI x3]) (st := []) (a := 6) mc_Le_rateOf mv_Le_rateOf l_Le_26 zc_Le rfl d_Le_leastFor_12 rfl rfl rfl zk_6 (CI.to ?_)
    exact h
theorem s_Le_leastFor_15 {x1 : Int} {x2 : Int} {x3 : Int} {y0 : Int}  (h : (R32 (y0 * x2)) ∧ (((y0 * x2) < x1 → (R32 (x3 + 1)) ∧ Sg g M_Le_leastFor Q 2 [vR 6, vI x1, vI x2, vI (x3 + 1)] [] D) ∧ (¬ (y0 * x2) < x1 → Q (some (vI x3)) zE D))) : Sg g M_Le_leastFor Q 15 [vR 6, vI x1, vI x2, vI x3] [vI y0] D := by
  unfold Sg
  obtain ⟨o1, h⟩ := h
  refine q_iload_n d_Le_leastFor_15 rfl ?_
  refine q_imul d_Le_leastFor_16 o1 ?_
  refine q_iload_n d_Le_leastFor_17 rfl ?_
  refine q_icmp_lt (tgt := 23) d_Le_leastFor_18 (by decide) (fun c2 => ?_) (fun c2 => ?_)
  · have h := h.1 (c2)
    obtain ⟨o3, h⟩ := h
    refine q_iinc d_Le_leastFor_23 rfl (by decide) o3 (L' := [vR 6, vI x1, vI x2, vI (x3 + 1)]) rfl ?_
    refine q_goto (tgt := 2) d_Le_leastFor_26 (by decide) ?_
    exact h
  · have h := h.2 (c2)
    refine q_iload_n d_Le_leastFor_21 rfl ?_
    exact q_iret d_Le_leastFor_22 (Or.inl rfl) ⟨Nat.le_refl _, Nat.le_refl _⟩ h
theorem s_Le_areConvex_0   (h : Sg g M_Le_areConvex Q 2 [vR 6, vI 1, vU, vU, vU, vU, vU, vU, vU, vU] [] D) : Sg g M_Le_areConvex Q 0 [vR 6, vU, vU, vU, vU, vU, vU, vU, vU, vU] [] D := by
  unfold Sg
  refine q_iconst d_Le_areConvex_0 (by decide) ?_
  refine q_istore_n d_Le_areConvex_1 (by decide) (L' := [vR 6, vI 1, vU, vU, vU, vU, vU, vU, vU, vU]) rfl ?_
  exact h
theorem s_Le_areConvex_2 {x1 : Int} {z2 : VV} {z3 : VV} {z4 : VV} {z5 : VV} {z6 : VV} {z7 : VV} {z8 : VV} {z9 : VV}  (h : (((D 6 0) ≤ x1 → Q (some (vI 1)) zE D) ∧ (¬ (D 6 0) ≤ x1 → CI g M_Le_costOf [vR 6, vI x1] D (fun v2 D' => Sg g M_Le_areConvex Q 15 [vR 6, vI x1, vU, vU, vU, vU, vU, vU, vU, vU] [vI v2] D')))) : Sg g M_Le_areConvex Q 2 [vR 6, vI x1, z2, z3, z4, z5, z6, z7, z8, z9] [] D := by
  unfold Sg
  refine q_mask [false, false, true, true, true, true, true, true, true, true] (L' := [vR 6, vI x1, vU, vU, vU, vU, vU, vU, vU, vU]) rfl ?_
  refine q_iload_n d_Le_areConvex_2 rfl ?_
  refine q_aload_n d_Le_areConvex_3 rfl ?_
  refine p_getI (k := 0) zc_Le l_Le_18 fi_Le_count d_Le_areConvex_4 zk_6 ?_
  refine q_icmp_ge (tgt := 102) d_Le_areConvex_7 (by decide) (fun c1 => ?_) (fun c1 => ?_)
  · have h := h.1 (c1)
    refine q_iconst d_Le_areConvex_102 (by decide) ?_
    exact q_iret d_Le_areConvex_103 (Or.inr ⟨rfl, by decide⟩) ⟨Nat.le_refl _, Nat.le_refl _⟩ h
  · have h := h.2 (c1)
    refine q_aload_n d_Le_areConvex_10 rfl ?_
    refine q_iload_n d_Le_areConvex_11 rfl ?_
    refine p_callV (as := [vI x1]) (st := []) (a := 6) mc_Le_costOf mv_Le_costOf l_Le_30 zc_Le rfl d_Le_areConvex_12 rfl rfl rfl zk_6 (CI.to ?_)
    exact h
theorem s_Le_areConvex_15 {x1 : Int} {z2 : VV} {z3 : VV} {z4 : VV} {z5 : VV} {z6 : VV} {z7 : VV} {z8 : VV} {z9 : VV} {y0 : Int}  (h : (R32 (x1 - 1)) ∧ CI g M_Le_costOf [vR 6, vI (x1 - 1)] D (fun v2 D' => Sg g M_Le_areConvex Q 23 [vR 6, vI x1, vU, vU, vU, vU, vU, vU, vU, vU] [vI v2, vL y0] D')) : Sg g M_Le_areConvex Q 15 [vR 6, vI x1, z2, z3, z4, z5, z6, z7, z8, z9] [vI y0] D := by
  unfold Sg
  refine q_mask [false, false, true, true, true, true, true, true, true, true] (L' := [vR 6, vI x1, vU, vU, vU, vU, vU, vU, vU, vU]) rfl ?_
  obtain ⟨o1, h⟩ := h
  refine q_i2l d_Le_areConvex_15 ?_
  refine q_aload_n d_Le_areConvex_16 rfl ?_
  refine q_iload_n d_Le_areConvex_17 rfl ?_
  refine q_iconst d_Le_areConvex_18 (by decide) ?_
  refine q_isub d_Le_areConvex_19 o1 ?_
  refine p_callV (as := [vI (x1 - 1)]) (st := [vL y0]) (a := 6) mc_Le_costOf mv_Le_costOf l_Le_30 zc_Le rfl d_Le_areConvex_20 rfl rfl rfl zk_6 (CI.to ?_)
  exact h
theorem s_Le_areConvex_23 {x1 : Int} {z2 : VV} {z3 : VV} {z4 : VV} {z5 : VV} {z6 : VV} {z7 : VV} {z8 : VV} {z9 : VV} {y0 : Int} {y1 : Int}  (h : (R64 (y1 - y0)) ∧ CI g M_Le_rateOf [vR 6, vI x1] D (fun v2 D' => Sg g M_Le_areConvex Q 31 [vR 6, vI x1, vL (y1 - y0), vU, vU, vU, vU, vU, vU, vU] [vI v2] D')) : Sg g M_Le_areConvex Q 23 [vR 6, vI x1, z2, z3, z4, z5, z6, z7, z8, z9] [vI y0, vL y1] D := by
  unfold Sg
  refine q_mask [false, false, true, true, true, true, true, true, true, true] (L' := [vR 6, vI x1, vU, vU, vU, vU, vU, vU, vU, vU]) rfl ?_
  obtain ⟨o1, h⟩ := h
  refine q_i2l d_Le_areConvex_23 ?_
  refine q_lsub d_Le_areConvex_24 o1 ?_
  refine q_lstore_n d_Le_areConvex_25 (by decide) (L' := [vR 6, vI x1, vL (y1 - y0), vU, vU, vU, vU, vU, vU, vU]) rfl ?_
  refine q_aload_n d_Le_areConvex_26 rfl ?_
  refine q_iload_n d_Le_areConvex_27 rfl ?_
  refine p_callV (as := [vI x1]) (st := []) (a := 6) mc_Le_rateOf mv_Le_rateOf l_Le_26 zc_Le rfl d_Le_areConvex_28 rfl rfl rfl zk_6 (CI.to ?_)
  exact h
theorem s_Le_areConvex_31 {x1 : Int} {x2 : Int} {z4 : VV} {z5 : VV} {z6 : VV} {z7 : VV} {z8 : VV} {z9 : VV} {y0 : Int}  (h : (R32 (x1 - 1)) ∧ CI g M_Le_rateOf [vR 6, vI (x1 - 1)] D (fun v2 D' => Sg g M_Le_areConvex Q 39 [vR 6, vI x1, vL x2, vU, vU, vU, vU, vU, vU, vU] [vI v2, vL y0] D')) : Sg g M_Le_areConvex Q 31 [vR 6, vI x1, vL x2, vU, z4, z5, z6, z7, z8, z9] [vI y0] D := by
  unfold Sg
  refine q_mask [false, false, false, false, true, true, true, true, true, true] (L' := [vR 6, vI x1, vL x2, vU, vU, vU, vU, vU, vU, vU]) rfl ?_
  obtain ⟨o1, h⟩ := h
  refine q_i2l d_Le_areConvex_31 ?_
  refine q_aload_n d_Le_areConvex_32 rfl ?_
  refine q_iload_n d_Le_areConvex_33 rfl ?_
  refine q_iconst d_Le_areConvex_34 (by decide) ?_
  refine q_isub d_Le_areConvex_35 o1 ?_
  refine p_callV (as := [vI (x1 - 1)]) (st := [vL y0]) (a := 6) mc_Le_rateOf mv_Le_rateOf l_Le_26 zc_Le rfl d_Le_areConvex_36 rfl rfl rfl zk_6 (CI.to ?_)
  exact h
theorem s_Le_areConvex_39 {x1 : Int} {x2 : Int} {z4 : VV} {z5 : VV} {z6 : VV} {z7 : VV} {z8 : VV} {z9 : VV} {y0 : Int} {y1 : Int}  (h : (R64 (y1 - y0) ∧ R32 (x1 - 1)) ∧ CI g M_Le_costOf [vR 6, vI (x1 - 1)] D (fun v3 D' => Sg g M_Le_areConvex Q 50 [vR 6, vI x1, vL x2, vU, vL (y1 - y0), vU, vU, vU, vU, vU] [vI v3] D')) : Sg g M_Le_areConvex Q 39 [vR 6, vI x1, vL x2, vU, z4, z5, z6, z7, z8, z9] [vI y0, vL y1] D := by
  unfold Sg
  refine q_mask [false, false, false, false, true, true, true, true, true, true] (L' := [vR 6, vI x1, vL x2, vU, vU, vU, vU, vU, vU, vU]) rfl ?_
  obtain ⟨⟨o1, o2⟩, h⟩ := h
  refine q_i2l d_Le_areConvex_39 ?_
  refine q_lsub d_Le_areConvex_40 o1 ?_
  refine q_lstore d_Le_areConvex_41 (by decide) (L' := [vR 6, vI x1, vL x2, vU, vL (y1 - y0), vU, vU, vU, vU, vU]) rfl ?_
  refine q_aload_n d_Le_areConvex_43 rfl ?_
  refine q_iload_n d_Le_areConvex_44 rfl ?_
  refine q_iconst d_Le_areConvex_45 (by decide) ?_
  refine q_isub d_Le_areConvex_46 o2 ?_
  refine p_callV (as := [vI (x1 - 1)]) (st := []) (a := 6) mc_Le_costOf mv_Le_costOf l_Le_30 zc_Le rfl d_Le_areConvex_47 rfl rfl rfl zk_6 (CI.to ?_)
  exact h
theorem s_Le_areConvex_50 {x1 : Int} {x2 : Int} {x4 : Int} {z6 : VV} {z7 : VV} {z8 : VV} {z9 : VV} {y0 : Int}  (h : (R32 (x1 - 2)) ∧ CI g M_Le_costOf [vR 6, vI (x1 - 2)] D (fun v2 D' => Sg g M_Le_areConvex Q 58 [vR 6, vI x1, vL x2, vU, vL x4, vU, vU, vU, vU, vU] [vI v2, vL y0] D')) : Sg g M_Le_areConvex Q 50 [vR 6, vI x1, vL x2, vU, vL x4, vU, z6, z7, z8, z9] [vI y0] D := by
  unfold Sg
  refine q_mask [false, false, false, false, false, false, true, true, true, true] (L' := [vR 6, vI x1, vL x2, vU, vL x4, vU, vU, vU, vU, vU]) rfl ?_
  obtain ⟨o1, h⟩ := h
  refine q_i2l d_Le_areConvex_50 ?_
  refine q_aload_n d_Le_areConvex_51 rfl ?_
  refine q_iload_n d_Le_areConvex_52 rfl ?_
  refine q_iconst d_Le_areConvex_53 (by decide) ?_
  refine q_isub d_Le_areConvex_54 o1 ?_
  refine p_callV (as := [vI (x1 - 2)]) (st := [vL y0]) (a := 6) mc_Le_costOf mv_Le_costOf l_Le_30 zc_Le rfl d_Le_areConvex_55 rfl rfl rfl zk_6 (CI.to ?_)
  exact h
theorem s_Le_areConvex_58 {x1 : Int} {x2 : Int} {x4 : Int} {z6 : VV} {z7 : VV} {z8 : VV} {z9 : VV} {y0 : Int} {y1 : Int}  (h : (R64 (y1 - y0) ∧ R32 (x1 - 1)) ∧ CI g M_Le_rateOf [vR 6, vI (x1 - 1)] D (fun v3 D' => Sg g M_Le_areConvex Q 69 [vR 6, vI x1, vL x2, vU, vL x4, vU, vL (y1 - y0), vU, vU, vU] [vI v3] D')) : Sg g M_Le_areConvex Q 58 [vR 6, vI x1, vL x2, vU, vL x4, vU, z6, z7, z8, z9] [vI y0, vL y1] D := by
  unfold Sg
  refine q_mask [false, false, false, false, false, false, true, true, true, true] (L' := [vR 6, vI x1, vL x2, vU, vL x4, vU, vU, vU, vU, vU]) rfl ?_
  obtain ⟨⟨o1, o2⟩, h⟩ := h
  refine q_i2l d_Le_areConvex_58 ?_
  refine q_lsub d_Le_areConvex_59 o1 ?_
  refine q_lstore d_Le_areConvex_60 (by decide) (L' := [vR 6, vI x1, vL x2, vU, vL x4, vU, vL (y1 - y0), vU, vU, vU]) rfl ?_
  refine q_aload_n d_Le_areConvex_62 rfl ?_
  refine q_iload_n d_Le_areConvex_63 rfl ?_
  refine q_iconst d_Le_areConvex_64 (by decide) ?_
  refine q_isub d_Le_areConvex_65 o2 ?_
  refine p_callV (as := [vI (x1 - 1)]) (st := []) (a := 6) mc_Le_rateOf mv_Le_rateOf l_Le_26 zc_Le rfl d_Le_areConvex_66 rfl rfl rfl zk_6 (CI.to ?_)
  exact h
theorem s_Le_areConvex_69 {x1 : Int} {x2 : Int} {x4 : Int} {x6 : Int} {z8 : VV} {z9 : VV} {y0 : Int}  (h : (R32 (x1 - 2)) ∧ CI g M_Le_rateOf [vR 6, vI (x1 - 2)] D (fun v2 D' => Sg g M_Le_areConvex Q 77 [vR 6, vI x1, vL x2, vU, vL x4, vU, vL x6, vU, vU, vU] [vI v2, vL y0] D')) : Sg g M_Le_areConvex Q 69 [vR 6, vI x1, vL x2, vU, vL x4, vU, vL x6, vU, z8, z9] [vI y0] D := by
  unfold Sg
  refine q_mask [false, false, false, false, false, false, false, false, true, true] (L' := [vR 6, vI x1, vL x2, vU, vL x4, vU, vL x6, vU, vU, vU]) rfl ?_
  obtain ⟨o1, h⟩ := h
  refine q_i2l d_Le_areConvex_69 ?_
  refine q_aload_n d_Le_areConvex_70 rfl ?_
  refine q_iload_n d_Le_areConvex_71 rfl ?_
  refine q_iconst d_Le_areConvex_72 (by decide) ?_
  refine q_isub d_Le_areConvex_73 o1 ?_
  refine p_callV (as := [vI (x1 - 2)]) (st := [vL y0]) (a := 6) mc_Le_rateOf mv_Le_rateOf l_Le_26 zc_Le rfl d_Le_areConvex_74 rfl rfl rfl zk_6 (CI.to ?_)
  exact h
theorem s_Le_areConvex_77 {x1 : Int} {x2 : Int} {x4 : Int} {x6 : Int} {z8 : VV} {z9 : VV} {y0 : Int} {y1 : Int}  (h : (R64 (y1 - y0) ∧ R64 (x2 * (y1 - y0)) ∧ R64 (x6 * x4)) ∧ (((x6 * x4) ≤ (x2 * (y1 - y0)) → (R32 (x1 + 1)) ∧ Sg g M_Le_areConvex Q 2 [vR 6, vI (x1 + 1), vL x2, vU, vL x4, vU, vL x6, vU, vL (y1 - y0), vU] [] D) ∧ (¬ (x6 * x4) ≤ (x2 * (y1 - y0)) → Q (some (vI 0)) zE D))) : Sg g M_Le_areConvex Q 77 [vR 6, vI x1, vL x2, vU, vL x4, vU, vL x6, vU, z8, z9] [vI y0, vL y1] D := by
  unfold Sg
  refine q_mask [false, false, false, false, false, false, false, false, true, true] (L' := [vR 6, vI x1, vL x2, vU, vL x4, vU, vL x6, vU, vU, vU]) rfl ?_
  obtain ⟨⟨o1, o2, o3⟩, h⟩ := h
  refine q_i2l d_Le_areConvex_77 ?_
  refine q_lsub d_Le_areConvex_78 o1 ?_
  refine q_lstore d_Le_areConvex_79 (by decide) (L' := [vR 6, vI x1, vL x2, vU, vL x4, vU, vL x6, vU, vL (y1 - y0), vU]) rfl ?_
  refine q_lload_n d_Le_areConvex_81 rfl ?_
  refine q_lload d_Le_areConvex_82 rfl ?_
  refine q_lmul d_Le_areConvex_84 o2 ?_
  refine q_lload d_Le_areConvex_85 rfl ?_
  refine q_lload d_Le_areConvex_87 rfl ?_
  refine q_lmul d_Le_areConvex_89 o3 ?_
  refine q_lcmp d_Le_areConvex_90 ?_
  refine q_if_ge (tgt := 96) d_Le_areConvex_91 (by decide) (fun c4 => ?_) (fun c4 => ?_)
  · have h := h.1 (zcmp_ge.mp c4)
    obtain ⟨o5, h⟩ := h
    refine q_iinc d_Le_areConvex_96 rfl (by decide) o5 (L' := [vR 6, vI (x1 + 1), vL x2, vU, vL x4, vU, vL x6, vU, vL (y1 - y0), vU]) rfl ?_
    refine q_goto (tgt := 2) d_Le_areConvex_99 (by decide) ?_
    exact h
  · have h := h.2 ((not_congr zcmp_ge).mp c4)
    refine q_iconst d_Le_areConvex_94 (by decide) ?_
    exact q_iret d_Le_areConvex_95 (Or.inr ⟨rfl, by decide⟩) ⟨Nat.le_refl _, Nat.le_refl _⟩ h
theorem s_Pr_empty_0 {a0 : Nat} (k_a0 : zk a0 = (0, 5, 0)) (h : (∀ D1, D1 = zw D a0 0 0 → (∀ D3, D3 = zw D1 a0 1 0 → CV g M_Ar_fill2 [vR (a0 + 5), vI (-1)] D3 (fun D' => Sg g M_Pr_empty Q 18 [vR a0] [] D')))) : Sg g M_Pr_empty Q 0 [vR a0] [] D := by
  unfold Sg
  refine q_aload_n d_Pr_empty_0 rfl ?_
  refine q_iconst d_Pr_empty_1 (by decide) ?_
  refine p_putI (k := 0) zc_Pr l_Pr_35 fp_Pr_ready (Or.inr ⟨rfl, by decide⟩) d_Pr_empty_2 k_a0 (fun D1 e2 => ?_)
  have h := h D1 e2
  refine q_aload_n d_Pr_empty_5 rfl ?_
  refine q_iconst d_Pr_empty_6 (by decide) ?_
  refine p_putI (k := 1) zc_Pr l_Pr_39 fp_Pr_steps (Or.inl rfl) d_Pr_empty_7 k_a0 (fun D3 e4 => ?_)
  have h := h D3 e4
  refine q_aload_n d_Pr_empty_10 rfl ?_
  refine p_getR (k := 6) (b := (a0 + 5)) zc_Pr l_Pr_27 fr_Pr_worker d_Pr_empty_11 k_a0 rfl ?_
  refine q_iconst d_Pr_empty_14 (by decide) ?_
  refine p_callS (as := [vR (a0 + 5), vI (-1)]) (st := []) mc_Ar_fill2 ms_Ar_fill2 l_Pr_43 d_Pr_empty_15 rfl rfl rfl (CV.to ?_)
  exact h
theorem s_Pr_empty_18 {z0 : VV}  (h : Q none zE D) : Sg g M_Pr_empty Q 18 [z0] [] D := by
  unfold Sg
  refine q_mask [true] (L' := [vU]) rfl ?_
  exact q_vret d_Pr_empty_18 rfl ⟨Nat.le_refl _, Nat.le_refl _⟩ h
theorem s_Pr_hasStep_0 {a0 : Nat} {x1 : Int} (k_a0 : zk a0 = (0, 5, 0)) (h : (((D a0 0) = 0 → Q (some (vI 0)) zE D) ∧ (¬ (D a0 0) = 0 → ((x1 < 0 → Q (some (vI 0)) zE D) ∧ (¬ x1 < 0 → (((D a0 1) ≤ x1 → Q (some (vI 0)) zE D) ∧ (¬ (D a0 1) ≤ x1 → Q (some (vI 1)) zE D))))))) : Sg g M_Pr_hasStep Q 0 [vR a0, vI x1] [] D := by
  unfold Sg
  refine q_aload_n d_Pr_hasStep_0 rfl ?_
  refine p_getI (k := 0) zc_Pr l_Pr_35 fi_Pr_ready d_Pr_hasStep_1 k_a0 ?_
  refine q_if_eq (tgt := 23) d_Pr_hasStep_4 (by decide) (fun c1 => ?_) (fun c1 => ?_)
  · have h := h.1 (c1)
    refine q_iconst d_Pr_hasStep_23 (by decide) ?_
    exact q_iret d_Pr_hasStep_24 (Or.inr ⟨rfl, by decide⟩) ⟨Nat.le_refl _, Nat.le_refl _⟩ h
  · have h := h.2 (c1)
    refine q_iload_n d_Pr_hasStep_7 rfl ?_
    refine q_if_lt (tgt := 23) d_Pr_hasStep_8 (by decide) (fun c2 => ?_) (fun c2 => ?_)
    · have h := h.1 (c2)
      refine q_iconst d_Pr_hasStep_23 (by decide) ?_
      exact q_iret d_Pr_hasStep_24 (Or.inr ⟨rfl, by decide⟩) ⟨Nat.le_refl _, Nat.le_refl _⟩ h
    · have h := h.2 (c2)
      refine q_iload_n d_Pr_hasStep_11 rfl ?_
      refine q_aload_n d_Pr_hasStep_12 rfl ?_
      refine p_getI (k := 1) zc_Pr l_Pr_39 fi_Pr_steps d_Pr_hasStep_13 k_a0 ?_
      refine q_icmp_ge (tgt := 23) d_Pr_hasStep_16 (by decide) (fun c3 => ?_) (fun c3 => ?_)
      · have h := h.1 (c3)
        refine q_iconst d_Pr_hasStep_23 (by decide) ?_
        exact q_iret d_Pr_hasStep_24 (Or.inr ⟨rfl, by decide⟩) ⟨Nat.le_refl _, Nat.le_refl _⟩ h
      · have h := h.2 (c3)
        refine q_iconst d_Pr_hasStep_19 (by decide) ?_
        refine q_goto (tgt := 24) d_Pr_hasStep_20 (by decide) ?_
        exact q_iret d_Pr_hasStep_24 (Or.inr ⟨rfl, by decide⟩) ⟨Nat.le_refl _, Nat.le_refl _⟩ h
theorem s_Pr_append_0 {a0 : Nat} {x1 : Int} {x2 : Int} {a3 : Nat} (k_a0 : zk a0 = (0, 5, 0)) (k_a3 : zk a3 = (0, 4, 0)) (h : (((D a0 1) ≤ 0 → Sg g M_Pr_append Q 40 [vR a0, vI x1, vI x2, vR a3] [] D) ∧ (¬ (D a0 1) ≤ 0 → (R32 ((D a0 1) - 1) ∧ (0 ≤ (D a0 1) - 1 ∧ (D a0 1) - 1 < 24)) ∧ CI g M_Fr_isSame [vR (a0 + 11 + 5 * ((D a0 1) - 1).toNat), vR a3] D (fun v4 D' => Sg g M_Pr_append Q 22 [vR a0, vI x1, vI x2, vR a3] [vI v4] D')))) : Sg g M_Pr_append Q 0 [vR a0, vI x1, vI x2, vR a3] [] D := by
  unfold Sg
  refine q_aload_n d_Pr_append_0 rfl ?_
  refine p_getI (k := 1) zc_Pr l_Pr_39 fi_Pr_steps d_Pr_append_1 k_a0 ?_
  refine q_if_le (tgt := 40) d_Pr_append_4 (by decide) (fun c1 => ?_) (fun c1 => ?_)
  · have h := h.1 (c1)
    exact h
  · have h := h.2 (c1)
    obtain ⟨⟨o2, o3⟩, h⟩ := h
    refine q_aload_n d_Pr_append_7 rfl ?_
    refine p_getR (k := 4) (b := (a0 + 3)) zc_Pr l_Pr_20 fr_Pr_rate d_Pr_append_8 k_a0 rfl ?_
    refine q_aload_n d_Pr_append_11 rfl ?_
    refine p_getI (k := 1) zc_Pr l_Pr_39 fi_Pr_steps d_Pr_append_12 k_a0 ?_
    refine q_iconst d_Pr_append_15 (by decide) ?_
    refine q_isub d_Pr_append_16 o2 ?_
    refine p_aald (b := (a0 + 11 + 5 * ((D a0 1) - 1).toNat)) d_Pr_append_17 (zs_Pr_rate k_a0) (by decide) o3 rfl ?_
    refine q_aload_n d_Pr_append_18 rfl ?_
    refine p_callV (as := [vR a3]) (st := []) (a := (a0 + 11 + 5 * ((D a0 1) - 1).toNat)) mc_Fr_isSame mv_Fr_isSame l_Pr_49 zc_Fr rfl d_Pr_append_19 rfl rfl rfl (ze_0 (i := ((D a0 1) - 1).toNat) (zs_Pr_rate k_a0) (by omega)) (CI.to ?_)
    exact h
theorem s_Pr_append_40 {a0 : Nat} {x1 : Int} {x2 : Int} {a3 : Nat} (k_a0 : zk a0 = (0, 5, 0)) (k_a3 : zk a3 = (0, 4, 0)) (h : ((24 ≤ (D a0 1) → Q none zE D) ∧ (¬ 24 ≤ (D a0 1) → ((0 ≤ D a0 1 ∧ D a0 1 < 24)) ∧ (∀ D3, D3 = zw D (a0 + 1) (D a0 1) x1 → ((0 ≤ D3 a0 1 ∧ D3 a0 1 < 24)) ∧ (∀ D6, D6 = zw D3 (a0 + 2) (D3 a0 1) x2 → ((0 ≤ D6 a0 1 ∧ D6 a0 1 < 24)) ∧ CV g M_Fr_copyFrom [vR (a0 + 11 + 5 * (D6 a0 1).toNat), vR a3] D6 (fun D' => Sg g M_Pr_append Q 82 [vR a0, vI x1, vI x2, vR a3] [] D')))))) : Sg g M_Pr_append Q 40 [vR a0, vI x1, vI x2, vR a3] [] D := by
  unfold Sg
  refine q_aload_n d_Pr_append_40 rfl ?_
  refine p_getI (k := 1) zc_Pr l_Pr_39 fi_Pr_steps d_Pr_append_41 k_a0 ?_
  refine q_bipush d_Pr_append_44 kb_24 ?_
  refine q_icmp_ge (tgt := 92) d_Pr_append_46 (by decide) (fun c1 => ?_) (fun c1 => ?_)
  · have h := h.1 (c1)
    exact q_vret d_Pr_append_92 rfl ⟨Nat.le_refl _, Nat.le_refl _⟩ h
  · have h := h.2 (c1)
    obtain ⟨o2, h⟩ := h
    refine q_aload_n d_Pr_append_49 rfl ?_
    refine p_getR (k := 2) (b := (a0 + 1)) zc_Pr l_Pr_9 fr_Pr_begin d_Pr_append_50 k_a0 rfl ?_
    refine q_aload_n d_Pr_append_53 rfl ?_
    refine p_getI (k := 1) zc_Pr l_Pr_39 fi_Pr_steps d_Pr_append_54 k_a0 ?_
    refine q_iload_n d_Pr_append_57 rfl ?_
    refine p_iast d_Pr_append_58 (zs_Pr_begin k_a0) o2 (fun D3 e4 => ?_)
    have h := h D3 e4
    obtain ⟨o5, h⟩ := h
    refine q_aload_n d_Pr_append_59 rfl ?_
    refine p_getR (k := 3) (b := (a0 + 2)) zc_Pr l_Pr_15 fr_Pr_end d_Pr_append_60 k_a0 rfl ?_
    refine q_aload_n d_Pr_append_63 rfl ?_
    refine p_getI (k := 1) zc_Pr l_Pr_39 fi_Pr_steps d_Pr_append_64 k_a0 ?_
    refine q_iload_n d_Pr_append_67 rfl ?_
    refine p_iast d_Pr_append_68 (zs_Pr_end k_a0) o5 (fun D6 e7 => ?_)
    have h := h D6 e7
    obtain ⟨o8, h⟩ := h
    refine q_aload_n d_Pr_append_69 rfl ?_
    refine p_getR (k := 4) (b := (a0 + 3)) zc_Pr l_Pr_20 fr_Pr_rate d_Pr_append_70 k_a0 rfl ?_
    refine q_aload_n d_Pr_append_73 rfl ?_
    refine p_getI (k := 1) zc_Pr l_Pr_39 fi_Pr_steps d_Pr_append_74 k_a0 ?_
    refine p_aald (b := (a0 + 11 + 5 * (D6 a0 1).toNat)) d_Pr_append_77 (zs_Pr_rate k_a0) (by decide) o8 rfl ?_
    refine q_aload_n d_Pr_append_78 rfl ?_
    refine p_callV (as := [vR a3]) (st := []) (a := (a0 + 11 + 5 * (D6 a0 1).toNat)) mc_Fr_copyFrom mv_Fr_copyFrom l_Pr_53 zc_Fr rfl d_Pr_append_79 rfl rfl rfl (ze_0 (i := (D6 a0 1).toNat) (zs_Pr_rate k_a0) (by omega)) (CV.to ?_)
    exact h
theorem s_Pr_append_22 {a0 : Nat} {x1 : Int} {x2 : Int} {a3 : Nat} {y0 : Int} (k_a0 : zk a0 = (0, 5, 0)) (k_a3 : zk a3 = (0, 4, 0)) (h : ((y0 = 0 → Sg g M_Pr_append Q 40 [vR a0, vI x1, vI x2, vR a3] [] D) ∧ (¬ y0 = 0 → (R32 ((D a0 1) - 1) ∧ (0 ≤ (D a0 1) - 1 ∧ (D a0 1) - 1 < 24)) ∧ (∀ D4, D4 = zw D (a0 + 2) ((D a0 1) - 1) x2 → Q none zE D4)))) : Sg g M_Pr_append Q 22 [vR a0, vI x1, vI x2, vR a3] [vI y0] D := by
  unfold Sg
  refine q_if_eq (tgt := 40) d_Pr_append_22 (by decide) (fun c1 => ?_) (fun c1 => ?_)
  · have h := h.1 (c1)
    exact h
  · have h := h.2 (c1)
    obtain ⟨⟨o2, o3⟩, h⟩ := h
    refine q_aload_n d_Pr_append_25 rfl ?_
    refine p_getR (k := 3) (b := (a0 + 2)) zc_Pr l_Pr_15 fr_Pr_end d_Pr_append_26 k_a0 rfl ?_
    refine q_aload_n d_Pr_append_29 rfl ?_
    refine p_getI (k := 1) zc_Pr l_Pr_39 fi_Pr_steps d_Pr_append_30 k_a0 ?_
    refine q_iconst d_Pr_append_33 (by decide) ?_
    refine q_isub d_Pr_append_34 o2 ?_
    refine q_iload_n d_Pr_append_35 rfl ?_
    refine p_iast d_Pr_append_36 (zs_Pr_end k_a0) o3 (fun D4 e5 => ?_)
    have h := h D4 e5
    refine q_goto (tgt := 92) d_Pr_append_37 (by decide) ?_
    exact q_vret d_Pr_append_92 rfl ⟨Nat.le_refl _, Nat.le_refl _⟩ h
theorem s_Pr_append_82 {a0 : Nat} {z1 : VV} {z2 : VV} {z3 : VV} (k_a0 : zk a0 = (0, 5, 0)) (h : (R32 ((D a0 1) + 1)) ∧ (∀ D2, D2 = zw D a0 1 ((D a0 1) + 1) → Q none zE D2)) : Sg g M_Pr_append Q 82 [vR a0, z1, z2, z3] [] D := by
  unfold Sg
  refine q_mask [false, true, true, true] (L' := [vR a0, vU, vU, vU]) rfl ?_
  obtain ⟨o1, h⟩ := h
  refine q_aload_n d_Pr_append_82 rfl ?_
  refine q_dup d_Pr_append_83 rfl ?_
  refine p_getI (k := 1) zc_Pr l_Pr_39 fi_Pr_steps d_Pr_append_84 k_a0 ?_
  refine q_iconst d_Pr_append_87 (by decide) ?_
  refine q_iadd d_Pr_append_88 o1 ?_
  refine p_putI (k := 1) zc_Pr l_Pr_39 fp_Pr_steps (Or.inl rfl) d_Pr_append_89 k_a0 (fun D2 e3 => ?_)
  have h := h D2 e3
  exact q_vret d_Pr_append_92 rfl ⟨Nat.le_refl _, Nat.le_refl _⟩ h
theorem s_Pr_lengthWithin_0 {a0 : Nat} {x1 : Int} {x2 : Int} {x3 : Int} (k_a0 : zk a0 = (0, 5, 0)) (h : ((x1 < 0 → Q (some (vI 0)) zE D) ∧ (¬ x1 < 0 → ((x1 < (D a0 1) → ((0 ≤ x1 ∧ x1 < 24) ∧ (0 ≤ x1 ∧ x1 < 24) ∧ R32 ((min (D (a0 + 2) x1) x3) - (max (D (a0 + 1) x1) x2))) ∧ Q (some (vI (max 0 ((min (D (a0 + 2) x1) x3) - (max (D (a0 + 1) x1) x2))))) zE D) ∧ (¬ x1 < (D a0 1) → Q (some (vI 0)) zE D))))) : Sg g M_Pr_lengthWithin Q 0 [vR a0, vI x1, vI x2, vI x3] [] D := by
  unfold Sg
  refine q_iload_n d_Pr_lengthWithin_0 rfl ?_
  refine q_if_lt (tgt := 12) d_Pr_lengthWithin_1 (by decide) (fun c1 => ?_) (fun c1 => ?_)
  · have h := h.1 (c1)
    refine q_iconst d_Pr_lengthWithin_12 (by decide) ?_
    exact q_iret d_Pr_lengthWithin_13 (Or.inl rfl) ⟨Nat.le_refl _, Nat.le_refl _⟩ h
  · have h := h.2 (c1)
    refine q_iload_n d_Pr_lengthWithin_4 rfl ?_
    refine q_aload_n d_Pr_lengthWithin_5 rfl ?_
    refine p_getI (k := 1) zc_Pr l_Pr_39 fi_Pr_steps d_Pr_lengthWithin_6 k_a0 ?_
    refine q_icmp_lt (tgt := 14) d_Pr_lengthWithin_9 (by decide) (fun c2 => ?_) (fun c2 => ?_)
    · have h := h.1 (c2)
      obtain ⟨⟨o3, o4, o5⟩, h⟩ := h
      refine q_iconst d_Pr_lengthWithin_14 (by decide) ?_
      refine q_aload_n d_Pr_lengthWithin_15 rfl ?_
      refine p_getR (k := 3) (b := (a0 + 2)) zc_Pr l_Pr_15 fr_Pr_end d_Pr_lengthWithin_16 k_a0 rfl ?_
      refine q_iload_n d_Pr_lengthWithin_19 rfl ?_
      refine p_iald d_Pr_lengthWithin_20 (zs_Pr_end k_a0) o3 ?_
      refine q_iload_n d_Pr_lengthWithin_21 rfl ?_
      refine p_min l_Pr_57 d_Pr_lengthWithin_22 rfl ?_
      refine q_aload_n d_Pr_lengthWithin_25 rfl ?_
      refine p_getR (k := 2) (b := (a0 + 1)) zc_Pr l_Pr_9 fr_Pr_begin d_Pr_lengthWithin_26 k_a0 rfl ?_
      refine q_iload_n d_Pr_lengthWithin_29 rfl ?_
      refine p_iald d_Pr_lengthWithin_30 (zs_Pr_begin k_a0) o4 ?_
      refine q_iload_n d_Pr_lengthWithin_31 rfl ?_
      refine p_max l_Pr_63 d_Pr_lengthWithin_32 rfl ?_
      refine q_isub d_Pr_lengthWithin_35 o5 ?_
      refine p_max l_Pr_63 d_Pr_lengthWithin_36 rfl ?_
      exact q_iret d_Pr_lengthWithin_39 (Or.inl rfl) ⟨Nat.le_refl _, Nat.le_refl _⟩ h
    · have h := h.2 (c2)
      refine q_iconst d_Pr_lengthWithin_12 (by decide) ?_
      exact q_iret d_Pr_lengthWithin_13 (Or.inl rfl) ⟨Nat.le_refl _, Nat.le_refl _⟩ h
end SEG
