/-! printed by wip/whole/tools/seg.py: Pl_workOut, Pl_hasGroup, Pl_groupOf, Pl_rateOf, Pl_findGroups, Pl_findDensest, Pl_tryBetween, Pl_takeDensest, Pl_layOutSteps, Pl_workOff, Pl_workOffAt -/
theorem zk_457 : zk 457 = (0, 7, 0) := by decide +kernel
theorem zk_458 : zk 458 = (1, 12, 0) := by decide +kernel
theorem zk_459 : zk 459 = (1, 12, 0) := by decide +kernel
theorem zk_460 : zk 460 = (5, 12, 3) := by decide +kernel
theorem zk_461 : zk 461 = (1, 12, 0) := by decide +kernel
theorem zk_462 : zk 462 = (1, 200, 0) := by decide +kernel
theorem zk_463 : zk 463 = (1, 201, 0) := by decide +kernel
theorem zk_464 : zk 464 = (1, 12, 0) := by decide +kernel
theorem zk_465 : zk 465 = (0, 4, 0) := by decide +kernel
theorem fi_Pl_bestFrom : 9 < 13 ∧ (zft 7 9).1 ≠ 2 ∧ ((9 : Nat) : Int) = 9 := ⟨by decide, by decide +kernel, rfl⟩
theorem fi_Pl_bestTime : 12 < 13 ∧ (zft 7 12).1 ≠ 2 ∧ ((12 : Nat) : Int) = 12 := ⟨by decide, by decide +kernel, rfl⟩
theorem fi_Pl_bestTo : 10 < 13 ∧ (zft 7 10).1 ≠ 2 ∧ ((10 : Nat) : Int) = 10 := ⟨by decide, by decide +kernel, rfl⟩
theorem fi_Pl_bestWork : 11 < 13 ∧ (zft 7 11).1 ≠ 2 ∧ ((11 : Nat) : Int) = 11 := ⟨by decide, by decide +kernel, rfl⟩
theorem fi_Pl_groups : 0 < 13 ∧ (zft 7 0).1 ≠ 2 ∧ ((0 : Nat) : Int) = 0 := ⟨by decide, by decide +kernel, rfl⟩
theorem fr_Pl_freeBefore : 6 < 13 ∧ zft 7 6 = (2, 6) := ⟨by decide, by decide +kernel⟩
theorem fr_Pl_groupAt : 5 < 13 ∧ zft 7 5 = (2, 5) := ⟨by decide, by decide +kernel⟩
theorem fr_Pl_groupOfJob : 4 < 13 ∧ zft 7 4 = (2, 4) := ⟨by decide, by decide +kernel⟩
theorem fr_Pl_groupRate : 3 < 13 ∧ zft 7 3 = (2, 3) := ⟨by decide, by decide +kernel⟩
theorem fr_Pl_groupTime : 2 < 13 ∧ zft 7 2 = (2, 2) := ⟨by decide, by decide +kernel⟩
theorem fr_Pl_groupWork : 1 < 13 ∧ zft 7 1 = (2, 1) := ⟨by decide, by decide +kernel⟩
theorem fr_Pl_idle : 8 < 13 ∧ zft 7 8 = (2, 8) := ⟨by decide, by decide +kernel⟩
theorem fr_Pl_left : 7 < 13 ∧ zft 7 7 = (2, 7) := ⟨by decide, by decide +kernel⟩
theorem fr_Pr_done : 5 < 8 ∧ zft 5 5 = (2, 4) := ⟨by decide, by decide +kernel⟩
theorem fp_Pl_bestFrom : 9 < 13 ∧ (zft 7 9).1 ≠ 2 ∧ ((9 : Nat) : Int) = 9 ∧ (F_Pl 9).2.2.2 = false := ⟨by decide, by decide +kernel, rfl, rfl⟩
theorem fp_Pl_bestTime : 12 < 13 ∧ (zft 7 12).1 ≠ 2 ∧ ((12 : Nat) : Int) = 12 ∧ (F_Pl 12).2.2.2 = false := ⟨by decide, by decide +kernel, rfl, rfl⟩
theorem fp_Pl_bestTo : 10 < 13 ∧ (zft 7 10).1 ≠ 2 ∧ ((10 : Nat) : Int) = 10 ∧ (F_Pl 10).2.2.2 = false := ⟨by decide, by decide +kernel, rfl, rfl⟩
theorem fp_Pl_bestWork : 11 < 13 ∧ (zft 7 11).1 ≠ 2 ∧ ((11 : Nat) : Int) = 11 ∧ (F_Pl 11).2.2.2 = false := ⟨by decide, by decide +kernel, rfl, rfl⟩
theorem fp_Pl_groups : 0 < 13 ∧ (zft 7 0).1 ≠ 2 ∧ ((0 : Nat) : Int) = 0 ∧ (F_Pl 0).2.2.2 = false := ⟨by decide, by decide +kernel, rfl, rfl⟩
theorem d_Pl_workOut_0 : decode prog_7_method_2_code 0 = .ok (.aload_n 2, 1) := by decide +kernel
theorem d_Pl_workOut_1 : decode prog_7_method_2_code 1 = .ok (.invokevirtual 41, 3) := by decide +kernel
theorem d_Pl_workOut_4 : decode prog_7_method_2_code 4 = .ok (.aload_n 0, 1) := by decide +kernel
theorem d_Pl_workOut_5 : decode prog_7_method_2_code 5 = .ok (.aload_n 1, 1) := by decide +kernel
theorem d_Pl_workOut_6 : decode prog_7_method_2_code 6 = .ok (.invokevirtual 46, 3) := by decide +kernel
theorem d_Pl_workOut_9 : decode prog_7_method_2_code 9 = .ok (.aload_n 0, 1) := by decide +kernel
theorem d_Pl_workOut_10 : decode prog_7_method_2_code 10 = .ok (.aload_n 1, 1) := by decide +kernel
theorem d_Pl_workOut_11 : decode prog_7_method_2_code 11 = .ok (.aload_n 2, 1) := by decide +kernel
theorem d_Pl_workOut_12 : decode prog_7_method_2_code 12 = .ok (.invokevirtual 50, 3) := by decide +kernel
theorem d_Pl_workOut_15 : decode prog_7_method_2_code 15 = .ok (.aload_n 0, 1) := by decide +kernel
theorem d_Pl_workOut_16 : decode prog_7_method_2_code 16 = .ok (.aload_n 1, 1) := by decide +kernel
theorem d_Pl_workOut_17 : decode prog_7_method_2_code 17 = .ok (.aload_n 2, 1) := by decide +kernel
theorem d_Pl_workOut_18 : decode prog_7_method_2_code 18 = .ok (.invokevirtual 54, 3) := by decide +kernel
theorem d_Pl_workOut_21 : decode prog_7_method_2_code 21 = .ok (.return_, 1) := by decide +kernel
theorem d_Pl_hasGroup_0 : decode prog_7_method_3_code 0 = .ok (.iload_n 1, 1) := by decide +kernel
theorem d_Pl_hasGroup_1 : decode prog_7_method_3_code 1 = .ok (.ifCond .lt 15, 3) := by decide +kernel
theorem d_Pl_hasGroup_4 : decode prog_7_method_3_code 4 = .ok (.iload_n 1, 1) := by decide +kernel
theorem d_Pl_hasGroup_5 : decode prog_7_method_3_code 5 = .ok (.aload_n 0, 1) := by decide +kernel
theorem d_Pl_hasGroup_6 : decode prog_7_method_3_code 6 = .ok (.getfield 57, 3) := by decide +kernel
theorem d_Pl_hasGroup_9 : decode prog_7_method_3_code 9 = .ok (.if_icmp .ge 7, 3) := by decide +kernel
theorem d_Pl_hasGroup_12 : decode prog_7_method_3_code 12 = .ok (.iconst 1, 1) := by decide +kernel
theorem d_Pl_hasGroup_13 : decode prog_7_method_3_code 13 = .ok (.goto 4, 3) := by decide +kernel
theorem d_Pl_hasGroup_16 : decode prog_7_method_3_code 16 = .ok (.iconst 0, 1) := by decide +kernel
theorem d_Pl_hasGroup_17 : decode prog_7_method_3_code 17 = .ok (.ireturn, 1) := by decide +kernel
theorem d_Pl_groupOf_0 : decode prog_7_method_4_code 0 = .ok (.iload_n 1, 1) := by decide +kernel
theorem d_Pl_groupOf_1 : decode prog_7_method_4_code 1 = .ok (.ifCond .lt 18, 3) := by decide +kernel
theorem d_Pl_groupOf_4 : decode prog_7_method_4_code 4 = .ok (.iload_n 1, 1) := by decide +kernel
theorem d_Pl_groupOf_5 : decode prog_7_method_4_code 5 = .ok (.bipush 12, 2) := by decide +kernel
theorem d_Pl_groupOf_7 : decode prog_7_method_4_code 7 = .ok (.if_icmp .ge 12, 3) := by decide +kernel
theorem d_Pl_groupOf_10 : decode prog_7_method_4_code 10 = .ok (.aload_n 0, 1) := by decide +kernel
theorem d_Pl_groupOf_11 : decode prog_7_method_4_code 11 = .ok (.getfield 24, 3) := by decide +kernel
theorem d_Pl_groupOf_14 : decode prog_7_method_4_code 14 = .ok (.iload_n 1, 1) := by decide +kernel
theorem d_Pl_groupOf_15 : decode prog_7_method_4_code 15 = .ok (.iaload, 1) := by decide +kernel
theorem d_Pl_groupOf_16 : decode prog_7_method_4_code 16 = .ok (.goto 4, 3) := by decide +kernel
theorem d_Pl_groupOf_19 : decode prog_7_method_4_code 19 = .ok (.iconst (-1), 1) := by decide +kernel
theorem d_Pl_groupOf_20 : decode prog_7_method_4_code 20 = .ok (.ireturn, 1) := by decide +kernel
theorem d_Pl_rateOf_0 : decode prog_7_method_5_code 0 = .ok (.aload_n 0, 1) := by decide +kernel
theorem d_Pl_rateOf_1 : decode prog_7_method_5_code 1 = .ok (.iload_n 1, 1) := by decide +kernel
theorem d_Pl_rateOf_2 : decode prog_7_method_5_code 2 = .ok (.invokevirtual 61, 3) := by decide +kernel
theorem d_Pl_rateOf_5 : decode prog_7_method_5_code 5 = .ok (.istore_n 2, 1) := by decide +kernel
theorem d_Pl_rateOf_6 : decode prog_7_method_5_code 6 = .ok (.aload_n 0, 1) := by decide +kernel
theorem d_Pl_rateOf_7 : decode prog_7_method_5_code 7 = .ok (.iload_n 2, 1) := by decide +kernel
theorem d_Pl_rateOf_8 : decode prog_7_method_5_code 8 = .ok (.invokevirtual 65, 3) := by decide +kernel
theorem d_Pl_rateOf_11 : decode prog_7_method_5_code 11 = .ok (.ifCond .eq 12, 3) := by decide +kernel
theorem d_Pl_rateOf_14 : decode prog_7_method_5_code 14 = .ok (.aload_n 0, 1) := by decide +kernel
theorem d_Pl_rateOf_15 : decode prog_7_method_5_code 15 = .ok (.getfield 20, 3) := by decide +kernel
theorem d_Pl_rateOf_18 : decode prog_7_method_5_code 18 = .ok (.iload_n 2, 1) := by decide +kernel
theorem d_Pl_rateOf_19 : decode prog_7_method_5_code 19 = .ok (.aaload, 1) := by decide +kernel
theorem d_Pl_rateOf_20 : decode prog_7_method_5_code 20 = .ok (.goto 4, 3) := by decide +kernel
theorem d_Pl_rateOf_23 : decode prog_7_method_5_code 23 = .ok (.aconst_null, 1) := by decide +kernel
theorem d_Pl_rateOf_24 : decode prog_7_method_5_code 24 = .ok (.areturn, 1) := by decide +kernel
theorem d_Pl_findGroups_0 : decode prog_7_method_6_code 0 = .ok (.aload_n 0, 1) := by decide +kernel
theorem d_Pl_findGroups_1 : decode prog_7_method_6_code 1 = .ok (.iconst 0, 1) := by decide +kernel
theorem d_Pl_findGroups_2 : decode prog_7_method_6_code 2 = .ok (.putfield 57, 3) := by decide +kernel
theorem d_Pl_findGroups_5 : decode prog_7_method_6_code 5 = .ok (.aload_n 0, 1) := by decide +kernel
theorem d_Pl_findGroups_6 : decode prog_7_method_6_code 6 = .ok (.getfield 24, 3) := by decide +kernel
theorem d_Pl_findGroups_9 : decode prog_7_method_6_code 9 = .ok (.iconst (-1), 1) := by decide +kernel
theorem d_Pl_findGroups_10 : decode prog_7_method_6_code 10 = .ok (.invokestatic 69, 3) := by decide +kernel
theorem d_Pl_findGroups_13 : decode prog_7_method_6_code 13 = .ok (.aload_n 0, 1) := by decide +kernel
theorem d_Pl_findGroups_14 : decode prog_7_method_6_code 14 = .ok (.getfield 27, 3) := by decide +kernel
theorem d_Pl_findGroups_17 : decode prog_7_method_6_code 17 = .ok (.iconst (-1), 1) := by decide +kernel
theorem d_Pl_findGroups_18 : decode prog_7_method_6_code 18 = .ok (.invokestatic 69, 3) := by decide +kernel
theorem d_Pl_findGroups_21 : decode prog_7_method_6_code 21 = .ok (.iconst 0, 1) := by decide +kernel
theorem d_Pl_findGroups_22 : decode prog_7_method_6_code 22 = .ok (.istore_n 2, 1) := by decide +kernel
theorem d_Pl_findGroups_23 : decode prog_7_method_6_code 23 = .ok (.iload_n 2, 1) := by decide +kernel
theorem d_Pl_findGroups_24 : decode prog_7_method_6_code 24 = .ok (.bipush 12, 2) := by decide +kernel
theorem d_Pl_findGroups_26 : decode prog_7_method_6_code 26 = .ok (.if_icmp .ge 28, 3) := by decide +kernel
theorem d_Pl_findGroups_29 : decode prog_7_method_6_code 29 = .ok (.aload_n 0, 1) := by decide +kernel
theorem d_Pl_findGroups_30 : decode prog_7_method_6_code 30 = .ok (.aload_n 1, 1) := by decide +kernel
theorem d_Pl_findGroups_31 : decode prog_7_method_6_code 31 = .ok (.invokevirtual 75, 3) := by decide +kernel
theorem d_Pl_findGroups_34 : decode prog_7_method_6_code 34 = .ok (.aload_n 0, 1) := by decide +kernel
theorem d_Pl_findGroups_35 : decode prog_7_method_6_code 35 = .ok (.getfield 78, 3) := by decide +kernel
theorem d_Pl_findGroups_38 : decode prog_7_method_6_code 38 = .ok (.iconst 1, 1) := by decide +kernel
theorem d_Pl_findGroups_39 : decode prog_7_method_6_code 39 = .ok (.if_icmp .ge 4, 3) := by decide +kernel
theorem d_Pl_findGroups_42 : decode prog_7_method_6_code 42 = .ok (.return_, 1) := by decide +kernel
theorem d_Pl_findGroups_43 : decode prog_7_method_6_code 43 = .ok (.aload_n 0, 1) := by decide +kernel
theorem d_Pl_findGroups_44 : decode prog_7_method_6_code 44 = .ok (.aload_n 1, 1) := by decide +kernel
theorem d_Pl_findGroups_45 : decode prog_7_method_6_code 45 = .ok (.invokevirtual 81, 3) := by decide +kernel
theorem d_Pl_findGroups_48 : decode prog_7_method_6_code 48 = .ok (.iinc 2 1, 3) := by decide +kernel
theorem d_Pl_findGroups_51 : decode prog_7_method_6_code 51 = .ok (.goto (-28), 3) := by decide +kernel
theorem d_Pl_findGroups_54 : decode prog_7_method_6_code 54 = .ok (.return_, 1) := by decide +kernel
theorem d_Pl_findDensest_0 : decode prog_7_method_7_code 0 = .ok (.aload_n 0, 1) := by decide +kernel
theorem d_Pl_findDensest_1 : decode prog_7_method_7_code 1 = .ok (.iconst 0, 1) := by decide +kernel
theorem d_Pl_findDensest_2 : decode prog_7_method_7_code 2 = .ok (.putfield 84, 3) := by decide +kernel
theorem d_Pl_findDensest_5 : decode prog_7_method_7_code 5 = .ok (.aload_n 0, 1) := by decide +kernel
theorem d_Pl_findDensest_6 : decode prog_7_method_7_code 6 = .ok (.iconst 0, 1) := by decide +kernel
theorem d_Pl_findDensest_7 : decode prog_7_method_7_code 7 = .ok (.putfield 78, 3) := by decide +kernel
theorem d_Pl_findDensest_10 : decode prog_7_method_7_code 10 = .ok (.iconst 0, 1) := by decide +kernel
theorem d_Pl_findDensest_11 : decode prog_7_method_7_code 11 = .ok (.istore_n 2, 1) := by decide +kernel
theorem d_Pl_findDensest_12 : decode prog_7_method_7_code 12 = .ok (.iload_n 2, 1) := by decide +kernel
theorem d_Pl_findDensest_13 : decode prog_7_method_7_code 13 = .ok (.sipush 200, 3) := by decide +kernel
theorem d_Pl_findDensest_16 : decode prog_7_method_7_code 16 = .ok (.if_icmp .ge 39, 3) := by decide +kernel
theorem d_Pl_findDensest_19 : decode prog_7_method_7_code 19 = .ok (.aload_n 0, 1) := by decide +kernel
theorem d_Pl_findDensest_20 : decode prog_7_method_7_code 20 = .ok (.getfield 30, 3) := by decide +kernel
theorem d_Pl_findDensest_23 : decode prog_7_method_7_code 23 = .ok (.iload_n 2, 1) := by decide +kernel
theorem d_Pl_findDensest_24 : decode prog_7_method_7_code 24 = .ok (.iconst 1, 1) := by decide +kernel
theorem d_Pl_findDensest_25 : decode prog_7_method_7_code 25 = .ok (.iadd, 1) := by decide +kernel
theorem d_Pl_findDensest_26 : decode prog_7_method_7_code 26 = .ok (.aload_n 0, 1) := by decide +kernel
theorem d_Pl_findDensest_27 : decode prog_7_method_7_code 27 = .ok (.getfield 30, 3) := by decide +kernel
theorem d_Pl_findDensest_30 : decode prog_7_method_7_code 30 = .ok (.iload_n 2, 1) := by decide +kernel
theorem d_Pl_findDensest_31 : decode prog_7_method_7_code 31 = .ok (.iaload, 1) := by decide +kernel
theorem d_Pl_findDensest_32 : decode prog_7_method_7_code 32 = .ok (.aload_n 0, 1) := by decide +kernel
theorem d_Pl_findDensest_33 : decode prog_7_method_7_code 33 = .ok (.getfield 27, 3) := by decide +kernel
theorem d_Pl_findDensest_36 : decode prog_7_method_7_code 36 = .ok (.iload_n 2, 1) := by decide +kernel
theorem d_Pl_findDensest_37 : decode prog_7_method_7_code 37 = .ok (.iaload, 1) := by decide +kernel
theorem d_Pl_findDensest_38 : decode prog_7_method_7_code 38 = .ok (.iconst (-1), 1) := by decide +kernel
theorem d_Pl_findDensest_39 : decode prog_7_method_7_code 39 = .ok (.if_icmp .ne 7, 3) := by decide +kernel
theorem d_Pl_findDensest_42 : decode prog_7_method_7_code 42 = .ok (.iconst 1, 1) := by decide +kernel
theorem d_Pl_findDensest_43 : decode prog_7_method_7_code 43 = .ok (.goto 4, 3) := by decide +kernel
theorem d_Pl_findDensest_46 : decode prog_7_method_7_code 46 = .ok (.iconst 0, 1) := by decide +kernel
theorem d_Pl_findDensest_47 : decode prog_7_method_7_code 47 = .ok (.iadd, 1) := by decide +kernel
theorem d_Pl_findDensest_48 : decode prog_7_method_7_code 48 = .ok (.iastore, 1) := by decide +kernel
theorem d_Pl_findDensest_49 : decode prog_7_method_7_code 49 = .ok (.iinc 2 1, 3) := by decide +kernel
theorem d_Pl_findDensest_52 : decode prog_7_method_7_code 52 = .ok (.goto (-40), 3) := by decide +kernel
theorem d_Pl_findDensest_55 : decode prog_7_method_7_code 55 = .ok (.iconst 0, 1) := by decide +kernel
theorem d_Pl_findDensest_56 : decode prog_7_method_7_code 56 = .ok (.istore_n 2, 1) := by decide +kernel
theorem d_Pl_findDensest_57 : decode prog_7_method_7_code 57 = .ok (.iload_n 2, 1) := by decide +kernel
theorem d_Pl_findDensest_58 : decode prog_7_method_7_code 58 = .ok (.aload_n 1, 1) := by decide +kernel
theorem d_Pl_findDensest_59 : decode prog_7_method_7_code 59 = .ok (.getfield 87, 3) := by decide +kernel
theorem d_Pl_findDensest_62 : decode prog_7_method_7_code 62 = .ok (.if_icmp .ge 62, 3) := by decide +kernel
theorem d_Pl_findDensest_65 : decode prog_7_method_7_code 65 = .ok (.iconst 0, 1) := by decide +kernel
theorem d_Pl_findDensest_66 : decode prog_7_method_7_code 66 = .ok (.istore_n 3, 1) := by decide +kernel
theorem d_Pl_findDensest_67 : decode prog_7_method_7_code 67 = .ok (.iload_n 3, 1) := by decide +kernel
theorem d_Pl_findDensest_68 : decode prog_7_method_7_code 68 = .ok (.aload_n 1, 1) := by decide +kernel
theorem d_Pl_findDensest_69 : decode prog_7_method_7_code 69 = .ok (.getfield 87, 3) := by decide +kernel
theorem d_Pl_findDensest_72 : decode prog_7_method_7_code 72 = .ok (.if_icmp .ge 46, 3) := by decide +kernel
theorem d_Pl_findDensest_75 : decode prog_7_method_7_code 75 = .ok (.aload_n 0, 1) := by decide +kernel
theorem d_Pl_findDensest_76 : decode prog_7_method_7_code 76 = .ok (.getfield 24, 3) := by decide +kernel
theorem d_Pl_findDensest_79 : decode prog_7_method_7_code 79 = .ok (.iload_n 2, 1) := by decide +kernel
theorem d_Pl_findDensest_80 : decode prog_7_method_7_code 80 = .ok (.iaload, 1) := by decide +kernel
theorem d_Pl_findDensest_81 : decode prog_7_method_7_code 81 = .ok (.iconst (-1), 1) := by decide +kernel
theorem d_Pl_findDensest_82 : decode prog_7_method_7_code 82 = .ok (.if_icmp .ne 30, 3) := by decide +kernel
theorem d_Pl_findDensest_85 : decode prog_7_method_7_code 85 = .ok (.aload_n 0, 1) := by decide +kernel
theorem d_Pl_findDensest_86 : decode prog_7_method_7_code 86 = .ok (.getfield 24, 3) := by decide +kernel
theorem d_Pl_findDensest_89 : decode prog_7_method_7_code 89 = .ok (.iload_n 3, 1) := by decide +kernel
theorem d_Pl_findDensest_90 : decode prog_7_method_7_code 90 = .ok (.iaload, 1) := by decide +kernel
theorem d_Pl_findDensest_91 : decode prog_7_method_7_code 91 = .ok (.iconst (-1), 1) := by decide +kernel
theorem d_Pl_findDensest_92 : decode prog_7_method_7_code 92 = .ok (.if_icmp .ne 20, 3) := by decide +kernel
theorem d_Pl_findDensest_95 : decode prog_7_method_7_code 95 = .ok (.aload_n 0, 1) := by decide +kernel
theorem d_Pl_findDensest_96 : decode prog_7_method_7_code 96 = .ok (.aload_n 1, 1) := by decide +kernel
theorem d_Pl_findDensest_97 : decode prog_7_method_7_code 97 = .ok (.aload_n 1, 1) := by decide +kernel
theorem d_Pl_findDensest_98 : decode prog_7_method_7_code 98 = .ok (.getfield 92, 3) := by decide +kernel
theorem d_Pl_findDensest_101 : decode prog_7_method_7_code 101 = .ok (.iload_n 2, 1) := by decide +kernel
theorem d_Pl_findDensest_102 : decode prog_7_method_7_code 102 = .ok (.iaload, 1) := by decide +kernel
theorem d_Pl_findDensest_103 : decode prog_7_method_7_code 103 = .ok (.aload_n 1, 1) := by decide +kernel
theorem d_Pl_findDensest_104 : decode prog_7_method_7_code 104 = .ok (.getfield 95, 3) := by decide +kernel
theorem d_Pl_findDensest_107 : decode prog_7_method_7_code 107 = .ok (.iload_n 3, 1) := by decide +kernel
theorem d_Pl_findDensest_108 : decode prog_7_method_7_code 108 = .ok (.iaload, 1) := by decide +kernel
theorem d_Pl_findDensest_109 : decode prog_7_method_7_code 109 = .ok (.invokevirtual 98, 3) := by decide +kernel
theorem d_Pl_findDensest_112 : decode prog_7_method_7_code 112 = .ok (.iinc 3 1, 3) := by decide +kernel
theorem d_Pl_findDensest_115 : decode prog_7_method_7_code 115 = .ok (.goto (-48), 3) := by decide +kernel
theorem d_Pl_findDensest_118 : decode prog_7_method_7_code 118 = .ok (.iinc 2 1, 3) := by decide +kernel
theorem d_Pl_findDensest_121 : decode prog_7_method_7_code 121 = .ok (.goto (-64), 3) := by decide +kernel
theorem d_Pl_findDensest_124 : decode prog_7_method_7_code 124 = .ok (.return_, 1) := by decide +kernel
theorem d_Pl_tryBetween_0 : decode prog_7_method_8_code 0 = .ok (.iload_n 2, 1) := by decide +kernel
theorem d_Pl_tryBetween_1 : decode prog_7_method_8_code 1 = .ok (.ifCond .lt 15, 3) := by decide +kernel
theorem d_Pl_tryBetween_4 : decode prog_7_method_8_code 4 = .ok (.iload_n 3, 1) := by decide +kernel
theorem d_Pl_tryBetween_5 : decode prog_7_method_8_code 5 = .ok (.sipush 200, 3) := by decide +kernel
theorem d_Pl_tryBetween_8 : decode prog_7_method_8_code 8 = .ok (.if_icmp .gt 8, 3) := by decide +kernel
theorem d_Pl_tryBetween_11 : decode prog_7_method_8_code 11 = .ok (.iload_n 2, 1) := by decide +kernel
theorem d_Pl_tryBetween_12 : decode prog_7_method_8_code 12 = .ok (.iload_n 3, 1) := by decide +kernel
theorem d_Pl_tryBetween_13 : decode prog_7_method_8_code 13 = .ok (.if_icmp .lt 4, 3) := by decide +kernel
theorem d_Pl_tryBetween_16 : decode prog_7_method_8_code 16 = .ok (.return_, 1) := by decide +kernel
theorem d_Pl_tryBetween_17 : decode prog_7_method_8_code 17 = .ok (.aload_n 0, 1) := by decide +kernel
theorem d_Pl_tryBetween_18 : decode prog_7_method_8_code 18 = .ok (.getfield 30, 3) := by decide +kernel
theorem d_Pl_tryBetween_21 : decode prog_7_method_8_code 21 = .ok (.iload_n 3, 1) := by decide +kernel
theorem d_Pl_tryBetween_22 : decode prog_7_method_8_code 22 = .ok (.iaload, 1) := by decide +kernel
theorem d_Pl_tryBetween_23 : decode prog_7_method_8_code 23 = .ok (.aload_n 0, 1) := by decide +kernel
theorem d_Pl_tryBetween_24 : decode prog_7_method_8_code 24 = .ok (.getfield 30, 3) := by decide +kernel
theorem d_Pl_tryBetween_27 : decode prog_7_method_8_code 27 = .ok (.iload_n 2, 1) := by decide +kernel
theorem d_Pl_tryBetween_28 : decode prog_7_method_8_code 28 = .ok (.iaload, 1) := by decide +kernel
theorem d_Pl_tryBetween_29 : decode prog_7_method_8_code 29 = .ok (.isub, 1) := by decide +kernel
theorem d_Pl_tryBetween_30 : decode prog_7_method_8_code 30 = .ok (.istore 4, 2) := by decide +kernel
theorem d_Pl_tryBetween_32 : decode prog_7_method_8_code 32 = .ok (.iload 4, 2) := by decide +kernel
theorem d_Pl_tryBetween_34 : decode prog_7_method_8_code 34 = .ok (.iconst 1, 1) := by decide +kernel
theorem d_Pl_tryBetween_35 : decode prog_7_method_8_code 35 = .ok (.if_icmp .ge 4, 3) := by decide +kernel
theorem d_Pl_tryBetween_38 : decode prog_7_method_8_code 38 = .ok (.return_, 1) := by decide +kernel
theorem d_Pl_tryBetween_39 : decode prog_7_method_8_code 39 = .ok (.iconst 0, 1) := by decide +kernel
theorem d_Pl_tryBetween_40 : decode prog_7_method_8_code 40 = .ok (.istore 5, 2) := by decide +kernel
theorem d_Pl_tryBetween_42 : decode prog_7_method_8_code 42 = .ok (.iconst 0, 1) := by decide +kernel
theorem d_Pl_tryBetween_43 : decode prog_7_method_8_code 43 = .ok (.istore 6, 2) := by decide +kernel
theorem d_Pl_tryBetween_45 : decode prog_7_method_8_code 45 = .ok (.iload 6, 2) := by decide +kernel
theorem d_Pl_tryBetween_47 : decode prog_7_method_8_code 47 = .ok (.aload_n 1, 1) := by decide +kernel
theorem d_Pl_tryBetween_48 : decode prog_7_method_8_code 48 = .ok (.getfield 87, 3) := by decide +kernel
theorem d_Pl_tryBetween_51 : decode prog_7_method_8_code 51 = .ok (.if_icmp .ge 43, 3) := by decide +kernel
theorem d_Pl_tryBetween_54 : decode prog_7_method_8_code 54 = .ok (.aload_n 0, 1) := by decide +kernel
theorem d_Pl_tryBetween_55 : decode prog_7_method_8_code 55 = .ok (.getfield 24, 3) := by decide +kernel
theorem d_Pl_tryBetween_58 : decode prog_7_method_8_code 58 = .ok (.iload 6, 2) := by decide +kernel
theorem d_Pl_tryBetween_60 : decode prog_7_method_8_code 60 = .ok (.iaload, 1) := by decide +kernel
theorem d_Pl_tryBetween_61 : decode prog_7_method_8_code 61 = .ok (.iconst (-1), 1) := by decide +kernel
theorem d_Pl_tryBetween_62 : decode prog_7_method_8_code 62 = .ok (.if_icmp .ne 26, 3) := by decide +kernel
theorem d_Pl_tryBetween_65 : decode prog_7_method_8_code 65 = .ok (.aload_n 1, 1) := by decide +kernel
theorem d_Pl_tryBetween_66 : decode prog_7_method_8_code 66 = .ok (.iload 6, 2) := by decide +kernel
theorem d_Pl_tryBetween_68 : decode prog_7_method_8_code 68 = .ok (.iload_n 2, 1) := by decide +kernel
theorem d_Pl_tryBetween_69 : decode prog_7_method_8_code 69 = .ok (.iload_n 3, 1) := by decide +kernel
theorem d_Pl_tryBetween_70 : decode prog_7_method_8_code 70 = .ok (.invokevirtual 102, 3) := by decide +kernel
theorem d_Pl_tryBetween_73 : decode prog_7_method_8_code 73 = .ok (.ifCond .eq 15, 3) := by decide +kernel
theorem d_Pl_tryBetween_76 : decode prog_7_method_8_code 76 = .ok (.iload 5, 2) := by decide +kernel
theorem d_Pl_tryBetween_78 : decode prog_7_method_8_code 78 = .ok (.aload_n 1, 1) := by decide +kernel
theorem d_Pl_tryBetween_79 : decode prog_7_method_8_code 79 = .ok (.getfield 106, 3) := by decide +kernel
theorem d_Pl_tryBetween_82 : decode prog_7_method_8_code 82 = .ok (.iload 6, 2) := by decide +kernel
theorem d_Pl_tryBetween_84 : decode prog_7_method_8_code 84 = .ok (.iaload, 1) := by decide +kernel
theorem d_Pl_tryBetween_85 : decode prog_7_method_8_code 85 = .ok (.iadd, 1) := by decide +kernel
theorem d_Pl_tryBetween_86 : decode prog_7_method_8_code 86 = .ok (.istore 5, 2) := by decide +kernel
theorem d_Pl_tryBetween_88 : decode prog_7_method_8_code 88 = .ok (.iinc 6 1, 3) := by decide +kernel
theorem d_Pl_tryBetween_91 : decode prog_7_method_8_code 91 = .ok (.goto (-46), 3) := by decide +kernel
theorem d_Pl_tryBetween_94 : decode prog_7_method_8_code 94 = .ok (.iload 5, 2) := by decide +kernel
theorem d_Pl_tryBetween_96 : decode prog_7_method_8_code 96 = .ok (.ifCond .le 49, 3) := by decide +kernel
theorem d_Pl_tryBetween_99 : decode prog_7_method_8_code 99 = .ok (.aload_n 0, 1) := by decide +kernel
theorem d_Pl_tryBetween_100 : decode prog_7_method_8_code 100 = .ok (.getfield 78, 3) := by decide +kernel
theorem d_Pl_tryBetween_103 : decode prog_7_method_8_code 103 = .ok (.ifCond .eq 20, 3) := by decide +kernel
theorem d_Pl_tryBetween_106 : decode prog_7_method_8_code 106 = .ok (.iload 5, 2) := by decide +kernel
theorem d_Pl_tryBetween_108 : decode prog_7_method_8_code 108 = .ok (.aload_n 0, 1) := by decide +kernel
theorem d_Pl_tryBetween_109 : decode prog_7_method_8_code 109 = .ok (.getfield 78, 3) := by decide +kernel
theorem d_Pl_tryBetween_112 : decode prog_7_method_8_code 112 = .ok (.imul, 1) := by decide +kernel
theorem d_Pl_tryBetween_113 : decode prog_7_method_8_code 113 = .ok (.aload_n 0, 1) := by decide +kernel
theorem d_Pl_tryBetween_114 : decode prog_7_method_8_code 114 = .ok (.getfield 84, 3) := by decide +kernel
theorem d_Pl_tryBetween_117 : decode prog_7_method_8_code 117 = .ok (.iload 4, 2) := by decide +kernel
theorem d_Pl_tryBetween_119 : decode prog_7_method_8_code 119 = .ok (.imul, 1) := by decide +kernel
theorem d_Pl_tryBetween_120 : decode prog_7_method_8_code 120 = .ok (.if_icmp .le 25, 3) := by decide +kernel
theorem d_Pl_tryBetween_123 : decode prog_7_method_8_code 123 = .ok (.aload_n 0, 1) := by decide +kernel
theorem d_Pl_tryBetween_124 : decode prog_7_method_8_code 124 = .ok (.iload_n 2, 1) := by decide +kernel
theorem d_Pl_tryBetween_125 : decode prog_7_method_8_code 125 = .ok (.putfield 109, 3) := by decide +kernel
theorem d_Pl_tryBetween_128 : decode prog_7_method_8_code 128 = .ok (.aload_n 0, 1) := by decide +kernel
theorem d_Pl_tryBetween_129 : decode prog_7_method_8_code 129 = .ok (.iload_n 3, 1) := by decide +kernel
theorem d_Pl_tryBetween_130 : decode prog_7_method_8_code 130 = .ok (.putfield 112, 3) := by decide +kernel
theorem d_Pl_tryBetween_133 : decode prog_7_method_8_code 133 = .ok (.aload_n 0, 1) := by decide +kernel
theorem d_Pl_tryBetween_134 : decode prog_7_method_8_code 134 = .ok (.iload 5, 2) := by decide +kernel
theorem d_Pl_tryBetween_136 : decode prog_7_method_8_code 136 = .ok (.putfield 84, 3) := by decide +kernel
theorem d_Pl_tryBetween_139 : decode prog_7_method_8_code 139 = .ok (.aload_n 0, 1) := by decide +kernel
theorem d_Pl_tryBetween_140 : decode prog_7_method_8_code 140 = .ok (.iload 4, 2) := by decide +kernel
theorem d_Pl_tryBetween_142 : decode prog_7_method_8_code 142 = .ok (.putfield 78, 3) := by decide +kernel
theorem d_Pl_tryBetween_145 : decode prog_7_method_8_code 145 = .ok (.return_, 1) := by decide +kernel
theorem d_Pl_takeDensest_0 : decode prog_7_method_9_code 0 = .ok (.aload_n 0, 1) := by decide +kernel
theorem d_Pl_takeDensest_1 : decode prog_7_method_9_code 1 = .ok (.getfield 57, 3) := by decide +kernel
theorem d_Pl_takeDensest_4 : decode prog_7_method_9_code 4 = .ok (.bipush 12, 2) := by decide +kernel
theorem d_Pl_takeDensest_6 : decode prog_7_method_9_code 6 = .ok (.if_icmp .ge 20, 3) := by decide +kernel
theorem d_Pl_takeDensest_9 : decode prog_7_method_9_code 9 = .ok (.aload_n 0, 1) := by decide +kernel
theorem d_Pl_takeDensest_10 : decode prog_7_method_9_code 10 = .ok (.getfield 109, 3) := by decide +kernel
theorem d_Pl_takeDensest_13 : decode prog_7_method_9_code 13 = .ok (.ifCond .lt 13, 3) := by decide +kernel
theorem d_Pl_takeDensest_16 : decode prog_7_method_9_code 16 = .ok (.aload_n 0, 1) := by decide +kernel
theorem d_Pl_takeDensest_17 : decode prog_7_method_9_code 17 = .ok (.getfield 112, 3) := by decide +kernel
theorem d_Pl_takeDensest_20 : decode prog_7_method_9_code 20 = .ok (.sipush 200, 3) := by decide +kernel
theorem d_Pl_takeDensest_23 : decode prog_7_method_9_code 23 = .ok (.if_icmp .le 4, 3) := by decide +kernel
theorem d_Pl_takeDensest_26 : decode prog_7_method_9_code 26 = .ok (.return_, 1) := by decide +kernel
theorem d_Pl_takeDensest_27 : decode prog_7_method_9_code 27 = .ok (.aload_n 0, 1) := by decide +kernel
theorem d_Pl_takeDensest_28 : decode prog_7_method_9_code 28 = .ok (.getfield 9, 3) := by decide +kernel
theorem d_Pl_takeDensest_31 : decode prog_7_method_9_code 31 = .ok (.aload_n 0, 1) := by decide +kernel
theorem d_Pl_takeDensest_32 : decode prog_7_method_9_code 32 = .ok (.getfield 57, 3) := by decide +kernel
theorem d_Pl_takeDensest_35 : decode prog_7_method_9_code 35 = .ok (.aload_n 0, 1) := by decide +kernel
theorem d_Pl_takeDensest_36 : decode prog_7_method_9_code 36 = .ok (.getfield 84, 3) := by decide +kernel
theorem d_Pl_takeDensest_39 : decode prog_7_method_9_code 39 = .ok (.iastore, 1) := by decide +kernel
theorem d_Pl_takeDensest_40 : decode prog_7_method_9_code 40 = .ok (.aload_n 0, 1) := by decide +kernel
theorem d_Pl_takeDensest_41 : decode prog_7_method_9_code 41 = .ok (.getfield 15, 3) := by decide +kernel
theorem d_Pl_takeDensest_44 : decode prog_7_method_9_code 44 = .ok (.aload_n 0, 1) := by decide +kernel
theorem d_Pl_takeDensest_45 : decode prog_7_method_9_code 45 = .ok (.getfield 57, 3) := by decide +kernel
theorem d_Pl_takeDensest_48 : decode prog_7_method_9_code 48 = .ok (.aload_n 0, 1) := by decide +kernel
theorem d_Pl_takeDensest_49 : decode prog_7_method_9_code 49 = .ok (.getfield 78, 3) := by decide +kernel
theorem d_Pl_takeDensest_52 : decode prog_7_method_9_code 52 = .ok (.iastore, 1) := by decide +kernel
theorem d_Pl_takeDensest_53 : decode prog_7_method_9_code 53 = .ok (.aload_n 0, 1) := by decide +kernel
theorem d_Pl_takeDensest_54 : decode prog_7_method_9_code 54 = .ok (.getfield 20, 3) := by decide +kernel
theorem d_Pl_takeDensest_57 : decode prog_7_method_9_code 57 = .ok (.aload_n 0, 1) := by decide +kernel
theorem d_Pl_takeDensest_58 : decode prog_7_method_9_code 58 = .ok (.getfield 57, 3) := by decide +kernel
theorem d_Pl_takeDensest_61 : decode prog_7_method_9_code 61 = .ok (.aaload, 1) := by decide +kernel
theorem d_Pl_takeDensest_62 : decode prog_7_method_9_code 62 = .ok (.aload_n 0, 1) := by decide +kernel
theorem d_Pl_takeDensest_63 : decode prog_7_method_9_code 63 = .ok (.getfield 84, 3) := by decide +kernel
theorem d_Pl_takeDensest_66 : decode prog_7_method_9_code 66 = .ok (.i2l, 1) := by decide +kernel
theorem d_Pl_takeDensest_67 : decode prog_7_method_9_code 67 = .ok (.aload_n 0, 1) := by decide +kernel
theorem d_Pl_takeDensest_68 : decode prog_7_method_9_code 68 = .ok (.getfield 78, 3) := by decide +kernel
theorem d_Pl_takeDensest_71 : decode prog_7_method_9_code 71 = .ok (.i2l, 1) := by decide +kernel
theorem d_Pl_takeDensest_72 : decode prog_7_method_9_code 72 = .ok (.invokevirtual 115, 3) := by decide +kernel
theorem d_Pl_takeDensest_75 : decode prog_7_method_9_code 75 = .ok (.iconst 0, 1) := by decide +kernel
theorem d_Pl_takeDensest_76 : decode prog_7_method_9_code 76 = .ok (.istore_n 2, 1) := by decide +kernel
theorem d_Pl_takeDensest_77 : decode prog_7_method_9_code 77 = .ok (.iload_n 2, 1) := by decide +kernel
theorem d_Pl_takeDensest_78 : decode prog_7_method_9_code 78 = .ok (.aload_n 1, 1) := by decide +kernel
theorem d_Pl_takeDensest_79 : decode prog_7_method_9_code 79 = .ok (.getfield 87, 3) := by decide +kernel
theorem d_Pl_takeDensest_82 : decode prog_7_method_9_code 82 = .ok (.if_icmp .ge 62, 3) := by decide +kernel
theorem d_Pl_takeDensest_85 : decode prog_7_method_9_code 85 = .ok (.aload_n 0, 1) := by decide +kernel
theorem d_Pl_takeDensest_86 : decode prog_7_method_9_code 86 = .ok (.getfield 24, 3) := by decide +kernel
theorem d_Pl_takeDensest_89 : decode prog_7_method_9_code 89 = .ok (.iload_n 2, 1) := by decide +kernel
theorem d_Pl_takeDensest_90 : decode prog_7_method_9_code 90 = .ok (.iaload, 1) := by decide +kernel
theorem d_Pl_takeDensest_91 : decode prog_7_method_9_code 91 = .ok (.iconst (-1), 1) := by decide +kernel
theorem d_Pl_takeDensest_92 : decode prog_7_method_9_code 92 = .ok (.if_icmp .ne 46, 3) := by decide +kernel
theorem d_Pl_takeDensest_95 : decode prog_7_method_9_code 95 = .ok (.aload_n 1, 1) := by decide +kernel
theorem d_Pl_takeDensest_96 : decode prog_7_method_9_code 96 = .ok (.iload_n 2, 1) := by decide +kernel
theorem d_Pl_takeDensest_97 : decode prog_7_method_9_code 97 = .ok (.aload_n 0, 1) := by decide +kernel
theorem d_Pl_takeDensest_98 : decode prog_7_method_9_code 98 = .ok (.getfield 109, 3) := by decide +kernel
theorem d_Pl_takeDensest_101 : decode prog_7_method_9_code 101 = .ok (.aload_n 0, 1) := by decide +kernel
theorem d_Pl_takeDensest_102 : decode prog_7_method_9_code 102 = .ok (.getfield 112, 3) := by decide +kernel
theorem d_Pl_takeDensest_105 : decode prog_7_method_9_code 105 = .ok (.invokevirtual 102, 3) := by decide +kernel
theorem d_Pl_takeDensest_108 : decode prog_7_method_9_code 108 = .ok (.ifCond .eq 30, 3) := by decide +kernel
theorem d_Pl_takeDensest_111 : decode prog_7_method_9_code 111 = .ok (.aload_n 0, 1) := by decide +kernel
theorem d_Pl_takeDensest_112 : decode prog_7_method_9_code 112 = .ok (.getfield 24, 3) := by decide +kernel
theorem d_Pl_takeDensest_115 : decode prog_7_method_9_code 115 = .ok (.iload_n 2, 1) := by decide +kernel
theorem d_Pl_takeDensest_116 : decode prog_7_method_9_code 116 = .ok (.aload_n 0, 1) := by decide +kernel
theorem d_Pl_takeDensest_117 : decode prog_7_method_9_code 117 = .ok (.getfield 57, 3) := by decide +kernel
theorem d_Pl_takeDensest_120 : decode prog_7_method_9_code 120 = .ok (.iastore, 1) := by decide +kernel
theorem d_Pl_takeDensest_121 : decode prog_7_method_9_code 121 = .ok (.aload_n 0, 1) := by decide +kernel
theorem d_Pl_takeDensest_122 : decode prog_7_method_9_code 122 = .ok (.getfield 33, 3) := by decide +kernel
theorem d_Pl_takeDensest_125 : decode prog_7_method_9_code 125 = .ok (.iload_n 2, 1) := by decide +kernel
theorem d_Pl_takeDensest_126 : decode prog_7_method_9_code 126 = .ok (.aload_n 1, 1) := by decide +kernel
theorem d_Pl_takeDensest_127 : decode prog_7_method_9_code 127 = .ok (.getfield 106, 3) := by decide +kernel
theorem d_Pl_takeDensest_130 : decode prog_7_method_9_code 130 = .ok (.iload_n 2, 1) := by decide +kernel
theorem d_Pl_takeDensest_131 : decode prog_7_method_9_code 131 = .ok (.iaload, 1) := by decide +kernel
theorem d_Pl_takeDensest_132 : decode prog_7_method_9_code 132 = .ok (.aload_n 0, 1) := by decide +kernel
theorem d_Pl_takeDensest_133 : decode prog_7_method_9_code 133 = .ok (.getfield 78, 3) := by decide +kernel
theorem d_Pl_takeDensest_136 : decode prog_7_method_9_code 136 = .ok (.imul, 1) := by decide +kernel
theorem d_Pl_takeDensest_137 : decode prog_7_method_9_code 137 = .ok (.iastore, 1) := by decide +kernel
theorem d_Pl_takeDensest_138 : decode prog_7_method_9_code 138 = .ok (.iinc 2 1, 3) := by decide +kernel
theorem d_Pl_takeDensest_141 : decode prog_7_method_9_code 141 = .ok (.goto (-64), 3) := by decide +kernel
theorem d_Pl_takeDensest_144 : decode prog_7_method_9_code 144 = .ok (.aload_n 0, 1) := by decide +kernel
theorem d_Pl_takeDensest_145 : decode prog_7_method_9_code 145 = .ok (.getfield 109, 3) := by decide +kernel
theorem d_Pl_takeDensest_148 : decode prog_7_method_9_code 148 = .ok (.istore_n 2, 1) := by decide +kernel
theorem d_Pl_takeDensest_149 : decode prog_7_method_9_code 149 = .ok (.iload_n 2, 1) := by decide +kernel
theorem d_Pl_takeDensest_150 : decode prog_7_method_9_code 150 = .ok (.aload_n 0, 1) := by decide +kernel
theorem d_Pl_takeDensest_151 : decode prog_7_method_9_code 151 = .ok (.getfield 112, 3) := by decide +kernel
theorem d_Pl_takeDensest_154 : decode prog_7_method_9_code 154 = .ok (.if_icmp .ge 29, 3) := by decide +kernel
theorem d_Pl_takeDensest_157 : decode prog_7_method_9_code 157 = .ok (.aload_n 0, 1) := by decide +kernel
theorem d_Pl_takeDensest_158 : decode prog_7_method_9_code 158 = .ok (.getfield 27, 3) := by decide +kernel
theorem d_Pl_takeDensest_161 : decode prog_7_method_9_code 161 = .ok (.iload_n 2, 1) := by decide +kernel
theorem d_Pl_takeDensest_162 : decode prog_7_method_9_code 162 = .ok (.iaload, 1) := by decide +kernel
theorem d_Pl_takeDensest_163 : decode prog_7_method_9_code 163 = .ok (.iconst (-1), 1) := by decide +kernel
theorem d_Pl_takeDensest_164 : decode prog_7_method_9_code 164 = .ok (.if_icmp .ne 13, 3) := by decide +kernel
theorem d_Pl_takeDensest_167 : decode prog_7_method_9_code 167 = .ok (.aload_n 0, 1) := by decide +kernel
theorem d_Pl_takeDensest_168 : decode prog_7_method_9_code 168 = .ok (.getfield 27, 3) := by decide +kernel
theorem d_Pl_takeDensest_171 : decode prog_7_method_9_code 171 = .ok (.iload_n 2, 1) := by decide +kernel
theorem d_Pl_takeDensest_172 : decode prog_7_method_9_code 172 = .ok (.aload_n 0, 1) := by decide +kernel
theorem d_Pl_takeDensest_173 : decode prog_7_method_9_code 173 = .ok (.getfield 57, 3) := by decide +kernel
theorem d_Pl_takeDensest_176 : decode prog_7_method_9_code 176 = .ok (.iastore, 1) := by decide +kernel
theorem d_Pl_takeDensest_177 : decode prog_7_method_9_code 177 = .ok (.iinc 2 1, 3) := by decide +kernel
theorem d_Pl_takeDensest_180 : decode prog_7_method_9_code 180 = .ok (.goto (-31), 3) := by decide +kernel
theorem d_Pl_takeDensest_183 : decode prog_7_method_9_code 183 = .ok (.aload_n 0, 1) := by decide +kernel
theorem d_Pl_takeDensest_184 : decode prog_7_method_9_code 184 = .ok (.dup, 1) := by decide +kernel
theorem d_Pl_takeDensest_185 : decode prog_7_method_9_code 185 = .ok (.getfield 57, 3) := by decide +kernel
theorem d_Pl_takeDensest_188 : decode prog_7_method_9_code 188 = .ok (.iconst 1, 1) := by decide +kernel
theorem d_Pl_takeDensest_189 : decode prog_7_method_9_code 189 = .ok (.iadd, 1) := by decide +kernel
theorem d_Pl_takeDensest_190 : decode prog_7_method_9_code 190 = .ok (.putfield 57, 3) := by decide +kernel
theorem d_Pl_takeDensest_193 : decode prog_7_method_9_code 193 = .ok (.return_, 1) := by decide +kernel
theorem d_Pl_layOutSteps_0 : decode prog_7_method_10_code 0 = .ok (.aload_n 1, 1) := by decide +kernel
theorem d_Pl_layOutSteps_1 : decode prog_7_method_10_code 1 = .ok (.invokevirtual 119, 3) := by decide +kernel
theorem d_Pl_layOutSteps_4 : decode prog_7_method_10_code 4 = .ok (.sipush 200, 3) := by decide +kernel
theorem d_Pl_layOutSteps_7 : decode prog_7_method_10_code 7 = .ok (.invokestatic 123, 3) := by decide +kernel
theorem d_Pl_layOutSteps_10 : decode prog_7_method_10_code 10 = .ok (.istore_n 3, 1) := by decide +kernel
theorem d_Pl_layOutSteps_11 : decode prog_7_method_10_code 11 = .ok (.aload_n 1, 1) := by decide +kernel
theorem d_Pl_layOutSteps_12 : decode prog_7_method_10_code 12 = .ok (.invokevirtual 129, 3) := by decide +kernel
theorem d_Pl_layOutSteps_15 : decode prog_7_method_10_code 15 = .ok (.iconst 0, 1) := by decide +kernel
theorem d_Pl_layOutSteps_16 : decode prog_7_method_10_code 16 = .ok (.invokestatic 132, 3) := by decide +kernel
theorem d_Pl_layOutSteps_19 : decode prog_7_method_10_code 19 = .ok (.istore 4, 2) := by decide +kernel
theorem d_Pl_layOutSteps_21 : decode prog_7_method_10_code 21 = .ok (.iload 4, 2) := by decide +kernel
theorem d_Pl_layOutSteps_23 : decode prog_7_method_10_code 23 = .ok (.istore 5, 2) := by decide +kernel
theorem d_Pl_layOutSteps_25 : decode prog_7_method_10_code 25 = .ok (.iload 5, 2) := by decide +kernel
theorem d_Pl_layOutSteps_27 : decode prog_7_method_10_code 27 = .ok (.iload_n 3, 1) := by decide +kernel
theorem d_Pl_layOutSteps_28 : decode prog_7_method_10_code 28 = .ok (.if_icmp .ge 84, 3) := by decide +kernel
theorem d_Pl_layOutSteps_31 : decode prog_7_method_10_code 31 = .ok (.iload 5, 2) := by decide +kernel
theorem d_Pl_layOutSteps_33 : decode prog_7_method_10_code 33 = .ok (.iconst 1, 1) := by decide +kernel
theorem d_Pl_layOutSteps_34 : decode prog_7_method_10_code 34 = .ok (.iadd, 1) := by decide +kernel
theorem d_Pl_layOutSteps_35 : decode prog_7_method_10_code 35 = .ok (.iload_n 3, 1) := by decide +kernel
theorem d_Pl_layOutSteps_36 : decode prog_7_method_10_code 36 = .ok (.if_icmp .eq 22, 3) := by decide +kernel
theorem d_Pl_layOutSteps_39 : decode prog_7_method_10_code 39 = .ok (.aload_n 0, 1) := by decide +kernel
theorem d_Pl_layOutSteps_40 : decode prog_7_method_10_code 40 = .ok (.getfield 27, 3) := by decide +kernel
theorem d_Pl_layOutSteps_43 : decode prog_7_method_10_code 43 = .ok (.iload 5, 2) := by decide +kernel
theorem d_Pl_layOutSteps_45 : decode prog_7_method_10_code 45 = .ok (.iconst 1, 1) := by decide +kernel
theorem d_Pl_layOutSteps_46 : decode prog_7_method_10_code 46 = .ok (.iadd, 1) := by decide +kernel
theorem d_Pl_layOutSteps_47 : decode prog_7_method_10_code 47 = .ok (.iaload, 1) := by decide +kernel
theorem d_Pl_layOutSteps_48 : decode prog_7_method_10_code 48 = .ok (.aload_n 0, 1) := by decide +kernel
theorem d_Pl_layOutSteps_49 : decode prog_7_method_10_code 49 = .ok (.getfield 27, 3) := by decide +kernel
theorem d_Pl_layOutSteps_52 : decode prog_7_method_10_code 52 = .ok (.iload 5, 2) := by decide +kernel
theorem d_Pl_layOutSteps_54 : decode prog_7_method_10_code 54 = .ok (.iaload, 1) := by decide +kernel
theorem d_Pl_layOutSteps_55 : decode prog_7_method_10_code 55 = .ok (.if_icmp .eq 51, 3) := by decide +kernel
theorem d_Pl_layOutSteps_58 : decode prog_7_method_10_code 58 = .ok (.aload_n 0, 1) := by decide +kernel
theorem d_Pl_layOutSteps_59 : decode prog_7_method_10_code 59 = .ok (.getfield 27, 3) := by decide +kernel
theorem d_Pl_layOutSteps_62 : decode prog_7_method_10_code 62 = .ok (.iload 5, 2) := by decide +kernel
theorem d_Pl_layOutSteps_64 : decode prog_7_method_10_code 64 = .ok (.iaload, 1) := by decide +kernel
theorem d_Pl_layOutSteps_65 : decode prog_7_method_10_code 65 = .ok (.istore 6, 2) := by decide +kernel
theorem d_Pl_layOutSteps_67 : decode prog_7_method_10_code 67 = .ok (.aload_n 2, 1) := by decide +kernel
theorem d_Pl_layOutSteps_68 : decode prog_7_method_10_code 68 = .ok (.iload 4, 2) := by decide +kernel
theorem d_Pl_layOutSteps_70 : decode prog_7_method_10_code 70 = .ok (.iload 5, 2) := by decide +kernel
theorem d_Pl_layOutSteps_72 : decode prog_7_method_10_code 72 = .ok (.iconst 1, 1) := by decide +kernel
theorem d_Pl_layOutSteps_73 : decode prog_7_method_10_code 73 = .ok (.iadd, 1) := by decide +kernel
theorem d_Pl_layOutSteps_74 : decode prog_7_method_10_code 74 = .ok (.aload_n 0, 1) := by decide +kernel
theorem d_Pl_layOutSteps_75 : decode prog_7_method_10_code 75 = .ok (.iload 6, 2) := by decide +kernel
theorem d_Pl_layOutSteps_77 : decode prog_7_method_10_code 77 = .ok (.invokevirtual 65, 3) := by decide +kernel
theorem d_Pl_layOutSteps_80 : decode prog_7_method_10_code 80 = .ok (.ifCond .eq 13, 3) := by decide +kernel
theorem d_Pl_layOutSteps_83 : decode prog_7_method_10_code 83 = .ok (.aload_n 0, 1) := by decide +kernel
theorem d_Pl_layOutSteps_84 : decode prog_7_method_10_code 84 = .ok (.getfield 20, 3) := by decide +kernel
theorem d_Pl_layOutSteps_87 : decode prog_7_method_10_code 87 = .ok (.iload 6, 2) := by decide +kernel
theorem d_Pl_layOutSteps_89 : decode prog_7_method_10_code 89 = .ok (.aaload, 1) := by decide +kernel
theorem d_Pl_layOutSteps_90 : decode prog_7_method_10_code 90 = .ok (.goto 7, 3) := by decide +kernel
theorem d_Pl_layOutSteps_93 : decode prog_7_method_10_code 93 = .ok (.aload_n 0, 1) := by decide +kernel
theorem d_Pl_layOutSteps_94 : decode prog_7_method_10_code 94 = .ok (.getfield 37, 3) := by decide +kernel
theorem d_Pl_layOutSteps_97 : decode prog_7_method_10_code 97 = .ok (.invokevirtual 135, 3) := by decide +kernel
theorem d_Pl_layOutSteps_100 : decode prog_7_method_10_code 100 = .ok (.iload 5, 2) := by decide +kernel
theorem d_Pl_layOutSteps_102 : decode prog_7_method_10_code 102 = .ok (.iconst 1, 1) := by decide +kernel
theorem d_Pl_layOutSteps_103 : decode prog_7_method_10_code 103 = .ok (.iadd, 1) := by decide +kernel
theorem d_Pl_layOutSteps_104 : decode prog_7_method_10_code 104 = .ok (.istore 4, 2) := by decide +kernel
theorem d_Pl_layOutSteps_106 : decode prog_7_method_10_code 106 = .ok (.iinc 5 1, 3) := by decide +kernel
theorem d_Pl_layOutSteps_109 : decode prog_7_method_10_code 109 = .ok (.goto (-84), 3) := by decide +kernel
theorem d_Pl_layOutSteps_112 : decode prog_7_method_10_code 112 = .ok (.return_, 1) := by decide +kernel
theorem d_Pl_workOff_0 : decode prog_7_method_11_code 0 = .ok (.iconst 0, 1) := by decide +kernel
theorem d_Pl_workOff_1 : decode prog_7_method_11_code 1 = .ok (.istore_n 3, 1) := by decide +kernel
theorem d_Pl_workOff_2 : decode prog_7_method_11_code 2 = .ok (.iload_n 3, 1) := by decide +kernel
theorem d_Pl_workOff_3 : decode prog_7_method_11_code 3 = .ok (.sipush 200, 3) := by decide +kernel
theorem d_Pl_workOff_6 : decode prog_7_method_11_code 6 = .ok (.if_icmp .ge 35, 3) := by decide +kernel
theorem d_Pl_workOff_9 : decode prog_7_method_11_code 9 = .ok (.aload_n 0, 1) := by decide +kernel
theorem d_Pl_workOff_10 : decode prog_7_method_11_code 10 = .ok (.aload_n 0, 1) := by decide +kernel
theorem d_Pl_workOff_11 : decode prog_7_method_11_code 11 = .ok (.getfield 27, 3) := by decide +kernel
theorem d_Pl_workOff_14 : decode prog_7_method_11_code 14 = .ok (.iload_n 3, 1) := by decide +kernel
theorem d_Pl_workOff_15 : decode prog_7_method_11_code 15 = .ok (.iaload, 1) := by decide +kernel
theorem d_Pl_workOff_16 : decode prog_7_method_11_code 16 = .ok (.invokevirtual 65, 3) := by decide +kernel
theorem d_Pl_workOff_19 : decode prog_7_method_11_code 19 = .ok (.ifCond .eq 16, 3) := by decide +kernel
theorem d_Pl_workOff_22 : decode prog_7_method_11_code 22 = .ok (.aload_n 0, 1) := by decide +kernel
theorem d_Pl_workOff_23 : decode prog_7_method_11_code 23 = .ok (.aload_n 1, 1) := by decide +kernel
theorem d_Pl_workOff_24 : decode prog_7_method_11_code 24 = .ok (.aload_n 2, 1) := by decide +kernel
theorem d_Pl_workOff_25 : decode prog_7_method_11_code 25 = .ok (.iload_n 3, 1) := by decide +kernel
theorem d_Pl_workOff_26 : decode prog_7_method_11_code 26 = .ok (.aload_n 0, 1) := by decide +kernel
theorem d_Pl_workOff_27 : decode prog_7_method_11_code 27 = .ok (.getfield 27, 3) := by decide +kernel
theorem d_Pl_workOff_30 : decode prog_7_method_11_code 30 = .ok (.iload_n 3, 1) := by decide +kernel
theorem d_Pl_workOff_31 : decode prog_7_method_11_code 31 = .ok (.iaload, 1) := by decide +kernel
theorem d_Pl_workOff_32 : decode prog_7_method_11_code 32 = .ok (.invokevirtual 139, 3) := by decide +kernel
theorem d_Pl_workOff_35 : decode prog_7_method_11_code 35 = .ok (.iinc 3 1, 3) := by decide +kernel
theorem d_Pl_workOff_38 : decode prog_7_method_11_code 38 = .ok (.goto (-36), 3) := by decide +kernel
theorem d_Pl_workOff_41 : decode prog_7_method_11_code 41 = .ok (.return_, 1) := by decide +kernel
theorem d_Pl_workOffAt_0 : decode prog_7_method_12_code 0 = .ok (.iload_n 3, 1) := by decide +kernel
theorem d_Pl_workOffAt_1 : decode prog_7_method_12_code 1 = .ok (.ifCond .lt 19, 3) := by decide +kernel
theorem d_Pl_workOffAt_4 : decode prog_7_method_12_code 4 = .ok (.iload_n 3, 1) := by decide +kernel
theorem d_Pl_workOffAt_5 : decode prog_7_method_12_code 5 = .ok (.sipush 200, 3) := by decide +kernel
theorem d_Pl_workOffAt_8 : decode prog_7_method_12_code 8 = .ok (.if_icmp .ge 12, 3) := by decide +kernel
theorem d_Pl_workOffAt_11 : decode prog_7_method_12_code 11 = .ok (.aload_n 0, 1) := by decide +kernel
theorem d_Pl_workOffAt_12 : decode prog_7_method_12_code 12 = .ok (.iload 4, 2) := by decide +kernel
theorem d_Pl_workOffAt_14 : decode prog_7_method_12_code 14 = .ok (.invokevirtual 65, 3) := by decide +kernel
theorem d_Pl_workOffAt_17 : decode prog_7_method_12_code 17 = .ok (.ifCond .ne 4, 3) := by decide +kernel
theorem d_Pl_workOffAt_20 : decode prog_7_method_12_code 20 = .ok (.return_, 1) := by decide +kernel
theorem d_Pl_workOffAt_21 : decode prog_7_method_12_code 21 = .ok (.aload_n 0, 1) := by decide +kernel
theorem d_Pl_workOffAt_22 : decode prog_7_method_12_code 22 = .ok (.getfield 9, 3) := by decide +kernel
theorem d_Pl_workOffAt_25 : decode prog_7_method_12_code 25 = .ok (.iload 4, 2) := by decide +kernel
theorem d_Pl_workOffAt_27 : decode prog_7_method_12_code 27 = .ok (.iaload, 1) := by decide +kernel
theorem d_Pl_workOffAt_28 : decode prog_7_method_12_code 28 = .ok (.istore 5, 2) := by decide +kernel
theorem d_Pl_workOffAt_30 : decode prog_7_method_12_code 30 = .ok (.iconst 0, 1) := by decide +kernel
theorem d_Pl_workOffAt_31 : decode prog_7_method_12_code 31 = .ok (.istore 6, 2) := by decide +kernel
theorem d_Pl_workOffAt_33 : decode prog_7_method_12_code 33 = .ok (.iconst 0, 1) := by decide +kernel
theorem d_Pl_workOffAt_34 : decode prog_7_method_12_code 34 = .ok (.istore 7, 2) := by decide +kernel
theorem d_Pl_workOffAt_36 : decode prog_7_method_12_code 36 = .ok (.iload 7, 2) := by decide +kernel
theorem d_Pl_workOffAt_38 : decode prog_7_method_12_code 38 = .ok (.aload_n 1, 1) := by decide +kernel
theorem d_Pl_workOffAt_39 : decode prog_7_method_12_code 39 = .ok (.getfield 87, 3) := by decide +kernel
theorem d_Pl_workOffAt_42 : decode prog_7_method_12_code 42 = .ok (.if_icmp .ge 143, 3) := by decide +kernel
theorem d_Pl_workOffAt_45 : decode prog_7_method_12_code 45 = .ok (.iload 6, 2) := by decide +kernel
theorem d_Pl_workOffAt_47 : decode prog_7_method_12_code 47 = .ok (.iload 5, 2) := by decide +kernel
theorem d_Pl_workOffAt_49 : decode prog_7_method_12_code 49 = .ok (.if_icmp .ge 136, 3) := by decide +kernel
theorem d_Pl_workOffAt_52 : decode prog_7_method_12_code 52 = .ok (.aload_n 1, 1) := by decide +kernel
theorem d_Pl_workOffAt_53 : decode prog_7_method_12_code 53 = .ok (.getfield 143, 3) := by decide +kernel
theorem d_Pl_workOffAt_56 : decode prog_7_method_12_code 56 = .ok (.iload 7, 2) := by decide +kernel
theorem d_Pl_workOffAt_58 : decode prog_7_method_12_code 58 = .ok (.iaload, 1) := by decide +kernel
theorem d_Pl_workOffAt_59 : decode prog_7_method_12_code 59 = .ok (.istore 8, 2) := by decide +kernel
theorem d_Pl_workOffAt_61 : decode prog_7_method_12_code 61 = .ok (.aload_n 0, 1) := by decide +kernel
theorem d_Pl_workOffAt_62 : decode prog_7_method_12_code 62 = .ok (.iload 8, 2) := by decide +kernel
theorem d_Pl_workOffAt_64 : decode prog_7_method_12_code 64 = .ok (.invokevirtual 61, 3) := by decide +kernel
theorem d_Pl_workOffAt_67 : decode prog_7_method_12_code 67 = .ok (.iload 4, 2) := by decide +kernel
theorem d_Pl_workOffAt_69 : decode prog_7_method_12_code 69 = .ok (.if_icmp .ne 110, 3) := by decide +kernel
theorem d_Pl_workOffAt_72 : decode prog_7_method_12_code 72 = .ok (.aload_n 1, 1) := by decide +kernel
theorem d_Pl_workOffAt_73 : decode prog_7_method_12_code 73 = .ok (.getfield 92, 3) := by decide +kernel
theorem d_Pl_workOffAt_76 : decode prog_7_method_12_code 76 = .ok (.iload 8, 2) := by decide +kernel
theorem d_Pl_workOffAt_78 : decode prog_7_method_12_code 78 = .ok (.iaload, 1) := by decide +kernel
theorem d_Pl_workOffAt_79 : decode prog_7_method_12_code 79 = .ok (.iload_n 3, 1) := by decide +kernel
theorem d_Pl_workOffAt_80 : decode prog_7_method_12_code 80 = .ok (.if_icmp .gt 99, 3) := by decide +kernel
theorem d_Pl_workOffAt_83 : decode prog_7_method_12_code 83 = .ok (.aload_n 0, 1) := by decide +kernel
theorem d_Pl_workOffAt_84 : decode prog_7_method_12_code 84 = .ok (.getfield 33, 3) := by decide +kernel
theorem d_Pl_workOffAt_87 : decode prog_7_method_12_code 87 = .ok (.iload 8, 2) := by decide +kernel
theorem d_Pl_workOffAt_89 : decode prog_7_method_12_code 89 = .ok (.iaload, 1) := by decide +kernel
theorem d_Pl_workOffAt_90 : decode prog_7_method_12_code 90 = .ok (.iconst 1, 1) := by decide +kernel
theorem d_Pl_workOffAt_91 : decode prog_7_method_12_code 91 = .ok (.if_icmp .ge 6, 3) := by decide +kernel
theorem d_Pl_workOffAt_94 : decode prog_7_method_12_code 94 = .ok (.goto 85, 3) := by decide +kernel
theorem d_Pl_workOffAt_97 : decode prog_7_method_12_code 97 = .ok (.iload 6, 2) := by decide +kernel
theorem d_Pl_workOffAt_99 : decode prog_7_method_12_code 99 = .ok (.ifCond .ne 11, 3) := by decide +kernel
theorem d_Pl_workOffAt_102 : decode prog_7_method_12_code 102 = .ok (.aload_n 2, 1) := by decide +kernel
theorem d_Pl_workOffAt_103 : decode prog_7_method_12_code 103 = .ok (.getfield 146, 3) := by decide +kernel
theorem d_Pl_workOffAt_106 : decode prog_7_method_12_code 106 = .ok (.iload_n 3, 1) := by decide +kernel
theorem d_Pl_workOffAt_107 : decode prog_7_method_12_code 107 = .ok (.iload 8, 2) := by decide +kernel
theorem d_Pl_workOffAt_109 : decode prog_7_method_12_code 109 = .ok (.iastore, 1) := by decide +kernel
theorem d_Pl_workOffAt_110 : decode prog_7_method_12_code 110 = .ok (.aload_n 0, 1) := by decide +kernel
theorem d_Pl_workOffAt_111 : decode prog_7_method_12_code 111 = .ok (.getfield 33, 3) := by decide +kernel
theorem d_Pl_workOffAt_114 : decode prog_7_method_12_code 114 = .ok (.iload 8, 2) := by decide +kernel
theorem d_Pl_workOffAt_116 : decode prog_7_method_12_code 116 = .ok (.iaload, 1) := by decide +kernel
theorem d_Pl_workOffAt_117 : decode prog_7_method_12_code 117 = .ok (.iload 5, 2) := by decide +kernel
theorem d_Pl_workOffAt_119 : decode prog_7_method_12_code 119 = .ok (.iload 6, 2) := by decide +kernel
theorem d_Pl_workOffAt_121 : decode prog_7_method_12_code 121 = .ok (.isub, 1) := by decide +kernel
theorem d_Pl_workOffAt_122 : decode prog_7_method_12_code 122 = .ok (.invokestatic 123, 3) := by decide +kernel
theorem d_Pl_workOffAt_125 : decode prog_7_method_12_code 125 = .ok (.istore 9, 2) := by decide +kernel
theorem d_Pl_workOffAt_127 : decode prog_7_method_12_code 127 = .ok (.iload 6, 2) := by decide +kernel
theorem d_Pl_workOffAt_129 : decode prog_7_method_12_code 129 = .ok (.iload 9, 2) := by decide +kernel
theorem d_Pl_workOffAt_131 : decode prog_7_method_12_code 131 = .ok (.iadd, 1) := by decide +kernel
theorem d_Pl_workOffAt_132 : decode prog_7_method_12_code 132 = .ok (.istore 6, 2) := by decide +kernel
theorem d_Pl_workOffAt_134 : decode prog_7_method_12_code 134 = .ok (.aload_n 0, 1) := by decide +kernel
theorem d_Pl_workOffAt_135 : decode prog_7_method_12_code 135 = .ok (.getfield 33, 3) := by decide +kernel
theorem d_Pl_workOffAt_138 : decode prog_7_method_12_code 138 = .ok (.iload 8, 2) := by decide +kernel
theorem d_Pl_workOffAt_140 : decode prog_7_method_12_code 140 = .ok (.dup2, 1) := by decide +kernel
theorem d_Pl_workOffAt_141 : decode prog_7_method_12_code 141 = .ok (.iaload, 1) := by decide +kernel
theorem d_Pl_workOffAt_142 : decode prog_7_method_12_code 142 = .ok (.iload 9, 2) := by decide +kernel
theorem d_Pl_workOffAt_144 : decode prog_7_method_12_code 144 = .ok (.isub, 1) := by decide +kernel
theorem d_Pl_workOffAt_145 : decode prog_7_method_12_code 145 = .ok (.iastore, 1) := by decide +kernel
theorem d_Pl_workOffAt_146 : decode prog_7_method_12_code 146 = .ok (.aload_n 0, 1) := by decide +kernel
theorem d_Pl_workOffAt_147 : decode prog_7_method_12_code 147 = .ok (.getfield 33, 3) := by decide +kernel
theorem d_Pl_workOffAt_150 : decode prog_7_method_12_code 150 = .ok (.iload 8, 2) := by decide +kernel
theorem d_Pl_workOffAt_152 : decode prog_7_method_12_code 152 = .ok (.iaload, 1) := by decide +kernel
theorem d_Pl_workOffAt_153 : decode prog_7_method_12_code 153 = .ok (.ifCond .ne 26, 3) := by decide +kernel
theorem d_Pl_workOffAt_156 : decode prog_7_method_12_code 156 = .ok (.aload_n 2, 1) := by decide +kernel
theorem d_Pl_workOffAt_157 : decode prog_7_method_12_code 157 = .ok (.getfield 149, 3) := by decide +kernel
theorem d_Pl_workOffAt_160 : decode prog_7_method_12_code 160 = .ok (.iload 8, 2) := by decide +kernel
theorem d_Pl_workOffAt_162 : decode prog_7_method_12_code 162 = .ok (.aaload, 1) := by decide +kernel
theorem d_Pl_workOffAt_163 : decode prog_7_method_12_code 163 = .ok (.iload_n 3, 1) := by decide +kernel
theorem d_Pl_workOffAt_164 : decode prog_7_method_12_code 164 = .ok (.i2l, 1) := by decide +kernel
theorem d_Pl_workOffAt_165 : decode prog_7_method_12_code 165 = .ok (.iload 5, 2) := by decide +kernel
theorem d_Pl_workOffAt_167 : decode prog_7_method_12_code 167 = .ok (.i2l, 1) := by decide +kernel
theorem d_Pl_workOffAt_168 : decode prog_7_method_12_code 168 = .ok (.lmul, 1) := by decide +kernel
theorem d_Pl_workOffAt_169 : decode prog_7_method_12_code 169 = .ok (.iload 6, 2) := by decide +kernel
theorem d_Pl_workOffAt_171 : decode prog_7_method_12_code 171 = .ok (.i2l, 1) := by decide +kernel
theorem d_Pl_workOffAt_172 : decode prog_7_method_12_code 172 = .ok (.ladd, 1) := by decide +kernel
theorem d_Pl_workOffAt_173 : decode prog_7_method_12_code 173 = .ok (.iload 5, 2) := by decide +kernel
theorem d_Pl_workOffAt_175 : decode prog_7_method_12_code 175 = .ok (.i2l, 1) := by decide +kernel
theorem d_Pl_workOffAt_176 : decode prog_7_method_12_code 176 = .ok (.invokevirtual 115, 3) := by decide +kernel
theorem d_Pl_workOffAt_179 : decode prog_7_method_12_code 179 = .ok (.iinc 7 1, 3) := by decide +kernel
theorem d_Pl_workOffAt_182 : decode prog_7_method_12_code 182 = .ok (.goto (-146), 3) := by decide +kernel
theorem d_Pl_workOffAt_185 : decode prog_7_method_12_code 185 = .ok (.return_, 1) := by decide +kernel
section SEG
variable {g : GG} {Q : Option VV → EE → DD → Prop} {D : DD}
theorem s_Pl_workOut_0 {a2 : Nat} (k_a2 : zk a2 = (0, 5, 0)) (h : CV g M_Pr_empty [vR a2] D (fun D' => Sg g M_Pl_workOut Q 4 [vR 457, vR 1, vR a2] [] D')) : Sg g M_Pl_workOut Q 0 [vR 457, vR 1, vR a2] [] D := by
  unfold Sg
  refine q_aload_n d_Pl_workOut_0 rfl ?_
  refine p_callV (as := []) (st := []) (a := a2) mc_Pr_empty mv_Pr_empty l_Pl_41 zc_Pr rfl d_Pl_workOut_1 rfl rfl rfl k_a2 (CV.to ?_)
  exact h
theorem s_Pl_workOut_4 {a2 : Nat} (k_a2 : zk a2 = (0, 5, 0)) (h : CV g M_Pl_findGroups [vR 457, vR 1] D (fun D' => Sg g M_Pl_workOut Q 9 [vR 457, vR 1, vR a2] [] D')) : Sg g M_Pl_workOut Q 4 [vR 457, vR 1, vR a2] [] D := by
  unfold Sg
  refine q_aload_n d_Pl_workOut_4 rfl ?_
  refine q_aload_n d_Pl_workOut_5 rfl ?_
  refine p_callV (as := [vR 1]) (st := []) (a := 457) mc_Pl_findGroups mv_Pl_findGroups l_Pl_46 zc_Pl rfl d_Pl_workOut_6 rfl rfl rfl zk_457 (CV.to ?_)
  exact h
theorem s_Pl_workOut_9 {a2 : Nat} (k_a2 : zk a2 = (0, 5, 0)) (h : CV g M_Pl_layOutSteps [vR 457, vR 1, vR a2] D (fun D' => Sg g M_Pl_workOut Q 15 [vR 457, vR 1, vR a2] [] D')) : Sg g M_Pl_workOut Q 9 [vR 457, vR 1, vR a2] [] D := by
  unfold Sg
  refine q_aload_n d_Pl_workOut_9 rfl ?_
  refine q_aload_n d_Pl_workOut_10 rfl ?_
  refine q_aload_n d_Pl_workOut_11 rfl ?_
  refine p_callV (as := [vR 1, vR a2]) (st := []) (a := 457) mc_Pl_layOutSteps mv_Pl_layOutSteps l_Pl_50 zc_Pl rfl d_Pl_workOut_12 rfl rfl rfl zk_457 (CV.to ?_)
  exact h
theorem s_Pl_workOut_15 {a2 : Nat} (k_a2 : zk a2 = (0, 5, 0)) (h : CV g M_Pl_workOff [vR 457, vR 1, vR a2] D (fun D' => Sg g M_Pl_workOut Q 21 [vR 457, vR 1, vR a2] [] D')) : Sg g M_Pl_workOut Q 15 [vR 457, vR 1, vR a2] [] D := by
  unfold Sg
  refine q_aload_n d_Pl_workOut_15 rfl ?_
  refine q_aload_n d_Pl_workOut_16 rfl ?_
  refine q_aload_n d_Pl_workOut_17 rfl ?_
  refine p_callV (as := [vR 1, vR a2]) (st := []) (a := 457) mc_Pl_workOff mv_Pl_workOff l_Pl_54 zc_Pl rfl d_Pl_workOut_18 rfl rfl rfl zk_457 (CV.to ?_)
  exact h
theorem s_Pl_workOut_21 {z0 : VV} {z1 : VV} {z2 : VV}  (h : Q none zE D) : Sg g M_Pl_workOut Q 21 [z0, z1, z2] [] D := by
  unfold Sg
  refine q_mask [true, true, true] (L' := [vU, vU, vU]) rfl ?_
  exact q_vret d_Pl_workOut_21 rfl ⟨Nat.le_refl _, Nat.le_refl _⟩ h
theorem s_Pl_hasGroup_0 {x1 : Int}  (h : ((x1 < 0 → Q (some (vI 0)) zE D) ∧ (¬ x1 < 0 → (((D 457 0) ≤ x1 → Q (some (vI 0)) zE D) ∧ (¬ (D 457 0) ≤ x1 → Q (some (vI 1)) zE D))))) : Sg g M_Pl_hasGroup Q 0 [vR 457, vI x1] [] D := by
  unfold Sg
  refine q_iload_n d_Pl_hasGroup_0 rfl ?_
  refine q_if_lt (tgt := 16) d_Pl_hasGroup_1 (by decide) (fun c1 => ?_) (fun c1 => ?_)
  · have h := h.1 (c1)
    refine q_iconst d_Pl_hasGroup_16 (by decide) ?_
    exact q_iret d_Pl_hasGroup_17 (Or.inr ⟨rfl, by decide⟩) ⟨Nat.le_refl _, Nat.le_refl _⟩ h
  · have h := h.2 (c1)
    refine q_iload_n d_Pl_hasGroup_4 rfl ?_
    refine q_aload_n d_Pl_hasGroup_5 rfl ?_
    refine p_getI (k := 0) zc_Pl l_Pl_57 fi_Pl_groups d_Pl_hasGroup_6 zk_457 ?_
    refine q_icmp_ge (tgt := 16) d_Pl_hasGroup_9 (by decide) (fun c2 => ?_) (fun c2 => ?_)
    · have h := h.1 (c2)
      refine q_iconst d_Pl_hasGroup_16 (by decide) ?_
      exact q_iret d_Pl_hasGroup_17 (Or.inr ⟨rfl, by decide⟩) ⟨Nat.le_refl _, Nat.le_refl _⟩ h
    · have h := h.2 (c2)
      refine q_iconst d_Pl_hasGroup_12 (by decide) ?_
      refine q_goto (tgt := 17) d_Pl_hasGroup_13 (by decide) ?_
      exact q_iret d_Pl_hasGroup_17 (Or.inr ⟨rfl, by decide⟩) ⟨Nat.le_refl _, Nat.le_refl _⟩ h
theorem s_Pl_groupOf_0 {x1 : Int}  (h : ((x1 < 0 → Q (some (vI (-1))) zE D) ∧ (¬ x1 < 0 → ((12 ≤ x1 → Q (some (vI (-1))) zE D) ∧ (¬ 12 ≤ x1 → ((0 ≤ x1 ∧ x1 < 12)) ∧ Q (some (vI (D 461 x1))) zE D))))) : Sg g M_Pl_groupOf Q 0 [vR 457, vI x1] [] D := by
  unfold Sg
  refine q_iload_n d_Pl_groupOf_0 rfl ?_
  refine q_if_lt (tgt := 19) d_Pl_groupOf_1 (by decide) (fun c1 => ?_) (fun c1 => ?_)
  · have h := h.1 (c1)
    refine q_iconst d_Pl_groupOf_19 (by decide) ?_
    exact q_iret d_Pl_groupOf_20 (Or.inl rfl) ⟨Nat.le_refl _, Nat.le_refl _⟩ h
  · have h := h.2 (c1)
    refine q_iload_n d_Pl_groupOf_4 rfl ?_
    refine q_bipush d_Pl_groupOf_5 kb_12 ?_
    refine q_icmp_ge (tgt := 19) d_Pl_groupOf_7 (by decide) (fun c2 => ?_) (fun c2 => ?_)
    · have h := h.1 (c2)
      refine q_iconst d_Pl_groupOf_19 (by decide) ?_
      exact q_iret d_Pl_groupOf_20 (Or.inl rfl) ⟨Nat.le_refl _, Nat.le_refl _⟩ h
    · have h := h.2 (c2)
      obtain ⟨o3, h⟩ := h
      refine q_aload_n d_Pl_groupOf_10 rfl ?_
      refine p_getR (k := 4) (b := 461) zc_Pl l_Pl_24 fr_Pl_groupOfJob d_Pl_groupOf_11 zk_457 rfl ?_
      refine q_iload_n d_Pl_groupOf_14 rfl ?_
      refine p_iald d_Pl_groupOf_15 zk_461 o3 ?_
      refine q_goto (tgt := 20) d_Pl_groupOf_16 (by decide) ?_
      exact q_iret d_Pl_groupOf_20 (Or.inl rfl) ⟨Nat.le_refl _, Nat.le_refl _⟩ h
theorem s_Pl_rateOf_0 {x1 : Int}  (h : CI g M_Pl_groupOf [vR 457, vI x1] D (fun v1 D' => Sg g M_Pl_rateOf Q 5 [vR 457, vI x1, vU] [vI v1] D')) : Sg g M_Pl_rateOf Q 0 [vR 457, vI x1, vU] [] D := by
  unfold Sg
  refine q_aload_n d_Pl_rateOf_0 rfl ?_
  refine q_iload_n d_Pl_rateOf_1 rfl ?_
  refine p_callV (as := [vI x1]) (st := []) (a := 457) mc_Pl_groupOf mv_Pl_groupOf l_Pl_61 zc_Pl rfl d_Pl_rateOf_2 rfl rfl rfl zk_457 (CI.to ?_)
  exact h
theorem s_Pl_rateOf_5 {z1 : VV} {z2 : VV} {y0 : Int}  (h : CI g M_Pl_hasGroup [vR 457, vI y0] D (fun v1 D' => Sg g M_Pl_rateOf Q 11 [vR 457, vU, vI y0] [vI v1] D')) : Sg g M_Pl_rateOf Q 5 [vR 457, z1, z2] [vI y0] D := by
  unfold Sg
  refine q_mask [false, true, true] (L' := [vR 457, vU, vU]) rfl ?_
  refine q_istore_n d_Pl_rateOf_5 (by decide) (L' := [vR 457, vU, vI y0]) rfl ?_
  refine q_aload_n d_Pl_rateOf_6 rfl ?_
  refine q_iload_n d_Pl_rateOf_7 rfl ?_
  refine p_callV (as := [vI y0]) (st := []) (a := 457) mc_Pl_hasGroup mv_Pl_hasGroup l_Pl_65 zc_Pl rfl d_Pl_rateOf_8 rfl rfl rfl zk_457 (CI.to ?_)
  exact h
theorem s_Pl_rateOf_11 {z1 : VV} {x2 : Int} {y0 : Int}  (h : ((y0 = 0 → Q (some vN) zE D) ∧ (¬ y0 = 0 → ((0 ≤ x2 ∧ x2 < 12)) ∧ Q (some (vR (470 + 5 * x2.toNat))) zE D))) : Sg g M_Pl_rateOf Q 11 [vR 457, z1, vI x2] [vI y0] D := by
  unfold Sg
  refine q_mask [false, true, false] (L' := [vR 457, vU, vI x2]) rfl ?_
  refine q_if_eq (tgt := 23) d_Pl_rateOf_11 (by decide) (fun c1 => ?_) (fun c1 => ?_)
  · have h := h.1 (c1)
    refine q_null d_Pl_rateOf_23 ?_
    exact q_aretN d_Pl_rateOf_24 rfl ⟨Nat.le_refl _, Nat.le_refl _⟩ h
  · have h := h.2 (c1)
    obtain ⟨o2, h⟩ := h
    refine q_aload_n d_Pl_rateOf_14 rfl ?_
    refine p_getR (k := 3) (b := 460) zc_Pl l_Pl_20 fr_Pl_groupRate d_Pl_rateOf_15 zk_457 rfl ?_
    refine q_iload_n d_Pl_rateOf_18 rfl ?_
    refine p_aald (b := (470 + 5 * x2.toNat)) d_Pl_rateOf_19 zk_460 (by decide) o2 rfl ?_
    refine q_goto (tgt := 24) d_Pl_rateOf_20 (by decide) ?_
    exact q_aret d_Pl_rateOf_24 rfl ⟨Nat.le_refl _, Nat.le_refl _⟩ h
theorem s_Pl_findGroups_0   (h : (∀ D1, D1 = zw D 457 0 0 → CV g M_Ar_fill2 [vR 461, vI (-1)] D1 (fun D' => Sg g M_Pl_findGroups Q 13 [vR 457, vR 1, vU] [] D'))) : Sg g M_Pl_findGroups Q 0 [vR 457, vR 1, vU] [] D := by
  unfold Sg
  refine q_aload_n d_Pl_findGroups_0 rfl ?_
  refine q_iconst d_Pl_findGroups_1 (by decide) ?_
  refine p_putI (k := 0) zc_Pl l_Pl_57 fp_Pl_groups (Or.inl rfl) d_Pl_findGroups_2 zk_457 (fun D1 e2 => ?_)
  have h := h D1 e2
  refine q_aload_n d_Pl_findGroups_5 rfl ?_
  refine p_getR (k := 4) (b := 461) zc_Pl l_Pl_24 fr_Pl_groupOfJob d_Pl_findGroups_6 zk_457 rfl ?_
  refine q_iconst d_Pl_findGroups_9 (by decide) ?_
  refine p_callS (as := [vR 461, vI (-1)]) (st := []) mc_Ar_fill2 ms_Ar_fill2 l_Pl_69 d_Pl_findGroups_10 rfl rfl rfl (CV.to ?_)
  exact h
theorem s_Pl_findGroups_13 {z2 : VV}  (h : CV g M_Ar_fill2 [vR 462, vI (-1)] D (fun D' => Sg g M_Pl_findGroups Q 21 [vR 457, vR 1, vU] [] D')) : Sg g M_Pl_findGroups Q 13 [vR 457, vR 1, z2] [] D := by
  unfold Sg
  refine q_mask [false, false, true] (L' := [vR 457, vR 1, vU]) rfl ?_
  refine q_aload_n d_Pl_findGroups_13 rfl ?_
  refine p_getR (k := 5) (b := 462) zc_Pl l_Pl_27 fr_Pl_groupAt d_Pl_findGroups_14 zk_457 rfl ?_
  refine q_iconst d_Pl_findGroups_17 (by decide) ?_
  refine p_callS (as := [vR 462, vI (-1)]) (st := []) mc_Ar_fill2 ms_Ar_fill2 l_Pl_69 d_Pl_findGroups_18 rfl rfl rfl (CV.to ?_)
  exact h
theorem s_Pl_findGroups_21 {z2 : VV}  (h : Sg g M_Pl_findGroups Q 23 [vR 457, vR 1, vI 0] [] D) : Sg g M_Pl_findGroups Q 21 [vR 457, vR 1, z2] [] D := by
  unfold Sg
  refine q_mask [false, false, true] (L' := [vR 457, vR 1, vU]) rfl ?_
  refine q_iconst d_Pl_findGroups_21 (by decide) ?_
  refine q_istore_n d_Pl_findGroups_22 (by decide) (L' := [vR 457, vR 1, vI 0]) rfl ?_
  exact h
theorem s_Pl_findGroups_23 {x2 : Int}  (h : ((12 ≤ x2 → Q none zE D) ∧ (¬ 12 ≤ x2 → CV g M_Pl_findDensest [vR 457, vR 1] D (fun D' => Sg g M_Pl_findGroups Q 34 [vR 457, vR 1, vI x2] [] D')))) : Sg g M_Pl_findGroups Q 23 [vR 457, vR 1, vI x2] [] D := by
  unfold Sg
  refine q_iload_n d_Pl_findGroups_23 rfl ?_
  refine q_bipush d_Pl_findGroups_24 kb_12 ?_
  refine q_icmp_ge (tgt := 54) d_Pl_findGroups_26 (by decide) (fun c1 => ?_) (fun c1 => ?_)
  · have h := h.1 (c1)
    exact q_vret d_Pl_findGroups_54 rfl ⟨Nat.le_refl _, Nat.le_refl _⟩ h
  · have h := h.2 (c1)
    refine q_aload_n d_Pl_findGroups_29 rfl ?_
    refine q_aload_n d_Pl_findGroups_30 rfl ?_
    refine p_callV (as := [vR 1]) (st := []) (a := 457) mc_Pl_findDensest mv_Pl_findDensest l_Pl_75 zc_Pl rfl d_Pl_findGroups_31 rfl rfl rfl zk_457 (CV.to ?_)
    exact h
theorem s_Pl_findGroups_34 {x2 : Int}  (h : ((1 ≤ (D 457 12) → CV g M_Pl_takeDensest [vR 457, vR 1] D (fun D' => Sg g M_Pl_findGroups Q 48 [vR 457, vR 1, vI x2] [] D')) ∧ (¬ 1 ≤ (D 457 12) → Q none zE D))) : Sg g M_Pl_findGroups Q 34 [vR 457, vR 1, vI x2] [] D := by
  unfold Sg
  refine q_aload_n d_Pl_findGroups_34 rfl ?_
  refine p_getI (k := 12) zc_Pl l_Pl_78 fi_Pl_bestTime d_Pl_findGroups_35 zk_457 ?_
  refine q_iconst d_Pl_findGroups_38 (by decide) ?_
  refine q_icmp_ge (tgt := 43) d_Pl_findGroups_39 (by decide) (fun c1 => ?_) (fun c1 => ?_)
  · have h := h.1 (c1)
    refine q_aload_n d_Pl_findGroups_43 rfl ?_
    refine q_aload_n d_Pl_findGroups_44 rfl ?_
    refine p_callV (as := [vR 1]) (st := []) (a := 457) mc_Pl_takeDensest mv_Pl_takeDensest l_Pl_81 zc_Pl rfl d_Pl_findGroups_45 rfl rfl rfl zk_457 (CV.to ?_)
    exact h
  · have h := h.2 (c1)
    exact q_vret d_Pl_findGroups_42 rfl ⟨Nat.le_refl _, Nat.le_refl _⟩ h
theorem s_Pl_findGroups_48 {x2 : Int}  (h : (R32 (x2 + 1)) ∧ Sg g M_Pl_findGroups Q 23 [vR 457, vR 1, vI (x2 + 1)] [] D) : Sg g M_Pl_findGroups Q 48 [vR 457, vR 1, vI x2] [] D := by
  unfold Sg
  obtain ⟨o1, h⟩ := h
  refine q_iinc d_Pl_findGroups_48 rfl (by decide) o1 (L' := [vR 457, vR 1, vI (x2 + 1)]) rfl ?_
  refine q_goto (tgt := 23) d_Pl_findGroups_51 (by decide) ?_
  exact h
theorem s_Pl_findDensest_0   (h : (∀ D1, D1 = zw D 457 11 0 → (∀ D3, D3 = zw D1 457 12 0 → Sg g M_Pl_findDensest Q 12 [vR 457, vR 1, vI 0, vU] [] D3))) : Sg g M_Pl_findDensest Q 0 [vR 457, vR 1, vU, vU] [] D := by
  unfold Sg
  refine q_aload_n d_Pl_findDensest_0 rfl ?_
  refine q_iconst d_Pl_findDensest_1 (by decide) ?_
  refine p_putI (k := 11) zc_Pl l_Pl_84 fp_Pl_bestWork (Or.inl rfl) d_Pl_findDensest_2 zk_457 (fun D1 e2 => ?_)
  have h := h D1 e2
  refine q_aload_n d_Pl_findDensest_5 rfl ?_
  refine q_iconst d_Pl_findDensest_6 (by decide) ?_
  refine p_putI (k := 12) zc_Pl l_Pl_78 fp_Pl_bestTime (Or.inl rfl) d_Pl_findDensest_7 zk_457 (fun D3 e4 => ?_)
  have h := h D3 e4
  refine q_iconst d_Pl_findDensest_10 (by decide) ?_
  refine q_istore_n d_Pl_findDensest_11 (by decide) (L' := [vR 457, vR 1, vI 0, vU]) rfl ?_
  exact h
theorem s_Pl_findDensest_12 {x2 : Int} {z3 : VV}  (h : ((200 ≤ x2 → Sg g M_Pl_findDensest Q 57 [vR 457, vR 1, vI 0, vU] [] D) ∧ (¬ 200 ≤ x2 → (R32 (x2 + 1) ∧ (0 ≤ x2 ∧ x2 < 201) ∧ (0 ≤ x2 ∧ x2 < 200)) ∧ ((¬ (D 462 x2) = (-1) → Sg g M_Pl_findDensest Q 47 [vR 457, vR 1, vI x2, vU] [vI 0, vI (D 463 x2), vI (x2 + 1), vR 463] D) ∧ ((D 462 x2) = (-1) → Sg g M_Pl_findDensest Q 47 [vR 457, vR 1, vI x2, vU] [vI 1, vI (D 463 x2), vI (x2 + 1), vR 463] D))))) : Sg g M_Pl_findDensest Q 12 [vR 457, vR 1, vI x2, z3] [] D := by
  unfold Sg
  refine q_mask [false, false, false, true] (L' := [vR 457, vR 1, vI x2, vU]) rfl ?_
  refine q_iload_n d_Pl_findDensest_12 rfl ?_
  refine q_sipush d_Pl_findDensest_13 ks_200 ?_
  refine q_icmp_ge (tgt := 55) d_Pl_findDensest_16 (by decide) (fun c1 => ?_) (fun c1 => ?_)
  · have h := h.1 (c1)
    refine q_iconst d_Pl_findDensest_55 (by decide) ?_
    refine q_istore_n d_Pl_findDensest_56 (by decide) (L' := [vR 457, vR 1, vI 0, vU]) rfl ?_
    exact h
  · have h := h.2 (c1)
    obtain ⟨⟨o2, o3, o4⟩, h⟩ := h
    refine q_aload_n d_Pl_findDensest_19 rfl ?_
    refine p_getR (k := 6) (b := 463) zc_Pl l_Pl_30 fr_Pl_freeBefore d_Pl_findDensest_20 zk_457 rfl ?_
    refine q_iload_n d_Pl_findDensest_23 rfl ?_
    refine q_iconst d_Pl_findDensest_24 (by decide) ?_
    refine q_iadd d_Pl_findDensest_25 o2 ?_
    refine q_aload_n d_Pl_findDensest_26 rfl ?_
    refine p_getR (k := 6) (b := 463) zc_Pl l_Pl_30 fr_Pl_freeBefore d_Pl_findDensest_27 zk_457 rfl ?_
    refine q_iload_n d_Pl_findDensest_30 rfl ?_
    refine p_iald d_Pl_findDensest_31 zk_463 o3 ?_
    refine q_aload_n d_Pl_findDensest_32 rfl ?_
    refine p_getR (k := 5) (b := 462) zc_Pl l_Pl_27 fr_Pl_groupAt d_Pl_findDensest_33 zk_457 rfl ?_
    refine q_iload_n d_Pl_findDensest_36 rfl ?_
    refine p_iald d_Pl_findDensest_37 zk_462 o4 ?_
    refine q_iconst d_Pl_findDensest_38 (by decide) ?_
    refine q_icmp_ne (tgt := 46) d_Pl_findDensest_39 (by decide) (fun c5 => ?_) (fun c5 => ?_)
    · have h := h.1 (c5)
      refine q_iconst d_Pl_findDensest_46 (by decide) ?_
      exact h
    · have h := h.2 (c5)
      refine q_iconst d_Pl_findDensest_42 (by decide) ?_
      refine q_goto (tgt := 47) d_Pl_findDensest_43 (by decide) ?_
      exact h
theorem s_Pl_findDensest_57 {x2 : Int} {z3 : VV}  (h : (((D 1 0) ≤ x2 → Q none zE D) ∧ (¬ (D 1 0) ≤ x2 → Sg g M_Pl_findDensest Q 67 [vR 457, vR 1, vI x2, vI 0] [] D))) : Sg g M_Pl_findDensest Q 57 [vR 457, vR 1, vI x2, z3] [] D := by
  unfold Sg
  refine q_mask [false, false, false, true] (L' := [vR 457, vR 1, vI x2, vU]) rfl ?_
  refine q_iload_n d_Pl_findDensest_57 rfl ?_
  refine q_aload_n d_Pl_findDensest_58 rfl ?_
  refine p_getIN (k := 0) zc_Jo l_Pl_87 fi_Jo_count d_Pl_findDensest_59 zk_1 ?_
  refine q_icmp_ge (tgt := 124) d_Pl_findDensest_62 (by decide) (fun c1 => ?_) (fun c1 => ?_)
  · have h := h.1 (c1)
    exact q_vret d_Pl_findDensest_124 rfl ⟨Nat.le_refl _, Nat.le_refl _⟩ h
  · have h := h.2 (c1)
    refine q_iconst d_Pl_findDensest_65 (by decide) ?_
    refine q_istore_n d_Pl_findDensest_66 (by decide) (L' := [vR 457, vR 1, vI x2, vI 0]) rfl ?_
    exact h
theorem s_Pl_findDensest_47 {x2 : Int} {z3 : VV} {y0 : Int} {y1 : Int} {y2 : Int}  (h : (R32 (y1 + y0) ∧ (0 ≤ y2 ∧ y2 < 201)) ∧ (∀ D3, D3 = zw D 463 y2 (y1 + y0) → (R32 (x2 + 1)) ∧ Sg g M_Pl_findDensest Q 12 [vR 457, vR 1, vI (x2 + 1), vU] [] D3)) : Sg g M_Pl_findDensest Q 47 [vR 457, vR 1, vI x2, z3] [vI y0, vI y1, vI y2, vR 463] D := by
  unfold Sg
  refine q_mask [false, false, false, true] (L' := [vR 457, vR 1, vI x2, vU]) rfl ?_
  obtain ⟨⟨o1, o2⟩, h⟩ := h
  refine q_iadd d_Pl_findDensest_47 o1 ?_
  refine p_iast d_Pl_findDensest_48 zk_463 o2 (fun D3 e4 => ?_)
  have h := h D3 e4
  obtain ⟨o5, h⟩ := h
  refine q_iinc d_Pl_findDensest_49 rfl (by decide) o5 (L' := [vR 457, vR 1, vI (x2 + 1), vU]) rfl ?_
  refine q_goto (tgt := 12) d_Pl_findDensest_52 (by decide) ?_
  exact h
theorem s_Pl_findDensest_67 {x2 : Int} {x3 : Int}  (h : (((D 1 0) ≤ x3 → (R32 (x2 + 1)) ∧ Sg g M_Pl_findDensest Q 57 [vR 457, vR 1, vI (x2 + 1), vI x3] [] D) ∧ (¬ (D 1 0) ≤ x3 → ((0 ≤ x2 ∧ x2 < 12)) ∧ ((¬ (D 461 x2) = (-1) → Sg g M_Pl_findDensest Q 112 [vR 457, vR 1, vI x2, vI x3] [] D) ∧ ((D 461 x2) = (-1) → ((0 ≤ x3 ∧ x3 < 12)) ∧ ((¬ (D 461 x3) = (-1) → Sg g M_Pl_findDensest Q 112 [vR 457, vR 1, vI x2, vI x3] [] D) ∧ ((D 461 x3) = (-1) → ((0 ≤ x2 ∧ x2 < 12) ∧ (0 ≤ x3 ∧ x3 < 12)) ∧ CV g M_Pl_tryBetween [vR 457, vR 1, vI (D 2 x2), vI (D 3 x3)] D (fun D' => Sg g M_Pl_findDensest Q 112 [vR 457, vR 1, vI x2, vI x3] [] D')))))))) : Sg g M_Pl_findDensest Q 67 [vR 457, vR 1, vI x2, vI x3] [] D := by
  unfold Sg
  refine q_iload_n d_Pl_findDensest_67 rfl ?_
  refine q_aload_n d_Pl_findDensest_68 rfl ?_
  refine p_getIN (k := 0) zc_Jo l_Pl_87 fi_Jo_count d_Pl_findDensest_69 zk_1 ?_
  refine q_icmp_ge (tgt := 118) d_Pl_findDensest_72 (by decide) (fun c1 => ?_) (fun c1 => ?_)
  · have h := h.1 (c1)
    obtain ⟨o2, h⟩ := h
    refine q_iinc d_Pl_findDensest_118 rfl (by decide) o2 (L' := [vR 457, vR 1, vI (x2 + 1), vI x3]) rfl ?_
    refine q_goto (tgt := 57) d_Pl_findDensest_121 (by decide) ?_
    exact h
  · have h := h.2 (c1)
    obtain ⟨o3, h⟩ := h
    refine q_aload_n d_Pl_findDensest_75 rfl ?_
    refine p_getR (k := 4) (b := 461) zc_Pl l_Pl_24 fr_Pl_groupOfJob d_Pl_findDensest_76 zk_457 rfl ?_
    refine q_iload_n d_Pl_findDensest_79 rfl ?_
    refine p_iald d_Pl_findDensest_80 zk_461 o3 ?_
    refine q_iconst d_Pl_findDensest_81 (by decide) ?_
    refine q_icmp_ne (tgt := 112) d_Pl_findDensest_82 (by decide) (fun c4 => ?_) (fun c4 => ?_)
    · have h := h.1 (c4)
      exact h
    · have h := h.2 (c4)
      obtain ⟨o5, h⟩ := h
      refine q_aload_n d_Pl_findDensest_85 rfl ?_
      refine p_getR (k := 4) (b := 461) zc_Pl l_Pl_24 fr_Pl_groupOfJob d_Pl_findDensest_86 zk_457 rfl ?_
      refine q_iload_n d_Pl_findDensest_89 rfl ?_
      refine p_iald d_Pl_findDensest_90 zk_461 o5 ?_
      refine q_iconst d_Pl_findDensest_91 (by decide) ?_
      refine q_icmp_ne (tgt := 112) d_Pl_findDensest_92 (by decide) (fun c6 => ?_) (fun c6 => ?_)
      · have h := h.1 (c6)
        exact h
      · have h := h.2 (c6)
        obtain ⟨⟨o7, o8⟩, h⟩ := h
        refine q_aload_n d_Pl_findDensest_95 rfl ?_
        refine q_aload_n d_Pl_findDensest_96 rfl ?_
        refine q_aload_n d_Pl_findDensest_97 rfl ?_
        refine p_getRN (k := 1) (b := 2) zc_Jo l_Pl_92 fr_Jo_release d_Pl_findDensest_98 zk_1 rfl ?_
        refine q_iload_n d_Pl_findDensest_101 rfl ?_
        refine p_iald d_Pl_findDensest_102 zk_2 o7 ?_
        refine q_aload_n d_Pl_findDensest_103 rfl ?_
        refine p_getRN (k := 2) (b := 3) zc_Jo l_Pl_95 fr_Jo_deadline d_Pl_findDensest_104 zk_1 rfl ?_
        refine q_iload_n d_Pl_findDensest_107 rfl ?_
        refine p_iald d_Pl_findDensest_108 zk_3 o8 ?_
        refine p_callV (as := [vR 1, vI (D 2 x2), vI (D 3 x3)]) (st := []) (a := 457) mc_Pl_tryBetween mv_Pl_tryBetween l_Pl_98 zc_Pl rfl d_Pl_findDensest_109 rfl rfl rfl zk_457 (CV.to ?_)
        exact h
theorem s_Pl_findDensest_112 {x2 : Int} {x3 : Int}  (h : (R32 (x3 + 1)) ∧ Sg g M_Pl_findDensest Q 67 [vR 457, vR 1, vI x2, vI (x3 + 1)] [] D) : Sg g M_Pl_findDensest Q 112 [vR 457, vR 1, vI x2, vI x3] [] D := by
  unfold Sg
  obtain ⟨o1, h⟩ := h
  refine q_iinc d_Pl_findDensest_112 rfl (by decide) o1 (L' := [vR 457, vR 1, vI x2, vI (x3 + 1)]) rfl ?_
  refine q_goto (tgt := 67) d_Pl_findDensest_115 (by decide) ?_
  exact h
theorem s_Pl_tryBetween_0 {x2 : Int} {x3 : Int}  (h : ((x2 < 0 → Q none zE D) ∧ (¬ x2 < 0 → ((200 < x3 → Q none zE D) ∧ (¬ 200 < x3 → ((x2 < x3 → ((0 ≤ x3 ∧ x3 < 201) ∧ (0 ≤ x2 ∧ x2 < 201) ∧ R32 ((D 463 x3) - (D 463 x2))) ∧ ((1 ≤ ((D 463 x3) - (D 463 x2)) → Sg g M_Pl_tryBetween Q 45 [vR 457, vR 1, vI x2, vI x3, vI ((D 463 x3) - (D 463 x2)), vI 0, vI 0] [] D) ∧ (¬ 1 ≤ ((D 463 x3) - (D 463 x2)) → Q none zE D))) ∧ (¬ x2 < x3 → Q none zE D))))))) : Sg g M_Pl_tryBetween Q 0 [vR 457, vR 1, vI x2, vI x3, vU, vU, vU] [] D := by
  unfold Sg
  refine q_iload_n d_Pl_tryBetween_0 rfl ?_
  refine q_if_lt (tgt := 16) d_Pl_tryBetween_1 (by decide) (fun c1 => ?_) (fun c1 => ?_)
  · have h := h.1 (c1)
    exact q_vret d_Pl_tryBetween_16 rfl ⟨Nat.le_refl _, Nat.le_refl _⟩ h
  · have h := h.2 (c1)
    refine q_iload_n d_Pl_tryBetween_4 rfl ?_
    refine q_sipush d_Pl_tryBetween_5 ks_200 ?_
    refine q_icmp_gt (tgt := 16) d_Pl_tryBetween_8 (by decide) (fun c2 => ?_) (fun c2 => ?_)
    · have h := h.1 (c2)
      exact q_vret d_Pl_tryBetween_16 rfl ⟨Nat.le_refl _, Nat.le_refl _⟩ h
    · have h := h.2 (c2)
      refine q_iload_n d_Pl_tryBetween_11 rfl ?_
      refine q_iload_n d_Pl_tryBetween_12 rfl ?_
      refine q_icmp_lt (tgt := 17) d_Pl_tryBetween_13 (by decide) (fun c3 => ?_) (fun c3 => ?_)
      · have h := h.1 (c3)
        obtain ⟨⟨o4, o5, o6⟩, h⟩ := h
        refine q_aload_n d_Pl_tryBetween_17 rfl ?_
        refine p_getR (k := 6) (b := 463) zc_Pl l_Pl_30 fr_Pl_freeBefore d_Pl_tryBetween_18 zk_457 rfl ?_
        refine q_iload_n d_Pl_tryBetween_21 rfl ?_
        refine p_iald d_Pl_tryBetween_22 zk_463 o4 ?_
        refine q_aload_n d_Pl_tryBetween_23 rfl ?_
        refine p_getR (k := 6) (b := 463) zc_Pl l_Pl_30 fr_Pl_freeBefore d_Pl_tryBetween_24 zk_457 rfl ?_
        refine q_iload_n d_Pl_tryBetween_27 rfl ?_
        refine p_iald d_Pl_tryBetween_28 zk_463 o5 ?_
        refine q_isub d_Pl_tryBetween_29 o6 ?_
        refine q_istore d_Pl_tryBetween_30 (by decide) (L' := [vR 457, vR 1, vI x2, vI x3, vI ((D 463 x3) - (D 463 x2)), vU, vU]) rfl ?_
        refine q_iload d_Pl_tryBetween_32 rfl ?_
        refine q_iconst d_Pl_tryBetween_34 (by decide) ?_
        refine q_icmp_ge (tgt := 39) d_Pl_tryBetween_35 (by decide) (fun c7 => ?_) (fun c7 => ?_)
        · have h := h.1 (c7)
          refine q_iconst d_Pl_tryBetween_39 (by decide) ?_
          refine q_istore d_Pl_tryBetween_40 (by decide) (L' := [vR 457, vR 1, vI x2, vI x3, vI ((D 463 x3) - (D 463 x2)), vI 0, vU]) rfl ?_
          refine q_iconst d_Pl_tryBetween_42 (by decide) ?_
          refine q_istore d_Pl_tryBetween_43 (by decide) (L' := [vR 457, vR 1, vI x2, vI x3, vI ((D 463 x3) - (D 463 x2)), vI 0, vI 0]) rfl ?_
          exact h
        · have h := h.2 (c7)
          exact q_vret d_Pl_tryBetween_38 rfl ⟨Nat.le_refl _, Nat.le_refl _⟩ h
      · have h := h.2 (c3)
        exact q_vret d_Pl_tryBetween_16 rfl ⟨Nat.le_refl _, Nat.le_refl _⟩ h
theorem s_Pl_tryBetween_45 {x2 : Int} {x3 : Int} {x4 : Int} {x5 : Int} {x6 : Int}  (h : (((D 1 0) ≤ x6 → ((x5 ≤ 0 → Q none zE D) ∧ (¬ x5 ≤ 0 → (((D 457 12) = 0 → Sg g M_Pl_tryBetween Q 123 [vR 457, vR 1, vI x2, vI x3, vI x4, vI x5, vI x6] [] D) ∧ (¬ (D 457 12) = 0 → (R32 (x5 * (D 457 12)) ∧ R32 ((D 457 11) * x4)) ∧ (((x5 * (D 457 12)) ≤ ((D 457 11) * x4) → Q none zE D) ∧ (¬ (x5 * (D 457 12)) ≤ ((D 457 11) * x4) → Sg g M_Pl_tryBetween Q 123 [vR 457, vR 1, vI x2, vI x3, vI x4, vI x5, vI x6] [] D))))))) ∧ (¬ (D 1 0) ≤ x6 → ((0 ≤ x6 ∧ x6 < 12)) ∧ ((¬ (D 461 x6) = (-1) → Sg g M_Pl_tryBetween Q 88 [vR 457, vR 1, vI x2, vI x3, vI x4, vI x5, vI x6] [] D) ∧ ((D 461 x6) = (-1) → CI g M_Jo_isWithin [vR 1, vI x6, vI x2, vI x3] D (fun v9 D' => Sg g M_Pl_tryBetween Q 73 [vR 457, vR 1, vI x2, vI x3, vI x4, vI x5, vI x6] [vI v9] D')))))) : Sg g M_Pl_tryBetween Q 45 [vR 457, vR 1, vI x2, vI x3, vI x4, vI x5, vI x6] [] D := by
  unfold Sg
  refine q_iload d_Pl_tryBetween_45 rfl ?_
  refine q_aload_n d_Pl_tryBetween_47 rfl ?_
  refine p_getIN (k := 0) zc_Jo l_Pl_87 fi_Jo_count d_Pl_tryBetween_48 zk_1 ?_
  refine q_icmp_ge (tgt := 94) d_Pl_tryBetween_51 (by decide) (fun c1 => ?_) (fun c1 => ?_)
  · have h := h.1 (c1)
    refine q_iload d_Pl_tryBetween_94 rfl ?_
    refine q_if_le (tgt := 145) d_Pl_tryBetween_96 (by decide) (fun c2 => ?_) (fun c2 => ?_)
    · have h := h.1 (c2)
      exact q_vret d_Pl_tryBetween_145 rfl ⟨Nat.le_refl _, Nat.le_refl _⟩ h
    · have h := h.2 (c2)
      refine q_aload_n d_Pl_tryBetween_99 rfl ?_
      refine p_getI (k := 12) zc_Pl l_Pl_78 fi_Pl_bestTime d_Pl_tryBetween_100 zk_457 ?_
      refine q_if_eq (tgt := 123) d_Pl_tryBetween_103 (by decide) (fun c3 => ?_) (fun c3 => ?_)
      · have h := h.1 (c3)
        exact h
      · have h := h.2 (c3)
        obtain ⟨⟨o4, o5⟩, h⟩ := h
        refine q_iload d_Pl_tryBetween_106 rfl ?_
        refine q_aload_n d_Pl_tryBetween_108 rfl ?_
        refine p_getI (k := 12) zc_Pl l_Pl_78 fi_Pl_bestTime d_Pl_tryBetween_109 zk_457 ?_
        refine q_imul d_Pl_tryBetween_112 o4 ?_
        refine q_aload_n d_Pl_tryBetween_113 rfl ?_
        refine p_getI (k := 11) zc_Pl l_Pl_84 fi_Pl_bestWork d_Pl_tryBetween_114 zk_457 ?_
        refine q_iload d_Pl_tryBetween_117 rfl ?_
        refine q_imul d_Pl_tryBetween_119 o5 ?_
        refine q_icmp_le (tgt := 145) d_Pl_tryBetween_120 (by decide) (fun c6 => ?_) (fun c6 => ?_)
        · have h := h.1 (c6)
          exact q_vret d_Pl_tryBetween_145 rfl ⟨Nat.le_refl _, Nat.le_refl _⟩ h
        · have h := h.2 (c6)
          exact h
  · have h := h.2 (c1)
    obtain ⟨o7, h⟩ := h
    refine q_aload_n d_Pl_tryBetween_54 rfl ?_
    refine p_getR (k := 4) (b := 461) zc_Pl l_Pl_24 fr_Pl_groupOfJob d_Pl_tryBetween_55 zk_457 rfl ?_
    refine q_iload d_Pl_tryBetween_58 rfl ?_
    refine p_iald d_Pl_tryBetween_60 zk_461 o7 ?_
    refine q_iconst d_Pl_tryBetween_61 (by decide) ?_
    refine q_icmp_ne (tgt := 88) d_Pl_tryBetween_62 (by decide) (fun c8 => ?_) (fun c8 => ?_)
    · have h := h.1 (c8)
      exact h
    · have h := h.2 (c8)
      refine q_aload_n d_Pl_tryBetween_65 rfl ?_
      refine q_iload d_Pl_tryBetween_66 rfl ?_
      refine q_iload_n d_Pl_tryBetween_68 rfl ?_
      refine q_iload_n d_Pl_tryBetween_69 rfl ?_
      refine p_callV (as := [vI x6, vI x2, vI x3]) (st := []) (a := 1) mc_Jo_isWithin mv_Jo_isWithin l_Pl_102 zc_Jo rfl d_Pl_tryBetween_70 rfl rfl rfl zk_1 (CI.to ?_)
      exact h
theorem s_Pl_tryBetween_123 {z1 : VV} {x2 : Int} {x3 : Int} {x4 : Int} {x5 : Int} {z6 : VV}  (h : (∀ D1, D1 = zw D 457 9 x2 → (∀ D3, D3 = zw D1 457 10 x3 → (∀ D5, D5 = zw D3 457 11 x5 → (∀ D7, D7 = zw D5 457 12 x4 → Q none zE D7))))) : Sg g M_Pl_tryBetween Q 123 [vR 457, z1, vI x2, vI x3, vI x4, vI x5, z6] [] D := by
  unfold Sg
  refine q_mask [false, true, false, false, false, false, true] (L' := [vR 457, vU, vI x2, vI x3, vI x4, vI x5, vU]) rfl ?_
  refine q_aload_n d_Pl_tryBetween_123 rfl ?_
  refine q_iload_n d_Pl_tryBetween_124 rfl ?_
  refine p_putI (k := 9) zc_Pl l_Pl_109 fp_Pl_bestFrom (Or.inl rfl) d_Pl_tryBetween_125 zk_457 (fun D1 e2 => ?_)
  have h := h D1 e2
  refine q_aload_n d_Pl_tryBetween_128 rfl ?_
  refine q_iload_n d_Pl_tryBetween_129 rfl ?_
  refine p_putI (k := 10) zc_Pl l_Pl_112 fp_Pl_bestTo (Or.inl rfl) d_Pl_tryBetween_130 zk_457 (fun D3 e4 => ?_)
  have h := h D3 e4
  refine q_aload_n d_Pl_tryBetween_133 rfl ?_
  refine q_iload d_Pl_tryBetween_134 rfl ?_
  refine p_putI (k := 11) zc_Pl l_Pl_84 fp_Pl_bestWork (Or.inl rfl) d_Pl_tryBetween_136 zk_457 (fun D5 e6 => ?_)
  have h := h D5 e6
  refine q_aload_n d_Pl_tryBetween_139 rfl ?_
  refine q_iload d_Pl_tryBetween_140 rfl ?_
  refine p_putI (k := 12) zc_Pl l_Pl_78 fp_Pl_bestTime (Or.inl rfl) d_Pl_tryBetween_142 zk_457 (fun D7 e8 => ?_)
  have h := h D7 e8
  exact q_vret d_Pl_tryBetween_145 rfl ⟨Nat.le_refl _, Nat.le_refl _⟩ h
theorem s_Pl_tryBetween_88 {x2 : Int} {x3 : Int} {x4 : Int} {x5 : Int} {x6 : Int}  (h : (R32 (x6 + 1)) ∧ Sg g M_Pl_tryBetween Q 45 [vR 457, vR 1, vI x2, vI x3, vI x4, vI x5, vI (x6 + 1)] [] D) : Sg g M_Pl_tryBetween Q 88 [vR 457, vR 1, vI x2, vI x3, vI x4, vI x5, vI x6] [] D := by
  unfold Sg
  obtain ⟨o1, h⟩ := h
  refine q_iinc d_Pl_tryBetween_88 rfl (by decide) o1 (L' := [vR 457, vR 1, vI x2, vI x3, vI x4, vI x5, vI (x6 + 1)]) rfl ?_
  refine q_goto (tgt := 45) d_Pl_tryBetween_91 (by decide) ?_
  exact h
theorem s_Pl_tryBetween_73 {x2 : Int} {x3 : Int} {x4 : Int} {x5 : Int} {x6 : Int} {y0 : Int}  (h : ((y0 = 0 → Sg g M_Pl_tryBetween Q 88 [vR 457, vR 1, vI x2, vI x3, vI x4, vI x5, vI x6] [] D) ∧ (¬ y0 = 0 → ((0 ≤ x6 ∧ x6 < 12) ∧ R32 (x5 + (D 4 x6))) ∧ Sg g M_Pl_tryBetween Q 88 [vR 457, vR 1, vI x2, vI x3, vI x4, vI (x5 + (D 4 x6)), vI x6] [] D))) : Sg g M_Pl_tryBetween Q 73 [vR 457, vR 1, vI x2, vI x3, vI x4, vI x5, vI x6] [vI y0] D := by
  unfold Sg
  refine q_if_eq (tgt := 88) d_Pl_tryBetween_73 (by decide) (fun c1 => ?_) (fun c1 => ?_)
  · have h := h.1 (c1)
    exact h
  · have h := h.2 (c1)
    obtain ⟨⟨o2, o3⟩, h⟩ := h
    refine q_iload d_Pl_tryBetween_76 rfl ?_
    refine q_aload_n d_Pl_tryBetween_78 rfl ?_
    refine p_getRN (k := 3) (b := 4) zc_Jo l_Pl_106 fr_Jo_work d_Pl_tryBetween_79 zk_1 rfl ?_
    refine q_iload d_Pl_tryBetween_82 rfl ?_
    refine p_iald d_Pl_tryBetween_84 zk_4 o2 ?_
    refine q_iadd d_Pl_tryBetween_85 o3 ?_
    refine q_istore d_Pl_tryBetween_86 (by decide) (L' := [vR 457, vR 1, vI x2, vI x3, vI x4, vI (x5 + (D 4 x6)), vI x6]) rfl ?_
    exact h
theorem s_Pl_takeDensest_0   (h : ((12 ≤ (D 457 0) → Q none zE D) ∧ (¬ 12 ≤ (D 457 0) → (((D 457 9) < 0 → Q none zE D) ∧ (¬ (D 457 9) < 0 → (((D 457 10) ≤ 200 → ((0 ≤ D 457 0 ∧ D 457 0 < 12)) ∧ (∀ D5, D5 = zw D 458 (D 457 0) (D 457 11) → ((0 ≤ D5 457 0 ∧ D5 457 0 < 12)) ∧ (∀ D8, D8 = zw D5 459 (D5 457 0) (D5 457 12) → ((0 ≤ D8 457 0 ∧ D8 457 0 < 12)) ∧ CV g M_Fr_setSmall [vR (470 + 5 * (D8 457 0).toNat), vL (D8 457 11), vL (D8 457 12)] D8 (fun D' => Sg g M_Pl_takeDensest Q 75 [vR 457, vR 1, vU] [] D')))) ∧ (¬ (D 457 10) ≤ 200 → Q none zE D))))))) : Sg g M_Pl_takeDensest Q 0 [vR 457, vR 1, vU] [] D := by
  unfold Sg
  refine q_aload_n d_Pl_takeDensest_0 rfl ?_
  refine p_getI (k := 0) zc_Pl l_Pl_57 fi_Pl_groups d_Pl_takeDensest_1 zk_457 ?_
  refine q_bipush d_Pl_takeDensest_4 kb_12 ?_
  refine q_icmp_ge (tgt := 26) d_Pl_takeDensest_6 (by decide) (fun c1 => ?_) (fun c1 => ?_)
  · have h := h.1 (c1)
    exact q_vret d_Pl_takeDensest_26 rfl ⟨Nat.le_refl _, Nat.le_refl _⟩ h
  · have h := h.2 (c1)
    refine q_aload_n d_Pl_takeDensest_9 rfl ?_
    refine p_getI (k := 9) zc_Pl l_Pl_109 fi_Pl_bestFrom d_Pl_takeDensest_10 zk_457 ?_
    refine q_if_lt (tgt := 26) d_Pl_takeDensest_13 (by decide) (fun c2 => ?_) (fun c2 => ?_)
    · have h := h.1 (c2)
      exact q_vret d_Pl_takeDensest_26 rfl ⟨Nat.le_refl _, Nat.le_refl _⟩ h
    · have h := h.2 (c2)
      refine q_aload_n d_Pl_takeDensest_16 rfl ?_
      refine p_getI (k := 10) zc_Pl l_Pl_112 fi_Pl_bestTo d_Pl_takeDensest_17 zk_457 ?_
      refine q_sipush d_Pl_takeDensest_20 ks_200 ?_
      refine q_icmp_le (tgt := 27) d_Pl_takeDensest_23 (by decide) (fun c3 => ?_) (fun c3 => ?_)
      · have h := h.1 (c3)
        obtain ⟨o4, h⟩ := h
        refine q_aload_n d_Pl_takeDensest_27 rfl ?_
        refine p_getR (k := 1) (b := 458) zc_Pl l_Pl_9 fr_Pl_groupWork d_Pl_takeDensest_28 zk_457 rfl ?_
        refine q_aload_n d_Pl_takeDensest_31 rfl ?_
        refine p_getI (k := 0) zc_Pl l_Pl_57 fi_Pl_groups d_Pl_takeDensest_32 zk_457 ?_
        refine q_aload_n d_Pl_takeDensest_35 rfl ?_
        refine p_getI (k := 11) zc_Pl l_Pl_84 fi_Pl_bestWork d_Pl_takeDensest_36 zk_457 ?_
        refine p_iast d_Pl_takeDensest_39 zk_458 o4 (fun D5 e6 => ?_)
        have h := h D5 e6
        obtain ⟨o7, h⟩ := h
        refine q_aload_n d_Pl_takeDensest_40 rfl ?_
        refine p_getR (k := 2) (b := 459) zc_Pl l_Pl_15 fr_Pl_groupTime d_Pl_takeDensest_41 zk_457 rfl ?_
        refine q_aload_n d_Pl_takeDensest_44 rfl ?_
        refine p_getI (k := 0) zc_Pl l_Pl_57 fi_Pl_groups d_Pl_takeDensest_45 zk_457 ?_
        refine q_aload_n d_Pl_takeDensest_48 rfl ?_
        refine p_getI (k := 12) zc_Pl l_Pl_78 fi_Pl_bestTime d_Pl_takeDensest_49 zk_457 ?_
        refine p_iast d_Pl_takeDensest_52 zk_459 o7 (fun D8 e9 => ?_)
        have h := h D8 e9
        obtain ⟨o10, h⟩ := h
        refine q_aload_n d_Pl_takeDensest_53 rfl ?_
        refine p_getR (k := 3) (b := 460) zc_Pl l_Pl_20 fr_Pl_groupRate d_Pl_takeDensest_54 zk_457 rfl ?_
        refine q_aload_n d_Pl_takeDensest_57 rfl ?_
        refine p_getI (k := 0) zc_Pl l_Pl_57 fi_Pl_groups d_Pl_takeDensest_58 zk_457 ?_
        refine p_aald (b := (470 + 5 * (D8 457 0).toNat)) d_Pl_takeDensest_61 zk_460 (by decide) o10 rfl ?_
        refine q_aload_n d_Pl_takeDensest_62 rfl ?_
        refine p_getI (k := 11) zc_Pl l_Pl_84 fi_Pl_bestWork d_Pl_takeDensest_63 zk_457 ?_
        refine q_i2l d_Pl_takeDensest_66 ?_
        refine q_aload_n d_Pl_takeDensest_67 rfl ?_
        refine p_getI (k := 12) zc_Pl l_Pl_78 fi_Pl_bestTime d_Pl_takeDensest_68 zk_457 ?_
        refine q_i2l d_Pl_takeDensest_71 ?_
        refine p_callV (as := [vL (D8 457 11), vL (D8 457 12)]) (st := []) (a := (470 + 5 * (D8 457 0).toNat)) mc_Fr_setSmall mv_Fr_setSmall l_Pl_115 zc_Fr rfl d_Pl_takeDensest_72 rfl rfl rfl (ze_3 (i := (D8 457 0).toNat) zk_460 (by omega)) (CV.to ?_)
        exact h
      · have h := h.2 (c3)
        exact q_vret d_Pl_takeDensest_26 rfl ⟨Nat.le_refl _, Nat.le_refl _⟩ h
theorem s_Pl_takeDensest_75 {z2 : VV}  (h : Sg g M_Pl_takeDensest Q 77 [vR 457, vR 1, vI 0] [] D) : Sg g M_Pl_takeDensest Q 75 [vR 457, vR 1, z2] [] D := by
  unfold Sg
  refine q_mask [false, false, true] (L' := [vR 457, vR 1, vU]) rfl ?_
  refine q_iconst d_Pl_takeDensest_75 (by decide) ?_
  refine q_istore_n d_Pl_takeDensest_76 (by decide) (L' := [vR 457, vR 1, vI 0]) rfl ?_
  exact h
theorem s_Pl_takeDensest_77 {x2 : Int}  (h : (((D 1 0) ≤ x2 → Sg g M_Pl_takeDensest Q 149 [vR 457, vR 1, vI (D 457 9)] [] D) ∧ (¬ (D 1 0) ≤ x2 → ((0 ≤ x2 ∧ x2 < 12)) ∧ ((¬ (D 461 x2) = (-1) → Sg g M_Pl_takeDensest Q 138 [vR 457, vR 1, vI x2] [] D) ∧ ((D 461 x2) = (-1) → CI g M_Jo_isWithin [vR 1, vI x2, vI (D 457 9), vI (D 457 10)] D (fun v4 D' => Sg g M_Pl_takeDensest Q 108 [vR 457, vR 1, vI x2] [vI v4] D')))))) : Sg g M_Pl_takeDensest Q 77 [vR 457, vR 1, vI x2] [] D := by
  unfold Sg
  refine q_iload_n d_Pl_takeDensest_77 rfl ?_
  refine q_aload_n d_Pl_takeDensest_78 rfl ?_
  refine p_getIN (k := 0) zc_Jo l_Pl_87 fi_Jo_count d_Pl_takeDensest_79 zk_1 ?_
  refine q_icmp_ge (tgt := 144) d_Pl_takeDensest_82 (by decide) (fun c1 => ?_) (fun c1 => ?_)
  · have h := h.1 (c1)
    refine q_aload_n d_Pl_takeDensest_144 rfl ?_
    refine p_getI (k := 9) zc_Pl l_Pl_109 fi_Pl_bestFrom d_Pl_takeDensest_145 zk_457 ?_
    refine q_istore_n d_Pl_takeDensest_148 (by decide) (L' := [vR 457, vR 1, vI (D 457 9)]) rfl ?_
    exact h
  · have h := h.2 (c1)
    obtain ⟨o2, h⟩ := h
    refine q_aload_n d_Pl_takeDensest_85 rfl ?_
    refine p_getR (k := 4) (b := 461) zc_Pl l_Pl_24 fr_Pl_groupOfJob d_Pl_takeDensest_86 zk_457 rfl ?_
    refine q_iload_n d_Pl_takeDensest_89 rfl ?_
    refine p_iald d_Pl_takeDensest_90 zk_461 o2 ?_
    refine q_iconst d_Pl_takeDensest_91 (by decide) ?_
    refine q_icmp_ne (tgt := 138) d_Pl_takeDensest_92 (by decide) (fun c3 => ?_) (fun c3 => ?_)
    · have h := h.1 (c3)
      exact h
    · have h := h.2 (c3)
      refine q_aload_n d_Pl_takeDensest_95 rfl ?_
      refine q_iload_n d_Pl_takeDensest_96 rfl ?_
      refine q_aload_n d_Pl_takeDensest_97 rfl ?_
      refine p_getI (k := 9) zc_Pl l_Pl_109 fi_Pl_bestFrom d_Pl_takeDensest_98 zk_457 ?_
      refine q_aload_n d_Pl_takeDensest_101 rfl ?_
      refine p_getI (k := 10) zc_Pl l_Pl_112 fi_Pl_bestTo d_Pl_takeDensest_102 zk_457 ?_
      refine p_callV (as := [vI x2, vI (D 457 9), vI (D 457 10)]) (st := []) (a := 1) mc_Jo_isWithin mv_Jo_isWithin l_Pl_102 zc_Jo rfl d_Pl_takeDensest_105 rfl rfl rfl zk_1 (CI.to ?_)
      exact h
theorem s_Pl_takeDensest_149 {z1 : VV} {x2 : Int}  (h : (((D 457 10) ≤ x2 → (R32 ((D 457 0) + 1)) ∧ (∀ D3, D3 = zw D 457 0 ((D 457 0) + 1) → Q none zE D3)) ∧ (¬ (D 457 10) ≤ x2 → ((0 ≤ x2 ∧ x2 < 200)) ∧ ((¬ (D 462 x2) = (-1) → Sg g M_Pl_takeDensest Q 177 [vR 457, vU, vI x2] [] D) ∧ ((D 462 x2) = (-1) → ((0 ≤ x2 ∧ x2 < 200)) ∧ (∀ D8, D8 = zw D 462 x2 (D 457 0) → Sg g M_Pl_takeDensest Q 177 [vR 457, vU, vI x2] [] D8)))))) : Sg g M_Pl_takeDensest Q 149 [vR 457, z1, vI x2] [] D := by
  unfold Sg
  refine q_mask [false, true, false] (L' := [vR 457, vU, vI x2]) rfl ?_
  refine q_iload_n d_Pl_takeDensest_149 rfl ?_
  refine q_aload_n d_Pl_takeDensest_150 rfl ?_
  refine p_getI (k := 10) zc_Pl l_Pl_112 fi_Pl_bestTo d_Pl_takeDensest_151 zk_457 ?_
  refine q_icmp_ge (tgt := 183) d_Pl_takeDensest_154 (by decide) (fun c1 => ?_) (fun c1 => ?_)
  · have h := h.1 (c1)
    obtain ⟨o2, h⟩ := h
    refine q_aload_n d_Pl_takeDensest_183 rfl ?_
    refine q_dup d_Pl_takeDensest_184 rfl ?_
    refine p_getI (k := 0) zc_Pl l_Pl_57 fi_Pl_groups d_Pl_takeDensest_185 zk_457 ?_
    refine q_iconst d_Pl_takeDensest_188 (by decide) ?_
    refine q_iadd d_Pl_takeDensest_189 o2 ?_
    refine p_putI (k := 0) zc_Pl l_Pl_57 fp_Pl_groups (Or.inl rfl) d_Pl_takeDensest_190 zk_457 (fun D3 e4 => ?_)
    have h := h D3 e4
    exact q_vret d_Pl_takeDensest_193 rfl ⟨Nat.le_refl _, Nat.le_refl _⟩ h
  · have h := h.2 (c1)
    obtain ⟨o5, h⟩ := h
    refine q_aload_n d_Pl_takeDensest_157 rfl ?_
    refine p_getR (k := 5) (b := 462) zc_Pl l_Pl_27 fr_Pl_groupAt d_Pl_takeDensest_158 zk_457 rfl ?_
    refine q_iload_n d_Pl_takeDensest_161 rfl ?_
    refine p_iald d_Pl_takeDensest_162 zk_462 o5 ?_
    refine q_iconst d_Pl_takeDensest_163 (by decide) ?_
    refine q_icmp_ne (tgt := 177) d_Pl_takeDensest_164 (by decide) (fun c6 => ?_) (fun c6 => ?_)
    · have h := h.1 (c6)
      exact h
    · have h := h.2 (c6)
      obtain ⟨o7, h⟩ := h
      refine q_aload_n d_Pl_takeDensest_167 rfl ?_
      refine p_getR (k := 5) (b := 462) zc_Pl l_Pl_27 fr_Pl_groupAt d_Pl_takeDensest_168 zk_457 rfl ?_
      refine q_iload_n d_Pl_takeDensest_171 rfl ?_
      refine q_aload_n d_Pl_takeDensest_172 rfl ?_
      refine p_getI (k := 0) zc_Pl l_Pl_57 fi_Pl_groups d_Pl_takeDensest_173 zk_457 ?_
      refine p_iast d_Pl_takeDensest_176 zk_462 o7 (fun D8 e9 => ?_)
      have h := h D8 e9
      exact h
theorem s_Pl_takeDensest_138 {x2 : Int}  (h : (R32 (x2 + 1)) ∧ Sg g M_Pl_takeDensest Q 77 [vR 457, vR 1, vI (x2 + 1)] [] D) : Sg g M_Pl_takeDensest Q 138 [vR 457, vR 1, vI x2] [] D := by
  unfold Sg
  obtain ⟨o1, h⟩ := h
  refine q_iinc d_Pl_takeDensest_138 rfl (by decide) o1 (L' := [vR 457, vR 1, vI (x2 + 1)]) rfl ?_
  refine q_goto (tgt := 77) d_Pl_takeDensest_141 (by decide) ?_
  exact h
theorem s_Pl_takeDensest_108 {x2 : Int} {y0 : Int}  (h : ((y0 = 0 → Sg g M_Pl_takeDensest Q 138 [vR 457, vR 1, vI x2] [] D) ∧ (¬ y0 = 0 → ((0 ≤ x2 ∧ x2 < 12)) ∧ (∀ D3, D3 = zw D 461 x2 (D 457 0) → ((0 ≤ x2 ∧ x2 < 12) ∧ R32 ((D3 4 x2) * (D3 457 12)) ∧ (0 ≤ x2 ∧ x2 < 12)) ∧ (∀ D8, D8 = zw D3 464 x2 ((D3 4 x2) * (D3 457 12)) → Sg g M_Pl_takeDensest Q 138 [vR 457, vR 1, vI x2] [] D8))))) : Sg g M_Pl_takeDensest Q 108 [vR 457, vR 1, vI x2] [vI y0] D := by
  unfold Sg
  refine q_if_eq (tgt := 138) d_Pl_takeDensest_108 (by decide) (fun c1 => ?_) (fun c1 => ?_)
  · have h := h.1 (c1)
    exact h
  · have h := h.2 (c1)
    obtain ⟨o2, h⟩ := h
    refine q_aload_n d_Pl_takeDensest_111 rfl ?_
    refine p_getR (k := 4) (b := 461) zc_Pl l_Pl_24 fr_Pl_groupOfJob d_Pl_takeDensest_112 zk_457 rfl ?_
    refine q_iload_n d_Pl_takeDensest_115 rfl ?_
    refine q_aload_n d_Pl_takeDensest_116 rfl ?_
    refine p_getI (k := 0) zc_Pl l_Pl_57 fi_Pl_groups d_Pl_takeDensest_117 zk_457 ?_
    refine p_iast d_Pl_takeDensest_120 zk_461 o2 (fun D3 e4 => ?_)
    have h := h D3 e4
    obtain ⟨⟨o5, o6, o7⟩, h⟩ := h
    refine q_aload_n d_Pl_takeDensest_121 rfl ?_
    refine p_getR (k := 7) (b := 464) zc_Pl l_Pl_33 fr_Pl_left d_Pl_takeDensest_122 zk_457 rfl ?_
    refine q_iload_n d_Pl_takeDensest_125 rfl ?_
    refine q_aload_n d_Pl_takeDensest_126 rfl ?_
    refine p_getRN (k := 3) (b := 4) zc_Jo l_Pl_106 fr_Jo_work d_Pl_takeDensest_127 zk_1 rfl ?_
    refine q_iload_n d_Pl_takeDensest_130 rfl ?_
    refine p_iald d_Pl_takeDensest_131 zk_4 o5 ?_
    refine q_aload_n d_Pl_takeDensest_132 rfl ?_
    refine p_getI (k := 12) zc_Pl l_Pl_78 fi_Pl_bestTime d_Pl_takeDensest_133 zk_457 ?_
    refine q_imul d_Pl_takeDensest_136 o6 ?_
    refine p_iast d_Pl_takeDensest_137 zk_464 o7 (fun D8 e9 => ?_)
    have h := h D8 e9
    exact h
theorem s_Pl_takeDensest_177 {z1 : VV} {x2 : Int}  (h : (R32 (x2 + 1)) ∧ Sg g M_Pl_takeDensest Q 149 [vR 457, vU, vI (x2 + 1)] [] D) : Sg g M_Pl_takeDensest Q 177 [vR 457, z1, vI x2] [] D := by
  unfold Sg
  refine q_mask [false, true, false] (L' := [vR 457, vU, vI x2]) rfl ?_
  obtain ⟨o1, h⟩ := h
  refine q_iinc d_Pl_takeDensest_177 rfl (by decide) o1 (L' := [vR 457, vU, vI (x2 + 1)]) rfl ?_
  refine q_goto (tgt := 149) d_Pl_takeDensest_180 (by decide) ?_
  exact h
theorem s_Pl_layOutSteps_0 {a2 : Nat} (k_a2 : zk a2 = (0, 5, 0)) (h : CI g M_Jo_lastDeadline [vR 1] D (fun v1 D' => Sg g M_Pl_layOutSteps Q 4 [vR 457, vR 1, vR a2, vU, vU, vU, vU] [vI v1] D')) : Sg g M_Pl_layOutSteps Q 0 [vR 457, vR 1, vR a2, vU, vU, vU, vU] [] D := by
  unfold Sg
  refine q_aload_n d_Pl_layOutSteps_0 rfl ?_
  refine p_callV (as := []) (st := []) (a := 1) mc_Jo_lastDeadline mv_Jo_lastDeadline l_Pl_119 zc_Jo rfl d_Pl_layOutSteps_1 rfl rfl rfl zk_1 (CI.to ?_)
  exact h
theorem s_Pl_layOutSteps_4 {a2 : Nat} {z3 : VV} {z4 : VV} {z5 : VV} {z6 : VV} {y0 : Int} (k_a2 : zk a2 = (0, 5, 0)) (h : CI g M_Jo_firstRelease [vR 1] D (fun v1 D' => Sg g M_Pl_layOutSteps Q 15 [vR 457, vR 1, vR a2, vI (min y0 200), vU, vU, vU] [vI v1] D')) : Sg g M_Pl_layOutSteps Q 4 [vR 457, vR 1, vR a2, z3, z4, z5, z6] [vI y0] D := by
  unfold Sg
  refine q_mask [false, false, false, true, true, true, true] (L' := [vR 457, vR 1, vR a2, vU, vU, vU, vU]) rfl ?_
  refine q_sipush d_Pl_layOutSteps_4 ks_200 ?_
  refine p_min l_Pl_123 d_Pl_layOutSteps_7 rfl ?_
  refine q_istore_n d_Pl_layOutSteps_10 (by decide) (L' := [vR 457, vR 1, vR a2, vI (min y0 200), vU, vU, vU]) rfl ?_
  refine q_aload_n d_Pl_layOutSteps_11 rfl ?_
  refine p_callV (as := []) (st := []) (a := 1) mc_Jo_firstRelease mv_Jo_firstRelease l_Pl_129 zc_Jo rfl d_Pl_layOutSteps_12 rfl rfl rfl zk_1 (CI.to ?_)
  exact h
theorem s_Pl_layOutSteps_15 {z1 : VV} {a2 : Nat} {x3 : Int} {z4 : VV} {z5 : VV} {z6 : VV} {y0 : Int} (k_a2 : zk a2 = (0, 5, 0)) (h : Sg g M_Pl_layOutSteps Q 25 [vR 457, vU, vR a2, vI x3, vI (max y0 0), vI (max y0 0), vU] [] D) : Sg g M_Pl_layOutSteps Q 15 [vR 457, z1, vR a2, vI x3, z4, z5, z6] [vI y0] D := by
  unfold Sg
  refine q_mask [false, true, false, false, true, true, true] (L' := [vR 457, vU, vR a2, vI x3, vU, vU, vU]) rfl ?_
  refine q_iconst d_Pl_layOutSteps_15 (by decide) ?_
  refine p_max l_Pl_132 d_Pl_layOutSteps_16 rfl ?_
  refine q_istore d_Pl_layOutSteps_19 (by decide) (L' := [vR 457, vU, vR a2, vI x3, vI (max y0 0), vU, vU]) rfl ?_
  refine q_iload d_Pl_layOutSteps_21 rfl ?_
  refine q_istore d_Pl_layOutSteps_23 (by decide) (L' := [vR 457, vU, vR a2, vI x3, vI (max y0 0), vI (max y0 0), vU]) rfl ?_
  exact h
theorem s_Pl_layOutSteps_25 {z1 : VV} {a2 : Nat} {x3 : Int} {x4 : Int} {x5 : Int} {z6 : VV} (k_a2 : zk a2 = (0, 5, 0)) (h : ((x3 ≤ x5 → Q none zE D) ∧ (¬ x3 ≤ x5 → (R32 (x5 + 1)) ∧ (((x5 + 1) = x3 → Sg g M_Pl_layOutSteps Q 58 [vR 457, vU, vR a2, vI x3, vI x4, vI x5, vU] [] D) ∧ (¬ (x5 + 1) = x3 → (R32 (x5 + 1) ∧ (0 ≤ x5 + 1 ∧ x5 + 1 < 200) ∧ (0 ≤ x5 ∧ x5 < 200)) ∧ (((D 462 (x5 + 1)) = (D 462 x5) → Sg g M_Pl_layOutSteps Q 106 [vR 457, vU, vR a2, vI x3, vI x4, vI x5, vU] [] D) ∧ (¬ (D 462 (x5 + 1)) = (D 462 x5) → Sg g M_Pl_layOutSteps Q 58 [vR 457, vU, vR a2, vI x3, vI x4, vI x5, vU] [] D))))))) : Sg g M_Pl_layOutSteps Q 25 [vR 457, z1, vR a2, vI x3, vI x4, vI x5, z6] [] D := by
  unfold Sg
  refine q_mask [false, true, false, false, false, false, true] (L' := [vR 457, vU, vR a2, vI x3, vI x4, vI x5, vU]) rfl ?_
  refine q_iload d_Pl_layOutSteps_25 rfl ?_
  refine q_iload_n d_Pl_layOutSteps_27 rfl ?_
  refine q_icmp_ge (tgt := 112) d_Pl_layOutSteps_28 (by decide) (fun c1 => ?_) (fun c1 => ?_)
  · have h := h.1 (c1)
    exact q_vret d_Pl_layOutSteps_112 rfl ⟨Nat.le_refl _, Nat.le_refl _⟩ h
  · have h := h.2 (c1)
    obtain ⟨o2, h⟩ := h
    refine q_iload d_Pl_layOutSteps_31 rfl ?_
    refine q_iconst d_Pl_layOutSteps_33 (by decide) ?_
    refine q_iadd d_Pl_layOutSteps_34 o2 ?_
    refine q_iload_n d_Pl_layOutSteps_35 rfl ?_
    refine q_icmp_eq (tgt := 58) d_Pl_layOutSteps_36 (by decide) (fun c3 => ?_) (fun c3 => ?_)
    · have h := h.1 (c3)
      exact h
    · have h := h.2 (c3)
      obtain ⟨⟨o4, o5, o6⟩, h⟩ := h
      refine q_aload_n d_Pl_layOutSteps_39 rfl ?_
      refine p_getR (k := 5) (b := 462) zc_Pl l_Pl_27 fr_Pl_groupAt d_Pl_layOutSteps_40 zk_457 rfl ?_
      refine q_iload d_Pl_layOutSteps_43 rfl ?_
      refine q_iconst d_Pl_layOutSteps_45 (by decide) ?_
      refine q_iadd d_Pl_layOutSteps_46 o4 ?_
      refine p_iald d_Pl_layOutSteps_47 zk_462 o5 ?_
      refine q_aload_n d_Pl_layOutSteps_48 rfl ?_
      refine p_getR (k := 5) (b := 462) zc_Pl l_Pl_27 fr_Pl_groupAt d_Pl_layOutSteps_49 zk_457 rfl ?_
      refine q_iload d_Pl_layOutSteps_52 rfl ?_
      refine p_iald d_Pl_layOutSteps_54 zk_462 o6 ?_
      refine q_icmp_eq (tgt := 106) d_Pl_layOutSteps_55 (by decide) (fun c7 => ?_) (fun c7 => ?_)
      · have h := h.1 (c7)
        exact h
      · have h := h.2 (c7)
        exact h
theorem s_Pl_layOutSteps_58 {z1 : VV} {a2 : Nat} {x3 : Int} {x4 : Int} {x5 : Int} {z6 : VV} (k_a2 : zk a2 = (0, 5, 0)) (h : ((0 ≤ x5 ∧ x5 < 200) ∧ R32 (x5 + 1)) ∧ CI g M_Pl_hasGroup [vR 457, vI (D 462 x5)] D (fun v3 D' => Sg g M_Pl_layOutSteps Q 80 [vR 457, vU, vR a2, vI x3, vI x4, vI x5, vI (D 462 x5)] [vI v3, vI (x5 + 1), vI x4, vR a2] D')) : Sg g M_Pl_layOutSteps Q 58 [vR 457, z1, vR a2, vI x3, vI x4, vI x5, z6] [] D := by
  unfold Sg
  refine q_mask [false, true, false, false, false, false, true] (L' := [vR 457, vU, vR a2, vI x3, vI x4, vI x5, vU]) rfl ?_
  obtain ⟨⟨o1, o2⟩, h⟩ := h
  refine q_aload_n d_Pl_layOutSteps_58 rfl ?_
  refine p_getR (k := 5) (b := 462) zc_Pl l_Pl_27 fr_Pl_groupAt d_Pl_layOutSteps_59 zk_457 rfl ?_
  refine q_iload d_Pl_layOutSteps_62 rfl ?_
  refine p_iald d_Pl_layOutSteps_64 zk_462 o1 ?_
  refine q_istore d_Pl_layOutSteps_65 (by decide) (L' := [vR 457, vU, vR a2, vI x3, vI x4, vI x5, vI (D 462 x5)]) rfl ?_
  refine q_aload_n d_Pl_layOutSteps_67 rfl ?_
  refine q_iload d_Pl_layOutSteps_68 rfl ?_
  refine q_iload d_Pl_layOutSteps_70 rfl ?_
  refine q_iconst d_Pl_layOutSteps_72 (by decide) ?_
  refine q_iadd d_Pl_layOutSteps_73 o2 ?_
  refine q_aload_n d_Pl_layOutSteps_74 rfl ?_
  refine q_iload d_Pl_layOutSteps_75 rfl ?_
  refine p_callV (as := [vI (D 462 x5)]) (st := [vI (x5 + 1), vI x4, vR a2]) (a := 457) mc_Pl_hasGroup mv_Pl_hasGroup l_Pl_65 zc_Pl rfl d_Pl_layOutSteps_77 rfl rfl rfl zk_457 (CI.to ?_)
  exact h
theorem s_Pl_layOutSteps_106 {z1 : VV} {a2 : Nat} {x3 : Int} {x4 : Int} {x5 : Int} {z6 : VV} (k_a2 : zk a2 = (0, 5, 0)) (h : (R32 (x5 + 1)) ∧ Sg g M_Pl_layOutSteps Q 25 [vR 457, vU, vR a2, vI x3, vI x4, vI (x5 + 1), vU] [] D) : Sg g M_Pl_layOutSteps Q 106 [vR 457, z1, vR a2, vI x3, vI x4, vI x5, z6] [] D := by
  unfold Sg
  refine q_mask [false, true, false, false, false, false, true] (L' := [vR 457, vU, vR a2, vI x3, vI x4, vI x5, vU]) rfl ?_
  obtain ⟨o1, h⟩ := h
  refine q_iinc d_Pl_layOutSteps_106 rfl (by decide) o1 (L' := [vR 457, vU, vR a2, vI x3, vI x4, vI (x5 + 1), vU]) rfl ?_
  refine q_goto (tgt := 25) d_Pl_layOutSteps_109 (by decide) ?_
  exact h
theorem s_Pl_layOutSteps_80 {z1 : VV} {a2 : Nat} {x3 : Int} {z4 : VV} {x5 : Int} {x6 : Int} {y0 : Int} {y1 : Int} {y2 : Int} (k_a2 : zk a2 = (0, 5, 0)) (h : ((y0 = 0 → Sg g M_Pl_layOutSteps Q 97 [vR 457, vU, vR a2, vI x3, vU, vI x5, vI x6] [vR 465, vI y1, vI y2, vR a2] D) ∧ (¬ y0 = 0 → ((0 ≤ x6 ∧ x6 < 12)) ∧ Sg g M_Pl_layOutSteps Q 97 [vR 457, vU, vR a2, vI x3, vU, vI x5, vI x6] [vR (470 + 5 * x6.toNat), vI y1, vI y2, vR a2] D))) : Sg g M_Pl_layOutSteps Q 80 [vR 457, z1, vR a2, vI x3, z4, vI x5, vI x6] [vI y0, vI y1, vI y2, vR a2] D := by
  unfold Sg
  refine q_mask [false, true, false, false, true, false, false] (L' := [vR 457, vU, vR a2, vI x3, vU, vI x5, vI x6]) rfl ?_
  refine q_if_eq (tgt := 93) d_Pl_layOutSteps_80 (by decide) (fun c1 => ?_) (fun c1 => ?_)
  · have h := h.1 (c1)
    refine q_aload_n d_Pl_layOutSteps_93 rfl ?_
    refine p_getR (k := 8) (b := 465) zc_Pl l_Pl_37 fr_Pl_idle d_Pl_layOutSteps_94 zk_457 rfl ?_
    exact h
  · have h := h.2 (c1)
    obtain ⟨o2, h⟩ := h
    refine q_aload_n d_Pl_layOutSteps_83 rfl ?_
    refine p_getR (k := 3) (b := 460) zc_Pl l_Pl_20 fr_Pl_groupRate d_Pl_layOutSteps_84 zk_457 rfl ?_
    refine q_iload d_Pl_layOutSteps_87 rfl ?_
    refine p_aald (b := (470 + 5 * x6.toNat)) d_Pl_layOutSteps_89 zk_460 (by decide) o2 rfl ?_
    refine q_goto (tgt := 97) d_Pl_layOutSteps_90 (by decide) ?_
    exact h
theorem s_Pl_layOutSteps_97 {z1 : VV} {a2 : Nat} {x3 : Int} {z4 : VV} {x5 : Int} {z6 : VV} {y1 : Int} {y2 : Int} (k_a2 : zk a2 = (0, 5, 0)) (h : CV g M_Pr_append [vR a2, vI y2, vI y1, vR 465] D (fun D' => Sg g M_Pl_layOutSteps Q 100 [vR 457, vU, vR a2, vI x3, vU, vI x5, vU] [] D')) : Sg g M_Pl_layOutSteps Q 97 [vR 457, z1, vR a2, vI x3, z4, vI x5, z6] [vR 465, vI y1, vI y2, vR a2] D := by
  unfold Sg
  refine q_mask [false, true, false, false, true, false, true] (L' := [vR 457, vU, vR a2, vI x3, vU, vI x5, vU]) rfl ?_
  refine p_callV (as := [vI y2, vI y1, vR 465]) (st := []) (a := a2) mc_Pr_append mv_Pr_append l_Pl_135 zc_Pr rfl d_Pl_layOutSteps_97 rfl rfl rfl k_a2 (CV.to ?_)
  exact h
theorem s_Pl_layOutSteps_97b {z1 : VV} {a2 : Nat} {x3 : Int} {z4 : VV} {x5 : Int} {z6 : VV} {rs0 : Nat} {y1 : Int} {y2 : Int} (k_a2 : zk a2 = (0, 5, 0)) (k_rs0 : zk rs0 = (0, 4, 0)) (h : CV g M_Pr_append [vR a2, vI y2, vI y1, vR rs0] D (fun D' => Sg g M_Pl_layOutSteps Q 100 [vR 457, vU, vR a2, vI x3, vU, vI x5, vU] [] D')) : Sg g M_Pl_layOutSteps Q 97 [vR 457, z1, vR a2, vI x3, z4, vI x5, z6] [vR rs0, vI y1, vI y2, vR a2] D := by
  unfold Sg
  refine q_mask [false, true, false, false, true, false, true] (L' := [vR 457, vU, vR a2, vI x3, vU, vI x5, vU]) rfl ?_
  refine p_callV (as := [vI y2, vI y1, vR rs0]) (st := []) (a := a2) mc_Pr_append mv_Pr_append l_Pl_135 zc_Pr rfl d_Pl_layOutSteps_97 rfl rfl rfl k_a2 (CV.to ?_)
  exact h
theorem s_Pl_layOutSteps_100 {z1 : VV} {a2 : Nat} {x3 : Int} {z4 : VV} {x5 : Int} {z6 : VV} (k_a2 : zk a2 = (0, 5, 0)) (h : (R32 (x5 + 1)) ∧ Sg g M_Pl_layOutSteps Q 106 [vR 457, vU, vR a2, vI x3, vI (x5 + 1), vI x5, vU] [] D) : Sg g M_Pl_layOutSteps Q 100 [vR 457, z1, vR a2, vI x3, z4, vI x5, z6] [] D := by
  unfold Sg
  refine q_mask [false, true, false, false, true, false, true] (L' := [vR 457, vU, vR a2, vI x3, vU, vI x5, vU]) rfl ?_
  obtain ⟨o1, h⟩ := h
  refine q_iload d_Pl_layOutSteps_100 rfl ?_
  refine q_iconst d_Pl_layOutSteps_102 (by decide) ?_
  refine q_iadd d_Pl_layOutSteps_103 o1 ?_
  refine q_istore d_Pl_layOutSteps_104 (by decide) (L' := [vR 457, vU, vR a2, vI x3, vI (x5 + 1), vI x5, vU]) rfl ?_
  exact h
theorem s_Pl_workOff_0 {a2 : Nat} (k_a2 : zk a2 = (0, 5, 0)) (h : Sg g M_Pl_workOff Q 2 [vR 457, vR 1, vR a2, vI 0] [] D) : Sg g M_Pl_workOff Q 0 [vR 457, vR 1, vR a2, vU] [] D := by
  unfold Sg
  refine q_iconst d_Pl_workOff_0 (by decide) ?_
  refine q_istore_n d_Pl_workOff_1 (by decide) (L' := [vR 457, vR 1, vR a2, vI 0]) rfl ?_
  exact h
theorem s_Pl_workOff_2 {a2 : Nat} {x3 : Int} (k_a2 : zk a2 = (0, 5, 0)) (h : ((200 ≤ x3 → Q none zE D) ∧ (¬ 200 ≤ x3 → ((0 ≤ x3 ∧ x3 < 200)) ∧ CI g M_Pl_hasGroup [vR 457, vI (D 462 x3)] D (fun v3 D' => Sg g M_Pl_workOff Q 19 [vR 457, vR 1, vR a2, vI x3] [vI v3] D')))) : Sg g M_Pl_workOff Q 2 [vR 457, vR 1, vR a2, vI x3] [] D := by
  unfold Sg
  refine q_iload_n d_Pl_workOff_2 rfl ?_
  refine q_sipush d_Pl_workOff_3 ks_200 ?_
  refine q_icmp_ge (tgt := 41) d_Pl_workOff_6 (by decide) (fun c1 => ?_) (fun c1 => ?_)
  · have h := h.1 (c1)
    exact q_vret d_Pl_workOff_41 rfl ⟨Nat.le_refl _, Nat.le_refl _⟩ h
  · have h := h.2 (c1)
    obtain ⟨o2, h⟩ := h
    refine q_aload_n d_Pl_workOff_9 rfl ?_
    refine q_aload_n d_Pl_workOff_10 rfl ?_
    refine p_getR (k := 5) (b := 462) zc_Pl l_Pl_27 fr_Pl_groupAt d_Pl_workOff_11 zk_457 rfl ?_
    refine q_iload_n d_Pl_workOff_14 rfl ?_
    refine p_iald d_Pl_workOff_15 zk_462 o2 ?_
    refine p_callV (as := [vI (D 462 x3)]) (st := []) (a := 457) mc_Pl_hasGroup mv_Pl_hasGroup l_Pl_65 zc_Pl rfl d_Pl_workOff_16 rfl rfl rfl zk_457 (CI.to ?_)
    exact h
theorem s_Pl_workOff_19 {a2 : Nat} {x3 : Int} {y0 : Int} (k_a2 : zk a2 = (0, 5, 0)) (h : ((y0 = 0 → Sg g M_Pl_workOff Q 35 [vR 457, vR 1, vR a2, vI x3] [] D) ∧ (¬ y0 = 0 → ((0 ≤ x3 ∧ x3 < 200)) ∧ CV g M_Pl_workOffAt [vR 457, vR 1, vR a2, vI x3, vI (D 462 x3)] D (fun D' => Sg g M_Pl_workOff Q 35 [vR 457, vR 1, vR a2, vI x3] [] D')))) : Sg g M_Pl_workOff Q 19 [vR 457, vR 1, vR a2, vI x3] [vI y0] D := by
  unfold Sg
  refine q_if_eq (tgt := 35) d_Pl_workOff_19 (by decide) (fun c1 => ?_) (fun c1 => ?_)
  · have h := h.1 (c1)
    exact h
  · have h := h.2 (c1)
    obtain ⟨o2, h⟩ := h
    refine q_aload_n d_Pl_workOff_22 rfl ?_
    refine q_aload_n d_Pl_workOff_23 rfl ?_
    refine q_aload_n d_Pl_workOff_24 rfl ?_
    refine q_iload_n d_Pl_workOff_25 rfl ?_
    refine q_aload_n d_Pl_workOff_26 rfl ?_
    refine p_getR (k := 5) (b := 462) zc_Pl l_Pl_27 fr_Pl_groupAt d_Pl_workOff_27 zk_457 rfl ?_
    refine q_iload_n d_Pl_workOff_30 rfl ?_
    refine p_iald d_Pl_workOff_31 zk_462 o2 ?_
    refine p_callV (as := [vR 1, vR a2, vI x3, vI (D 462 x3)]) (st := []) (a := 457) mc_Pl_workOffAt mv_Pl_workOffAt l_Pl_139 zc_Pl rfl d_Pl_workOff_32 rfl rfl rfl zk_457 (CV.to ?_)
    exact h
theorem s_Pl_workOff_35 {a2 : Nat} {x3 : Int} (k_a2 : zk a2 = (0, 5, 0)) (h : (R32 (x3 + 1)) ∧ Sg g M_Pl_workOff Q 2 [vR 457, vR 1, vR a2, vI (x3 + 1)] [] D) : Sg g M_Pl_workOff Q 35 [vR 457, vR 1, vR a2, vI x3] [] D := by
  unfold Sg
  obtain ⟨o1, h⟩ := h
  refine q_iinc d_Pl_workOff_35 rfl (by decide) o1 (L' := [vR 457, vR 1, vR a2, vI (x3 + 1)]) rfl ?_
  refine q_goto (tgt := 2) d_Pl_workOff_38 (by decide) ?_
  exact h
theorem s_Pl_workOffAt_0 {a2 : Nat} {x3 : Int} {x4 : Int} (k_a2 : zk a2 = (0, 5, 0)) (h : ((x3 < 0 → Q none zE D) ∧ (¬ x3 < 0 → ((200 ≤ x3 → Q none zE D) ∧ (¬ 200 ≤ x3 → CI g M_Pl_hasGroup [vR 457, vI x4] D (fun v3 D' => Sg g M_Pl_workOffAt Q 17 [vR 457, vR 1, vR a2, vI x3, vI x4, vU, vU, vU, vU, vU] [vI v3] D')))))) : Sg g M_Pl_workOffAt Q 0 [vR 457, vR 1, vR a2, vI x3, vI x4, vU, vU, vU, vU, vU] [] D := by
  unfold Sg
  refine q_iload_n d_Pl_workOffAt_0 rfl ?_
  refine q_if_lt (tgt := 20) d_Pl_workOffAt_1 (by decide) (fun c1 => ?_) (fun c1 => ?_)
  · have h := h.1 (c1)
    exact q_vret d_Pl_workOffAt_20 rfl ⟨Nat.le_refl _, Nat.le_refl _⟩ h
  · have h := h.2 (c1)
    refine q_iload_n d_Pl_workOffAt_4 rfl ?_
    refine q_sipush d_Pl_workOffAt_5 ks_200 ?_
    refine q_icmp_ge (tgt := 20) d_Pl_workOffAt_8 (by decide) (fun c2 => ?_) (fun c2 => ?_)
    · have h := h.1 (c2)
      exact q_vret d_Pl_workOffAt_20 rfl ⟨Nat.le_refl _, Nat.le_refl _⟩ h
    · have h := h.2 (c2)
      refine q_aload_n d_Pl_workOffAt_11 rfl ?_
      refine q_iload d_Pl_workOffAt_12 rfl ?_
      refine p_callV (as := [vI x4]) (st := []) (a := 457) mc_Pl_hasGroup mv_Pl_hasGroup l_Pl_65 zc_Pl rfl d_Pl_workOffAt_14 rfl rfl rfl zk_457 (CI.to ?_)
      exact h
theorem s_Pl_workOffAt_17 {a2 : Nat} {x3 : Int} {x4 : Int} {z5 : VV} {z6 : VV} {z7 : VV} {z8 : VV} {z9 : VV} {y0 : Int} (k_a2 : zk a2 = (0, 5, 0)) (h : ((¬ y0 = 0 → ((0 ≤ x4 ∧ x4 < 12)) ∧ Sg g M_Pl_workOffAt Q 36 [vR 457, vR 1, vR a2, vI x3, vI x4, vI (D 458 x4), vI 0, vI 0, vU, vU] [] D) ∧ (y0 = 0 → Q none zE D))) : Sg g M_Pl_workOffAt Q 17 [vR 457, vR 1, vR a2, vI x3, vI x4, z5, z6, z7, z8, z9] [vI y0] D := by
  unfold Sg
  refine q_mask [false, false, false, false, false, true, true, true, true, true] (L' := [vR 457, vR 1, vR a2, vI x3, vI x4, vU, vU, vU, vU, vU]) rfl ?_
  refine q_if_ne (tgt := 21) d_Pl_workOffAt_17 (by decide) (fun c1 => ?_) (fun c1 => ?_)
  · have h := h.1 (c1)
    obtain ⟨o2, h⟩ := h
    refine q_aload_n d_Pl_workOffAt_21 rfl ?_
    refine p_getR (k := 1) (b := 458) zc_Pl l_Pl_9 fr_Pl_groupWork d_Pl_workOffAt_22 zk_457 rfl ?_
    refine q_iload d_Pl_workOffAt_25 rfl ?_
    refine p_iald d_Pl_workOffAt_27 zk_458 o2 ?_
    refine q_istore d_Pl_workOffAt_28 (by decide) (L' := [vR 457, vR 1, vR a2, vI x3, vI x4, vI (D 458 x4), vU, vU, vU, vU]) rfl ?_
    refine q_iconst d_Pl_workOffAt_30 (by decide) ?_
    refine q_istore d_Pl_workOffAt_31 (by decide) (L' := [vR 457, vR 1, vR a2, vI x3, vI x4, vI (D 458 x4), vI 0, vU, vU, vU]) rfl ?_
    refine q_iconst d_Pl_workOffAt_33 (by decide) ?_
    refine q_istore d_Pl_workOffAt_34 (by decide) (L' := [vR 457, vR 1, vR a2, vI x3, vI x4, vI (D 458 x4), vI 0, vI 0, vU, vU]) rfl ?_
    exact h
  · have h := h.2 (c1)
    exact q_vret d_Pl_workOffAt_20 rfl ⟨Nat.le_refl _, Nat.le_refl _⟩ h
theorem s_Pl_workOffAt_36 {a2 : Nat} {x3 : Int} {x4 : Int} {x5 : Int} {x6 : Int} {x7 : Int} {z8 : VV} {z9 : VV} (k_a2 : zk a2 = (0, 5, 0)) (h : (((D 1 0) ≤ x7 → Q none zE D) ∧ (¬ (D 1 0) ≤ x7 → ((x5 ≤ x6 → Q none zE D) ∧ (¬ x5 ≤ x6 → ((0 ≤ x7 ∧ x7 < 12)) ∧ CI g M_Pl_groupOf [vR 457, vI (D 5 x7)] D (fun v4 D' => Sg g M_Pl_workOffAt Q 67 [vR 457, vR 1, vR a2, vI x3, vI x4, vI x5, vI x6, vI x7, vI (D 5 x7), vU] [vI v4] D')))))) : Sg g M_Pl_workOffAt Q 36 [vR 457, vR 1, vR a2, vI x3, vI x4, vI x5, vI x6, vI x7, z8, z9] [] D := by
  unfold Sg
  refine q_mask [false, false, false, false, false, false, false, false, true, true] (L' := [vR 457, vR 1, vR a2, vI x3, vI x4, vI x5, vI x6, vI x7, vU, vU]) rfl ?_
  refine q_iload d_Pl_workOffAt_36 rfl ?_
  refine q_aload_n d_Pl_workOffAt_38 rfl ?_
  refine p_getIN (k := 0) zc_Jo l_Pl_87 fi_Jo_count d_Pl_workOffAt_39 zk_1 ?_
  refine q_icmp_ge (tgt := 185) d_Pl_workOffAt_42 (by decide) (fun c1 => ?_) (fun c1 => ?_)
  · have h := h.1 (c1)
    exact q_vret d_Pl_workOffAt_185 rfl ⟨Nat.le_refl _, Nat.le_refl _⟩ h
  · have h := h.2 (c1)
    refine q_iload d_Pl_workOffAt_45 rfl ?_
    refine q_iload d_Pl_workOffAt_47 rfl ?_
    refine q_icmp_ge (tgt := 185) d_Pl_workOffAt_49 (by decide) (fun c2 => ?_) (fun c2 => ?_)
    · have h := h.1 (c2)
      exact q_vret d_Pl_workOffAt_185 rfl ⟨Nat.le_refl _, Nat.le_refl _⟩ h
    · have h := h.2 (c2)
      obtain ⟨o3, h⟩ := h
      refine q_aload_n d_Pl_workOffAt_52 rfl ?_
      refine p_getRN (k := 4) (b := 5) zc_Jo l_Pl_143 fr_Jo_byDeadline d_Pl_workOffAt_53 zk_1 rfl ?_
      refine q_iload d_Pl_workOffAt_56 rfl ?_
      refine p_iald d_Pl_workOffAt_58 zk_5 o3 ?_
      refine q_istore d_Pl_workOffAt_59 (by decide) (L' := [vR 457, vR 1, vR a2, vI x3, vI x4, vI x5, vI x6, vI x7, vI (D 5 x7), vU]) rfl ?_
      refine q_aload_n d_Pl_workOffAt_61 rfl ?_
      refine q_iload d_Pl_workOffAt_62 rfl ?_
      refine p_callV (as := [vI (D 5 x7)]) (st := []) (a := 457) mc_Pl_groupOf mv_Pl_groupOf l_Pl_61 zc_Pl rfl d_Pl_workOffAt_64 rfl rfl rfl zk_457 (CI.to ?_)
      exact h
theorem s_Pl_workOffAt_67 {a2 : Nat} {x3 : Int} {x4 : Int} {x5 : Int} {x6 : Int} {x7 : Int} {x8 : Int} {z9 : VV} {y0 : Int} (k_a2 : zk a2 = (0, 5, 0)) (h : ((¬ y0 = x4 → Sg g M_Pl_workOffAt Q 179 [vR 457, vR 1, vR a2, vI x3, vI x4, vI x5, vI x6, vI x7, vI x8, vU] [] D) ∧ (y0 = x4 → ((0 ≤ x8 ∧ x8 < 12)) ∧ ((x3 < (D 2 x8) → Sg g M_Pl_workOffAt Q 179 [vR 457, vR 1, vR a2, vI x3, vI x4, vI x5, vI x6, vI x7, vI x8, vU] [] D) ∧ (¬ x3 < (D 2 x8) → ((0 ≤ x8 ∧ x8 < 12)) ∧ ((1 ≤ (D 464 x8) → ((¬ x6 = 0 → Sg g M_Pl_workOffAt Q 110 [vR 457, vR 1, vR a2, vI x3, vI x4, vI x5, vI x6, vI x7, vI x8, vU] [] D) ∧ (x6 = 0 → ((0 ≤ x3 ∧ x3 < 200)) ∧ (∀ D8, D8 = zw D (a2 + 5) x3 x8 → Sg g M_Pl_workOffAt Q 110 [vR 457, vR 1, vR a2, vI x3, vI x4, vI x5, vI x6, vI x7, vI x8, vU] [] D8)))) ∧ (¬ 1 ≤ (D 464 x8) → Sg g M_Pl_workOffAt Q 179 [vR 457, vR 1, vR a2, vI x3, vI x4, vI x5, vI x6, vI x7, vI x8, vU] [] D))))))) : Sg g M_Pl_workOffAt Q 67 [vR 457, vR 1, vR a2, vI x3, vI x4, vI x5, vI x6, vI x7, vI x8, z9] [vI y0] D := by
  unfold Sg
  refine q_mask [false, false, false, false, false, false, false, false, false, true] (L' := [vR 457, vR 1, vR a2, vI x3, vI x4, vI x5, vI x6, vI x7, vI x8, vU]) rfl ?_
  refine q_iload d_Pl_workOffAt_67 rfl ?_
  refine q_icmp_ne (tgt := 179) d_Pl_workOffAt_69 (by decide) (fun c1 => ?_) (fun c1 => ?_)
  · have h := h.1 (c1)
    exact h
  · have h := h.2 (c1)
    obtain ⟨o2, h⟩ := h
    refine q_aload_n d_Pl_workOffAt_72 rfl ?_
    refine p_getRN (k := 1) (b := 2) zc_Jo l_Pl_92 fr_Jo_release d_Pl_workOffAt_73 zk_1 rfl ?_
    refine q_iload d_Pl_workOffAt_76 rfl ?_
    refine p_iald d_Pl_workOffAt_78 zk_2 o2 ?_
    refine q_iload_n d_Pl_workOffAt_79 rfl ?_
    refine q_icmp_gt (tgt := 179) d_Pl_workOffAt_80 (by decide) (fun c3 => ?_) (fun c3 => ?_)
    · have h := h.1 (c3)
      exact h
    · have h := h.2 (c3)
      obtain ⟨o4, h⟩ := h
      refine q_aload_n d_Pl_workOffAt_83 rfl ?_
      refine p_getR (k := 7) (b := 464) zc_Pl l_Pl_33 fr_Pl_left d_Pl_workOffAt_84 zk_457 rfl ?_
      refine q_iload d_Pl_workOffAt_87 rfl ?_
      refine p_iald d_Pl_workOffAt_89 zk_464 o4 ?_
      refine q_iconst d_Pl_workOffAt_90 (by decide) ?_
      refine q_icmp_ge (tgt := 97) d_Pl_workOffAt_91 (by decide) (fun c5 => ?_) (fun c5 => ?_)
      · have h := h.1 (c5)
        refine q_iload d_Pl_workOffAt_97 rfl ?_
        refine q_if_ne (tgt := 110) d_Pl_workOffAt_99 (by decide) (fun c6 => ?_) (fun c6 => ?_)
        · have h := h.1 (c6)
          exact h
        · have h := h.2 (c6)
          obtain ⟨o7, h⟩ := h
          refine q_aload_n d_Pl_workOffAt_102 rfl ?_
          refine p_getRN (k := 6) (b := (a2 + 5)) zc_Pr l_Pl_146 fr_Pr_worker d_Pl_workOffAt_103 k_a2 rfl ?_
          refine q_iload_n d_Pl_workOffAt_106 rfl ?_
          refine q_iload d_Pl_workOffAt_107 rfl ?_
          refine p_iast d_Pl_workOffAt_109 (zs_Pr_worker k_a2) o7 (fun D8 e9 => ?_)
          have h := h D8 e9
          exact h
      · have h := h.2 (c5)
        refine q_goto (tgt := 179) d_Pl_workOffAt_94 (by decide) ?_
        exact h
theorem s_Pl_workOffAt_179 {a2 : Nat} {x3 : Int} {x4 : Int} {x5 : Int} {x6 : Int} {x7 : Int} {z8 : VV} {z9 : VV} (k_a2 : zk a2 = (0, 5, 0)) (h : (R32 (x7 + 1)) ∧ Sg g M_Pl_workOffAt Q 36 [vR 457, vR 1, vR a2, vI x3, vI x4, vI x5, vI x6, vI (x7 + 1), vU, vU] [] D) : Sg g M_Pl_workOffAt Q 179 [vR 457, vR 1, vR a2, vI x3, vI x4, vI x5, vI x6, vI x7, z8, z9] [] D := by
  unfold Sg
  refine q_mask [false, false, false, false, false, false, false, false, true, true] (L' := [vR 457, vR 1, vR a2, vI x3, vI x4, vI x5, vI x6, vI x7, vU, vU]) rfl ?_
  obtain ⟨o1, h⟩ := h
  refine q_iinc d_Pl_workOffAt_179 rfl (by decide) o1 (L' := [vR 457, vR 1, vR a2, vI x3, vI x4, vI x5, vI x6, vI (x7 + 1), vU, vU]) rfl ?_
  refine q_goto (tgt := 36) d_Pl_workOffAt_182 (by decide) ?_
  exact h
theorem s_Pl_workOffAt_110 {a2 : Nat} {x3 : Int} {x4 : Int} {x5 : Int} {x6 : Int} {x7 : Int} {x8 : Int} {z9 : VV} (k_a2 : zk a2 = (0, 5, 0)) (h : ((0 ≤ x8 ∧ x8 < 12) ∧ R32 (x5 - x6) ∧ R32 (x6 + (min (D 464 x8) (x5 - x6))) ∧ (0 ≤ x8 ∧ x8 < 12) ∧ R32 ((D 464 x8) - (min (D 464 x8) (x5 - x6))) ∧ (0 ≤ x8 ∧ x8 < 12)) ∧ (∀ D7, D7 = zw D 464 x8 ((D 464 x8) - (min (D 464 x8) (x5 - x6))) → ((0 ≤ x8 ∧ x8 < 12)) ∧ ((¬ (D7 464 x8) = 0 → Sg g M_Pl_workOffAt Q 179 [vR 457, vR 1, vR a2, vI x3, vI x4, vI x5, vI (x6 + (min (D 464 x8) (x5 - x6))), vI x7, vI x8, vI (min (D 464 x8) (x5 - x6))] [] D7) ∧ ((D7 464 x8) = 0 → ((0 ≤ x8 ∧ x8 < 12) ∧ R64 (x3 * x5) ∧ R64 ((x3 * x5) + (x6 + (min (D 464 x8) (x5 - x6))))) ∧ CV g M_Fr_setSmall [vR (a2 + 131 + 5 * x8.toNat), vL ((x3 * x5) + (x6 + (min (D 464 x8) (x5 - x6)))), vL x5] D7 (fun D' => Sg g M_Pl_workOffAt Q 179 [vR 457, vR 1, vR a2, vI x3, vI x4, vI x5, vI (x6 + (min (D 464 x8) (x5 - x6))), vI x7, vI x8, vI (min (D 464 x8) (x5 - x6))] [] D'))))) : Sg g M_Pl_workOffAt Q 110 [vR 457, vR 1, vR a2, vI x3, vI x4, vI x5, vI x6, vI x7, vI x8, z9] [] D := by
  unfold Sg
  refine q_mask [false, false, false, false, false, false, false, false, false, true] (L' := [vR 457, vR 1, vR a2, vI x3, vI x4, vI x5, vI x6, vI x7, vI x8, vU]) rfl ?_
  obtain ⟨⟨o1, o2, o3, o4, o5, o6⟩, h⟩ := h
  refine q_aload_n d_Pl_workOffAt_110 rfl ?_
  refine p_getR (k := 7) (b := 464) zc_Pl l_Pl_33 fr_Pl_left d_Pl_workOffAt_111 zk_457 rfl ?_
  refine q_iload d_Pl_workOffAt_114 rfl ?_
  refine p_iald d_Pl_workOffAt_116 zk_464 o1 ?_
  refine q_iload d_Pl_workOffAt_117 rfl ?_
  refine q_iload d_Pl_workOffAt_119 rfl ?_
  refine q_isub d_Pl_workOffAt_121 o2 ?_
  refine p_min l_Pl_123 d_Pl_workOffAt_122 rfl ?_
  refine q_istore d_Pl_workOffAt_125 (by decide) (L' := [vR 457, vR 1, vR a2, vI x3, vI x4, vI x5, vI x6, vI x7, vI x8, vI (min (D 464 x8) (x5 - x6))]) rfl ?_
  refine q_iload d_Pl_workOffAt_127 rfl ?_
  refine q_iload d_Pl_workOffAt_129 rfl ?_
  refine q_iadd d_Pl_workOffAt_131 o3 ?_
  refine q_istore d_Pl_workOffAt_132 (by decide) (L' := [vR 457, vR 1, vR a2, vI x3, vI x4, vI x5, vI (x6 + (min (D 464 x8) (x5 - x6))), vI x7, vI x8, vI (min (D 464 x8) (x5 - x6))]) rfl ?_
  refine q_aload_n d_Pl_workOffAt_134 rfl ?_
  refine p_getR (k := 7) (b := 464) zc_Pl l_Pl_33 fr_Pl_left d_Pl_workOffAt_135 zk_457 rfl ?_
  refine q_iload d_Pl_workOffAt_138 rfl ?_
  refine q_dup2 d_Pl_workOffAt_140 ⟨rfl, rfl⟩ ?_
  refine p_iald d_Pl_workOffAt_141 zk_464 o4 ?_
  refine q_iload d_Pl_workOffAt_142 rfl ?_
  refine q_isub d_Pl_workOffAt_144 o5 ?_
  refine p_iast d_Pl_workOffAt_145 zk_464 o6 (fun D7 e8 => ?_)
  have h := h D7 e8
  obtain ⟨o9, h⟩ := h
  refine q_aload_n d_Pl_workOffAt_146 rfl ?_
  refine p_getR (k := 7) (b := 464) zc_Pl l_Pl_33 fr_Pl_left d_Pl_workOffAt_147 zk_457 rfl ?_
  refine q_iload d_Pl_workOffAt_150 rfl ?_
  refine p_iald d_Pl_workOffAt_152 zk_464 o9 ?_
  refine q_if_ne (tgt := 179) d_Pl_workOffAt_153 (by decide) (fun c10 => ?_) (fun c10 => ?_)
  · have h := h.1 (c10)
    exact h
  · have h := h.2 (c10)
    obtain ⟨⟨o11, o12, o13⟩, h⟩ := h
    refine q_aload_n d_Pl_workOffAt_156 rfl ?_
    refine p_getRN (k := 5) (b := (a2 + 4)) zc_Pr l_Pl_149 fr_Pr_done d_Pl_workOffAt_157 k_a2 rfl ?_
    refine q_iload d_Pl_workOffAt_160 rfl ?_
    refine p_aald (b := (a2 + 131 + 5 * x8.toNat)) d_Pl_workOffAt_162 (zs_Pr_done k_a2) (by decide) o11 rfl ?_
    refine q_iload_n d_Pl_workOffAt_163 rfl ?_
    refine q_i2l d_Pl_workOffAt_164 ?_
    refine q_iload d_Pl_workOffAt_165 rfl ?_
    refine q_i2l d_Pl_workOffAt_167 ?_
    refine q_lmul d_Pl_workOffAt_168 o12 ?_
    refine q_iload d_Pl_workOffAt_169 rfl ?_
    refine q_i2l d_Pl_workOffAt_171 ?_
    refine q_ladd d_Pl_workOffAt_172 o13 ?_
    refine q_iload d_Pl_workOffAt_173 rfl ?_
    refine q_i2l d_Pl_workOffAt_175 ?_
    refine p_callV (as := [vL ((x3 * x5) + (x6 + (min (D 464 x8) (x5 - x6)))), vL x5]) (st := []) (a := (a2 + 131 + 5 * x8.toNat)) mc_Fr_setSmall mv_Fr_setSmall l_Pl_115 zc_Fr rfl d_Pl_workOffAt_176 rfl rfl rfl (ze_1 (i := x8.toNat) (zs_Pr_done k_a2) (by omega)) (CV.to ?_)
    exact h
end SEG
