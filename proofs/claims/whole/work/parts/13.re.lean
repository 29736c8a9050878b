/-! printed by wip/whole/tools/seg.py: Ke_commonOf, Re_order, Re_lower, Re_commonOf, Re_add, Re_shareOut, Re_reckonCost, Re_orderOfWork, Re_doesEnough, Re_doesJust -/
theorem zk_391 : zk 391 = (0, 6, 0) := by decide +kernel
theorem zk_392 : zk 392 = (0, 3, 0) := by decide +kernel
theorem zk_394 : zk 394 = (0, 3, 0) := by decide +kernel
theorem zk_396 : zk 396 = (0, 3, 0) := by decide +kernel
theorem zk_398 : zk 398 = (0, 3, 0) := by decide +kernel
theorem zk_400 : zk 400 = (0, 3, 0) := by decide +kernel
theorem zk_402 : zk 402 = (0, 3, 0) := by decide +kernel
theorem zk_404 : zk 404 = (0, 3, 0) := by decide +kernel
theorem zk_406 : zk 406 = (0, 3, 0) := by decide +kernel
theorem zk_408 : zk 408 = (5, 24, 2) := by decide +kernel
theorem ks_10000 : (Int16.ofInt 10000).toInt32 = Int32.ofInt 10000 ∧ R32 10000 := ⟨by decide +kernel, by decide⟩
theorem fr_Pr_cost : 7 < 8 ∧ zft 5 7 = (2, 6) := ⟨by decide, by decide +kernel⟩
theorem fr_Re_common : 7 < 9 ∧ zft 6 7 = (2, 15) := ⟨by decide, by decide +kernel⟩
theorem fr_Re_first : 0 < 9 ∧ zft 6 0 = (2, 1) := ⟨by decide, by decide +kernel⟩
theorem fr_Re_product : 4 < 9 ∧ zft 6 4 = (2, 9) := ⟨by decide, by decide +kernel⟩
theorem fr_Re_quotient : 2 < 9 ∧ zft 6 2 = (2, 5) := ⟨by decide, by decide +kernel⟩
theorem fr_Re_second : 1 < 9 ∧ zft 6 1 = (2, 3) := ⟨by decide, by decide +kernel⟩
theorem fr_Re_shares : 8 < 9 ∧ zft 6 8 = (2, 17) := ⟨by decide, by decide +kernel⟩
theorem fr_Re_shifted : 3 < 9 ∧ zft 6 3 = (2, 7) := ⟨by decide, by decide +kernel⟩
theorem fr_Re_spare : 5 < 9 ∧ zft 6 5 = (2, 11) := ⟨by decide, by decide +kernel⟩
theorem fr_Re_sum : 6 < 9 ∧ zft 6 6 = (2, 13) := ⟨by decide, by decide +kernel⟩
theorem d_Ke_commonOf_0 : decode prog_1_method_22_code 0 = .ok (.lload_n 0, 1) := by decide +kernel
theorem d_Ke_commonOf_1 : decode prog_1_method_22_code 1 = .ok (.lstore 4, 2) := by decide +kernel
theorem d_Ke_commonOf_3 : decode prog_1_method_22_code 3 = .ok (.lload_n 2, 1) := by decide +kernel
theorem d_Ke_commonOf_4 : decode prog_1_method_22_code 4 = .ok (.lstore 6, 2) := by decide +kernel
theorem d_Ke_commonOf_6 : decode prog_1_method_22_code 6 = .ok (.iconst 0, 1) := by decide +kernel
theorem d_Ke_commonOf_7 : decode prog_1_method_22_code 7 = .ok (.istore 8, 2) := by decide +kernel
theorem d_Ke_commonOf_9 : decode prog_1_method_22_code 9 = .ok (.iload 8, 2) := by decide +kernel
theorem d_Ke_commonOf_11 : decode prog_1_method_22_code 11 = .ok (.sipush 10000, 3) := by decide +kernel
theorem d_Ke_commonOf_14 : decode prog_1_method_22_code 14 = .ok (.if_icmp .ge 31, 3) := by decide +kernel
theorem d_Ke_commonOf_17 : decode prog_1_method_22_code 17 = .ok (.lload 6, 2) := by decide +kernel
theorem d_Ke_commonOf_19 : decode prog_1_method_22_code 19 = .ok (.lconst 0, 1) := by decide +kernel
theorem d_Ke_commonOf_20 : decode prog_1_method_22_code 20 = .ok (.lcmp, 1) := by decide +kernel
theorem d_Ke_commonOf_21 : decode prog_1_method_22_code 21 = .ok (.ifCond .eq 24, 3) := by decide +kernel
theorem d_Ke_commonOf_24 : decode prog_1_method_22_code 24 = .ok (.lload 4, 2) := by decide +kernel
theorem d_Ke_commonOf_26 : decode prog_1_method_22_code 26 = .ok (.lload 6, 2) := by decide +kernel
theorem d_Ke_commonOf_28 : decode prog_1_method_22_code 28 = .ok (.lrem, 1) := by decide +kernel
theorem d_Ke_commonOf_29 : decode prog_1_method_22_code 29 = .ok (.lstore 9, 2) := by decide +kernel
theorem d_Ke_commonOf_31 : decode prog_1_method_22_code 31 = .ok (.lload 6, 2) := by decide +kernel
theorem d_Ke_commonOf_33 : decode prog_1_method_22_code 33 = .ok (.lstore 4, 2) := by decide +kernel
theorem d_Ke_commonOf_35 : decode prog_1_method_22_code 35 = .ok (.lload 9, 2) := by decide +kernel
theorem d_Ke_commonOf_37 : decode prog_1_method_22_code 37 = .ok (.lstore 6, 2) := by decide +kernel
theorem d_Ke_commonOf_39 : decode prog_1_method_22_code 39 = .ok (.iinc 8 1, 3) := by decide +kernel
theorem d_Ke_commonOf_42 : decode prog_1_method_22_code 42 = .ok (.goto (-33), 3) := by decide +kernel
theorem d_Ke_commonOf_45 : decode prog_1_method_22_code 45 = .ok (.lload 4, 2) := by decide +kernel
theorem d_Ke_commonOf_47 : decode prog_1_method_22_code 47 = .ok (.lreturn, 1) := by decide +kernel
theorem d_Re_order_0 : decode prog_9_method_2_code 0 = .ok (.aload_n 0, 1) := by decide +kernel
theorem d_Re_order_1 : decode prog_9_method_2_code 1 = .ok (.getfield 27, 3) := by decide +kernel
theorem d_Re_order_4 : decode prog_9_method_2_code 4 = .ok (.aload_n 1, 1) := by decide +kernel
theorem d_Re_order_5 : decode prog_9_method_2_code 5 = .ok (.getfield 43, 3) := by decide +kernel
theorem d_Re_order_8 : decode prog_9_method_2_code 8 = .ok (.aload_n 2, 1) := by decide +kernel
theorem d_Re_order_9 : decode prog_9_method_2_code 9 = .ok (.getfield 48, 3) := by decide +kernel
theorem d_Re_order_12 : decode prog_9_method_2_code 12 = .ok (.invokevirtual 51, 3) := by decide +kernel
theorem d_Re_order_15 : decode prog_9_method_2_code 15 = .ok (.aload_n 0, 1) := by decide +kernel
theorem d_Re_order_16 : decode prog_9_method_2_code 16 = .ok (.getfield 30, 3) := by decide +kernel
theorem d_Re_order_19 : decode prog_9_method_2_code 19 = .ok (.aload_n 2, 1) := by decide +kernel
theorem d_Re_order_20 : decode prog_9_method_2_code 20 = .ok (.getfield 43, 3) := by decide +kernel
theorem d_Re_order_23 : decode prog_9_method_2_code 23 = .ok (.aload_n 1, 1) := by decide +kernel
theorem d_Re_order_24 : decode prog_9_method_2_code 24 = .ok (.getfield 48, 3) := by decide +kernel
theorem d_Re_order_27 : decode prog_9_method_2_code 27 = .ok (.invokevirtual 51, 3) := by decide +kernel
theorem d_Re_order_30 : decode prog_9_method_2_code 30 = .ok (.aload_n 0, 1) := by decide +kernel
theorem d_Re_order_31 : decode prog_9_method_2_code 31 = .ok (.getfield 27, 3) := by decide +kernel
theorem d_Re_order_34 : decode prog_9_method_2_code 34 = .ok (.aload_n 0, 1) := by decide +kernel
theorem d_Re_order_35 : decode prog_9_method_2_code 35 = .ok (.getfield 30, 3) := by decide +kernel
theorem d_Re_order_38 : decode prog_9_method_2_code 38 = .ok (.invokevirtual 55, 3) := by decide +kernel
theorem d_Re_order_41 : decode prog_9_method_2_code 41 = .ok (.ireturn, 1) := by decide +kernel
theorem d_Re_lower_0 : decode prog_9_method_3_code 0 = .ok (.aload_n 0, 1) := by decide +kernel
theorem d_Re_lower_1 : decode prog_9_method_3_code 1 = .ok (.aload_n 1, 1) := by decide +kernel
theorem d_Re_lower_2 : decode prog_9_method_3_code 2 = .ok (.getfield 43, 3) := by decide +kernel
theorem d_Re_lower_5 : decode prog_9_method_3_code 5 = .ok (.aload_n 1, 1) := by decide +kernel
theorem d_Re_lower_6 : decode prog_9_method_3_code 6 = .ok (.getfield 48, 3) := by decide +kernel
theorem d_Re_lower_9 : decode prog_9_method_3_code 9 = .ok (.invokevirtual 59, 3) := by decide +kernel
theorem d_Re_lower_12 : decode prog_9_method_3_code 12 = .ok (.astore_n 2, 1) := by decide +kernel
theorem d_Re_lower_13 : decode prog_9_method_3_code 13 = .ok (.aload_n 2, 1) := by decide +kernel
theorem d_Re_lower_14 : decode prog_9_method_3_code 14 = .ok (.invokevirtual 63, 3) := by decide +kernel
theorem d_Re_lower_17 : decode prog_9_method_3_code 17 = .ok (.ifCond .ne 10, 3) := by decide +kernel
theorem d_Re_lower_20 : decode prog_9_method_3_code 20 = .ok (.aload_n 2, 1) := by decide +kernel
theorem d_Re_lower_21 : decode prog_9_method_3_code 21 = .ok (.invokevirtual 67, 3) := by decide +kernel
theorem d_Re_lower_24 : decode prog_9_method_3_code 24 = .ok (.ifCond .eq 4, 3) := by decide +kernel
theorem d_Re_lower_27 : decode prog_9_method_3_code 27 = .ok (.return_, 1) := by decide +kernel
theorem d_Re_lower_28 : decode prog_9_method_3_code 28 = .ok (.aload_n 1, 1) := by decide +kernel
theorem d_Re_lower_29 : decode prog_9_method_3_code 29 = .ok (.getfield 43, 3) := by decide +kernel
theorem d_Re_lower_32 : decode prog_9_method_3_code 32 = .ok (.aload_n 2, 1) := by decide +kernel
theorem d_Re_lower_33 : decode prog_9_method_3_code 33 = .ok (.aload_n 0, 1) := by decide +kernel
theorem d_Re_lower_34 : decode prog_9_method_3_code 34 = .ok (.getfield 21, 3) := by decide +kernel
theorem d_Re_lower_37 : decode prog_9_method_3_code 37 = .ok (.aload_n 0, 1) := by decide +kernel
theorem d_Re_lower_38 : decode prog_9_method_3_code 38 = .ok (.getfield 24, 3) := by decide +kernel
theorem d_Re_lower_41 : decode prog_9_method_3_code 41 = .ok (.invokevirtual 70, 3) := by decide +kernel
theorem d_Re_lower_44 : decode prog_9_method_3_code 44 = .ok (.aload_n 1, 1) := by decide +kernel
theorem d_Re_lower_45 : decode prog_9_method_3_code 45 = .ok (.getfield 43, 3) := by decide +kernel
theorem d_Re_lower_48 : decode prog_9_method_3_code 48 = .ok (.aload_n 0, 1) := by decide +kernel
theorem d_Re_lower_49 : decode prog_9_method_3_code 49 = .ok (.getfield 21, 3) := by decide +kernel
theorem d_Re_lower_52 : decode prog_9_method_3_code 52 = .ok (.invokevirtual 74, 3) := by decide +kernel
theorem d_Re_lower_55 : decode prog_9_method_3_code 55 = .ok (.aload_n 1, 1) := by decide +kernel
theorem d_Re_lower_56 : decode prog_9_method_3_code 56 = .ok (.getfield 48, 3) := by decide +kernel
theorem d_Re_lower_59 : decode prog_9_method_3_code 59 = .ok (.aload_n 2, 1) := by decide +kernel
theorem d_Re_lower_60 : decode prog_9_method_3_code 60 = .ok (.aload_n 0, 1) := by decide +kernel
theorem d_Re_lower_61 : decode prog_9_method_3_code 61 = .ok (.getfield 21, 3) := by decide +kernel
theorem d_Re_lower_64 : decode prog_9_method_3_code 64 = .ok (.aload_n 0, 1) := by decide +kernel
theorem d_Re_lower_65 : decode prog_9_method_3_code 65 = .ok (.getfield 24, 3) := by decide +kernel
theorem d_Re_lower_68 : decode prog_9_method_3_code 68 = .ok (.invokevirtual 70, 3) := by decide +kernel
theorem d_Re_lower_71 : decode prog_9_method_3_code 71 = .ok (.aload_n 1, 1) := by decide +kernel
theorem d_Re_lower_72 : decode prog_9_method_3_code 72 = .ok (.getfield 48, 3) := by decide +kernel
theorem d_Re_lower_75 : decode prog_9_method_3_code 75 = .ok (.aload_n 0, 1) := by decide +kernel
theorem d_Re_lower_76 : decode prog_9_method_3_code 76 = .ok (.getfield 21, 3) := by decide +kernel
theorem d_Re_lower_79 : decode prog_9_method_3_code 79 = .ok (.invokevirtual 74, 3) := by decide +kernel
theorem d_Re_lower_82 : decode prog_9_method_3_code 82 = .ok (.return_, 1) := by decide +kernel
theorem d_Re_commonOf_0 : decode prog_9_method_4_code 0 = .ok (.aload_n 0, 1) := by decide +kernel
theorem d_Re_commonOf_1 : decode prog_9_method_4_code 1 = .ok (.getfield 12, 3) := by decide +kernel
theorem d_Re_commonOf_4 : decode prog_9_method_4_code 4 = .ok (.astore_n 3, 1) := by decide +kernel
theorem d_Re_commonOf_5 : decode prog_9_method_4_code 5 = .ok (.aload_n 0, 1) := by decide +kernel
theorem d_Re_commonOf_6 : decode prog_9_method_4_code 6 = .ok (.getfield 18, 3) := by decide +kernel
theorem d_Re_commonOf_9 : decode prog_9_method_4_code 9 = .ok (.astore 4, 2) := by decide +kernel
theorem d_Re_commonOf_11 : decode prog_9_method_4_code 11 = .ok (.aload_n 3, 1) := by decide +kernel
theorem d_Re_commonOf_12 : decode prog_9_method_4_code 12 = .ok (.aload_n 1, 1) := by decide +kernel
theorem d_Re_commonOf_13 : decode prog_9_method_4_code 13 = .ok (.invokevirtual 74, 3) := by decide +kernel
theorem d_Re_commonOf_16 : decode prog_9_method_4_code 16 = .ok (.aload 4, 2) := by decide +kernel
theorem d_Re_commonOf_18 : decode prog_9_method_4_code 18 = .ok (.aload_n 2, 1) := by decide +kernel
theorem d_Re_commonOf_19 : decode prog_9_method_4_code 19 = .ok (.invokevirtual 74, 3) := by decide +kernel
theorem d_Re_commonOf_22 : decode prog_9_method_4_code 22 = .ok (.iconst 0, 1) := by decide +kernel
theorem d_Re_commonOf_23 : decode prog_9_method_4_code 23 = .ok (.istore 5, 2) := by decide +kernel
theorem d_Re_commonOf_25 : decode prog_9_method_4_code 25 = .ok (.iload 5, 2) := by decide +kernel
theorem d_Re_commonOf_27 : decode prog_9_method_4_code 27 = .ok (.sipush 10000, 3) := by decide +kernel
theorem d_Re_commonOf_30 : decode prog_9_method_4_code 30 = .ok (.if_icmp .ge 74, 3) := by decide +kernel
theorem d_Re_commonOf_33 : decode prog_9_method_4_code 33 = .ok (.aload 4, 2) := by decide +kernel
theorem d_Re_commonOf_35 : decode prog_9_method_4_code 35 = .ok (.invokevirtual 63, 3) := by decide +kernel
theorem d_Re_commonOf_38 : decode prog_9_method_4_code 38 = .ok (.ifCond .ne 66, 3) := by decide +kernel
theorem d_Re_commonOf_41 : decode prog_9_method_4_code 41 = .ok (.aload_n 3, 1) := by decide +kernel
theorem d_Re_commonOf_42 : decode prog_9_method_4_code 42 = .ok (.invokevirtual 78, 3) := by decide +kernel
theorem d_Re_commonOf_45 : decode prog_9_method_4_code 45 = .ok (.ifCond .eq 29, 3) := by decide +kernel
theorem d_Re_commonOf_48 : decode prog_9_method_4_code 48 = .ok (.aload 4, 2) := by decide +kernel
theorem d_Re_commonOf_50 : decode prog_9_method_4_code 50 = .ok (.invokevirtual 78, 3) := by decide +kernel
theorem d_Re_commonOf_53 : decode prog_9_method_4_code 53 = .ok (.ifCond .eq 21, 3) := by decide +kernel
theorem d_Re_commonOf_56 : decode prog_9_method_4_code 56 = .ok (.aload_n 3, 1) := by decide +kernel
theorem d_Re_commonOf_57 : decode prog_9_method_4_code 57 = .ok (.aload_n 3, 1) := by decide +kernel
theorem d_Re_commonOf_58 : decode prog_9_method_4_code 58 = .ok (.invokevirtual 81, 3) := by decide +kernel
theorem d_Re_commonOf_61 : decode prog_9_method_4_code 61 = .ok (.aload 4, 2) := by decide +kernel
theorem d_Re_commonOf_63 : decode prog_9_method_4_code 63 = .ok (.invokevirtual 81, 3) := by decide +kernel
theorem d_Re_commonOf_66 : decode prog_9_method_4_code 66 = .ok (.invokestatic 85, 3) := by decide +kernel
theorem d_Re_commonOf_69 : decode prog_9_method_4_code 69 = .ok (.invokevirtual 88, 3) := by decide +kernel
theorem d_Re_commonOf_72 : decode prog_9_method_4_code 72 = .ok (.aload_n 3, 1) := by decide +kernel
theorem d_Re_commonOf_73 : decode prog_9_method_4_code 73 = .ok (.areturn, 1) := by decide +kernel
theorem d_Re_commonOf_74 : decode prog_9_method_4_code 74 = .ok (.aload_n 3, 1) := by decide +kernel
theorem d_Re_commonOf_75 : decode prog_9_method_4_code 75 = .ok (.aload 4, 2) := by decide +kernel
theorem d_Re_commonOf_77 : decode prog_9_method_4_code 77 = .ok (.aload_n 0, 1) := by decide +kernel
theorem d_Re_commonOf_78 : decode prog_9_method_4_code 78 = .ok (.getfield 21, 3) := by decide +kernel
theorem d_Re_commonOf_81 : decode prog_9_method_4_code 81 = .ok (.aload_n 0, 1) := by decide +kernel
theorem d_Re_commonOf_82 : decode prog_9_method_4_code 82 = .ok (.getfield 24, 3) := by decide +kernel
theorem d_Re_commonOf_85 : decode prog_9_method_4_code 85 = .ok (.invokevirtual 70, 3) := by decide +kernel
theorem d_Re_commonOf_88 : decode prog_9_method_4_code 88 = .ok (.aload_n 3, 1) := by decide +kernel
theorem d_Re_commonOf_89 : decode prog_9_method_4_code 89 = .ok (.astore 6, 2) := by decide +kernel
theorem d_Re_commonOf_91 : decode prog_9_method_4_code 91 = .ok (.aload 4, 2) := by decide +kernel
theorem d_Re_commonOf_93 : decode prog_9_method_4_code 93 = .ok (.astore_n 3, 1) := by decide +kernel
theorem d_Re_commonOf_94 : decode prog_9_method_4_code 94 = .ok (.aload 6, 2) := by decide +kernel
theorem d_Re_commonOf_96 : decode prog_9_method_4_code 96 = .ok (.astore 4, 2) := by decide +kernel
theorem d_Re_commonOf_98 : decode prog_9_method_4_code 98 = .ok (.iinc 5 1, 3) := by decide +kernel
theorem d_Re_commonOf_101 : decode prog_9_method_4_code 101 = .ok (.goto (-76), 3) := by decide +kernel
theorem d_Re_commonOf_104 : decode prog_9_method_4_code 104 = .ok (.aload_n 3, 1) := by decide +kernel
theorem d_Re_commonOf_105 : decode prog_9_method_4_code 105 = .ok (.areturn, 1) := by decide +kernel
theorem d_Re_add_0 : decode prog_9_method_5_code 0 = .ok (.lload_n 2, 1) := by decide +kernel
theorem d_Re_add_1 : decode prog_9_method_5_code 1 = .ok (.lconst 0, 1) := by decide +kernel
theorem d_Re_add_2 : decode prog_9_method_5_code 2 = .ok (.lcmp, 1) := by decide +kernel
theorem d_Re_add_3 : decode prog_9_method_5_code 3 = .ok (.ifCond .lt 9, 3) := by decide +kernel
theorem d_Re_add_6 : decode prog_9_method_5_code 6 = .ok (.iload 4, 2) := by decide +kernel
theorem d_Re_add_8 : decode prog_9_method_5_code 8 = .ok (.iconst 1, 1) := by decide +kernel
theorem d_Re_add_9 : decode prog_9_method_5_code 9 = .ok (.if_icmp .ge 4, 3) := by decide +kernel
theorem d_Re_add_12 : decode prog_9_method_5_code 12 = .ok (.return_, 1) := by decide +kernel
theorem d_Re_add_13 : decode prog_9_method_5_code 13 = .ok (.aload_n 0, 1) := by decide +kernel
theorem d_Re_add_14 : decode prog_9_method_5_code 14 = .ok (.getfield 30, 3) := by decide +kernel
theorem d_Re_add_17 : decode prog_9_method_5_code 17 = .ok (.lload_n 2, 1) := by decide +kernel
theorem d_Re_add_18 : decode prog_9_method_5_code 18 = .ok (.invokevirtual 88, 3) := by decide +kernel
theorem d_Re_add_21 : decode prog_9_method_5_code 21 = .ok (.aload_n 0, 1) := by decide +kernel
theorem d_Re_add_22 : decode prog_9_method_5_code 22 = .ok (.getfield 27, 3) := by decide +kernel
theorem d_Re_add_25 : decode prog_9_method_5_code 25 = .ok (.aload_n 1, 1) := by decide +kernel
theorem d_Re_add_26 : decode prog_9_method_5_code 26 = .ok (.getfield 48, 3) := by decide +kernel
theorem d_Re_add_29 : decode prog_9_method_5_code 29 = .ok (.aload_n 0, 1) := by decide +kernel
theorem d_Re_add_30 : decode prog_9_method_5_code 30 = .ok (.getfield 30, 3) := by decide +kernel
theorem d_Re_add_33 : decode prog_9_method_5_code 33 = .ok (.invokevirtual 51, 3) := by decide +kernel
theorem d_Re_add_36 : decode prog_9_method_5_code 36 = .ok (.aload_n 1, 1) := by decide +kernel
theorem d_Re_add_37 : decode prog_9_method_5_code 37 = .ok (.getfield 43, 3) := by decide +kernel
theorem d_Re_add_40 : decode prog_9_method_5_code 40 = .ok (.iload 4, 2) := by decide +kernel
theorem d_Re_add_42 : decode prog_9_method_5_code 42 = .ok (.invokevirtual 92, 3) := by decide +kernel
theorem d_Re_add_45 : decode prog_9_method_5_code 45 = .ok (.aload_n 1, 1) := by decide +kernel
theorem d_Re_add_46 : decode prog_9_method_5_code 46 = .ok (.getfield 43, 3) := by decide +kernel
theorem d_Re_add_49 : decode prog_9_method_5_code 49 = .ok (.aload_n 0, 1) := by decide +kernel
theorem d_Re_add_50 : decode prog_9_method_5_code 50 = .ok (.getfield 27, 3) := by decide +kernel
theorem d_Re_add_53 : decode prog_9_method_5_code 53 = .ok (.invokevirtual 96, 3) := by decide +kernel
theorem d_Re_add_56 : decode prog_9_method_5_code 56 = .ok (.aload_n 1, 1) := by decide +kernel
theorem d_Re_add_57 : decode prog_9_method_5_code 57 = .ok (.getfield 48, 3) := by decide +kernel
theorem d_Re_add_60 : decode prog_9_method_5_code 60 = .ok (.iload 4, 2) := by decide +kernel
theorem d_Re_add_62 : decode prog_9_method_5_code 62 = .ok (.invokevirtual 92, 3) := by decide +kernel
theorem d_Re_add_65 : decode prog_9_method_5_code 65 = .ok (.return_, 1) := by decide +kernel
theorem d_Re_shareOut_0 : decode prog_9_method_6_code 0 = .ok (.aload_n 0, 1) := by decide +kernel
theorem d_Re_shareOut_1 : decode prog_9_method_6_code 1 = .ok (.getfield 36, 3) := by decide +kernel
theorem d_Re_shareOut_4 : decode prog_9_method_6_code 4 = .ok (.lconst 1, 1) := by decide +kernel
theorem d_Re_shareOut_5 : decode prog_9_method_6_code 5 = .ok (.invokevirtual 88, 3) := by decide +kernel
theorem d_Re_shareOut_8 : decode prog_9_method_6_code 8 = .ok (.iconst 0, 1) := by decide +kernel
theorem d_Re_shareOut_9 : decode prog_9_method_6_code 9 = .ok (.istore_n 2, 1) := by decide +kernel
theorem d_Re_shareOut_10 : decode prog_9_method_6_code 10 = .ok (.iload_n 2, 1) := by decide +kernel
theorem d_Re_shareOut_11 : decode prog_9_method_6_code 11 = .ok (.aload_n 1, 1) := by decide +kernel
theorem d_Re_shareOut_12 : decode prog_9_method_6_code 12 = .ok (.getfield 99, 3) := by decide +kernel
theorem d_Re_shareOut_15 : decode prog_9_method_6_code 15 = .ok (.if_icmp .ge 81, 3) := by decide +kernel
theorem d_Re_shareOut_18 : decode prog_9_method_6_code 18 = .ok (.aload_n 1, 1) := by decide +kernel
theorem d_Re_shareOut_19 : decode prog_9_method_6_code 19 = .ok (.getfield 105, 3) := by decide +kernel
theorem d_Re_shareOut_22 : decode prog_9_method_6_code 22 = .ok (.iload_n 2, 1) := by decide +kernel
theorem d_Re_shareOut_23 : decode prog_9_method_6_code 23 = .ok (.aaload, 1) := by decide +kernel
theorem d_Re_shareOut_24 : decode prog_9_method_6_code 24 = .ok (.getfield 48, 3) := by decide +kernel
theorem d_Re_shareOut_27 : decode prog_9_method_6_code 27 = .ok (.astore_n 3, 1) := by decide +kernel
theorem d_Re_shareOut_28 : decode prog_9_method_6_code 28 = .ok (.aload_n 0, 1) := by decide +kernel
theorem d_Re_shareOut_29 : decode prog_9_method_6_code 29 = .ok (.aload_n 0, 1) := by decide +kernel
theorem d_Re_shareOut_30 : decode prog_9_method_6_code 30 = .ok (.getfield 36, 3) := by decide +kernel
theorem d_Re_shareOut_33 : decode prog_9_method_6_code 33 = .ok (.aload_n 3, 1) := by decide +kernel
theorem d_Re_shareOut_34 : decode prog_9_method_6_code 34 = .ok (.invokevirtual 59, 3) := by decide +kernel
theorem d_Re_shareOut_37 : decode prog_9_method_6_code 37 = .ok (.astore 4, 2) := by decide +kernel
theorem d_Re_shareOut_39 : decode prog_9_method_6_code 39 = .ok (.aload_n 0, 1) := by decide +kernel
theorem d_Re_shareOut_40 : decode prog_9_method_6_code 40 = .ok (.getfield 30, 3) := by decide +kernel
theorem d_Re_shareOut_43 : decode prog_9_method_6_code 43 = .ok (.aload_n 3, 1) := by decide +kernel
theorem d_Re_shareOut_44 : decode prog_9_method_6_code 44 = .ok (.invokevirtual 74, 3) := by decide +kernel
theorem d_Re_shareOut_47 : decode prog_9_method_6_code 47 = .ok (.aload_n 0, 1) := by decide +kernel
theorem d_Re_shareOut_48 : decode prog_9_method_6_code 48 = .ok (.getfield 30, 3) := by decide +kernel
theorem d_Re_shareOut_51 : decode prog_9_method_6_code 51 = .ok (.aload 4, 2) := by decide +kernel
theorem d_Re_shareOut_53 : decode prog_9_method_6_code 53 = .ok (.aload_n 0, 1) := by decide +kernel
theorem d_Re_shareOut_54 : decode prog_9_method_6_code 54 = .ok (.getfield 21, 3) := by decide +kernel
theorem d_Re_shareOut_57 : decode prog_9_method_6_code 57 = .ok (.aload_n 0, 1) := by decide +kernel
theorem d_Re_shareOut_58 : decode prog_9_method_6_code 58 = .ok (.getfield 24, 3) := by decide +kernel
theorem d_Re_shareOut_61 : decode prog_9_method_6_code 61 = .ok (.invokevirtual 70, 3) := by decide +kernel
theorem d_Re_shareOut_64 : decode prog_9_method_6_code 64 = .ok (.aload_n 0, 1) := by decide +kernel
theorem d_Re_shareOut_65 : decode prog_9_method_6_code 65 = .ok (.getfield 27, 3) := by decide +kernel
theorem d_Re_shareOut_68 : decode prog_9_method_6_code 68 = .ok (.aload_n 0, 1) := by decide +kernel
theorem d_Re_shareOut_69 : decode prog_9_method_6_code 69 = .ok (.getfield 36, 3) := by decide +kernel
theorem d_Re_shareOut_72 : decode prog_9_method_6_code 72 = .ok (.aload_n 0, 1) := by decide +kernel
theorem d_Re_shareOut_73 : decode prog_9_method_6_code 73 = .ok (.getfield 21, 3) := by decide +kernel
theorem d_Re_shareOut_76 : decode prog_9_method_6_code 76 = .ok (.invokevirtual 51, 3) := by decide +kernel
theorem d_Re_shareOut_79 : decode prog_9_method_6_code 79 = .ok (.aload_n 0, 1) := by decide +kernel
theorem d_Re_shareOut_80 : decode prog_9_method_6_code 80 = .ok (.getfield 36, 3) := by decide +kernel
theorem d_Re_shareOut_83 : decode prog_9_method_6_code 83 = .ok (.aload_n 0, 1) := by decide +kernel
theorem d_Re_shareOut_84 : decode prog_9_method_6_code 84 = .ok (.getfield 27, 3) := by decide +kernel
theorem d_Re_shareOut_87 : decode prog_9_method_6_code 87 = .ok (.invokevirtual 74, 3) := by decide +kernel
theorem d_Re_shareOut_90 : decode prog_9_method_6_code 90 = .ok (.iinc 2 1, 3) := by decide +kernel
theorem d_Re_shareOut_93 : decode prog_9_method_6_code 93 = .ok (.goto (-83), 3) := by decide +kernel
theorem d_Re_shareOut_96 : decode prog_9_method_6_code 96 = .ok (.iconst 0, 1) := by decide +kernel
theorem d_Re_shareOut_97 : decode prog_9_method_6_code 97 = .ok (.istore_n 2, 1) := by decide +kernel
theorem d_Re_shareOut_98 : decode prog_9_method_6_code 98 = .ok (.iload_n 2, 1) := by decide +kernel
theorem d_Re_shareOut_99 : decode prog_9_method_6_code 99 = .ok (.aload_n 1, 1) := by decide +kernel
theorem d_Re_shareOut_100 : decode prog_9_method_6_code 100 = .ok (.getfield 99, 3) := by decide +kernel
theorem d_Re_shareOut_103 : decode prog_9_method_6_code 103 = .ok (.if_icmp .ge 66, 3) := by decide +kernel
theorem d_Re_shareOut_106 : decode prog_9_method_6_code 106 = .ok (.aload_n 0, 1) := by decide +kernel
theorem d_Re_shareOut_107 : decode prog_9_method_6_code 107 = .ok (.getfield 30, 3) := by decide +kernel
theorem d_Re_shareOut_110 : decode prog_9_method_6_code 110 = .ok (.aload_n 0, 1) := by decide +kernel
theorem d_Re_shareOut_111 : decode prog_9_method_6_code 111 = .ok (.getfield 36, 3) := by decide +kernel
theorem d_Re_shareOut_114 : decode prog_9_method_6_code 114 = .ok (.invokevirtual 74, 3) := by decide +kernel
theorem d_Re_shareOut_117 : decode prog_9_method_6_code 117 = .ok (.aload_n 0, 1) := by decide +kernel
theorem d_Re_shareOut_118 : decode prog_9_method_6_code 118 = .ok (.getfield 30, 3) := by decide +kernel
theorem d_Re_shareOut_121 : decode prog_9_method_6_code 121 = .ok (.aload_n 1, 1) := by decide +kernel
theorem d_Re_shareOut_122 : decode prog_9_method_6_code 122 = .ok (.getfield 105, 3) := by decide +kernel
theorem d_Re_shareOut_125 : decode prog_9_method_6_code 125 = .ok (.iload_n 2, 1) := by decide +kernel
theorem d_Re_shareOut_126 : decode prog_9_method_6_code 126 = .ok (.aaload, 1) := by decide +kernel
theorem d_Re_shareOut_127 : decode prog_9_method_6_code 127 = .ok (.getfield 48, 3) := by decide +kernel
theorem d_Re_shareOut_130 : decode prog_9_method_6_code 130 = .ok (.aload_n 0, 1) := by decide +kernel
theorem d_Re_shareOut_131 : decode prog_9_method_6_code 131 = .ok (.getfield 21, 3) := by decide +kernel
theorem d_Re_shareOut_134 : decode prog_9_method_6_code 134 = .ok (.aload_n 0, 1) := by decide +kernel
theorem d_Re_shareOut_135 : decode prog_9_method_6_code 135 = .ok (.getfield 24, 3) := by decide +kernel
theorem d_Re_shareOut_138 : decode prog_9_method_6_code 138 = .ok (.invokevirtual 70, 3) := by decide +kernel
theorem d_Re_shareOut_141 : decode prog_9_method_6_code 141 = .ok (.aload_n 0, 1) := by decide +kernel
theorem d_Re_shareOut_142 : decode prog_9_method_6_code 142 = .ok (.getfield 39, 3) := by decide +kernel
theorem d_Re_shareOut_145 : decode prog_9_method_6_code 145 = .ok (.iload_n 2, 1) := by decide +kernel
theorem d_Re_shareOut_146 : decode prog_9_method_6_code 146 = .ok (.aaload, 1) := by decide +kernel
theorem d_Re_shareOut_147 : decode prog_9_method_6_code 147 = .ok (.aload_n 1, 1) := by decide +kernel
theorem d_Re_shareOut_148 : decode prog_9_method_6_code 148 = .ok (.getfield 105, 3) := by decide +kernel
theorem d_Re_shareOut_151 : decode prog_9_method_6_code 151 = .ok (.iload_n 2, 1) := by decide +kernel
theorem d_Re_shareOut_152 : decode prog_9_method_6_code 152 = .ok (.aaload, 1) := by decide +kernel
theorem d_Re_shareOut_153 : decode prog_9_method_6_code 153 = .ok (.getfield 43, 3) := by decide +kernel
theorem d_Re_shareOut_156 : decode prog_9_method_6_code 156 = .ok (.aload_n 0, 1) := by decide +kernel
theorem d_Re_shareOut_157 : decode prog_9_method_6_code 157 = .ok (.getfield 21, 3) := by decide +kernel
theorem d_Re_shareOut_160 : decode prog_9_method_6_code 160 = .ok (.invokevirtual 51, 3) := by decide +kernel
theorem d_Re_shareOut_163 : decode prog_9_method_6_code 163 = .ok (.iinc 2 1, 3) := by decide +kernel
theorem d_Re_shareOut_166 : decode prog_9_method_6_code 166 = .ok (.goto (-68), 3) := by decide +kernel
theorem d_Re_shareOut_169 : decode prog_9_method_6_code 169 = .ok (.return_, 1) := by decide +kernel
theorem d_Re_reckonCost_0 : decode prog_9_method_7_code 0 = .ok (.aload_n 0, 1) := by decide +kernel
theorem d_Re_reckonCost_1 : decode prog_9_method_7_code 1 = .ok (.aload_n 1, 1) := by decide +kernel
theorem d_Re_reckonCost_2 : decode prog_9_method_7_code 2 = .ok (.invokevirtual 109, 3) := by decide +kernel
theorem d_Re_reckonCost_5 : decode prog_9_method_7_code 5 = .ok (.aload_n 0, 1) := by decide +kernel
theorem d_Re_reckonCost_6 : decode prog_9_method_7_code 6 = .ok (.getfield 33, 3) := by decide +kernel
theorem d_Re_reckonCost_9 : decode prog_9_method_7_code 9 = .ok (.lconst 0, 1) := by decide +kernel
theorem d_Re_reckonCost_10 : decode prog_9_method_7_code 10 = .ok (.invokevirtual 88, 3) := by decide +kernel
theorem d_Re_reckonCost_13 : decode prog_9_method_7_code 13 = .ok (.iconst 0, 1) := by decide +kernel
theorem d_Re_reckonCost_14 : decode prog_9_method_7_code 14 = .ok (.istore_n 2, 1) := by decide +kernel
theorem d_Re_reckonCost_15 : decode prog_9_method_7_code 15 = .ok (.iload_n 2, 1) := by decide +kernel
theorem d_Re_reckonCost_16 : decode prog_9_method_7_code 16 = .ok (.aload_n 1, 1) := by decide +kernel
theorem d_Re_reckonCost_17 : decode prog_9_method_7_code 17 = .ok (.getfield 99, 3) := by decide +kernel
theorem d_Re_reckonCost_20 : decode prog_9_method_7_code 20 = .ok (.if_icmp .ge 76, 3) := by decide +kernel
theorem d_Re_reckonCost_23 : decode prog_9_method_7_code 23 = .ok (.aload_n 0, 1) := by decide +kernel
theorem d_Re_reckonCost_24 : decode prog_9_method_7_code 24 = .ok (.getfield 30, 3) := by decide +kernel
theorem d_Re_reckonCost_27 : decode prog_9_method_7_code 27 = .ok (.aload_n 0, 1) := by decide +kernel
theorem d_Re_reckonCost_28 : decode prog_9_method_7_code 28 = .ok (.getfield 39, 3) := by decide +kernel
theorem d_Re_reckonCost_31 : decode prog_9_method_7_code 31 = .ok (.iload_n 2, 1) := by decide +kernel
theorem d_Re_reckonCost_32 : decode prog_9_method_7_code 32 = .ok (.aaload, 1) := by decide +kernel
theorem d_Re_reckonCost_33 : decode prog_9_method_7_code 33 = .ok (.aload_n 0, 1) := by decide +kernel
theorem d_Re_reckonCost_34 : decode prog_9_method_7_code 34 = .ok (.getfield 39, 3) := by decide +kernel
theorem d_Re_reckonCost_37 : decode prog_9_method_7_code 37 = .ok (.iload_n 2, 1) := by decide +kernel
theorem d_Re_reckonCost_38 : decode prog_9_method_7_code 38 = .ok (.aaload, 1) := by decide +kernel
theorem d_Re_reckonCost_39 : decode prog_9_method_7_code 39 = .ok (.invokevirtual 51, 3) := by decide +kernel
theorem d_Re_reckonCost_42 : decode prog_9_method_7_code 42 = .ok (.aload_n 0, 1) := by decide +kernel
theorem d_Re_reckonCost_43 : decode prog_9_method_7_code 43 = .ok (.getfield 27, 3) := by decide +kernel
theorem d_Re_reckonCost_46 : decode prog_9_method_7_code 46 = .ok (.aload_n 0, 1) := by decide +kernel
theorem d_Re_reckonCost_47 : decode prog_9_method_7_code 47 = .ok (.getfield 30, 3) := by decide +kernel
theorem d_Re_reckonCost_50 : decode prog_9_method_7_code 50 = .ok (.aload_n 0, 1) := by decide +kernel
theorem d_Re_reckonCost_51 : decode prog_9_method_7_code 51 = .ok (.getfield 39, 3) := by decide +kernel
theorem d_Re_reckonCost_54 : decode prog_9_method_7_code 54 = .ok (.iload_n 2, 1) := by decide +kernel
theorem d_Re_reckonCost_55 : decode prog_9_method_7_code 55 = .ok (.aaload, 1) := by decide +kernel
theorem d_Re_reckonCost_56 : decode prog_9_method_7_code 56 = .ok (.invokevirtual 51, 3) := by decide +kernel
theorem d_Re_reckonCost_59 : decode prog_9_method_7_code 59 = .ok (.aload_n 0, 1) := by decide +kernel
theorem d_Re_reckonCost_60 : decode prog_9_method_7_code 60 = .ok (.getfield 27, 3) := by decide +kernel
theorem d_Re_reckonCost_63 : decode prog_9_method_7_code 63 = .ok (.aload_n 1, 1) := by decide +kernel
theorem d_Re_reckonCost_64 : decode prog_9_method_7_code 64 = .ok (.getfield 113, 3) := by decide +kernel
theorem d_Re_reckonCost_67 : decode prog_9_method_7_code 67 = .ok (.iload_n 2, 1) := by decide +kernel
theorem d_Re_reckonCost_68 : decode prog_9_method_7_code 68 = .ok (.iaload, 1) := by decide +kernel
theorem d_Re_reckonCost_69 : decode prog_9_method_7_code 69 = .ok (.aload_n 1, 1) := by decide +kernel
theorem d_Re_reckonCost_70 : decode prog_9_method_7_code 70 = .ok (.getfield 117, 3) := by decide +kernel
theorem d_Re_reckonCost_73 : decode prog_9_method_7_code 73 = .ok (.iload_n 2, 1) := by decide +kernel
theorem d_Re_reckonCost_74 : decode prog_9_method_7_code 74 = .ok (.iaload, 1) := by decide +kernel
theorem d_Re_reckonCost_75 : decode prog_9_method_7_code 75 = .ok (.isub, 1) := by decide +kernel
theorem d_Re_reckonCost_76 : decode prog_9_method_7_code 76 = .ok (.invokevirtual 92, 3) := by decide +kernel
theorem d_Re_reckonCost_79 : decode prog_9_method_7_code 79 = .ok (.aload_n 0, 1) := by decide +kernel
theorem d_Re_reckonCost_80 : decode prog_9_method_7_code 80 = .ok (.getfield 33, 3) := by decide +kernel
theorem d_Re_reckonCost_83 : decode prog_9_method_7_code 83 = .ok (.aload_n 0, 1) := by decide +kernel
theorem d_Re_reckonCost_84 : decode prog_9_method_7_code 84 = .ok (.getfield 27, 3) := by decide +kernel
theorem d_Re_reckonCost_87 : decode prog_9_method_7_code 87 = .ok (.invokevirtual 96, 3) := by decide +kernel
theorem d_Re_reckonCost_90 : decode prog_9_method_7_code 90 = .ok (.iinc 2 1, 3) := by decide +kernel
theorem d_Re_reckonCost_93 : decode prog_9_method_7_code 93 = .ok (.goto (-78), 3) := by decide +kernel
theorem d_Re_reckonCost_96 : decode prog_9_method_7_code 96 = .ok (.aload_n 1, 1) := by decide +kernel
theorem d_Re_reckonCost_97 : decode prog_9_method_7_code 97 = .ok (.getfield 120, 3) := by decide +kernel
theorem d_Re_reckonCost_100 : decode prog_9_method_7_code 100 = .ok (.getfield 43, 3) := by decide +kernel
theorem d_Re_reckonCost_103 : decode prog_9_method_7_code 103 = .ok (.aload_n 0, 1) := by decide +kernel
theorem d_Re_reckonCost_104 : decode prog_9_method_7_code 104 = .ok (.getfield 33, 3) := by decide +kernel
theorem d_Re_reckonCost_107 : decode prog_9_method_7_code 107 = .ok (.invokevirtual 74, 3) := by decide +kernel
theorem d_Re_reckonCost_110 : decode prog_9_method_7_code 110 = .ok (.aload_n 0, 1) := by decide +kernel
theorem d_Re_reckonCost_111 : decode prog_9_method_7_code 111 = .ok (.getfield 30, 3) := by decide +kernel
theorem d_Re_reckonCost_114 : decode prog_9_method_7_code 114 = .ok (.aload_n 0, 1) := by decide +kernel
theorem d_Re_reckonCost_115 : decode prog_9_method_7_code 115 = .ok (.getfield 36, 3) := by decide +kernel
theorem d_Re_reckonCost_118 : decode prog_9_method_7_code 118 = .ok (.aload_n 0, 1) := by decide +kernel
theorem d_Re_reckonCost_119 : decode prog_9_method_7_code 119 = .ok (.getfield 36, 3) := by decide +kernel
theorem d_Re_reckonCost_122 : decode prog_9_method_7_code 122 = .ok (.invokevirtual 51, 3) := by decide +kernel
theorem d_Re_reckonCost_125 : decode prog_9_method_7_code 125 = .ok (.aload_n 1, 1) := by decide +kernel
theorem d_Re_reckonCost_126 : decode prog_9_method_7_code 126 = .ok (.getfield 120, 3) := by decide +kernel
theorem d_Re_reckonCost_129 : decode prog_9_method_7_code 129 = .ok (.getfield 48, 3) := by decide +kernel
theorem d_Re_reckonCost_132 : decode prog_9_method_7_code 132 = .ok (.aload_n 0, 1) := by decide +kernel
theorem d_Re_reckonCost_133 : decode prog_9_method_7_code 133 = .ok (.getfield 30, 3) := by decide +kernel
theorem d_Re_reckonCost_136 : decode prog_9_method_7_code 136 = .ok (.aload_n 0, 1) := by decide +kernel
theorem d_Re_reckonCost_137 : decode prog_9_method_7_code 137 = .ok (.getfield 36, 3) := by decide +kernel
theorem d_Re_reckonCost_140 : decode prog_9_method_7_code 140 = .ok (.invokevirtual 51, 3) := by decide +kernel
theorem d_Re_reckonCost_143 : decode prog_9_method_7_code 143 = .ok (.aload_n 0, 1) := by decide +kernel
theorem d_Re_reckonCost_144 : decode prog_9_method_7_code 144 = .ok (.aload_n 1, 1) := by decide +kernel
theorem d_Re_reckonCost_145 : decode prog_9_method_7_code 145 = .ok (.getfield 120, 3) := by decide +kernel
theorem d_Re_reckonCost_148 : decode prog_9_method_7_code 148 = .ok (.invokevirtual 124, 3) := by decide +kernel
theorem d_Re_reckonCost_151 : decode prog_9_method_7_code 151 = .ok (.return_, 1) := by decide +kernel
theorem d_Re_orderOfWork_0 : decode prog_9_method_8_code 0 = .ok (.aload_n 0, 1) := by decide +kernel
theorem d_Re_orderOfWork_1 : decode prog_9_method_8_code 1 = .ok (.getfield 33, 3) := by decide +kernel
theorem d_Re_orderOfWork_4 : decode prog_9_method_8_code 4 = .ok (.lconst 0, 1) := by decide +kernel
theorem d_Re_orderOfWork_5 : decode prog_9_method_8_code 5 = .ok (.invokevirtual 88, 3) := by decide +kernel
theorem d_Re_orderOfWork_8 : decode prog_9_method_8_code 8 = .ok (.iconst 0, 1) := by decide +kernel
theorem d_Re_orderOfWork_9 : decode prog_9_method_8_code 9 = .ok (.istore 5, 2) := by decide +kernel
theorem d_Re_orderOfWork_11 : decode prog_9_method_8_code 11 = .ok (.iload 5, 2) := by decide +kernel
theorem d_Re_orderOfWork_13 : decode prog_9_method_8_code 13 = .ok (.aload_n 1, 1) := by decide +kernel
theorem d_Re_orderOfWork_14 : decode prog_9_method_8_code 14 = .ok (.getfield 99, 3) := by decide +kernel
theorem d_Re_orderOfWork_17 : decode prog_9_method_8_code 17 = .ok (.if_icmp .ge 58, 3) := by decide +kernel
theorem d_Re_orderOfWork_20 : decode prog_9_method_8_code 20 = .ok (.aload_n 1, 1) := by decide +kernel
theorem d_Re_orderOfWork_21 : decode prog_9_method_8_code 21 = .ok (.iload 5, 2) := by decide +kernel
theorem d_Re_orderOfWork_23 : decode prog_9_method_8_code 23 = .ok (.iload_n 2, 1) := by decide +kernel
theorem d_Re_orderOfWork_24 : decode prog_9_method_8_code 24 = .ok (.iload_n 3, 1) := by decide +kernel
theorem d_Re_orderOfWork_25 : decode prog_9_method_8_code 25 = .ok (.invokevirtual 128, 3) := by decide +kernel
theorem d_Re_orderOfWork_28 : decode prog_9_method_8_code 28 = .ok (.istore 6, 2) := by decide +kernel
theorem d_Re_orderOfWork_30 : decode prog_9_method_8_code 30 = .ok (.iload 6, 2) := by decide +kernel
theorem d_Re_orderOfWork_32 : decode prog_9_method_8_code 32 = .ok (.ifCond .le 37, 3) := by decide +kernel
theorem d_Re_orderOfWork_35 : decode prog_9_method_8_code 35 = .ok (.aload_n 0, 1) := by decide +kernel
theorem d_Re_orderOfWork_36 : decode prog_9_method_8_code 36 = .ok (.getfield 30, 3) := by decide +kernel
theorem d_Re_orderOfWork_39 : decode prog_9_method_8_code 39 = .ok (.aload_n 0, 1) := by decide +kernel
theorem d_Re_orderOfWork_40 : decode prog_9_method_8_code 40 = .ok (.getfield 39, 3) := by decide +kernel
theorem d_Re_orderOfWork_43 : decode prog_9_method_8_code 43 = .ok (.iload 5, 2) := by decide +kernel
theorem d_Re_orderOfWork_45 : decode prog_9_method_8_code 45 = .ok (.aaload, 1) := by decide +kernel
theorem d_Re_orderOfWork_46 : decode prog_9_method_8_code 46 = .ok (.invokevirtual 74, 3) := by decide +kernel
theorem d_Re_orderOfWork_49 : decode prog_9_method_8_code 49 = .ok (.aload_n 0, 1) := by decide +kernel
theorem d_Re_orderOfWork_50 : decode prog_9_method_8_code 50 = .ok (.getfield 30, 3) := by decide +kernel
theorem d_Re_orderOfWork_53 : decode prog_9_method_8_code 53 = .ok (.iload 6, 2) := by decide +kernel
theorem d_Re_orderOfWork_55 : decode prog_9_method_8_code 55 = .ok (.invokevirtual 92, 3) := by decide +kernel
theorem d_Re_orderOfWork_58 : decode prog_9_method_8_code 58 = .ok (.aload_n 0, 1) := by decide +kernel
theorem d_Re_orderOfWork_59 : decode prog_9_method_8_code 59 = .ok (.getfield 33, 3) := by decide +kernel
theorem d_Re_orderOfWork_62 : decode prog_9_method_8_code 62 = .ok (.aload_n 0, 1) := by decide +kernel
theorem d_Re_orderOfWork_63 : decode prog_9_method_8_code 63 = .ok (.getfield 30, 3) := by decide +kernel
theorem d_Re_orderOfWork_66 : decode prog_9_method_8_code 66 = .ok (.invokevirtual 96, 3) := by decide +kernel
theorem d_Re_orderOfWork_69 : decode prog_9_method_8_code 69 = .ok (.iinc 5 1, 3) := by decide +kernel
theorem d_Re_orderOfWork_72 : decode prog_9_method_8_code 72 = .ok (.goto (-61), 3) := by decide +kernel
theorem d_Re_orderOfWork_75 : decode prog_9_method_8_code 75 = .ok (.aload_n 0, 1) := by decide +kernel
theorem d_Re_orderOfWork_76 : decode prog_9_method_8_code 76 = .ok (.getfield 30, 3) := by decide +kernel
theorem d_Re_orderOfWork_79 : decode prog_9_method_8_code 79 = .ok (.aload_n 0, 1) := by decide +kernel
theorem d_Re_orderOfWork_80 : decode prog_9_method_8_code 80 = .ok (.getfield 36, 3) := by decide +kernel
theorem d_Re_orderOfWork_83 : decode prog_9_method_8_code 83 = .ok (.invokevirtual 74, 3) := by decide +kernel
theorem d_Re_orderOfWork_86 : decode prog_9_method_8_code 86 = .ok (.aload_n 0, 1) := by decide +kernel
theorem d_Re_orderOfWork_87 : decode prog_9_method_8_code 87 = .ok (.getfield 30, 3) := by decide +kernel
theorem d_Re_orderOfWork_90 : decode prog_9_method_8_code 90 = .ok (.iload 4, 2) := by decide +kernel
theorem d_Re_orderOfWork_92 : decode prog_9_method_8_code 92 = .ok (.invokevirtual 92, 3) := by decide +kernel
theorem d_Re_orderOfWork_95 : decode prog_9_method_8_code 95 = .ok (.aload_n 0, 1) := by decide +kernel
theorem d_Re_orderOfWork_96 : decode prog_9_method_8_code 96 = .ok (.getfield 33, 3) := by decide +kernel
theorem d_Re_orderOfWork_99 : decode prog_9_method_8_code 99 = .ok (.aload_n 0, 1) := by decide +kernel
theorem d_Re_orderOfWork_100 : decode prog_9_method_8_code 100 = .ok (.getfield 30, 3) := by decide +kernel
theorem d_Re_orderOfWork_103 : decode prog_9_method_8_code 103 = .ok (.invokevirtual 55, 3) := by decide +kernel
theorem d_Re_orderOfWork_106 : decode prog_9_method_8_code 106 = .ok (.ireturn, 1) := by decide +kernel
theorem d_Re_doesEnough_0 : decode prog_9_method_9_code 0 = .ok (.aload_n 0, 1) := by decide +kernel
theorem d_Re_doesEnough_1 : decode prog_9_method_9_code 1 = .ok (.aload_n 1, 1) := by decide +kernel
theorem d_Re_doesEnough_2 : decode prog_9_method_9_code 2 = .ok (.iload_n 2, 1) := by decide +kernel
theorem d_Re_doesEnough_3 : decode prog_9_method_9_code 3 = .ok (.iload_n 3, 1) := by decide +kernel
theorem d_Re_doesEnough_4 : decode prog_9_method_9_code 4 = .ok (.iload 4, 2) := by decide +kernel
theorem d_Re_doesEnough_6 : decode prog_9_method_9_code 6 = .ok (.invokevirtual 132, 3) := by decide +kernel
theorem d_Re_doesEnough_9 : decode prog_9_method_9_code 9 = .ok (.ifCond .lt 7, 3) := by decide +kernel
theorem d_Re_doesEnough_12 : decode prog_9_method_9_code 12 = .ok (.iconst 1, 1) := by decide +kernel
theorem d_Re_doesEnough_13 : decode prog_9_method_9_code 13 = .ok (.goto 4, 3) := by decide +kernel
theorem d_Re_doesEnough_16 : decode prog_9_method_9_code 16 = .ok (.iconst 0, 1) := by decide +kernel
theorem d_Re_doesEnough_17 : decode prog_9_method_9_code 17 = .ok (.ireturn, 1) := by decide +kernel
theorem d_Re_doesJust_0 : decode prog_9_method_10_code 0 = .ok (.aload_n 0, 1) := by decide +kernel
theorem d_Re_doesJust_1 : decode prog_9_method_10_code 1 = .ok (.aload_n 1, 1) := by decide +kernel
theorem d_Re_doesJust_2 : decode prog_9_method_10_code 2 = .ok (.iconst 0, 1) := by decide +kernel
theorem d_Re_doesJust_3 : decode prog_9_method_10_code 3 = .ok (.sipush 200, 3) := by decide +kernel
theorem d_Re_doesJust_6 : decode prog_9_method_10_code 6 = .ok (.iload_n 2, 1) := by decide +kernel
theorem d_Re_doesJust_7 : decode prog_9_method_10_code 7 = .ok (.invokevirtual 132, 3) := by decide +kernel
theorem d_Re_doesJust_10 : decode prog_9_method_10_code 10 = .ok (.ifCond .ne 7, 3) := by decide +kernel
theorem d_Re_doesJust_13 : decode prog_9_method_10_code 13 = .ok (.iconst 1, 1) := by decide +kernel
theorem d_Re_doesJust_14 : decode prog_9_method_10_code 14 = .ok (.goto 4, 3) := by decide +kernel
theorem d_Re_doesJust_17 : decode prog_9_method_10_code 17 = .ok (.iconst 0, 1) := by decide +kernel
theorem d_Re_doesJust_18 : decode prog_9_method_10_code 18 = .ok (.ireturn, 1) := by decide +kernel
section SEG
variable {g : GG} {Q : Option VV → EE → DD → Prop} {D : DD}
theorem s_Ke_commonOf_0 {x0 : Int} {x2 : Int}  (h : Sg g M_Ke_commonOf Q 9 [vL x0, vU, vL x2, vU, vL x0, vU, vL x2, vU, vI 0, vU, vU] [] D) : Sg g M_Ke_commonOf Q 0 [vL x0, vU, vL x2, vU, vU, vU, vU, vU, vU, vU, vU] [] D := by
  unfold Sg
  refine q_lload_n d_Ke_commonOf_0 rfl ?_
  refine q_lstore d_Ke_commonOf_1 (by decide) (L' := [vL x0, vU, vL x2, vU, vL x0, vU, vU, vU, vU, vU, vU]) rfl ?_
  refine q_lload_n d_Ke_commonOf_3 rfl ?_
  refine q_lstore d_Ke_commonOf_4 (by decide) (L' := [vL x0, vU, vL x2, vU, vL x0, vU, vL x2, vU, vU, vU, vU]) rfl ?_
  refine q_iconst d_Ke_commonOf_6 (by decide) ?_
  refine q_istore d_Ke_commonOf_7 (by decide) (L' := [vL x0, vU, vL x2, vU, vL x0, vU, vL x2, vU, vI 0, vU, vU]) rfl ?_
  exact h
theorem s_Ke_commonOf_9 {z0 : VV} {z1 : VV} {z2 : VV} {z3 : VV} {x4 : Int} {x6 : Int} {x8 : Int} {z9 : VV} {z10 : VV}  (h : ((10000 ≤ x8 → Q (some (vL x4)) zE D) ∧ (¬ 10000 ≤ x8 → ((x6 = 0 → Q (some (vL x4)) zE D) ∧ (¬ x6 = 0 → ((0 ≤ x4 ∧ 0 < x6) ∧ R32 (x8 + 1)) ∧ Sg g M_Ke_commonOf Q 9 [vU, vU, vU, vU, vL x6, vU, vL (x4 % x6), vU, vI (x8 + 1), vL (x4 % x6), vU] [] D))))) : Sg g M_Ke_commonOf Q 9 [z0, z1, z2, z3, vL x4, vU, vL x6, vU, vI x8, z9, z10] [] D := by
  unfold Sg
  refine q_mask [true, true, true, true, false, false, false, false, false, true, true] (L' := [vU, vU, vU, vU, vL x4, vU, vL x6, vU, vI x8, vU, vU]) rfl ?_
  refine q_iload d_Ke_commonOf_9 rfl ?_
  refine q_sipush d_Ke_commonOf_11 ks_10000 ?_
  refine q_icmp_ge (tgt := 45) d_Ke_commonOf_14 (by decide) (fun c1 => ?_) (fun c1 => ?_)
  · have h := h.1 (c1)
    refine q_lload d_Ke_commonOf_45 rfl ?_
    exact q_lret d_Ke_commonOf_47 rfl ⟨Nat.le_refl _, Nat.le_refl _⟩ h
  · have h := h.2 (c1)
    refine q_lload d_Ke_commonOf_17 rfl ?_
    refine q_lconst (x := 0) d_Ke_commonOf_19 ⟨rfl, by decide⟩ ?_
    refine q_lcmp d_Ke_commonOf_20 ?_
    refine q_if_eq (tgt := 45) d_Ke_commonOf_21 (by decide) (fun c2 => ?_) (fun c2 => ?_)
    · have h := h.1 (zcmp_eq.mp c2)
      refine q_lload d_Ke_commonOf_45 rfl ?_
      exact q_lret d_Ke_commonOf_47 rfl ⟨Nat.le_refl _, Nat.le_refl _⟩ h
    · have h := h.2 (zcmp_ne.mp c2)
      obtain ⟨⟨o3, o4⟩, h⟩ := h
      refine q_lload d_Ke_commonOf_24 rfl ?_
      refine q_lload d_Ke_commonOf_26 rfl ?_
      refine q_lrem d_Ke_commonOf_28 o3 ?_
      refine q_lstore d_Ke_commonOf_29 (by decide) (L' := [vU, vU, vU, vU, vL x4, vU, vL x6, vU, vI x8, vL (x4 % x6), vU]) rfl ?_
      refine q_lload d_Ke_commonOf_31 rfl ?_
      refine q_lstore d_Ke_commonOf_33 (by decide) (L' := [vU, vU, vU, vU, vL x6, vU, vL x6, vU, vI x8, vL (x4 % x6), vU]) rfl ?_
      refine q_lload d_Ke_commonOf_35 rfl ?_
      refine q_lstore d_Ke_commonOf_37 (by decide) (L' := [vU, vU, vU, vU, vL x6, vU, vL (x4 % x6), vU, vI x8, vL (x4 % x6), vU]) rfl ?_
      refine q_iinc d_Ke_commonOf_39 rfl (by decide) o4 (L' := [vU, vU, vU, vU, vL x6, vU, vL (x4 % x6), vU, vI (x8 + 1), vL (x4 % x6), vU]) rfl ?_
      refine q_goto (tgt := 9) d_Ke_commonOf_42 (by decide) ?_
      exact h
theorem s_Re_order_0 {a1 : Nat} {a2 : Nat} (k_a1 : zk a1 = (0, 4, 0)) (k_a2 : zk a2 = (0, 4, 0)) (h : CV g M_Na_setProduct [vR 400, vR (a1 + 1), vR (a2 + 3)] D (fun D' => Sg g M_Re_order Q 15 [vR 391, vR a1, vR a2] [] D')) : Sg g M_Re_order Q 0 [vR 391, vR a1, vR a2] [] D := by
  unfold Sg
  refine q_aload_n d_Re_order_0 rfl ?_
  refine p_getR (k := 4) (b := 400) zc_Re l_Re_27 fr_Re_product d_Re_order_1 zk_391 rfl ?_
  refine q_aload_n d_Re_order_4 rfl ?_
  refine p_getRN (k := 0) (b := (a1 + 1)) zc_Fr l_Re_43 fr_Fr_top d_Re_order_5 k_a1 rfl ?_
  refine q_aload_n d_Re_order_8 rfl ?_
  refine p_getRN (k := 1) (b := (a2 + 3)) zc_Fr l_Re_48 fr_Fr_below d_Re_order_9 k_a2 rfl ?_
  refine p_callV (as := [vR (a1 + 1), vR (a2 + 3)]) (st := []) (a := 400) mc_Na_setProduct mv_Na_setProduct l_Re_51 zc_Na rfl d_Re_order_12 rfl rfl rfl zk_400 (CV.to ?_)
  exact h
theorem s_Re_order_15 {a1 : Nat} {a2 : Nat} (k_a1 : zk a1 = (0, 4, 0)) (k_a2 : zk a2 = (0, 4, 0)) (h : CV g M_Na_setProduct [vR 402, vR (a2 + 1), vR (a1 + 3)] D (fun D' => Sg g M_Re_order Q 30 [vR 391, vR a1, vR a2] [] D')) : Sg g M_Re_order Q 15 [vR 391, vR a1, vR a2] [] D := by
  unfold Sg
  refine q_aload_n d_Re_order_15 rfl ?_
  refine p_getR (k := 5) (b := 402) zc_Re l_Re_30 fr_Re_spare d_Re_order_16 zk_391 rfl ?_
  refine q_aload_n d_Re_order_19 rfl ?_
  refine p_getRN (k := 0) (b := (a2 + 1)) zc_Fr l_Re_43 fr_Fr_top d_Re_order_20 k_a2 rfl ?_
  refine q_aload_n d_Re_order_23 rfl ?_
  refine p_getRN (k := 1) (b := (a1 + 3)) zc_Fr l_Re_48 fr_Fr_below d_Re_order_24 k_a1 rfl ?_
  refine p_callV (as := [vR (a2 + 1), vR (a1 + 3)]) (st := []) (a := 402) mc_Na_setProduct mv_Na_setProduct l_Re_51 zc_Na rfl d_Re_order_27 rfl rfl rfl zk_402 (CV.to ?_)
  exact h
theorem s_Re_order_30 {z1 : VV} {z2 : VV}  (h : CI g M_Na_order [vR 400, vR 402] D (fun v1 D' => Sg g M_Re_order Q 41 [vR 391, vU, vU] [vI v1] D')) : Sg g M_Re_order Q 30 [vR 391, z1, z2] [] D := by
  unfold Sg
  refine q_mask [false, true, true] (L' := [vR 391, vU, vU]) rfl ?_
  refine q_aload_n d_Re_order_30 rfl ?_
  refine p_getR (k := 4) (b := 400) zc_Re l_Re_27 fr_Re_product d_Re_order_31 zk_391 rfl ?_
  refine q_aload_n d_Re_order_34 rfl ?_
  refine p_getR (k := 5) (b := 402) zc_Re l_Re_30 fr_Re_spare d_Re_order_35 zk_391 rfl ?_
  refine p_callV (as := [vR 402]) (st := []) (a := 400) mc_Na_order mv_Na_order l_Re_55 zc_Na rfl d_Re_order_38 rfl rfl rfl zk_400 (CI.to ?_)
  exact h
theorem s_Re_order_41 {z0 : VV} {z1 : VV} {z2 : VV} {y0 : Int}  (h : Q (some (vI y0)) zE D) : Sg g M_Re_order Q 41 [z0, z1, z2] [vI y0] D := by
  unfold Sg
  refine q_mask [true, true, true] (L' := [vU, vU, vU]) rfl ?_
  exact q_iret d_Re_order_41 (Or.inl rfl) ⟨Nat.le_refl _, Nat.le_refl _⟩ h
theorem s_Re_lower_0 {a1 : Nat} (k_a1 : zk a1 = (0, 4, 0)) (h : CR g M_Re_commonOf [vR 391, vR (a1 + 1), vR (a1 + 3)] D (fun rv1 D' => Sg g M_Re_lower Q 12 [vR 391, vR a1, vU] [vR rv1] D')) : Sg g M_Re_lower Q 0 [vR 391, vR a1, vU] [] D := by
  unfold Sg
  refine q_aload_n d_Re_lower_0 rfl ?_
  refine q_aload_n d_Re_lower_1 rfl ?_
  refine p_getRN (k := 0) (b := (a1 + 1)) zc_Fr l_Re_43 fr_Fr_top d_Re_lower_2 k_a1 rfl ?_
  refine q_aload_n d_Re_lower_5 rfl ?_
  refine p_getRN (k := 1) (b := (a1 + 3)) zc_Fr l_Re_48 fr_Fr_below d_Re_lower_6 k_a1 rfl ?_
  refine p_callV (as := [vR (a1 + 1), vR (a1 + 3)]) (st := []) (a := 391) mc_Re_commonOf mv_Re_commonOf l_Re_59 zc_Re rfl d_Re_lower_9 rfl rfl rfl zk_391 (CR.to ?_)
  exact h
theorem s_Re_lower_12 {a1 : Nat} {z2 : VV} {rs0 : Nat} (k_a1 : zk a1 = (0, 4, 0)) (k_rs0 : zk rs0 = (0, 3, 0)) (h : CI g M_Na_isZero [vR rs0] D (fun v1 D' => Sg g M_Re_lower Q 17 [vR 391, vR a1, vR rs0] [vI v1] D')) : Sg g M_Re_lower Q 12 [vR 391, vR a1, z2] [vR rs0] D := by
  unfold Sg
  refine q_mask [false, false, true] (L' := [vR 391, vR a1, vU]) rfl ?_
  refine q_astore_n d_Re_lower_12 (by decide) (L' := [vR 391, vR a1, vR rs0]) rfl ?_
  refine q_aload_n d_Re_lower_13 rfl ?_
  refine p_callV (as := []) (st := []) (a := rs0) mc_Na_isZero mv_Na_isZero l_Re_63 zc_Na rfl d_Re_lower_14 rfl rfl rfl k_rs0 (CI.to ?_)
  exact h
theorem s_Re_lower_17 {a1 : Nat} {r2 : Nat} {y0 : Int} (k_a1 : zk a1 = (0, 4, 0)) (k_r2 : zk r2 = (0, 3, 0)) (h : ((¬ y0 = 0 → Q none zE D) ∧ (y0 = 0 → CI g M_Na_isOne [vR r2] D (fun v2 D' => Sg g M_Re_lower Q 24 [vR 391, vR a1, vR r2] [vI v2] D')))) : Sg g M_Re_lower Q 17 [vR 391, vR a1, vR r2] [vI y0] D := by
  unfold Sg
  refine q_if_ne (tgt := 27) d_Re_lower_17 (by decide) (fun c1 => ?_) (fun c1 => ?_)
  · have h := h.1 (c1)
    exact q_vret d_Re_lower_27 rfl ⟨Nat.le_refl _, Nat.le_refl _⟩ h
  · have h := h.2 (c1)
    refine q_aload_n d_Re_lower_20 rfl ?_
    refine p_callV (as := []) (st := []) (a := r2) mc_Na_isOne mv_Na_isOne l_Re_67 zc_Na rfl d_Re_lower_21 rfl rfl rfl k_r2 (CI.to ?_)
    exact h
theorem s_Re_lower_24 {a1 : Nat} {r2 : Nat} {y0 : Int} (k_a1 : zk a1 = (0, 4, 0)) (k_r2 : zk r2 = (0, 3, 0)) (h : ((y0 = 0 → CV g M_Na_divideBy [vR (a1 + 1), vR r2, vR 396, vR 398] D (fun D' => Sg g M_Re_lower Q 44 [vR 391, vR a1, vR r2] [] D')) ∧ (¬ y0 = 0 → Q none zE D))) : Sg g M_Re_lower Q 24 [vR 391, vR a1, vR r2] [vI y0] D := by
  unfold Sg
  refine q_if_eq (tgt := 28) d_Re_lower_24 (by decide) (fun c1 => ?_) (fun c1 => ?_)
  · have h := h.1 (c1)
    refine q_aload_n d_Re_lower_28 rfl ?_
    refine p_getRN (k := 0) (b := (a1 + 1)) zc_Fr l_Re_43 fr_Fr_top d_Re_lower_29 k_a1 rfl ?_
    refine q_aload_n d_Re_lower_32 rfl ?_
    refine q_aload_n d_Re_lower_33 rfl ?_
    refine p_getR (k := 2) (b := 396) zc_Re l_Re_21 fr_Re_quotient d_Re_lower_34 zk_391 rfl ?_
    refine q_aload_n d_Re_lower_37 rfl ?_
    refine p_getR (k := 3) (b := 398) zc_Re l_Re_24 fr_Re_shifted d_Re_lower_38 zk_391 rfl ?_
    refine p_callV (as := [vR r2, vR 396, vR 398]) (st := []) (a := (a1 + 1)) mc_Na_divideBy mv_Na_divideBy l_Re_70 zc_Na rfl d_Re_lower_41 rfl rfl rfl (zs_Fr_top k_a1) (CV.to ?_)
    exact h
  · have h := h.2 (c1)
    exact q_vret d_Re_lower_27 rfl ⟨Nat.le_refl _, Nat.le_refl _⟩ h
theorem s_Re_lower_44 {a1 : Nat} {r2 : Nat} (k_a1 : zk a1 = (0, 4, 0)) (k_r2 : zk r2 = (0, 3, 0)) (h : CV g M_Na_copyFrom [vR (a1 + 1), vR 396] D (fun D' => Sg g M_Re_lower Q 55 [vR 391, vR a1, vR r2] [] D')) : Sg g M_Re_lower Q 44 [vR 391, vR a1, vR r2] [] D := by
  unfold Sg
  refine q_aload_n d_Re_lower_44 rfl ?_
  refine p_getRN (k := 0) (b := (a1 + 1)) zc_Fr l_Re_43 fr_Fr_top d_Re_lower_45 k_a1 rfl ?_
  refine q_aload_n d_Re_lower_48 rfl ?_
  refine p_getR (k := 2) (b := 396) zc_Re l_Re_21 fr_Re_quotient d_Re_lower_49 zk_391 rfl ?_
  refine p_callV (as := [vR 396]) (st := []) (a := (a1 + 1)) mc_Na_copyFrom mv_Na_copyFrom l_Re_74 zc_Na rfl d_Re_lower_52 rfl rfl rfl (zs_Fr_top k_a1) (CV.to ?_)
  exact h
theorem s_Re_lower_55 {a1 : Nat} {r2 : Nat} (k_a1 : zk a1 = (0, 4, 0)) (k_r2 : zk r2 = (0, 3, 0)) (h : CV g M_Na_divideBy [vR (a1 + 3), vR r2, vR 396, vR 398] D (fun D' => Sg g M_Re_lower Q 71 [vR 391, vR a1, vR r2] [] D')) : Sg g M_Re_lower Q 55 [vR 391, vR a1, vR r2] [] D := by
  unfold Sg
  refine q_aload_n d_Re_lower_55 rfl ?_
  refine p_getRN (k := 1) (b := (a1 + 3)) zc_Fr l_Re_48 fr_Fr_below d_Re_lower_56 k_a1 rfl ?_
  refine q_aload_n d_Re_lower_59 rfl ?_
  refine q_aload_n d_Re_lower_60 rfl ?_
  refine p_getR (k := 2) (b := 396) zc_Re l_Re_21 fr_Re_quotient d_Re_lower_61 zk_391 rfl ?_
  refine q_aload_n d_Re_lower_64 rfl ?_
  refine p_getR (k := 3) (b := 398) zc_Re l_Re_24 fr_Re_shifted d_Re_lower_65 zk_391 rfl ?_
  refine p_callV (as := [vR r2, vR 396, vR 398]) (st := []) (a := (a1 + 3)) mc_Na_divideBy mv_Na_divideBy l_Re_70 zc_Na rfl d_Re_lower_68 rfl rfl rfl (zs_Fr_below k_a1) (CV.to ?_)
  exact h
theorem s_Re_lower_71 {a1 : Nat} {z2 : VV} (k_a1 : zk a1 = (0, 4, 0)) (h : CV g M_Na_copyFrom [vR (a1 + 3), vR 396] D (fun D' => Sg g M_Re_lower Q 82 [vR 391, vR a1, vU] [] D')) : Sg g M_Re_lower Q 71 [vR 391, vR a1, z2] [] D := by
  unfold Sg
  refine q_mask [false, false, true] (L' := [vR 391, vR a1, vU]) rfl ?_
  refine q_aload_n d_Re_lower_71 rfl ?_
  refine p_getRN (k := 1) (b := (a1 + 3)) zc_Fr l_Re_48 fr_Fr_below d_Re_lower_72 k_a1 rfl ?_
  refine q_aload_n d_Re_lower_75 rfl ?_
  refine p_getR (k := 2) (b := 396) zc_Re l_Re_21 fr_Re_quotient d_Re_lower_76 zk_391 rfl ?_
  refine p_callV (as := [vR 396]) (st := []) (a := (a1 + 3)) mc_Na_copyFrom mv_Na_copyFrom l_Re_74 zc_Na rfl d_Re_lower_79 rfl rfl rfl (zs_Fr_below k_a1) (CV.to ?_)
  exact h
theorem s_Re_lower_82 {z0 : VV} {z1 : VV} {z2 : VV}  (h : Q none zE D) : Sg g M_Re_lower Q 82 [z0, z1, z2] [] D := by
  unfold Sg
  refine q_mask [true, true, true] (L' := [vU, vU, vU]) rfl ?_
  exact q_vret d_Re_lower_82 rfl ⟨Nat.le_refl _, Nat.le_refl _⟩ h
theorem s_Re_commonOf_0 {a1 : Nat} {a2 : Nat} (k_a1 : zk a1 = (0, 3, 0)) (k_a2 : zk a2 = (0, 3, 0)) (h : CV g M_Na_copyFrom [vR 392, vR a1] D (fun D' => Sg g M_Re_commonOf Q 16 [vR 391, vR a1, vR a2, vR 392, vR 394, vU, vU] [] D')) : Sg g M_Re_commonOf Q 0 [vR 391, vR a1, vR a2, vU, vU, vU, vU] [] D := by
  unfold Sg
  refine q_aload_n d_Re_commonOf_0 rfl ?_
  refine p_getR (k := 0) (b := 392) zc_Re l_Re_12 fr_Re_first d_Re_commonOf_1 zk_391 rfl ?_
  refine q_astore_n d_Re_commonOf_4 (by decide) (L' := [vR 391, vR a1, vR a2, vR 392, vU, vU, vU]) rfl ?_
  refine q_aload_n d_Re_commonOf_5 rfl ?_
  refine p_getR (k := 1) (b := 394) zc_Re l_Re_18 fr_Re_second d_Re_commonOf_6 zk_391 rfl ?_
  refine q_astore d_Re_commonOf_9 (by decide) (L' := [vR 391, vR a1, vR a2, vR 392, vR 394, vU, vU]) rfl ?_
  refine q_aload_n d_Re_commonOf_11 rfl ?_
  refine q_aload_n d_Re_commonOf_12 rfl ?_
  refine p_callV (as := [vR a1]) (st := []) (a := 392) mc_Na_copyFrom mv_Na_copyFrom l_Re_74 zc_Na rfl d_Re_commonOf_13 rfl rfl rfl zk_392 (CV.to ?_)
  exact h
theorem s_Re_commonOf_16 {z1 : VV} {a2 : Nat} {z5 : VV} {z6 : VV} (k_a2 : zk a2 = (0, 3, 0)) (h : CV g M_Na_copyFrom [vR 394, vR a2] D (fun D' => Sg g M_Re_commonOf Q 22 [vR 391, vU, vR a2, vR 392, vR 394, vU, vU] [] D')) : Sg g M_Re_commonOf Q 16 [vR 391, z1, vR a2, vR 392, vR 394, z5, z6] [] D := by
  unfold Sg
  refine q_mask [false, true, false, false, false, true, true] (L' := [vR 391, vU, vR a2, vR 392, vR 394, vU, vU]) rfl ?_
  refine q_aload d_Re_commonOf_16 rfl ?_
  refine q_aload_n d_Re_commonOf_18 rfl ?_
  refine p_callV (as := [vR a2]) (st := []) (a := 394) mc_Na_copyFrom mv_Na_copyFrom l_Re_74 zc_Na rfl d_Re_commonOf_19 rfl rfl rfl zk_394 (CV.to ?_)
  exact h
theorem s_Re_commonOf_22 {z1 : VV} {z2 : VV} {z5 : VV} {z6 : VV}  (h : Sg g M_Re_commonOf Q 25 [vR 391, vU, vU, vR 392, vR 394, vI 0, vU] [] D) : Sg g M_Re_commonOf Q 22 [vR 391, z1, z2, vR 392, vR 394, z5, z6] [] D := by
  unfold Sg
  refine q_mask [false, true, true, false, false, true, true] (L' := [vR 391, vU, vU, vR 392, vR 394, vU, vU]) rfl ?_
  refine q_iconst d_Re_commonOf_22 (by decide) ?_
  refine q_istore d_Re_commonOf_23 (by decide) (L' := [vR 391, vU, vU, vR 392, vR 394, vI 0, vU]) rfl ?_
  exact h
theorem s_Re_commonOf_25 {z1 : VV} {z2 : VV} {x5 : Int} {z6 : VV}  (h : ((10000 ≤ x5 → Q (some (vR 392)) zE D) ∧ (¬ 10000 ≤ x5 → CI g M_Na_isZero [vR 394] D (fun v2 D' => Sg g M_Re_commonOf Q 38 [vR 391, vU, vU, vR 392, vR 394, vI x5, vU] [vI v2] D')))) : Sg g M_Re_commonOf Q 25 [vR 391, z1, z2, vR 392, vR 394, vI x5, z6] [] D := by
  unfold Sg
  refine q_mask [false, true, true, false, false, false, true] (L' := [vR 391, vU, vU, vR 392, vR 394, vI x5, vU]) rfl ?_
  refine q_iload d_Re_commonOf_25 rfl ?_
  refine q_sipush d_Re_commonOf_27 ks_10000 ?_
  refine q_icmp_ge (tgt := 104) d_Re_commonOf_30 (by decide) (fun c1 => ?_) (fun c1 => ?_)
  · have h := h.1 (c1)
    refine q_aload_n d_Re_commonOf_104 rfl ?_
    exact q_aret d_Re_commonOf_105 rfl ⟨Nat.le_refl _, Nat.le_refl _⟩ h
  · have h := h.2 (c1)
    refine q_aload d_Re_commonOf_33 rfl ?_
    refine p_callV (as := []) (st := []) (a := 394) mc_Na_isZero mv_Na_isZero l_Re_63 zc_Na rfl d_Re_commonOf_35 rfl rfl rfl zk_394 (CI.to ?_)
    exact h
theorem s_Re_commonOf_38 {z1 : VV} {z2 : VV} {x5 : Int} {z6 : VV} {y0 : Int}  (h : ((¬ y0 = 0 → Q (some (vR 392)) zE D) ∧ (y0 = 0 → CI g M_Na_fitsLong [vR 392] D (fun v2 D' => Sg g M_Re_commonOf Q 45 [vR 391, vU, vU, vR 392, vR 394, vI x5, vU] [vI v2] D')))) : Sg g M_Re_commonOf Q 38 [vR 391, z1, z2, vR 392, vR 394, vI x5, z6] [vI y0] D := by
  unfold Sg
  refine q_mask [false, true, true, false, false, false, true] (L' := [vR 391, vU, vU, vR 392, vR 394, vI x5, vU]) rfl ?_
  refine q_if_ne (tgt := 104) d_Re_commonOf_38 (by decide) (fun c1 => ?_) (fun c1 => ?_)
  · have h := h.1 (c1)
    refine q_aload_n d_Re_commonOf_104 rfl ?_
    exact q_aret d_Re_commonOf_105 rfl ⟨Nat.le_refl _, Nat.le_refl _⟩ h
  · have h := h.2 (c1)
    refine q_aload_n d_Re_commonOf_41 rfl ?_
    refine p_callV (as := []) (st := []) (a := 392) mc_Na_fitsLong mv_Na_fitsLong l_Re_78 zc_Na rfl d_Re_commonOf_42 rfl rfl rfl zk_392 (CI.to ?_)
    exact h
theorem s_Re_commonOf_45 {z1 : VV} {z2 : VV} {x5 : Int} {z6 : VV} {y0 : Int}  (h : ((y0 = 0 → Sg g M_Re_commonOf Q 74 [vR 391, vU, vU, vR 392, vR 394, vI x5, vU] [] D) ∧ (¬ y0 = 0 → CI g M_Na_fitsLong [vR 394] D (fun v2 D' => Sg g M_Re_commonOf Q 53 [vR 391, vU, vU, vR 392, vR 394, vI x5, vU] [vI v2] D')))) : Sg g M_Re_commonOf Q 45 [vR 391, z1, z2, vR 392, vR 394, vI x5, z6] [vI y0] D := by
  unfold Sg
  refine q_mask [false, true, true, false, false, false, true] (L' := [vR 391, vU, vU, vR 392, vR 394, vI x5, vU]) rfl ?_
  refine q_if_eq (tgt := 74) d_Re_commonOf_45 (by decide) (fun c1 => ?_) (fun c1 => ?_)
  · have h := h.1 (c1)
    exact h
  · have h := h.2 (c1)
    refine q_aload d_Re_commonOf_48 rfl ?_
    refine p_callV (as := []) (st := []) (a := 394) mc_Na_fitsLong mv_Na_fitsLong l_Re_78 zc_Na rfl d_Re_commonOf_50 rfl rfl rfl zk_394 (CI.to ?_)
    exact h
theorem s_Re_commonOf_74 {z1 : VV} {z2 : VV} {x5 : Int} {z6 : VV}  (h : CV g M_Na_divideBy [vR 392, vR 394, vR 396, vR 398] D (fun D' => Sg g M_Re_commonOf Q 88 [vR 391, vU, vU, vR 392, vR 394, vI x5, vU] [] D')) : Sg g M_Re_commonOf Q 74 [vR 391, z1, z2, vR 392, vR 394, vI x5, z6] [] D := by
  unfold Sg
  refine q_mask [false, true, true, false, false, false, true] (L' := [vR 391, vU, vU, vR 392, vR 394, vI x5, vU]) rfl ?_
  refine q_aload_n d_Re_commonOf_74 rfl ?_
  refine q_aload d_Re_commonOf_75 rfl ?_
  refine q_aload_n d_Re_commonOf_77 rfl ?_
  refine p_getR (k := 2) (b := 396) zc_Re l_Re_21 fr_Re_quotient d_Re_commonOf_78 zk_391 rfl ?_
  refine q_aload_n d_Re_commonOf_81 rfl ?_
  refine p_getR (k := 3) (b := 398) zc_Re l_Re_24 fr_Re_shifted d_Re_commonOf_82 zk_391 rfl ?_
  refine p_callV (as := [vR 394, vR 396, vR 398]) (st := []) (a := 392) mc_Na_divideBy mv_Na_divideBy l_Re_70 zc_Na rfl d_Re_commonOf_85 rfl rfl rfl zk_392 (CV.to ?_)
  exact h
theorem s_Re_commonOf_53 {z1 : VV} {z2 : VV} {x5 : Int} {z6 : VV} {y0 : Int}  (h : ((y0 = 0 → Sg g M_Re_commonOf Q 74 [vR 391, vU, vU, vR 392, vR 394, vI x5, vU] [] D) ∧ (¬ y0 = 0 → CL g M_Na_asLong [vR 392] D (fun v2 D' => Sg g M_Re_commonOf Q 61 [vR 391, vU, vU, vR 392, vR 394, vI x5, vU] [vL v2, vR 392] D')))) : Sg g M_Re_commonOf Q 53 [vR 391, z1, z2, vR 392, vR 394, vI x5, z6] [vI y0] D := by
  unfold Sg
  refine q_mask [false, true, true, false, false, false, true] (L' := [vR 391, vU, vU, vR 392, vR 394, vI x5, vU]) rfl ?_
  refine q_if_eq (tgt := 74) d_Re_commonOf_53 (by decide) (fun c1 => ?_) (fun c1 => ?_)
  · have h := h.1 (c1)
    exact h
  · have h := h.2 (c1)
    refine q_aload_n d_Re_commonOf_56 rfl ?_
    refine q_aload_n d_Re_commonOf_57 rfl ?_
    refine p_callV (as := []) (st := [vR 392]) (a := 392) mc_Na_asLong mv_Na_asLong l_Re_81 zc_Na rfl d_Re_commonOf_58 rfl rfl rfl zk_392 (CL.to ?_)
    exact h
theorem s_Re_commonOf_88 {z1 : VV} {z2 : VV} {x5 : Int} {z6 : VV}  (h : (R32 (x5 + 1)) ∧ Sg g M_Re_commonOf Q 25 [vR 391, vU, vU, vR 394, vR 392, vI (x5 + 1), vR 392] [] D) : Sg g M_Re_commonOf Q 88 [vR 391, z1, z2, vR 392, vR 394, vI x5, z6] [] D := by
  unfold Sg
  refine q_mask [false, true, true, false, false, false, true] (L' := [vR 391, vU, vU, vR 392, vR 394, vI x5, vU]) rfl ?_
  obtain ⟨o1, h⟩ := h
  refine q_aload_n d_Re_commonOf_88 rfl ?_
  refine q_astore d_Re_commonOf_89 (by decide) (L' := [vR 391, vU, vU, vR 392, vR 394, vI x5, vR 392]) rfl ?_
  refine q_aload d_Re_commonOf_91 rfl ?_
  refine q_astore_n d_Re_commonOf_93 (by decide) (L' := [vR 391, vU, vU, vR 394, vR 394, vI x5, vR 392]) rfl ?_
  refine q_aload d_Re_commonOf_94 rfl ?_
  refine q_astore d_Re_commonOf_96 (by decide) (L' := [vR 391, vU, vU, vR 394, vR 392, vI x5, vR 392]) rfl ?_
  refine q_iinc d_Re_commonOf_98 rfl (by decide) o1 (L' := [vR 391, vU, vU, vR 394, vR 392, vI (x5 + 1), vR 392]) rfl ?_
  refine q_goto (tgt := 25) d_Re_commonOf_101 (by decide) ?_
  exact h
theorem s_Re_commonOf_61 {z0 : VV} {z1 : VV} {z2 : VV} {z5 : VV} {z6 : VV} {y0 : Int}  (h : CL g M_Na_asLong [vR 394] D (fun v1 D' => Sg g M_Re_commonOf Q 66 [vU, vU, vU, vR 392, vR 394, vU, vU] [vL v1, vL y0, vR 392] D')) : Sg g M_Re_commonOf Q 61 [z0, z1, z2, vR 392, vR 394, z5, z6] [vL y0, vR 392] D := by
  unfold Sg
  refine q_mask [true, true, true, false, false, true, true] (L' := [vU, vU, vU, vR 392, vR 394, vU, vU]) rfl ?_
  refine q_aload d_Re_commonOf_61 rfl ?_
  refine p_callV (as := []) (st := [vL y0, vR 392]) (a := 394) mc_Na_asLong mv_Na_asLong l_Re_81 zc_Na rfl d_Re_commonOf_63 rfl rfl rfl zk_394 (CL.to ?_)
  exact h
theorem s_Re_commonOf_25b {z1 : VV} {z2 : VV} {x5 : Int} {z6 : VV}  (h : ((10000 ≤ x5 → Q (some (vR 394)) zE D) ∧ (¬ 10000 ≤ x5 → CI g M_Na_isZero [vR 392] D (fun v2 D' => Sg g M_Re_commonOf Q 38 [vR 391, vU, vU, vR 394, vR 392, vI x5, vU] [vI v2] D')))) : Sg g M_Re_commonOf Q 25 [vR 391, z1, z2, vR 394, vR 392, vI x5, z6] [] D := by
  unfold Sg
  refine q_mask [false, true, true, false, false, false, true] (L' := [vR 391, vU, vU, vR 394, vR 392, vI x5, vU]) rfl ?_
  refine q_iload d_Re_commonOf_25 rfl ?_
  refine q_sipush d_Re_commonOf_27 ks_10000 ?_
  refine q_icmp_ge (tgt := 104) d_Re_commonOf_30 (by decide) (fun c1 => ?_) (fun c1 => ?_)
  · have h := h.1 (c1)
    refine q_aload_n d_Re_commonOf_104 rfl ?_
    exact q_aret d_Re_commonOf_105 rfl ⟨Nat.le_refl _, Nat.le_refl _⟩ h
  · have h := h.2 (c1)
    refine q_aload d_Re_commonOf_33 rfl ?_
    refine p_callV (as := []) (st := []) (a := 392) mc_Na_isZero mv_Na_isZero l_Re_63 zc_Na rfl d_Re_commonOf_35 rfl rfl rfl zk_392 (CI.to ?_)
    exact h
theorem s_Re_commonOf_66 {z0 : VV} {z1 : VV} {z2 : VV} {z4 : VV} {z5 : VV} {z6 : VV} {y0 : Int} {y1 : Int}  (h : CL g M_Ke_commonOf [vL y1, vL y0] D (fun v1 D' => Sg g M_Re_commonOf Q 69 [vU, vU, vU, vR 392, vU, vU, vU] [vL v1, vR 392] D')) : Sg g M_Re_commonOf Q 66 [z0, z1, z2, vR 392, z4, z5, z6] [vL y0, vL y1, vR 392] D := by
  unfold Sg
  refine q_mask [true, true, true, false, true, true, true] (L' := [vU, vU, vU, vR 392, vU, vU, vU]) rfl ?_
  refine p_callSN (as := [vL y1, vL y0]) (st := [vR 392]) mc_Ke_commonOf ms_Ke_commonOf l_Re_85 d_Re_commonOf_66 rfl rfl rfl (CL.to ?_)
  exact h
theorem s_Re_commonOf_38b {z1 : VV} {z2 : VV} {x5 : Int} {z6 : VV} {y0 : Int}  (h : ((¬ y0 = 0 → Q (some (vR 394)) zE D) ∧ (y0 = 0 → CI g M_Na_fitsLong [vR 394] D (fun v2 D' => Sg g M_Re_commonOf Q 45 [vR 391, vU, vU, vR 394, vR 392, vI x5, vU] [vI v2] D')))) : Sg g M_Re_commonOf Q 38 [vR 391, z1, z2, vR 394, vR 392, vI x5, z6] [vI y0] D := by
  unfold Sg
  refine q_mask [false, true, true, false, false, false, true] (L' := [vR 391, vU, vU, vR 394, vR 392, vI x5, vU]) rfl ?_
  refine q_if_ne (tgt := 104) d_Re_commonOf_38 (by decide) (fun c1 => ?_) (fun c1 => ?_)
  · have h := h.1 (c1)
    refine q_aload_n d_Re_commonOf_104 rfl ?_
    exact q_aret d_Re_commonOf_105 rfl ⟨Nat.le_refl _, Nat.le_refl _⟩ h
  · have h := h.2 (c1)
    refine q_aload_n d_Re_commonOf_41 rfl ?_
    refine p_callV (as := []) (st := []) (a := 394) mc_Na_fitsLong mv_Na_fitsLong l_Re_78 zc_Na rfl d_Re_commonOf_42 rfl rfl rfl zk_394 (CI.to ?_)
    exact h
theorem s_Re_commonOf_69 {z0 : VV} {z1 : VV} {z2 : VV} {z4 : VV} {z5 : VV} {z6 : VV} {y0 : Int}  (h : CV g M_Na_setSmall [vR 392, vL y0] D (fun D' => Sg g M_Re_commonOf Q 72 [vU, vU, vU, vR 392, vU, vU, vU] [] D')) : Sg g M_Re_commonOf Q 69 [z0, z1, z2, vR 392, z4, z5, z6] [vL y0, vR 392] D := by
  unfold Sg
  refine q_mask [true, true, true, false, true, true, true] (L' := [vU, vU, vU, vR 392, vU, vU, vU]) rfl ?_
  refine p_callV (as := [vL y0]) (st := []) (a := 392) mc_Na_setSmall mv_Na_setSmall l_Re_88 zc_Na rfl d_Re_commonOf_69 rfl rfl rfl zk_392 (CV.to ?_)
  exact h
theorem s_Re_commonOf_45b {z1 : VV} {z2 : VV} {x5 : Int} {z6 : VV} {y0 : Int}  (h : ((y0 = 0 → Sg g M_Re_commonOf Q 74 [vR 391, vU, vU, vR 394, vR 392, vI x5, vU] [] D) ∧ (¬ y0 = 0 → CI g M_Na_fitsLong [vR 392] D (fun v2 D' => Sg g M_Re_commonOf Q 53 [vR 391, vU, vU, vR 394, vR 392, vI x5, vU] [vI v2] D')))) : Sg g M_Re_commonOf Q 45 [vR 391, z1, z2, vR 394, vR 392, vI x5, z6] [vI y0] D := by
  unfold Sg
  refine q_mask [false, true, true, false, false, false, true] (L' := [vR 391, vU, vU, vR 394, vR 392, vI x5, vU]) rfl ?_
  refine q_if_eq (tgt := 74) d_Re_commonOf_45 (by decide) (fun c1 => ?_) (fun c1 => ?_)
  · have h := h.1 (c1)
    exact h
  · have h := h.2 (c1)
    refine q_aload d_Re_commonOf_48 rfl ?_
    refine p_callV (as := []) (st := []) (a := 392) mc_Na_fitsLong mv_Na_fitsLong l_Re_78 zc_Na rfl d_Re_commonOf_50 rfl rfl rfl zk_392 (CI.to ?_)
    exact h
theorem s_Re_commonOf_72 {z0 : VV} {z1 : VV} {z2 : VV} {z4 : VV} {z5 : VV} {z6 : VV}  (h : Q (some (vR 392)) zE D) : Sg g M_Re_commonOf Q 72 [z0, z1, z2, vR 392, z4, z5, z6] [] D := by
  unfold Sg
  refine q_mask [true, true, true, false, true, true, true] (L' := [vU, vU, vU, vR 392, vU, vU, vU]) rfl ?_
  refine q_aload_n d_Re_commonOf_72 rfl ?_
  exact q_aret d_Re_commonOf_73 rfl ⟨Nat.le_refl _, Nat.le_refl _⟩ h
theorem s_Re_commonOf_74b {z1 : VV} {z2 : VV} {x5 : Int} {z6 : VV}  (h : CV g M_Na_divideBy [vR 394, vR 392, vR 396, vR 398] D (fun D' => Sg g M_Re_commonOf Q 88 [vR 391, vU, vU, vR 394, vR 392, vI x5, vU] [] D')) : Sg g M_Re_commonOf Q 74 [vR 391, z1, z2, vR 394, vR 392, vI x5, z6] [] D := by
  unfold Sg
  refine q_mask [false, true, true, false, false, false, true] (L' := [vR 391, vU, vU, vR 394, vR 392, vI x5, vU]) rfl ?_
  refine q_aload_n d_Re_commonOf_74 rfl ?_
  refine q_aload d_Re_commonOf_75 rfl ?_
  refine q_aload_n d_Re_commonOf_77 rfl ?_
  refine p_getR (k := 2) (b := 396) zc_Re l_Re_21 fr_Re_quotient d_Re_commonOf_78 zk_391 rfl ?_
  refine q_aload_n d_Re_commonOf_81 rfl ?_
  refine p_getR (k := 3) (b := 398) zc_Re l_Re_24 fr_Re_shifted d_Re_commonOf_82 zk_391 rfl ?_
  refine p_callV (as := [vR 392, vR 396, vR 398]) (st := []) (a := 394) mc_Na_divideBy mv_Na_divideBy l_Re_70 zc_Na rfl d_Re_commonOf_85 rfl rfl rfl zk_394 (CV.to ?_)
  exact h
theorem s_Re_commonOf_53b {z1 : VV} {z2 : VV} {x5 : Int} {z6 : VV} {y0 : Int}  (h : ((y0 = 0 → Sg g M_Re_commonOf Q 74 [vR 391, vU, vU, vR 394, vR 392, vI x5, vU] [] D) ∧ (¬ y0 = 0 → CL g M_Na_asLong [vR 394] D (fun v2 D' => Sg g M_Re_commonOf Q 61 [vR 391, vU, vU, vR 394, vR 392, vI x5, vU] [vL v2, vR 394] D')))) : Sg g M_Re_commonOf Q 53 [vR 391, z1, z2, vR 394, vR 392, vI x5, z6] [vI y0] D := by
  unfold Sg
  refine q_mask [false, true, true, false, false, false, true] (L' := [vR 391, vU, vU, vR 394, vR 392, vI x5, vU]) rfl ?_
  refine q_if_eq (tgt := 74) d_Re_commonOf_53 (by decide) (fun c1 => ?_) (fun c1 => ?_)
  · have h := h.1 (c1)
    exact h
  · have h := h.2 (c1)
    refine q_aload_n d_Re_commonOf_56 rfl ?_
    refine q_aload_n d_Re_commonOf_57 rfl ?_
    refine p_callV (as := []) (st := [vR 394]) (a := 394) mc_Na_asLong mv_Na_asLong l_Re_81 zc_Na rfl d_Re_commonOf_58 rfl rfl rfl zk_394 (CL.to ?_)
    exact h
theorem s_Re_commonOf_88b {z1 : VV} {z2 : VV} {x5 : Int} {z6 : VV}  (h : (R32 (x5 + 1)) ∧ Sg g M_Re_commonOf Q 25 [vR 391, vU, vU, vR 392, vR 394, vI (x5 + 1), vR 394] [] D) : Sg g M_Re_commonOf Q 88 [vR 391, z1, z2, vR 394, vR 392, vI x5, z6] [] D := by
  unfold Sg
  refine q_mask [false, true, true, false, false, false, true] (L' := [vR 391, vU, vU, vR 394, vR 392, vI x5, vU]) rfl ?_
  obtain ⟨o1, h⟩ := h
  refine q_aload_n d_Re_commonOf_88 rfl ?_
  refine q_astore d_Re_commonOf_89 (by decide) (L' := [vR 391, vU, vU, vR 394, vR 392, vI x5, vR 394]) rfl ?_
  refine q_aload d_Re_commonOf_91 rfl ?_
  refine q_astore_n d_Re_commonOf_93 (by decide) (L' := [vR 391, vU, vU, vR 392, vR 392, vI x5, vR 394]) rfl ?_
  refine q_aload d_Re_commonOf_94 rfl ?_
  refine q_astore d_Re_commonOf_96 (by decide) (L' := [vR 391, vU, vU, vR 392, vR 394, vI x5, vR 394]) rfl ?_
  refine q_iinc d_Re_commonOf_98 rfl (by decide) o1 (L' := [vR 391, vU, vU, vR 392, vR 394, vI (x5 + 1), vR 394]) rfl ?_
  refine q_goto (tgt := 25) d_Re_commonOf_101 (by decide) ?_
  exact h
theorem s_Re_commonOf_61b {z0 : VV} {z1 : VV} {z2 : VV} {z5 : VV} {z6 : VV} {y0 : Int}  (h : CL g M_Na_asLong [vR 392] D (fun v1 D' => Sg g M_Re_commonOf Q 66 [vU, vU, vU, vR 394, vR 392, vU, vU] [vL v1, vL y0, vR 394] D')) : Sg g M_Re_commonOf Q 61 [z0, z1, z2, vR 394, vR 392, z5, z6] [vL y0, vR 394] D := by
  unfold Sg
  refine q_mask [true, true, true, false, false, true, true] (L' := [vU, vU, vU, vR 394, vR 392, vU, vU]) rfl ?_
  refine q_aload d_Re_commonOf_61 rfl ?_
  refine p_callV (as := []) (st := [vL y0, vR 394]) (a := 392) mc_Na_asLong mv_Na_asLong l_Re_81 zc_Na rfl d_Re_commonOf_63 rfl rfl rfl zk_392 (CL.to ?_)
  exact h
theorem s_Re_commonOf_66b {z0 : VV} {z1 : VV} {z2 : VV} {z4 : VV} {z5 : VV} {z6 : VV} {y0 : Int} {y1 : Int}  (h : CL g M_Ke_commonOf [vL y1, vL y0] D (fun v1 D' => Sg g M_Re_commonOf Q 69 [vU, vU, vU, vR 394, vU, vU, vU] [vL v1, vR 394] D')) : Sg g M_Re_commonOf Q 66 [z0, z1, z2, vR 394, z4, z5, z6] [vL y0, vL y1, vR 394] D := by
  unfold Sg
  refine q_mask [true, true, true, false, true, true, true] (L' := [vU, vU, vU, vR 394, vU, vU, vU]) rfl ?_
  refine p_callSN (as := [vL y1, vL y0]) (st := [vR 394]) mc_Ke_commonOf ms_Ke_commonOf l_Re_85 d_Re_commonOf_66 rfl rfl rfl (CL.to ?_)
  exact h
theorem s_Re_commonOf_69b {z0 : VV} {z1 : VV} {z2 : VV} {z4 : VV} {z5 : VV} {z6 : VV} {y0 : Int}  (h : CV g M_Na_setSmall [vR 394, vL y0] D (fun D' => Sg g M_Re_commonOf Q 72 [vU, vU, vU, vR 394, vU, vU, vU] [] D')) : Sg g M_Re_commonOf Q 69 [z0, z1, z2, vR 394, z4, z5, z6] [vL y0, vR 394] D := by
  unfold Sg
  refine q_mask [true, true, true, false, true, true, true] (L' := [vU, vU, vU, vR 394, vU, vU, vU]) rfl ?_
  refine p_callV (as := [vL y0]) (st := []) (a := 394) mc_Na_setSmall mv_Na_setSmall l_Re_88 zc_Na rfl d_Re_commonOf_69 rfl rfl rfl zk_394 (CV.to ?_)
  exact h
theorem s_Re_commonOf_72b {z0 : VV} {z1 : VV} {z2 : VV} {z4 : VV} {z5 : VV} {z6 : VV}  (h : Q (some (vR 394)) zE D) : Sg g M_Re_commonOf Q 72 [z0, z1, z2, vR 394, z4, z5, z6] [] D := by
  unfold Sg
  refine q_mask [true, true, true, false, true, true, true] (L' := [vU, vU, vU, vR 394, vU, vU, vU]) rfl ?_
  refine q_aload_n d_Re_commonOf_72 rfl ?_
  exact q_aret d_Re_commonOf_73 rfl ⟨Nat.le_refl _, Nat.le_refl _⟩ h
theorem s_Re_add_0 {a1 : Nat} {x2 : Int} {x4 : Int} (k_a1 : zk a1 = (0, 4, 0)) (h : ((x2 < 0 → Q none zE D) ∧ (¬ x2 < 0 → ((1 ≤ x4 → CV g M_Na_setSmall [vR 402, vL x2] D (fun D' => Sg g M_Re_add Q 21 [vR 391, vR a1, vL x2, vU, vI x4] [] D')) ∧ (¬ 1 ≤ x4 → Q none zE D))))) : Sg g M_Re_add Q 0 [vR 391, vR a1, vL x2, vU, vI x4] [] D := by
  unfold Sg
  refine q_lload_n d_Re_add_0 rfl ?_
  refine q_lconst (x := 0) d_Re_add_1 ⟨rfl, by decide⟩ ?_
  refine q_lcmp d_Re_add_2 ?_
  refine q_if_lt (tgt := 12) d_Re_add_3 (by decide) (fun c1 => ?_) (fun c1 => ?_)
  · have h := h.1 (zcmp_lt.mp c1)
    exact q_vret d_Re_add_12 rfl ⟨Nat.le_refl _, Nat.le_refl _⟩ h
  · have h := h.2 ((not_congr zcmp_lt).mp c1)
    refine q_iload d_Re_add_6 rfl ?_
    refine q_iconst d_Re_add_8 (by decide) ?_
    refine q_icmp_ge (tgt := 13) d_Re_add_9 (by decide) (fun c2 => ?_) (fun c2 => ?_)
    · have h := h.1 (c2)
      refine q_aload_n d_Re_add_13 rfl ?_
      refine p_getR (k := 5) (b := 402) zc_Re l_Re_30 fr_Re_spare d_Re_add_14 zk_391 rfl ?_
      refine q_lload_n d_Re_add_17 rfl ?_
      refine p_callV (as := [vL x2]) (st := []) (a := 402) mc_Na_setSmall mv_Na_setSmall l_Re_88 zc_Na rfl d_Re_add_18 rfl rfl rfl zk_402 (CV.to ?_)
      exact h
    · have h := h.2 (c2)
      exact q_vret d_Re_add_12 rfl ⟨Nat.le_refl _, Nat.le_refl _⟩ h
theorem s_Re_add_21 {a1 : Nat} {z2 : VV} {z3 : VV} {x4 : Int} (k_a1 : zk a1 = (0, 4, 0)) (h : CV g M_Na_setProduct [vR 400, vR (a1 + 3), vR 402] D (fun D' => Sg g M_Re_add Q 36 [vR 391, vR a1, vU, vU, vI x4] [] D')) : Sg g M_Re_add Q 21 [vR 391, vR a1, z2, z3, vI x4] [] D := by
  unfold Sg
  refine q_mask [false, false, true, true, false] (L' := [vR 391, vR a1, vU, vU, vI x4]) rfl ?_
  refine q_aload_n d_Re_add_21 rfl ?_
  refine p_getR (k := 4) (b := 400) zc_Re l_Re_27 fr_Re_product d_Re_add_22 zk_391 rfl ?_
  refine q_aload_n d_Re_add_25 rfl ?_
  refine p_getRN (k := 1) (b := (a1 + 3)) zc_Fr l_Re_48 fr_Fr_below d_Re_add_26 k_a1 rfl ?_
  refine q_aload_n d_Re_add_29 rfl ?_
  refine p_getR (k := 5) (b := 402) zc_Re l_Re_30 fr_Re_spare d_Re_add_30 zk_391 rfl ?_
  refine p_callV (as := [vR (a1 + 3), vR 402]) (st := []) (a := 400) mc_Na_setProduct mv_Na_setProduct l_Re_51 zc_Na rfl d_Re_add_33 rfl rfl rfl zk_400 (CV.to ?_)
  exact h
theorem s_Re_add_36 {a1 : Nat} {z2 : VV} {z3 : VV} {x4 : Int} (k_a1 : zk a1 = (0, 4, 0)) (h : CV g M_Na_times [vR (a1 + 1), vI x4] D (fun D' => Sg g M_Re_add Q 45 [vR 391, vR a1, vU, vU, vI x4] [] D')) : Sg g M_Re_add Q 36 [vR 391, vR a1, z2, z3, vI x4] [] D := by
  unfold Sg
  refine q_mask [false, false, true, true, false] (L' := [vR 391, vR a1, vU, vU, vI x4]) rfl ?_
  refine q_aload_n d_Re_add_36 rfl ?_
  refine p_getRN (k := 0) (b := (a1 + 1)) zc_Fr l_Re_43 fr_Fr_top d_Re_add_37 k_a1 rfl ?_
  refine q_iload d_Re_add_40 rfl ?_
  refine p_callV (as := [vI x4]) (st := []) (a := (a1 + 1)) mc_Na_times mv_Na_times l_Re_92 zc_Na rfl d_Re_add_42 rfl rfl rfl (zs_Fr_top k_a1) (CV.to ?_)
  exact h
theorem s_Re_add_45 {a1 : Nat} {z2 : VV} {z3 : VV} {x4 : Int} (k_a1 : zk a1 = (0, 4, 0)) (h : CV g M_Na_add [vR (a1 + 1), vR 400] D (fun D' => Sg g M_Re_add Q 56 [vR 391, vR a1, vU, vU, vI x4] [] D')) : Sg g M_Re_add Q 45 [vR 391, vR a1, z2, z3, vI x4] [] D := by
  unfold Sg
  refine q_mask [false, false, true, true, false] (L' := [vR 391, vR a1, vU, vU, vI x4]) rfl ?_
  refine q_aload_n d_Re_add_45 rfl ?_
  refine p_getRN (k := 0) (b := (a1 + 1)) zc_Fr l_Re_43 fr_Fr_top d_Re_add_46 k_a1 rfl ?_
  refine q_aload_n d_Re_add_49 rfl ?_
  refine p_getR (k := 4) (b := 400) zc_Re l_Re_27 fr_Re_product d_Re_add_50 zk_391 rfl ?_
  refine p_callV (as := [vR 400]) (st := []) (a := (a1 + 1)) mc_Na_add mv_Na_add l_Re_96 zc_Na rfl d_Re_add_53 rfl rfl rfl (zs_Fr_top k_a1) (CV.to ?_)
  exact h
theorem s_Re_add_56 {z0 : VV} {a1 : Nat} {z2 : VV} {z3 : VV} {x4 : Int} (k_a1 : zk a1 = (0, 4, 0)) (h : CV g M_Na_times [vR (a1 + 3), vI x4] D (fun D' => Sg g M_Re_add Q 65 [vU, vR a1, vU, vU, vI x4] [] D')) : Sg g M_Re_add Q 56 [z0, vR a1, z2, z3, vI x4] [] D := by
  unfold Sg
  refine q_mask [true, false, true, true, false] (L' := [vU, vR a1, vU, vU, vI x4]) rfl ?_
  refine q_aload_n d_Re_add_56 rfl ?_
  refine p_getRN (k := 1) (b := (a1 + 3)) zc_Fr l_Re_48 fr_Fr_below d_Re_add_57 k_a1 rfl ?_
  refine q_iload d_Re_add_60 rfl ?_
  refine p_callV (as := [vI x4]) (st := []) (a := (a1 + 3)) mc_Na_times mv_Na_times l_Re_92 zc_Na rfl d_Re_add_62 rfl rfl rfl (zs_Fr_below k_a1) (CV.to ?_)
  exact h
theorem s_Re_add_65 {z0 : VV} {z1 : VV} {z2 : VV} {z3 : VV} {z4 : VV}  (h : Q none zE D) : Sg g M_Re_add Q 65 [z0, z1, z2, z3, z4] [] D := by
  unfold Sg
  refine q_mask [true, true, true, true, true] (L' := [vU, vU, vU, vU, vU]) rfl ?_
  exact q_vret d_Re_add_65 rfl ⟨Nat.le_refl _, Nat.le_refl _⟩ h
theorem s_Re_shareOut_0 {a1 : Nat} (k_a1 : zk a1 = (0, 5, 0)) (h : CV g M_Na_setSmall [vR 406, vL 1] D (fun D' => Sg g M_Re_shareOut Q 8 [vR 391, vR a1, vU, vU, vU] [] D')) : Sg g M_Re_shareOut Q 0 [vR 391, vR a1, vU, vU, vU] [] D := by
  unfold Sg
  refine q_aload_n d_Re_shareOut_0 rfl ?_
  refine p_getR (k := 7) (b := 406) zc_Re l_Re_36 fr_Re_common d_Re_shareOut_1 zk_391 rfl ?_
  refine q_lconst (x := 1) d_Re_shareOut_4 ⟨rfl, by decide⟩ ?_
  refine p_callV (as := [vL 1]) (st := []) (a := 406) mc_Na_setSmall mv_Na_setSmall l_Re_88 zc_Na rfl d_Re_shareOut_5 rfl rfl rfl zk_406 (CV.to ?_)
  exact h
theorem s_Re_shareOut_8 {a1 : Nat} {z2 : VV} {z3 : VV} {z4 : VV} (k_a1 : zk a1 = (0, 5, 0)) (h : Sg g M_Re_shareOut Q 10 [vR 391, vR a1, vI 0, vU, vU] [] D) : Sg g M_Re_shareOut Q 8 [vR 391, vR a1, z2, z3, z4] [] D := by
  unfold Sg
  refine q_mask [false, false, true, true, true] (L' := [vR 391, vR a1, vU, vU, vU]) rfl ?_
  refine q_iconst d_Re_shareOut_8 (by decide) ?_
  refine q_istore_n d_Re_shareOut_9 (by decide) (L' := [vR 391, vR a1, vI 0, vU, vU]) rfl ?_
  exact h
theorem s_Re_shareOut_10 {a1 : Nat} {x2 : Int} {z3 : VV} {z4 : VV} (k_a1 : zk a1 = (0, 5, 0)) (h : (((D a1 1) ≤ x2 → Sg g M_Re_shareOut Q 98 [vR 391, vR a1, vI 0, vU, vU] [] D) ∧ (¬ (D a1 1) ≤ x2 → ((0 ≤ x2 ∧ x2 < 24)) ∧ CR g M_Re_commonOf [vR 391, vR 406, vR ((a1 + 11 + 5 * x2.toNat) + 3)] D (fun rv3 D' => Sg g M_Re_shareOut Q 37 [vR 391, vR a1, vI x2, vR ((a1 + 11 + 5 * x2.toNat) + 3), vU] [vR rv3] D')))) : Sg g M_Re_shareOut Q 10 [vR 391, vR a1, vI x2, z3, z4] [] D := by
  unfold Sg
  refine q_mask [false, false, false, true, true] (L' := [vR 391, vR a1, vI x2, vU, vU]) rfl ?_
  refine q_iload_n d_Re_shareOut_10 rfl ?_
  refine q_aload_n d_Re_shareOut_11 rfl ?_
  refine p_getIN (k := 1) zc_Pr l_Re_99 fi_Pr_steps d_Re_shareOut_12 k_a1 ?_
  refine q_icmp_ge (tgt := 96) d_Re_shareOut_15 (by decide) (fun c1 => ?_) (fun c1 => ?_)
  · have h := h.1 (c1)
    refine q_iconst d_Re_shareOut_96 (by decide) ?_
    refine q_istore_n d_Re_shareOut_97 (by decide) (L' := [vR 391, vR a1, vI 0, vU, vU]) rfl ?_
    exact h
  · have h := h.2 (c1)
    obtain ⟨o2, h⟩ := h
    refine q_aload_n d_Re_shareOut_18 rfl ?_
    refine p_getRN (k := 4) (b := (a1 + 3)) zc_Pr l_Re_105 fr_Pr_rate d_Re_shareOut_19 k_a1 rfl ?_
    refine q_iload_n d_Re_shareOut_22 rfl ?_
    refine p_aald (b := (a1 + 11 + 5 * x2.toNat)) d_Re_shareOut_23 (zs_Pr_rate k_a1) (by decide) o2 rfl ?_
    refine p_getRN (k := 1) (b := ((a1 + 11 + 5 * x2.toNat) + 3)) zc_Fr l_Re_48 fr_Fr_below d_Re_shareOut_24 (ze_0 (i := x2.toNat) (zs_Pr_rate k_a1) (by omega)) rfl ?_
    refine q_astore_n d_Re_shareOut_27 (by decide) (L' := [vR 391, vR a1, vI x2, vR ((a1 + 11 + 5 * x2.toNat) + 3), vU]) rfl ?_
    refine q_aload_n d_Re_shareOut_28 rfl ?_
    refine q_aload_n d_Re_shareOut_29 rfl ?_
    refine p_getR (k := 7) (b := 406) zc_Re l_Re_36 fr_Re_common d_Re_shareOut_30 zk_391 rfl ?_
    refine q_aload_n d_Re_shareOut_33 rfl ?_
    refine p_callV (as := [vR 406, vR ((a1 + 11 + 5 * x2.toNat) + 3)]) (st := []) (a := 391) mc_Re_commonOf mv_Re_commonOf l_Re_59 zc_Re rfl d_Re_shareOut_34 rfl rfl rfl zk_391 (CR.to ?_)
    exact h
theorem s_Re_shareOut_98 {a1 : Nat} {x2 : Int} {z3 : VV} {z4 : VV} (k_a1 : zk a1 = (0, 5, 0)) (h : (((D a1 1) ≤ x2 → Q none zE D) ∧ (¬ (D a1 1) ≤ x2 → CV g M_Na_copyFrom [vR 402, vR 406] D (fun D' => Sg g M_Re_shareOut Q 117 [vR 391, vR a1, vI x2, vU, vU] [] D')))) : Sg g M_Re_shareOut Q 98 [vR 391, vR a1, vI x2, z3, z4] [] D := by
  unfold Sg
  refine q_mask [false, false, false, true, true] (L' := [vR 391, vR a1, vI x2, vU, vU]) rfl ?_
  refine q_iload_n d_Re_shareOut_98 rfl ?_
  refine q_aload_n d_Re_shareOut_99 rfl ?_
  refine p_getIN (k := 1) zc_Pr l_Re_99 fi_Pr_steps d_Re_shareOut_100 k_a1 ?_
  refine q_icmp_ge (tgt := 169) d_Re_shareOut_103 (by decide) (fun c1 => ?_) (fun c1 => ?_)
  · have h := h.1 (c1)
    exact q_vret d_Re_shareOut_169 rfl ⟨Nat.le_refl _, Nat.le_refl _⟩ h
  · have h := h.2 (c1)
    refine q_aload_n d_Re_shareOut_106 rfl ?_
    refine p_getR (k := 5) (b := 402) zc_Re l_Re_30 fr_Re_spare d_Re_shareOut_107 zk_391 rfl ?_
    refine q_aload_n d_Re_shareOut_110 rfl ?_
    refine p_getR (k := 7) (b := 406) zc_Re l_Re_36 fr_Re_common d_Re_shareOut_111 zk_391 rfl ?_
    refine p_callV (as := [vR 406]) (st := []) (a := 402) mc_Na_copyFrom mv_Na_copyFrom l_Re_74 zc_Na rfl d_Re_shareOut_114 rfl rfl rfl zk_402 (CV.to ?_)
    exact h
theorem s_Re_shareOut_37 {a1 : Nat} {x2 : Int} {r3 : Nat} {z4 : VV} {rs0 : Nat} (k_a1 : zk a1 = (0, 5, 0)) (k_r3 : zk r3 = (0, 3, 0)) (k_rs0 : zk rs0 = (0, 3, 0)) (h : CV g M_Na_copyFrom [vR 402, vR r3] D (fun D' => Sg g M_Re_shareOut Q 47 [vR 391, vR a1, vI x2, vR r3, vR rs0] [] D')) : Sg g M_Re_shareOut Q 37 [vR 391, vR a1, vI x2, vR r3, z4] [vR rs0] D := by
  unfold Sg
  refine q_mask [false, false, false, false, true] (L' := [vR 391, vR a1, vI x2, vR r3, vU]) rfl ?_
  refine q_astore d_Re_shareOut_37 (by decide) (L' := [vR 391, vR a1, vI x2, vR r3, vR rs0]) rfl ?_
  refine q_aload_n d_Re_shareOut_39 rfl ?_
  refine p_getR (k := 5) (b := 402) zc_Re l_Re_30 fr_Re_spare d_Re_shareOut_40 zk_391 rfl ?_
  refine q_aload_n d_Re_shareOut_43 rfl ?_
  refine p_callV (as := [vR r3]) (st := []) (a := 402) mc_Na_copyFrom mv_Na_copyFrom l_Re_74 zc_Na rfl d_Re_shareOut_44 rfl rfl rfl zk_402 (CV.to ?_)
  exact h
theorem s_Re_shareOut_117 {a1 : Nat} {x2 : Int} {z3 : VV} {z4 : VV} (k_a1 : zk a1 = (0, 5, 0)) (h : ((0 ≤ x2 ∧ x2 < 24)) ∧ CV g M_Na_divideBy [vR 402, vR ((a1 + 11 + 5 * x2.toNat) + 3), vR 396, vR 398] D (fun D' => Sg g M_Re_shareOut Q 141 [vR 391, vR a1, vI x2, vU, vU] [] D')) : Sg g M_Re_shareOut Q 117 [vR 391, vR a1, vI x2, z3, z4] [] D := by
  unfold Sg
  refine q_mask [false, false, false, true, true] (L' := [vR 391, vR a1, vI x2, vU, vU]) rfl ?_
  obtain ⟨o1, h⟩ := h
  refine q_aload_n d_Re_shareOut_117 rfl ?_
  refine p_getR (k := 5) (b := 402) zc_Re l_Re_30 fr_Re_spare d_Re_shareOut_118 zk_391 rfl ?_
  refine q_aload_n d_Re_shareOut_121 rfl ?_
  refine p_getRN (k := 4) (b := (a1 + 3)) zc_Pr l_Re_105 fr_Pr_rate d_Re_shareOut_122 k_a1 rfl ?_
  refine q_iload_n d_Re_shareOut_125 rfl ?_
  refine p_aald (b := (a1 + 11 + 5 * x2.toNat)) d_Re_shareOut_126 (zs_Pr_rate k_a1) (by decide) o1 rfl ?_
  refine p_getRN (k := 1) (b := ((a1 + 11 + 5 * x2.toNat) + 3)) zc_Fr l_Re_48 fr_Fr_below d_Re_shareOut_127 (ze_0 (i := x2.toNat) (zs_Pr_rate k_a1) (by omega)) rfl ?_
  refine q_aload_n d_Re_shareOut_130 rfl ?_
  refine p_getR (k := 2) (b := 396) zc_Re l_Re_21 fr_Re_quotient d_Re_shareOut_131 zk_391 rfl ?_
  refine q_aload_n d_Re_shareOut_134 rfl ?_
  refine p_getR (k := 3) (b := 398) zc_Re l_Re_24 fr_Re_shifted d_Re_shareOut_135 zk_391 rfl ?_
  refine p_callV (as := [vR ((a1 + 11 + 5 * x2.toNat) + 3), vR 396, vR 398]) (st := []) (a := 402) mc_Na_divideBy mv_Na_divideBy l_Re_70 zc_Na rfl d_Re_shareOut_138 rfl rfl rfl zk_402 (CV.to ?_)
  exact h
theorem s_Re_shareOut_47 {a1 : Nat} {x2 : Int} {z3 : VV} {r4 : Nat} (k_a1 : zk a1 = (0, 5, 0)) (k_r4 : zk r4 = (0, 3, 0)) (h : CV g M_Na_divideBy [vR 402, vR r4, vR 396, vR 398] D (fun D' => Sg g M_Re_shareOut Q 64 [vR 391, vR a1, vI x2, vU, vR r4] [] D')) : Sg g M_Re_shareOut Q 47 [vR 391, vR a1, vI x2, z3, vR r4] [] D := by
  unfold Sg
  refine q_mask [false, false, false, true, false] (L' := [vR 391, vR a1, vI x2, vU, vR r4]) rfl ?_
  refine q_aload_n d_Re_shareOut_47 rfl ?_
  refine p_getR (k := 5) (b := 402) zc_Re l_Re_30 fr_Re_spare d_Re_shareOut_48 zk_391 rfl ?_
  refine q_aload d_Re_shareOut_51 rfl ?_
  refine q_aload_n d_Re_shareOut_53 rfl ?_
  refine p_getR (k := 2) (b := 396) zc_Re l_Re_21 fr_Re_quotient d_Re_shareOut_54 zk_391 rfl ?_
  refine q_aload_n d_Re_shareOut_57 rfl ?_
  refine p_getR (k := 3) (b := 398) zc_Re l_Re_24 fr_Re_shifted d_Re_shareOut_58 zk_391 rfl ?_
  refine p_callV (as := [vR r4, vR 396, vR 398]) (st := []) (a := 402) mc_Na_divideBy mv_Na_divideBy l_Re_70 zc_Na rfl d_Re_shareOut_61 rfl rfl rfl zk_402 (CV.to ?_)
  exact h
theorem s_Re_shareOut_141 {a1 : Nat} {x2 : Int} {z3 : VV} {z4 : VV} (k_a1 : zk a1 = (0, 5, 0)) (h : ((0 ≤ x2 ∧ x2 < 24) ∧ (0 ≤ x2 ∧ x2 < 24)) ∧ CV g M_Na_setProduct [vR (409 + 2 * x2.toNat), vR ((a1 + 11 + 5 * x2.toNat) + 1), vR 396] D (fun D' => Sg g M_Re_shareOut Q 163 [vR 391, vR a1, vI x2, vU, vU] [] D')) : Sg g M_Re_shareOut Q 141 [vR 391, vR a1, vI x2, z3, z4] [] D := by
  unfold Sg
  refine q_mask [false, false, false, true, true] (L' := [vR 391, vR a1, vI x2, vU, vU]) rfl ?_
  obtain ⟨⟨o1, o2⟩, h⟩ := h
  refine q_aload_n d_Re_shareOut_141 rfl ?_
  refine p_getR (k := 8) (b := 408) zc_Re l_Re_39 fr_Re_shares d_Re_shareOut_142 zk_391 rfl ?_
  refine q_iload_n d_Re_shareOut_145 rfl ?_
  refine p_aald (b := (409 + 2 * x2.toNat)) d_Re_shareOut_146 zk_408 (by decide) o1 rfl ?_
  refine q_aload_n d_Re_shareOut_147 rfl ?_
  refine p_getRN (k := 4) (b := (a1 + 3)) zc_Pr l_Re_105 fr_Pr_rate d_Re_shareOut_148 k_a1 rfl ?_
  refine q_iload_n d_Re_shareOut_151 rfl ?_
  refine p_aald (b := (a1 + 11 + 5 * x2.toNat)) d_Re_shareOut_152 (zs_Pr_rate k_a1) (by decide) o2 rfl ?_
  refine p_getRN (k := 0) (b := ((a1 + 11 + 5 * x2.toNat) + 1)) zc_Fr l_Re_43 fr_Fr_top d_Re_shareOut_153 (ze_0 (i := x2.toNat) (zs_Pr_rate k_a1) (by omega)) rfl ?_
  refine q_aload_n d_Re_shareOut_156 rfl ?_
  refine p_getR (k := 2) (b := 396) zc_Re l_Re_21 fr_Re_quotient d_Re_shareOut_157 zk_391 rfl ?_
  refine p_callV (as := [vR ((a1 + 11 + 5 * x2.toNat) + 1), vR 396]) (st := []) (a := (409 + 2 * x2.toNat)) mc_Na_setProduct mv_Na_setProduct l_Re_51 zc_Na rfl d_Re_shareOut_160 rfl rfl rfl (ze_2 (i := x2.toNat) zk_408 (by omega)) (CV.to ?_)
  exact h
theorem s_Re_shareOut_64 {a1 : Nat} {x2 : Int} {z3 : VV} {z4 : VV} (k_a1 : zk a1 = (0, 5, 0)) (h : CV g M_Na_setProduct [vR 400, vR 406, vR 396] D (fun D' => Sg g M_Re_shareOut Q 79 [vR 391, vR a1, vI x2, vU, vU] [] D')) : Sg g M_Re_shareOut Q 64 [vR 391, vR a1, vI x2, z3, z4] [] D := by
  unfold Sg
  refine q_mask [false, false, false, true, true] (L' := [vR 391, vR a1, vI x2, vU, vU]) rfl ?_
  refine q_aload_n d_Re_shareOut_64 rfl ?_
  refine p_getR (k := 4) (b := 400) zc_Re l_Re_27 fr_Re_product d_Re_shareOut_65 zk_391 rfl ?_
  refine q_aload_n d_Re_shareOut_68 rfl ?_
  refine p_getR (k := 7) (b := 406) zc_Re l_Re_36 fr_Re_common d_Re_shareOut_69 zk_391 rfl ?_
  refine q_aload_n d_Re_shareOut_72 rfl ?_
  refine p_getR (k := 2) (b := 396) zc_Re l_Re_21 fr_Re_quotient d_Re_shareOut_73 zk_391 rfl ?_
  refine p_callV (as := [vR 406, vR 396]) (st := []) (a := 400) mc_Na_setProduct mv_Na_setProduct l_Re_51 zc_Na rfl d_Re_shareOut_76 rfl rfl rfl zk_400 (CV.to ?_)
  exact h
theorem s_Re_shareOut_163 {a1 : Nat} {x2 : Int} {z3 : VV} {z4 : VV} (k_a1 : zk a1 = (0, 5, 0)) (h : (R32 (x2 + 1)) ∧ Sg g M_Re_shareOut Q 98 [vR 391, vR a1, vI (x2 + 1), vU, vU] [] D) : Sg g M_Re_shareOut Q 163 [vR 391, vR a1, vI x2, z3, z4] [] D := by
  unfold Sg
  refine q_mask [false, false, false, true, true] (L' := [vR 391, vR a1, vI x2, vU, vU]) rfl ?_
  obtain ⟨o1, h⟩ := h
  refine q_iinc d_Re_shareOut_163 rfl (by decide) o1 (L' := [vR 391, vR a1, vI (x2 + 1), vU, vU]) rfl ?_
  refine q_goto (tgt := 98) d_Re_shareOut_166 (by decide) ?_
  exact h
theorem s_Re_shareOut_79 {a1 : Nat} {x2 : Int} {z3 : VV} {z4 : VV} (k_a1 : zk a1 = (0, 5, 0)) (h : CV g M_Na_copyFrom [vR 406, vR 400] D (fun D' => Sg g M_Re_shareOut Q 90 [vR 391, vR a1, vI x2, vU, vU] [] D')) : Sg g M_Re_shareOut Q 79 [vR 391, vR a1, vI x2, z3, z4] [] D := by
  unfold Sg
  refine q_mask [false, false, false, true, true] (L' := [vR 391, vR a1, vI x2, vU, vU]) rfl ?_
  refine q_aload_n d_Re_shareOut_79 rfl ?_
  refine p_getR (k := 7) (b := 406) zc_Re l_Re_36 fr_Re_common d_Re_shareOut_80 zk_391 rfl ?_
  refine q_aload_n d_Re_shareOut_83 rfl ?_
  refine p_getR (k := 4) (b := 400) zc_Re l_Re_27 fr_Re_product d_Re_shareOut_84 zk_391 rfl ?_
  refine p_callV (as := [vR 400]) (st := []) (a := 406) mc_Na_copyFrom mv_Na_copyFrom l_Re_74 zc_Na rfl d_Re_shareOut_87 rfl rfl rfl zk_406 (CV.to ?_)
  exact h
theorem s_Re_shareOut_90 {a1 : Nat} {x2 : Int} {z3 : VV} {z4 : VV} (k_a1 : zk a1 = (0, 5, 0)) (h : (R32 (x2 + 1)) ∧ Sg g M_Re_shareOut Q 10 [vR 391, vR a1, vI (x2 + 1), vU, vU] [] D) : Sg g M_Re_shareOut Q 90 [vR 391, vR a1, vI x2, z3, z4] [] D := by
  unfold Sg
  refine q_mask [false, false, false, true, true] (L' := [vR 391, vR a1, vI x2, vU, vU]) rfl ?_
  obtain ⟨o1, h⟩ := h
  refine q_iinc d_Re_shareOut_90 rfl (by decide) o1 (L' := [vR 391, vR a1, vI (x2 + 1), vU, vU]) rfl ?_
  refine q_goto (tgt := 10) d_Re_shareOut_93 (by decide) ?_
  exact h
theorem s_Re_reckonCost_0 {a1 : Nat} (k_a1 : zk a1 = (0, 5, 0)) (h : CV g M_Re_shareOut [vR 391, vR a1] D (fun D' => Sg g M_Re_reckonCost Q 5 [vR 391, vR a1, vU] [] D')) : Sg g M_Re_reckonCost Q 0 [vR 391, vR a1, vU] [] D := by
  unfold Sg
  refine q_aload_n d_Re_reckonCost_0 rfl ?_
  refine q_aload_n d_Re_reckonCost_1 rfl ?_
  refine p_callV (as := [vR a1]) (st := []) (a := 391) mc_Re_shareOut mv_Re_shareOut l_Re_109 zc_Re rfl d_Re_reckonCost_2 rfl rfl rfl zk_391 (CV.to ?_)
  exact h
theorem s_Re_reckonCost_5 {a1 : Nat} {z2 : VV} (k_a1 : zk a1 = (0, 5, 0)) (h : CV g M_Na_setSmall [vR 404, vL 0] D (fun D' => Sg g M_Re_reckonCost Q 13 [vR 391, vR a1, vU] [] D')) : Sg g M_Re_reckonCost Q 5 [vR 391, vR a1, z2] [] D := by
  unfold Sg
  refine q_mask [false, false, true] (L' := [vR 391, vR a1, vU]) rfl ?_
  refine q_aload_n d_Re_reckonCost_5 rfl ?_
  refine p_getR (k := 6) (b := 404) zc_Re l_Re_33 fr_Re_sum d_Re_reckonCost_6 zk_391 rfl ?_
  refine q_lconst (x := 0) d_Re_reckonCost_9 ⟨rfl, by decide⟩ ?_
  refine p_callV (as := [vL 0]) (st := []) (a := 404) mc_Na_setSmall mv_Na_setSmall l_Re_88 zc_Na rfl d_Re_reckonCost_10 rfl rfl rfl zk_404 (CV.to ?_)
  exact h
theorem s_Re_reckonCost_13 {a1 : Nat} {z2 : VV} (k_a1 : zk a1 = (0, 5, 0)) (h : Sg g M_Re_reckonCost Q 15 [vR 391, vR a1, vI 0] [] D) : Sg g M_Re_reckonCost Q 13 [vR 391, vR a1, z2] [] D := by
  unfold Sg
  refine q_mask [false, false, true] (L' := [vR 391, vR a1, vU]) rfl ?_
  refine q_iconst d_Re_reckonCost_13 (by decide) ?_
  refine q_istore_n d_Re_reckonCost_14 (by decide) (L' := [vR 391, vR a1, vI 0]) rfl ?_
  exact h
theorem s_Re_reckonCost_15 {a1 : Nat} {x2 : Int} (k_a1 : zk a1 = (0, 5, 0)) (h : (((D a1 1) ≤ x2 → CV g M_Na_copyFrom [vR (a1 + 7), vR 404] D (fun D' => Sg g M_Re_reckonCost Q 110 [vR 391, vR a1, vI x2] [] D')) ∧ (¬ (D a1 1) ≤ x2 → ((0 ≤ x2 ∧ x2 < 24) ∧ (0 ≤ x2 ∧ x2 < 24)) ∧ CV g M_Na_setProduct [vR 402, vR (409 + 2 * x2.toNat), vR (409 + 2 * x2.toNat)] D (fun D' => Sg g M_Re_reckonCost Q 42 [vR 391, vR a1, vI x2] [] D')))) : Sg g M_Re_reckonCost Q 15 [vR 391, vR a1, vI x2] [] D := by
  unfold Sg
  refine q_iload_n d_Re_reckonCost_15 rfl ?_
  refine q_aload_n d_Re_reckonCost_16 rfl ?_
  refine p_getIN (k := 1) zc_Pr l_Re_99 fi_Pr_steps d_Re_reckonCost_17 k_a1 ?_
  refine q_icmp_ge (tgt := 96) d_Re_reckonCost_20 (by decide) (fun c1 => ?_) (fun c1 => ?_)
  · have h := h.1 (c1)
    refine q_aload_n d_Re_reckonCost_96 rfl ?_
    refine p_getRN (k := 7) (b := (a1 + 6)) zc_Pr l_Re_120 fr_Pr_cost d_Re_reckonCost_97 k_a1 rfl ?_
    refine p_getRN (k := 0) (b := (a1 + 7)) zc_Fr l_Re_43 fr_Fr_top d_Re_reckonCost_100 (zs_Pr_cost k_a1) rfl ?_
    refine q_aload_n d_Re_reckonCost_103 rfl ?_
    refine p_getR (k := 6) (b := 404) zc_Re l_Re_33 fr_Re_sum d_Re_reckonCost_104 zk_391 rfl ?_
    refine p_callV (as := [vR 404]) (st := []) (a := (a1 + 7)) mc_Na_copyFrom mv_Na_copyFrom l_Re_74 zc_Na rfl d_Re_reckonCost_107 rfl rfl rfl (zs_Fr_top (zs_Pr_cost k_a1)) (CV.to ?_)
    exact h
  · have h := h.2 (c1)
    obtain ⟨⟨o3, o4⟩, h⟩ := h
    refine q_aload_n d_Re_reckonCost_23 rfl ?_
    refine p_getR (k := 5) (b := 402) zc_Re l_Re_30 fr_Re_spare d_Re_reckonCost_24 zk_391 rfl ?_
    refine q_aload_n d_Re_reckonCost_27 rfl ?_
    refine p_getR (k := 8) (b := 408) zc_Re l_Re_39 fr_Re_shares d_Re_reckonCost_28 zk_391 rfl ?_
    refine q_iload_n d_Re_reckonCost_31 rfl ?_
    refine p_aald (b := (409 + 2 * x2.toNat)) d_Re_reckonCost_32 zk_408 (by decide) o3 rfl ?_
    refine q_aload_n d_Re_reckonCost_33 rfl ?_
    refine p_getR (k := 8) (b := 408) zc_Re l_Re_39 fr_Re_shares d_Re_reckonCost_34 zk_391 rfl ?_
    refine q_iload_n d_Re_reckonCost_37 rfl ?_
    refine p_aald (b := (409 + 2 * x2.toNat)) d_Re_reckonCost_38 zk_408 (by decide) o4 rfl ?_
    refine p_callV (as := [vR (409 + 2 * x2.toNat), vR (409 + 2 * x2.toNat)]) (st := []) (a := 402) mc_Na_setProduct mv_Na_setProduct l_Re_51 zc_Na rfl d_Re_reckonCost_39 rfl rfl rfl zk_402 (CV.to ?_)
    exact h
theorem s_Re_reckonCost_110 {a1 : Nat} {z2 : VV} (k_a1 : zk a1 = (0, 5, 0)) (h : CV g M_Na_setProduct [vR 402, vR 406, vR 406] D (fun D' => Sg g M_Re_reckonCost Q 125 [vR 391, vR a1, vU] [] D')) : Sg g M_Re_reckonCost Q 110 [vR 391, vR a1, z2] [] D := by
  unfold Sg
  refine q_mask [false, false, true] (L' := [vR 391, vR a1, vU]) rfl ?_
  refine q_aload_n d_Re_reckonCost_110 rfl ?_
  refine p_getR (k := 5) (b := 402) zc_Re l_Re_30 fr_Re_spare d_Re_reckonCost_111 zk_391 rfl ?_
  refine q_aload_n d_Re_reckonCost_114 rfl ?_
  refine p_getR (k := 7) (b := 406) zc_Re l_Re_36 fr_Re_common d_Re_reckonCost_115 zk_391 rfl ?_
  refine q_aload_n d_Re_reckonCost_118 rfl ?_
  refine p_getR (k := 7) (b := 406) zc_Re l_Re_36 fr_Re_common d_Re_reckonCost_119 zk_391 rfl ?_
  refine p_callV (as := [vR 406, vR 406]) (st := []) (a := 402) mc_Na_setProduct mv_Na_setProduct l_Re_51 zc_Na rfl d_Re_reckonCost_122 rfl rfl rfl zk_402 (CV.to ?_)
  exact h
theorem s_Re_reckonCost_42 {a1 : Nat} {x2 : Int} (k_a1 : zk a1 = (0, 5, 0)) (h : ((0 ≤ x2 ∧ x2 < 24)) ∧ CV g M_Na_setProduct [vR 400, vR 402, vR (409 + 2 * x2.toNat)] D (fun D' => Sg g M_Re_reckonCost Q 59 [vR 391, vR a1, vI x2] [] D')) : Sg g M_Re_reckonCost Q 42 [vR 391, vR a1, vI x2] [] D := by
  unfold Sg
  obtain ⟨o1, h⟩ := h
  refine q_aload_n d_Re_reckonCost_42 rfl ?_
  refine p_getR (k := 4) (b := 400) zc_Re l_Re_27 fr_Re_product d_Re_reckonCost_43 zk_391 rfl ?_
  refine q_aload_n d_Re_reckonCost_46 rfl ?_
  refine p_getR (k := 5) (b := 402) zc_Re l_Re_30 fr_Re_spare d_Re_reckonCost_47 zk_391 rfl ?_
  refine q_aload_n d_Re_reckonCost_50 rfl ?_
  refine p_getR (k := 8) (b := 408) zc_Re l_Re_39 fr_Re_shares d_Re_reckonCost_51 zk_391 rfl ?_
  refine q_iload_n d_Re_reckonCost_54 rfl ?_
  refine p_aald (b := (409 + 2 * x2.toNat)) d_Re_reckonCost_55 zk_408 (by decide) o1 rfl ?_
  refine p_callV (as := [vR 402, vR (409 + 2 * x2.toNat)]) (st := []) (a := 400) mc_Na_setProduct mv_Na_setProduct l_Re_51 zc_Na rfl d_Re_reckonCost_56 rfl rfl rfl zk_400 (CV.to ?_)
  exact h
theorem s_Re_reckonCost_125 {a1 : Nat} {z2 : VV} (k_a1 : zk a1 = (0, 5, 0)) (h : CV g M_Na_setProduct [vR (a1 + 9), vR 402, vR 406] D (fun D' => Sg g M_Re_reckonCost Q 143 [vR 391, vR a1, vU] [] D')) : Sg g M_Re_reckonCost Q 125 [vR 391, vR a1, z2] [] D := by
  unfold Sg
  refine q_mask [false, false, true] (L' := [vR 391, vR a1, vU]) rfl ?_
  refine q_aload_n d_Re_reckonCost_125 rfl ?_
  refine p_getRN (k := 7) (b := (a1 + 6)) zc_Pr l_Re_120 fr_Pr_cost d_Re_reckonCost_126 k_a1 rfl ?_
  refine p_getRN (k := 1) (b := (a1 + 9)) zc_Fr l_Re_48 fr_Fr_below d_Re_reckonCost_129 (zs_Pr_cost k_a1) rfl ?_
  refine q_aload_n d_Re_reckonCost_132 rfl ?_
  refine p_getR (k := 5) (b := 402) zc_Re l_Re_30 fr_Re_spare d_Re_reckonCost_133 zk_391 rfl ?_
  refine q_aload_n d_Re_reckonCost_136 rfl ?_
  refine p_getR (k := 7) (b := 406) zc_Re l_Re_36 fr_Re_common d_Re_reckonCost_137 zk_391 rfl ?_
  refine p_callV (as := [vR 402, vR 406]) (st := []) (a := (a1 + 9)) mc_Na_setProduct mv_Na_setProduct l_Re_51 zc_Na rfl d_Re_reckonCost_140 rfl rfl rfl (zs_Fr_below (zs_Pr_cost k_a1)) (CV.to ?_)
  exact h
theorem s_Re_reckonCost_59 {a1 : Nat} {x2 : Int} (k_a1 : zk a1 = (0, 5, 0)) (h : ((0 ≤ x2 ∧ x2 < 24) ∧ (0 ≤ x2 ∧ x2 < 24) ∧ R32 ((D (a1 + 2) x2) - (D (a1 + 1) x2))) ∧ CV g M_Na_times [vR 400, vI ((D (a1 + 2) x2) - (D (a1 + 1) x2))] D (fun D' => Sg g M_Re_reckonCost Q 79 [vR 391, vR a1, vI x2] [] D')) : Sg g M_Re_reckonCost Q 59 [vR 391, vR a1, vI x2] [] D := by
  unfold Sg
  obtain ⟨⟨o1, o2, o3⟩, h⟩ := h
  refine q_aload_n d_Re_reckonCost_59 rfl ?_
  refine p_getR (k := 4) (b := 400) zc_Re l_Re_27 fr_Re_product d_Re_reckonCost_60 zk_391 rfl ?_
  refine q_aload_n d_Re_reckonCost_63 rfl ?_
  refine p_getRN (k := 3) (b := (a1 + 2)) zc_Pr l_Re_113 fr_Pr_end d_Re_reckonCost_64 k_a1 rfl ?_
  refine q_iload_n d_Re_reckonCost_67 rfl ?_
  refine p_iald d_Re_reckonCost_68 (zs_Pr_end k_a1) o1 ?_
  refine q_aload_n d_Re_reckonCost_69 rfl ?_
  refine p_getRN (k := 2) (b := (a1 + 1)) zc_Pr l_Re_117 fr_Pr_begin d_Re_reckonCost_70 k_a1 rfl ?_
  refine q_iload_n d_Re_reckonCost_73 rfl ?_
  refine p_iald d_Re_reckonCost_74 (zs_Pr_begin k_a1) o2 ?_
  refine q_isub d_Re_reckonCost_75 o3 ?_
  refine p_callV (as := [vI ((D (a1 + 2) x2) - (D (a1 + 1) x2))]) (st := []) (a := 400) mc_Na_times mv_Na_times l_Re_92 zc_Na rfl d_Re_reckonCost_76 rfl rfl rfl zk_400 (CV.to ?_)
  exact h
theorem s_Re_reckonCost_143 {a1 : Nat} {z2 : VV} (k_a1 : zk a1 = (0, 5, 0)) (h : CV g M_Re_lower [vR 391, vR (a1 + 6)] D (fun D' => Sg g M_Re_reckonCost Q 151 [vR 391, vR a1, vU] [] D')) : Sg g M_Re_reckonCost Q 143 [vR 391, vR a1, z2] [] D := by
  unfold Sg
  refine q_mask [false, false, true] (L' := [vR 391, vR a1, vU]) rfl ?_
  refine q_aload_n d_Re_reckonCost_143 rfl ?_
  refine q_aload_n d_Re_reckonCost_144 rfl ?_
  refine p_getRN (k := 7) (b := (a1 + 6)) zc_Pr l_Re_120 fr_Pr_cost d_Re_reckonCost_145 k_a1 rfl ?_
  refine p_callV (as := [vR (a1 + 6)]) (st := []) (a := 391) mc_Re_lower mv_Re_lower l_Re_124 zc_Re rfl d_Re_reckonCost_148 rfl rfl rfl zk_391 (CV.to ?_)
  exact h
theorem s_Re_reckonCost_79 {a1 : Nat} {x2 : Int} (k_a1 : zk a1 = (0, 5, 0)) (h : CV g M_Na_add [vR 404, vR 400] D (fun D' => Sg g M_Re_reckonCost Q 90 [vR 391, vR a1, vI x2] [] D')) : Sg g M_Re_reckonCost Q 79 [vR 391, vR a1, vI x2] [] D := by
  unfold Sg
  refine q_aload_n d_Re_reckonCost_79 rfl ?_
  refine p_getR (k := 6) (b := 404) zc_Re l_Re_33 fr_Re_sum d_Re_reckonCost_80 zk_391 rfl ?_
  refine q_aload_n d_Re_reckonCost_83 rfl ?_
  refine p_getR (k := 4) (b := 400) zc_Re l_Re_27 fr_Re_product d_Re_reckonCost_84 zk_391 rfl ?_
  refine p_callV (as := [vR 400]) (st := []) (a := 404) mc_Na_add mv_Na_add l_Re_96 zc_Na rfl d_Re_reckonCost_87 rfl rfl rfl zk_404 (CV.to ?_)
  exact h
theorem s_Re_reckonCost_151 {z0 : VV} {z1 : VV} {z2 : VV}  (h : Q none zE D) : Sg g M_Re_reckonCost Q 151 [z0, z1, z2] [] D := by
  unfold Sg
  refine q_mask [true, true, true] (L' := [vU, vU, vU]) rfl ?_
  exact q_vret d_Re_reckonCost_151 rfl ⟨Nat.le_refl _, Nat.le_refl _⟩ h
theorem s_Re_reckonCost_90 {a1 : Nat} {x2 : Int} (k_a1 : zk a1 = (0, 5, 0)) (h : (R32 (x2 + 1)) ∧ Sg g M_Re_reckonCost Q 15 [vR 391, vR a1, vI (x2 + 1)] [] D) : Sg g M_Re_reckonCost Q 90 [vR 391, vR a1, vI x2] [] D := by
  unfold Sg
  obtain ⟨o1, h⟩ := h
  refine q_iinc d_Re_reckonCost_90 rfl (by decide) o1 (L' := [vR 391, vR a1, vI (x2 + 1)]) rfl ?_
  refine q_goto (tgt := 15) d_Re_reckonCost_93 (by decide) ?_
  exact h
theorem s_Re_orderOfWork_0 {a1 : Nat} {x2 : Int} {x3 : Int} {x4 : Int} (k_a1 : zk a1 = (0, 5, 0)) (h : CV g M_Na_setSmall [vR 404, vL 0] D (fun D' => Sg g M_Re_orderOfWork Q 8 [vR 391, vR a1, vI x2, vI x3, vI x4, vU, vU] [] D')) : Sg g M_Re_orderOfWork Q 0 [vR 391, vR a1, vI x2, vI x3, vI x4, vU, vU] [] D := by
  unfold Sg
  refine q_aload_n d_Re_orderOfWork_0 rfl ?_
  refine p_getR (k := 6) (b := 404) zc_Re l_Re_33 fr_Re_sum d_Re_orderOfWork_1 zk_391 rfl ?_
  refine q_lconst (x := 0) d_Re_orderOfWork_4 ⟨rfl, by decide⟩ ?_
  refine p_callV (as := [vL 0]) (st := []) (a := 404) mc_Na_setSmall mv_Na_setSmall l_Re_88 zc_Na rfl d_Re_orderOfWork_5 rfl rfl rfl zk_404 (CV.to ?_)
  exact h
theorem s_Re_orderOfWork_8 {a1 : Nat} {x2 : Int} {x3 : Int} {x4 : Int} {z5 : VV} {z6 : VV} (k_a1 : zk a1 = (0, 5, 0)) (h : Sg g M_Re_orderOfWork Q 11 [vR 391, vR a1, vI x2, vI x3, vI x4, vI 0, vU] [] D) : Sg g M_Re_orderOfWork Q 8 [vR 391, vR a1, vI x2, vI x3, vI x4, z5, z6] [] D := by
  unfold Sg
  refine q_mask [false, false, false, false, false, true, true] (L' := [vR 391, vR a1, vI x2, vI x3, vI x4, vU, vU]) rfl ?_
  refine q_iconst d_Re_orderOfWork_8 (by decide) ?_
  refine q_istore d_Re_orderOfWork_9 (by decide) (L' := [vR 391, vR a1, vI x2, vI x3, vI x4, vI 0, vU]) rfl ?_
  exact h
theorem s_Re_orderOfWork_11 {a1 : Nat} {x2 : Int} {x3 : Int} {x4 : Int} {x5 : Int} {z6 : VV} (k_a1 : zk a1 = (0, 5, 0)) (h : (((D a1 1) ≤ x5 → CV g M_Na_copyFrom [vR 402, vR 406] D (fun D' => Sg g M_Re_orderOfWork Q 86 [vR 391, vR a1, vI x2, vI x3, vI x4, vI x5, vU] [] D')) ∧ (¬ (D a1 1) ≤ x5 → CI g M_Pr_lengthWithin [vR a1, vI x5, vI x2, vI x3] D (fun v3 D' => Sg g M_Re_orderOfWork Q 28 [vR 391, vR a1, vI x2, vI x3, vI x4, vI x5, vU] [vI v3] D')))) : Sg g M_Re_orderOfWork Q 11 [vR 391, vR a1, vI x2, vI x3, vI x4, vI x5, z6] [] D := by
  unfold Sg
  refine q_mask [false, false, false, false, false, false, true] (L' := [vR 391, vR a1, vI x2, vI x3, vI x4, vI x5, vU]) rfl ?_
  refine q_iload d_Re_orderOfWork_11 rfl ?_
  refine q_aload_n d_Re_orderOfWork_13 rfl ?_
  refine p_getIN (k := 1) zc_Pr l_Re_99 fi_Pr_steps d_Re_orderOfWork_14 k_a1 ?_
  refine q_icmp_ge (tgt := 75) d_Re_orderOfWork_17 (by decide) (fun c1 => ?_) (fun c1 => ?_)
  · have h := h.1 (c1)
    refine q_aload_n d_Re_orderOfWork_75 rfl ?_
    refine p_getR (k := 5) (b := 402) zc_Re l_Re_30 fr_Re_spare d_Re_orderOfWork_76 zk_391 rfl ?_
    refine q_aload_n d_Re_orderOfWork_79 rfl ?_
    refine p_getR (k := 7) (b := 406) zc_Re l_Re_36 fr_Re_common d_Re_orderOfWork_80 zk_391 rfl ?_
    refine p_callV (as := [vR 406]) (st := []) (a := 402) mc_Na_copyFrom mv_Na_copyFrom l_Re_74 zc_Na rfl d_Re_orderOfWork_83 rfl rfl rfl zk_402 (CV.to ?_)
    exact h
  · have h := h.2 (c1)
    refine q_aload_n d_Re_orderOfWork_20 rfl ?_
    refine q_iload d_Re_orderOfWork_21 rfl ?_
    refine q_iload_n d_Re_orderOfWork_23 rfl ?_
    refine q_iload_n d_Re_orderOfWork_24 rfl ?_
    refine p_callV (as := [vI x5, vI x2, vI x3]) (st := []) (a := a1) mc_Pr_lengthWithin mv_Pr_lengthWithin l_Re_128 zc_Pr rfl d_Re_orderOfWork_25 rfl rfl rfl k_a1 (CI.to ?_)
    exact h
theorem s_Re_orderOfWork_86 {z1 : VV} {z2 : VV} {z3 : VV} {x4 : Int} {z5 : VV} {z6 : VV}  (h : CV g M_Na_times [vR 402, vI x4] D (fun D' => Sg g M_Re_orderOfWork Q 95 [vR 391, vU, vU, vU, vI x4, vU, vU] [] D')) : Sg g M_Re_orderOfWork Q 86 [vR 391, z1, z2, z3, vI x4, z5, z6] [] D := by
  unfold Sg
  refine q_mask [false, true, true, true, false, true, true] (L' := [vR 391, vU, vU, vU, vI x4, vU, vU]) rfl ?_
  refine q_aload_n d_Re_orderOfWork_86 rfl ?_
  refine p_getR (k := 5) (b := 402) zc_Re l_Re_30 fr_Re_spare d_Re_orderOfWork_87 zk_391 rfl ?_
  refine q_iload d_Re_orderOfWork_90 rfl ?_
  refine p_callV (as := [vI x4]) (st := []) (a := 402) mc_Na_times mv_Na_times l_Re_92 zc_Na rfl d_Re_orderOfWork_92 rfl rfl rfl zk_402 (CV.to ?_)
  exact h
theorem s_Re_orderOfWork_28 {a1 : Nat} {x2 : Int} {x3 : Int} {x4 : Int} {x5 : Int} {z6 : VV} {y0 : Int} (k_a1 : zk a1 = (0, 5, 0)) (h : ((y0 ≤ 0 → Sg g M_Re_orderOfWork Q 69 [vR 391, vR a1, vI x2, vI x3, vI x4, vI x5, vI y0] [] D) ∧ (¬ y0 ≤ 0 → ((0 ≤ x5 ∧ x5 < 24)) ∧ CV g M_Na_copyFrom [vR 402, vR (409 + 2 * x5.toNat)] D (fun D' => Sg g M_Re_orderOfWork Q 49 [vR 391, vR a1, vI x2, vI x3, vI x4, vI x5, vI y0] [] D')))) : Sg g M_Re_orderOfWork Q 28 [vR 391, vR a1, vI x2, vI x3, vI x4, vI x5, z6] [vI y0] D := by
  unfold Sg
  refine q_mask [false, false, false, false, false, false, true] (L' := [vR 391, vR a1, vI x2, vI x3, vI x4, vI x5, vU]) rfl ?_
  refine q_istore d_Re_orderOfWork_28 (by decide) (L' := [vR 391, vR a1, vI x2, vI x3, vI x4, vI x5, vI y0]) rfl ?_
  refine q_iload d_Re_orderOfWork_30 rfl ?_
  refine q_if_le (tgt := 69) d_Re_orderOfWork_32 (by decide) (fun c1 => ?_) (fun c1 => ?_)
  · have h := h.1 (c1)
    exact h
  · have h := h.2 (c1)
    obtain ⟨o2, h⟩ := h
    refine q_aload_n d_Re_orderOfWork_35 rfl ?_
    refine p_getR (k := 5) (b := 402) zc_Re l_Re_30 fr_Re_spare d_Re_orderOfWork_36 zk_391 rfl ?_
    refine q_aload_n d_Re_orderOfWork_39 rfl ?_
    refine p_getR (k := 8) (b := 408) zc_Re l_Re_39 fr_Re_shares d_Re_orderOfWork_40 zk_391 rfl ?_
    refine q_iload d_Re_orderOfWork_43 rfl ?_
    refine p_aald (b := (409 + 2 * x5.toNat)) d_Re_orderOfWork_45 zk_408 (by decide) o2 rfl ?_
    refine p_callV (as := [vR (409 + 2 * x5.toNat)]) (st := []) (a := 402) mc_Na_copyFrom mv_Na_copyFrom l_Re_74 zc_Na rfl d_Re_orderOfWork_46 rfl rfl rfl zk_402 (CV.to ?_)
    exact h
theorem s_Re_orderOfWork_95 {z1 : VV} {z2 : VV} {z3 : VV} {z4 : VV} {z5 : VV} {z6 : VV}  (h : CI g M_Na_order [vR 404, vR 402] D (fun v1 D' => Sg g M_Re_orderOfWork Q 106 [vR 391, vU, vU, vU, vU, vU, vU] [vI v1] D')) : Sg g M_Re_orderOfWork Q 95 [vR 391, z1, z2, z3, z4, z5, z6] [] D := by
  unfold Sg
  refine q_mask [false, true, true, true, true, true, true] (L' := [vR 391, vU, vU, vU, vU, vU, vU]) rfl ?_
  refine q_aload_n d_Re_orderOfWork_95 rfl ?_
  refine p_getR (k := 6) (b := 404) zc_Re l_Re_33 fr_Re_sum d_Re_orderOfWork_96 zk_391 rfl ?_
  refine q_aload_n d_Re_orderOfWork_99 rfl ?_
  refine p_getR (k := 5) (b := 402) zc_Re l_Re_30 fr_Re_spare d_Re_orderOfWork_100 zk_391 rfl ?_
  refine p_callV (as := [vR 402]) (st := []) (a := 404) mc_Na_order mv_Na_order l_Re_55 zc_Na rfl d_Re_orderOfWork_103 rfl rfl rfl zk_404 (CI.to ?_)
  exact h
theorem s_Re_orderOfWork_69 {a1 : Nat} {x2 : Int} {x3 : Int} {x4 : Int} {x5 : Int} {z6 : VV} (k_a1 : zk a1 = (0, 5, 0)) (h : (R32 (x5 + 1)) ∧ Sg g M_Re_orderOfWork Q 11 [vR 391, vR a1, vI x2, vI x3, vI x4, vI (x5 + 1), vU] [] D) : Sg g M_Re_orderOfWork Q 69 [vR 391, vR a1, vI x2, vI x3, vI x4, vI x5, z6] [] D := by
  unfold Sg
  refine q_mask [false, false, false, false, false, false, true] (L' := [vR 391, vR a1, vI x2, vI x3, vI x4, vI x5, vU]) rfl ?_
  obtain ⟨o1, h⟩ := h
  refine q_iinc d_Re_orderOfWork_69 rfl (by decide) o1 (L' := [vR 391, vR a1, vI x2, vI x3, vI x4, vI (x5 + 1), vU]) rfl ?_
  refine q_goto (tgt := 11) d_Re_orderOfWork_72 (by decide) ?_
  exact h
theorem s_Re_orderOfWork_49 {a1 : Nat} {x2 : Int} {x3 : Int} {x4 : Int} {x5 : Int} {x6 : Int} (k_a1 : zk a1 = (0, 5, 0)) (h : CV g M_Na_times [vR 402, vI x6] D (fun D' => Sg g M_Re_orderOfWork Q 58 [vR 391, vR a1, vI x2, vI x3, vI x4, vI x5, vI x6] [] D')) : Sg g M_Re_orderOfWork Q 49 [vR 391, vR a1, vI x2, vI x3, vI x4, vI x5, vI x6] [] D := by
  unfold Sg
  refine q_aload_n d_Re_orderOfWork_49 rfl ?_
  refine p_getR (k := 5) (b := 402) zc_Re l_Re_30 fr_Re_spare d_Re_orderOfWork_50 zk_391 rfl ?_
  refine q_iload d_Re_orderOfWork_53 rfl ?_
  refine p_callV (as := [vI x6]) (st := []) (a := 402) mc_Na_times mv_Na_times l_Re_92 zc_Na rfl d_Re_orderOfWork_55 rfl rfl rfl zk_402 (CV.to ?_)
  exact h
theorem s_Re_orderOfWork_106 {z0 : VV} {z1 : VV} {z2 : VV} {z3 : VV} {z4 : VV} {z5 : VV} {z6 : VV} {y0 : Int}  (h : Q (some (vI y0)) zE D) : Sg g M_Re_orderOfWork Q 106 [z0, z1, z2, z3, z4, z5, z6] [vI y0] D := by
  unfold Sg
  refine q_mask [true, true, true, true, true, true, true] (L' := [vU, vU, vU, vU, vU, vU, vU]) rfl ?_
  exact q_iret d_Re_orderOfWork_106 (Or.inl rfl) ⟨Nat.le_refl _, Nat.le_refl _⟩ h
theorem s_Re_orderOfWork_58 {a1 : Nat} {x2 : Int} {x3 : Int} {x4 : Int} {x5 : Int} {z6 : VV} (k_a1 : zk a1 = (0, 5, 0)) (h : CV g M_Na_add [vR 404, vR 402] D (fun D' => Sg g M_Re_orderOfWork Q 69 [vR 391, vR a1, vI x2, vI x3, vI x4, vI x5, vU] [] D')) : Sg g M_Re_orderOfWork Q 58 [vR 391, vR a1, vI x2, vI x3, vI x4, vI x5, z6] [] D := by
  unfold Sg
  refine q_mask [false, false, false, false, false, false, true] (L' := [vR 391, vR a1, vI x2, vI x3, vI x4, vI x5, vU]) rfl ?_
  refine q_aload_n d_Re_orderOfWork_58 rfl ?_
  refine p_getR (k := 6) (b := 404) zc_Re l_Re_33 fr_Re_sum d_Re_orderOfWork_59 zk_391 rfl ?_
  refine q_aload_n d_Re_orderOfWork_62 rfl ?_
  refine p_getR (k := 5) (b := 402) zc_Re l_Re_30 fr_Re_spare d_Re_orderOfWork_63 zk_391 rfl ?_
  refine p_callV (as := [vR 402]) (st := []) (a := 404) mc_Na_add mv_Na_add l_Re_96 zc_Na rfl d_Re_orderOfWork_66 rfl rfl rfl zk_404 (CV.to ?_)
  exact h
theorem s_Re_doesEnough_0 {a1 : Nat} {x2 : Int} {x3 : Int} {x4 : Int} (k_a1 : zk a1 = (0, 5, 0)) (h : CI g M_Re_orderOfWork [vR 391, vR a1, vI x2, vI x3, vI x4] D (fun v1 D' => Sg g M_Re_doesEnough Q 9 [vR 391, vR a1, vI x2, vI x3, vI x4] [vI v1] D')) : Sg g M_Re_doesEnough Q 0 [vR 391, vR a1, vI x2, vI x3, vI x4] [] D := by
  unfold Sg
  refine q_aload_n d_Re_doesEnough_0 rfl ?_
  refine q_aload_n d_Re_doesEnough_1 rfl ?_
  refine q_iload_n d_Re_doesEnough_2 rfl ?_
  refine q_iload_n d_Re_doesEnough_3 rfl ?_
  refine q_iload d_Re_doesEnough_4 rfl ?_
  refine p_callV (as := [vR a1, vI x2, vI x3, vI x4]) (st := []) (a := 391) mc_Re_orderOfWork mv_Re_orderOfWork l_Re_132 zc_Re rfl d_Re_doesEnough_6 rfl rfl rfl zk_391 (CI.to ?_)
  exact h
theorem s_Re_doesEnough_9 {z0 : VV} {z1 : VV} {z2 : VV} {z3 : VV} {z4 : VV} {y0 : Int}  (h : ((y0 < 0 → Q (some (vI 0)) zE D) ∧ (¬ y0 < 0 → Q (some (vI 1)) zE D))) : Sg g M_Re_doesEnough Q 9 [z0, z1, z2, z3, z4] [vI y0] D := by
  unfold Sg
  refine q_mask [true, true, true, true, true] (L' := [vU, vU, vU, vU, vU]) rfl ?_
  refine q_if_lt (tgt := 16) d_Re_doesEnough_9 (by decide) (fun c1 => ?_) (fun c1 => ?_)
  · have h := h.1 (c1)
    refine q_iconst d_Re_doesEnough_16 (by decide) ?_
    exact q_iret d_Re_doesEnough_17 (Or.inr ⟨rfl, by decide⟩) ⟨Nat.le_refl _, Nat.le_refl _⟩ h
  · have h := h.2 (c1)
    refine q_iconst d_Re_doesEnough_12 (by decide) ?_
    refine q_goto (tgt := 17) d_Re_doesEnough_13 (by decide) ?_
    exact q_iret d_Re_doesEnough_17 (Or.inr ⟨rfl, by decide⟩) ⟨Nat.le_refl _, Nat.le_refl _⟩ h
theorem s_Re_doesJust_0 {a1 : Nat} {x2 : Int} (k_a1 : zk a1 = (0, 5, 0)) (h : CI g M_Re_orderOfWork [vR 391, vR a1, vI 0, vI 200, vI x2] D (fun v1 D' => Sg g M_Re_doesJust Q 10 [vR 391, vR a1, vI x2] [vI v1] D')) : Sg g M_Re_doesJust Q 0 [vR 391, vR a1, vI x2] [] D := by
  unfold Sg
  refine q_aload_n d_Re_doesJust_0 rfl ?_
  refine q_aload_n d_Re_doesJust_1 rfl ?_
  refine q_iconst d_Re_doesJust_2 (by decide) ?_
  refine q_sipush d_Re_doesJust_3 ks_200 ?_
  refine q_iload_n d_Re_doesJust_6 rfl ?_
  refine p_callV (as := [vR a1, vI 0, vI 200, vI x2]) (st := []) (a := 391) mc_Re_orderOfWork mv_Re_orderOfWork l_Re_132 zc_Re rfl d_Re_doesJust_7 rfl rfl rfl zk_391 (CI.to ?_)
  exact h
theorem s_Re_doesJust_10 {z0 : VV} {z1 : VV} {z2 : VV} {y0 : Int}  (h : ((¬ y0 = 0 → Q (some (vI 0)) zE D) ∧ (y0 = 0 → Q (some (vI 1)) zE D))) : Sg g M_Re_doesJust Q 10 [z0, z1, z2] [vI y0] D := by
  unfold Sg
  refine q_mask [true, true, true] (L' := [vU, vU, vU]) rfl ?_
  refine q_if_ne (tgt := 17) d_Re_doesJust_10 (by decide) (fun c1 => ?_) (fun c1 => ?_)
  · have h := h.1 (c1)
    refine q_iconst d_Re_doesJust_17 (by decide) ?_
    exact q_iret d_Re_doesJust_18 (Or.inr ⟨rfl, by decide⟩) ⟨Nat.le_refl _, Nat.le_refl _⟩ h
  · have h := h.2 (c1)
    refine q_iconst d_Re_doesJust_13 (by decide) ?_
    refine q_goto (tgt := 18) d_Re_doesJust_14 (by decide) ?_
    exact q_iret d_Re_doesJust_18 (Or.inr ⟨rfl, by decide⟩) ⟨Nat.le_refl _, Nat.le_refl _⟩ h
end SEG
